theorem dX0_init_0 : decode cX0_init 0 = .ok (.aload_n 0, 1) := by decide +kernel
theorem dX0_init_1 : decode cX0_init 1 = .ok (.invokespecial 3, 3) := by decide +kernel
theorem dX0_init_4 : decode cX0_init 4 = .ok (.aload_n 0, 1) := by decide +kernel
theorem dX0_init_5 : decode cX0_init 5 = .ok (.bipush 64, 2) := by decide +kernel
theorem dX0_init_7 : decode cX0_init 7 = .ok (.newarray .int, 2) := by decide +kernel
theorem dX0_init_9 : decode cX0_init 9 = .ok (.putfield 9, 3) := by decide +kernel
theorem dX0_init_12 : decode cX0_init 12 = .ok (.aload_n 0, 1) := by decide +kernel
theorem dX0_init_13 : decode cX0_init 13 = .ok (.bipush 32, 2) := by decide +kernel
theorem dX0_init_15 : decode cX0_init 15 = .ok (.newarray .int, 2) := by decide +kernel
theorem dX0_init_17 : decode cX0_init 17 = .ok (.putfield 15, 3) := by decide +kernel
theorem dX0_init_20 : decode cX0_init 20 = .ok (.aload_n 0, 1) := by decide +kernel
theorem dX0_init_21 : decode cX0_init 21 = .ok (.bipush 16, 2) := by decide +kernel
theorem dX0_init_23 : decode cX0_init 23 = .ok (.newarray .int, 2) := by decide +kernel
theorem dX0_init_25 : decode cX0_init 25 = .ok (.putfield 18, 3) := by decide +kernel
theorem dX0_init_28 : decode cX0_init 28 = .ok (.aload_n 0, 1) := by decide +kernel
theorem dX0_init_29 : decode cX0_init 29 = .ok (.aload_n 1, 1) := by decide +kernel
theorem dX0_init_30 : decode cX0_init 30 = .ok (.putfield 21, 3) := by decide +kernel
theorem dX0_init_33 : decode cX0_init 33 = .ok (.aload_n 0, 1) := by decide +kernel
theorem dX0_init_34 : decode cX0_init 34 = .ok (.aload_n 2, 1) := by decide +kernel
theorem dX0_init_35 : decode cX0_init 35 = .ok (.putfield 25, 3) := by decide +kernel
theorem dX0_init_38 : decode cX0_init 38 = .ok (.aload_n 0, 1) := by decide +kernel
theorem dX0_init_39 : decode cX0_init 39 = .ok (.aload_n 3, 1) := by decide +kernel
theorem dX0_init_40 : decode cX0_init 40 = .ok (.putfield 29, 3) := by decide +kernel
theorem dX0_init_43 : decode cX0_init 43 = .ok (.return_, 1) := by decide +kernel
theorem dX0_measure_0 : decode cX0_measure 0 = .ok (.aload_n 0, 1) := by decide +kernel
theorem dX0_measure_1 : decode cX0_measure 1 = .ok (.getfield 9, 3) := by decide +kernel
theorem dX0_measure_4 : decode cX0_measure 4 = .ok (.iconst 0, 1) := by decide +kernel
theorem dX0_measure_5 : decode cX0_measure 5 = .ok (.invokestatic 33, 3) := by decide +kernel
theorem dX0_measure_8 : decode cX0_measure 8 = .ok (.aload_n 0, 1) := by decide +kernel
theorem dX0_measure_9 : decode cX0_measure 9 = .ok (.getfield 15, 3) := by decide +kernel
theorem dX0_measure_12 : decode cX0_measure 12 = .ok (.iconst 0, 1) := by decide +kernel
theorem dX0_measure_13 : decode cX0_measure 13 = .ok (.invokestatic 33, 3) := by decide +kernel
theorem dX0_measure_16 : decode cX0_measure 16 = .ok (.aload_n 0, 1) := by decide +kernel
theorem dX0_measure_17 : decode cX0_measure 17 = .ok (.getfield 18, 3) := by decide +kernel
theorem dX0_measure_20 : decode cX0_measure 20 = .ok (.iconst 0, 1) := by decide +kernel
theorem dX0_measure_21 : decode cX0_measure 21 = .ok (.invokestatic 33, 3) := by decide +kernel
theorem dX0_measure_24 : decode cX0_measure 24 = .ok (.iconst 0, 1) := by decide +kernel
theorem dX0_measure_25 : decode cX0_measure 25 = .ok (.istore_n 1, 1) := by decide +kernel
theorem dX0_measure_26 : decode cX0_measure 26 = .ok (.iload_n 1, 1) := by decide +kernel
theorem dX0_measure_27 : decode cX0_measure 27 = .ok (.aload_n 0, 1) := by decide +kernel
theorem dX0_measure_28 : decode cX0_measure 28 = .ok (.getfield 25, 3) := by decide +kernel
theorem dX0_measure_31 : decode cX0_measure 31 = .ok (.getfield 39, 3) := by decide +kernel
theorem dX0_measure_34 : decode cX0_measure 34 = .ok (.if_icmp .ge 14, 3) := by decide +kernel
theorem dX0_measure_37 : decode cX0_measure 37 = .ok (.aload_n 0, 1) := by decide +kernel
theorem dX0_measure_38 : decode cX0_measure 38 = .ok (.iload_n 1, 1) := by decide +kernel
theorem dX0_measure_39 : decode cX0_measure 39 = .ok (.invokevirtual 45, 3) := by decide +kernel
theorem dX0_measure_42 : decode cX0_measure 42 = .ok (.iinc 1 1, 3) := by decide +kernel
theorem dX0_measure_45 : decode cX0_measure 45 = .ok (.goto (-19), 3) := by decide +kernel
theorem dX0_measure_48 : decode cX0_measure 48 = .ok (.iconst 0, 1) := by decide +kernel
theorem dX0_measure_49 : decode cX0_measure 49 = .ok (.istore_n 1, 1) := by decide +kernel
theorem dX0_measure_50 : decode cX0_measure 50 = .ok (.iload_n 1, 1) := by decide +kernel
theorem dX0_measure_51 : decode cX0_measure 51 = .ok (.aload_n 0, 1) := by decide +kernel
theorem dX0_measure_52 : decode cX0_measure 52 = .ok (.getfield 21, 3) := by decide +kernel
theorem dX0_measure_55 : decode cX0_measure 55 = .ok (.getfield 49, 3) := by decide +kernel
theorem dX0_measure_58 : decode cX0_measure 58 = .ok (.if_icmp .ge 14, 3) := by decide +kernel
theorem dX0_measure_61 : decode cX0_measure 61 = .ok (.aload_n 0, 1) := by decide +kernel
theorem dX0_measure_62 : decode cX0_measure 62 = .ok (.iload_n 1, 1) := by decide +kernel
theorem dX0_measure_63 : decode cX0_measure 63 = .ok (.invokevirtual 54, 3) := by decide +kernel
theorem dX0_measure_66 : decode cX0_measure 66 = .ok (.iinc 1 1, 3) := by decide +kernel
theorem dX0_measure_69 : decode cX0_measure 69 = .ok (.goto (-19), 3) := by decide +kernel
theorem dX0_measure_72 : decode cX0_measure 72 = .ok (.return_, 1) := by decide +kernel
theorem dX0_carryUp_0 : decode cX0_carryUp 0 = .ok (.aload_n 0, 1) := by decide +kernel
theorem dX0_carryUp_1 : decode cX0_carryUp 1 = .ok (.getfield 25, 3) := by decide +kernel
theorem dX0_carryUp_4 : decode cX0_carryUp 4 = .ok (.getfield 57, 3) := by decide +kernel
theorem dX0_carryUp_7 : decode cX0_carryUp 7 = .ok (.iload_n 1, 1) := by decide +kernel
theorem dX0_carryUp_8 : decode cX0_carryUp 8 = .ok (.iaload, 1) := by decide +kernel
theorem dX0_carryUp_9 : decode cX0_carryUp 9 = .ok (.istore_n 2, 1) := by decide +kernel
theorem dX0_carryUp_10 : decode cX0_carryUp 10 = .ok (.aload_n 0, 1) := by decide +kernel
theorem dX0_carryUp_11 : decode cX0_carryUp 11 = .ok (.getfield 29, 3) := by decide +kernel
theorem dX0_carryUp_14 : decode cX0_carryUp 14 = .ok (.iload_n 1, 1) := by decide +kernel
theorem dX0_carryUp_15 : decode cX0_carryUp 15 = .ok (.invokevirtual 60, 3) := by decide +kernel
theorem dX0_carryUp_18 : decode cX0_carryUp 18 = .ok (.istore_n 3, 1) := by decide +kernel
theorem dX0_carryUp_19 : decode cX0_carryUp 19 = .ok (.iconst 0, 1) := by decide +kernel
theorem dX0_carryUp_20 : decode cX0_carryUp 20 = .ok (.istore 4, 2) := by decide +kernel
theorem dX0_carryUp_22 : decode cX0_carryUp 22 = .ok (.iload 4, 2) := by decide +kernel
theorem dX0_carryUp_24 : decode cX0_carryUp 24 = .ok (.bipush 16, 2) := by decide +kernel
theorem dX0_carryUp_26 : decode cX0_carryUp 26 = .ok (.if_icmp .ge 72, 3) := by decide +kernel
theorem dX0_carryUp_29 : decode cX0_carryUp 29 = .ok (.iload_n 3, 1) := by decide +kernel
theorem dX0_carryUp_30 : decode cX0_carryUp 30 = .ok (.iconst (-1), 1) := by decide +kernel
theorem dX0_carryUp_31 : decode cX0_carryUp 31 = .ok (.if_icmp .eq 67, 3) := by decide +kernel
theorem dX0_carryUp_34 : decode cX0_carryUp 34 = .ok (.aload_n 0, 1) := by decide +kernel
theorem dX0_carryUp_35 : decode cX0_carryUp 35 = .ok (.iload_n 3, 1) := by decide +kernel
theorem dX0_carryUp_36 : decode cX0_carryUp 36 = .ok (.iload_n 2, 1) := by decide +kernel
theorem dX0_carryUp_37 : decode cX0_carryUp 37 = .ok (.aload_n 0, 1) := by decide +kernel
theorem dX0_carryUp_38 : decode cX0_carryUp 38 = .ok (.getfield 25, 3) := by decide +kernel
theorem dX0_carryUp_41 : decode cX0_carryUp 41 = .ok (.getfield 66, 3) := by decide +kernel
theorem dX0_carryUp_44 : decode cX0_carryUp 44 = .ok (.iload_n 1, 1) := by decide +kernel
theorem dX0_carryUp_45 : decode cX0_carryUp 45 = .ok (.iaload, 1) := by decide +kernel
theorem dX0_carryUp_46 : decode cX0_carryUp 46 = .ok (.invokevirtual 69, 3) := by decide +kernel
theorem dX0_carryUp_49 : decode cX0_carryUp 49 = .ok (.aload_n 0, 1) := by decide +kernel
theorem dX0_carryUp_50 : decode cX0_carryUp 50 = .ok (.getfield 25, 3) := by decide +kernel
theorem dX0_carryUp_53 : decode cX0_carryUp 53 = .ok (.getfield 73, 3) := by decide +kernel
theorem dX0_carryUp_56 : decode cX0_carryUp 56 = .ok (.iload_n 3, 1) := by decide +kernel
theorem dX0_carryUp_57 : decode cX0_carryUp 57 = .ok (.iconst 4, 1) := by decide +kernel
theorem dX0_carryUp_58 : decode cX0_carryUp 58 = .ok (.imul, 1) := by decide +kernel
theorem dX0_carryUp_59 : decode cX0_carryUp 59 = .ok (.iload_n 2, 1) := by decide +kernel
theorem dX0_carryUp_60 : decode cX0_carryUp 60 = .ok (.iadd, 1) := by decide +kernel
theorem dX0_carryUp_61 : decode cX0_carryUp 61 = .ok (.baload, 1) := by decide +kernel
theorem dX0_carryUp_62 : decode cX0_carryUp 62 = .ok (.ifCond .eq 20, 3) := by decide +kernel
theorem dX0_carryUp_65 : decode cX0_carryUp 65 = .ok (.iconst 0, 1) := by decide +kernel
theorem dX0_carryUp_66 : decode cX0_carryUp 66 = .ok (.istore_n 2, 1) := by decide +kernel
theorem dX0_carryUp_67 : decode cX0_carryUp 67 = .ok (.aload_n 0, 1) := by decide +kernel
theorem dX0_carryUp_68 : decode cX0_carryUp 68 = .ok (.iload_n 3, 1) := by decide +kernel
theorem dX0_carryUp_69 : decode cX0_carryUp 69 = .ok (.iload_n 2, 1) := by decide +kernel
theorem dX0_carryUp_70 : decode cX0_carryUp 70 = .ok (.aload_n 0, 1) := by decide +kernel
theorem dX0_carryUp_71 : decode cX0_carryUp 71 = .ok (.getfield 25, 3) := by decide +kernel
theorem dX0_carryUp_74 : decode cX0_carryUp 74 = .ok (.getfield 66, 3) := by decide +kernel
theorem dX0_carryUp_77 : decode cX0_carryUp 77 = .ok (.iload_n 1, 1) := by decide +kernel
theorem dX0_carryUp_78 : decode cX0_carryUp 78 = .ok (.iaload, 1) := by decide +kernel
theorem dX0_carryUp_79 : decode cX0_carryUp 79 = .ok (.invokevirtual 69, 3) := by decide +kernel
theorem dX0_carryUp_82 : decode cX0_carryUp 82 = .ok (.aload_n 0, 1) := by decide +kernel
theorem dX0_carryUp_83 : decode cX0_carryUp 83 = .ok (.getfield 25, 3) := by decide +kernel
theorem dX0_carryUp_86 : decode cX0_carryUp 86 = .ok (.getfield 77, 3) := by decide +kernel
theorem dX0_carryUp_89 : decode cX0_carryUp 89 = .ok (.iload_n 3, 1) := by decide +kernel
theorem dX0_carryUp_90 : decode cX0_carryUp 90 = .ok (.iaload, 1) := by decide +kernel
theorem dX0_carryUp_91 : decode cX0_carryUp 91 = .ok (.istore_n 3, 1) := by decide +kernel
theorem dX0_carryUp_92 : decode cX0_carryUp 92 = .ok (.iinc 4 1, 3) := by decide +kernel
theorem dX0_carryUp_95 : decode cX0_carryUp 95 = .ok (.goto (-73), 3) := by decide +kernel
theorem dX0_carryUp_98 : decode cX0_carryUp 98 = .ok (.return_, 1) := by decide +kernel
theorem dX0_need_0 : decode cX0_need 0 = .ok (.iload_n 1, 1) := by decide +kernel
theorem dX0_need_1 : decode cX0_need 1 = .ok (.iconst 4, 1) := by decide +kernel
theorem dX0_need_2 : decode cX0_need 2 = .ok (.imul, 1) := by decide +kernel
theorem dX0_need_3 : decode cX0_need 3 = .ok (.iload_n 2, 1) := by decide +kernel
theorem dX0_need_4 : decode cX0_need 4 = .ok (.iadd, 1) := by decide +kernel
theorem dX0_need_5 : decode cX0_need 5 = .ok (.istore 4, 2) := by decide +kernel
theorem dX0_need_7 : decode cX0_need 7 = .ok (.aload_n 0, 1) := by decide +kernel
theorem dX0_need_8 : decode cX0_need 8 = .ok (.getfield 9, 3) := by decide +kernel
theorem dX0_need_11 : decode cX0_need 11 = .ok (.iload 4, 2) := by decide +kernel
theorem dX0_need_13 : decode cX0_need 13 = .ok (.iaload, 1) := by decide +kernel
theorem dX0_need_14 : decode cX0_need 14 = .ok (.iload_n 3, 1) := by decide +kernel
theorem dX0_need_15 : decode cX0_need 15 = .ok (.if_icmp .ge 11, 3) := by decide +kernel
theorem dX0_need_18 : decode cX0_need 18 = .ok (.aload_n 0, 1) := by decide +kernel
theorem dX0_need_19 : decode cX0_need 19 = .ok (.getfield 9, 3) := by decide +kernel
theorem dX0_need_22 : decode cX0_need 22 = .ok (.iload 4, 2) := by decide +kernel
theorem dX0_need_24 : decode cX0_need 24 = .ok (.iload_n 3, 1) := by decide +kernel
theorem dX0_need_25 : decode cX0_need 25 = .ok (.iastore, 1) := by decide +kernel
theorem dX0_need_26 : decode cX0_need 26 = .ok (.return_, 1) := by decide +kernel
theorem dX0_addLoads_0 : decode cX0_addLoads 0 = .ok (.aload_n 0, 1) := by decide +kernel
theorem dX0_addLoads_1 : decode cX0_addLoads 1 = .ok (.getfield 29, 3) := by decide +kernel
theorem dX0_addLoads_4 : decode cX0_addLoads 4 = .ok (.iload_n 1, 1) := by decide +kernel
theorem dX0_addLoads_5 : decode cX0_addLoads 5 = .ok (.invokevirtual 80, 3) := by decide +kernel
theorem dX0_addLoads_8 : decode cX0_addLoads 8 = .ok (.istore_n 2, 1) := by decide +kernel
theorem dX0_addLoads_9 : decode cX0_addLoads 9 = .ok (.iconst 0, 1) := by decide +kernel
theorem dX0_addLoads_10 : decode cX0_addLoads 10 = .ok (.istore_n 3, 1) := by decide +kernel
theorem dX0_addLoads_11 : decode cX0_addLoads 11 = .ok (.iload_n 3, 1) := by decide +kernel
theorem dX0_addLoads_12 : decode cX0_addLoads 12 = .ok (.aload_n 0, 1) := by decide +kernel
theorem dX0_addLoads_13 : decode cX0_addLoads 13 = .ok (.getfield 21, 3) := by decide +kernel
theorem dX0_addLoads_16 : decode cX0_addLoads 16 = .ok (.getfield 83, 3) := by decide +kernel
theorem dX0_addLoads_19 : decode cX0_addLoads 19 = .ok (.if_icmp .ge 89, 3) := by decide +kernel
theorem dX0_addLoads_22 : decode cX0_addLoads 22 = .ok (.aload_n 0, 1) := by decide +kernel
theorem dX0_addLoads_23 : decode cX0_addLoads 23 = .ok (.getfield 25, 3) := by decide +kernel
theorem dX0_addLoads_26 : decode cX0_addLoads 26 = .ok (.getfield 73, 3) := by decide +kernel
theorem dX0_addLoads_29 : decode cX0_addLoads 29 = .ok (.iload_n 1, 1) := by decide +kernel
theorem dX0_addLoads_30 : decode cX0_addLoads 30 = .ok (.iconst 4, 1) := by decide +kernel
theorem dX0_addLoads_31 : decode cX0_addLoads 31 = .ok (.imul, 1) := by decide +kernel
theorem dX0_addLoads_32 : decode cX0_addLoads 32 = .ok (.iload_n 3, 1) := by decide +kernel
theorem dX0_addLoads_33 : decode cX0_addLoads 33 = .ok (.iadd, 1) := by decide +kernel
theorem dX0_addLoads_34 : decode cX0_addLoads 34 = .ok (.baload, 1) := by decide +kernel
theorem dX0_addLoads_35 : decode cX0_addLoads 35 = .ok (.ifCond .eq 35, 3) := by decide +kernel
theorem dX0_addLoads_38 : decode cX0_addLoads 38 = .ok (.aload_n 0, 1) := by decide +kernel
theorem dX0_addLoads_39 : decode cX0_addLoads 39 = .ok (.getfield 18, 3) := by decide +kernel
theorem dX0_addLoads_42 : decode cX0_addLoads 42 = .ok (.iload_n 1, 1) := by decide +kernel
theorem dX0_addLoads_43 : decode cX0_addLoads 43 = .ok (.dup2, 1) := by decide +kernel
theorem dX0_addLoads_44 : decode cX0_addLoads 44 = .ok (.iaload, 1) := by decide +kernel
theorem dX0_addLoads_45 : decode cX0_addLoads 45 = .ok (.aload_n 0, 1) := by decide +kernel
theorem dX0_addLoads_46 : decode cX0_addLoads 46 = .ok (.getfield 21, 3) := by decide +kernel
theorem dX0_addLoads_49 : decode cX0_addLoads 49 = .ok (.getfield 86, 3) := by decide +kernel
theorem dX0_addLoads_52 : decode cX0_addLoads 52 = .ok (.iload_n 3, 1) := by decide +kernel
theorem dX0_addLoads_53 : decode cX0_addLoads 53 = .ok (.iaload, 1) := by decide +kernel
theorem dX0_addLoads_54 : decode cX0_addLoads 54 = .ok (.aload_n 0, 1) := by decide +kernel
theorem dX0_addLoads_55 : decode cX0_addLoads 55 = .ok (.getfield 9, 3) := by decide +kernel
theorem dX0_addLoads_58 : decode cX0_addLoads 58 = .ok (.iload_n 1, 1) := by decide +kernel
theorem dX0_addLoads_59 : decode cX0_addLoads 59 = .ok (.iconst 4, 1) := by decide +kernel
theorem dX0_addLoads_60 : decode cX0_addLoads 60 = .ok (.imul, 1) := by decide +kernel
theorem dX0_addLoads_61 : decode cX0_addLoads 61 = .ok (.iload_n 3, 1) := by decide +kernel
theorem dX0_addLoads_62 : decode cX0_addLoads 62 = .ok (.iadd, 1) := by decide +kernel
theorem dX0_addLoads_63 : decode cX0_addLoads 63 = .ok (.iaload, 1) := by decide +kernel
theorem dX0_addLoads_64 : decode cX0_addLoads 64 = .ok (.imul, 1) := by decide +kernel
theorem dX0_addLoads_65 : decode cX0_addLoads 65 = .ok (.iadd, 1) := by decide +kernel
theorem dX0_addLoads_66 : decode cX0_addLoads 66 = .ok (.iastore, 1) := by decide +kernel
theorem dX0_addLoads_67 : decode cX0_addLoads 67 = .ok (.goto 35, 3) := by decide +kernel
theorem dX0_addLoads_70 : decode cX0_addLoads 70 = .ok (.iload_n 2, 1) := by decide +kernel
theorem dX0_addLoads_71 : decode cX0_addLoads 71 = .ok (.iconst (-1), 1) := by decide +kernel
theorem dX0_addLoads_72 : decode cX0_addLoads 72 = .ok (.if_icmp .eq 30, 3) := by decide +kernel
theorem dX0_addLoads_75 : decode cX0_addLoads 75 = .ok (.aload_n 0, 1) := by decide +kernel
theorem dX0_addLoads_76 : decode cX0_addLoads 76 = .ok (.getfield 15, 3) := by decide +kernel
theorem dX0_addLoads_79 : decode cX0_addLoads 79 = .ok (.iload_n 2, 1) := by decide +kernel
theorem dX0_addLoads_80 : decode cX0_addLoads 80 = .ok (.dup2, 1) := by decide +kernel
theorem dX0_addLoads_81 : decode cX0_addLoads 81 = .ok (.iaload, 1) := by decide +kernel
theorem dX0_addLoads_82 : decode cX0_addLoads 82 = .ok (.aload_n 0, 1) := by decide +kernel
theorem dX0_addLoads_83 : decode cX0_addLoads 83 = .ok (.getfield 21, 3) := by decide +kernel
theorem dX0_addLoads_86 : decode cX0_addLoads 86 = .ok (.iload_n 3, 1) := by decide +kernel
theorem dX0_addLoads_87 : decode cX0_addLoads 87 = .ok (.aload_n 0, 1) := by decide +kernel
theorem dX0_addLoads_88 : decode cX0_addLoads 88 = .ok (.getfield 9, 3) := by decide +kernel
theorem dX0_addLoads_91 : decode cX0_addLoads 91 = .ok (.iload_n 1, 1) := by decide +kernel
theorem dX0_addLoads_92 : decode cX0_addLoads 92 = .ok (.iconst 4, 1) := by decide +kernel
theorem dX0_addLoads_93 : decode cX0_addLoads 93 = .ok (.imul, 1) := by decide +kernel
theorem dX0_addLoads_94 : decode cX0_addLoads 94 = .ok (.iload_n 3, 1) := by decide +kernel
theorem dX0_addLoads_95 : decode cX0_addLoads 95 = .ok (.iadd, 1) := by decide +kernel
theorem dX0_addLoads_96 : decode cX0_addLoads 96 = .ok (.iaload, 1) := by decide +kernel
theorem dX0_addLoads_97 : decode cX0_addLoads 97 = .ok (.invokevirtual 89, 3) := by decide +kernel
theorem dX0_addLoads_100 : decode cX0_addLoads 100 = .ok (.iadd, 1) := by decide +kernel
theorem dX0_addLoads_101 : decode cX0_addLoads 101 = .ok (.iastore, 1) := by decide +kernel
theorem dX0_addLoads_102 : decode cX0_addLoads 102 = .ok (.iinc 3 1, 3) := by decide +kernel
theorem dX0_addLoads_105 : decode cX0_addLoads 105 = .ok (.goto (-94), 3) := by decide +kernel
theorem dX0_addLoads_108 : decode cX0_addLoads 108 = .ok (.return_, 1) := by decide +kernel
theorem dX0_asked_0 : decode cX0_asked 0 = .ok (.iload_n 1, 1) := by decide +kernel
theorem dX0_asked_1 : decode cX0_asked 1 = .ok (.iconst 4, 1) := by decide +kernel
theorem dX0_asked_2 : decode cX0_asked 2 = .ok (.imul, 1) := by decide +kernel
theorem dX0_asked_3 : decode cX0_asked 3 = .ok (.iload_n 2, 1) := by decide +kernel
theorem dX0_asked_4 : decode cX0_asked 4 = .ok (.iadd, 1) := by decide +kernel
theorem dX0_asked_5 : decode cX0_asked 5 = .ok (.istore_n 3, 1) := by decide +kernel
theorem dX0_asked_6 : decode cX0_asked 6 = .ok (.aload_n 0, 1) := by decide +kernel
theorem dX0_asked_7 : decode cX0_asked 7 = .ok (.getfield 25, 3) := by decide +kernel
theorem dX0_asked_10 : decode cX0_asked 10 = .ok (.getfield 73, 3) := by decide +kernel
theorem dX0_asked_13 : decode cX0_asked 13 = .ok (.iload_n 3, 1) := by decide +kernel
theorem dX0_asked_14 : decode cX0_asked 14 = .ok (.baload, 1) := by decide +kernel
theorem dX0_asked_15 : decode cX0_asked 15 = .ok (.ifCond .eq 7, 3) := by decide +kernel
theorem dX0_asked_18 : decode cX0_asked 18 = .ok (.iconst 0, 1) := by decide +kernel
theorem dX0_asked_19 : decode cX0_asked 19 = .ok (.goto 9, 3) := by decide +kernel
theorem dX0_asked_22 : decode cX0_asked 22 = .ok (.aload_n 0, 1) := by decide +kernel
theorem dX0_asked_23 : decode cX0_asked 23 = .ok (.getfield 9, 3) := by decide +kernel
theorem dX0_asked_26 : decode cX0_asked 26 = .ok (.iload_n 3, 1) := by decide +kernel
theorem dX0_asked_27 : decode cX0_asked 27 = .ok (.iaload, 1) := by decide +kernel
theorem dX0_asked_28 : decode cX0_asked 28 = .ok (.ireturn, 1) := by decide +kernel
theorem dX0_loadSum_0 : decode cX0_loadSum 0 = .ok (.aload_n 0, 1) := by decide +kernel
theorem dX0_loadSum_1 : decode cX0_loadSum 1 = .ok (.invokevirtual 93, 3) := by decide +kernel
theorem dX0_loadSum_4 : decode cX0_loadSum 4 = .ok (.iconst 0, 1) := by decide +kernel
theorem dX0_loadSum_5 : decode cX0_loadSum 5 = .ok (.istore_n 1, 1) := by decide +kernel
theorem dX0_loadSum_6 : decode cX0_loadSum 6 = .ok (.iconst 0, 1) := by decide +kernel
theorem dX0_loadSum_7 : decode cX0_loadSum 7 = .ok (.istore_n 2, 1) := by decide +kernel
theorem dX0_loadSum_8 : decode cX0_loadSum 8 = .ok (.iload_n 2, 1) := by decide +kernel
theorem dX0_loadSum_9 : decode cX0_loadSum 9 = .ok (.aload_n 0, 1) := by decide +kernel
theorem dX0_loadSum_10 : decode cX0_loadSum 10 = .ok (.getfield 21, 3) := by decide +kernel
theorem dX0_loadSum_13 : decode cX0_loadSum 13 = .ok (.getfield 96, 3) := by decide +kernel
theorem dX0_loadSum_16 : decode cX0_loadSum 16 = .ok (.if_icmp .ge 18, 3) := by decide +kernel
theorem dX0_loadSum_19 : decode cX0_loadSum 19 = .ok (.iload_n 1, 1) := by decide +kernel
theorem dX0_loadSum_20 : decode cX0_loadSum 20 = .ok (.aload_n 0, 1) := by decide +kernel
theorem dX0_loadSum_21 : decode cX0_loadSum 21 = .ok (.getfield 15, 3) := by decide +kernel
theorem dX0_loadSum_24 : decode cX0_loadSum 24 = .ok (.iload_n 2, 1) := by decide +kernel
theorem dX0_loadSum_25 : decode cX0_loadSum 25 = .ok (.iaload, 1) := by decide +kernel
theorem dX0_loadSum_26 : decode cX0_loadSum 26 = .ok (.iadd, 1) := by decide +kernel
theorem dX0_loadSum_27 : decode cX0_loadSum 27 = .ok (.istore_n 1, 1) := by decide +kernel
theorem dX0_loadSum_28 : decode cX0_loadSum 28 = .ok (.iinc 2 1, 3) := by decide +kernel
theorem dX0_loadSum_31 : decode cX0_loadSum 31 = .ok (.goto (-23), 3) := by decide +kernel
theorem dX0_loadSum_34 : decode cX0_loadSum 34 = .ok (.iload_n 1, 1) := by decide +kernel
theorem dX0_loadSum_35 : decode cX0_loadSum 35 = .ok (.ireturn, 1) := by decide +kernel
theorem dX0_fits_0 : decode cX0_fits 0 = .ok (.aload_n 0, 1) := by decide +kernel
theorem dX0_fits_1 : decode cX0_fits 1 = .ok (.invokevirtual 99, 3) := by decide +kernel
theorem dX0_fits_4 : decode cX0_fits 4 = .ok (.iconst (-1), 1) := by decide +kernel
theorem dX0_fits_5 : decode cX0_fits 5 = .ok (.if_icmp .ne 23, 3) := by decide +kernel
theorem dX0_fits_8 : decode cX0_fits 8 = .ok (.aload_n 0, 1) := by decide +kernel
theorem dX0_fits_9 : decode cX0_fits 9 = .ok (.invokevirtual 103, 3) := by decide +kernel
theorem dX0_fits_12 : decode cX0_fits 12 = .ok (.iconst (-1), 1) := by decide +kernel
theorem dX0_fits_13 : decode cX0_fits 13 = .ok (.if_icmp .ne 15, 3) := by decide +kernel
theorem dX0_fits_16 : decode cX0_fits 16 = .ok (.aload_n 0, 1) := by decide +kernel
theorem dX0_fits_17 : decode cX0_fits 17 = .ok (.invokevirtual 106, 3) := by decide +kernel
theorem dX0_fits_20 : decode cX0_fits 20 = .ok (.iconst (-1), 1) := by decide +kernel
theorem dX0_fits_21 : decode cX0_fits 21 = .ok (.if_icmp .ne 7, 3) := by decide +kernel
theorem dX0_fits_24 : decode cX0_fits 24 = .ok (.iconst 1, 1) := by decide +kernel
theorem dX0_fits_25 : decode cX0_fits 25 = .ok (.goto 4, 3) := by decide +kernel
theorem dX0_fits_28 : decode cX0_fits 28 = .ok (.iconst 0, 1) := by decide +kernel
theorem dX0_fits_29 : decode cX0_fits 29 = .ok (.ireturn, 1) := by decide +kernel
theorem dX0_overloadedLink_0 : decode cX0_overloadedLink 0 = .ok (.iconst 0, 1) := by decide +kernel
theorem dX0_overloadedLink_1 : decode cX0_overloadedLink 1 = .ok (.istore_n 1, 1) := by decide +kernel
theorem dX0_overloadedLink_2 : decode cX0_overloadedLink 2 = .ok (.iload_n 1, 1) := by decide +kernel
theorem dX0_overloadedLink_3 : decode cX0_overloadedLink 3 = .ok (.aload_n 0, 1) := by decide +kernel
theorem dX0_overloadedLink_4 : decode cX0_overloadedLink 4 = .ok (.getfield 21, 3) := by decide +kernel
theorem dX0_overloadedLink_7 : decode cX0_overloadedLink 7 = .ok (.getfield 96, 3) := by decide +kernel
theorem dX0_overloadedLink_10 : decode cX0_overloadedLink 10 = .ok (.if_icmp .ge 29, 3) := by decide +kernel
theorem dX0_overloadedLink_13 : decode cX0_overloadedLink 13 = .ok (.aload_n 0, 1) := by decide +kernel
theorem dX0_overloadedLink_14 : decode cX0_overloadedLink 14 = .ok (.getfield 15, 3) := by decide +kernel
theorem dX0_overloadedLink_17 : decode cX0_overloadedLink 17 = .ok (.iload_n 1, 1) := by decide +kernel
theorem dX0_overloadedLink_18 : decode cX0_overloadedLink 18 = .ok (.iaload, 1) := by decide +kernel
theorem dX0_overloadedLink_19 : decode cX0_overloadedLink 19 = .ok (.aload_n 0, 1) := by decide +kernel
theorem dX0_overloadedLink_20 : decode cX0_overloadedLink 20 = .ok (.getfield 25, 3) := by decide +kernel
theorem dX0_overloadedLink_23 : decode cX0_overloadedLink 23 = .ok (.getfield 109, 3) := by decide +kernel
theorem dX0_overloadedLink_26 : decode cX0_overloadedLink 26 = .ok (.iload_n 1, 1) := by decide +kernel
theorem dX0_overloadedLink_27 : decode cX0_overloadedLink 27 = .ok (.iaload, 1) := by decide +kernel
theorem dX0_overloadedLink_28 : decode cX0_overloadedLink 28 = .ok (.if_icmp .le 5, 3) := by decide +kernel
theorem dX0_overloadedLink_31 : decode cX0_overloadedLink 31 = .ok (.iload_n 1, 1) := by decide +kernel
theorem dX0_overloadedLink_32 : decode cX0_overloadedLink 32 = .ok (.ireturn, 1) := by decide +kernel
theorem dX0_overloadedLink_33 : decode cX0_overloadedLink 33 = .ok (.iinc 1 1, 3) := by decide +kernel
theorem dX0_overloadedLink_36 : decode cX0_overloadedLink 36 = .ok (.goto (-34), 3) := by decide +kernel
theorem dX0_overloadedLink_39 : decode cX0_overloadedLink 39 = .ok (.iconst (-1), 1) := by decide +kernel
theorem dX0_overloadedLink_40 : decode cX0_overloadedLink 40 = .ok (.ireturn, 1) := by decide +kernel
theorem dX0_overloadedNode_0 : decode cX0_overloadedNode 0 = .ok (.iconst 0, 1) := by decide +kernel
theorem dX0_overloadedNode_1 : decode cX0_overloadedNode 1 = .ok (.istore_n 1, 1) := by decide +kernel
theorem dX0_overloadedNode_2 : decode cX0_overloadedNode 2 = .ok (.iload_n 1, 1) := by decide +kernel
theorem dX0_overloadedNode_3 : decode cX0_overloadedNode 3 = .ok (.aload_n 0, 1) := by decide +kernel
theorem dX0_overloadedNode_4 : decode cX0_overloadedNode 4 = .ok (.getfield 21, 3) := by decide +kernel
theorem dX0_overloadedNode_7 : decode cX0_overloadedNode 7 = .ok (.getfield 49, 3) := by decide +kernel
theorem dX0_overloadedNode_10 : decode cX0_overloadedNode 10 = .ok (.if_icmp .ge 29, 3) := by decide +kernel
theorem dX0_overloadedNode_13 : decode cX0_overloadedNode 13 = .ok (.aload_n 0, 1) := by decide +kernel
theorem dX0_overloadedNode_14 : decode cX0_overloadedNode 14 = .ok (.getfield 18, 3) := by decide +kernel
theorem dX0_overloadedNode_17 : decode cX0_overloadedNode 17 = .ok (.iload_n 1, 1) := by decide +kernel
theorem dX0_overloadedNode_18 : decode cX0_overloadedNode 18 = .ok (.iaload, 1) := by decide +kernel
theorem dX0_overloadedNode_19 : decode cX0_overloadedNode 19 = .ok (.aload_n 0, 1) := by decide +kernel
theorem dX0_overloadedNode_20 : decode cX0_overloadedNode 20 = .ok (.getfield 21, 3) := by decide +kernel
theorem dX0_overloadedNode_23 : decode cX0_overloadedNode 23 = .ok (.getfield 112, 3) := by decide +kernel
theorem dX0_overloadedNode_26 : decode cX0_overloadedNode 26 = .ok (.iload_n 1, 1) := by decide +kernel
theorem dX0_overloadedNode_27 : decode cX0_overloadedNode 27 = .ok (.iaload, 1) := by decide +kernel
theorem dX0_overloadedNode_28 : decode cX0_overloadedNode 28 = .ok (.if_icmp .le 5, 3) := by decide +kernel
theorem dX0_overloadedNode_31 : decode cX0_overloadedNode 31 = .ok (.iload_n 1, 1) := by decide +kernel
theorem dX0_overloadedNode_32 : decode cX0_overloadedNode 32 = .ok (.ireturn, 1) := by decide +kernel
theorem dX0_overloadedNode_33 : decode cX0_overloadedNode 33 = .ok (.iinc 1 1, 3) := by decide +kernel
theorem dX0_overloadedNode_36 : decode cX0_overloadedNode 36 = .ok (.goto (-34), 3) := by decide +kernel
theorem dX0_overloadedNode_39 : decode cX0_overloadedNode 39 = .ok (.iconst (-1), 1) := by decide +kernel
theorem dX0_overloadedNode_40 : decode cX0_overloadedNode 40 = .ok (.ireturn, 1) := by decide +kernel
theorem dX0_unmadeFormat_0 : decode cX0_unmadeFormat 0 = .ok (.iconst 1, 1) := by decide +kernel
theorem dX0_unmadeFormat_1 : decode cX0_unmadeFormat 1 = .ok (.istore_n 1, 1) := by decide +kernel
theorem dX0_unmadeFormat_2 : decode cX0_unmadeFormat 2 = .ok (.iload_n 1, 1) := by decide +kernel
theorem dX0_unmadeFormat_3 : decode cX0_unmadeFormat 3 = .ok (.aload_n 0, 1) := by decide +kernel
theorem dX0_unmadeFormat_4 : decode cX0_unmadeFormat 4 = .ok (.getfield 21, 3) := by decide +kernel
theorem dX0_unmadeFormat_7 : decode cX0_unmadeFormat 7 = .ok (.getfield 83, 3) := by decide +kernel
theorem dX0_unmadeFormat_10 : decode cX0_unmadeFormat 10 = .ok (.if_icmp .ge 20, 3) := by decide +kernel
theorem dX0_unmadeFormat_13 : decode cX0_unmadeFormat 13 = .ok (.aload_n 0, 1) := by decide +kernel
theorem dX0_unmadeFormat_14 : decode cX0_unmadeFormat 14 = .ok (.iconst 0, 1) := by decide +kernel
theorem dX0_unmadeFormat_15 : decode cX0_unmadeFormat 15 = .ok (.iload_n 1, 1) := by decide +kernel
theorem dX0_unmadeFormat_16 : decode cX0_unmadeFormat 16 = .ok (.invokevirtual 115, 3) := by decide +kernel
theorem dX0_unmadeFormat_19 : decode cX0_unmadeFormat 19 = .ok (.ifCond .le 5, 3) := by decide +kernel
theorem dX0_unmadeFormat_22 : decode cX0_unmadeFormat 22 = .ok (.iload_n 1, 1) := by decide +kernel
theorem dX0_unmadeFormat_23 : decode cX0_unmadeFormat 23 = .ok (.ireturn, 1) := by decide +kernel
theorem dX0_unmadeFormat_24 : decode cX0_unmadeFormat 24 = .ok (.iinc 1 1, 3) := by decide +kernel
theorem dX0_unmadeFormat_27 : decode cX0_unmadeFormat 27 = .ok (.goto (-25), 3) := by decide +kernel
theorem dX0_unmadeFormat_30 : decode cX0_unmadeFormat 30 = .ok (.iconst (-1), 1) := by decide +kernel
theorem dX0_unmadeFormat_31 : decode cX0_unmadeFormat 31 = .ok (.ireturn, 1) := by decide +kernel
theorem dX0_busierThan_0 : decode cX0_busierThan 0 = .ok (.aload_n 0, 1) := by decide +kernel
theorem dX0_busierThan_1 : decode cX0_busierThan 1 = .ok (.iload_n 1, 1) := by decide +kernel
theorem dX0_busierThan_2 : decode cX0_busierThan 2 = .ok (.invokevirtual 118, 3) := by decide +kernel
theorem dX0_busierThan_5 : decode cX0_busierThan 5 = .ok (.istore_n 2, 1) := by decide +kernel
theorem dX0_busierThan_6 : decode cX0_busierThan 6 = .ok (.iconst 0, 1) := by decide +kernel
theorem dX0_busierThan_7 : decode cX0_busierThan 7 = .ok (.istore_n 3, 1) := by decide +kernel
theorem dX0_busierThan_8 : decode cX0_busierThan 8 = .ok (.iconst 0, 1) := by decide +kernel
theorem dX0_busierThan_9 : decode cX0_busierThan 9 = .ok (.istore 4, 2) := by decide +kernel
theorem dX0_busierThan_11 : decode cX0_busierThan 11 = .ok (.iload 4, 2) := by decide +kernel
theorem dX0_busierThan_13 : decode cX0_busierThan 13 = .ok (.aload_n 0, 1) := by decide +kernel
theorem dX0_busierThan_14 : decode cX0_busierThan 14 = .ok (.getfield 21, 3) := by decide +kernel
theorem dX0_busierThan_17 : decode cX0_busierThan 17 = .ok (.getfield 96, 3) := by decide +kernel
theorem dX0_busierThan_20 : decode cX0_busierThan 20 = .ok (.if_icmp .ge 38, 3) := by decide +kernel
theorem dX0_busierThan_23 : decode cX0_busierThan 23 = .ok (.aload_n 0, 1) := by decide +kernel
theorem dX0_busierThan_24 : decode cX0_busierThan 24 = .ok (.iload 4, 2) := by decide +kernel
theorem dX0_busierThan_26 : decode cX0_busierThan 26 = .ok (.invokevirtual 118, 3) := by decide +kernel
theorem dX0_busierThan_29 : decode cX0_busierThan 29 = .ok (.istore 5, 2) := by decide +kernel
theorem dX0_busierThan_31 : decode cX0_busierThan 31 = .ok (.iload 5, 2) := by decide +kernel
theorem dX0_busierThan_33 : decode cX0_busierThan 33 = .ok (.iload_n 2, 1) := by decide +kernel
theorem dX0_busierThan_34 : decode cX0_busierThan 34 = .ok (.if_icmp .gt 15, 3) := by decide +kernel
theorem dX0_busierThan_37 : decode cX0_busierThan 37 = .ok (.iload 5, 2) := by decide +kernel
theorem dX0_busierThan_39 : decode cX0_busierThan 39 = .ok (.iload_n 2, 1) := by decide +kernel
theorem dX0_busierThan_40 : decode cX0_busierThan 40 = .ok (.if_icmp .ne 12, 3) := by decide +kernel
theorem dX0_busierThan_43 : decode cX0_busierThan 43 = .ok (.iload 4, 2) := by decide +kernel
theorem dX0_busierThan_45 : decode cX0_busierThan 45 = .ok (.iload_n 1, 1) := by decide +kernel
theorem dX0_busierThan_46 : decode cX0_busierThan 46 = .ok (.if_icmp .ge 6, 3) := by decide +kernel
theorem dX0_busierThan_49 : decode cX0_busierThan 49 = .ok (.iinc 3 1, 3) := by decide +kernel
theorem dX0_busierThan_52 : decode cX0_busierThan 52 = .ok (.iinc 4 1, 3) := by decide +kernel
theorem dX0_busierThan_55 : decode cX0_busierThan 55 = .ok (.goto (-44), 3) := by decide +kernel
theorem dX0_busierThan_58 : decode cX0_busierThan 58 = .ok (.iload_n 3, 1) := by decide +kernel
theorem dX0_busierThan_59 : decode cX0_busierThan 59 = .ok (.ireturn, 1) := by decide +kernel
theorem dX0_utilisation_0 : decode cX0_utilisation 0 = .ok (.aload_n 0, 1) := by decide +kernel
theorem dX0_utilisation_1 : decode cX0_utilisation 1 = .ok (.getfield 25, 3) := by decide +kernel
theorem dX0_utilisation_4 : decode cX0_utilisation 4 = .ok (.getfield 109, 3) := by decide +kernel
theorem dX0_utilisation_7 : decode cX0_utilisation 7 = .ok (.iload_n 1, 1) := by decide +kernel
theorem dX0_utilisation_8 : decode cX0_utilisation 8 = .ok (.iaload, 1) := by decide +kernel
theorem dX0_utilisation_9 : decode cX0_utilisation 9 = .ok (.istore_n 2, 1) := by decide +kernel
theorem dX0_utilisation_10 : decode cX0_utilisation 10 = .ok (.iload_n 2, 1) := by decide +kernel
theorem dX0_utilisation_11 : decode cX0_utilisation 11 = .ok (.ifCond .le 18, 3) := by decide +kernel
theorem dX0_utilisation_14 : decode cX0_utilisation 14 = .ok (.aload_n 0, 1) := by decide +kernel
theorem dX0_utilisation_15 : decode cX0_utilisation 15 = .ok (.getfield 15, 3) := by decide +kernel
theorem dX0_utilisation_18 : decode cX0_utilisation 18 = .ok (.iload_n 1, 1) := by decide +kernel
theorem dX0_utilisation_19 : decode cX0_utilisation 19 = .ok (.iaload, 1) := by decide +kernel
theorem dX0_utilisation_20 : decode cX0_utilisation 20 = .ok (.sipush 1000, 3) := by decide +kernel
theorem dX0_utilisation_23 : decode cX0_utilisation 23 = .ok (.imul, 1) := by decide +kernel
theorem dX0_utilisation_24 : decode cX0_utilisation 24 = .ok (.iload_n 2, 1) := by decide +kernel
theorem dX0_utilisation_25 : decode cX0_utilisation 25 = .ok (.idiv, 1) := by decide +kernel
theorem dX0_utilisation_26 : decode cX0_utilisation 26 = .ok (.goto 4, 3) := by decide +kernel
theorem dX0_utilisation_29 : decode cX0_utilisation 29 = .ok (.iconst 0, 1) := by decide +kernel
theorem dX0_utilisation_30 : decode cX0_utilisation 30 = .ok (.ireturn, 1) := by decide +kernel
theorem dX1_init_0 : decode cX1_init 0 = .ok (.aload_n 0, 1) := by decide +kernel
theorem dX1_init_1 : decode cX1_init 1 = .ok (.invokespecial 3, 3) := by decide +kernel
theorem dX1_init_4 : decode cX1_init 4 = .ok (.aload_n 0, 1) := by decide +kernel
theorem dX1_init_5 : decode cX1_init 5 = .ok (.bipush 32, 2) := by decide +kernel
theorem dX1_init_7 : decode cX1_init 7 = .ok (.newarray .int, 2) := by decide +kernel
theorem dX1_init_9 : decode cX1_init 9 = .ok (.putfield 9, 3) := by decide +kernel
theorem dX1_init_12 : decode cX1_init 12 = .ok (.aload_n 0, 1) := by decide +kernel
theorem dX1_init_13 : decode cX1_init 13 = .ok (.bipush 16, 2) := by decide +kernel
theorem dX1_init_15 : decode cX1_init 15 = .ok (.newarray .int, 2) := by decide +kernel
theorem dX1_init_17 : decode cX1_init 17 = .ok (.putfield 15, 3) := by decide +kernel
theorem dX1_init_20 : decode cX1_init 20 = .ok (.aload_n 0, 1) := by decide +kernel
theorem dX1_init_21 : decode cX1_init 21 = .ok (.bipush 16, 2) := by decide +kernel
theorem dX1_init_23 : decode cX1_init 23 = .ok (.newarray .int, 2) := by decide +kernel
theorem dX1_init_25 : decode cX1_init 25 = .ok (.putfield 18, 3) := by decide +kernel
theorem dX1_init_28 : decode cX1_init 28 = .ok (.aload_n 0, 1) := by decide +kernel
theorem dX1_init_29 : decode cX1_init 29 = .ok (.aload_n 1, 1) := by decide +kernel
theorem dX1_init_30 : decode cX1_init 30 = .ok (.putfield 21, 3) := by decide +kernel
theorem dX1_init_33 : decode cX1_init 33 = .ok (.aload_n 0, 1) := by decide +kernel
theorem dX1_init_34 : decode cX1_init 34 = .ok (.aload_n 2, 1) := by decide +kernel
theorem dX1_init_35 : decode cX1_init 35 = .ok (.putfield 25, 3) := by decide +kernel
theorem dX1_init_38 : decode cX1_init 38 = .ok (.aload_n 0, 1) := by decide +kernel
theorem dX1_init_39 : decode cX1_init 39 = .ok (.aload_n 3, 1) := by decide +kernel
theorem dX1_init_40 : decode cX1_init 40 = .ok (.putfield 29, 3) := by decide +kernel
theorem dX1_init_43 : decode cX1_init 43 = .ok (.return_, 1) := by decide +kernel
theorem dX1_findPath_0 : decode cX1_findPath 0 = .ok (.aload_n 0, 1) := by decide +kernel
theorem dX1_findPath_1 : decode cX1_findPath 1 = .ok (.iload_n 2, 1) := by decide +kernel
theorem dX1_findPath_2 : decode cX1_findPath 2 = .ok (.invokevirtual 33, 3) := by decide +kernel
theorem dX1_findPath_5 : decode cX1_findPath 5 = .ok (.aload_n 0, 1) := by decide +kernel
theorem dX1_findPath_6 : decode cX1_findPath 6 = .ok (.getfield 15, 3) := by decide +kernel
theorem dX1_findPath_9 : decode cX1_findPath 9 = .ok (.ldc 37, 2) := by decide +kernel
theorem dX1_findPath_11 : decode cX1_findPath 11 = .ok (.invokestatic 38, 3) := by decide +kernel
theorem dX1_findPath_14 : decode cX1_findPath 14 = .ok (.aload_n 0, 1) := by decide +kernel
theorem dX1_findPath_15 : decode cX1_findPath 15 = .ok (.getfield 15, 3) := by decide +kernel
theorem dX1_findPath_18 : decode cX1_findPath 18 = .ok (.iload_n 1, 1) := by decide +kernel
theorem dX1_findPath_19 : decode cX1_findPath 19 = .ok (.iconst 0, 1) := by decide +kernel
theorem dX1_findPath_20 : decode cX1_findPath 20 = .ok (.iastore, 1) := by decide +kernel
theorem dX1_findPath_21 : decode cX1_findPath 21 = .ok (.iconst 1, 1) := by decide +kernel
theorem dX1_findPath_22 : decode cX1_findPath 22 = .ok (.istore_n 3, 1) := by decide +kernel
theorem dX1_findPath_23 : decode cX1_findPath 23 = .ok (.iconst 0, 1) := by decide +kernel
theorem dX1_findPath_24 : decode cX1_findPath 24 = .ok (.istore 4, 2) := by decide +kernel
theorem dX1_findPath_26 : decode cX1_findPath 26 = .ok (.iload 4, 2) := by decide +kernel
theorem dX1_findPath_28 : decode cX1_findPath 28 = .ok (.bipush 16, 2) := by decide +kernel
theorem dX1_findPath_30 : decode cX1_findPath 30 = .ok (.if_icmp .ge 18, 3) := by decide +kernel
theorem dX1_findPath_33 : decode cX1_findPath 33 = .ok (.iload_n 3, 1) := by decide +kernel
theorem dX1_findPath_34 : decode cX1_findPath 34 = .ok (.ifCond .eq 14, 3) := by decide +kernel
theorem dX1_findPath_37 : decode cX1_findPath 37 = .ok (.aload_n 0, 1) := by decide +kernel
theorem dX1_findPath_38 : decode cX1_findPath 38 = .ok (.invokevirtual 44, 3) := by decide +kernel
theorem dX1_findPath_41 : decode cX1_findPath 41 = .ok (.istore_n 3, 1) := by decide +kernel
theorem dX1_findPath_42 : decode cX1_findPath 42 = .ok (.iinc 4 1, 3) := by decide +kernel
theorem dX1_findPath_45 : decode cX1_findPath 45 = .ok (.goto (-19), 3) := by decide +kernel
theorem dX1_findPath_48 : decode cX1_findPath 48 = .ok (.aload_n 0, 1) := by decide +kernel
theorem dX1_findPath_49 : decode cX1_findPath 49 = .ok (.iconst 0, 1) := by decide +kernel
theorem dX1_findPath_50 : decode cX1_findPath 50 = .ok (.putfield 48, 3) := by decide +kernel
theorem dX1_findPath_53 : decode cX1_findPath 53 = .ok (.aload_n 0, 1) := by decide +kernel
theorem dX1_findPath_54 : decode cX1_findPath 54 = .ok (.invokevirtual 52, 3) := by decide +kernel
theorem dX1_findPath_57 : decode cX1_findPath 57 = .ok (.istore 4, 2) := by decide +kernel
theorem dX1_findPath_59 : decode cX1_findPath 59 = .ok (.iconst 0, 1) := by decide +kernel
theorem dX1_findPath_60 : decode cX1_findPath 60 = .ok (.istore 5, 2) := by decide +kernel
theorem dX1_findPath_62 : decode cX1_findPath 62 = .ok (.iload 5, 2) := by decide +kernel
theorem dX1_findPath_64 : decode cX1_findPath 64 = .ok (.bipush 16, 2) := by decide +kernel
theorem dX1_findPath_66 : decode cX1_findPath 66 = .ok (.if_icmp .ge 50, 3) := by decide +kernel
theorem dX1_findPath_69 : decode cX1_findPath 69 = .ok (.iload 4, 2) := by decide +kernel
theorem dX1_findPath_71 : decode cX1_findPath 71 = .ok (.iconst (-1), 1) := by decide +kernel
theorem dX1_findPath_72 : decode cX1_findPath 72 = .ok (.if_icmp .eq 44, 3) := by decide +kernel
theorem dX1_findPath_75 : decode cX1_findPath 75 = .ok (.aload_n 0, 1) := by decide +kernel
theorem dX1_findPath_76 : decode cX1_findPath 76 = .ok (.getfield 18, 3) := by decide +kernel
theorem dX1_findPath_79 : decode cX1_findPath 79 = .ok (.iload 5, 2) := by decide +kernel
theorem dX1_findPath_81 : decode cX1_findPath 81 = .ok (.iload 4, 2) := by decide +kernel
theorem dX1_findPath_83 : decode cX1_findPath 83 = .ok (.iastore, 1) := by decide +kernel
theorem dX1_findPath_84 : decode cX1_findPath 84 = .ok (.aload_n 0, 1) := by decide +kernel
theorem dX1_findPath_85 : decode cX1_findPath 85 = .ok (.iload 5, 2) := by decide +kernel
theorem dX1_findPath_87 : decode cX1_findPath 87 = .ok (.iconst 1, 1) := by decide +kernel
theorem dX1_findPath_88 : decode cX1_findPath 88 = .ok (.iadd, 1) := by decide +kernel
theorem dX1_findPath_89 : decode cX1_findPath 89 = .ok (.putfield 48, 3) := by decide +kernel
theorem dX1_findPath_92 : decode cX1_findPath 92 = .ok (.iload 4, 2) := by decide +kernel
theorem dX1_findPath_94 : decode cX1_findPath 94 = .ok (.iload_n 1, 1) := by decide +kernel
theorem dX1_findPath_95 : decode cX1_findPath 95 = .ok (.if_icmp .ne 7, 3) := by decide +kernel
theorem dX1_findPath_98 : decode cX1_findPath 98 = .ok (.iconst (-1), 1) := by decide +kernel
theorem dX1_findPath_99 : decode cX1_findPath 99 = .ok (.goto 9, 3) := by decide +kernel
theorem dX1_findPath_102 : decode cX1_findPath 102 = .ok (.aload_n 0, 1) := by decide +kernel
theorem dX1_findPath_103 : decode cX1_findPath 103 = .ok (.iload 4, 2) := by decide +kernel
theorem dX1_findPath_105 : decode cX1_findPath 105 = .ok (.invokevirtual 56, 3) := by decide +kernel
theorem dX1_findPath_108 : decode cX1_findPath 108 = .ok (.istore 4, 2) := by decide +kernel
theorem dX1_findPath_110 : decode cX1_findPath 110 = .ok (.iinc 5 1, 3) := by decide +kernel
theorem dX1_findPath_113 : decode cX1_findPath 113 = .ok (.goto (-51), 3) := by decide +kernel
theorem dX1_findPath_116 : decode cX1_findPath 116 = .ok (.aload_n 0, 1) := by decide +kernel
theorem dX1_findPath_117 : decode cX1_findPath 117 = .ok (.getfield 48, 3) := by decide +kernel
theorem dX1_findPath_120 : decode cX1_findPath 120 = .ok (.ifCond .le 7, 3) := by decide +kernel
theorem dX1_findPath_123 : decode cX1_findPath 123 = .ok (.iconst 1, 1) := by decide +kernel
theorem dX1_findPath_124 : decode cX1_findPath 124 = .ok (.goto 4, 3) := by decide +kernel
theorem dX1_findPath_127 : decode cX1_findPath 127 = .ok (.iconst 0, 1) := by decide +kernel
theorem dX1_findPath_128 : decode cX1_findPath 128 = .ok (.ireturn, 1) := by decide +kernel
theorem dX1_weighLinks_0 : decode cX1_weighLinks 0 = .ok (.iconst 0, 1) := by decide +kernel
theorem dX1_weighLinks_1 : decode cX1_weighLinks 1 = .ok (.istore_n 2, 1) := by decide +kernel
theorem dX1_weighLinks_2 : decode cX1_weighLinks 2 = .ok (.iload_n 2, 1) := by decide +kernel
theorem dX1_weighLinks_3 : decode cX1_weighLinks 3 = .ok (.aload_n 0, 1) := by decide +kernel
theorem dX1_weighLinks_4 : decode cX1_weighLinks 4 = .ok (.getfield 21, 3) := by decide +kernel
theorem dX1_weighLinks_7 : decode cX1_weighLinks 7 = .ok (.getfield 60, 3) := by decide +kernel
theorem dX1_weighLinks_10 : decode cX1_weighLinks 10 = .ok (.if_icmp .ge 69, 3) := by decide +kernel
theorem dX1_weighLinks_13 : decode cX1_weighLinks 13 = .ok (.aload_n 0, 1) := by decide +kernel
theorem dX1_weighLinks_14 : decode cX1_weighLinks 14 = .ok (.getfield 25, 3) := by decide +kernel
theorem dX1_weighLinks_17 : decode cX1_weighLinks 17 = .ok (.getfield 65, 3) := by decide +kernel
theorem dX1_weighLinks_20 : decode cX1_weighLinks 20 = .ok (.iload_n 2, 1) := by decide +kernel
theorem dX1_weighLinks_21 : decode cX1_weighLinks 21 = .ok (.baload, 1) := by decide +kernel
theorem dX1_weighLinks_22 : decode cX1_weighLinks 22 = .ok (.ifCond .eq 20, 3) := by decide +kernel
theorem dX1_weighLinks_25 : decode cX1_weighLinks 25 = .ok (.aload_n 0, 1) := by decide +kernel
theorem dX1_weighLinks_26 : decode cX1_weighLinks 26 = .ok (.getfield 25, 3) := by decide +kernel
theorem dX1_weighLinks_29 : decode cX1_weighLinks 29 = .ok (.getfield 71, 3) := by decide +kernel
theorem dX1_weighLinks_32 : decode cX1_weighLinks 32 = .ok (.iload_n 2, 1) := by decide +kernel
theorem dX1_weighLinks_33 : decode cX1_weighLinks 33 = .ok (.iaload, 1) := by decide +kernel
theorem dX1_weighLinks_34 : decode cX1_weighLinks 34 = .ok (.iload_n 1, 1) := by decide +kernel
theorem dX1_weighLinks_35 : decode cX1_weighLinks 35 = .ok (.if_icmp .lt 7, 3) := by decide +kernel
theorem dX1_weighLinks_38 : decode cX1_weighLinks 38 = .ok (.iconst 1, 1) := by decide +kernel
theorem dX1_weighLinks_39 : decode cX1_weighLinks 39 = .ok (.goto 4, 3) := by decide +kernel
theorem dX1_weighLinks_42 : decode cX1_weighLinks 42 = .ok (.iconst 0, 1) := by decide +kernel
theorem dX1_weighLinks_43 : decode cX1_weighLinks 43 = .ok (.istore_n 3, 1) := by decide +kernel
theorem dX1_weighLinks_44 : decode cX1_weighLinks 44 = .ok (.aload_n 0, 1) := by decide +kernel
theorem dX1_weighLinks_45 : decode cX1_weighLinks 45 = .ok (.getfield 9, 3) := by decide +kernel
theorem dX1_weighLinks_48 : decode cX1_weighLinks 48 = .ok (.iload_n 2, 1) := by decide +kernel
theorem dX1_weighLinks_49 : decode cX1_weighLinks 49 = .ok (.iload_n 3, 1) := by decide +kernel
theorem dX1_weighLinks_50 : decode cX1_weighLinks 50 = .ok (.ifCond .eq 20, 3) := by decide +kernel
theorem dX1_weighLinks_53 : decode cX1_weighLinks 53 = .ok (.aload_n 0, 1) := by decide +kernel
theorem dX1_weighLinks_54 : decode cX1_weighLinks 54 = .ok (.getfield 21, 3) := by decide +kernel
theorem dX1_weighLinks_57 : decode cX1_weighLinks 57 = .ok (.getfield 74, 3) := by decide +kernel
theorem dX1_weighLinks_60 : decode cX1_weighLinks 60 = .ok (.iload_n 2, 1) := by decide +kernel
theorem dX1_weighLinks_61 : decode cX1_weighLinks 61 = .ok (.iaload, 1) := by decide +kernel
theorem dX1_weighLinks_62 : decode cX1_weighLinks 62 = .ok (.bipush 64, 2) := by decide +kernel
theorem dX1_weighLinks_64 : decode cX1_weighLinks 64 = .ok (.imul, 1) := by decide +kernel
theorem dX1_weighLinks_65 : decode cX1_weighLinks 65 = .ok (.iconst 1, 1) := by decide +kernel
theorem dX1_weighLinks_66 : decode cX1_weighLinks 66 = .ok (.iadd, 1) := by decide +kernel
theorem dX1_weighLinks_67 : decode cX1_weighLinks 67 = .ok (.goto 5, 3) := by decide +kernel
theorem dX1_weighLinks_70 : decode cX1_weighLinks 70 = .ok (.ldc 37, 2) := by decide +kernel
theorem dX1_weighLinks_72 : decode cX1_weighLinks 72 = .ok (.iastore, 1) := by decide +kernel
theorem dX1_weighLinks_73 : decode cX1_weighLinks 73 = .ok (.iinc 2 1, 3) := by decide +kernel
theorem dX1_weighLinks_76 : decode cX1_weighLinks 76 = .ok (.goto (-74), 3) := by decide +kernel
theorem dX1_weighLinks_79 : decode cX1_weighLinks 79 = .ok (.return_, 1) := by decide +kernel
theorem dX1_spread_0 : decode cX1_spread 0 = .ok (.iconst 0, 1) := by decide +kernel
theorem dX1_spread_1 : decode cX1_spread 1 = .ok (.istore_n 1, 1) := by decide +kernel
theorem dX1_spread_2 : decode cX1_spread 2 = .ok (.iconst 0, 1) := by decide +kernel
theorem dX1_spread_3 : decode cX1_spread 3 = .ok (.istore_n 2, 1) := by decide +kernel
theorem dX1_spread_4 : decode cX1_spread 4 = .ok (.iload_n 2, 1) := by decide +kernel
theorem dX1_spread_5 : decode cX1_spread 5 = .ok (.aload_n 0, 1) := by decide +kernel
theorem dX1_spread_6 : decode cX1_spread 6 = .ok (.getfield 21, 3) := by decide +kernel
theorem dX1_spread_9 : decode cX1_spread 9 = .ok (.getfield 60, 3) := by decide +kernel
theorem dX1_spread_12 : decode cX1_spread 12 = .ok (.if_icmp .ge 73, 3) := by decide +kernel
theorem dX1_spread_15 : decode cX1_spread 15 = .ok (.aload_n 0, 1) := by decide +kernel
theorem dX1_spread_16 : decode cX1_spread 16 = .ok (.getfield 9, 3) := by decide +kernel
theorem dX1_spread_19 : decode cX1_spread 19 = .ok (.iload_n 2, 1) := by decide +kernel
theorem dX1_spread_20 : decode cX1_spread 20 = .ok (.iaload, 1) := by decide +kernel
theorem dX1_spread_21 : decode cX1_spread 21 = .ok (.ldc 37, 2) := by decide +kernel
theorem dX1_spread_23 : decode cX1_spread 23 = .ok (.if_icmp .ge 56, 3) := by decide +kernel
theorem dX1_spread_26 : decode cX1_spread 26 = .ok (.aload_n 0, 1) := by decide +kernel
theorem dX1_spread_27 : decode cX1_spread 27 = .ok (.getfield 21, 3) := by decide +kernel
theorem dX1_spread_30 : decode cX1_spread 30 = .ok (.getfield 77, 3) := by decide +kernel
theorem dX1_spread_33 : decode cX1_spread 33 = .ok (.iload_n 2, 1) := by decide +kernel
theorem dX1_spread_34 : decode cX1_spread 34 = .ok (.iaload, 1) := by decide +kernel
theorem dX1_spread_35 : decode cX1_spread 35 = .ok (.istore_n 3, 1) := by decide +kernel
theorem dX1_spread_36 : decode cX1_spread 36 = .ok (.aload_n 0, 1) := by decide +kernel
theorem dX1_spread_37 : decode cX1_spread 37 = .ok (.getfield 21, 3) := by decide +kernel
theorem dX1_spread_40 : decode cX1_spread 40 = .ok (.getfield 80, 3) := by decide +kernel
theorem dX1_spread_43 : decode cX1_spread 43 = .ok (.iload_n 2, 1) := by decide +kernel
theorem dX1_spread_44 : decode cX1_spread 44 = .ok (.iaload, 1) := by decide +kernel
theorem dX1_spread_45 : decode cX1_spread 45 = .ok (.istore 4, 2) := by decide +kernel
theorem dX1_spread_47 : decode cX1_spread 47 = .ok (.iload_n 1, 1) := by decide +kernel
theorem dX1_spread_48 : decode cX1_spread 48 = .ok (.aload_n 0, 1) := by decide +kernel
theorem dX1_spread_49 : decode cX1_spread 49 = .ok (.iload_n 3, 1) := by decide +kernel
theorem dX1_spread_50 : decode cX1_spread 50 = .ok (.iload 4, 2) := by decide +kernel
theorem dX1_spread_52 : decode cX1_spread 52 = .ok (.aload_n 0, 1) := by decide +kernel
theorem dX1_spread_53 : decode cX1_spread 53 = .ok (.getfield 9, 3) := by decide +kernel
theorem dX1_spread_56 : decode cX1_spread 56 = .ok (.iload_n 2, 1) := by decide +kernel
theorem dX1_spread_57 : decode cX1_spread 57 = .ok (.iaload, 1) := by decide +kernel
theorem dX1_spread_58 : decode cX1_spread 58 = .ok (.invokevirtual 83, 3) := by decide +kernel
theorem dX1_spread_61 : decode cX1_spread 61 = .ok (.ior, 1) := by decide +kernel
theorem dX1_spread_62 : decode cX1_spread 62 = .ok (.istore_n 1, 1) := by decide +kernel
theorem dX1_spread_63 : decode cX1_spread 63 = .ok (.iload_n 1, 1) := by decide +kernel
theorem dX1_spread_64 : decode cX1_spread 64 = .ok (.aload_n 0, 1) := by decide +kernel
theorem dX1_spread_65 : decode cX1_spread 65 = .ok (.iload 4, 2) := by decide +kernel
theorem dX1_spread_67 : decode cX1_spread 67 = .ok (.iload_n 3, 1) := by decide +kernel
theorem dX1_spread_68 : decode cX1_spread 68 = .ok (.aload_n 0, 1) := by decide +kernel
theorem dX1_spread_69 : decode cX1_spread 69 = .ok (.getfield 9, 3) := by decide +kernel
theorem dX1_spread_72 : decode cX1_spread 72 = .ok (.iload_n 2, 1) := by decide +kernel
theorem dX1_spread_73 : decode cX1_spread 73 = .ok (.iaload, 1) := by decide +kernel
theorem dX1_spread_74 : decode cX1_spread 74 = .ok (.invokevirtual 83, 3) := by decide +kernel
theorem dX1_spread_77 : decode cX1_spread 77 = .ok (.ior, 1) := by decide +kernel
theorem dX1_spread_78 : decode cX1_spread 78 = .ok (.istore_n 1, 1) := by decide +kernel
theorem dX1_spread_79 : decode cX1_spread 79 = .ok (.iinc 2 1, 3) := by decide +kernel
theorem dX1_spread_82 : decode cX1_spread 82 = .ok (.goto (-78), 3) := by decide +kernel
theorem dX1_spread_85 : decode cX1_spread 85 = .ok (.iload_n 1, 1) := by decide +kernel
theorem dX1_spread_86 : decode cX1_spread 86 = .ok (.ireturn, 1) := by decide +kernel
theorem dX1_shorten_0 : decode cX1_shorten 0 = .ok (.aload_n 0, 1) := by decide +kernel
theorem dX1_shorten_1 : decode cX1_shorten 1 = .ok (.getfield 25, 3) := by decide +kernel
theorem dX1_shorten_4 : decode cX1_shorten 4 = .ok (.getfield 87, 3) := by decide +kernel
theorem dX1_shorten_7 : decode cX1_shorten 7 = .ok (.iload_n 2, 1) := by decide +kernel
theorem dX1_shorten_8 : decode cX1_shorten 8 = .ok (.baload, 1) := by decide +kernel
theorem dX1_shorten_9 : decode cX1_shorten 9 = .ok (.ifCond .ne 20, 3) := by decide +kernel
theorem dX1_shorten_12 : decode cX1_shorten 12 = .ok (.aload_n 0, 1) := by decide +kernel
theorem dX1_shorten_13 : decode cX1_shorten 13 = .ok (.getfield 15, 3) := by decide +kernel
theorem dX1_shorten_16 : decode cX1_shorten 16 = .ok (.iload_n 2, 1) := by decide +kernel
theorem dX1_shorten_17 : decode cX1_shorten 17 = .ok (.iaload, 1) := by decide +kernel
theorem dX1_shorten_18 : decode cX1_shorten 18 = .ok (.iload_n 3, 1) := by decide +kernel
theorem dX1_shorten_19 : decode cX1_shorten 19 = .ok (.iadd, 1) := by decide +kernel
theorem dX1_shorten_20 : decode cX1_shorten 20 = .ok (.aload_n 0, 1) := by decide +kernel
theorem dX1_shorten_21 : decode cX1_shorten 21 = .ok (.getfield 15, 3) := by decide +kernel
theorem dX1_shorten_24 : decode cX1_shorten 24 = .ok (.iload_n 1, 1) := by decide +kernel
theorem dX1_shorten_25 : decode cX1_shorten 25 = .ok (.iaload, 1) := by decide +kernel
theorem dX1_shorten_26 : decode cX1_shorten 26 = .ok (.if_icmp .lt 5, 3) := by decide +kernel
theorem dX1_shorten_29 : decode cX1_shorten 29 = .ok (.iconst 0, 1) := by decide +kernel
theorem dX1_shorten_30 : decode cX1_shorten 30 = .ok (.ireturn, 1) := by decide +kernel
theorem dX1_shorten_31 : decode cX1_shorten 31 = .ok (.aload_n 0, 1) := by decide +kernel
theorem dX1_shorten_32 : decode cX1_shorten 32 = .ok (.getfield 15, 3) := by decide +kernel
theorem dX1_shorten_35 : decode cX1_shorten 35 = .ok (.iload_n 1, 1) := by decide +kernel
theorem dX1_shorten_36 : decode cX1_shorten 36 = .ok (.aload_n 0, 1) := by decide +kernel
theorem dX1_shorten_37 : decode cX1_shorten 37 = .ok (.getfield 15, 3) := by decide +kernel
theorem dX1_shorten_40 : decode cX1_shorten 40 = .ok (.iload_n 2, 1) := by decide +kernel
theorem dX1_shorten_41 : decode cX1_shorten 41 = .ok (.iaload, 1) := by decide +kernel
theorem dX1_shorten_42 : decode cX1_shorten 42 = .ok (.iload_n 3, 1) := by decide +kernel
theorem dX1_shorten_43 : decode cX1_shorten 43 = .ok (.iadd, 1) := by decide +kernel
theorem dX1_shorten_44 : decode cX1_shorten 44 = .ok (.iastore, 1) := by decide +kernel
theorem dX1_shorten_45 : decode cX1_shorten 45 = .ok (.iconst 1, 1) := by decide +kernel
theorem dX1_shorten_46 : decode cX1_shorten 46 = .ok (.ireturn, 1) := by decide +kernel
theorem dX1_firstNode_0 : decode cX1_firstNode 0 = .ok (.iconst (-1), 1) := by decide +kernel
theorem dX1_firstNode_1 : decode cX1_firstNode 1 = .ok (.istore_n 1, 1) := by decide +kernel
theorem dX1_firstNode_2 : decode cX1_firstNode 2 = .ok (.ldc 37, 2) := by decide +kernel
theorem dX1_firstNode_4 : decode cX1_firstNode 4 = .ok (.istore_n 2, 1) := by decide +kernel
theorem dX1_firstNode_5 : decode cX1_firstNode 5 = .ok (.iconst 0, 1) := by decide +kernel
theorem dX1_firstNode_6 : decode cX1_firstNode 6 = .ok (.istore_n 3, 1) := by decide +kernel
theorem dX1_firstNode_7 : decode cX1_firstNode 7 = .ok (.iload_n 3, 1) := by decide +kernel
theorem dX1_firstNode_8 : decode cX1_firstNode 8 = .ok (.aload_n 0, 1) := by decide +kernel
theorem dX1_firstNode_9 : decode cX1_firstNode 9 = .ok (.getfield 21, 3) := by decide +kernel
theorem dX1_firstNode_12 : decode cX1_firstNode 12 = .ok (.getfield 90, 3) := by decide +kernel
theorem dX1_firstNode_15 : decode cX1_firstNode 15 = .ok (.if_icmp .ge 63, 3) := by decide +kernel
theorem dX1_firstNode_18 : decode cX1_firstNode 18 = .ok (.aload_n 0, 1) := by decide +kernel
theorem dX1_firstNode_19 : decode cX1_firstNode 19 = .ok (.getfield 25, 3) := by decide +kernel
theorem dX1_firstNode_22 : decode cX1_firstNode 22 = .ok (.getfield 87, 3) := by decide +kernel
theorem dX1_firstNode_25 : decode cX1_firstNode 25 = .ok (.iload_n 3, 1) := by decide +kernel
theorem dX1_firstNode_26 : decode cX1_firstNode 26 = .ok (.baload, 1) := by decide +kernel
theorem dX1_firstNode_27 : decode cX1_firstNode 27 = .ok (.ifCond .eq 45, 3) := by decide +kernel
theorem dX1_firstNode_30 : decode cX1_firstNode 30 = .ok (.aload_n 0, 1) := by decide +kernel
theorem dX1_firstNode_31 : decode cX1_firstNode 31 = .ok (.getfield 15, 3) := by decide +kernel
theorem dX1_firstNode_34 : decode cX1_firstNode 34 = .ok (.iload_n 3, 1) := by decide +kernel
theorem dX1_firstNode_35 : decode cX1_firstNode 35 = .ok (.iaload, 1) := by decide +kernel
theorem dX1_firstNode_36 : decode cX1_firstNode 36 = .ok (.ldc 37, 2) := by decide +kernel
theorem dX1_firstNode_38 : decode cX1_firstNode 38 = .ok (.if_icmp .ge 34, 3) := by decide +kernel
theorem dX1_firstNode_41 : decode cX1_firstNode 41 = .ok (.aload_n 0, 1) := by decide +kernel
theorem dX1_firstNode_42 : decode cX1_firstNode 42 = .ok (.getfield 29, 3) := by decide +kernel
theorem dX1_firstNode_45 : decode cX1_firstNode 45 = .ok (.iload_n 3, 1) := by decide +kernel
theorem dX1_firstNode_46 : decode cX1_firstNode 46 = .ok (.invokevirtual 93, 3) := by decide +kernel
theorem dX1_firstNode_49 : decode cX1_firstNode 49 = .ok (.bipush 64, 2) := by decide +kernel
theorem dX1_firstNode_51 : decode cX1_firstNode 51 = .ok (.imul, 1) := by decide +kernel
theorem dX1_firstNode_52 : decode cX1_firstNode 52 = .ok (.aload_n 0, 1) := by decide +kernel
theorem dX1_firstNode_53 : decode cX1_firstNode 53 = .ok (.getfield 15, 3) := by decide +kernel
theorem dX1_firstNode_56 : decode cX1_firstNode 56 = .ok (.iload_n 3, 1) := by decide +kernel
theorem dX1_firstNode_57 : decode cX1_firstNode 57 = .ok (.iaload, 1) := by decide +kernel
theorem dX1_firstNode_58 : decode cX1_firstNode 58 = .ok (.iadd, 1) := by decide +kernel
theorem dX1_firstNode_59 : decode cX1_firstNode 59 = .ok (.istore 4, 2) := by decide +kernel
theorem dX1_firstNode_61 : decode cX1_firstNode 61 = .ok (.iload 4, 2) := by decide +kernel
theorem dX1_firstNode_63 : decode cX1_firstNode 63 = .ok (.iload_n 2, 1) := by decide +kernel
theorem dX1_firstNode_64 : decode cX1_firstNode 64 = .ok (.if_icmp .ge 8, 3) := by decide +kernel
theorem dX1_firstNode_67 : decode cX1_firstNode 67 = .ok (.iload_n 3, 1) := by decide +kernel
theorem dX1_firstNode_68 : decode cX1_firstNode 68 = .ok (.istore_n 1, 1) := by decide +kernel
theorem dX1_firstNode_69 : decode cX1_firstNode 69 = .ok (.iload 4, 2) := by decide +kernel
theorem dX1_firstNode_71 : decode cX1_firstNode 71 = .ok (.istore_n 2, 1) := by decide +kernel
theorem dX1_firstNode_72 : decode cX1_firstNode 72 = .ok (.iinc 3 1, 3) := by decide +kernel
theorem dX1_firstNode_75 : decode cX1_firstNode 75 = .ok (.goto (-68), 3) := by decide +kernel
theorem dX1_firstNode_78 : decode cX1_firstNode 78 = .ok (.iload_n 1, 1) := by decide +kernel
theorem dX1_firstNode_79 : decode cX1_firstNode 79 = .ok (.ireturn, 1) := by decide +kernel
theorem dX1_nextNode_0 : decode cX1_nextNode 0 = .ok (.iconst 0, 1) := by decide +kernel
theorem dX1_nextNode_1 : decode cX1_nextNode 1 = .ok (.istore_n 2, 1) := by decide +kernel
theorem dX1_nextNode_2 : decode cX1_nextNode 2 = .ok (.iload_n 2, 1) := by decide +kernel
theorem dX1_nextNode_3 : decode cX1_nextNode 3 = .ok (.aload_n 0, 1) := by decide +kernel
theorem dX1_nextNode_4 : decode cX1_nextNode 4 = .ok (.getfield 21, 3) := by decide +kernel
theorem dX1_nextNode_7 : decode cX1_nextNode 7 = .ok (.getfield 90, 3) := by decide +kernel
theorem dX1_nextNode_10 : decode cX1_nextNode 10 = .ok (.if_icmp .ge 65, 3) := by decide +kernel
theorem dX1_nextNode_13 : decode cX1_nextNode 13 = .ok (.aload_n 0, 1) := by decide +kernel
theorem dX1_nextNode_14 : decode cX1_nextNode 14 = .ok (.getfield 21, 3) := by decide +kernel
theorem dX1_nextNode_17 : decode cX1_nextNode 17 = .ok (.getfield 98, 3) := by decide +kernel
theorem dX1_nextNode_20 : decode cX1_nextNode 20 = .ok (.iload_n 1, 1) := by decide +kernel
theorem dX1_nextNode_21 : decode cX1_nextNode 21 = .ok (.bipush 16, 2) := by decide +kernel
theorem dX1_nextNode_23 : decode cX1_nextNode 23 = .ok (.imul, 1) := by decide +kernel
theorem dX1_nextNode_24 : decode cX1_nextNode 24 = .ok (.iload_n 2, 1) := by decide +kernel
theorem dX1_nextNode_25 : decode cX1_nextNode 25 = .ok (.iadd, 1) := by decide +kernel
theorem dX1_nextNode_26 : decode cX1_nextNode 26 = .ok (.iaload, 1) := by decide +kernel
theorem dX1_nextNode_27 : decode cX1_nextNode 27 = .ok (.istore_n 3, 1) := by decide +kernel
theorem dX1_nextNode_28 : decode cX1_nextNode 28 = .ok (.iload_n 3, 1) := by decide +kernel
theorem dX1_nextNode_29 : decode cX1_nextNode 29 = .ok (.iconst (-1), 1) := by decide +kernel
theorem dX1_nextNode_30 : decode cX1_nextNode 30 = .ok (.if_icmp .eq 39, 3) := by decide +kernel
theorem dX1_nextNode_33 : decode cX1_nextNode 33 = .ok (.aload_n 0, 1) := by decide +kernel
theorem dX1_nextNode_34 : decode cX1_nextNode 34 = .ok (.getfield 25, 3) := by decide +kernel
theorem dX1_nextNode_37 : decode cX1_nextNode 37 = .ok (.getfield 87, 3) := by decide +kernel
theorem dX1_nextNode_40 : decode cX1_nextNode 40 = .ok (.iload_n 2, 1) := by decide +kernel
theorem dX1_nextNode_41 : decode cX1_nextNode 41 = .ok (.baload, 1) := by decide +kernel
theorem dX1_nextNode_42 : decode cX1_nextNode 42 = .ok (.ifCond .ne 27, 3) := by decide +kernel
theorem dX1_nextNode_45 : decode cX1_nextNode 45 = .ok (.aload_n 0, 1) := by decide +kernel
theorem dX1_nextNode_46 : decode cX1_nextNode 46 = .ok (.getfield 15, 3) := by decide +kernel
theorem dX1_nextNode_49 : decode cX1_nextNode 49 = .ok (.iload_n 2, 1) := by decide +kernel
theorem dX1_nextNode_50 : decode cX1_nextNode 50 = .ok (.iaload, 1) := by decide +kernel
theorem dX1_nextNode_51 : decode cX1_nextNode 51 = .ok (.aload_n 0, 1) := by decide +kernel
theorem dX1_nextNode_52 : decode cX1_nextNode 52 = .ok (.getfield 9, 3) := by decide +kernel
theorem dX1_nextNode_55 : decode cX1_nextNode 55 = .ok (.iload_n 3, 1) := by decide +kernel
theorem dX1_nextNode_56 : decode cX1_nextNode 56 = .ok (.iaload, 1) := by decide +kernel
theorem dX1_nextNode_57 : decode cX1_nextNode 57 = .ok (.iadd, 1) := by decide +kernel
theorem dX1_nextNode_58 : decode cX1_nextNode 58 = .ok (.aload_n 0, 1) := by decide +kernel
theorem dX1_nextNode_59 : decode cX1_nextNode 59 = .ok (.getfield 15, 3) := by decide +kernel
theorem dX1_nextNode_62 : decode cX1_nextNode 62 = .ok (.iload_n 1, 1) := by decide +kernel
theorem dX1_nextNode_63 : decode cX1_nextNode 63 = .ok (.iaload, 1) := by decide +kernel
theorem dX1_nextNode_64 : decode cX1_nextNode 64 = .ok (.if_icmp .ne 5, 3) := by decide +kernel
theorem dX1_nextNode_67 : decode cX1_nextNode 67 = .ok (.iload_n 2, 1) := by decide +kernel
theorem dX1_nextNode_68 : decode cX1_nextNode 68 = .ok (.ireturn, 1) := by decide +kernel
theorem dX1_nextNode_69 : decode cX1_nextNode 69 = .ok (.iinc 2 1, 3) := by decide +kernel
theorem dX1_nextNode_72 : decode cX1_nextNode 72 = .ok (.goto (-70), 3) := by decide +kernel
theorem dX1_nextNode_75 : decode cX1_nextNode 75 = .ok (.iconst (-1), 1) := by decide +kernel
theorem dX1_nextNode_76 : decode cX1_nextNode 76 = .ok (.ireturn, 1) := by decide +kernel
theorem dX1_attachPath_0 : decode cX1_attachPath 0 = .ok (.iconst 1, 1) := by decide +kernel
theorem dX1_attachPath_1 : decode cX1_attachPath 1 = .ok (.istore_n 1, 1) := by decide +kernel
theorem dX1_attachPath_2 : decode cX1_attachPath 2 = .ok (.iload_n 1, 1) := by decide +kernel
theorem dX1_attachPath_3 : decode cX1_attachPath 3 = .ok (.aload_n 0, 1) := by decide +kernel
theorem dX1_attachPath_4 : decode cX1_attachPath 4 = .ok (.getfield 48, 3) := by decide +kernel
theorem dX1_attachPath_7 : decode cX1_attachPath 7 = .ok (.if_icmp .ge 30, 3) := by decide +kernel
theorem dX1_attachPath_10 : decode cX1_attachPath 10 = .ok (.aload_n 0, 1) := by decide +kernel
theorem dX1_attachPath_11 : decode cX1_attachPath 11 = .ok (.getfield 29, 3) := by decide +kernel
theorem dX1_attachPath_14 : decode cX1_attachPath 14 = .ok (.aload_n 0, 1) := by decide +kernel
theorem dX1_attachPath_15 : decode cX1_attachPath 15 = .ok (.getfield 18, 3) := by decide +kernel
theorem dX1_attachPath_18 : decode cX1_attachPath 18 = .ok (.iload_n 1, 1) := by decide +kernel
theorem dX1_attachPath_19 : decode cX1_attachPath 19 = .ok (.iaload, 1) := by decide +kernel
theorem dX1_attachPath_20 : decode cX1_attachPath 20 = .ok (.aload_n 0, 1) := by decide +kernel
theorem dX1_attachPath_21 : decode cX1_attachPath 21 = .ok (.getfield 18, 3) := by decide +kernel
theorem dX1_attachPath_24 : decode cX1_attachPath 24 = .ok (.iload_n 1, 1) := by decide +kernel
theorem dX1_attachPath_25 : decode cX1_attachPath 25 = .ok (.iconst 1, 1) := by decide +kernel
theorem dX1_attachPath_26 : decode cX1_attachPath 26 = .ok (.isub, 1) := by decide +kernel
theorem dX1_attachPath_27 : decode cX1_attachPath 27 = .ok (.iaload, 1) := by decide +kernel
theorem dX1_attachPath_28 : decode cX1_attachPath 28 = .ok (.invokevirtual 101, 3) := by decide +kernel
theorem dX1_attachPath_31 : decode cX1_attachPath 31 = .ok (.iinc 1 1, 3) := by decide +kernel
theorem dX1_attachPath_34 : decode cX1_attachPath 34 = .ok (.goto (-32), 3) := by decide +kernel
theorem dX1_attachPath_37 : decode cX1_attachPath 37 = .ok (.return_, 1) := by decide +kernel
theorem dX1_detachPath_0 : decode cX1_detachPath 0 = .ok (.iconst 1, 1) := by decide +kernel
theorem dX1_detachPath_1 : decode cX1_detachPath 1 = .ok (.istore_n 1, 1) := by decide +kernel
theorem dX1_detachPath_2 : decode cX1_detachPath 2 = .ok (.iload_n 1, 1) := by decide +kernel
theorem dX1_detachPath_3 : decode cX1_detachPath 3 = .ok (.aload_n 0, 1) := by decide +kernel
theorem dX1_detachPath_4 : decode cX1_detachPath 4 = .ok (.getfield 48, 3) := by decide +kernel
theorem dX1_detachPath_7 : decode cX1_detachPath 7 = .ok (.if_icmp .ge 22, 3) := by decide +kernel
theorem dX1_detachPath_10 : decode cX1_detachPath 10 = .ok (.aload_n 0, 1) := by decide +kernel
theorem dX1_detachPath_11 : decode cX1_detachPath 11 = .ok (.getfield 29, 3) := by decide +kernel
theorem dX1_detachPath_14 : decode cX1_detachPath 14 = .ok (.aload_n 0, 1) := by decide +kernel
theorem dX1_detachPath_15 : decode cX1_detachPath 15 = .ok (.getfield 18, 3) := by decide +kernel
theorem dX1_detachPath_18 : decode cX1_detachPath 18 = .ok (.iload_n 1, 1) := by decide +kernel
theorem dX1_detachPath_19 : decode cX1_detachPath 19 = .ok (.iaload, 1) := by decide +kernel
theorem dX1_detachPath_20 : decode cX1_detachPath 20 = .ok (.invokevirtual 105, 3) := by decide +kernel
theorem dX1_detachPath_23 : decode cX1_detachPath 23 = .ok (.iinc 1 1, 3) := by decide +kernel
theorem dX1_detachPath_26 : decode cX1_detachPath 26 = .ok (.goto (-24), 3) := by decide +kernel
theorem dX1_detachPath_29 : decode cX1_detachPath 29 = .ok (.return_, 1) := by decide +kernel
theorem dX2_init_0 : decode cX2_init 0 = .ok (.aload_n 0, 1) := by decide +kernel
theorem dX2_init_1 : decode cX2_init 1 = .ok (.invokespecial 3, 3) := by decide +kernel
theorem dX2_init_4 : decode cX2_init 4 = .ok (.aload_n 0, 1) := by decide +kernel
theorem dX2_init_5 : decode cX2_init 5 = .ok (.bipush 10, 2) := by decide +kernel
theorem dX2_init_7 : decode cX2_init 7 = .ok (.anewarray 9, 3) := by decide +kernel
theorem dX2_init_10 : decode cX2_init 10 = .ok (.putfield 11, 3) := by decide +kernel
theorem dX2_init_13 : decode cX2_init 13 = .ok (.iconst 0, 1) := by decide +kernel
theorem dX2_init_14 : decode cX2_init 14 = .ok (.istore_n 1, 1) := by decide +kernel
theorem dX2_init_15 : decode cX2_init 15 = .ok (.iload_n 1, 1) := by decide +kernel
theorem dX2_init_16 : decode cX2_init 16 = .ok (.bipush 10, 2) := by decide +kernel
theorem dX2_init_18 : decode cX2_init 18 = .ok (.if_icmp .ge 22, 3) := by decide +kernel
theorem dX2_init_21 : decode cX2_init 21 = .ok (.aload_n 0, 1) := by decide +kernel
theorem dX2_init_22 : decode cX2_init 22 = .ok (.getfield 11, 3) := by decide +kernel
theorem dX2_init_25 : decode cX2_init 25 = .ok (.iload_n 1, 1) := by decide +kernel
theorem dX2_init_26 : decode cX2_init 26 = .ok (.new 9, 3) := by decide +kernel
theorem dX2_init_29 : decode cX2_init 29 = .ok (.dup, 1) := by decide +kernel
theorem dX2_init_30 : decode cX2_init 30 = .ok (.invokespecial 17, 3) := by decide +kernel
theorem dX2_init_33 : decode cX2_init 33 = .ok (.aastore, 1) := by decide +kernel
theorem dX2_init_34 : decode cX2_init 34 = .ok (.iinc 1 1, 3) := by decide +kernel
theorem dX2_init_37 : decode cX2_init 37 = .ok (.goto (-22), 3) := by decide +kernel
theorem dX2_init_40 : decode cX2_init 40 = .ok (.return_, 1) := by decide +kernel
theorem dX2_forget_0 : decode cX2_forget 0 = .ok (.aload_n 0, 1) := by decide +kernel
theorem dX2_forget_1 : decode cX2_forget 1 = .ok (.iconst 0, 1) := by decide +kernel
theorem dX2_forget_2 : decode cX2_forget 2 = .ok (.putfield 18, 3) := by decide +kernel
theorem dX2_forget_5 : decode cX2_forget 5 = .ok (.return_, 1) := by decide +kernel
theorem dX2_keep_0 : decode cX2_keep 0 = .ok (.aload_n 0, 1) := by decide +kernel
theorem dX2_keep_1 : decode cX2_keep 1 = .ok (.getfield 11, 3) := by decide +kernel
theorem dX2_keep_4 : decode cX2_keep 4 = .ok (.aload_n 0, 1) := by decide +kernel
theorem dX2_keep_5 : decode cX2_keep 5 = .ok (.getfield 22, 3) := by decide +kernel
theorem dX2_keep_8 : decode cX2_keep 8 = .ok (.aaload, 1) := by decide +kernel
theorem dX2_keep_9 : decode cX2_keep 9 = .ok (.aload_n 1, 1) := by decide +kernel
theorem dX2_keep_10 : decode cX2_keep 10 = .ok (.invokevirtual 25, 3) := by decide +kernel
theorem dX2_keep_13 : decode cX2_keep 13 = .ok (.aload_n 0, 1) := by decide +kernel
theorem dX2_keep_14 : decode cX2_keep 14 = .ok (.aload_n 0, 1) := by decide +kernel
theorem dX2_keep_15 : decode cX2_keep 15 = .ok (.getfield 22, 3) := by decide +kernel
theorem dX2_keep_18 : decode cX2_keep 18 = .ok (.iconst 1, 1) := by decide +kernel
theorem dX2_keep_19 : decode cX2_keep 19 = .ok (.iadd, 1) := by decide +kernel
theorem dX2_keep_20 : decode cX2_keep 20 = .ok (.bipush 10, 2) := by decide +kernel
theorem dX2_keep_22 : decode cX2_keep 22 = .ok (.if_icmp .ge 12, 3) := by decide +kernel
theorem dX2_keep_25 : decode cX2_keep 25 = .ok (.aload_n 0, 1) := by decide +kernel
theorem dX2_keep_26 : decode cX2_keep 26 = .ok (.getfield 22, 3) := by decide +kernel
theorem dX2_keep_29 : decode cX2_keep 29 = .ok (.iconst 1, 1) := by decide +kernel
theorem dX2_keep_30 : decode cX2_keep 30 = .ok (.iadd, 1) := by decide +kernel
theorem dX2_keep_31 : decode cX2_keep 31 = .ok (.goto 4, 3) := by decide +kernel
theorem dX2_keep_34 : decode cX2_keep 34 = .ok (.iconst 0, 1) := by decide +kernel
theorem dX2_keep_35 : decode cX2_keep 35 = .ok (.putfield 22, 3) := by decide +kernel
theorem dX2_keep_38 : decode cX2_keep 38 = .ok (.aload_n 0, 1) := by decide +kernel
theorem dX2_keep_39 : decode cX2_keep 39 = .ok (.aload_n 0, 1) := by decide +kernel
theorem dX2_keep_40 : decode cX2_keep 40 = .ok (.getfield 18, 3) := by decide +kernel
theorem dX2_keep_43 : decode cX2_keep 43 = .ok (.iconst 1, 1) := by decide +kernel
theorem dX2_keep_44 : decode cX2_keep 44 = .ok (.iadd, 1) := by decide +kernel
theorem dX2_keep_45 : decode cX2_keep 45 = .ok (.bipush 10, 2) := by decide +kernel
theorem dX2_keep_47 : decode cX2_keep 47 = .ok (.invokestatic 29, 3) := by decide +kernel
theorem dX2_keep_50 : decode cX2_keep 50 = .ok (.putfield 18, 3) := by decide +kernel
theorem dX2_keep_53 : decode cX2_keep 53 = .ok (.return_, 1) := by decide +kernel
theorem dX2_takeBack_0 : decode cX2_takeBack 0 = .ok (.aload_n 0, 1) := by decide +kernel
theorem dX2_takeBack_1 : decode cX2_takeBack 1 = .ok (.getfield 18, 3) := by decide +kernel
theorem dX2_takeBack_4 : decode cX2_takeBack 4 = .ok (.ifCond .le 48, 3) := by decide +kernel
theorem dX2_takeBack_7 : decode cX2_takeBack 7 = .ok (.aload_n 0, 1) := by decide +kernel
theorem dX2_takeBack_8 : decode cX2_takeBack 8 = .ok (.aload_n 0, 1) := by decide +kernel
theorem dX2_takeBack_9 : decode cX2_takeBack 9 = .ok (.getfield 22, 3) := by decide +kernel
theorem dX2_takeBack_12 : decode cX2_takeBack 12 = .ok (.ifCond .le 12, 3) := by decide +kernel
theorem dX2_takeBack_15 : decode cX2_takeBack 15 = .ok (.aload_n 0, 1) := by decide +kernel
theorem dX2_takeBack_16 : decode cX2_takeBack 16 = .ok (.getfield 22, 3) := by decide +kernel
theorem dX2_takeBack_19 : decode cX2_takeBack 19 = .ok (.iconst 1, 1) := by decide +kernel
theorem dX2_takeBack_20 : decode cX2_takeBack 20 = .ok (.isub, 1) := by decide +kernel
theorem dX2_takeBack_21 : decode cX2_takeBack 21 = .ok (.goto 5, 3) := by decide +kernel
theorem dX2_takeBack_24 : decode cX2_takeBack 24 = .ok (.bipush 9, 2) := by decide +kernel
theorem dX2_takeBack_26 : decode cX2_takeBack 26 = .ok (.putfield 22, 3) := by decide +kernel
theorem dX2_takeBack_29 : decode cX2_takeBack 29 = .ok (.aload_n 0, 1) := by decide +kernel
theorem dX2_takeBack_30 : decode cX2_takeBack 30 = .ok (.dup, 1) := by decide +kernel
theorem dX2_takeBack_31 : decode cX2_takeBack 31 = .ok (.getfield 18, 3) := by decide +kernel
theorem dX2_takeBack_34 : decode cX2_takeBack 34 = .ok (.iconst 1, 1) := by decide +kernel
theorem dX2_takeBack_35 : decode cX2_takeBack 35 = .ok (.isub, 1) := by decide +kernel
theorem dX2_takeBack_36 : decode cX2_takeBack 36 = .ok (.putfield 18, 3) := by decide +kernel
theorem dX2_takeBack_39 : decode cX2_takeBack 39 = .ok (.aload_n 1, 1) := by decide +kernel
theorem dX2_takeBack_40 : decode cX2_takeBack 40 = .ok (.aload_n 0, 1) := by decide +kernel
theorem dX2_takeBack_41 : decode cX2_takeBack 41 = .ok (.getfield 11, 3) := by decide +kernel
theorem dX2_takeBack_44 : decode cX2_takeBack 44 = .ok (.aload_n 0, 1) := by decide +kernel
theorem dX2_takeBack_45 : decode cX2_takeBack 45 = .ok (.getfield 22, 3) := by decide +kernel
theorem dX2_takeBack_48 : decode cX2_takeBack 48 = .ok (.aaload, 1) := by decide +kernel
theorem dX2_takeBack_49 : decode cX2_takeBack 49 = .ok (.invokevirtual 25, 3) := by decide +kernel
theorem dX2_takeBack_52 : decode cX2_takeBack 52 = .ok (.return_, 1) := by decide +kernel
theorem dX3_init_0 : decode cX3_init 0 = .ok (.aload_n 0, 1) := by decide +kernel
theorem dX3_init_1 : decode cX3_init 1 = .ok (.invokespecial 3, 3) := by decide +kernel
theorem dX3_init_4 : decode cX3_init 4 = .ok (.aload_n 0, 1) := by decide +kernel
theorem dX3_init_5 : decode cX3_init 5 = .ok (.sipush 176, 3) := by decide +kernel
theorem dX3_init_8 : decode cX3_init 8 = .ok (.newarray .int, 2) := by decide +kernel
theorem dX3_init_10 : decode cX3_init 10 = .ok (.putfield 11, 3) := by decide +kernel
theorem dX3_init_13 : decode cX3_init 13 = .ok (.aload_n 0, 1) := by decide +kernel
theorem dX3_init_14 : decode cX3_init 14 = .ok (.aload_n 1, 1) := by decide +kernel
theorem dX3_init_15 : decode cX3_init 15 = .ok (.putfield 15, 3) := by decide +kernel
theorem dX3_init_18 : decode cX3_init 18 = .ok (.aload_n 0, 1) := by decide +kernel
theorem dX3_init_19 : decode cX3_init 19 = .ok (.aload_n 2, 1) := by decide +kernel
theorem dX3_init_20 : decode cX3_init 20 = .ok (.putfield 19, 3) := by decide +kernel
theorem dX3_init_23 : decode cX3_init 23 = .ok (.aload_n 0, 1) := by decide +kernel
theorem dX3_init_24 : decode cX3_init 24 = .ok (.aload_n 3, 1) := by decide +kernel
theorem dX3_init_25 : decode cX3_init 25 = .ok (.putfield 23, 3) := by decide +kernel
theorem dX3_init_28 : decode cX3_init 28 = .ok (.return_, 1) := by decide +kernel
theorem dX3_write_0 : decode cX3_write 0 = .ok (.aload_n 0, 1) := by decide +kernel
theorem dX3_write_1 : decode cX3_write 1 = .ok (.getfield 23, 3) := by decide +kernel
theorem dX3_write_4 : decode cX3_write 4 = .ok (.invokevirtual 27, 3) := by decide +kernel
theorem dX3_write_7 : decode cX3_write 7 = .ok (.aload_n 0, 1) := by decide +kernel
theorem dX3_write_8 : decode cX3_write 8 = .ok (.iconst 0, 1) := by decide +kernel
theorem dX3_write_9 : decode cX3_write 9 = .ok (.putfield 32, 3) := by decide +kernel
theorem dX3_write_12 : decode cX3_write 12 = .ok (.iconst 1, 1) := by decide +kernel
theorem dX3_write_13 : decode cX3_write 13 = .ok (.istore_n 1, 1) := by decide +kernel
theorem dX3_write_14 : decode cX3_write 14 = .ok (.iload_n 1, 1) := by decide +kernel
theorem dX3_write_15 : decode cX3_write 15 = .ok (.aload_n 0, 1) := by decide +kernel
theorem dX3_write_16 : decode cX3_write 16 = .ok (.getfield 15, 3) := by decide +kernel
theorem dX3_write_19 : decode cX3_write 19 = .ok (.getfield 36, 3) := by decide +kernel
theorem dX3_write_22 : decode cX3_write 22 = .ok (.if_icmp .ge 26, 3) := by decide +kernel
theorem dX3_write_25 : decode cX3_write 25 = .ok (.aload_n 0, 1) := by decide +kernel
theorem dX3_write_26 : decode cX3_write 26 = .ok (.getfield 19, 3) := by decide +kernel
theorem dX3_write_29 : decode cX3_write 29 = .ok (.getfield 41, 3) := by decide +kernel
theorem dX3_write_32 : decode cX3_write 32 = .ok (.iload_n 1, 1) := by decide +kernel
theorem dX3_write_33 : decode cX3_write 33 = .ok (.baload, 1) := by decide +kernel
theorem dX3_write_34 : decode cX3_write 34 = .ok (.ifCond .eq 8, 3) := by decide +kernel
theorem dX3_write_37 : decode cX3_write 37 = .ok (.aload_n 0, 1) := by decide +kernel
theorem dX3_write_38 : decode cX3_write 38 = .ok (.iload_n 1, 1) := by decide +kernel
theorem dX3_write_39 : decode cX3_write 39 = .ok (.invokevirtual 47, 3) := by decide +kernel
theorem dX3_write_42 : decode cX3_write 42 = .ok (.iinc 1 1, 3) := by decide +kernel
theorem dX3_write_45 : decode cX3_write 45 = .ok (.goto (-31), 3) := by decide +kernel
theorem dX3_write_48 : decode cX3_write 48 = .ok (.return_, 1) := by decide +kernel
theorem dX3_writeLine_0 : decode cX3_writeLine 0 = .ok (.aload_n 0, 1) := by decide +kernel
theorem dX3_writeLine_1 : decode cX3_writeLine 1 = .ok (.iload_n 1, 1) := by decide +kernel
theorem dX3_writeLine_2 : decode cX3_writeLine 2 = .ok (.invokevirtual 51, 3) := by decide +kernel
theorem dX3_writeLine_5 : decode cX3_writeLine 5 = .ok (.aload_n 0, 1) := by decide +kernel
theorem dX3_writeLine_6 : decode cX3_writeLine 6 = .ok (.bipush 32, 2) := by decide +kernel
theorem dX3_writeLine_8 : decode cX3_writeLine 8 = .ok (.invokevirtual 54, 3) := by decide +kernel
theorem dX3_writeLine_11 : decode cX3_writeLine 11 = .ok (.aload_n 0, 1) := by decide +kernel
theorem dX3_writeLine_12 : decode cX3_writeLine 12 = .ok (.aload_n 0, 1) := by decide +kernel
theorem dX3_writeLine_13 : decode cX3_writeLine 13 = .ok (.getfield 19, 3) := by decide +kernel
theorem dX3_writeLine_16 : decode cX3_writeLine 16 = .ok (.getfield 57, 3) := by decide +kernel
theorem dX3_writeLine_19 : decode cX3_writeLine 19 = .ok (.iload_n 1, 1) := by decide +kernel
theorem dX3_writeLine_20 : decode cX3_writeLine 20 = .ok (.iaload, 1) := by decide +kernel
theorem dX3_writeLine_21 : decode cX3_writeLine 21 = .ok (.invokevirtual 51, 3) := by decide +kernel
theorem dX3_writeLine_24 : decode cX3_writeLine 24 = .ok (.aload_n 0, 1) := by decide +kernel
theorem dX3_writeLine_25 : decode cX3_writeLine 25 = .ok (.bipush 32, 2) := by decide +kernel
theorem dX3_writeLine_27 : decode cX3_writeLine 27 = .ok (.invokevirtual 54, 3) := by decide +kernel
theorem dX3_writeLine_30 : decode cX3_writeLine 30 = .ok (.iconst 0, 1) := by decide +kernel
theorem dX3_writeLine_31 : decode cX3_writeLine 31 = .ok (.istore_n 2, 1) := by decide +kernel
theorem dX3_writeLine_32 : decode cX3_writeLine 32 = .ok (.iload_n 2, 1) := by decide +kernel
theorem dX3_writeLine_33 : decode cX3_writeLine 33 = .ok (.aload_n 0, 1) := by decide +kernel
theorem dX3_writeLine_34 : decode cX3_writeLine 34 = .ok (.getfield 15, 3) := by decide +kernel
theorem dX3_writeLine_37 : decode cX3_writeLine 37 = .ok (.getfield 60, 3) := by decide +kernel
theorem dX3_writeLine_40 : decode cX3_writeLine 40 = .ok (.if_icmp .ge 22, 3) := by decide +kernel
theorem dX3_writeLine_43 : decode cX3_writeLine 43 = .ok (.aload_n 0, 1) := by decide +kernel
theorem dX3_writeLine_44 : decode cX3_writeLine 44 = .ok (.aload_n 0, 1) := by decide +kernel
theorem dX3_writeLine_45 : decode cX3_writeLine 45 = .ok (.getfield 23, 3) := by decide +kernel
theorem dX3_writeLine_48 : decode cX3_writeLine 48 = .ok (.iload_n 1, 1) := by decide +kernel
theorem dX3_writeLine_49 : decode cX3_writeLine 49 = .ok (.iload_n 2, 1) := by decide +kernel
theorem dX3_writeLine_50 : decode cX3_writeLine 50 = .ok (.invokevirtual 63, 3) := by decide +kernel
theorem dX3_writeLine_53 : decode cX3_writeLine 53 = .ok (.invokevirtual 51, 3) := by decide +kernel
theorem dX3_writeLine_56 : decode cX3_writeLine 56 = .ok (.iinc 2 1, 3) := by decide +kernel
theorem dX3_writeLine_59 : decode cX3_writeLine 59 = .ok (.goto (-27), 3) := by decide +kernel
theorem dX3_writeLine_62 : decode cX3_writeLine 62 = .ok (.aload_n 0, 1) := by decide +kernel
theorem dX3_writeLine_63 : decode cX3_writeLine 63 = .ok (.bipush 10, 2) := by decide +kernel
theorem dX3_writeLine_65 : decode cX3_writeLine 65 = .ok (.invokevirtual 54, 3) := by decide +kernel
theorem dX3_writeLine_68 : decode cX3_writeLine 68 = .ok (.return_, 1) := by decide +kernel
theorem dX3_putNumber_0 : decode cX3_putNumber 0 = .ok (.iload_n 1, 1) := by decide +kernel
theorem dX3_putNumber_1 : decode cX3_putNumber 1 = .ok (.bipush 10, 2) := by decide +kernel
theorem dX3_putNumber_3 : decode cX3_putNumber 3 = .ok (.if_icmp .lt 14, 3) := by decide +kernel
theorem dX3_putNumber_6 : decode cX3_putNumber 6 = .ok (.aload_n 0, 1) := by decide +kernel
theorem dX3_putNumber_7 : decode cX3_putNumber 7 = .ok (.bipush 48, 2) := by decide +kernel
theorem dX3_putNumber_9 : decode cX3_putNumber 9 = .ok (.iload_n 1, 1) := by decide +kernel
theorem dX3_putNumber_10 : decode cX3_putNumber 10 = .ok (.bipush 10, 2) := by decide +kernel
theorem dX3_putNumber_12 : decode cX3_putNumber 12 = .ok (.idiv, 1) := by decide +kernel
theorem dX3_putNumber_13 : decode cX3_putNumber 13 = .ok (.iadd, 1) := by decide +kernel
theorem dX3_putNumber_14 : decode cX3_putNumber 14 = .ok (.invokevirtual 54, 3) := by decide +kernel
theorem dX3_putNumber_17 : decode cX3_putNumber 17 = .ok (.aload_n 0, 1) := by decide +kernel
theorem dX3_putNumber_18 : decode cX3_putNumber 18 = .ok (.bipush 48, 2) := by decide +kernel
theorem dX3_putNumber_20 : decode cX3_putNumber 20 = .ok (.iload_n 1, 1) := by decide +kernel
theorem dX3_putNumber_21 : decode cX3_putNumber 21 = .ok (.bipush 10, 2) := by decide +kernel
theorem dX3_putNumber_23 : decode cX3_putNumber 23 = .ok (.irem, 1) := by decide +kernel
theorem dX3_putNumber_24 : decode cX3_putNumber 24 = .ok (.iadd, 1) := by decide +kernel
theorem dX3_putNumber_25 : decode cX3_putNumber 25 = .ok (.invokevirtual 54, 3) := by decide +kernel
theorem dX3_putNumber_28 : decode cX3_putNumber 28 = .ok (.return_, 1) := by decide +kernel
theorem dX3_put_0 : decode cX3_put 0 = .ok (.aload_n 0, 1) := by decide +kernel
theorem dX3_put_1 : decode cX3_put 1 = .ok (.getfield 32, 3) := by decide +kernel
theorem dX3_put_4 : decode cX3_put 4 = .ok (.aload_n 0, 1) := by decide +kernel
theorem dX3_put_5 : decode cX3_put 5 = .ok (.getfield 11, 3) := by decide +kernel
theorem dX3_put_8 : decode cX3_put 8 = .ok (.arraylength, 1) := by decide +kernel
theorem dX3_put_9 : decode cX3_put 9 = .ok (.if_icmp .ge 23, 3) := by decide +kernel
theorem dX3_put_12 : decode cX3_put 12 = .ok (.aload_n 0, 1) := by decide +kernel
theorem dX3_put_13 : decode cX3_put 13 = .ok (.getfield 11, 3) := by decide +kernel
theorem dX3_put_16 : decode cX3_put 16 = .ok (.aload_n 0, 1) := by decide +kernel
theorem dX3_put_17 : decode cX3_put 17 = .ok (.getfield 32, 3) := by decide +kernel
theorem dX3_put_20 : decode cX3_put 20 = .ok (.iload_n 1, 1) := by decide +kernel
theorem dX3_put_21 : decode cX3_put 21 = .ok (.iastore, 1) := by decide +kernel
theorem dX3_put_22 : decode cX3_put 22 = .ok (.aload_n 0, 1) := by decide +kernel
theorem dX3_put_23 : decode cX3_put 23 = .ok (.dup, 1) := by decide +kernel
theorem dX3_put_24 : decode cX3_put 24 = .ok (.getfield 32, 3) := by decide +kernel
theorem dX3_put_27 : decode cX3_put 27 = .ok (.iconst 1, 1) := by decide +kernel
theorem dX3_put_28 : decode cX3_put 28 = .ok (.iadd, 1) := by decide +kernel
theorem dX3_put_29 : decode cX3_put 29 = .ok (.putfield 32, 3) := by decide +kernel
theorem dX3_put_32 : decode cX3_put 32 = .ok (.return_, 1) := by decide +kernel
theorem dX4_init_0 : decode cX4_init 0 = .ok (.aload_n 0, 1) := by decide +kernel
theorem dX4_init_1 : decode cX4_init 1 = .ok (.invokespecial 3, 3) := by decide +kernel
theorem dX4_init_4 : decode cX4_init 4 = .ok (.aload_n 0, 1) := by decide +kernel
theorem dX4_init_5 : decode cX4_init 5 = .ok (.bipush 32, 2) := by decide +kernel
theorem dX4_init_7 : decode cX4_init 7 = .ok (.newarray .int, 2) := by decide +kernel
theorem dX4_init_9 : decode cX4_init 9 = .ok (.putfield 9, 3) := by decide +kernel
theorem dX4_init_12 : decode cX4_init 12 = .ok (.aload_n 0, 1) := by decide +kernel
theorem dX4_init_13 : decode cX4_init 13 = .ok (.bipush 32, 2) := by decide +kernel
theorem dX4_init_15 : decode cX4_init 15 = .ok (.newarray .int, 2) := by decide +kernel
theorem dX4_init_17 : decode cX4_init 17 = .ok (.putfield 15, 3) := by decide +kernel
theorem dX4_init_20 : decode cX4_init 20 = .ok (.aload_n 0, 1) := by decide +kernel
theorem dX4_init_21 : decode cX4_init 21 = .ok (.bipush 32, 2) := by decide +kernel
theorem dX4_init_23 : decode cX4_init 23 = .ok (.newarray .int, 2) := by decide +kernel
theorem dX4_init_25 : decode cX4_init 25 = .ok (.putfield 18, 3) := by decide +kernel
theorem dX4_init_28 : decode cX4_init 28 = .ok (.aload_n 0, 1) := by decide +kernel
theorem dX4_init_29 : decode cX4_init 29 = .ok (.bipush 32, 2) := by decide +kernel
theorem dX4_init_31 : decode cX4_init 31 = .ok (.newarray .int, 2) := by decide +kernel
theorem dX4_init_33 : decode cX4_init 33 = .ok (.putfield 21, 3) := by decide +kernel
theorem dX4_init_36 : decode cX4_init 36 = .ok (.aload_n 0, 1) := by decide +kernel
theorem dX4_init_37 : decode cX4_init 37 = .ok (.sipush 256, 3) := by decide +kernel
theorem dX4_init_40 : decode cX4_init 40 = .ok (.newarray .int, 2) := by decide +kernel
theorem dX4_init_42 : decode cX4_init 42 = .ok (.putfield 24, 3) := by decide +kernel
theorem dX4_init_45 : decode cX4_init 45 = .ok (.aload_n 0, 1) := by decide +kernel
theorem dX4_init_46 : decode cX4_init 46 = .ok (.bipush 16, 2) := by decide +kernel
theorem dX4_init_48 : decode cX4_init 48 = .ok (.newarray .int, 2) := by decide +kernel
theorem dX4_init_50 : decode cX4_init 50 = .ok (.putfield 27, 3) := by decide +kernel
theorem dX4_init_53 : decode cX4_init 53 = .ok (.aload_n 0, 1) := by decide +kernel
theorem dX4_init_54 : decode cX4_init 54 = .ok (.iconst 4, 1) := by decide +kernel
theorem dX4_init_55 : decode cX4_init 55 = .ok (.newarray .int, 2) := by decide +kernel
theorem dX4_init_57 : decode cX4_init 57 = .ok (.putfield 30, 3) := by decide +kernel
theorem dX4_init_60 : decode cX4_init 60 = .ok (.aload_n 0, 1) := by decide +kernel
theorem dX4_init_61 : decode cX4_init 61 = .ok (.bipush 24, 2) := by decide +kernel
theorem dX4_init_63 : decode cX4_init 63 = .ok (.newarray .int, 2) := by decide +kernel
theorem dX4_init_65 : decode cX4_init 65 = .ok (.putfield 33, 3) := by decide +kernel
theorem dX4_init_68 : decode cX4_init 68 = .ok (.return_, 1) := by decide +kernel
theorem dX4_clear_0 : decode cX4_clear 0 = .ok (.aload_n 0, 1) := by decide +kernel
theorem dX4_clear_1 : decode cX4_clear 1 = .ok (.iconst 0, 1) := by decide +kernel
theorem dX4_clear_2 : decode cX4_clear 2 = .ok (.putfield 36, 3) := by decide +kernel
theorem dX4_clear_5 : decode cX4_clear 5 = .ok (.aload_n 0, 1) := by decide +kernel
theorem dX4_clear_6 : decode cX4_clear 6 = .ok (.iconst 0, 1) := by decide +kernel
theorem dX4_clear_7 : decode cX4_clear 7 = .ok (.putfield 40, 3) := by decide +kernel
theorem dX4_clear_10 : decode cX4_clear 10 = .ok (.aload_n 0, 1) := by decide +kernel
theorem dX4_clear_11 : decode cX4_clear 11 = .ok (.iconst 0, 1) := by decide +kernel
theorem dX4_clear_12 : decode cX4_clear 12 = .ok (.putfield 43, 3) := by decide +kernel
theorem dX4_clear_15 : decode cX4_clear 15 = .ok (.aload_n 0, 1) := by decide +kernel
theorem dX4_clear_16 : decode cX4_clear 16 = .ok (.iconst 0, 1) := by decide +kernel
theorem dX4_clear_17 : decode cX4_clear 17 = .ok (.putfield 46, 3) := by decide +kernel
theorem dX4_clear_20 : decode cX4_clear 20 = .ok (.aload_n 0, 1) := by decide +kernel
theorem dX4_clear_21 : decode cX4_clear 21 = .ok (.getfield 24, 3) := by decide +kernel
theorem dX4_clear_24 : decode cX4_clear 24 = .ok (.iconst (-1), 1) := by decide +kernel
theorem dX4_clear_25 : decode cX4_clear 25 = .ok (.invokestatic 49, 3) := by decide +kernel
theorem dX4_clear_28 : decode cX4_clear 28 = .ok (.aload_n 0, 1) := by decide +kernel
theorem dX4_clear_29 : decode cX4_clear 29 = .ok (.getfield 27, 3) := by decide +kernel
theorem dX4_clear_32 : decode cX4_clear 32 = .ok (.iconst 0, 1) := by decide +kernel
theorem dX4_clear_33 : decode cX4_clear 33 = .ok (.invokestatic 49, 3) := by decide +kernel
theorem dX4_clear_36 : decode cX4_clear 36 = .ok (.return_, 1) := by decide +kernel
theorem dX4_makeSmallest_0 : decode cX4_makeSmallest 0 = .ok (.aload_n 0, 1) := by decide +kernel
theorem dX4_makeSmallest_1 : decode cX4_makeSmallest 1 = .ok (.invokevirtual 55, 3) := by decide +kernel
theorem dX4_makeSmallest_4 : decode cX4_makeSmallest 4 = .ok (.aload_n 0, 1) := by decide +kernel
theorem dX4_makeSmallest_5 : decode cX4_makeSmallest 5 = .ok (.iconst 2, 1) := by decide +kernel
theorem dX4_makeSmallest_6 : decode cX4_makeSmallest 6 = .ok (.putfield 36, 3) := by decide +kernel
theorem dX4_makeSmallest_9 : decode cX4_makeSmallest 9 = .ok (.aload_n 0, 1) := by decide +kernel
theorem dX4_makeSmallest_10 : decode cX4_makeSmallest 10 = .ok (.iconst 1, 1) := by decide +kernel
theorem dX4_makeSmallest_11 : decode cX4_makeSmallest 11 = .ok (.putfield 43, 3) := by decide +kernel
theorem dX4_makeSmallest_14 : decode cX4_makeSmallest 14 = .ok (.aload_n 0, 1) := by decide +kernel
theorem dX4_makeSmallest_15 : decode cX4_makeSmallest 15 = .ok (.iconst 1, 1) := by decide +kernel
theorem dX4_makeSmallest_16 : decode cX4_makeSmallest 16 = .ok (.putfield 46, 3) := by decide +kernel
theorem dX4_makeSmallest_19 : decode cX4_makeSmallest 19 = .ok (.aload_n 0, 1) := by decide +kernel
theorem dX4_makeSmallest_20 : decode cX4_makeSmallest 20 = .ok (.iconst 0, 1) := by decide +kernel
theorem dX4_makeSmallest_21 : decode cX4_makeSmallest 21 = .ok (.iconst 1, 1) := by decide +kernel
theorem dX4_makeSmallest_22 : decode cX4_makeSmallest 22 = .ok (.iconst 1, 1) := by decide +kernel
theorem dX4_makeSmallest_23 : decode cX4_makeSmallest 23 = .ok (.invokevirtual 58, 3) := by decide +kernel
theorem dX4_makeSmallest_26 : decode cX4_makeSmallest 26 = .ok (.return_, 1) := by decide +kernel
theorem dX4_copyFrom_0 : decode cX4_copyFrom 0 = .ok (.aload_n 0, 1) := by decide +kernel
theorem dX4_copyFrom_1 : decode cX4_copyFrom 1 = .ok (.aload_n 1, 1) := by decide +kernel
theorem dX4_copyFrom_2 : decode cX4_copyFrom 2 = .ok (.getfield 36, 3) := by decide +kernel
theorem dX4_copyFrom_5 : decode cX4_copyFrom 5 = .ok (.putfield 36, 3) := by decide +kernel
theorem dX4_copyFrom_8 : decode cX4_copyFrom 8 = .ok (.aload_n 0, 1) := by decide +kernel
theorem dX4_copyFrom_9 : decode cX4_copyFrom 9 = .ok (.aload_n 1, 1) := by decide +kernel
theorem dX4_copyFrom_10 : decode cX4_copyFrom 10 = .ok (.getfield 40, 3) := by decide +kernel
theorem dX4_copyFrom_13 : decode cX4_copyFrom 13 = .ok (.putfield 40, 3) := by decide +kernel
theorem dX4_copyFrom_16 : decode cX4_copyFrom 16 = .ok (.aload_n 0, 1) := by decide +kernel
theorem dX4_copyFrom_17 : decode cX4_copyFrom 17 = .ok (.aload_n 1, 1) := by decide +kernel
theorem dX4_copyFrom_18 : decode cX4_copyFrom 18 = .ok (.getfield 43, 3) := by decide +kernel
theorem dX4_copyFrom_21 : decode cX4_copyFrom 21 = .ok (.putfield 43, 3) := by decide +kernel
theorem dX4_copyFrom_24 : decode cX4_copyFrom 24 = .ok (.aload_n 0, 1) := by decide +kernel
theorem dX4_copyFrom_25 : decode cX4_copyFrom 25 = .ok (.aload_n 1, 1) := by decide +kernel
theorem dX4_copyFrom_26 : decode cX4_copyFrom 26 = .ok (.getfield 46, 3) := by decide +kernel
theorem dX4_copyFrom_29 : decode cX4_copyFrom 29 = .ok (.putfield 46, 3) := by decide +kernel
theorem dX4_copyFrom_32 : decode cX4_copyFrom 32 = .ok (.aload_n 1, 1) := by decide +kernel
theorem dX4_copyFrom_33 : decode cX4_copyFrom 33 = .ok (.getfield 9, 3) := by decide +kernel
theorem dX4_copyFrom_36 : decode cX4_copyFrom 36 = .ok (.iconst 0, 1) := by decide +kernel
theorem dX4_copyFrom_37 : decode cX4_copyFrom 37 = .ok (.aload_n 0, 1) := by decide +kernel
theorem dX4_copyFrom_38 : decode cX4_copyFrom 38 = .ok (.getfield 9, 3) := by decide +kernel
theorem dX4_copyFrom_41 : decode cX4_copyFrom 41 = .ok (.iconst 0, 1) := by decide +kernel
theorem dX4_copyFrom_42 : decode cX4_copyFrom 42 = .ok (.bipush 32, 2) := by decide +kernel
theorem dX4_copyFrom_44 : decode cX4_copyFrom 44 = .ok (.invokestatic 62, 3) := by decide +kernel
theorem dX4_copyFrom_47 : decode cX4_copyFrom 47 = .ok (.aload_n 1, 1) := by decide +kernel
theorem dX4_copyFrom_48 : decode cX4_copyFrom 48 = .ok (.getfield 15, 3) := by decide +kernel
theorem dX4_copyFrom_51 : decode cX4_copyFrom 51 = .ok (.iconst 0, 1) := by decide +kernel
theorem dX4_copyFrom_52 : decode cX4_copyFrom 52 = .ok (.aload_n 0, 1) := by decide +kernel
theorem dX4_copyFrom_53 : decode cX4_copyFrom 53 = .ok (.getfield 15, 3) := by decide +kernel
theorem dX4_copyFrom_56 : decode cX4_copyFrom 56 = .ok (.iconst 0, 1) := by decide +kernel
theorem dX4_copyFrom_57 : decode cX4_copyFrom 57 = .ok (.bipush 32, 2) := by decide +kernel
theorem dX4_copyFrom_59 : decode cX4_copyFrom 59 = .ok (.invokestatic 62, 3) := by decide +kernel
theorem dX4_copyFrom_62 : decode cX4_copyFrom 62 = .ok (.aload_n 1, 1) := by decide +kernel
theorem dX4_copyFrom_63 : decode cX4_copyFrom 63 = .ok (.getfield 18, 3) := by decide +kernel
theorem dX4_copyFrom_66 : decode cX4_copyFrom 66 = .ok (.iconst 0, 1) := by decide +kernel
theorem dX4_copyFrom_67 : decode cX4_copyFrom 67 = .ok (.aload_n 0, 1) := by decide +kernel
theorem dX4_copyFrom_68 : decode cX4_copyFrom 68 = .ok (.getfield 18, 3) := by decide +kernel
theorem dX4_copyFrom_71 : decode cX4_copyFrom 71 = .ok (.iconst 0, 1) := by decide +kernel
theorem dX4_copyFrom_72 : decode cX4_copyFrom 72 = .ok (.bipush 32, 2) := by decide +kernel
theorem dX4_copyFrom_74 : decode cX4_copyFrom 74 = .ok (.invokestatic 62, 3) := by decide +kernel
theorem dX4_copyFrom_77 : decode cX4_copyFrom 77 = .ok (.aload_n 1, 1) := by decide +kernel
theorem dX4_copyFrom_78 : decode cX4_copyFrom 78 = .ok (.getfield 21, 3) := by decide +kernel
theorem dX4_copyFrom_81 : decode cX4_copyFrom 81 = .ok (.iconst 0, 1) := by decide +kernel
theorem dX4_copyFrom_82 : decode cX4_copyFrom 82 = .ok (.aload_n 0, 1) := by decide +kernel
theorem dX4_copyFrom_83 : decode cX4_copyFrom 83 = .ok (.getfield 21, 3) := by decide +kernel
theorem dX4_copyFrom_86 : decode cX4_copyFrom 86 = .ok (.iconst 0, 1) := by decide +kernel
theorem dX4_copyFrom_87 : decode cX4_copyFrom 87 = .ok (.bipush 32, 2) := by decide +kernel
theorem dX4_copyFrom_89 : decode cX4_copyFrom 89 = .ok (.invokestatic 62, 3) := by decide +kernel
theorem dX4_copyFrom_92 : decode cX4_copyFrom 92 = .ok (.aload_n 1, 1) := by decide +kernel
theorem dX4_copyFrom_93 : decode cX4_copyFrom 93 = .ok (.getfield 24, 3) := by decide +kernel
theorem dX4_copyFrom_96 : decode cX4_copyFrom 96 = .ok (.iconst 0, 1) := by decide +kernel
theorem dX4_copyFrom_97 : decode cX4_copyFrom 97 = .ok (.aload_n 0, 1) := by decide +kernel
theorem dX4_copyFrom_98 : decode cX4_copyFrom 98 = .ok (.getfield 24, 3) := by decide +kernel
theorem dX4_copyFrom_101 : decode cX4_copyFrom 101 = .ok (.iconst 0, 1) := by decide +kernel
theorem dX4_copyFrom_102 : decode cX4_copyFrom 102 = .ok (.aload_n 0, 1) := by decide +kernel
theorem dX4_copyFrom_103 : decode cX4_copyFrom 103 = .ok (.getfield 24, 3) := by decide +kernel
theorem dX4_copyFrom_106 : decode cX4_copyFrom 106 = .ok (.arraylength, 1) := by decide +kernel
theorem dX4_copyFrom_107 : decode cX4_copyFrom 107 = .ok (.invokestatic 62, 3) := by decide +kernel
theorem dX4_copyFrom_110 : decode cX4_copyFrom 110 = .ok (.aload_n 1, 1) := by decide +kernel
theorem dX4_copyFrom_111 : decode cX4_copyFrom 111 = .ok (.getfield 27, 3) := by decide +kernel
theorem dX4_copyFrom_114 : decode cX4_copyFrom 114 = .ok (.iconst 0, 1) := by decide +kernel
theorem dX4_copyFrom_115 : decode cX4_copyFrom 115 = .ok (.aload_n 0, 1) := by decide +kernel
theorem dX4_copyFrom_116 : decode cX4_copyFrom 116 = .ok (.getfield 27, 3) := by decide +kernel
theorem dX4_copyFrom_119 : decode cX4_copyFrom 119 = .ok (.iconst 0, 1) := by decide +kernel
theorem dX4_copyFrom_120 : decode cX4_copyFrom 120 = .ok (.bipush 16, 2) := by decide +kernel
theorem dX4_copyFrom_122 : decode cX4_copyFrom 122 = .ok (.invokestatic 62, 3) := by decide +kernel
theorem dX4_copyFrom_125 : decode cX4_copyFrom 125 = .ok (.aload_n 1, 1) := by decide +kernel
theorem dX4_copyFrom_126 : decode cX4_copyFrom 126 = .ok (.getfield 30, 3) := by decide +kernel
theorem dX4_copyFrom_129 : decode cX4_copyFrom 129 = .ok (.iconst 0, 1) := by decide +kernel
theorem dX4_copyFrom_130 : decode cX4_copyFrom 130 = .ok (.aload_n 0, 1) := by decide +kernel
theorem dX4_copyFrom_131 : decode cX4_copyFrom 131 = .ok (.getfield 30, 3) := by decide +kernel
theorem dX4_copyFrom_134 : decode cX4_copyFrom 134 = .ok (.iconst 0, 1) := by decide +kernel
theorem dX4_copyFrom_135 : decode cX4_copyFrom 135 = .ok (.iconst 4, 1) := by decide +kernel
theorem dX4_copyFrom_136 : decode cX4_copyFrom 136 = .ok (.invokestatic 62, 3) := by decide +kernel
theorem dX4_copyFrom_139 : decode cX4_copyFrom 139 = .ok (.aload_n 1, 1) := by decide +kernel
theorem dX4_copyFrom_140 : decode cX4_copyFrom 140 = .ok (.getfield 33, 3) := by decide +kernel
theorem dX4_copyFrom_143 : decode cX4_copyFrom 143 = .ok (.iconst 0, 1) := by decide +kernel
theorem dX4_copyFrom_144 : decode cX4_copyFrom 144 = .ok (.aload_n 0, 1) := by decide +kernel
theorem dX4_copyFrom_145 : decode cX4_copyFrom 145 = .ok (.getfield 33, 3) := by decide +kernel
theorem dX4_copyFrom_148 : decode cX4_copyFrom 148 = .ok (.iconst 0, 1) := by decide +kernel
theorem dX4_copyFrom_149 : decode cX4_copyFrom 149 = .ok (.aload_n 0, 1) := by decide +kernel
theorem dX4_copyFrom_150 : decode cX4_copyFrom 150 = .ok (.getfield 33, 3) := by decide +kernel
theorem dX4_copyFrom_153 : decode cX4_copyFrom 153 = .ok (.arraylength, 1) := by decide +kernel
theorem dX4_copyFrom_154 : decode cX4_copyFrom 154 = .ok (.invokestatic 62, 3) := by decide +kernel
theorem dX4_copyFrom_157 : decode cX4_copyFrom 157 = .ok (.return_, 1) := by decide +kernel
theorem dX4_putLink_0 : decode cX4_putLink 0 = .ok (.aload_n 0, 1) := by decide +kernel
theorem dX4_putLink_1 : decode cX4_putLink 1 = .ok (.getfield 9, 3) := by decide +kernel
theorem dX4_putLink_4 : decode cX4_putLink 4 = .ok (.aload_n 0, 1) := by decide +kernel
theorem dX4_putLink_5 : decode cX4_putLink 5 = .ok (.getfield 40, 3) := by decide +kernel
theorem dX4_putLink_8 : decode cX4_putLink 8 = .ok (.iload_n 1, 1) := by decide +kernel
theorem dX4_putLink_9 : decode cX4_putLink 9 = .ok (.iastore, 1) := by decide +kernel
theorem dX4_putLink_10 : decode cX4_putLink 10 = .ok (.aload_n 0, 1) := by decide +kernel
theorem dX4_putLink_11 : decode cX4_putLink 11 = .ok (.getfield 15, 3) := by decide +kernel
theorem dX4_putLink_14 : decode cX4_putLink 14 = .ok (.aload_n 0, 1) := by decide +kernel
theorem dX4_putLink_15 : decode cX4_putLink 15 = .ok (.getfield 40, 3) := by decide +kernel
theorem dX4_putLink_18 : decode cX4_putLink 18 = .ok (.iload_n 2, 1) := by decide +kernel
theorem dX4_putLink_19 : decode cX4_putLink 19 = .ok (.iastore, 1) := by decide +kernel
theorem dX4_putLink_20 : decode cX4_putLink 20 = .ok (.aload_n 0, 1) := by decide +kernel
theorem dX4_putLink_21 : decode cX4_putLink 21 = .ok (.getfield 18, 3) := by decide +kernel
theorem dX4_putLink_24 : decode cX4_putLink 24 = .ok (.aload_n 0, 1) := by decide +kernel
theorem dX4_putLink_25 : decode cX4_putLink 25 = .ok (.getfield 40, 3) := by decide +kernel
theorem dX4_putLink_28 : decode cX4_putLink 28 = .ok (.iload_n 3, 1) := by decide +kernel
theorem dX4_putLink_29 : decode cX4_putLink 29 = .ok (.iastore, 1) := by decide +kernel
theorem dX4_putLink_30 : decode cX4_putLink 30 = .ok (.aload_n 0, 1) := by decide +kernel
theorem dX4_putLink_31 : decode cX4_putLink 31 = .ok (.getfield 21, 3) := by decide +kernel
theorem dX4_putLink_34 : decode cX4_putLink 34 = .ok (.aload_n 0, 1) := by decide +kernel
theorem dX4_putLink_35 : decode cX4_putLink 35 = .ok (.getfield 40, 3) := by decide +kernel
theorem dX4_putLink_38 : decode cX4_putLink 38 = .ok (.iload 4, 2) := by decide +kernel
theorem dX4_putLink_40 : decode cX4_putLink 40 = .ok (.iastore, 1) := by decide +kernel
theorem dX4_putLink_41 : decode cX4_putLink 41 = .ok (.aload_n 0, 1) := by decide +kernel
theorem dX4_putLink_42 : decode cX4_putLink 42 = .ok (.getfield 24, 3) := by decide +kernel
theorem dX4_putLink_45 : decode cX4_putLink 45 = .ok (.iload_n 1, 1) := by decide +kernel
theorem dX4_putLink_46 : decode cX4_putLink 46 = .ok (.bipush 16, 2) := by decide +kernel
theorem dX4_putLink_48 : decode cX4_putLink 48 = .ok (.imul, 1) := by decide +kernel
theorem dX4_putLink_49 : decode cX4_putLink 49 = .ok (.iload_n 2, 1) := by decide +kernel
theorem dX4_putLink_50 : decode cX4_putLink 50 = .ok (.iadd, 1) := by decide +kernel
theorem dX4_putLink_51 : decode cX4_putLink 51 = .ok (.aload_n 0, 1) := by decide +kernel
theorem dX4_putLink_52 : decode cX4_putLink 52 = .ok (.getfield 40, 3) := by decide +kernel
theorem dX4_putLink_55 : decode cX4_putLink 55 = .ok (.iastore, 1) := by decide +kernel
theorem dX4_putLink_56 : decode cX4_putLink 56 = .ok (.aload_n 0, 1) := by decide +kernel
theorem dX4_putLink_57 : decode cX4_putLink 57 = .ok (.getfield 24, 3) := by decide +kernel
theorem dX4_putLink_60 : decode cX4_putLink 60 = .ok (.iload_n 2, 1) := by decide +kernel
theorem dX4_putLink_61 : decode cX4_putLink 61 = .ok (.bipush 16, 2) := by decide +kernel
theorem dX4_putLink_63 : decode cX4_putLink 63 = .ok (.imul, 1) := by decide +kernel
theorem dX4_putLink_64 : decode cX4_putLink 64 = .ok (.iload_n 1, 1) := by decide +kernel
theorem dX4_putLink_65 : decode cX4_putLink 65 = .ok (.iadd, 1) := by decide +kernel
theorem dX4_putLink_66 : decode cX4_putLink 66 = .ok (.aload_n 0, 1) := by decide +kernel
theorem dX4_putLink_67 : decode cX4_putLink 67 = .ok (.getfield 40, 3) := by decide +kernel
theorem dX4_putLink_70 : decode cX4_putLink 70 = .ok (.iastore, 1) := by decide +kernel
theorem dX4_putLink_71 : decode cX4_putLink 71 = .ok (.aload_n 0, 1) := by decide +kernel
theorem dX4_putLink_72 : decode cX4_putLink 72 = .ok (.dup, 1) := by decide +kernel
theorem dX4_putLink_73 : decode cX4_putLink 73 = .ok (.getfield 40, 3) := by decide +kernel
theorem dX4_putLink_76 : decode cX4_putLink 76 = .ok (.iconst 1, 1) := by decide +kernel
theorem dX4_putLink_77 : decode cX4_putLink 77 = .ok (.iadd, 1) := by decide +kernel
theorem dX4_putLink_78 : decode cX4_putLink 78 = .ok (.putfield 40, 3) := by decide +kernel
theorem dX4_putLink_81 : decode cX4_putLink 81 = .ok (.return_, 1) := by decide +kernel
theorem dX4_putRate_0 : decode cX4_putRate 0 = .ok (.iload_n 1, 1) := by decide +kernel
theorem dX4_putRate_1 : decode cX4_putRate 1 = .ok (.bipush 6, 2) := by decide +kernel
theorem dX4_putRate_3 : decode cX4_putRate 3 = .ok (.imul, 1) := by decide +kernel
theorem dX4_putRate_4 : decode cX4_putRate 4 = .ok (.iload_n 2, 1) := by decide +kernel
theorem dX4_putRate_5 : decode cX4_putRate 5 = .ok (.iadd, 1) := by decide +kernel
theorem dX4_putRate_6 : decode cX4_putRate 6 = .ok (.istore 4, 2) := by decide +kernel
theorem dX4_putRate_8 : decode cX4_putRate 8 = .ok (.aload_n 0, 1) := by decide +kernel
theorem dX4_putRate_9 : decode cX4_putRate 9 = .ok (.getfield 33, 3) := by decide +kernel
theorem dX4_putRate_12 : decode cX4_putRate 12 = .ok (.iload 4, 2) := by decide +kernel
theorem dX4_putRate_14 : decode cX4_putRate 14 = .ok (.aload_n 0, 1) := by decide +kernel
theorem dX4_putRate_15 : decode cX4_putRate 15 = .ok (.getfield 33, 3) := by decide +kernel
theorem dX4_putRate_18 : decode cX4_putRate 18 = .ok (.iload 4, 2) := by decide +kernel
theorem dX4_putRate_20 : decode cX4_putRate 20 = .ok (.iconst 1, 1) := by decide +kernel
theorem dX4_putRate_21 : decode cX4_putRate 21 = .ok (.isub, 1) := by decide +kernel
theorem dX4_putRate_22 : decode cX4_putRate 22 = .ok (.iaload, 1) := by decide +kernel
theorem dX4_putRate_23 : decode cX4_putRate 23 = .ok (.iload_n 3, 1) := by decide +kernel
theorem dX4_putRate_24 : decode cX4_putRate 24 = .ok (.iadd, 1) := by decide +kernel
theorem dX4_putRate_25 : decode cX4_putRate 25 = .ok (.iastore, 1) := by decide +kernel
theorem dX4_putRate_26 : decode cX4_putRate 26 = .ok (.return_, 1) := by decide +kernel
theorem dX4_rateOf_0 : decode cX4_rateOf 0 = .ok (.aload_n 0, 1) := by decide +kernel
theorem dX4_rateOf_1 : decode cX4_rateOf 1 = .ok (.getfield 33, 3) := by decide +kernel
theorem dX4_rateOf_4 : decode cX4_rateOf 4 = .ok (.iload_n 1, 1) := by decide +kernel
theorem dX4_rateOf_5 : decode cX4_rateOf 5 = .ok (.bipush 6, 2) := by decide +kernel
theorem dX4_rateOf_7 : decode cX4_rateOf 7 = .ok (.imul, 1) := by decide +kernel
theorem dX4_rateOf_8 : decode cX4_rateOf 8 = .ok (.iload_n 2, 1) := by decide +kernel
theorem dX4_rateOf_9 : decode cX4_rateOf 9 = .ok (.iadd, 1) := by decide +kernel
theorem dX4_rateOf_10 : decode cX4_rateOf 10 = .ok (.iaload, 1) := by decide +kernel
theorem dX4_rateOf_11 : decode cX4_rateOf 11 = .ok (.ireturn, 1) := by decide +kernel
theorem dX5_init_0 : decode cX5_init 0 = .ok (.aload_n 0, 1) := by decide +kernel
theorem dX5_init_1 : decode cX5_init 1 = .ok (.invokespecial 3, 3) := by decide +kernel
theorem dX5_init_4 : decode cX5_init 4 = .ok (.aload_n 0, 1) := by decide +kernel
theorem dX5_init_5 : decode cX5_init 5 = .ok (.aload_n 1, 1) := by decide +kernel
theorem dX5_init_6 : decode cX5_init 6 = .ok (.putfield 9, 3) := by decide +kernel
theorem dX5_init_9 : decode cX5_init 9 = .ok (.aload_n 0, 1) := by decide +kernel
theorem dX5_init_10 : decode cX5_init 10 = .ok (.aload_n 2, 1) := by decide +kernel
theorem dX5_init_11 : decode cX5_init 11 = .ok (.putfield 15, 3) := by decide +kernel
theorem dX5_init_14 : decode cX5_init 14 = .ok (.return_, 1) := by decide +kernel
theorem dX5_readSetup_0 : decode cX5_readSetup 0 = .ok (.aload_n 0, 1) := by decide +kernel
theorem dX5_readSetup_1 : decode cX5_readSetup 1 = .ok (.getfield 15, 3) := by decide +kernel
theorem dX5_readSetup_4 : decode cX5_readSetup 4 = .ok (.invokevirtual 19, 3) := by decide +kernel
theorem dX5_readSetup_7 : decode cX5_readSetup 7 = .ok (.aload_n 0, 1) := by decide +kernel
theorem dX5_readSetup_8 : decode cX5_readSetup 8 = .ok (.iconst 0, 1) := by decide +kernel
theorem dX5_readSetup_9 : decode cX5_readSetup 9 = .ok (.putfield 24, 3) := by decide +kernel
theorem dX5_readSetup_12 : decode cX5_readSetup 12 = .ok (.aload_n 0, 1) := by decide +kernel
theorem dX5_readSetup_13 : decode cX5_readSetup 13 = .ok (.invokevirtual 28, 3) := by decide +kernel
theorem dX5_readSetup_16 : decode cX5_readSetup 16 = .ok (.aload_n 0, 1) := by decide +kernel
theorem dX5_readSetup_17 : decode cX5_readSetup 17 = .ok (.invokevirtual 31, 3) := by decide +kernel
theorem dX5_readSetup_20 : decode cX5_readSetup 20 = .ok (.ifCond .eq 42, 3) := by decide +kernel
theorem dX5_readSetup_23 : decode cX5_readSetup 23 = .ok (.aload_n 0, 1) := by decide +kernel
theorem dX5_readSetup_24 : decode cX5_readSetup 24 = .ok (.invokevirtual 35, 3) := by decide +kernel
theorem dX5_readSetup_27 : decode cX5_readSetup 27 = .ok (.ifCond .eq 35, 3) := by decide +kernel
theorem dX5_readSetup_30 : decode cX5_readSetup 30 = .ok (.aload_n 0, 1) := by decide +kernel
theorem dX5_readSetup_31 : decode cX5_readSetup 31 = .ok (.invokevirtual 38, 3) := by decide +kernel
theorem dX5_readSetup_34 : decode cX5_readSetup 34 = .ok (.ifCond .eq 28, 3) := by decide +kernel
theorem dX5_readSetup_37 : decode cX5_readSetup 37 = .ok (.aload_n 0, 1) := by decide +kernel
theorem dX5_readSetup_38 : decode cX5_readSetup 38 = .ok (.invokevirtual 41, 3) := by decide +kernel
theorem dX5_readSetup_41 : decode cX5_readSetup 41 = .ok (.ifCond .eq 21, 3) := by decide +kernel
theorem dX5_readSetup_44 : decode cX5_readSetup 44 = .ok (.aload_n 0, 1) := by decide +kernel
theorem dX5_readSetup_45 : decode cX5_readSetup 45 = .ok (.invokevirtual 44, 3) := by decide +kernel
theorem dX5_readSetup_48 : decode cX5_readSetup 48 = .ok (.ifCond .eq 14, 3) := by decide +kernel
theorem dX5_readSetup_51 : decode cX5_readSetup 51 = .ok (.aload_n 0, 1) := by decide +kernel
theorem dX5_readSetup_52 : decode cX5_readSetup 52 = .ok (.getfield 47, 3) := by decide +kernel
theorem dX5_readSetup_55 : decode cX5_readSetup 55 = .ok (.ifCond .ne 7, 3) := by decide +kernel
theorem dX5_readSetup_58 : decode cX5_readSetup 58 = .ok (.iconst 1, 1) := by decide +kernel
theorem dX5_readSetup_59 : decode cX5_readSetup 59 = .ok (.goto 4, 3) := by decide +kernel
theorem dX5_readSetup_62 : decode cX5_readSetup 62 = .ok (.iconst 0, 1) := by decide +kernel
theorem dX5_readSetup_63 : decode cX5_readSetup 63 = .ok (.ireturn, 1) := by decide +kernel
theorem dX5_readNodes_0 : decode cX5_readNodes 0 = .ok (.aload_n 0, 1) := by decide +kernel
theorem dX5_readNodes_1 : decode cX5_readNodes 1 = .ok (.ldc 50, 2) := by decide +kernel
theorem dX5_readNodes_3 : decode cX5_readNodes 3 = .ok (.invokevirtual 52, 3) := by decide +kernel
theorem dX5_readNodes_6 : decode cX5_readNodes 6 = .ok (.ifCond .ne 5, 3) := by decide +kernel
theorem dX5_readNodes_9 : decode cX5_readNodes 9 = .ok (.iconst 0, 1) := by decide +kernel
theorem dX5_readNodes_10 : decode cX5_readNodes 10 = .ok (.ireturn, 1) := by decide +kernel
theorem dX5_readNodes_11 : decode cX5_readNodes 11 = .ok (.aload_n 0, 1) := by decide +kernel
theorem dX5_readNodes_12 : decode cX5_readNodes 12 = .ok (.getfield 15, 3) := by decide +kernel
theorem dX5_readNodes_15 : decode cX5_readNodes 15 = .ok (.aload_n 0, 1) := by decide +kernel
theorem dX5_readNodes_16 : decode cX5_readNodes 16 = .ok (.iconst 2, 1) := by decide +kernel
theorem dX5_readNodes_17 : decode cX5_readNodes 17 = .ok (.bipush 16, 2) := by decide +kernel
theorem dX5_readNodes_19 : decode cX5_readNodes 19 = .ok (.invokevirtual 56, 3) := by decide +kernel
theorem dX5_readNodes_22 : decode cX5_readNodes 22 = .ok (.putfield 60, 3) := by decide +kernel
theorem dX5_readNodes_25 : decode cX5_readNodes 25 = .ok (.aload_n 0, 1) := by decide +kernel
theorem dX5_readNodes_26 : decode cX5_readNodes 26 = .ok (.getfield 15, 3) := by decide +kernel
theorem dX5_readNodes_29 : decode cX5_readNodes 29 = .ok (.getfield 60, 3) := by decide +kernel
theorem dX5_readNodes_32 : decode cX5_readNodes 32 = .ok (.iconst (-1), 1) := by decide +kernel
theorem dX5_readNodes_33 : decode cX5_readNodes 33 = .ok (.if_icmp .eq 14, 3) := by decide +kernel
theorem dX5_readNodes_36 : decode cX5_readNodes 36 = .ok (.aload_n 0, 1) := by decide +kernel
theorem dX5_readNodes_37 : decode cX5_readNodes 37 = .ok (.invokevirtual 62, 3) := by decide +kernel
theorem dX5_readNodes_40 : decode cX5_readNodes 40 = .ok (.ifCond .eq 7, 3) := by decide +kernel
theorem dX5_readNodes_43 : decode cX5_readNodes 43 = .ok (.iconst 1, 1) := by decide +kernel
theorem dX5_readNodes_44 : decode cX5_readNodes 44 = .ok (.goto 4, 3) := by decide +kernel
theorem dX5_readNodes_47 : decode cX5_readNodes 47 = .ok (.iconst 0, 1) := by decide +kernel
theorem dX5_readNodes_48 : decode cX5_readNodes 48 = .ok (.ireturn, 1) := by decide +kernel
theorem dX5_readLinks_0 : decode cX5_readLinks 0 = .ok (.iconst 0, 1) := by decide +kernel
theorem dX5_readLinks_1 : decode cX5_readLinks 1 = .ok (.istore_n 1, 1) := by decide +kernel
theorem dX5_readLinks_2 : decode cX5_readLinks 2 = .ok (.iload_n 1, 1) := by decide +kernel
theorem dX5_readLinks_3 : decode cX5_readLinks 3 = .ok (.bipush 32, 2) := by decide +kernel
theorem dX5_readLinks_5 : decode cX5_readLinks 5 = .ok (.if_icmp .gt 45, 3) := by decide +kernel
theorem dX5_readLinks_8 : decode cX5_readLinks 8 = .ok (.aload_n 0, 1) := by decide +kernel
theorem dX5_readLinks_9 : decode cX5_readLinks 9 = .ok (.ldc 65, 2) := by decide +kernel
theorem dX5_readLinks_11 : decode cX5_readLinks 11 = .ok (.invokevirtual 67, 3) := by decide +kernel
theorem dX5_readLinks_14 : decode cX5_readLinks 14 = .ok (.ifCond .eq 36, 3) := by decide +kernel
theorem dX5_readLinks_17 : decode cX5_readLinks 17 = .ok (.aload_n 0, 1) := by decide +kernel
theorem dX5_readLinks_18 : decode cX5_readLinks 18 = .ok (.getfield 15, 3) := by decide +kernel
theorem dX5_readLinks_21 : decode cX5_readLinks 21 = .ok (.getfield 70, 3) := by decide +kernel
theorem dX5_readLinks_24 : decode cX5_readLinks 24 = .ok (.bipush 32, 2) := by decide +kernel
theorem dX5_readLinks_26 : decode cX5_readLinks 26 = .ok (.if_icmp .ne 5, 3) := by decide +kernel
theorem dX5_readLinks_29 : decode cX5_readLinks 29 = .ok (.iconst 0, 1) := by decide +kernel
theorem dX5_readLinks_30 : decode cX5_readLinks 30 = .ok (.ireturn, 1) := by decide +kernel
theorem dX5_readLinks_31 : decode cX5_readLinks 31 = .ok (.aload_n 0, 1) := by decide +kernel
theorem dX5_readLinks_32 : decode cX5_readLinks 32 = .ok (.invokevirtual 28, 3) := by decide +kernel
theorem dX5_readLinks_35 : decode cX5_readLinks 35 = .ok (.aload_n 0, 1) := by decide +kernel
theorem dX5_readLinks_36 : decode cX5_readLinks 36 = .ok (.invokevirtual 73, 3) := by decide +kernel
theorem dX5_readLinks_39 : decode cX5_readLinks 39 = .ok (.ifCond .ne 5, 3) := by decide +kernel
theorem dX5_readLinks_42 : decode cX5_readLinks 42 = .ok (.iconst 0, 1) := by decide +kernel
theorem dX5_readLinks_43 : decode cX5_readLinks 43 = .ok (.ireturn, 1) := by decide +kernel
theorem dX5_readLinks_44 : decode cX5_readLinks 44 = .ok (.iinc 1 1, 3) := by decide +kernel
theorem dX5_readLinks_47 : decode cX5_readLinks 47 = .ok (.goto (-45), 3) := by decide +kernel
theorem dX5_readLinks_50 : decode cX5_readLinks 50 = .ok (.iconst 1, 1) := by decide +kernel
theorem dX5_readLinks_51 : decode cX5_readLinks 51 = .ok (.ireturn, 1) := by decide +kernel
theorem dX5_readLink_0 : decode cX5_readLink 0 = .ok (.aload_n 0, 1) := by decide +kernel
theorem dX5_readLink_1 : decode cX5_readLink 1 = .ok (.iconst 0, 1) := by decide +kernel
theorem dX5_readLink_2 : decode cX5_readLink 2 = .ok (.aload_n 0, 1) := by decide +kernel
theorem dX5_readLink_3 : decode cX5_readLink 3 = .ok (.getfield 15, 3) := by decide +kernel
theorem dX5_readLink_6 : decode cX5_readLink 6 = .ok (.getfield 60, 3) := by decide +kernel
theorem dX5_readLink_9 : decode cX5_readLink 9 = .ok (.iconst 1, 1) := by decide +kernel
theorem dX5_readLink_10 : decode cX5_readLink 10 = .ok (.isub, 1) := by decide +kernel
theorem dX5_readLink_11 : decode cX5_readLink 11 = .ok (.invokevirtual 56, 3) := by decide +kernel
theorem dX5_readLink_14 : decode cX5_readLink 14 = .ok (.istore_n 1, 1) := by decide +kernel
theorem dX5_readLink_15 : decode cX5_readLink 15 = .ok (.iload_n 1, 1) := by decide +kernel
theorem dX5_readLink_16 : decode cX5_readLink 16 = .ok (.iconst (-1), 1) := by decide +kernel
theorem dX5_readLink_17 : decode cX5_readLink 17 = .ok (.if_icmp .eq 23, 3) := by decide +kernel
theorem dX5_readLink_20 : decode cX5_readLink 20 = .ok (.aload_n 0, 1) := by decide +kernel
theorem dX5_readLink_21 : decode cX5_readLink 21 = .ok (.getfield 76, 3) := by decide +kernel
theorem dX5_readLink_24 : decode cX5_readLink 24 = .ok (.iload_n 1, 1) := by decide +kernel
theorem dX5_readLink_25 : decode cX5_readLink 25 = .ok (.if_icmp .eq 15, 3) := by decide +kernel
theorem dX5_readLink_28 : decode cX5_readLink 28 = .ok (.aload_n 0, 1) := by decide +kernel
theorem dX5_readLink_29 : decode cX5_readLink 29 = .ok (.iload_n 1, 1) := by decide +kernel
theorem dX5_readLink_30 : decode cX5_readLink 30 = .ok (.aload_n 0, 1) := by decide +kernel
theorem dX5_readLink_31 : decode cX5_readLink 31 = .ok (.getfield 76, 3) := by decide +kernel
theorem dX5_readLink_34 : decode cX5_readLink 34 = .ok (.invokevirtual 79, 3) := by decide +kernel
theorem dX5_readLink_37 : decode cX5_readLink 37 = .ok (.ifCond .eq 5, 3) := by decide +kernel
theorem dX5_readLink_40 : decode cX5_readLink 40 = .ok (.iconst 0, 1) := by decide +kernel
theorem dX5_readLink_41 : decode cX5_readLink 41 = .ok (.ireturn, 1) := by decide +kernel
theorem dX5_readLink_42 : decode cX5_readLink 42 = .ok (.aload_n 0, 1) := by decide +kernel
theorem dX5_readLink_43 : decode cX5_readLink 43 = .ok (.iconst 0, 1) := by decide +kernel
theorem dX5_readLink_44 : decode cX5_readLink 44 = .ok (.aload_n 0, 1) := by decide +kernel
theorem dX5_readLink_45 : decode cX5_readLink 45 = .ok (.getfield 15, 3) := by decide +kernel
theorem dX5_readLink_48 : decode cX5_readLink 48 = .ok (.getfield 60, 3) := by decide +kernel
theorem dX5_readLink_51 : decode cX5_readLink 51 = .ok (.iconst 1, 1) := by decide +kernel
theorem dX5_readLink_52 : decode cX5_readLink 52 = .ok (.isub, 1) := by decide +kernel
theorem dX5_readLink_53 : decode cX5_readLink 53 = .ok (.invokevirtual 56, 3) := by decide +kernel
theorem dX5_readLink_56 : decode cX5_readLink 56 = .ok (.istore_n 2, 1) := by decide +kernel
theorem dX5_readLink_57 : decode cX5_readLink 57 = .ok (.iload_n 2, 1) := by decide +kernel
theorem dX5_readLink_58 : decode cX5_readLink 58 = .ok (.iconst (-1), 1) := by decide +kernel
theorem dX5_readLink_59 : decode cX5_readLink 59 = .ok (.if_icmp .eq 12, 3) := by decide +kernel
theorem dX5_readLink_62 : decode cX5_readLink 62 = .ok (.aload_n 0, 1) := by decide +kernel
theorem dX5_readLink_63 : decode cX5_readLink 63 = .ok (.ldc 83, 2) := by decide +kernel
theorem dX5_readLink_65 : decode cX5_readLink 65 = .ok (.invokevirtual 52, 3) := by decide +kernel
theorem dX5_readLink_68 : decode cX5_readLink 68 = .ok (.ifCond .ne 5, 3) := by decide +kernel
theorem dX5_readLink_71 : decode cX5_readLink 71 = .ok (.iconst 0, 1) := by decide +kernel
theorem dX5_readLink_72 : decode cX5_readLink 72 = .ok (.ireturn, 1) := by decide +kernel
theorem dX5_readLink_73 : decode cX5_readLink 73 = .ok (.aload_n 0, 1) := by decide +kernel
theorem dX5_readLink_74 : decode cX5_readLink 74 = .ok (.iconst 0, 1) := by decide +kernel
theorem dX5_readLink_75 : decode cX5_readLink 75 = .ok (.sipush 9999, 3) := by decide +kernel
theorem dX5_readLink_78 : decode cX5_readLink 78 = .ok (.invokevirtual 56, 3) := by decide +kernel
theorem dX5_readLink_81 : decode cX5_readLink 81 = .ok (.istore_n 3, 1) := by decide +kernel
theorem dX5_readLink_82 : decode cX5_readLink 82 = .ok (.iload_n 3, 1) := by decide +kernel
theorem dX5_readLink_83 : decode cX5_readLink 83 = .ok (.iconst (-1), 1) := by decide +kernel
theorem dX5_readLink_84 : decode cX5_readLink 84 = .ok (.if_icmp .eq 12, 3) := by decide +kernel
theorem dX5_readLink_87 : decode cX5_readLink 87 = .ok (.aload_n 0, 1) := by decide +kernel
theorem dX5_readLink_88 : decode cX5_readLink 88 = .ok (.ldc 85, 2) := by decide +kernel
theorem dX5_readLink_90 : decode cX5_readLink 90 = .ok (.invokevirtual 52, 3) := by decide +kernel
theorem dX5_readLink_93 : decode cX5_readLink 93 = .ok (.ifCond .ne 5, 3) := by decide +kernel
theorem dX5_readLink_96 : decode cX5_readLink 96 = .ok (.iconst 0, 1) := by decide +kernel
theorem dX5_readLink_97 : decode cX5_readLink 97 = .ok (.ireturn, 1) := by decide +kernel
theorem dX5_readLink_98 : decode cX5_readLink 98 = .ok (.aload_n 0, 1) := by decide +kernel
theorem dX5_readLink_99 : decode cX5_readLink 99 = .ok (.iconst 1, 1) := by decide +kernel
theorem dX5_readLink_100 : decode cX5_readLink 100 = .ok (.bipush 99, 2) := by decide +kernel
theorem dX5_readLink_102 : decode cX5_readLink 102 = .ok (.invokevirtual 56, 3) := by decide +kernel
theorem dX5_readLink_105 : decode cX5_readLink 105 = .ok (.istore 4, 2) := by decide +kernel
theorem dX5_readLink_107 : decode cX5_readLink 107 = .ok (.iload 4, 2) := by decide +kernel
theorem dX5_readLink_109 : decode cX5_readLink 109 = .ok (.iconst (-1), 1) := by decide +kernel
theorem dX5_readLink_110 : decode cX5_readLink 110 = .ok (.if_icmp .eq 10, 3) := by decide +kernel
theorem dX5_readLink_113 : decode cX5_readLink 113 = .ok (.aload_n 0, 1) := by decide +kernel
theorem dX5_readLink_114 : decode cX5_readLink 114 = .ok (.invokevirtual 62, 3) := by decide +kernel
theorem dX5_readLink_117 : decode cX5_readLink 117 = .ok (.ifCond .ne 5, 3) := by decide +kernel
theorem dX5_readLink_120 : decode cX5_readLink 120 = .ok (.iconst 0, 1) := by decide +kernel
theorem dX5_readLink_121 : decode cX5_readLink 121 = .ok (.ireturn, 1) := by decide +kernel
theorem dX5_readLink_122 : decode cX5_readLink 122 = .ok (.aload_n 0, 1) := by decide +kernel
theorem dX5_readLink_123 : decode cX5_readLink 123 = .ok (.getfield 15, 3) := by decide +kernel
theorem dX5_readLink_126 : decode cX5_readLink 126 = .ok (.iload_n 1, 1) := by decide +kernel
theorem dX5_readLink_127 : decode cX5_readLink 127 = .ok (.iload_n 2, 1) := by decide +kernel
theorem dX5_readLink_128 : decode cX5_readLink 128 = .ok (.iload_n 3, 1) := by decide +kernel
theorem dX5_readLink_129 : decode cX5_readLink 129 = .ok (.iload 4, 2) := by decide +kernel
theorem dX5_readLink_131 : decode cX5_readLink 131 = .ok (.invokevirtual 87, 3) := by decide +kernel
theorem dX5_readLink_134 : decode cX5_readLink 134 = .ok (.iconst 1, 1) := by decide +kernel
theorem dX5_readLink_135 : decode cX5_readLink 135 = .ok (.ireturn, 1) := by decide +kernel
theorem dX5_isLinked_0 : decode cX5_isLinked 0 = .ok (.iload_n 2, 1) := by decide +kernel
theorem dX5_isLinked_1 : decode cX5_isLinked 1 = .ok (.ifCond .lt 36, 3) := by decide +kernel
theorem dX5_isLinked_4 : decode cX5_isLinked 4 = .ok (.iload_n 2, 1) := by decide +kernel
theorem dX5_isLinked_5 : decode cX5_isLinked 5 = .ok (.aload_n 0, 1) := by decide +kernel
theorem dX5_isLinked_6 : decode cX5_isLinked 6 = .ok (.getfield 15, 3) := by decide +kernel
theorem dX5_isLinked_9 : decode cX5_isLinked 9 = .ok (.getfield 60, 3) := by decide +kernel
theorem dX5_isLinked_12 : decode cX5_isLinked 12 = .ok (.if_icmp .ge 25, 3) := by decide +kernel
theorem dX5_isLinked_15 : decode cX5_isLinked 15 = .ok (.aload_n 0, 1) := by decide +kernel
theorem dX5_isLinked_16 : decode cX5_isLinked 16 = .ok (.getfield 15, 3) := by decide +kernel
theorem dX5_isLinked_19 : decode cX5_isLinked 19 = .ok (.getfield 91, 3) := by decide +kernel
theorem dX5_isLinked_22 : decode cX5_isLinked 22 = .ok (.iload_n 1, 1) := by decide +kernel
theorem dX5_isLinked_23 : decode cX5_isLinked 23 = .ok (.bipush 16, 2) := by decide +kernel
theorem dX5_isLinked_25 : decode cX5_isLinked 25 = .ok (.imul, 1) := by decide +kernel
theorem dX5_isLinked_26 : decode cX5_isLinked 26 = .ok (.iload_n 2, 1) := by decide +kernel
theorem dX5_isLinked_27 : decode cX5_isLinked 27 = .ok (.iadd, 1) := by decide +kernel
theorem dX5_isLinked_28 : decode cX5_isLinked 28 = .ok (.iaload, 1) := by decide +kernel
theorem dX5_isLinked_29 : decode cX5_isLinked 29 = .ok (.iconst (-1), 1) := by decide +kernel
theorem dX5_isLinked_30 : decode cX5_isLinked 30 = .ok (.if_icmp .eq 7, 3) := by decide +kernel
theorem dX5_isLinked_33 : decode cX5_isLinked 33 = .ok (.iconst 1, 1) := by decide +kernel
theorem dX5_isLinked_34 : decode cX5_isLinked 34 = .ok (.goto 4, 3) := by decide +kernel
theorem dX5_isLinked_37 : decode cX5_isLinked 37 = .ok (.iconst 0, 1) := by decide +kernel
theorem dX5_isLinked_38 : decode cX5_isLinked 38 = .ok (.ireturn, 1) := by decide +kernel
theorem dX5_readCpus_0 : decode cX5_readCpus 0 = .ok (.iconst 0, 1) := by decide +kernel
theorem dX5_readCpus_1 : decode cX5_readCpus 1 = .ok (.istore_n 1, 1) := by decide +kernel
theorem dX5_readCpus_2 : decode cX5_readCpus 2 = .ok (.iconst 0, 1) := by decide +kernel
theorem dX5_readCpus_3 : decode cX5_readCpus 3 = .ok (.istore_n 2, 1) := by decide +kernel
theorem dX5_readCpus_4 : decode cX5_readCpus 4 = .ok (.iload_n 2, 1) := by decide +kernel
theorem dX5_readCpus_5 : decode cX5_readCpus 5 = .ok (.bipush 16, 2) := by decide +kernel
theorem dX5_readCpus_7 : decode cX5_readCpus 7 = .ok (.if_icmp .gt 121, 3) := by decide +kernel
theorem dX5_readCpus_10 : decode cX5_readCpus 10 = .ok (.aload_n 0, 1) := by decide +kernel
theorem dX5_readCpus_11 : decode cX5_readCpus 11 = .ok (.ldc 95, 2) := by decide +kernel
theorem dX5_readCpus_13 : decode cX5_readCpus 13 = .ok (.invokevirtual 67, 3) := by decide +kernel
theorem dX5_readCpus_16 : decode cX5_readCpus 16 = .ok (.ifCond .eq 112, 3) := by decide +kernel
theorem dX5_readCpus_19 : decode cX5_readCpus 19 = .ok (.aload_n 0, 1) := by decide +kernel
theorem dX5_readCpus_20 : decode cX5_readCpus 20 = .ok (.invokevirtual 28, 3) := by decide +kernel
theorem dX5_readCpus_23 : decode cX5_readCpus 23 = .ok (.aload_n 0, 1) := by decide +kernel
theorem dX5_readCpus_24 : decode cX5_readCpus 24 = .ok (.getfield 76, 3) := by decide +kernel
theorem dX5_readCpus_27 : decode cX5_readCpus 27 = .ok (.ifCond .lt 31, 3) := by decide +kernel
theorem dX5_readCpus_30 : decode cX5_readCpus 30 = .ok (.aload_n 0, 1) := by decide +kernel
theorem dX5_readCpus_31 : decode cX5_readCpus 31 = .ok (.getfield 76, 3) := by decide +kernel
theorem dX5_readCpus_34 : decode cX5_readCpus 34 = .ok (.aload_n 0, 1) := by decide +kernel
theorem dX5_readCpus_35 : decode cX5_readCpus 35 = .ok (.getfield 15, 3) := by decide +kernel
theorem dX5_readCpus_38 : decode cX5_readCpus 38 = .ok (.getfield 60, 3) := by decide +kernel
theorem dX5_readCpus_41 : decode cX5_readCpus 41 = .ok (.if_icmp .ge 17, 3) := by decide +kernel
theorem dX5_readCpus_44 : decode cX5_readCpus 44 = .ok (.iload_n 1, 1) := by decide +kernel
theorem dX5_readCpus_45 : decode cX5_readCpus 45 = .ok (.aload_n 0, 1) := by decide +kernel
theorem dX5_readCpus_46 : decode cX5_readCpus 46 = .ok (.getfield 76, 3) := by decide +kernel
theorem dX5_readCpus_49 : decode cX5_readCpus 49 = .ok (.ishr, 1) := by decide +kernel
theorem dX5_readCpus_50 : decode cX5_readCpus 50 = .ok (.iconst 1, 1) := by decide +kernel
theorem dX5_readCpus_51 : decode cX5_readCpus 51 = .ok (.iand, 1) := by decide +kernel
theorem dX5_readCpus_52 : decode cX5_readCpus 52 = .ok (.iconst 1, 1) := by decide +kernel
theorem dX5_readCpus_53 : decode cX5_readCpus 53 = .ok (.if_icmp .ne 5, 3) := by decide +kernel
theorem dX5_readCpus_56 : decode cX5_readCpus 56 = .ok (.iconst 0, 1) := by decide +kernel
theorem dX5_readCpus_57 : decode cX5_readCpus 57 = .ok (.ireturn, 1) := by decide +kernel
theorem dX5_readCpus_58 : decode cX5_readCpus 58 = .ok (.aload_n 0, 1) := by decide +kernel
theorem dX5_readCpus_59 : decode cX5_readCpus 59 = .ok (.iconst 0, 1) := by decide +kernel
theorem dX5_readCpus_60 : decode cX5_readCpus 60 = .ok (.aload_n 0, 1) := by decide +kernel
theorem dX5_readCpus_61 : decode cX5_readCpus 61 = .ok (.getfield 15, 3) := by decide +kernel
theorem dX5_readCpus_64 : decode cX5_readCpus 64 = .ok (.getfield 60, 3) := by decide +kernel
theorem dX5_readCpus_67 : decode cX5_readCpus 67 = .ok (.iconst 1, 1) := by decide +kernel
theorem dX5_readCpus_68 : decode cX5_readCpus 68 = .ok (.isub, 1) := by decide +kernel
theorem dX5_readCpus_69 : decode cX5_readCpus 69 = .ok (.invokevirtual 56, 3) := by decide +kernel
theorem dX5_readCpus_72 : decode cX5_readCpus 72 = .ok (.istore_n 3, 1) := by decide +kernel
theorem dX5_readCpus_73 : decode cX5_readCpus 73 = .ok (.iload_n 3, 1) := by decide +kernel
theorem dX5_readCpus_74 : decode cX5_readCpus 74 = .ok (.iconst (-1), 1) := by decide +kernel
theorem dX5_readCpus_75 : decode cX5_readCpus 75 = .ok (.if_icmp .ne 5, 3) := by decide +kernel
theorem dX5_readCpus_78 : decode cX5_readCpus 78 = .ok (.iconst 0, 1) := by decide +kernel
theorem dX5_readCpus_79 : decode cX5_readCpus 79 = .ok (.ireturn, 1) := by decide +kernel
theorem dX5_readCpus_80 : decode cX5_readCpus 80 = .ok (.iload_n 1, 1) := by decide +kernel
theorem dX5_readCpus_81 : decode cX5_readCpus 81 = .ok (.iconst 1, 1) := by decide +kernel
theorem dX5_readCpus_82 : decode cX5_readCpus 82 = .ok (.iload_n 3, 1) := by decide +kernel
theorem dX5_readCpus_83 : decode cX5_readCpus 83 = .ok (.ishl, 1) := by decide +kernel
theorem dX5_readCpus_84 : decode cX5_readCpus 84 = .ok (.ior, 1) := by decide +kernel
theorem dX5_readCpus_85 : decode cX5_readCpus 85 = .ok (.istore_n 1, 1) := by decide +kernel
theorem dX5_readCpus_86 : decode cX5_readCpus 86 = .ok (.aload_n 0, 1) := by decide +kernel
theorem dX5_readCpus_87 : decode cX5_readCpus 87 = .ok (.iconst 0, 1) := by decide +kernel
theorem dX5_readCpus_88 : decode cX5_readCpus 88 = .ok (.sipush 999, 3) := by decide +kernel
theorem dX5_readCpus_91 : decode cX5_readCpus 91 = .ok (.invokevirtual 56, 3) := by decide +kernel
theorem dX5_readCpus_94 : decode cX5_readCpus 94 = .ok (.istore 4, 2) := by decide +kernel
theorem dX5_readCpus_96 : decode cX5_readCpus 96 = .ok (.iload 4, 2) := by decide +kernel
theorem dX5_readCpus_98 : decode cX5_readCpus 98 = .ok (.iconst (-1), 1) := by decide +kernel
theorem dX5_readCpus_99 : decode cX5_readCpus 99 = .ok (.if_icmp .eq 10, 3) := by decide +kernel
theorem dX5_readCpus_102 : decode cX5_readCpus 102 = .ok (.aload_n 0, 1) := by decide +kernel
theorem dX5_readCpus_103 : decode cX5_readCpus 103 = .ok (.invokevirtual 62, 3) := by decide +kernel
theorem dX5_readCpus_106 : decode cX5_readCpus 106 = .ok (.ifCond .ne 5, 3) := by decide +kernel
theorem dX5_readCpus_109 : decode cX5_readCpus 109 = .ok (.iconst 0, 1) := by decide +kernel
theorem dX5_readCpus_110 : decode cX5_readCpus 110 = .ok (.ireturn, 1) := by decide +kernel
theorem dX5_readCpus_111 : decode cX5_readCpus 111 = .ok (.aload_n 0, 1) := by decide +kernel
theorem dX5_readCpus_112 : decode cX5_readCpus 112 = .ok (.getfield 15, 3) := by decide +kernel
theorem dX5_readCpus_115 : decode cX5_readCpus 115 = .ok (.getfield 97, 3) := by decide +kernel
theorem dX5_readCpus_118 : decode cX5_readCpus 118 = .ok (.iload_n 3, 1) := by decide +kernel
theorem dX5_readCpus_119 : decode cX5_readCpus 119 = .ok (.iload 4, 2) := by decide +kernel
theorem dX5_readCpus_121 : decode cX5_readCpus 121 = .ok (.iastore, 1) := by decide +kernel
theorem dX5_readCpus_122 : decode cX5_readCpus 122 = .ok (.iinc 2 1, 3) := by decide +kernel
theorem dX5_readCpus_125 : decode cX5_readCpus 125 = .ok (.goto (-121), 3) := by decide +kernel
theorem dX5_readCpus_128 : decode cX5_readCpus 128 = .ok (.iconst 1, 1) := by decide +kernel
theorem dX5_readCpus_129 : decode cX5_readCpus 129 = .ok (.ireturn, 1) := by decide +kernel
theorem dX5_readNative_0 : decode cX5_readNative 0 = .ok (.aload_n 0, 1) := by decide +kernel
theorem dX5_readNative_1 : decode cX5_readNative 1 = .ok (.ldc 99, 2) := by decide +kernel
theorem dX5_readNative_3 : decode cX5_readNative 3 = .ok (.invokevirtual 52, 3) := by decide +kernel
theorem dX5_readNative_6 : decode cX5_readNative 6 = .ok (.ifCond .eq 12, 3) := by decide +kernel
theorem dX5_readNative_9 : decode cX5_readNative 9 = .ok (.aload_n 0, 1) := by decide +kernel
theorem dX5_readNative_10 : decode cX5_readNative 10 = .ok (.iconst 0, 1) := by decide +kernel
theorem dX5_readNative_11 : decode cX5_readNative 11 = .ok (.iconst 1, 1) := by decide +kernel
theorem dX5_readNative_12 : decode cX5_readNative 12 = .ok (.invokevirtual 101, 3) := by decide +kernel
theorem dX5_readNative_15 : decode cX5_readNative 15 = .ok (.ifCond .ne 5, 3) := by decide +kernel
theorem dX5_readNative_18 : decode cX5_readNative 18 = .ok (.iconst 0, 1) := by decide +kernel
theorem dX5_readNative_19 : decode cX5_readNative 19 = .ok (.ireturn, 1) := by decide +kernel
theorem dX5_readNative_20 : decode cX5_readNative 20 = .ok (.iconst 1, 1) := by decide +kernel
theorem dX5_readNative_21 : decode cX5_readNative 21 = .ok (.istore_n 1, 1) := by decide +kernel
theorem dX5_readNative_22 : decode cX5_readNative 22 = .ok (.iconst 1, 1) := by decide +kernel
theorem dX5_readNative_23 : decode cX5_readNative 23 = .ok (.istore_n 2, 1) := by decide +kernel
theorem dX5_readNative_24 : decode cX5_readNative 24 = .ok (.iload_n 2, 1) := by decide +kernel
theorem dX5_readNative_25 : decode cX5_readNative 25 = .ok (.iconst 5, 1) := by decide +kernel
theorem dX5_readNative_26 : decode cX5_readNative 26 = .ok (.if_icmp .ge 31, 3) := by decide +kernel
theorem dX5_readNative_29 : decode cX5_readNative 29 = .ok (.aload_n 0, 1) := by decide +kernel
theorem dX5_readNative_30 : decode cX5_readNative 30 = .ok (.getfield 47, 3) := by decide +kernel
theorem dX5_readNative_33 : decode cX5_readNative 33 = .ok (.iconst 2, 1) := by decide +kernel
theorem dX5_readNative_34 : decode cX5_readNative 34 = .ok (.if_icmp .ne 23, 3) := by decide +kernel
theorem dX5_readNative_37 : decode cX5_readNative 37 = .ok (.iinc 1 1, 3) := by decide +kernel
theorem dX5_readNative_40 : decode cX5_readNative 40 = .ok (.aload_n 0, 1) := by decide +kernel
theorem dX5_readNative_41 : decode cX5_readNative 41 = .ok (.iconst 0, 1) := by decide +kernel
theorem dX5_readNative_42 : decode cX5_readNative 42 = .ok (.iload_n 1, 1) := by decide +kernel
theorem dX5_readNative_43 : decode cX5_readNative 43 = .ok (.invokevirtual 101, 3) := by decide +kernel
theorem dX5_readNative_46 : decode cX5_readNative 46 = .ok (.ifCond .ne 5, 3) := by decide +kernel
theorem dX5_readNative_49 : decode cX5_readNative 49 = .ok (.iconst 0, 1) := by decide +kernel
theorem dX5_readNative_50 : decode cX5_readNative 50 = .ok (.ireturn, 1) := by decide +kernel
theorem dX5_readNative_51 : decode cX5_readNative 51 = .ok (.iinc 2 1, 3) := by decide +kernel
theorem dX5_readNative_54 : decode cX5_readNative 54 = .ok (.goto (-30), 3) := by decide +kernel
theorem dX5_readNative_57 : decode cX5_readNative 57 = .ok (.aload_n 0, 1) := by decide +kernel
theorem dX5_readNative_58 : decode cX5_readNative 58 = .ok (.getfield 15, 3) := by decide +kernel
theorem dX5_readNative_61 : decode cX5_readNative 61 = .ok (.iload_n 1, 1) := by decide +kernel
theorem dX5_readNative_62 : decode cX5_readNative 62 = .ok (.putfield 104, 3) := by decide +kernel
theorem dX5_readNative_65 : decode cX5_readNative 65 = .ok (.aload_n 0, 1) := by decide +kernel
theorem dX5_readNative_66 : decode cX5_readNative 66 = .ok (.getfield 15, 3) := by decide +kernel
theorem dX5_readNative_69 : decode cX5_readNative 69 = .ok (.iconst 1, 1) := by decide +kernel
theorem dX5_readNative_70 : decode cX5_readNative 70 = .ok (.putfield 107, 3) := by decide +kernel
theorem dX5_readNative_73 : decode cX5_readNative 73 = .ok (.aload_n 0, 1) := by decide +kernel
theorem dX5_readNative_74 : decode cX5_readNative 74 = .ok (.invokevirtual 62, 3) := by decide +kernel
theorem dX5_readNative_77 : decode cX5_readNative 77 = .ok (.ireturn, 1) := by decide +kernel
theorem dX5_readFormats_0 : decode cX5_readFormats 0 = .ok (.iconst 0, 1) := by decide +kernel
theorem dX5_readFormats_1 : decode cX5_readFormats 1 = .ok (.istore_n 1, 1) := by decide +kernel
theorem dX5_readFormats_2 : decode cX5_readFormats 2 = .ok (.iload_n 1, 1) := by decide +kernel
theorem dX5_readFormats_3 : decode cX5_readFormats 3 = .ok (.iconst 4, 1) := by decide +kernel
theorem dX5_readFormats_4 : decode cX5_readFormats 4 = .ok (.if_icmp .ge 64, 3) := by decide +kernel
theorem dX5_readFormats_7 : decode cX5_readFormats 7 = .ok (.aload_n 0, 1) := by decide +kernel
theorem dX5_readFormats_8 : decode cX5_readFormats 8 = .ok (.ldc 110, 2) := by decide +kernel
theorem dX5_readFormats_10 : decode cX5_readFormats 10 = .ok (.invokevirtual 67, 3) := by decide +kernel
theorem dX5_readFormats_13 : decode cX5_readFormats 13 = .ok (.ifCond .eq 55, 3) := by decide +kernel
theorem dX5_readFormats_16 : decode cX5_readFormats 16 = .ok (.aload_n 0, 1) := by decide +kernel
theorem dX5_readFormats_17 : decode cX5_readFormats 17 = .ok (.getfield 15, 3) := by decide +kernel
theorem dX5_readFormats_20 : decode cX5_readFormats 20 = .ok (.getfield 107, 3) := by decide +kernel
theorem dX5_readFormats_23 : decode cX5_readFormats 23 = .ok (.iconst 4, 1) := by decide +kernel
theorem dX5_readFormats_24 : decode cX5_readFormats 24 = .ok (.if_icmp .ne 5, 3) := by decide +kernel
theorem dX5_readFormats_27 : decode cX5_readFormats 27 = .ok (.iconst 0, 1) := by decide +kernel
theorem dX5_readFormats_28 : decode cX5_readFormats 28 = .ok (.ireturn, 1) := by decide +kernel
theorem dX5_readFormats_29 : decode cX5_readFormats 29 = .ok (.aload_n 0, 1) := by decide +kernel
theorem dX5_readFormats_30 : decode cX5_readFormats 30 = .ok (.invokevirtual 28, 3) := by decide +kernel
theorem dX5_readFormats_33 : decode cX5_readFormats 33 = .ok (.aload_n 0, 1) := by decide +kernel
theorem dX5_readFormats_34 : decode cX5_readFormats 34 = .ok (.aload_n 0, 1) := by decide +kernel
theorem dX5_readFormats_35 : decode cX5_readFormats 35 = .ok (.getfield 15, 3) := by decide +kernel
theorem dX5_readFormats_38 : decode cX5_readFormats 38 = .ok (.getfield 107, 3) := by decide +kernel
theorem dX5_readFormats_41 : decode cX5_readFormats 41 = .ok (.invokevirtual 112, 3) := by decide +kernel
theorem dX5_readFormats_44 : decode cX5_readFormats 44 = .ok (.ifCond .ne 5, 3) := by decide +kernel
theorem dX5_readFormats_47 : decode cX5_readFormats 47 = .ok (.iconst 0, 1) := by decide +kernel
theorem dX5_readFormats_48 : decode cX5_readFormats 48 = .ok (.ireturn, 1) := by decide +kernel
theorem dX5_readFormats_49 : decode cX5_readFormats 49 = .ok (.aload_n 0, 1) := by decide +kernel
theorem dX5_readFormats_50 : decode cX5_readFormats 50 = .ok (.getfield 15, 3) := by decide +kernel
theorem dX5_readFormats_53 : decode cX5_readFormats 53 = .ok (.dup, 1) := by decide +kernel
theorem dX5_readFormats_54 : decode cX5_readFormats 54 = .ok (.getfield 107, 3) := by decide +kernel
theorem dX5_readFormats_57 : decode cX5_readFormats 57 = .ok (.iconst 1, 1) := by decide +kernel
theorem dX5_readFormats_58 : decode cX5_readFormats 58 = .ok (.iadd, 1) := by decide +kernel
theorem dX5_readFormats_59 : decode cX5_readFormats 59 = .ok (.putfield 107, 3) := by decide +kernel
theorem dX5_readFormats_62 : decode cX5_readFormats 62 = .ok (.iinc 1 1, 3) := by decide +kernel
theorem dX5_readFormats_65 : decode cX5_readFormats 65 = .ok (.goto (-63), 3) := by decide +kernel
theorem dX5_readFormats_68 : decode cX5_readFormats 68 = .ok (.iconst 1, 1) := by decide +kernel
theorem dX5_readFormats_69 : decode cX5_readFormats 69 = .ok (.ireturn, 1) := by decide +kernel
theorem dX5_readFormat_0 : decode cX5_readFormat 0 = .ok (.aload_n 0, 1) := by decide +kernel
theorem dX5_readFormat_1 : decode cX5_readFormat 1 = .ok (.iconst 1, 1) := by decide +kernel
theorem dX5_readFormat_2 : decode cX5_readFormat 2 = .ok (.bipush 99, 2) := by decide +kernel
theorem dX5_readFormat_4 : decode cX5_readFormat 4 = .ok (.invokevirtual 56, 3) := by decide +kernel
theorem dX5_readFormat_7 : decode cX5_readFormat 7 = .ok (.istore_n 2, 1) := by decide +kernel
theorem dX5_readFormat_8 : decode cX5_readFormat 8 = .ok (.iload_n 2, 1) := by decide +kernel
theorem dX5_readFormat_9 : decode cX5_readFormat 9 = .ok (.iconst (-1), 1) := by decide +kernel
theorem dX5_readFormat_10 : decode cX5_readFormat 10 = .ok (.if_icmp .eq 12, 3) := by decide +kernel
theorem dX5_readFormat_13 : decode cX5_readFormat 13 = .ok (.aload_n 0, 1) := by decide +kernel
theorem dX5_readFormat_14 : decode cX5_readFormat 14 = .ok (.ldc 116, 2) := by decide +kernel
theorem dX5_readFormat_16 : decode cX5_readFormat 16 = .ok (.invokevirtual 52, 3) := by decide +kernel
theorem dX5_readFormat_19 : decode cX5_readFormat 19 = .ok (.ifCond .ne 5, 3) := by decide +kernel
theorem dX5_readFormat_22 : decode cX5_readFormat 22 = .ok (.iconst 0, 1) := by decide +kernel
theorem dX5_readFormat_23 : decode cX5_readFormat 23 = .ok (.ireturn, 1) := by decide +kernel
theorem dX5_readFormat_24 : decode cX5_readFormat 24 = .ok (.aload_n 0, 1) := by decide +kernel
theorem dX5_readFormat_25 : decode cX5_readFormat 25 = .ok (.getfield 15, 3) := by decide +kernel
theorem dX5_readFormat_28 : decode cX5_readFormat 28 = .ok (.getfield 118, 3) := by decide +kernel
theorem dX5_readFormat_31 : decode cX5_readFormat 31 = .ok (.iload_n 1, 1) := by decide +kernel
theorem dX5_readFormat_32 : decode cX5_readFormat 32 = .ok (.iload_n 2, 1) := by decide +kernel
theorem dX5_readFormat_33 : decode cX5_readFormat 33 = .ok (.iastore, 1) := by decide +kernel
theorem dX5_readFormat_34 : decode cX5_readFormat 34 = .ok (.iconst 1, 1) := by decide +kernel
theorem dX5_readFormat_35 : decode cX5_readFormat 35 = .ok (.istore_n 3, 1) := by decide +kernel
theorem dX5_readFormat_36 : decode cX5_readFormat 36 = .ok (.iload_n 3, 1) := by decide +kernel
theorem dX5_readFormat_37 : decode cX5_readFormat 37 = .ok (.aload_n 0, 1) := by decide +kernel
theorem dX5_readFormat_38 : decode cX5_readFormat 38 = .ok (.getfield 15, 3) := by decide +kernel
theorem dX5_readFormat_41 : decode cX5_readFormat 41 = .ok (.getfield 104, 3) := by decide +kernel
theorem dX5_readFormat_44 : decode cX5_readFormat 44 = .ok (.if_icmp .gt 20, 3) := by decide +kernel
theorem dX5_readFormat_47 : decode cX5_readFormat 47 = .ok (.aload_n 0, 1) := by decide +kernel
theorem dX5_readFormat_48 : decode cX5_readFormat 48 = .ok (.iload_n 1, 1) := by decide +kernel
theorem dX5_readFormat_49 : decode cX5_readFormat 49 = .ok (.iload_n 3, 1) := by decide +kernel
theorem dX5_readFormat_50 : decode cX5_readFormat 50 = .ok (.invokevirtual 101, 3) := by decide +kernel
theorem dX5_readFormat_53 : decode cX5_readFormat 53 = .ok (.ifCond .ne 5, 3) := by decide +kernel
theorem dX5_readFormat_56 : decode cX5_readFormat 56 = .ok (.iconst 0, 1) := by decide +kernel
theorem dX5_readFormat_57 : decode cX5_readFormat 57 = .ok (.ireturn, 1) := by decide +kernel
theorem dX5_readFormat_58 : decode cX5_readFormat 58 = .ok (.iinc 3 1, 3) := by decide +kernel
theorem dX5_readFormat_61 : decode cX5_readFormat 61 = .ok (.goto (-25), 3) := by decide +kernel
theorem dX5_readFormat_64 : decode cX5_readFormat 64 = .ok (.aload_n 0, 1) := by decide +kernel
theorem dX5_readFormat_65 : decode cX5_readFormat 65 = .ok (.invokevirtual 62, 3) := by decide +kernel
theorem dX5_readFormat_68 : decode cX5_readFormat 68 = .ok (.ireturn, 1) := by decide +kernel
theorem dX5_takeRate_0 : decode cX5_takeRate 0 = .ok (.aload_n 0, 1) := by decide +kernel
theorem dX5_takeRate_1 : decode cX5_takeRate 1 = .ok (.getfield 76, 3) := by decide +kernel
theorem dX5_takeRate_4 : decode cX5_takeRate 4 = .ok (.iconst 1, 1) := by decide +kernel
theorem dX5_takeRate_5 : decode cX5_takeRate 5 = .ok (.if_icmp .lt 13, 3) := by decide +kernel
theorem dX5_takeRate_8 : decode cX5_takeRate 8 = .ok (.aload_n 0, 1) := by decide +kernel
theorem dX5_takeRate_9 : decode cX5_takeRate 9 = .ok (.getfield 76, 3) := by decide +kernel
theorem dX5_takeRate_12 : decode cX5_takeRate 12 = .ok (.sipush 999, 3) := by decide +kernel
theorem dX5_takeRate_15 : decode cX5_takeRate 15 = .ok (.if_icmp .le 5, 3) := by decide +kernel
theorem dX5_takeRate_18 : decode cX5_takeRate 18 = .ok (.iconst 0, 1) := by decide +kernel
theorem dX5_takeRate_19 : decode cX5_takeRate 19 = .ok (.ireturn, 1) := by decide +kernel
theorem dX5_takeRate_20 : decode cX5_takeRate 20 = .ok (.aload_n 0, 1) := by decide +kernel
theorem dX5_takeRate_21 : decode cX5_takeRate 21 = .ok (.getfield 15, 3) := by decide +kernel
theorem dX5_takeRate_24 : decode cX5_takeRate 24 = .ok (.iload_n 1, 1) := by decide +kernel
theorem dX5_takeRate_25 : decode cX5_takeRate 25 = .ok (.iload_n 2, 1) := by decide +kernel
theorem dX5_takeRate_26 : decode cX5_takeRate 26 = .ok (.aload_n 0, 1) := by decide +kernel
theorem dX5_takeRate_27 : decode cX5_takeRate 27 = .ok (.getfield 76, 3) := by decide +kernel
theorem dX5_takeRate_30 : decode cX5_takeRate 30 = .ok (.invokevirtual 121, 3) := by decide +kernel
theorem dX5_takeRate_33 : decode cX5_takeRate 33 = .ok (.aload_n 0, 1) := by decide +kernel
theorem dX5_takeRate_34 : decode cX5_takeRate 34 = .ok (.invokevirtual 28, 3) := by decide +kernel
theorem dX5_takeRate_37 : decode cX5_takeRate 37 = .ok (.iconst 1, 1) := by decide +kernel
theorem dX5_takeRate_38 : decode cX5_takeRate 38 = .ok (.ireturn, 1) := by decide +kernel
theorem dX5_takeWord_0 : decode cX5_takeWord 0 = .ok (.aload_n 0, 1) := by decide +kernel
theorem dX5_takeWord_1 : decode cX5_takeWord 1 = .ok (.aload_n 1, 1) := by decide +kernel
theorem dX5_takeWord_2 : decode cX5_takeWord 2 = .ok (.invokevirtual 67, 3) := by decide +kernel
theorem dX5_takeWord_5 : decode cX5_takeWord 5 = .ok (.ifCond .ne 5, 3) := by decide +kernel
theorem dX5_takeWord_8 : decode cX5_takeWord 8 = .ok (.iconst 0, 1) := by decide +kernel
theorem dX5_takeWord_9 : decode cX5_takeWord 9 = .ok (.ireturn, 1) := by decide +kernel
theorem dX5_takeWord_10 : decode cX5_takeWord 10 = .ok (.aload_n 0, 1) := by decide +kernel
theorem dX5_takeWord_11 : decode cX5_takeWord 11 = .ok (.invokevirtual 28, 3) := by decide +kernel
theorem dX5_takeWord_14 : decode cX5_takeWord 14 = .ok (.iconst 1, 1) := by decide +kernel
theorem dX5_takeWord_15 : decode cX5_takeWord 15 = .ok (.ireturn, 1) := by decide +kernel
theorem dX5_takeSemicolon_0 : decode cX5_takeSemicolon 0 = .ok (.aload_n 0, 1) := by decide +kernel
theorem dX5_takeSemicolon_1 : decode cX5_takeSemicolon 1 = .ok (.getfield 47, 3) := by decide +kernel
theorem dX5_takeSemicolon_4 : decode cX5_takeSemicolon 4 = .ok (.iconst 3, 1) := by decide +kernel
theorem dX5_takeSemicolon_5 : decode cX5_takeSemicolon 5 = .ok (.if_icmp .eq 5, 3) := by decide +kernel
theorem dX5_takeSemicolon_8 : decode cX5_takeSemicolon 8 = .ok (.iconst 0, 1) := by decide +kernel
theorem dX5_takeSemicolon_9 : decode cX5_takeSemicolon 9 = .ok (.ireturn, 1) := by decide +kernel
theorem dX5_takeSemicolon_10 : decode cX5_takeSemicolon 10 = .ok (.aload_n 0, 1) := by decide +kernel
theorem dX5_takeSemicolon_11 : decode cX5_takeSemicolon 11 = .ok (.invokevirtual 28, 3) := by decide +kernel
theorem dX5_takeSemicolon_14 : decode cX5_takeSemicolon 14 = .ok (.iconst 1, 1) := by decide +kernel
theorem dX5_takeSemicolon_15 : decode cX5_takeSemicolon 15 = .ok (.ireturn, 1) := by decide +kernel
theorem dX5_takeNumber_0 : decode cX5_takeNumber 0 = .ok (.aload_n 0, 1) := by decide +kernel
theorem dX5_takeNumber_1 : decode cX5_takeNumber 1 = .ok (.getfield 47, 3) := by decide +kernel
theorem dX5_takeNumber_4 : decode cX5_takeNumber 4 = .ok (.iconst 2, 1) := by decide +kernel
theorem dX5_takeNumber_5 : decode cX5_takeNumber 5 = .ok (.if_icmp .ne 19, 3) := by decide +kernel
theorem dX5_takeNumber_8 : decode cX5_takeNumber 8 = .ok (.aload_n 0, 1) := by decide +kernel
theorem dX5_takeNumber_9 : decode cX5_takeNumber 9 = .ok (.getfield 76, 3) := by decide +kernel
theorem dX5_takeNumber_12 : decode cX5_takeNumber 12 = .ok (.iload_n 1, 1) := by decide +kernel
theorem dX5_takeNumber_13 : decode cX5_takeNumber 13 = .ok (.if_icmp .lt 11, 3) := by decide +kernel
theorem dX5_takeNumber_16 : decode cX5_takeNumber 16 = .ok (.aload_n 0, 1) := by decide +kernel
theorem dX5_takeNumber_17 : decode cX5_takeNumber 17 = .ok (.getfield 76, 3) := by decide +kernel
theorem dX5_takeNumber_20 : decode cX5_takeNumber 20 = .ok (.iload_n 2, 1) := by decide +kernel
theorem dX5_takeNumber_21 : decode cX5_takeNumber 21 = .ok (.if_icmp .le 5, 3) := by decide +kernel
theorem dX5_takeNumber_24 : decode cX5_takeNumber 24 = .ok (.iconst (-1), 1) := by decide +kernel
theorem dX5_takeNumber_25 : decode cX5_takeNumber 25 = .ok (.ireturn, 1) := by decide +kernel
theorem dX5_takeNumber_26 : decode cX5_takeNumber 26 = .ok (.aload_n 0, 1) := by decide +kernel
theorem dX5_takeNumber_27 : decode cX5_takeNumber 27 = .ok (.getfield 76, 3) := by decide +kernel
theorem dX5_takeNumber_30 : decode cX5_takeNumber 30 = .ok (.istore_n 3, 1) := by decide +kernel
theorem dX5_takeNumber_31 : decode cX5_takeNumber 31 = .ok (.aload_n 0, 1) := by decide +kernel
theorem dX5_takeNumber_32 : decode cX5_takeNumber 32 = .ok (.invokevirtual 28, 3) := by decide +kernel
theorem dX5_takeNumber_35 : decode cX5_takeNumber 35 = .ok (.iload_n 3, 1) := by decide +kernel
theorem dX5_takeNumber_36 : decode cX5_takeNumber 36 = .ok (.ireturn, 1) := by decide +kernel
theorem dX5_isWord_0 : decode cX5_isWord 0 = .ok (.aload_n 0, 1) := by decide +kernel
theorem dX5_isWord_1 : decode cX5_isWord 1 = .ok (.getfield 47, 3) := by decide +kernel
theorem dX5_isWord_4 : decode cX5_isWord 4 = .ok (.iconst 1, 1) := by decide +kernel
theorem dX5_isWord_5 : decode cX5_isWord 5 = .ok (.if_icmp .ne 19, 3) := by decide +kernel
theorem dX5_isWord_8 : decode cX5_isWord 8 = .ok (.aload_n 0, 1) := by decide +kernel
theorem dX5_isWord_9 : decode cX5_isWord 9 = .ok (.getfield 24, 3) := by decide +kernel
theorem dX5_isWord_12 : decode cX5_isWord 12 = .ok (.aload_n 0, 1) := by decide +kernel
theorem dX5_isWord_13 : decode cX5_isWord 13 = .ok (.getfield 125, 3) := by decide +kernel
theorem dX5_isWord_16 : decode cX5_isWord 16 = .ok (.isub, 1) := by decide +kernel
theorem dX5_isWord_17 : decode cX5_isWord 17 = .ok (.aload_n 1, 1) := by decide +kernel
theorem dX5_isWord_18 : decode cX5_isWord 18 = .ok (.invokevirtual 128, 3) := by decide +kernel
theorem dX5_isWord_21 : decode cX5_isWord 21 = .ok (.if_icmp .eq 5, 3) := by decide +kernel
theorem dX5_isWord_24 : decode cX5_isWord 24 = .ok (.iconst 0, 1) := by decide +kernel
theorem dX5_isWord_25 : decode cX5_isWord 25 = .ok (.ireturn, 1) := by decide +kernel
theorem dX5_isWord_26 : decode cX5_isWord 26 = .ok (.iconst 0, 1) := by decide +kernel
theorem dX5_isWord_27 : decode cX5_isWord 27 = .ok (.istore_n 2, 1) := by decide +kernel
theorem dX5_isWord_28 : decode cX5_isWord 28 = .ok (.iload_n 2, 1) := by decide +kernel
theorem dX5_isWord_29 : decode cX5_isWord 29 = .ok (.aload_n 1, 1) := by decide +kernel
theorem dX5_isWord_30 : decode cX5_isWord 30 = .ok (.invokevirtual 128, 3) := by decide +kernel
theorem dX5_isWord_33 : decode cX5_isWord 33 = .ok (.if_icmp .ge 32, 3) := by decide +kernel
theorem dX5_isWord_36 : decode cX5_isWord 36 = .ok (.aload_n 0, 1) := by decide +kernel
theorem dX5_isWord_37 : decode cX5_isWord 37 = .ok (.getfield 9, 3) := by decide +kernel
theorem dX5_isWord_40 : decode cX5_isWord 40 = .ok (.aload_n 0, 1) := by decide +kernel
theorem dX5_isWord_41 : decode cX5_isWord 41 = .ok (.getfield 125, 3) := by decide +kernel
theorem dX5_isWord_44 : decode cX5_isWord 44 = .ok (.iload_n 2, 1) := by decide +kernel
theorem dX5_isWord_45 : decode cX5_isWord 45 = .ok (.iadd, 1) := by decide +kernel
theorem dX5_isWord_46 : decode cX5_isWord 46 = .ok (.invokevirtual 134, 3) := by decide +kernel
theorem dX5_isWord_49 : decode cX5_isWord 49 = .ok (.aload_n 1, 1) := by decide +kernel
theorem dX5_isWord_50 : decode cX5_isWord 50 = .ok (.iload_n 2, 1) := by decide +kernel
theorem dX5_isWord_51 : decode cX5_isWord 51 = .ok (.invokevirtual 140, 3) := by decide +kernel
theorem dX5_isWord_54 : decode cX5_isWord 54 = .ok (.if_icmp .eq 5, 3) := by decide +kernel
theorem dX5_isWord_57 : decode cX5_isWord 57 = .ok (.iconst 0, 1) := by decide +kernel
theorem dX5_isWord_58 : decode cX5_isWord 58 = .ok (.ireturn, 1) := by decide +kernel
theorem dX5_isWord_59 : decode cX5_isWord 59 = .ok (.iinc 2 1, 3) := by decide +kernel
theorem dX5_isWord_62 : decode cX5_isWord 62 = .ok (.goto (-34), 3) := by decide +kernel
theorem dX5_isWord_65 : decode cX5_isWord 65 = .ok (.iconst 1, 1) := by decide +kernel
theorem dX5_isWord_66 : decode cX5_isWord 66 = .ok (.ireturn, 1) := by decide +kernel
theorem dX5_nextToken_0 : decode cX5_nextToken 0 = .ok (.aload_n 0, 1) := by decide +kernel
theorem dX5_nextToken_1 : decode cX5_nextToken 1 = .ok (.aload_n 0, 1) := by decide +kernel
theorem dX5_nextToken_2 : decode cX5_nextToken 2 = .ok (.getfield 24, 3) := by decide +kernel
theorem dX5_nextToken_5 : decode cX5_nextToken 5 = .ok (.putfield 125, 3) := by decide +kernel
theorem dX5_nextToken_8 : decode cX5_nextToken 8 = .ok (.aload_n 0, 1) := by decide +kernel
theorem dX5_nextToken_9 : decode cX5_nextToken 9 = .ok (.getfield 24, 3) := by decide +kernel
theorem dX5_nextToken_12 : decode cX5_nextToken 12 = .ok (.istore_n 1, 1) := by decide +kernel
theorem dX5_nextToken_13 : decode cX5_nextToken 13 = .ok (.iload_n 1, 1) := by decide +kernel
theorem dX5_nextToken_14 : decode cX5_nextToken 14 = .ok (.aload_n 0, 1) := by decide +kernel
theorem dX5_nextToken_15 : decode cX5_nextToken 15 = .ok (.getfield 9, 3) := by decide +kernel
theorem dX5_nextToken_18 : decode cX5_nextToken 18 = .ok (.getfield 144, 3) := by decide +kernel
theorem dX5_nextToken_21 : decode cX5_nextToken 21 = .ok (.if_icmp .ge 30, 3) := by decide +kernel
theorem dX5_nextToken_24 : decode cX5_nextToken 24 = .ok (.aload_n 0, 1) := by decide +kernel
theorem dX5_nextToken_25 : decode cX5_nextToken 25 = .ok (.getfield 9, 3) := by decide +kernel
theorem dX5_nextToken_28 : decode cX5_nextToken 28 = .ok (.iload_n 1, 1) := by decide +kernel
theorem dX5_nextToken_29 : decode cX5_nextToken 29 = .ok (.invokevirtual 134, 3) := by decide +kernel
theorem dX5_nextToken_32 : decode cX5_nextToken 32 = .ok (.invokestatic 146, 3) := by decide +kernel
theorem dX5_nextToken_35 : decode cX5_nextToken 35 = .ok (.ifCond .eq 16, 3) := by decide +kernel
theorem dX5_nextToken_38 : decode cX5_nextToken 38 = .ok (.aload_n 0, 1) := by decide +kernel
theorem dX5_nextToken_39 : decode cX5_nextToken 39 = .ok (.iload_n 1, 1) := by decide +kernel
theorem dX5_nextToken_40 : decode cX5_nextToken 40 = .ok (.iconst 1, 1) := by decide +kernel
theorem dX5_nextToken_41 : decode cX5_nextToken 41 = .ok (.iadd, 1) := by decide +kernel
theorem dX5_nextToken_42 : decode cX5_nextToken 42 = .ok (.putfield 125, 3) := by decide +kernel
theorem dX5_nextToken_45 : decode cX5_nextToken 45 = .ok (.iinc 1 1, 3) := by decide +kernel
theorem dX5_nextToken_48 : decode cX5_nextToken 48 = .ok (.goto (-35), 3) := by decide +kernel
theorem dX5_nextToken_51 : decode cX5_nextToken 51 = .ok (.aload_n 0, 1) := by decide +kernel
theorem dX5_nextToken_52 : decode cX5_nextToken 52 = .ok (.aload_n 0, 1) := by decide +kernel
theorem dX5_nextToken_53 : decode cX5_nextToken 53 = .ok (.getfield 125, 3) := by decide +kernel
theorem dX5_nextToken_56 : decode cX5_nextToken 56 = .ok (.putfield 24, 3) := by decide +kernel
theorem dX5_nextToken_59 : decode cX5_nextToken 59 = .ok (.aload_n 0, 1) := by decide +kernel
theorem dX5_nextToken_60 : decode cX5_nextToken 60 = .ok (.iconst (-1), 1) := by decide +kernel
theorem dX5_nextToken_61 : decode cX5_nextToken 61 = .ok (.putfield 76, 3) := by decide +kernel
theorem dX5_nextToken_64 : decode cX5_nextToken 64 = .ok (.aload_n 0, 1) := by decide +kernel
theorem dX5_nextToken_65 : decode cX5_nextToken 65 = .ok (.getfield 9, 3) := by decide +kernel
theorem dX5_nextToken_68 : decode cX5_nextToken 68 = .ok (.aload_n 0, 1) := by decide +kernel
theorem dX5_nextToken_69 : decode cX5_nextToken 69 = .ok (.getfield 125, 3) := by decide +kernel
theorem dX5_nextToken_72 : decode cX5_nextToken 72 = .ok (.invokevirtual 134, 3) := by decide +kernel
theorem dX5_nextToken_75 : decode cX5_nextToken 75 = .ok (.istore_n 1, 1) := by decide +kernel
theorem dX5_nextToken_76 : decode cX5_nextToken 76 = .ok (.iload_n 1, 1) := by decide +kernel
theorem dX5_nextToken_77 : decode cX5_nextToken 77 = .ok (.iconst (-1), 1) := by decide +kernel
theorem dX5_nextToken_78 : decode cX5_nextToken 78 = .ok (.if_icmp .ne 11, 3) := by decide +kernel
theorem dX5_nextToken_81 : decode cX5_nextToken 81 = .ok (.aload_n 0, 1) := by decide +kernel
theorem dX5_nextToken_82 : decode cX5_nextToken 82 = .ok (.iconst 0, 1) := by decide +kernel
theorem dX5_nextToken_83 : decode cX5_nextToken 83 = .ok (.putfield 47, 3) := by decide +kernel
theorem dX5_nextToken_86 : decode cX5_nextToken 86 = .ok (.goto 61, 3) := by decide +kernel
theorem dX5_nextToken_89 : decode cX5_nextToken 89 = .ok (.iload_n 1, 1) := by decide +kernel
theorem dX5_nextToken_90 : decode cX5_nextToken 90 = .ok (.invokestatic 149, 3) := by decide +kernel
theorem dX5_nextToken_93 : decode cX5_nextToken 93 = .ok (.ifCond .eq 15, 3) := by decide +kernel
theorem dX5_nextToken_96 : decode cX5_nextToken 96 = .ok (.aload_n 0, 1) := by decide +kernel
theorem dX5_nextToken_97 : decode cX5_nextToken 97 = .ok (.iconst 1, 1) := by decide +kernel
theorem dX5_nextToken_98 : decode cX5_nextToken 98 = .ok (.putfield 47, 3) := by decide +kernel
theorem dX5_nextToken_101 : decode cX5_nextToken 101 = .ok (.aload_n 0, 1) := by decide +kernel
theorem dX5_nextToken_102 : decode cX5_nextToken 102 = .ok (.invokevirtual 152, 3) := by decide +kernel
theorem dX5_nextToken_105 : decode cX5_nextToken 105 = .ok (.goto 42, 3) := by decide +kernel
theorem dX5_nextToken_108 : decode cX5_nextToken 108 = .ok (.iload_n 1, 1) := by decide +kernel
theorem dX5_nextToken_109 : decode cX5_nextToken 109 = .ok (.invokestatic 155, 3) := by decide +kernel
theorem dX5_nextToken_112 : decode cX5_nextToken 112 = .ok (.ifCond .eq 10, 3) := by decide +kernel
theorem dX5_nextToken_115 : decode cX5_nextToken 115 = .ok (.aload_n 0, 1) := by decide +kernel
theorem dX5_nextToken_116 : decode cX5_nextToken 116 = .ok (.invokevirtual 158, 3) := by decide +kernel
theorem dX5_nextToken_119 : decode cX5_nextToken 119 = .ok (.goto 28, 3) := by decide +kernel
theorem dX5_nextToken_122 : decode cX5_nextToken 122 = .ok (.aload_n 0, 1) := by decide +kernel
theorem dX5_nextToken_123 : decode cX5_nextToken 123 = .ok (.iload_n 1, 1) := by decide +kernel
theorem dX5_nextToken_124 : decode cX5_nextToken 124 = .ok (.bipush 59, 2) := by decide +kernel
theorem dX5_nextToken_126 : decode cX5_nextToken 126 = .ok (.if_icmp .ne 7, 3) := by decide +kernel
theorem dX5_nextToken_129 : decode cX5_nextToken 129 = .ok (.iconst 3, 1) := by decide +kernel
theorem dX5_nextToken_130 : decode cX5_nextToken 130 = .ok (.goto 4, 3) := by decide +kernel
theorem dX5_nextToken_133 : decode cX5_nextToken 133 = .ok (.iconst 4, 1) := by decide +kernel
theorem dX5_nextToken_134 : decode cX5_nextToken 134 = .ok (.putfield 47, 3) := by decide +kernel
theorem dX5_nextToken_137 : decode cX5_nextToken 137 = .ok (.aload_n 0, 1) := by decide +kernel
theorem dX5_nextToken_138 : decode cX5_nextToken 138 = .ok (.aload_n 0, 1) := by decide +kernel
theorem dX5_nextToken_139 : decode cX5_nextToken 139 = .ok (.getfield 125, 3) := by decide +kernel
theorem dX5_nextToken_142 : decode cX5_nextToken 142 = .ok (.iconst 1, 1) := by decide +kernel
theorem dX5_nextToken_143 : decode cX5_nextToken 143 = .ok (.iadd, 1) := by decide +kernel
theorem dX5_nextToken_144 : decode cX5_nextToken 144 = .ok (.putfield 24, 3) := by decide +kernel
theorem dX5_nextToken_147 : decode cX5_nextToken 147 = .ok (.return_, 1) := by decide +kernel
theorem dX5_endWord_0 : decode cX5_endWord 0 = .ok (.aload_n 0, 1) := by decide +kernel
theorem dX5_endWord_1 : decode cX5_endWord 1 = .ok (.getfield 125, 3) := by decide +kernel
theorem dX5_endWord_4 : decode cX5_endWord 4 = .ok (.istore_n 1, 1) := by decide +kernel
theorem dX5_endWord_5 : decode cX5_endWord 5 = .ok (.iload_n 1, 1) := by decide +kernel
theorem dX5_endWord_6 : decode cX5_endWord 6 = .ok (.aload_n 0, 1) := by decide +kernel
theorem dX5_endWord_7 : decode cX5_endWord 7 = .ok (.getfield 9, 3) := by decide +kernel
theorem dX5_endWord_10 : decode cX5_endWord 10 = .ok (.getfield 144, 3) := by decide +kernel
theorem dX5_endWord_13 : decode cX5_endWord 13 = .ok (.if_icmp .ge 30, 3) := by decide +kernel
theorem dX5_endWord_16 : decode cX5_endWord 16 = .ok (.aload_n 0, 1) := by decide +kernel
theorem dX5_endWord_17 : decode cX5_endWord 17 = .ok (.getfield 9, 3) := by decide +kernel
theorem dX5_endWord_20 : decode cX5_endWord 20 = .ok (.iload_n 1, 1) := by decide +kernel
theorem dX5_endWord_21 : decode cX5_endWord 21 = .ok (.invokevirtual 134, 3) := by decide +kernel
theorem dX5_endWord_24 : decode cX5_endWord 24 = .ok (.invokestatic 149, 3) := by decide +kernel
theorem dX5_endWord_27 : decode cX5_endWord 27 = .ok (.ifCond .eq 16, 3) := by decide +kernel
theorem dX5_endWord_30 : decode cX5_endWord 30 = .ok (.aload_n 0, 1) := by decide +kernel
theorem dX5_endWord_31 : decode cX5_endWord 31 = .ok (.iload_n 1, 1) := by decide +kernel
theorem dX5_endWord_32 : decode cX5_endWord 32 = .ok (.iconst 1, 1) := by decide +kernel
theorem dX5_endWord_33 : decode cX5_endWord 33 = .ok (.iadd, 1) := by decide +kernel
theorem dX5_endWord_34 : decode cX5_endWord 34 = .ok (.putfield 24, 3) := by decide +kernel
theorem dX5_endWord_37 : decode cX5_endWord 37 = .ok (.iinc 1 1, 3) := by decide +kernel
theorem dX5_endWord_40 : decode cX5_endWord 40 = .ok (.goto (-35), 3) := by decide +kernel
theorem dX5_endWord_43 : decode cX5_endWord 43 = .ok (.return_, 1) := by decide +kernel
theorem dX5_endNumber_0 : decode cX5_endNumber 0 = .ok (.iconst 0, 1) := by decide +kernel
theorem dX5_endNumber_1 : decode cX5_endNumber 1 = .ok (.istore_n 1, 1) := by decide +kernel
theorem dX5_endNumber_2 : decode cX5_endNumber 2 = .ok (.aload_n 0, 1) := by decide +kernel
theorem dX5_endNumber_3 : decode cX5_endNumber 3 = .ok (.getfield 125, 3) := by decide +kernel
theorem dX5_endNumber_6 : decode cX5_endNumber 6 = .ok (.istore_n 2, 1) := by decide +kernel
theorem dX5_endNumber_7 : decode cX5_endNumber 7 = .ok (.iload_n 2, 1) := by decide +kernel
theorem dX5_endNumber_8 : decode cX5_endNumber 8 = .ok (.aload_n 0, 1) := by decide +kernel
theorem dX5_endNumber_9 : decode cX5_endNumber 9 = .ok (.getfield 9, 3) := by decide +kernel
theorem dX5_endNumber_12 : decode cX5_endNumber 12 = .ok (.getfield 144, 3) := by decide +kernel
theorem dX5_endNumber_15 : decode cX5_endNumber 15 = .ok (.if_icmp .ge 51, 3) := by decide +kernel
theorem dX5_endNumber_18 : decode cX5_endNumber 18 = .ok (.aload_n 0, 1) := by decide +kernel
theorem dX5_endNumber_19 : decode cX5_endNumber 19 = .ok (.getfield 9, 3) := by decide +kernel
theorem dX5_endNumber_22 : decode cX5_endNumber 22 = .ok (.iload_n 2, 1) := by decide +kernel
theorem dX5_endNumber_23 : decode cX5_endNumber 23 = .ok (.invokevirtual 134, 3) := by decide +kernel
theorem dX5_endNumber_26 : decode cX5_endNumber 26 = .ok (.invokestatic 155, 3) := by decide +kernel
theorem dX5_endNumber_29 : decode cX5_endNumber 29 = .ok (.ifCond .eq 37, 3) := by decide +kernel
theorem dX5_endNumber_32 : decode cX5_endNumber 32 = .ok (.aload_n 0, 1) := by decide +kernel
theorem dX5_endNumber_33 : decode cX5_endNumber 33 = .ok (.iload_n 2, 1) := by decide +kernel
theorem dX5_endNumber_34 : decode cX5_endNumber 34 = .ok (.iconst 1, 1) := by decide +kernel
theorem dX5_endNumber_35 : decode cX5_endNumber 35 = .ok (.iadd, 1) := by decide +kernel
theorem dX5_endNumber_36 : decode cX5_endNumber 36 = .ok (.putfield 24, 3) := by decide +kernel
theorem dX5_endNumber_39 : decode cX5_endNumber 39 = .ok (.iload_n 1, 1) := by decide +kernel
theorem dX5_endNumber_40 : decode cX5_endNumber 40 = .ok (.bipush 10, 2) := by decide +kernel
theorem dX5_endNumber_42 : decode cX5_endNumber 42 = .ok (.imul, 1) := by decide +kernel
theorem dX5_endNumber_43 : decode cX5_endNumber 43 = .ok (.aload_n 0, 1) := by decide +kernel
theorem dX5_endNumber_44 : decode cX5_endNumber 44 = .ok (.getfield 9, 3) := by decide +kernel
theorem dX5_endNumber_47 : decode cX5_endNumber 47 = .ok (.iload_n 2, 1) := by decide +kernel
theorem dX5_endNumber_48 : decode cX5_endNumber 48 = .ok (.invokevirtual 134, 3) := by decide +kernel
theorem dX5_endNumber_51 : decode cX5_endNumber 51 = .ok (.iadd, 1) := by decide +kernel
theorem dX5_endNumber_52 : decode cX5_endNumber 52 = .ok (.bipush 48, 2) := by decide +kernel
theorem dX5_endNumber_54 : decode cX5_endNumber 54 = .ok (.isub, 1) := by decide +kernel
theorem dX5_endNumber_55 : decode cX5_endNumber 55 = .ok (.sipush 10000, 3) := by decide +kernel
theorem dX5_endNumber_58 : decode cX5_endNumber 58 = .ok (.irem, 1) := by decide +kernel
theorem dX5_endNumber_59 : decode cX5_endNumber 59 = .ok (.istore_n 1, 1) := by decide +kernel
theorem dX5_endNumber_60 : decode cX5_endNumber 60 = .ok (.iinc 2 1, 3) := by decide +kernel
theorem dX5_endNumber_63 : decode cX5_endNumber 63 = .ok (.goto (-56), 3) := by decide +kernel
theorem dX5_endNumber_66 : decode cX5_endNumber 66 = .ok (.aload_n 0, 1) := by decide +kernel
theorem dX5_endNumber_67 : decode cX5_endNumber 67 = .ok (.getfield 24, 3) := by decide +kernel
theorem dX5_endNumber_70 : decode cX5_endNumber 70 = .ok (.aload_n 0, 1) := by decide +kernel
theorem dX5_endNumber_71 : decode cX5_endNumber 71 = .ok (.getfield 125, 3) := by decide +kernel
theorem dX5_endNumber_74 : decode cX5_endNumber 74 = .ok (.isub, 1) := by decide +kernel
theorem dX5_endNumber_75 : decode cX5_endNumber 75 = .ok (.iconst 4, 1) := by decide +kernel
theorem dX5_endNumber_76 : decode cX5_endNumber 76 = .ok (.if_icmp .gt 7, 3) := by decide +kernel
theorem dX5_endNumber_79 : decode cX5_endNumber 79 = .ok (.iconst 1, 1) := by decide +kernel
theorem dX5_endNumber_80 : decode cX5_endNumber 80 = .ok (.goto 4, 3) := by decide +kernel
theorem dX5_endNumber_83 : decode cX5_endNumber 83 = .ok (.iconst 0, 1) := by decide +kernel
theorem dX5_endNumber_84 : decode cX5_endNumber 84 = .ok (.istore_n 2, 1) := by decide +kernel
theorem dX5_endNumber_85 : decode cX5_endNumber 85 = .ok (.aload_n 0, 1) := by decide +kernel
theorem dX5_endNumber_86 : decode cX5_endNumber 86 = .ok (.iload_n 2, 1) := by decide +kernel
theorem dX5_endNumber_87 : decode cX5_endNumber 87 = .ok (.ifCond .eq 7, 3) := by decide +kernel
theorem dX5_endNumber_90 : decode cX5_endNumber 90 = .ok (.iconst 2, 1) := by decide +kernel
theorem dX5_endNumber_91 : decode cX5_endNumber 91 = .ok (.goto 4, 3) := by decide +kernel
theorem dX5_endNumber_94 : decode cX5_endNumber 94 = .ok (.iconst 4, 1) := by decide +kernel
theorem dX5_endNumber_95 : decode cX5_endNumber 95 = .ok (.putfield 47, 3) := by decide +kernel
theorem dX5_endNumber_98 : decode cX5_endNumber 98 = .ok (.aload_n 0, 1) := by decide +kernel
theorem dX5_endNumber_99 : decode cX5_endNumber 99 = .ok (.iload_n 2, 1) := by decide +kernel
theorem dX5_endNumber_100 : decode cX5_endNumber 100 = .ok (.ifCond .eq 7, 3) := by decide +kernel
theorem dX5_endNumber_103 : decode cX5_endNumber 103 = .ok (.iload_n 1, 1) := by decide +kernel
theorem dX5_endNumber_104 : decode cX5_endNumber 104 = .ok (.goto 4, 3) := by decide +kernel
theorem dX5_endNumber_107 : decode cX5_endNumber 107 = .ok (.iconst (-1), 1) := by decide +kernel
theorem dX5_endNumber_108 : decode cX5_endNumber 108 = .ok (.putfield 76, 3) := by decide +kernel
theorem dX5_endNumber_111 : decode cX5_endNumber 111 = .ok (.return_, 1) := by decide +kernel
theorem dX5_isSpace_0 : decode cX5_isSpace 0 = .ok (.iload_n 0, 1) := by decide +kernel
theorem dX5_isSpace_1 : decode cX5_isSpace 1 = .ok (.bipush 32, 2) := by decide +kernel
theorem dX5_isSpace_3 : decode cX5_isSpace 3 = .ok (.if_icmp .eq 9, 3) := by decide +kernel
theorem dX5_isSpace_6 : decode cX5_isSpace 6 = .ok (.iload_n 0, 1) := by decide +kernel
theorem dX5_isSpace_7 : decode cX5_isSpace 7 = .ok (.bipush 10, 2) := by decide +kernel
theorem dX5_isSpace_9 : decode cX5_isSpace 9 = .ok (.if_icmp .ne 7, 3) := by decide +kernel
theorem dX5_isSpace_12 : decode cX5_isSpace 12 = .ok (.iconst 1, 1) := by decide +kernel
theorem dX5_isSpace_13 : decode cX5_isSpace 13 = .ok (.goto 4, 3) := by decide +kernel
theorem dX5_isSpace_16 : decode cX5_isSpace 16 = .ok (.iconst 0, 1) := by decide +kernel
theorem dX5_isSpace_17 : decode cX5_isSpace 17 = .ok (.ireturn, 1) := by decide +kernel
theorem dX5_isLetter_0 : decode cX5_isLetter 0 = .ok (.iload_n 0, 1) := by decide +kernel
theorem dX5_isLetter_1 : decode cX5_isLetter 1 = .ok (.bipush 97, 2) := by decide +kernel
theorem dX5_isLetter_3 : decode cX5_isLetter 3 = .ok (.if_icmp .lt 13, 3) := by decide +kernel
theorem dX5_isLetter_6 : decode cX5_isLetter 6 = .ok (.iload_n 0, 1) := by decide +kernel
theorem dX5_isLetter_7 : decode cX5_isLetter 7 = .ok (.bipush 122, 2) := by decide +kernel
theorem dX5_isLetter_9 : decode cX5_isLetter 9 = .ok (.if_icmp .gt 7, 3) := by decide +kernel
theorem dX5_isLetter_12 : decode cX5_isLetter 12 = .ok (.iconst 1, 1) := by decide +kernel
theorem dX5_isLetter_13 : decode cX5_isLetter 13 = .ok (.goto 4, 3) := by decide +kernel
theorem dX5_isLetter_16 : decode cX5_isLetter 16 = .ok (.iconst 0, 1) := by decide +kernel
theorem dX5_isLetter_17 : decode cX5_isLetter 17 = .ok (.ireturn, 1) := by decide +kernel
theorem dX5_isDigit_0 : decode cX5_isDigit 0 = .ok (.iload_n 0, 1) := by decide +kernel
theorem dX5_isDigit_1 : decode cX5_isDigit 1 = .ok (.bipush 48, 2) := by decide +kernel
theorem dX5_isDigit_3 : decode cX5_isDigit 3 = .ok (.if_icmp .lt 13, 3) := by decide +kernel
theorem dX5_isDigit_6 : decode cX5_isDigit 6 = .ok (.iload_n 0, 1) := by decide +kernel
theorem dX5_isDigit_7 : decode cX5_isDigit 7 = .ok (.bipush 57, 2) := by decide +kernel
theorem dX5_isDigit_9 : decode cX5_isDigit 9 = .ok (.if_icmp .gt 7, 3) := by decide +kernel
theorem dX5_isDigit_12 : decode cX5_isDigit 12 = .ok (.iconst 1, 1) := by decide +kernel
theorem dX5_isDigit_13 : decode cX5_isDigit 13 = .ok (.goto 4, 3) := by decide +kernel
theorem dX5_isDigit_16 : decode cX5_isDigit 16 = .ok (.iconst 0, 1) := by decide +kernel
theorem dX5_isDigit_17 : decode cX5_isDigit 17 = .ok (.ireturn, 1) := by decide +kernel
