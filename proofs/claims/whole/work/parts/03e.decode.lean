theorem dX6_init_0 : decode cX6_init 0 = .ok (.aload_n 0, 1) := by decide +kernel
theorem dX6_init_1 : decode cX6_init 1 = .ok (.invokespecial 3, 3) := by decide +kernel
theorem dX6_init_4 : decode cX6_init 4 = .ok (.aload_n 0, 1) := by decide +kernel
theorem dX6_init_5 : decode cX6_init 5 = .ok (.aload_n 1, 1) := by decide +kernel
theorem dX6_init_6 : decode cX6_init 6 = .ok (.putfield 9, 3) := by decide +kernel
theorem dX6_init_9 : decode cX6_init 9 = .ok (.aload_n 0, 1) := by decide +kernel
theorem dX6_init_10 : decode cX6_init 10 = .ok (.aload_n 2, 1) := by decide +kernel
theorem dX6_init_11 : decode cX6_init 11 = .ok (.putfield 15, 3) := by decide +kernel
theorem dX6_init_14 : decode cX6_init 14 = .ok (.return_, 1) := by decide +kernel
theorem dX6_uplink_0 : decode cX6_uplink 0 = .ok (.aload_n 0, 1) := by decide +kernel
theorem dX6_uplink_1 : decode cX6_uplink 1 = .ok (.getfield 15, 3) := by decide +kernel
theorem dX6_uplink_4 : decode cX6_uplink 4 = .ok (.getfield 19, 3) := by decide +kernel
theorem dX6_uplink_7 : decode cX6_uplink 7 = .ok (.iload_n 1, 1) := by decide +kernel
theorem dX6_uplink_8 : decode cX6_uplink 8 = .ok (.iaload, 1) := by decide +kernel
theorem dX6_uplink_9 : decode cX6_uplink 9 = .ok (.istore_n 2, 1) := by decide +kernel
theorem dX6_uplink_10 : decode cX6_uplink 10 = .ok (.iload_n 2, 1) := by decide +kernel
theorem dX6_uplink_11 : decode cX6_uplink 11 = .ok (.iconst (-1), 1) := by decide +kernel
theorem dX6_uplink_12 : decode cX6_uplink 12 = .ok (.if_icmp .ne 7, 3) := by decide +kernel
theorem dX6_uplink_15 : decode cX6_uplink 15 = .ok (.iconst (-1), 1) := by decide +kernel
theorem dX6_uplink_16 : decode cX6_uplink 16 = .ok (.goto 17, 3) := by decide +kernel
theorem dX6_uplink_19 : decode cX6_uplink 19 = .ok (.aload_n 0, 1) := by decide +kernel
theorem dX6_uplink_20 : decode cX6_uplink 20 = .ok (.getfield 9, 3) := by decide +kernel
theorem dX6_uplink_23 : decode cX6_uplink 23 = .ok (.getfield 25, 3) := by decide +kernel
theorem dX6_uplink_26 : decode cX6_uplink 26 = .ok (.iload_n 2, 1) := by decide +kernel
theorem dX6_uplink_27 : decode cX6_uplink 27 = .ok (.bipush 16, 2) := by decide +kernel
theorem dX6_uplink_29 : decode cX6_uplink 29 = .ok (.imul, 1) := by decide +kernel
theorem dX6_uplink_30 : decode cX6_uplink 30 = .ok (.iload_n 1, 1) := by decide +kernel
theorem dX6_uplink_31 : decode cX6_uplink 31 = .ok (.iadd, 1) := by decide +kernel
theorem dX6_uplink_32 : decode cX6_uplink 32 = .ok (.iaload, 1) := by decide +kernel
theorem dX6_uplink_33 : decode cX6_uplink 33 = .ok (.ireturn, 1) := by decide +kernel
theorem dX6_delayTo_0 : decode cX6_delayTo 0 = .ok (.iconst 0, 1) := by decide +kernel
theorem dX6_delayTo_1 : decode cX6_delayTo 1 = .ok (.istore_n 2, 1) := by decide +kernel
theorem dX6_delayTo_2 : decode cX6_delayTo 2 = .ok (.iload_n 1, 1) := by decide +kernel
theorem dX6_delayTo_3 : decode cX6_delayTo 3 = .ok (.istore_n 3, 1) := by decide +kernel
theorem dX6_delayTo_4 : decode cX6_delayTo 4 = .ok (.iconst 0, 1) := by decide +kernel
theorem dX6_delayTo_5 : decode cX6_delayTo 5 = .ok (.istore 4, 2) := by decide +kernel
theorem dX6_delayTo_7 : decode cX6_delayTo 7 = .ok (.iload 4, 2) := by decide +kernel
theorem dX6_delayTo_9 : decode cX6_delayTo 9 = .ok (.bipush 16, 2) := by decide +kernel
theorem dX6_delayTo_11 : decode cX6_delayTo 11 = .ok (.if_icmp .ge 77, 3) := by decide +kernel
theorem dX6_delayTo_14 : decode cX6_delayTo 14 = .ok (.iload_n 3, 1) := by decide +kernel
theorem dX6_delayTo_15 : decode cX6_delayTo 15 = .ok (.ifCond .le 73, 3) := by decide +kernel
theorem dX6_delayTo_18 : decode cX6_delayTo 18 = .ok (.aload_n 0, 1) := by decide +kernel
theorem dX6_delayTo_19 : decode cX6_delayTo 19 = .ok (.getfield 15, 3) := by decide +kernel
theorem dX6_delayTo_22 : decode cX6_delayTo 22 = .ok (.getfield 19, 3) := by decide +kernel
theorem dX6_delayTo_25 : decode cX6_delayTo 25 = .ok (.iload_n 3, 1) := by decide +kernel
theorem dX6_delayTo_26 : decode cX6_delayTo 26 = .ok (.iaload, 1) := by decide +kernel
theorem dX6_delayTo_27 : decode cX6_delayTo 27 = .ok (.istore 5, 2) := by decide +kernel
theorem dX6_delayTo_29 : decode cX6_delayTo 29 = .ok (.iload 5, 2) := by decide +kernel
theorem dX6_delayTo_31 : decode cX6_delayTo 31 = .ok (.iconst (-1), 1) := by decide +kernel
theorem dX6_delayTo_32 : decode cX6_delayTo 32 = .ok (.if_icmp .ne 7, 3) := by decide +kernel
theorem dX6_delayTo_35 : decode cX6_delayTo 35 = .ok (.iconst (-1), 1) := by decide +kernel
theorem dX6_delayTo_36 : decode cX6_delayTo 36 = .ok (.goto 18, 3) := by decide +kernel
theorem dX6_delayTo_39 : decode cX6_delayTo 39 = .ok (.aload_n 0, 1) := by decide +kernel
theorem dX6_delayTo_40 : decode cX6_delayTo 40 = .ok (.getfield 9, 3) := by decide +kernel
theorem dX6_delayTo_43 : decode cX6_delayTo 43 = .ok (.getfield 25, 3) := by decide +kernel
theorem dX6_delayTo_46 : decode cX6_delayTo 46 = .ok (.iload 5, 2) := by decide +kernel
theorem dX6_delayTo_48 : decode cX6_delayTo 48 = .ok (.bipush 16, 2) := by decide +kernel
theorem dX6_delayTo_50 : decode cX6_delayTo 50 = .ok (.imul, 1) := by decide +kernel
theorem dX6_delayTo_51 : decode cX6_delayTo 51 = .ok (.iload_n 3, 1) := by decide +kernel
theorem dX6_delayTo_52 : decode cX6_delayTo 52 = .ok (.iadd, 1) := by decide +kernel
theorem dX6_delayTo_53 : decode cX6_delayTo 53 = .ok (.iaload, 1) := by decide +kernel
theorem dX6_delayTo_54 : decode cX6_delayTo 54 = .ok (.istore 6, 2) := by decide +kernel
theorem dX6_delayTo_56 : decode cX6_delayTo 56 = .ok (.iload_n 2, 1) := by decide +kernel
theorem dX6_delayTo_57 : decode cX6_delayTo 57 = .ok (.iload 6, 2) := by decide +kernel
theorem dX6_delayTo_59 : decode cX6_delayTo 59 = .ok (.iconst (-1), 1) := by decide +kernel
theorem dX6_delayTo_60 : decode cX6_delayTo 60 = .ok (.if_icmp .ne 7, 3) := by decide +kernel
theorem dX6_delayTo_63 : decode cX6_delayTo 63 = .ok (.iconst 0, 1) := by decide +kernel
theorem dX6_delayTo_64 : decode cX6_delayTo 64 = .ok (.goto 13, 3) := by decide +kernel
theorem dX6_delayTo_67 : decode cX6_delayTo 67 = .ok (.aload_n 0, 1) := by decide +kernel
theorem dX6_delayTo_68 : decode cX6_delayTo 68 = .ok (.getfield 9, 3) := by decide +kernel
theorem dX6_delayTo_71 : decode cX6_delayTo 71 = .ok (.getfield 30, 3) := by decide +kernel
theorem dX6_delayTo_74 : decode cX6_delayTo 74 = .ok (.iload 6, 2) := by decide +kernel
theorem dX6_delayTo_76 : decode cX6_delayTo 76 = .ok (.iaload, 1) := by decide +kernel
theorem dX6_delayTo_77 : decode cX6_delayTo 77 = .ok (.iadd, 1) := by decide +kernel
theorem dX6_delayTo_78 : decode cX6_delayTo 78 = .ok (.istore_n 2, 1) := by decide +kernel
theorem dX6_delayTo_79 : decode cX6_delayTo 79 = .ok (.iload 5, 2) := by decide +kernel
theorem dX6_delayTo_81 : decode cX6_delayTo 81 = .ok (.istore_n 3, 1) := by decide +kernel
theorem dX6_delayTo_82 : decode cX6_delayTo 82 = .ok (.iinc 4 1, 3) := by decide +kernel
theorem dX6_delayTo_85 : decode cX6_delayTo 85 = .ok (.goto (-78), 3) := by decide +kernel
theorem dX6_delayTo_88 : decode cX6_delayTo 88 = .ok (.iload_n 2, 1) := by decide +kernel
theorem dX6_delayTo_89 : decode cX6_delayTo 89 = .ok (.ireturn, 1) := by decide +kernel
theorem dX6_greatestDelay_0 : decode cX6_greatestDelay 0 = .ok (.iconst 0, 1) := by decide +kernel
theorem dX6_greatestDelay_1 : decode cX6_greatestDelay 1 = .ok (.istore_n 1, 1) := by decide +kernel
theorem dX6_greatestDelay_2 : decode cX6_greatestDelay 2 = .ok (.iconst 0, 1) := by decide +kernel
theorem dX6_greatestDelay_3 : decode cX6_greatestDelay 3 = .ok (.istore_n 2, 1) := by decide +kernel
theorem dX6_greatestDelay_4 : decode cX6_greatestDelay 4 = .ok (.iload_n 2, 1) := by decide +kernel
theorem dX6_greatestDelay_5 : decode cX6_greatestDelay 5 = .ok (.aload_n 0, 1) := by decide +kernel
theorem dX6_greatestDelay_6 : decode cX6_greatestDelay 6 = .ok (.getfield 9, 3) := by decide +kernel
theorem dX6_greatestDelay_9 : decode cX6_greatestDelay 9 = .ok (.getfield 33, 3) := by decide +kernel
theorem dX6_greatestDelay_12 : decode cX6_greatestDelay 12 = .ok (.if_icmp .ge 19, 3) := by decide +kernel
theorem dX6_greatestDelay_15 : decode cX6_greatestDelay 15 = .ok (.iload_n 1, 1) := by decide +kernel
theorem dX6_greatestDelay_16 : decode cX6_greatestDelay 16 = .ok (.aload_n 0, 1) := by decide +kernel
theorem dX6_greatestDelay_17 : decode cX6_greatestDelay 17 = .ok (.iload_n 2, 1) := by decide +kernel
theorem dX6_greatestDelay_18 : decode cX6_greatestDelay 18 = .ok (.invokevirtual 37, 3) := by decide +kernel
theorem dX6_greatestDelay_21 : decode cX6_greatestDelay 21 = .ok (.invokestatic 41, 3) := by decide +kernel
theorem dX6_greatestDelay_24 : decode cX6_greatestDelay 24 = .ok (.istore_n 1, 1) := by decide +kernel
theorem dX6_greatestDelay_25 : decode cX6_greatestDelay 25 = .ok (.iinc 2 1, 3) := by decide +kernel
theorem dX6_greatestDelay_28 : decode cX6_greatestDelay 28 = .ok (.goto (-24), 3) := by decide +kernel
theorem dX6_greatestDelay_31 : decode cX6_greatestDelay 31 = .ok (.iload_n 1, 1) := by decide +kernel
theorem dX6_greatestDelay_32 : decode cX6_greatestDelay 32 = .ok (.ireturn, 1) := by decide +kernel
theorem dX6_pathStart_0 : decode cX6_pathStart 0 = .ok (.aload_n 0, 1) := by decide +kernel
theorem dX6_pathStart_1 : decode cX6_pathStart 1 = .ok (.getfield 15, 3) := by decide +kernel
theorem dX6_pathStart_4 : decode cX6_pathStart 4 = .ok (.getfield 47, 3) := by decide +kernel
theorem dX6_pathStart_7 : decode cX6_pathStart 7 = .ok (.iload_n 1, 1) := by decide +kernel
theorem dX6_pathStart_8 : decode cX6_pathStart 8 = .ok (.iaload, 1) := by decide +kernel
theorem dX6_pathStart_9 : decode cX6_pathStart 9 = .ok (.ifCond .le 15, 3) := by decide +kernel
theorem dX6_pathStart_12 : decode cX6_pathStart 12 = .ok (.aload_n 0, 1) := by decide +kernel
theorem dX6_pathStart_13 : decode cX6_pathStart 13 = .ok (.getfield 15, 3) := by decide +kernel
theorem dX6_pathStart_16 : decode cX6_pathStart 16 = .ok (.getfield 50, 3) := by decide +kernel
theorem dX6_pathStart_19 : decode cX6_pathStart 19 = .ok (.iload_n 1, 1) := by decide +kernel
theorem dX6_pathStart_20 : decode cX6_pathStart 20 = .ok (.iaload, 1) := by decide +kernel
theorem dX6_pathStart_21 : decode cX6_pathStart 21 = .ok (.goto 4, 3) := by decide +kernel
theorem dX6_pathStart_24 : decode cX6_pathStart 24 = .ok (.iconst (-1), 1) := by decide +kernel
theorem dX6_pathStart_25 : decode cX6_pathStart 25 = .ok (.ireturn, 1) := by decide +kernel
theorem dX6_pathNodes_0 : decode cX6_pathNodes 0 = .ok (.aload_n 0, 1) := by decide +kernel
theorem dX6_pathNodes_1 : decode cX6_pathNodes 1 = .ok (.aload_n 0, 1) := by decide +kernel
theorem dX6_pathNodes_2 : decode cX6_pathNodes 2 = .ok (.iload_n 1, 1) := by decide +kernel
theorem dX6_pathNodes_3 : decode cX6_pathNodes 3 = .ok (.invokevirtual 53, 3) := by decide +kernel
theorem dX6_pathNodes_6 : decode cX6_pathNodes 6 = .ok (.invokevirtual 56, 3) := by decide +kernel
theorem dX6_pathNodes_9 : decode cX6_pathNodes 9 = .ok (.ireturn, 1) := by decide +kernel
theorem dX6_nodesUp_0 : decode cX6_nodesUp 0 = .ok (.iconst 0, 1) := by decide +kernel
theorem dX6_nodesUp_1 : decode cX6_nodesUp 1 = .ok (.istore_n 2, 1) := by decide +kernel
theorem dX6_nodesUp_2 : decode cX6_nodesUp 2 = .ok (.iload_n 1, 1) := by decide +kernel
theorem dX6_nodesUp_3 : decode cX6_nodesUp 3 = .ok (.istore_n 3, 1) := by decide +kernel
theorem dX6_nodesUp_4 : decode cX6_nodesUp 4 = .ok (.iconst 0, 1) := by decide +kernel
theorem dX6_nodesUp_5 : decode cX6_nodesUp 5 = .ok (.istore 4, 2) := by decide +kernel
theorem dX6_nodesUp_7 : decode cX6_nodesUp 7 = .ok (.iload 4, 2) := by decide +kernel
theorem dX6_nodesUp_9 : decode cX6_nodesUp 9 = .ok (.bipush 16, 2) := by decide +kernel
theorem dX6_nodesUp_11 : decode cX6_nodesUp 11 = .ok (.if_icmp .ge 30, 3) := by decide +kernel
theorem dX6_nodesUp_14 : decode cX6_nodesUp 14 = .ok (.iload_n 3, 1) := by decide +kernel
theorem dX6_nodesUp_15 : decode cX6_nodesUp 15 = .ok (.iconst (-1), 1) := by decide +kernel
theorem dX6_nodesUp_16 : decode cX6_nodesUp 16 = .ok (.if_icmp .eq 25, 3) := by decide +kernel
theorem dX6_nodesUp_19 : decode cX6_nodesUp 19 = .ok (.iload_n 2, 1) := by decide +kernel
theorem dX6_nodesUp_20 : decode cX6_nodesUp 20 = .ok (.iconst 1, 1) := by decide +kernel
theorem dX6_nodesUp_21 : decode cX6_nodesUp 21 = .ok (.iload_n 3, 1) := by decide +kernel
theorem dX6_nodesUp_22 : decode cX6_nodesUp 22 = .ok (.ishl, 1) := by decide +kernel
theorem dX6_nodesUp_23 : decode cX6_nodesUp 23 = .ok (.ior, 1) := by decide +kernel
theorem dX6_nodesUp_24 : decode cX6_nodesUp 24 = .ok (.istore_n 2, 1) := by decide +kernel
theorem dX6_nodesUp_25 : decode cX6_nodesUp 25 = .ok (.aload_n 0, 1) := by decide +kernel
theorem dX6_nodesUp_26 : decode cX6_nodesUp 26 = .ok (.getfield 15, 3) := by decide +kernel
theorem dX6_nodesUp_29 : decode cX6_nodesUp 29 = .ok (.getfield 19, 3) := by decide +kernel
theorem dX6_nodesUp_32 : decode cX6_nodesUp 32 = .ok (.iload_n 3, 1) := by decide +kernel
theorem dX6_nodesUp_33 : decode cX6_nodesUp 33 = .ok (.iaload, 1) := by decide +kernel
theorem dX6_nodesUp_34 : decode cX6_nodesUp 34 = .ok (.istore_n 3, 1) := by decide +kernel
theorem dX6_nodesUp_35 : decode cX6_nodesUp 35 = .ok (.iinc 4 1, 3) := by decide +kernel
theorem dX6_nodesUp_38 : decode cX6_nodesUp 38 = .ok (.goto (-31), 3) := by decide +kernel
theorem dX6_nodesUp_41 : decode cX6_nodesUp 41 = .ok (.iload_n 2, 1) := by decide +kernel
theorem dX6_nodesUp_42 : decode cX6_nodesUp 42 = .ok (.ireturn, 1) := by decide +kernel
theorem dX6_subtree_0 : decode cX6_subtree 0 = .ok (.iconst 0, 1) := by decide +kernel
theorem dX6_subtree_1 : decode cX6_subtree 1 = .ok (.istore_n 2, 1) := by decide +kernel
theorem dX6_subtree_2 : decode cX6_subtree 2 = .ok (.iconst 0, 1) := by decide +kernel
theorem dX6_subtree_3 : decode cX6_subtree 3 = .ok (.istore_n 3, 1) := by decide +kernel
theorem dX6_subtree_4 : decode cX6_subtree 4 = .ok (.iload_n 3, 1) := by decide +kernel
theorem dX6_subtree_5 : decode cX6_subtree 5 = .ok (.aload_n 0, 1) := by decide +kernel
theorem dX6_subtree_6 : decode cX6_subtree 6 = .ok (.getfield 9, 3) := by decide +kernel
theorem dX6_subtree_9 : decode cX6_subtree 9 = .ok (.getfield 33, 3) := by decide +kernel
theorem dX6_subtree_12 : decode cX6_subtree 12 = .ok (.if_icmp .ge 40, 3) := by decide +kernel
theorem dX6_subtree_15 : decode cX6_subtree 15 = .ok (.aload_n 0, 1) := by decide +kernel
theorem dX6_subtree_16 : decode cX6_subtree 16 = .ok (.getfield 15, 3) := by decide +kernel
theorem dX6_subtree_19 : decode cX6_subtree 19 = .ok (.getfield 59, 3) := by decide +kernel
theorem dX6_subtree_22 : decode cX6_subtree 22 = .ok (.iload_n 3, 1) := by decide +kernel
theorem dX6_subtree_23 : decode cX6_subtree 23 = .ok (.baload, 1) := by decide +kernel
theorem dX6_subtree_24 : decode cX6_subtree 24 = .ok (.ifCond .eq 22, 3) := by decide +kernel
theorem dX6_subtree_27 : decode cX6_subtree 27 = .ok (.aload_n 0, 1) := by decide +kernel
theorem dX6_subtree_28 : decode cX6_subtree 28 = .ok (.iload_n 3, 1) := by decide +kernel
theorem dX6_subtree_29 : decode cX6_subtree 29 = .ok (.invokevirtual 56, 3) := by decide +kernel
theorem dX6_subtree_32 : decode cX6_subtree 32 = .ok (.iload_n 1, 1) := by decide +kernel
theorem dX6_subtree_33 : decode cX6_subtree 33 = .ok (.ishr, 1) := by decide +kernel
theorem dX6_subtree_34 : decode cX6_subtree 34 = .ok (.iconst 1, 1) := by decide +kernel
theorem dX6_subtree_35 : decode cX6_subtree 35 = .ok (.iand, 1) := by decide +kernel
theorem dX6_subtree_36 : decode cX6_subtree 36 = .ok (.iconst 1, 1) := by decide +kernel
theorem dX6_subtree_37 : decode cX6_subtree 37 = .ok (.if_icmp .ne 9, 3) := by decide +kernel
theorem dX6_subtree_40 : decode cX6_subtree 40 = .ok (.iload_n 2, 1) := by decide +kernel
theorem dX6_subtree_41 : decode cX6_subtree 41 = .ok (.iconst 1, 1) := by decide +kernel
theorem dX6_subtree_42 : decode cX6_subtree 42 = .ok (.iload_n 3, 1) := by decide +kernel
theorem dX6_subtree_43 : decode cX6_subtree 43 = .ok (.ishl, 1) := by decide +kernel
theorem dX6_subtree_44 : decode cX6_subtree 44 = .ok (.ior, 1) := by decide +kernel
theorem dX6_subtree_45 : decode cX6_subtree 45 = .ok (.istore_n 2, 1) := by decide +kernel
theorem dX6_subtree_46 : decode cX6_subtree 46 = .ok (.iinc 3 1, 3) := by decide +kernel
theorem dX6_subtree_49 : decode cX6_subtree 49 = .ok (.goto (-45), 3) := by decide +kernel
theorem dX6_subtree_52 : decode cX6_subtree 52 = .ok (.iload_n 2, 1) := by decide +kernel
theorem dX6_subtree_53 : decode cX6_subtree 53 = .ok (.ireturn, 1) := by decide +kernel
theorem dX6_servingNode_0 : decode cX6_servingNode 0 = .ok (.aload_n 0, 1) := by decide +kernel
theorem dX6_servingNode_1 : decode cX6_servingNode 1 = .ok (.getfield 15, 3) := by decide +kernel
theorem dX6_servingNode_4 : decode cX6_servingNode 4 = .ok (.getfield 63, 3) := by decide +kernel
theorem dX6_servingNode_7 : decode cX6_servingNode 7 = .ok (.iload_n 1, 1) := by decide +kernel
theorem dX6_servingNode_8 : decode cX6_servingNode 8 = .ok (.iaload, 1) := by decide +kernel
theorem dX6_servingNode_9 : decode cX6_servingNode 9 = .ok (.istore_n 2, 1) := by decide +kernel
theorem dX6_servingNode_10 : decode cX6_servingNode 10 = .ok (.aload_n 0, 1) := by decide +kernel
theorem dX6_servingNode_11 : decode cX6_servingNode 11 = .ok (.iload_n 1, 1) := by decide +kernel
theorem dX6_servingNode_12 : decode cX6_servingNode 12 = .ok (.invokevirtual 53, 3) := by decide +kernel
theorem dX6_servingNode_15 : decode cX6_servingNode 15 = .ok (.istore_n 3, 1) := by decide +kernel
theorem dX6_servingNode_16 : decode cX6_servingNode 16 = .ok (.iconst 0, 1) := by decide +kernel
theorem dX6_servingNode_17 : decode cX6_servingNode 17 = .ok (.istore 4, 2) := by decide +kernel
theorem dX6_servingNode_19 : decode cX6_servingNode 19 = .ok (.iload 4, 2) := by decide +kernel
theorem dX6_servingNode_21 : decode cX6_servingNode 21 = .ok (.bipush 16, 2) := by decide +kernel
theorem dX6_servingNode_23 : decode cX6_servingNode 23 = .ok (.if_icmp .ge 42, 3) := by decide +kernel
theorem dX6_servingNode_26 : decode cX6_servingNode 26 = .ok (.iload_n 3, 1) := by decide +kernel
theorem dX6_servingNode_27 : decode cX6_servingNode 27 = .ok (.iconst (-1), 1) := by decide +kernel
theorem dX6_servingNode_28 : decode cX6_servingNode 28 = .ok (.if_icmp .eq 37, 3) := by decide +kernel
theorem dX6_servingNode_31 : decode cX6_servingNode 31 = .ok (.aload_n 0, 1) := by decide +kernel
theorem dX6_servingNode_32 : decode cX6_servingNode 32 = .ok (.getfield 15, 3) := by decide +kernel
theorem dX6_servingNode_35 : decode cX6_servingNode 35 = .ok (.getfield 66, 3) := by decide +kernel
theorem dX6_servingNode_38 : decode cX6_servingNode 38 = .ok (.iload_n 3, 1) := by decide +kernel
theorem dX6_servingNode_39 : decode cX6_servingNode 39 = .ok (.iconst 4, 1) := by decide +kernel
theorem dX6_servingNode_40 : decode cX6_servingNode 40 = .ok (.imul, 1) := by decide +kernel
theorem dX6_servingNode_41 : decode cX6_servingNode 41 = .ok (.iload_n 2, 1) := by decide +kernel
theorem dX6_servingNode_42 : decode cX6_servingNode 42 = .ok (.iadd, 1) := by decide +kernel
theorem dX6_servingNode_43 : decode cX6_servingNode 43 = .ok (.baload, 1) := by decide +kernel
theorem dX6_servingNode_44 : decode cX6_servingNode 44 = .ok (.ifCond .eq 5, 3) := by decide +kernel
theorem dX6_servingNode_47 : decode cX6_servingNode 47 = .ok (.iload_n 3, 1) := by decide +kernel
theorem dX6_servingNode_48 : decode cX6_servingNode 48 = .ok (.ireturn, 1) := by decide +kernel
theorem dX6_servingNode_49 : decode cX6_servingNode 49 = .ok (.aload_n 0, 1) := by decide +kernel
theorem dX6_servingNode_50 : decode cX6_servingNode 50 = .ok (.getfield 15, 3) := by decide +kernel
theorem dX6_servingNode_53 : decode cX6_servingNode 53 = .ok (.getfield 19, 3) := by decide +kernel
theorem dX6_servingNode_56 : decode cX6_servingNode 56 = .ok (.iload_n 3, 1) := by decide +kernel
theorem dX6_servingNode_57 : decode cX6_servingNode 57 = .ok (.iaload, 1) := by decide +kernel
theorem dX6_servingNode_58 : decode cX6_servingNode 58 = .ok (.istore_n 3, 1) := by decide +kernel
theorem dX6_servingNode_59 : decode cX6_servingNode 59 = .ok (.iinc 4 1, 3) := by decide +kernel
theorem dX6_servingNode_62 : decode cX6_servingNode 62 = .ok (.goto (-43), 3) := by decide +kernel
theorem dX6_servingNode_65 : decode cX6_servingNode 65 = .ok (.iconst (-1), 1) := by decide +kernel
theorem dX6_servingNode_66 : decode cX6_servingNode 66 = .ok (.ireturn, 1) := by decide +kernel
theorem dX6_attach_0 : decode cX6_attach 0 = .ok (.aload_n 0, 1) := by decide +kernel
theorem dX6_attach_1 : decode cX6_attach 1 = .ok (.getfield 15, 3) := by decide +kernel
theorem dX6_attach_4 : decode cX6_attach 4 = .ok (.getfield 59, 3) := by decide +kernel
theorem dX6_attach_7 : decode cX6_attach 7 = .ok (.iload_n 1, 1) := by decide +kernel
theorem dX6_attach_8 : decode cX6_attach 8 = .ok (.iconst 1, 1) := by decide +kernel
theorem dX6_attach_9 : decode cX6_attach 9 = .ok (.bastore, 1) := by decide +kernel
theorem dX6_attach_10 : decode cX6_attach 10 = .ok (.aload_n 0, 1) := by decide +kernel
theorem dX6_attach_11 : decode cX6_attach 11 = .ok (.getfield 15, 3) := by decide +kernel
theorem dX6_attach_14 : decode cX6_attach 14 = .ok (.getfield 19, 3) := by decide +kernel
theorem dX6_attach_17 : decode cX6_attach 17 = .ok (.iload_n 1, 1) := by decide +kernel
theorem dX6_attach_18 : decode cX6_attach 18 = .ok (.iload_n 2, 1) := by decide +kernel
theorem dX6_attach_19 : decode cX6_attach 19 = .ok (.iastore, 1) := by decide +kernel
theorem dX6_attach_20 : decode cX6_attach 20 = .ok (.return_, 1) := by decide +kernel
theorem dX6_detach_0 : decode cX6_detach 0 = .ok (.aload_n 0, 1) := by decide +kernel
theorem dX6_detach_1 : decode cX6_detach 1 = .ok (.getfield 15, 3) := by decide +kernel
theorem dX6_detach_4 : decode cX6_detach 4 = .ok (.getfield 59, 3) := by decide +kernel
theorem dX6_detach_7 : decode cX6_detach 7 = .ok (.iload_n 1, 1) := by decide +kernel
theorem dX6_detach_8 : decode cX6_detach 8 = .ok (.iconst 0, 1) := by decide +kernel
theorem dX6_detach_9 : decode cX6_detach 9 = .ok (.bastore, 1) := by decide +kernel
theorem dX6_detach_10 : decode cX6_detach 10 = .ok (.aload_n 0, 1) := by decide +kernel
theorem dX6_detach_11 : decode cX6_detach 11 = .ok (.getfield 15, 3) := by decide +kernel
theorem dX6_detach_14 : decode cX6_detach 14 = .ok (.getfield 19, 3) := by decide +kernel
theorem dX6_detach_17 : decode cX6_detach 17 = .ok (.iload_n 1, 1) := by decide +kernel
theorem dX6_detach_18 : decode cX6_detach 18 = .ok (.iconst (-1), 1) := by decide +kernel
theorem dX6_detach_19 : decode cX6_detach 19 = .ok (.iastore, 1) := by decide +kernel
theorem dX6_detach_20 : decode cX6_detach 20 = .ok (.return_, 1) := by decide +kernel
theorem dX6_prune_0 : decode cX6_prune 0 = .ok (.iconst 1, 1) := by decide +kernel
theorem dX6_prune_1 : decode cX6_prune 1 = .ok (.istore_n 1, 1) := by decide +kernel
theorem dX6_prune_2 : decode cX6_prune 2 = .ok (.iconst 0, 1) := by decide +kernel
theorem dX6_prune_3 : decode cX6_prune 3 = .ok (.istore_n 2, 1) := by decide +kernel
theorem dX6_prune_4 : decode cX6_prune 4 = .ok (.iload_n 2, 1) := by decide +kernel
theorem dX6_prune_5 : decode cX6_prune 5 = .ok (.aload_n 0, 1) := by decide +kernel
theorem dX6_prune_6 : decode cX6_prune 6 = .ok (.getfield 15, 3) := by decide +kernel
theorem dX6_prune_9 : decode cX6_prune 9 = .ok (.getfield 69, 3) := by decide +kernel
theorem dX6_prune_12 : decode cX6_prune 12 = .ok (.if_icmp .ge 17, 3) := by decide +kernel
theorem dX6_prune_15 : decode cX6_prune 15 = .ok (.iload_n 1, 1) := by decide +kernel
theorem dX6_prune_16 : decode cX6_prune 16 = .ok (.aload_n 0, 1) := by decide +kernel
theorem dX6_prune_17 : decode cX6_prune 17 = .ok (.iload_n 2, 1) := by decide +kernel
theorem dX6_prune_18 : decode cX6_prune 18 = .ok (.invokevirtual 72, 3) := by decide +kernel
theorem dX6_prune_21 : decode cX6_prune 21 = .ok (.ior, 1) := by decide +kernel
theorem dX6_prune_22 : decode cX6_prune 22 = .ok (.istore_n 1, 1) := by decide +kernel
theorem dX6_prune_23 : decode cX6_prune 23 = .ok (.iinc 2 1, 3) := by decide +kernel
theorem dX6_prune_26 : decode cX6_prune 26 = .ok (.goto (-22), 3) := by decide +kernel
theorem dX6_prune_29 : decode cX6_prune 29 = .ok (.iconst 0, 1) := by decide +kernel
theorem dX6_prune_30 : decode cX6_prune 30 = .ok (.istore_n 2, 1) := by decide +kernel
theorem dX6_prune_31 : decode cX6_prune 31 = .ok (.iload_n 2, 1) := by decide +kernel
theorem dX6_prune_32 : decode cX6_prune 32 = .ok (.aload_n 0, 1) := by decide +kernel
theorem dX6_prune_33 : decode cX6_prune 33 = .ok (.getfield 9, 3) := by decide +kernel
theorem dX6_prune_36 : decode cX6_prune 36 = .ok (.getfield 33, 3) := by decide +kernel
theorem dX6_prune_39 : decode cX6_prune 39 = .ok (.if_icmp .ge 22, 3) := by decide +kernel
theorem dX6_prune_42 : decode cX6_prune 42 = .ok (.iload_n 1, 1) := by decide +kernel
theorem dX6_prune_43 : decode cX6_prune 43 = .ok (.iload_n 2, 1) := by decide +kernel
theorem dX6_prune_44 : decode cX6_prune 44 = .ok (.ishr, 1) := by decide +kernel
theorem dX6_prune_45 : decode cX6_prune 45 = .ok (.iconst 1, 1) := by decide +kernel
theorem dX6_prune_46 : decode cX6_prune 46 = .ok (.iand, 1) := by decide +kernel
theorem dX6_prune_47 : decode cX6_prune 47 = .ok (.ifCond .ne 8, 3) := by decide +kernel
theorem dX6_prune_50 : decode cX6_prune 50 = .ok (.aload_n 0, 1) := by decide +kernel
theorem dX6_prune_51 : decode cX6_prune 51 = .ok (.iload_n 2, 1) := by decide +kernel
theorem dX6_prune_52 : decode cX6_prune 52 = .ok (.invokevirtual 75, 3) := by decide +kernel
theorem dX6_prune_55 : decode cX6_prune 55 = .ok (.iinc 2 1, 3) := by decide +kernel
theorem dX6_prune_58 : decode cX6_prune 58 = .ok (.goto (-27), 3) := by decide +kernel
theorem dX6_prune_61 : decode cX6_prune 61 = .ok (.return_, 1) := by decide +kernel
theorem dX7_init_0 : decode cX7_init 0 = .ok (.aload_n 0, 1) := by decide +kernel
theorem dX7_init_1 : decode cX7_init 1 = .ok (.invokespecial 3, 3) := by decide +kernel
theorem dX7_init_4 : decode cX7_init 4 = .ok (.aload_n 0, 1) := by decide +kernel
theorem dX7_init_5 : decode cX7_init 5 = .ok (.bipush 21, 2) := by decide +kernel
theorem dX7_init_7 : decode cX7_init 7 = .ok (.newarray .int, 2) := by decide +kernel
theorem dX7_init_9 : decode cX7_init 9 = .ok (.putfield 11, 3) := by decide +kernel
theorem dX7_init_12 : decode cX7_init 12 = .ok (.aload_n 0, 1) := by decide +kernel
theorem dX7_init_13 : decode cX7_init 13 = .ok (.bipush 21, 2) := by decide +kernel
theorem dX7_init_15 : decode cX7_init 15 = .ok (.newarray .int, 2) := by decide +kernel
theorem dX7_init_17 : decode cX7_init 17 = .ok (.putfield 15, 3) := by decide +kernel
theorem dX7_init_20 : decode cX7_init 20 = .ok (.aload_n 0, 1) := by decide +kernel
theorem dX7_init_21 : decode cX7_init 21 = .ok (.bipush 21, 2) := by decide +kernel
theorem dX7_init_23 : decode cX7_init 23 = .ok (.newarray .int, 2) := by decide +kernel
theorem dX7_init_25 : decode cX7_init 25 = .ok (.putfield 18, 3) := by decide +kernel
theorem dX7_init_28 : decode cX7_init 28 = .ok (.aload_n 0, 1) := by decide +kernel
theorem dX7_init_29 : decode cX7_init 29 = .ok (.bipush 21, 2) := by decide +kernel
theorem dX7_init_31 : decode cX7_init 31 = .ok (.newarray .int, 2) := by decide +kernel
theorem dX7_init_33 : decode cX7_init 33 = .ok (.putfield 21, 3) := by decide +kernel
theorem dX7_init_36 : decode cX7_init 36 = .ok (.aload_n 0, 1) := by decide +kernel
theorem dX7_init_37 : decode cX7_init 37 = .ok (.bipush 21, 2) := by decide +kernel
theorem dX7_init_39 : decode cX7_init 39 = .ok (.newarray .boolean, 2) := by decide +kernel
theorem dX7_init_41 : decode cX7_init 41 = .ok (.putfield 24, 3) := by decide +kernel
theorem dX7_init_44 : decode cX7_init 44 = .ok (.aload_n 0, 1) := by decide +kernel
theorem dX7_init_45 : decode cX7_init 45 = .ok (.bipush 32, 2) := by decide +kernel
theorem dX7_init_47 : decode cX7_init 47 = .ok (.newarray .int, 2) := by decide +kernel
theorem dX7_init_49 : decode cX7_init 49 = .ok (.putfield 28, 3) := by decide +kernel
theorem dX7_init_52 : decode cX7_init 52 = .ok (.aload_n 0, 1) := by decide +kernel
theorem dX7_init_53 : decode cX7_init 53 = .ok (.bipush 32, 2) := by decide +kernel
theorem dX7_init_55 : decode cX7_init 55 = .ok (.newarray .boolean, 2) := by decide +kernel
theorem dX7_init_57 : decode cX7_init 57 = .ok (.putfield 31, 3) := by decide +kernel
theorem dX7_init_60 : decode cX7_init 60 = .ok (.aload_n 0, 1) := by decide +kernel
theorem dX7_init_61 : decode cX7_init 61 = .ok (.bipush 64, 2) := by decide +kernel
theorem dX7_init_63 : decode cX7_init 63 = .ok (.newarray .boolean, 2) := by decide +kernel
theorem dX7_init_65 : decode cX7_init 65 = .ok (.putfield 34, 3) := by decide +kernel
theorem dX7_init_68 : decode cX7_init 68 = .ok (.aload_n 0, 1) := by decide +kernel
theorem dX7_init_69 : decode cX7_init 69 = .ok (.bipush 16, 2) := by decide +kernel
theorem dX7_init_71 : decode cX7_init 71 = .ok (.newarray .boolean, 2) := by decide +kernel
theorem dX7_init_73 : decode cX7_init 73 = .ok (.putfield 37, 3) := by decide +kernel
theorem dX7_init_76 : decode cX7_init 76 = .ok (.aload_n 0, 1) := by decide +kernel
theorem dX7_init_77 : decode cX7_init 77 = .ok (.bipush 16, 2) := by decide +kernel
theorem dX7_init_79 : decode cX7_init 79 = .ok (.newarray .int, 2) := by decide +kernel
theorem dX7_init_81 : decode cX7_init 81 = .ok (.putfield 40, 3) := by decide +kernel
theorem dX7_init_84 : decode cX7_init 84 = .ok (.return_, 1) := by decide +kernel
theorem dX7_begin_0 : decode cX7_begin 0 = .ok (.aload_n 0, 1) := by decide +kernel
theorem dX7_begin_1 : decode cX7_begin 1 = .ok (.iconst 0, 1) := by decide +kernel
theorem dX7_begin_2 : decode cX7_begin 2 = .ok (.putfield 43, 3) := by decide +kernel
theorem dX7_begin_5 : decode cX7_begin 5 = .ok (.aload_n 1, 1) := by decide +kernel
theorem dX7_begin_6 : decode cX7_begin 6 = .ok (.getfield 47, 3) := by decide +kernel
theorem dX7_begin_9 : decode cX7_begin 9 = .ok (.iconst 0, 1) := by decide +kernel
theorem dX7_begin_10 : decode cX7_begin 10 = .ok (.aload_n 0, 1) := by decide +kernel
theorem dX7_begin_11 : decode cX7_begin 11 = .ok (.getfield 28, 3) := by decide +kernel
theorem dX7_begin_14 : decode cX7_begin 14 = .ok (.iconst 0, 1) := by decide +kernel
theorem dX7_begin_15 : decode cX7_begin 15 = .ok (.bipush 32, 2) := by decide +kernel
theorem dX7_begin_17 : decode cX7_begin 17 = .ok (.invokestatic 52, 3) := by decide +kernel
theorem dX7_begin_20 : decode cX7_begin 20 = .ok (.iconst 0, 1) := by decide +kernel
theorem dX7_begin_21 : decode cX7_begin 21 = .ok (.istore_n 2, 1) := by decide +kernel
theorem dX7_begin_22 : decode cX7_begin 22 = .ok (.iload_n 2, 1) := by decide +kernel
theorem dX7_begin_23 : decode cX7_begin 23 = .ok (.bipush 32, 2) := by decide +kernel
theorem dX7_begin_25 : decode cX7_begin 25 = .ok (.if_icmp .ge 16, 3) := by decide +kernel
theorem dX7_begin_28 : decode cX7_begin 28 = .ok (.aload_n 0, 1) := by decide +kernel
theorem dX7_begin_29 : decode cX7_begin 29 = .ok (.getfield 31, 3) := by decide +kernel
theorem dX7_begin_32 : decode cX7_begin 32 = .ok (.iload_n 2, 1) := by decide +kernel
theorem dX7_begin_33 : decode cX7_begin 33 = .ok (.iconst 1, 1) := by decide +kernel
theorem dX7_begin_34 : decode cX7_begin 34 = .ok (.bastore, 1) := by decide +kernel
theorem dX7_begin_35 : decode cX7_begin 35 = .ok (.iinc 2 1, 3) := by decide +kernel
theorem dX7_begin_38 : decode cX7_begin 38 = .ok (.goto (-16), 3) := by decide +kernel
theorem dX7_begin_41 : decode cX7_begin 41 = .ok (.iconst 0, 1) := by decide +kernel
theorem dX7_begin_42 : decode cX7_begin 42 = .ok (.istore_n 2, 1) := by decide +kernel
theorem dX7_begin_43 : decode cX7_begin 43 = .ok (.iload_n 2, 1) := by decide +kernel
theorem dX7_begin_44 : decode cX7_begin 44 = .ok (.aload_n 0, 1) := by decide +kernel
theorem dX7_begin_45 : decode cX7_begin 45 = .ok (.getfield 34, 3) := by decide +kernel
theorem dX7_begin_48 : decode cX7_begin 48 = .ok (.arraylength, 1) := by decide +kernel
theorem dX7_begin_49 : decode cX7_begin 49 = .ok (.if_icmp .ge 16, 3) := by decide +kernel
theorem dX7_begin_52 : decode cX7_begin 52 = .ok (.aload_n 0, 1) := by decide +kernel
theorem dX7_begin_53 : decode cX7_begin 53 = .ok (.getfield 34, 3) := by decide +kernel
theorem dX7_begin_56 : decode cX7_begin 56 = .ok (.iload_n 2, 1) := by decide +kernel
theorem dX7_begin_57 : decode cX7_begin 57 = .ok (.iconst 0, 1) := by decide +kernel
theorem dX7_begin_58 : decode cX7_begin 58 = .ok (.bastore, 1) := by decide +kernel
theorem dX7_begin_59 : decode cX7_begin 59 = .ok (.iinc 2 1, 3) := by decide +kernel
theorem dX7_begin_62 : decode cX7_begin 62 = .ok (.goto (-19), 3) := by decide +kernel
theorem dX7_begin_65 : decode cX7_begin 65 = .ok (.aload_n 0, 1) := by decide +kernel
theorem dX7_begin_66 : decode cX7_begin 66 = .ok (.invokevirtual 58, 3) := by decide +kernel
theorem dX7_begin_69 : decode cX7_begin 69 = .ok (.return_, 1) := by decide +kernel
theorem dX7_clearTree_0 : decode cX7_clearTree 0 = .ok (.iconst 0, 1) := by decide +kernel
theorem dX7_clearTree_1 : decode cX7_clearTree 1 = .ok (.istore_n 1, 1) := by decide +kernel
theorem dX7_clearTree_2 : decode cX7_clearTree 2 = .ok (.iload_n 1, 1) := by decide +kernel
theorem dX7_clearTree_3 : decode cX7_clearTree 3 = .ok (.bipush 16, 2) := by decide +kernel
theorem dX7_clearTree_5 : decode cX7_clearTree 5 = .ok (.if_icmp .ge 31, 3) := by decide +kernel
theorem dX7_clearTree_8 : decode cX7_clearTree 8 = .ok (.aload_n 0, 1) := by decide +kernel
theorem dX7_clearTree_9 : decode cX7_clearTree 9 = .ok (.getfield 37, 3) := by decide +kernel
theorem dX7_clearTree_12 : decode cX7_clearTree 12 = .ok (.iload_n 1, 1) := by decide +kernel
theorem dX7_clearTree_13 : decode cX7_clearTree 13 = .ok (.iload_n 1, 1) := by decide +kernel
theorem dX7_clearTree_14 : decode cX7_clearTree 14 = .ok (.ifCond .ne 7, 3) := by decide +kernel
theorem dX7_clearTree_17 : decode cX7_clearTree 17 = .ok (.iconst 1, 1) := by decide +kernel
theorem dX7_clearTree_18 : decode cX7_clearTree 18 = .ok (.goto 4, 3) := by decide +kernel
theorem dX7_clearTree_21 : decode cX7_clearTree 21 = .ok (.iconst 0, 1) := by decide +kernel
theorem dX7_clearTree_22 : decode cX7_clearTree 22 = .ok (.bastore, 1) := by decide +kernel
theorem dX7_clearTree_23 : decode cX7_clearTree 23 = .ok (.aload_n 0, 1) := by decide +kernel
theorem dX7_clearTree_24 : decode cX7_clearTree 24 = .ok (.getfield 40, 3) := by decide +kernel
theorem dX7_clearTree_27 : decode cX7_clearTree 27 = .ok (.iload_n 1, 1) := by decide +kernel
theorem dX7_clearTree_28 : decode cX7_clearTree 28 = .ok (.iconst (-1), 1) := by decide +kernel
theorem dX7_clearTree_29 : decode cX7_clearTree 29 = .ok (.iastore, 1) := by decide +kernel
theorem dX7_clearTree_30 : decode cX7_clearTree 30 = .ok (.iinc 1 1, 3) := by decide +kernel
theorem dX7_clearTree_33 : decode cX7_clearTree 33 = .ok (.goto (-31), 3) := by decide +kernel
theorem dX7_clearTree_36 : decode cX7_clearTree 36 = .ok (.return_, 1) := by decide +kernel
theorem dX7_copyFrom_0 : decode cX7_copyFrom 0 = .ok (.aload_n 0, 1) := by decide +kernel
theorem dX7_copyFrom_1 : decode cX7_copyFrom 1 = .ok (.aload_n 1, 1) := by decide +kernel
theorem dX7_copyFrom_2 : decode cX7_copyFrom 2 = .ok (.getfield 43, 3) := by decide +kernel
theorem dX7_copyFrom_5 : decode cX7_copyFrom 5 = .ok (.putfield 43, 3) := by decide +kernel
theorem dX7_copyFrom_8 : decode cX7_copyFrom 8 = .ok (.aload_n 1, 1) := by decide +kernel
theorem dX7_copyFrom_9 : decode cX7_copyFrom 9 = .ok (.getfield 11, 3) := by decide +kernel
theorem dX7_copyFrom_12 : decode cX7_copyFrom 12 = .ok (.iconst 0, 1) := by decide +kernel
theorem dX7_copyFrom_13 : decode cX7_copyFrom 13 = .ok (.aload_n 0, 1) := by decide +kernel
theorem dX7_copyFrom_14 : decode cX7_copyFrom 14 = .ok (.getfield 11, 3) := by decide +kernel
theorem dX7_copyFrom_17 : decode cX7_copyFrom 17 = .ok (.iconst 0, 1) := by decide +kernel
theorem dX7_copyFrom_18 : decode cX7_copyFrom 18 = .ok (.bipush 21, 2) := by decide +kernel
theorem dX7_copyFrom_20 : decode cX7_copyFrom 20 = .ok (.invokestatic 52, 3) := by decide +kernel
theorem dX7_copyFrom_23 : decode cX7_copyFrom 23 = .ok (.aload_n 1, 1) := by decide +kernel
theorem dX7_copyFrom_24 : decode cX7_copyFrom 24 = .ok (.getfield 15, 3) := by decide +kernel
theorem dX7_copyFrom_27 : decode cX7_copyFrom 27 = .ok (.iconst 0, 1) := by decide +kernel
theorem dX7_copyFrom_28 : decode cX7_copyFrom 28 = .ok (.aload_n 0, 1) := by decide +kernel
theorem dX7_copyFrom_29 : decode cX7_copyFrom 29 = .ok (.getfield 15, 3) := by decide +kernel
theorem dX7_copyFrom_32 : decode cX7_copyFrom 32 = .ok (.iconst 0, 1) := by decide +kernel
theorem dX7_copyFrom_33 : decode cX7_copyFrom 33 = .ok (.bipush 21, 2) := by decide +kernel
theorem dX7_copyFrom_35 : decode cX7_copyFrom 35 = .ok (.invokestatic 52, 3) := by decide +kernel
theorem dX7_copyFrom_38 : decode cX7_copyFrom 38 = .ok (.aload_n 1, 1) := by decide +kernel
theorem dX7_copyFrom_39 : decode cX7_copyFrom 39 = .ok (.getfield 18, 3) := by decide +kernel
theorem dX7_copyFrom_42 : decode cX7_copyFrom 42 = .ok (.iconst 0, 1) := by decide +kernel
theorem dX7_copyFrom_43 : decode cX7_copyFrom 43 = .ok (.aload_n 0, 1) := by decide +kernel
theorem dX7_copyFrom_44 : decode cX7_copyFrom 44 = .ok (.getfield 18, 3) := by decide +kernel
theorem dX7_copyFrom_47 : decode cX7_copyFrom 47 = .ok (.iconst 0, 1) := by decide +kernel
theorem dX7_copyFrom_48 : decode cX7_copyFrom 48 = .ok (.bipush 21, 2) := by decide +kernel
theorem dX7_copyFrom_50 : decode cX7_copyFrom 50 = .ok (.invokestatic 52, 3) := by decide +kernel
theorem dX7_copyFrom_53 : decode cX7_copyFrom 53 = .ok (.aload_n 1, 1) := by decide +kernel
theorem dX7_copyFrom_54 : decode cX7_copyFrom 54 = .ok (.getfield 21, 3) := by decide +kernel
theorem dX7_copyFrom_57 : decode cX7_copyFrom 57 = .ok (.iconst 0, 1) := by decide +kernel
theorem dX7_copyFrom_58 : decode cX7_copyFrom 58 = .ok (.aload_n 0, 1) := by decide +kernel
theorem dX7_copyFrom_59 : decode cX7_copyFrom 59 = .ok (.getfield 21, 3) := by decide +kernel
theorem dX7_copyFrom_62 : decode cX7_copyFrom 62 = .ok (.iconst 0, 1) := by decide +kernel
theorem dX7_copyFrom_63 : decode cX7_copyFrom 63 = .ok (.bipush 21, 2) := by decide +kernel
theorem dX7_copyFrom_65 : decode cX7_copyFrom 65 = .ok (.invokestatic 52, 3) := by decide +kernel
theorem dX7_copyFrom_68 : decode cX7_copyFrom 68 = .ok (.aload_n 1, 1) := by decide +kernel
theorem dX7_copyFrom_69 : decode cX7_copyFrom 69 = .ok (.getfield 24, 3) := by decide +kernel
theorem dX7_copyFrom_72 : decode cX7_copyFrom 72 = .ok (.iconst 0, 1) := by decide +kernel
theorem dX7_copyFrom_73 : decode cX7_copyFrom 73 = .ok (.aload_n 0, 1) := by decide +kernel
theorem dX7_copyFrom_74 : decode cX7_copyFrom 74 = .ok (.getfield 24, 3) := by decide +kernel
theorem dX7_copyFrom_77 : decode cX7_copyFrom 77 = .ok (.iconst 0, 1) := by decide +kernel
theorem dX7_copyFrom_78 : decode cX7_copyFrom 78 = .ok (.bipush 21, 2) := by decide +kernel
theorem dX7_copyFrom_80 : decode cX7_copyFrom 80 = .ok (.invokestatic 52, 3) := by decide +kernel
theorem dX7_copyFrom_83 : decode cX7_copyFrom 83 = .ok (.aload_n 1, 1) := by decide +kernel
theorem dX7_copyFrom_84 : decode cX7_copyFrom 84 = .ok (.getfield 28, 3) := by decide +kernel
theorem dX7_copyFrom_87 : decode cX7_copyFrom 87 = .ok (.iconst 0, 1) := by decide +kernel
theorem dX7_copyFrom_88 : decode cX7_copyFrom 88 = .ok (.aload_n 0, 1) := by decide +kernel
theorem dX7_copyFrom_89 : decode cX7_copyFrom 89 = .ok (.getfield 28, 3) := by decide +kernel
theorem dX7_copyFrom_92 : decode cX7_copyFrom 92 = .ok (.iconst 0, 1) := by decide +kernel
theorem dX7_copyFrom_93 : decode cX7_copyFrom 93 = .ok (.bipush 32, 2) := by decide +kernel
theorem dX7_copyFrom_95 : decode cX7_copyFrom 95 = .ok (.invokestatic 52, 3) := by decide +kernel
theorem dX7_copyFrom_98 : decode cX7_copyFrom 98 = .ok (.aload_n 1, 1) := by decide +kernel
theorem dX7_copyFrom_99 : decode cX7_copyFrom 99 = .ok (.getfield 31, 3) := by decide +kernel
theorem dX7_copyFrom_102 : decode cX7_copyFrom 102 = .ok (.iconst 0, 1) := by decide +kernel
theorem dX7_copyFrom_103 : decode cX7_copyFrom 103 = .ok (.aload_n 0, 1) := by decide +kernel
theorem dX7_copyFrom_104 : decode cX7_copyFrom 104 = .ok (.getfield 31, 3) := by decide +kernel
theorem dX7_copyFrom_107 : decode cX7_copyFrom 107 = .ok (.iconst 0, 1) := by decide +kernel
theorem dX7_copyFrom_108 : decode cX7_copyFrom 108 = .ok (.bipush 32, 2) := by decide +kernel
theorem dX7_copyFrom_110 : decode cX7_copyFrom 110 = .ok (.invokestatic 52, 3) := by decide +kernel
theorem dX7_copyFrom_113 : decode cX7_copyFrom 113 = .ok (.aload_n 1, 1) := by decide +kernel
theorem dX7_copyFrom_114 : decode cX7_copyFrom 114 = .ok (.getfield 34, 3) := by decide +kernel
theorem dX7_copyFrom_117 : decode cX7_copyFrom 117 = .ok (.iconst 0, 1) := by decide +kernel
theorem dX7_copyFrom_118 : decode cX7_copyFrom 118 = .ok (.aload_n 0, 1) := by decide +kernel
theorem dX7_copyFrom_119 : decode cX7_copyFrom 119 = .ok (.getfield 34, 3) := by decide +kernel
theorem dX7_copyFrom_122 : decode cX7_copyFrom 122 = .ok (.iconst 0, 1) := by decide +kernel
theorem dX7_copyFrom_123 : decode cX7_copyFrom 123 = .ok (.aload_n 0, 1) := by decide +kernel
theorem dX7_copyFrom_124 : decode cX7_copyFrom 124 = .ok (.getfield 34, 3) := by decide +kernel
theorem dX7_copyFrom_127 : decode cX7_copyFrom 127 = .ok (.arraylength, 1) := by decide +kernel
theorem dX7_copyFrom_128 : decode cX7_copyFrom 128 = .ok (.invokestatic 52, 3) := by decide +kernel
theorem dX7_copyFrom_131 : decode cX7_copyFrom 131 = .ok (.aload_n 1, 1) := by decide +kernel
theorem dX7_copyFrom_132 : decode cX7_copyFrom 132 = .ok (.getfield 37, 3) := by decide +kernel
theorem dX7_copyFrom_135 : decode cX7_copyFrom 135 = .ok (.iconst 0, 1) := by decide +kernel
theorem dX7_copyFrom_136 : decode cX7_copyFrom 136 = .ok (.aload_n 0, 1) := by decide +kernel
theorem dX7_copyFrom_137 : decode cX7_copyFrom 137 = .ok (.getfield 37, 3) := by decide +kernel
theorem dX7_copyFrom_140 : decode cX7_copyFrom 140 = .ok (.iconst 0, 1) := by decide +kernel
theorem dX7_copyFrom_141 : decode cX7_copyFrom 141 = .ok (.bipush 16, 2) := by decide +kernel
theorem dX7_copyFrom_143 : decode cX7_copyFrom 143 = .ok (.invokestatic 52, 3) := by decide +kernel
theorem dX7_copyFrom_146 : decode cX7_copyFrom 146 = .ok (.aload_n 1, 1) := by decide +kernel
theorem dX7_copyFrom_147 : decode cX7_copyFrom 147 = .ok (.getfield 40, 3) := by decide +kernel
theorem dX7_copyFrom_150 : decode cX7_copyFrom 150 = .ok (.iconst 0, 1) := by decide +kernel
theorem dX7_copyFrom_151 : decode cX7_copyFrom 151 = .ok (.aload_n 0, 1) := by decide +kernel
theorem dX7_copyFrom_152 : decode cX7_copyFrom 152 = .ok (.getfield 40, 3) := by decide +kernel
theorem dX7_copyFrom_155 : decode cX7_copyFrom 155 = .ok (.iconst 0, 1) := by decide +kernel
theorem dX7_copyFrom_156 : decode cX7_copyFrom 156 = .ok (.bipush 16, 2) := by decide +kernel
theorem dX7_copyFrom_158 : decode cX7_copyFrom 158 = .ok (.invokestatic 52, 3) := by decide +kernel
theorem dX7_copyFrom_161 : decode cX7_copyFrom 161 = .ok (.return_, 1) := by decide +kernel
theorem dX7_enrol_0 : decode cX7_enrol 0 = .ok (.aload_n 0, 1) := by decide +kernel
theorem dX7_enrol_1 : decode cX7_enrol 1 = .ok (.getfield 43, 3) := by decide +kernel
theorem dX7_enrol_4 : decode cX7_enrol 4 = .ok (.bipush 20, 2) := by decide +kernel
theorem dX7_enrol_6 : decode cX7_enrol 6 = .ok (.invokestatic 61, 3) := by decide +kernel
theorem dX7_enrol_9 : decode cX7_enrol 9 = .ok (.istore 4, 2) := by decide +kernel
theorem dX7_enrol_11 : decode cX7_enrol 11 = .ok (.aload_n 0, 1) := by decide +kernel
theorem dX7_enrol_12 : decode cX7_enrol 12 = .ok (.getfield 11, 3) := by decide +kernel
theorem dX7_enrol_15 : decode cX7_enrol 15 = .ok (.iload 4, 2) := by decide +kernel
theorem dX7_enrol_17 : decode cX7_enrol 17 = .ok (.iload_n 1, 1) := by decide +kernel
theorem dX7_enrol_18 : decode cX7_enrol 18 = .ok (.iastore, 1) := by decide +kernel
theorem dX7_enrol_19 : decode cX7_enrol 19 = .ok (.aload_n 0, 1) := by decide +kernel
theorem dX7_enrol_20 : decode cX7_enrol 20 = .ok (.getfield 15, 3) := by decide +kernel
theorem dX7_enrol_23 : decode cX7_enrol 23 = .ok (.iload 4, 2) := by decide +kernel
theorem dX7_enrol_25 : decode cX7_enrol 25 = .ok (.iload_n 2, 1) := by decide +kernel
theorem dX7_enrol_26 : decode cX7_enrol 26 = .ok (.iastore, 1) := by decide +kernel
theorem dX7_enrol_27 : decode cX7_enrol 27 = .ok (.aload_n 0, 1) := by decide +kernel
theorem dX7_enrol_28 : decode cX7_enrol 28 = .ok (.getfield 18, 3) := by decide +kernel
theorem dX7_enrol_31 : decode cX7_enrol 31 = .ok (.iload 4, 2) := by decide +kernel
theorem dX7_enrol_33 : decode cX7_enrol 33 = .ok (.iload_n 3, 1) := by decide +kernel
theorem dX7_enrol_34 : decode cX7_enrol 34 = .ok (.iastore, 1) := by decide +kernel
theorem dX7_enrol_35 : decode cX7_enrol 35 = .ok (.aload_n 0, 1) := by decide +kernel
theorem dX7_enrol_36 : decode cX7_enrol 36 = .ok (.getfield 21, 3) := by decide +kernel
theorem dX7_enrol_39 : decode cX7_enrol 39 = .ok (.iload 4, 2) := by decide +kernel
theorem dX7_enrol_41 : decode cX7_enrol 41 = .ok (.iconst 0, 1) := by decide +kernel
theorem dX7_enrol_42 : decode cX7_enrol 42 = .ok (.iastore, 1) := by decide +kernel
theorem dX7_enrol_43 : decode cX7_enrol 43 = .ok (.aload_n 0, 1) := by decide +kernel
theorem dX7_enrol_44 : decode cX7_enrol 44 = .ok (.getfield 24, 3) := by decide +kernel
theorem dX7_enrol_47 : decode cX7_enrol 47 = .ok (.iload 4, 2) := by decide +kernel
theorem dX7_enrol_49 : decode cX7_enrol 49 = .ok (.iconst 0, 1) := by decide +kernel
theorem dX7_enrol_50 : decode cX7_enrol 50 = .ok (.bastore, 1) := by decide +kernel
theorem dX7_enrol_51 : decode cX7_enrol 51 = .ok (.aload_n 0, 1) := by decide +kernel
theorem dX7_enrol_52 : decode cX7_enrol 52 = .ok (.iload 4, 2) := by decide +kernel
theorem dX7_enrol_54 : decode cX7_enrol 54 = .ok (.iconst 1, 1) := by decide +kernel
theorem dX7_enrol_55 : decode cX7_enrol 55 = .ok (.iadd, 1) := by decide +kernel
theorem dX7_enrol_56 : decode cX7_enrol 56 = .ok (.putfield 43, 3) := by decide +kernel
theorem dX7_enrol_59 : decode cX7_enrol 59 = .ok (.iload 4, 2) := by decide +kernel
theorem dX7_enrol_61 : decode cX7_enrol 61 = .ok (.ireturn, 1) := by decide +kernel
theorem dX7_levelSum_0 : decode cX7_levelSum 0 = .ok (.iconst 0, 1) := by decide +kernel
theorem dX7_levelSum_1 : decode cX7_levelSum 1 = .ok (.istore_n 1, 1) := by decide +kernel
theorem dX7_levelSum_2 : decode cX7_levelSum 2 = .ok (.iconst 0, 1) := by decide +kernel
theorem dX7_levelSum_3 : decode cX7_levelSum 3 = .ok (.istore_n 2, 1) := by decide +kernel
theorem dX7_levelSum_4 : decode cX7_levelSum 4 = .ok (.iload_n 2, 1) := by decide +kernel
theorem dX7_levelSum_5 : decode cX7_levelSum 5 = .ok (.aload_n 0, 1) := by decide +kernel
theorem dX7_levelSum_6 : decode cX7_levelSum 6 = .ok (.getfield 43, 3) := by decide +kernel
theorem dX7_levelSum_9 : decode cX7_levelSum 9 = .ok (.if_icmp .ge 18, 3) := by decide +kernel
theorem dX7_levelSum_12 : decode cX7_levelSum 12 = .ok (.iload_n 1, 1) := by decide +kernel
theorem dX7_levelSum_13 : decode cX7_levelSum 13 = .ok (.aload_n 0, 1) := by decide +kernel
theorem dX7_levelSum_14 : decode cX7_levelSum 14 = .ok (.getfield 21, 3) := by decide +kernel
theorem dX7_levelSum_17 : decode cX7_levelSum 17 = .ok (.iload_n 2, 1) := by decide +kernel
theorem dX7_levelSum_18 : decode cX7_levelSum 18 = .ok (.iaload, 1) := by decide +kernel
theorem dX7_levelSum_19 : decode cX7_levelSum 19 = .ok (.iadd, 1) := by decide +kernel
theorem dX7_levelSum_20 : decode cX7_levelSum 20 = .ok (.istore_n 1, 1) := by decide +kernel
theorem dX7_levelSum_21 : decode cX7_levelSum 21 = .ok (.iinc 2 1, 3) := by decide +kernel
theorem dX7_levelSum_24 : decode cX7_levelSum 24 = .ok (.goto (-20), 3) := by decide +kernel
theorem dX7_levelSum_27 : decode cX7_levelSum 27 = .ok (.iload_n 1, 1) := by decide +kernel
theorem dX7_levelSum_28 : decode cX7_levelSum 28 = .ok (.ireturn, 1) := by decide +kernel
theorem dX7_converterCount_0 : decode cX7_converterCount 0 = .ok (.iconst 0, 1) := by decide +kernel
theorem dX7_converterCount_1 : decode cX7_converterCount 1 = .ok (.istore_n 1, 1) := by decide +kernel
theorem dX7_converterCount_2 : decode cX7_converterCount 2 = .ok (.iconst 0, 1) := by decide +kernel
theorem dX7_converterCount_3 : decode cX7_converterCount 3 = .ok (.istore_n 2, 1) := by decide +kernel
theorem dX7_converterCount_4 : decode cX7_converterCount 4 = .ok (.iload_n 2, 1) := by decide +kernel
theorem dX7_converterCount_5 : decode cX7_converterCount 5 = .ok (.aload_n 0, 1) := by decide +kernel
theorem dX7_converterCount_6 : decode cX7_converterCount 6 = .ok (.getfield 34, 3) := by decide +kernel
theorem dX7_converterCount_9 : decode cX7_converterCount 9 = .ok (.arraylength, 1) := by decide +kernel
theorem dX7_converterCount_10 : decode cX7_converterCount 10 = .ok (.if_icmp .ge 26, 3) := by decide +kernel
theorem dX7_converterCount_13 : decode cX7_converterCount 13 = .ok (.iload_n 1, 1) := by decide +kernel
theorem dX7_converterCount_14 : decode cX7_converterCount 14 = .ok (.aload_n 0, 1) := by decide +kernel
theorem dX7_converterCount_15 : decode cX7_converterCount 15 = .ok (.getfield 34, 3) := by decide +kernel
theorem dX7_converterCount_18 : decode cX7_converterCount 18 = .ok (.iload_n 2, 1) := by decide +kernel
theorem dX7_converterCount_19 : decode cX7_converterCount 19 = .ok (.baload, 1) := by decide +kernel
theorem dX7_converterCount_20 : decode cX7_converterCount 20 = .ok (.ifCond .eq 7, 3) := by decide +kernel
theorem dX7_converterCount_23 : decode cX7_converterCount 23 = .ok (.iconst 1, 1) := by decide +kernel
theorem dX7_converterCount_24 : decode cX7_converterCount 24 = .ok (.goto 4, 3) := by decide +kernel
theorem dX7_converterCount_27 : decode cX7_converterCount 27 = .ok (.iconst 0, 1) := by decide +kernel
theorem dX7_converterCount_28 : decode cX7_converterCount 28 = .ok (.iadd, 1) := by decide +kernel
theorem dX7_converterCount_29 : decode cX7_converterCount 29 = .ok (.istore_n 1, 1) := by decide +kernel
theorem dX7_converterCount_30 : decode cX7_converterCount 30 = .ok (.iinc 2 1, 3) := by decide +kernel
theorem dX7_converterCount_33 : decode cX7_converterCount 33 = .ok (.goto (-29), 3) := by decide +kernel
theorem dX7_converterCount_36 : decode cX7_converterCount 36 = .ok (.iload_n 1, 1) := by decide +kernel
theorem dX7_converterCount_37 : decode cX7_converterCount 37 = .ok (.ireturn, 1) := by decide +kernel
theorem dX8_init_0 : decode cX8_init 0 = .ok (.aload_n 0, 1) := by decide +kernel
theorem dX8_init_1 : decode cX8_init 1 = .ok (.invokespecial 3, 3) := by decide +kernel
theorem dX8_init_4 : decode cX8_init 4 = .ok (.aload_n 0, 1) := by decide +kernel
theorem dX8_init_5 : decode cX8_init 5 = .ok (.sipush 1400, 3) := by decide +kernel
theorem dX8_init_8 : decode cX8_init 8 = .ok (.newarray .int, 2) := by decide +kernel
theorem dX8_init_10 : decode cX8_init 10 = .ok (.putfield 9, 3) := by decide +kernel
theorem dX8_init_13 : decode cX8_init 13 = .ok (.return_, 1) := by decide +kernel
theorem dX8_putWord_0 : decode cX8_putWord 0 = .ok (.bipush 24, 2) := by decide +kernel
theorem dX8_putWord_2 : decode cX8_putWord 2 = .ok (.istore_n 2, 1) := by decide +kernel
theorem dX8_putWord_3 : decode cX8_putWord 3 = .ok (.iload_n 2, 1) := by decide +kernel
theorem dX8_putWord_4 : decode cX8_putWord 4 = .ok (.ifCond .lt 45, 3) := by decide +kernel
theorem dX8_putWord_7 : decode cX8_putWord 7 = .ok (.aload_n 0, 1) := by decide +kernel
theorem dX8_putWord_8 : decode cX8_putWord 8 = .ok (.getfield 15, 3) := by decide +kernel
theorem dX8_putWord_11 : decode cX8_putWord 11 = .ok (.sipush 1400, 3) := by decide +kernel
theorem dX8_putWord_14 : decode cX8_putWord 14 = .ok (.if_icmp .ge 29, 3) := by decide +kernel
theorem dX8_putWord_17 : decode cX8_putWord 17 = .ok (.aload_n 0, 1) := by decide +kernel
theorem dX8_putWord_18 : decode cX8_putWord 18 = .ok (.getfield 9, 3) := by decide +kernel
theorem dX8_putWord_21 : decode cX8_putWord 21 = .ok (.aload_n 0, 1) := by decide +kernel
theorem dX8_putWord_22 : decode cX8_putWord 22 = .ok (.getfield 15, 3) := by decide +kernel
theorem dX8_putWord_25 : decode cX8_putWord 25 = .ok (.iload_n 1, 1) := by decide +kernel
theorem dX8_putWord_26 : decode cX8_putWord 26 = .ok (.iload_n 2, 1) := by decide +kernel
theorem dX8_putWord_27 : decode cX8_putWord 27 = .ok (.iushr, 1) := by decide +kernel
theorem dX8_putWord_28 : decode cX8_putWord 28 = .ok (.sipush 255, 3) := by decide +kernel
theorem dX8_putWord_31 : decode cX8_putWord 31 = .ok (.iand, 1) := by decide +kernel
theorem dX8_putWord_32 : decode cX8_putWord 32 = .ok (.iastore, 1) := by decide +kernel
theorem dX8_putWord_33 : decode cX8_putWord 33 = .ok (.aload_n 0, 1) := by decide +kernel
theorem dX8_putWord_34 : decode cX8_putWord 34 = .ok (.dup, 1) := by decide +kernel
theorem dX8_putWord_35 : decode cX8_putWord 35 = .ok (.getfield 15, 3) := by decide +kernel
theorem dX8_putWord_38 : decode cX8_putWord 38 = .ok (.iconst 1, 1) := by decide +kernel
theorem dX8_putWord_39 : decode cX8_putWord 39 = .ok (.iadd, 1) := by decide +kernel
theorem dX8_putWord_40 : decode cX8_putWord 40 = .ok (.putfield 15, 3) := by decide +kernel
theorem dX8_putWord_43 : decode cX8_putWord 43 = .ok (.iinc 2 (-8), 3) := by decide +kernel
theorem dX8_putWord_46 : decode cX8_putWord 46 = .ok (.goto (-43), 3) := by decide +kernel
theorem dX8_putWord_49 : decode cX8_putWord 49 = .ok (.return_, 1) := by decide +kernel
theorem dX8_byteAt_0 : decode cX8_byteAt 0 = .ok (.iload_n 1, 1) := by decide +kernel
theorem dX8_byteAt_1 : decode cX8_byteAt 1 = .ok (.ifCond .lt 20, 3) := by decide +kernel
theorem dX8_byteAt_4 : decode cX8_byteAt 4 = .ok (.iload_n 1, 1) := by decide +kernel
theorem dX8_byteAt_5 : decode cX8_byteAt 5 = .ok (.aload_n 0, 1) := by decide +kernel
theorem dX8_byteAt_6 : decode cX8_byteAt 6 = .ok (.getfield 15, 3) := by decide +kernel
theorem dX8_byteAt_9 : decode cX8_byteAt 9 = .ok (.if_icmp .ge 12, 3) := by decide +kernel
theorem dX8_byteAt_12 : decode cX8_byteAt 12 = .ok (.aload_n 0, 1) := by decide +kernel
theorem dX8_byteAt_13 : decode cX8_byteAt 13 = .ok (.getfield 9, 3) := by decide +kernel
theorem dX8_byteAt_16 : decode cX8_byteAt 16 = .ok (.iload_n 1, 1) := by decide +kernel
theorem dX8_byteAt_17 : decode cX8_byteAt 17 = .ok (.iaload, 1) := by decide +kernel
theorem dX8_byteAt_18 : decode cX8_byteAt 18 = .ok (.goto 4, 3) := by decide +kernel
theorem dX8_byteAt_21 : decode cX8_byteAt 21 = .ok (.iconst (-1), 1) := by decide +kernel
theorem dX8_byteAt_22 : decode cX8_byteAt 22 = .ok (.ireturn, 1) := by decide +kernel
theorem dX9_init_0 : decode cX9_init 0 = .ok (.aload_n 0, 1) := by decide +kernel
theorem dX9_init_1 : decode cX9_init 1 = .ok (.invokespecial 3, 3) := by decide +kernel
theorem dX9_init_4 : decode cX9_init 4 = .ok (.aload_n 0, 1) := by decide +kernel
theorem dX9_init_5 : decode cX9_init 5 = .ok (.aload_n 1, 1) := by decide +kernel
theorem dX9_init_6 : decode cX9_init 6 = .ok (.putfield 9, 3) := by decide +kernel
theorem dX9_init_9 : decode cX9_init 9 = .ok (.aload_n 0, 1) := by decide +kernel
theorem dX9_init_10 : decode cX9_init 10 = .ok (.aload_n 2, 1) := by decide +kernel
theorem dX9_init_11 : decode cX9_init 11 = .ok (.putfield 15, 3) := by decide +kernel
theorem dX9_init_14 : decode cX9_init 14 = .ok (.aload_n 0, 1) := by decide +kernel
theorem dX9_init_15 : decode cX9_init 15 = .ok (.aload_n 3, 1) := by decide +kernel
theorem dX9_init_16 : decode cX9_init 16 = .ok (.putfield 19, 3) := by decide +kernel
theorem dX9_init_19 : decode cX9_init 19 = .ok (.aload_n 0, 1) := by decide +kernel
theorem dX9_init_20 : decode cX9_init 20 = .ok (.aload 4, 2) := by decide +kernel
theorem dX9_init_22 : decode cX9_init 22 = .ok (.putfield 23, 3) := by decide +kernel
theorem dX9_init_25 : decode cX9_init 25 = .ok (.aload_n 0, 1) := by decide +kernel
theorem dX9_init_26 : decode cX9_init 26 = .ok (.aload 5, 2) := by decide +kernel
theorem dX9_init_28 : decode cX9_init 28 = .ok (.putfield 27, 3) := by decide +kernel
theorem dX9_init_31 : decode cX9_init 31 = .ok (.return_, 1) := by decide +kernel
theorem dX9_join_0 : decode cX9_join 0 = .ok (.aload_n 0, 1) := by decide +kernel
theorem dX9_join_1 : decode cX9_join 1 = .ok (.getfield 15, 3) := by decide +kernel
theorem dX9_join_4 : decode cX9_join 4 = .ok (.getfield 31, 3) := by decide +kernel
theorem dX9_join_7 : decode cX9_join 7 = .ok (.iload_n 1, 1) := by decide +kernel
theorem dX9_join_8 : decode cX9_join 8 = .ok (.iaload, 1) := by decide +kernel
theorem dX9_join_9 : decode cX9_join 9 = .ok (.istore_n 2, 1) := by decide +kernel
theorem dX9_join_10 : decode cX9_join 10 = .ok (.iload_n 2, 1) := by decide +kernel
theorem dX9_join_11 : decode cX9_join 11 = .ok (.iconst 1, 1) := by decide +kernel
theorem dX9_join_12 : decode cX9_join 12 = .ok (.if_icmp .lt 20, 3) := by decide +kernel
theorem dX9_join_15 : decode cX9_join 15 = .ok (.aload_n 0, 1) := by decide +kernel
theorem dX9_join_16 : decode cX9_join 16 = .ok (.iload_n 1, 1) := by decide +kernel
theorem dX9_join_17 : decode cX9_join 17 = .ok (.iload_n 2, 1) := by decide +kernel
theorem dX9_join_18 : decode cX9_join 18 = .ok (.invokevirtual 37, 3) := by decide +kernel
theorem dX9_join_21 : decode cX9_join 21 = .ok (.ifCond .eq 5, 3) := by decide +kernel
theorem dX9_join_24 : decode cX9_join 24 = .ok (.iload_n 2, 1) := by decide +kernel
theorem dX9_join_25 : decode cX9_join 25 = .ok (.ireturn, 1) := by decide +kernel
theorem dX9_join_26 : decode cX9_join 26 = .ok (.iinc 2 (-1), 3) := by decide +kernel
theorem dX9_join_29 : decode cX9_join 29 = .ok (.goto (-19), 3) := by decide +kernel
theorem dX9_join_32 : decode cX9_join 32 = .ok (.iconst 0, 1) := by decide +kernel
theorem dX9_join_33 : decode cX9_join 33 = .ok (.ireturn, 1) := by decide +kernel
theorem dX9_tryLevel_0 : decode cX9_tryLevel 0 = .ok (.aload_n 0, 1) := by decide +kernel
theorem dX9_tryLevel_1 : decode cX9_tryLevel 1 = .ok (.getfield 15, 3) := by decide +kernel
theorem dX9_tryLevel_4 : decode cX9_tryLevel 4 = .ok (.getfield 41, 3) := by decide +kernel
theorem dX9_tryLevel_7 : decode cX9_tryLevel 7 = .ok (.iload_n 1, 1) := by decide +kernel
theorem dX9_tryLevel_8 : decode cX9_tryLevel 8 = .ok (.iaload, 1) := by decide +kernel
theorem dX9_tryLevel_9 : decode cX9_tryLevel 9 = .ok (.istore_n 3, 1) := by decide +kernel
theorem dX9_tryLevel_10 : decode cX9_tryLevel 10 = .ok (.aload_n 0, 1) := by decide +kernel
theorem dX9_tryLevel_11 : decode cX9_tryLevel 11 = .ok (.getfield 15, 3) := by decide +kernel
theorem dX9_tryLevel_14 : decode cX9_tryLevel 14 = .ok (.getfield 44, 3) := by decide +kernel
theorem dX9_tryLevel_17 : decode cX9_tryLevel 17 = .ok (.iload_n 1, 1) := by decide +kernel
theorem dX9_tryLevel_18 : decode cX9_tryLevel 18 = .ok (.iaload, 1) := by decide +kernel
theorem dX9_tryLevel_19 : decode cX9_tryLevel 19 = .ok (.istore 4, 2) := by decide +kernel
theorem dX9_tryLevel_21 : decode cX9_tryLevel 21 = .ok (.aload_n 0, 1) := by decide +kernel
theorem dX9_tryLevel_22 : decode cX9_tryLevel 22 = .ok (.getfield 15, 3) := by decide +kernel
theorem dX9_tryLevel_25 : decode cX9_tryLevel 25 = .ok (.getfield 47, 3) := by decide +kernel
theorem dX9_tryLevel_28 : decode cX9_tryLevel 28 = .ok (.iload_n 3, 1) := by decide +kernel
theorem dX9_tryLevel_29 : decode cX9_tryLevel 29 = .ok (.baload, 1) := by decide +kernel
theorem dX9_tryLevel_30 : decode cX9_tryLevel 30 = .ok (.ifCond .ne 7, 3) := by decide +kernel
theorem dX9_tryLevel_33 : decode cX9_tryLevel 33 = .ok (.iconst 1, 1) := by decide +kernel
theorem dX9_tryLevel_34 : decode cX9_tryLevel 34 = .ok (.goto 4, 3) := by decide +kernel
theorem dX9_tryLevel_37 : decode cX9_tryLevel 37 = .ok (.iconst 0, 1) := by decide +kernel
theorem dX9_tryLevel_38 : decode cX9_tryLevel 38 = .ok (.istore 5, 2) := by decide +kernel
theorem dX9_tryLevel_40 : decode cX9_tryLevel 40 = .ok (.iload 5, 2) := by decide +kernel
theorem dX9_tryLevel_42 : decode cX9_tryLevel 42 = .ok (.ifCond .eq 40, 3) := by decide +kernel
theorem dX9_tryLevel_45 : decode cX9_tryLevel 45 = .ok (.aload_n 0, 1) := by decide +kernel
theorem dX9_tryLevel_46 : decode cX9_tryLevel 46 = .ok (.getfield 27, 3) := by decide +kernel
theorem dX9_tryLevel_49 : decode cX9_tryLevel 49 = .ok (.iload_n 3, 1) := by decide +kernel
theorem dX9_tryLevel_50 : decode cX9_tryLevel 50 = .ok (.aload_n 0, 1) := by decide +kernel
theorem dX9_tryLevel_51 : decode cX9_tryLevel 51 = .ok (.getfield 9, 3) := by decide +kernel
theorem dX9_tryLevel_54 : decode cX9_tryLevel 54 = .ok (.aload_n 0, 1) := by decide +kernel
theorem dX9_tryLevel_55 : decode cX9_tryLevel 55 = .ok (.getfield 15, 3) := by decide +kernel
theorem dX9_tryLevel_58 : decode cX9_tryLevel 58 = .ok (.getfield 51, 3) := by decide +kernel
theorem dX9_tryLevel_61 : decode cX9_tryLevel 61 = .ok (.iload_n 1, 1) := by decide +kernel
theorem dX9_tryLevel_62 : decode cX9_tryLevel 62 = .ok (.iaload, 1) := by decide +kernel
theorem dX9_tryLevel_63 : decode cX9_tryLevel 63 = .ok (.iload_n 2, 1) := by decide +kernel
theorem dX9_tryLevel_64 : decode cX9_tryLevel 64 = .ok (.invokevirtual 54, 3) := by decide +kernel
theorem dX9_tryLevel_67 : decode cX9_tryLevel 67 = .ok (.invokevirtual 60, 3) := by decide +kernel
theorem dX9_tryLevel_70 : decode cX9_tryLevel 70 = .ok (.ifCond .ne 5, 3) := by decide +kernel
theorem dX9_tryLevel_73 : decode cX9_tryLevel 73 = .ok (.iconst 0, 1) := by decide +kernel
theorem dX9_tryLevel_74 : decode cX9_tryLevel 74 = .ok (.ireturn, 1) := by decide +kernel
theorem dX9_tryLevel_75 : decode cX9_tryLevel 75 = .ok (.aload_n 0, 1) := by decide +kernel
theorem dX9_tryLevel_76 : decode cX9_tryLevel 76 = .ok (.getfield 27, 3) := by decide +kernel
theorem dX9_tryLevel_79 : decode cX9_tryLevel 79 = .ok (.invokevirtual 65, 3) := by decide +kernel
theorem dX9_tryLevel_82 : decode cX9_tryLevel 82 = .ok (.aload_n 0, 1) := by decide +kernel
theorem dX9_tryLevel_83 : decode cX9_tryLevel 83 = .ok (.getfield 15, 3) := by decide +kernel
theorem dX9_tryLevel_86 : decode cX9_tryLevel 86 = .ok (.getfield 44, 3) := by decide +kernel
theorem dX9_tryLevel_89 : decode cX9_tryLevel 89 = .ok (.iload_n 1, 1) := by decide +kernel
theorem dX9_tryLevel_90 : decode cX9_tryLevel 90 = .ok (.iload_n 2, 1) := by decide +kernel
theorem dX9_tryLevel_91 : decode cX9_tryLevel 91 = .ok (.iastore, 1) := by decide +kernel
theorem dX9_tryLevel_92 : decode cX9_tryLevel 92 = .ok (.aload_n 0, 1) := by decide +kernel
theorem dX9_tryLevel_93 : decode cX9_tryLevel 93 = .ok (.getfield 23, 3) := by decide +kernel
theorem dX9_tryLevel_96 : decode cX9_tryLevel 96 = .ok (.invokevirtual 68, 3) := by decide +kernel
theorem dX9_tryLevel_99 : decode cX9_tryLevel 99 = .ok (.aload_n 0, 1) := by decide +kernel
theorem dX9_tryLevel_100 : decode cX9_tryLevel 100 = .ok (.getfield 23, 3) := by decide +kernel
theorem dX9_tryLevel_103 : decode cX9_tryLevel 103 = .ok (.invokevirtual 73, 3) := by decide +kernel
theorem dX9_tryLevel_106 : decode cX9_tryLevel 106 = .ok (.ifCond .eq 5, 3) := by decide +kernel
theorem dX9_tryLevel_109 : decode cX9_tryLevel 109 = .ok (.iconst 1, 1) := by decide +kernel
theorem dX9_tryLevel_110 : decode cX9_tryLevel 110 = .ok (.ireturn, 1) := by decide +kernel
theorem dX9_tryLevel_111 : decode cX9_tryLevel 111 = .ok (.aload_n 0, 1) := by decide +kernel
theorem dX9_tryLevel_112 : decode cX9_tryLevel 112 = .ok (.getfield 15, 3) := by decide +kernel
theorem dX9_tryLevel_115 : decode cX9_tryLevel 115 = .ok (.getfield 44, 3) := by decide +kernel
theorem dX9_tryLevel_118 : decode cX9_tryLevel 118 = .ok (.iload_n 1, 1) := by decide +kernel
theorem dX9_tryLevel_119 : decode cX9_tryLevel 119 = .ok (.iload 4, 2) := by decide +kernel
theorem dX9_tryLevel_121 : decode cX9_tryLevel 121 = .ok (.iastore, 1) := by decide +kernel
theorem dX9_tryLevel_122 : decode cX9_tryLevel 122 = .ok (.iload 5, 2) := by decide +kernel
theorem dX9_tryLevel_124 : decode cX9_tryLevel 124 = .ok (.ifCond .eq 10, 3) := by decide +kernel
theorem dX9_tryLevel_127 : decode cX9_tryLevel 127 = .ok (.aload_n 0, 1) := by decide +kernel
theorem dX9_tryLevel_128 : decode cX9_tryLevel 128 = .ok (.getfield 27, 3) := by decide +kernel
theorem dX9_tryLevel_131 : decode cX9_tryLevel 131 = .ok (.invokevirtual 77, 3) := by decide +kernel
theorem dX9_tryLevel_134 : decode cX9_tryLevel 134 = .ok (.iconst 0, 1) := by decide +kernel
theorem dX9_tryLevel_135 : decode cX9_tryLevel 135 = .ok (.ireturn, 1) := by decide +kernel
theorem dX9_tryConverter_0 : decode cX9_tryConverter 0 = .ok (.iload_n 1, 1) := by decide +kernel
theorem dX9_tryConverter_1 : decode cX9_tryConverter 1 = .ok (.iconst 4, 1) := by decide +kernel
theorem dX9_tryConverter_2 : decode cX9_tryConverter 2 = .ok (.imul, 1) := by decide +kernel
theorem dX9_tryConverter_3 : decode cX9_tryConverter 3 = .ok (.iload_n 2, 1) := by decide +kernel
theorem dX9_tryConverter_4 : decode cX9_tryConverter 4 = .ok (.iadd, 1) := by decide +kernel
theorem dX9_tryConverter_5 : decode cX9_tryConverter 5 = .ok (.istore_n 3, 1) := by decide +kernel
theorem dX9_tryConverter_6 : decode cX9_tryConverter 6 = .ok (.aload_n 0, 1) := by decide +kernel
theorem dX9_tryConverter_7 : decode cX9_tryConverter 7 = .ok (.getfield 15, 3) := by decide +kernel
theorem dX9_tryConverter_10 : decode cX9_tryConverter 10 = .ok (.getfield 80, 3) := by decide +kernel
theorem dX9_tryConverter_13 : decode cX9_tryConverter 13 = .ok (.iload_n 3, 1) := by decide +kernel
theorem dX9_tryConverter_14 : decode cX9_tryConverter 14 = .ok (.baload, 1) := by decide +kernel
theorem dX9_tryConverter_15 : decode cX9_tryConverter 15 = .ok (.ifCond .eq 5, 3) := by decide +kernel
theorem dX9_tryConverter_18 : decode cX9_tryConverter 18 = .ok (.iconst 0, 1) := by decide +kernel
theorem dX9_tryConverter_19 : decode cX9_tryConverter 19 = .ok (.ireturn, 1) := by decide +kernel
theorem dX9_tryConverter_20 : decode cX9_tryConverter 20 = .ok (.aload_n 0, 1) := by decide +kernel
theorem dX9_tryConverter_21 : decode cX9_tryConverter 21 = .ok (.getfield 15, 3) := by decide +kernel
theorem dX9_tryConverter_24 : decode cX9_tryConverter 24 = .ok (.getfield 80, 3) := by decide +kernel
theorem dX9_tryConverter_27 : decode cX9_tryConverter 27 = .ok (.iload_n 3, 1) := by decide +kernel
theorem dX9_tryConverter_28 : decode cX9_tryConverter 28 = .ok (.iconst 1, 1) := by decide +kernel
theorem dX9_tryConverter_29 : decode cX9_tryConverter 29 = .ok (.bastore, 1) := by decide +kernel
theorem dX9_tryConverter_30 : decode cX9_tryConverter 30 = .ok (.aload_n 0, 1) := by decide +kernel
theorem dX9_tryConverter_31 : decode cX9_tryConverter 31 = .ok (.getfield 23, 3) := by decide +kernel
theorem dX9_tryConverter_34 : decode cX9_tryConverter 34 = .ok (.invokevirtual 68, 3) := by decide +kernel
theorem dX9_tryConverter_37 : decode cX9_tryConverter 37 = .ok (.aload_n 0, 1) := by decide +kernel
theorem dX9_tryConverter_38 : decode cX9_tryConverter 38 = .ok (.getfield 23, 3) := by decide +kernel
theorem dX9_tryConverter_41 : decode cX9_tryConverter 41 = .ok (.invokevirtual 73, 3) := by decide +kernel
theorem dX9_tryConverter_44 : decode cX9_tryConverter 44 = .ok (.ifCond .eq 5, 3) := by decide +kernel
theorem dX9_tryConverter_47 : decode cX9_tryConverter 47 = .ok (.iconst 1, 1) := by decide +kernel
theorem dX9_tryConverter_48 : decode cX9_tryConverter 48 = .ok (.ireturn, 1) := by decide +kernel
theorem dX9_tryConverter_49 : decode cX9_tryConverter 49 = .ok (.aload_n 0, 1) := by decide +kernel
theorem dX9_tryConverter_50 : decode cX9_tryConverter 50 = .ok (.getfield 15, 3) := by decide +kernel
theorem dX9_tryConverter_53 : decode cX9_tryConverter 53 = .ok (.getfield 80, 3) := by decide +kernel
theorem dX9_tryConverter_56 : decode cX9_tryConverter 56 = .ok (.iload_n 3, 1) := by decide +kernel
theorem dX9_tryConverter_57 : decode cX9_tryConverter 57 = .ok (.iconst 0, 1) := by decide +kernel
theorem dX9_tryConverter_58 : decode cX9_tryConverter 58 = .ok (.bastore, 1) := by decide +kernel
theorem dX9_tryConverter_59 : decode cX9_tryConverter 59 = .ok (.iconst 0, 1) := by decide +kernel
theorem dX9_tryConverter_60 : decode cX9_tryConverter 60 = .ok (.ireturn, 1) := by decide +kernel
theorem dX9_raiseAll_0 : decode cX9_raiseAll 0 = .ok (.iconst 0, 1) := by decide +kernel
theorem dX9_raiseAll_1 : decode cX9_raiseAll 1 = .ok (.istore_n 1, 1) := by decide +kernel
theorem dX9_raiseAll_2 : decode cX9_raiseAll 2 = .ok (.iconst 0, 1) := by decide +kernel
theorem dX9_raiseAll_3 : decode cX9_raiseAll 3 = .ok (.istore_n 2, 1) := by decide +kernel
theorem dX9_raiseAll_4 : decode cX9_raiseAll 4 = .ok (.iload_n 2, 1) := by decide +kernel
theorem dX9_raiseAll_5 : decode cX9_raiseAll 5 = .ok (.bipush 105, 2) := by decide +kernel
theorem dX9_raiseAll_7 : decode cX9_raiseAll 7 = .ok (.if_icmp .gt 95, 3) := by decide +kernel
theorem dX9_raiseAll_10 : decode cX9_raiseAll 10 = .ok (.iload_n 1, 1) := by decide +kernel
theorem dX9_raiseAll_11 : decode cX9_raiseAll 11 = .ok (.istore_n 3, 1) := by decide +kernel
theorem dX9_raiseAll_12 : decode cX9_raiseAll 12 = .ok (.iconst 0, 1) := by decide +kernel
theorem dX9_raiseAll_13 : decode cX9_raiseAll 13 = .ok (.istore 4, 2) := by decide +kernel
theorem dX9_raiseAll_15 : decode cX9_raiseAll 15 = .ok (.iload 4, 2) := by decide +kernel
theorem dX9_raiseAll_17 : decode cX9_raiseAll 17 = .ok (.aload_n 0, 1) := by decide +kernel
theorem dX9_raiseAll_18 : decode cX9_raiseAll 18 = .ok (.getfield 15, 3) := by decide +kernel
theorem dX9_raiseAll_21 : decode cX9_raiseAll 21 = .ok (.getfield 83, 3) := by decide +kernel
theorem dX9_raiseAll_24 : decode cX9_raiseAll 24 = .ok (.if_icmp .ge 65, 3) := by decide +kernel
theorem dX9_raiseAll_27 : decode cX9_raiseAll 27 = .ok (.aload_n 0, 1) := by decide +kernel
theorem dX9_raiseAll_28 : decode cX9_raiseAll 28 = .ok (.getfield 15, 3) := by decide +kernel
theorem dX9_raiseAll_31 : decode cX9_raiseAll 31 = .ok (.getfield 44, 3) := by decide +kernel
theorem dX9_raiseAll_34 : decode cX9_raiseAll 34 = .ok (.iload 4, 2) := by decide +kernel
theorem dX9_raiseAll_36 : decode cX9_raiseAll 36 = .ok (.iaload, 1) := by decide +kernel
theorem dX9_raiseAll_37 : decode cX9_raiseAll 37 = .ok (.iconst 1, 1) := by decide +kernel
theorem dX9_raiseAll_38 : decode cX9_raiseAll 38 = .ok (.iadd, 1) := by decide +kernel
theorem dX9_raiseAll_39 : decode cX9_raiseAll 39 = .ok (.istore 5, 2) := by decide +kernel
theorem dX9_raiseAll_41 : decode cX9_raiseAll 41 = .ok (.aload_n 0, 1) := by decide +kernel
theorem dX9_raiseAll_42 : decode cX9_raiseAll 42 = .ok (.getfield 15, 3) := by decide +kernel
theorem dX9_raiseAll_45 : decode cX9_raiseAll 45 = .ok (.getfield 87, 3) := by decide +kernel
theorem dX9_raiseAll_48 : decode cX9_raiseAll 48 = .ok (.iload 4, 2) := by decide +kernel
theorem dX9_raiseAll_50 : decode cX9_raiseAll 50 = .ok (.baload, 1) := by decide +kernel
theorem dX9_raiseAll_51 : decode cX9_raiseAll 51 = .ok (.ifCond .ne 32, 3) := by decide +kernel
theorem dX9_raiseAll_54 : decode cX9_raiseAll 54 = .ok (.iload 5, 2) := by decide +kernel
theorem dX9_raiseAll_56 : decode cX9_raiseAll 56 = .ok (.aload_n 0, 1) := by decide +kernel
theorem dX9_raiseAll_57 : decode cX9_raiseAll 57 = .ok (.getfield 15, 3) := by decide +kernel
theorem dX9_raiseAll_60 : decode cX9_raiseAll 60 = .ok (.getfield 31, 3) := by decide +kernel
theorem dX9_raiseAll_63 : decode cX9_raiseAll 63 = .ok (.iload 4, 2) := by decide +kernel
theorem dX9_raiseAll_65 : decode cX9_raiseAll 65 = .ok (.iaload, 1) := by decide +kernel
theorem dX9_raiseAll_66 : decode cX9_raiseAll 66 = .ok (.if_icmp .gt 17, 3) := by decide +kernel
theorem dX9_raiseAll_69 : decode cX9_raiseAll 69 = .ok (.aload_n 0, 1) := by decide +kernel
theorem dX9_raiseAll_70 : decode cX9_raiseAll 70 = .ok (.iload 4, 2) := by decide +kernel
theorem dX9_raiseAll_72 : decode cX9_raiseAll 72 = .ok (.iload 5, 2) := by decide +kernel
theorem dX9_raiseAll_74 : decode cX9_raiseAll 74 = .ok (.invokevirtual 37, 3) := by decide +kernel
theorem dX9_raiseAll_77 : decode cX9_raiseAll 77 = .ok (.ifCond .eq 6, 3) := by decide +kernel
theorem dX9_raiseAll_80 : decode cX9_raiseAll 80 = .ok (.iinc 1 1, 3) := by decide +kernel
theorem dX9_raiseAll_83 : decode cX9_raiseAll 83 = .ok (.iinc 4 1, 3) := by decide +kernel
theorem dX9_raiseAll_86 : decode cX9_raiseAll 86 = .ok (.goto (-71), 3) := by decide +kernel
theorem dX9_raiseAll_89 : decode cX9_raiseAll 89 = .ok (.iload_n 1, 1) := by decide +kernel
theorem dX9_raiseAll_90 : decode cX9_raiseAll 90 = .ok (.iload_n 3, 1) := by decide +kernel
theorem dX9_raiseAll_91 : decode cX9_raiseAll 91 = .ok (.if_icmp .ne 5, 3) := by decide +kernel
theorem dX9_raiseAll_94 : decode cX9_raiseAll 94 = .ok (.iload_n 1, 1) := by decide +kernel
theorem dX9_raiseAll_95 : decode cX9_raiseAll 95 = .ok (.ireturn, 1) := by decide +kernel
theorem dX9_raiseAll_96 : decode cX9_raiseAll 96 = .ok (.iinc 2 1, 3) := by decide +kernel
theorem dX9_raiseAll_99 : decode cX9_raiseAll 99 = .ok (.goto (-95), 3) := by decide +kernel
theorem dX9_raiseAll_102 : decode cX9_raiseAll 102 = .ok (.iload_n 1, 1) := by decide +kernel
theorem dX9_raiseAll_103 : decode cX9_raiseAll 103 = .ok (.ireturn, 1) := by decide +kernel
theorem dX9_growAnew_0 : decode cX9_growAnew 0 = .ok (.aload_n 0, 1) := by decide +kernel
theorem dX9_growAnew_1 : decode cX9_growAnew 1 = .ok (.getfield 15, 3) := by decide +kernel
theorem dX9_growAnew_4 : decode cX9_growAnew 4 = .ok (.invokevirtual 90, 3) := by decide +kernel
theorem dX9_growAnew_7 : decode cX9_growAnew 7 = .ok (.istore_n 1, 1) := by decide +kernel
theorem dX9_growAnew_8 : decode cX9_growAnew 8 = .ok (.aload_n 0, 1) := by decide +kernel
theorem dX9_growAnew_9 : decode cX9_growAnew 9 = .ok (.getfield 15, 3) := by decide +kernel
theorem dX9_growAnew_12 : decode cX9_growAnew 12 = .ok (.invokevirtual 94, 3) := by decide +kernel
theorem dX9_growAnew_15 : decode cX9_growAnew 15 = .ok (.aload_n 0, 1) := by decide +kernel
theorem dX9_growAnew_16 : decode cX9_growAnew 16 = .ok (.getfield 15, 3) := by decide +kernel
theorem dX9_growAnew_19 : decode cX9_growAnew 19 = .ok (.getfield 44, 3) := by decide +kernel
theorem dX9_growAnew_22 : decode cX9_growAnew 22 = .ok (.iconst 0, 1) := by decide +kernel
theorem dX9_growAnew_23 : decode cX9_growAnew 23 = .ok (.invokestatic 97, 3) := by decide +kernel
theorem dX9_growAnew_26 : decode cX9_growAnew 26 = .ok (.iconst 0, 1) := by decide +kernel
theorem dX9_growAnew_27 : decode cX9_growAnew 27 = .ok (.istore_n 2, 1) := by decide +kernel
theorem dX9_growAnew_28 : decode cX9_growAnew 28 = .ok (.iload_n 2, 1) := by decide +kernel
theorem dX9_growAnew_29 : decode cX9_growAnew 29 = .ok (.aload_n 0, 1) := by decide +kernel
theorem dX9_growAnew_30 : decode cX9_growAnew 30 = .ok (.getfield 15, 3) := by decide +kernel
theorem dX9_growAnew_33 : decode cX9_growAnew 33 = .ok (.getfield 83, 3) := by decide +kernel
theorem dX9_growAnew_36 : decode cX9_growAnew 36 = .ok (.if_icmp .ge 27, 3) := by decide +kernel
theorem dX9_growAnew_39 : decode cX9_growAnew 39 = .ok (.aload_n 0, 1) := by decide +kernel
theorem dX9_growAnew_40 : decode cX9_growAnew 40 = .ok (.getfield 15, 3) := by decide +kernel
theorem dX9_growAnew_43 : decode cX9_growAnew 43 = .ok (.getfield 87, 3) := by decide +kernel
theorem dX9_growAnew_46 : decode cX9_growAnew 46 = .ok (.iload_n 2, 1) := by decide +kernel
theorem dX9_growAnew_47 : decode cX9_growAnew 47 = .ok (.baload, 1) := by decide +kernel
theorem dX9_growAnew_48 : decode cX9_growAnew 48 = .ok (.ifCond .ne 9, 3) := by decide +kernel
theorem dX9_growAnew_51 : decode cX9_growAnew 51 = .ok (.aload_n 0, 1) := by decide +kernel
theorem dX9_growAnew_52 : decode cX9_growAnew 52 = .ok (.iload_n 2, 1) := by decide +kernel
theorem dX9_growAnew_53 : decode cX9_growAnew 53 = .ok (.invokevirtual 103, 3) := by decide +kernel
theorem dX9_growAnew_56 : decode cX9_growAnew 56 = .ok (.pop, 1) := by decide +kernel
theorem dX9_growAnew_57 : decode cX9_growAnew 57 = .ok (.iinc 2 1, 3) := by decide +kernel
theorem dX9_growAnew_60 : decode cX9_growAnew 60 = .ok (.goto (-32), 3) := by decide +kernel
theorem dX9_growAnew_63 : decode cX9_growAnew 63 = .ok (.aload_n 0, 1) := by decide +kernel
theorem dX9_growAnew_64 : decode cX9_growAnew 64 = .ok (.getfield 15, 3) := by decide +kernel
theorem dX9_growAnew_67 : decode cX9_growAnew 67 = .ok (.invokevirtual 90, 3) := by decide +kernel
theorem dX9_growAnew_70 : decode cX9_growAnew 70 = .ok (.iload_n 1, 1) := by decide +kernel
theorem dX9_growAnew_71 : decode cX9_growAnew 71 = .ok (.isub, 1) := by decide +kernel
theorem dX9_growAnew_72 : decode cX9_growAnew 72 = .ok (.ireturn, 1) := by decide +kernel
theorem dX9_closeLink_0 : decode cX9_closeLink 0 = .ok (.aload_n 0, 1) := by decide +kernel
theorem dX9_closeLink_1 : decode cX9_closeLink 1 = .ok (.getfield 15, 3) := by decide +kernel
theorem dX9_closeLink_4 : decode cX9_closeLink 4 = .ok (.invokevirtual 90, 3) := by decide +kernel
theorem dX9_closeLink_7 : decode cX9_closeLink 7 = .ok (.istore_n 2, 1) := by decide +kernel
theorem dX9_closeLink_8 : decode cX9_closeLink 8 = .ok (.aload_n 0, 1) := by decide +kernel
theorem dX9_closeLink_9 : decode cX9_closeLink 9 = .ok (.getfield 15, 3) := by decide +kernel
theorem dX9_closeLink_12 : decode cX9_closeLink 12 = .ok (.getfield 107, 3) := by decide +kernel
theorem dX9_closeLink_15 : decode cX9_closeLink 15 = .ok (.iload_n 1, 1) := by decide +kernel
theorem dX9_closeLink_16 : decode cX9_closeLink 16 = .ok (.iconst 0, 1) := by decide +kernel
theorem dX9_closeLink_17 : decode cX9_closeLink 17 = .ok (.bastore, 1) := by decide +kernel
theorem dX9_closeLink_18 : decode cX9_closeLink 18 = .ok (.aload_n 0, 1) := by decide +kernel
theorem dX9_closeLink_19 : decode cX9_closeLink 19 = .ok (.iload_n 1, 1) := by decide +kernel
theorem dX9_closeLink_20 : decode cX9_closeLink 20 = .ok (.invokevirtual 110, 3) := by decide +kernel
theorem dX9_closeLink_23 : decode cX9_closeLink 23 = .ok (.istore_n 3, 1) := by decide +kernel
theorem dX9_closeLink_24 : decode cX9_closeLink 24 = .ok (.aload_n 0, 1) := by decide +kernel
theorem dX9_closeLink_25 : decode cX9_closeLink 25 = .ok (.getfield 19, 3) := by decide +kernel
theorem dX9_closeLink_28 : decode cX9_closeLink 28 = .ok (.invokevirtual 113, 3) := by decide +kernel
theorem dX9_closeLink_31 : decode cX9_closeLink 31 = .ok (.iconst 0, 1) := by decide +kernel
theorem dX9_closeLink_32 : decode cX9_closeLink 32 = .ok (.istore 4, 2) := by decide +kernel
theorem dX9_closeLink_34 : decode cX9_closeLink 34 = .ok (.iload 4, 2) := by decide +kernel
theorem dX9_closeLink_36 : decode cX9_closeLink 36 = .ok (.aload_n 0, 1) := by decide +kernel
theorem dX9_closeLink_37 : decode cX9_closeLink 37 = .ok (.getfield 15, 3) := by decide +kernel
theorem dX9_closeLink_40 : decode cX9_closeLink 40 = .ok (.getfield 83, 3) := by decide +kernel
theorem dX9_closeLink_43 : decode cX9_closeLink 43 = .ok (.if_icmp .ge 26, 3) := by decide +kernel
theorem dX9_closeLink_46 : decode cX9_closeLink 46 = .ok (.iload_n 3, 1) := by decide +kernel
theorem dX9_closeLink_47 : decode cX9_closeLink 47 = .ok (.iload 4, 2) := by decide +kernel
theorem dX9_closeLink_49 : decode cX9_closeLink 49 = .ok (.ishr, 1) := by decide +kernel
theorem dX9_closeLink_50 : decode cX9_closeLink 50 = .ok (.iconst 1, 1) := by decide +kernel
theorem dX9_closeLink_51 : decode cX9_closeLink 51 = .ok (.iand, 1) := by decide +kernel
theorem dX9_closeLink_52 : decode cX9_closeLink 52 = .ok (.iconst 1, 1) := by decide +kernel
theorem dX9_closeLink_53 : decode cX9_closeLink 53 = .ok (.if_icmp .ne 10, 3) := by decide +kernel
theorem dX9_closeLink_56 : decode cX9_closeLink 56 = .ok (.aload_n 0, 1) := by decide +kernel
theorem dX9_closeLink_57 : decode cX9_closeLink 57 = .ok (.iload 4, 2) := by decide +kernel
theorem dX9_closeLink_59 : decode cX9_closeLink 59 = .ok (.invokevirtual 103, 3) := by decide +kernel
theorem dX9_closeLink_62 : decode cX9_closeLink 62 = .ok (.pop, 1) := by decide +kernel
theorem dX9_closeLink_63 : decode cX9_closeLink 63 = .ok (.iinc 4 1, 3) := by decide +kernel
theorem dX9_closeLink_66 : decode cX9_closeLink 66 = .ok (.goto (-32), 3) := by decide +kernel
theorem dX9_closeLink_69 : decode cX9_closeLink 69 = .ok (.iload_n 2, 1) := by decide +kernel
theorem dX9_closeLink_70 : decode cX9_closeLink 70 = .ok (.aload_n 0, 1) := by decide +kernel
theorem dX9_closeLink_71 : decode cX9_closeLink 71 = .ok (.getfield 15, 3) := by decide +kernel
theorem dX9_closeLink_74 : decode cX9_closeLink 74 = .ok (.invokevirtual 90, 3) := by decide +kernel
theorem dX9_closeLink_77 : decode cX9_closeLink 77 = .ok (.isub, 1) := by decide +kernel
theorem dX9_closeLink_78 : decode cX9_closeLink 78 = .ok (.ireturn, 1) := by decide +kernel
theorem dX9_cutAt_0 : decode cX9_cutAt 0 = .ok (.aload_n 0, 1) := by decide +kernel
theorem dX9_cutAt_1 : decode cX9_cutAt 1 = .ok (.iload_n 1, 1) := by decide +kernel
theorem dX9_cutAt_2 : decode cX9_cutAt 2 = .ok (.invokevirtual 118, 3) := by decide +kernel
theorem dX9_cutAt_5 : decode cX9_cutAt 5 = .ok (.istore_n 2, 1) := by decide +kernel
theorem dX9_cutAt_6 : decode cX9_cutAt 6 = .ok (.iload_n 2, 1) := by decide +kernel
theorem dX9_cutAt_7 : decode cX9_cutAt 7 = .ok (.iconst (-1), 1) := by decide +kernel
theorem dX9_cutAt_8 : decode cX9_cutAt 8 = .ok (.if_icmp .ne 7, 3) := by decide +kernel
theorem dX9_cutAt_11 : decode cX9_cutAt 11 = .ok (.iconst 0, 1) := by decide +kernel
theorem dX9_cutAt_12 : decode cX9_cutAt 12 = .ok (.goto 11, 3) := by decide +kernel
theorem dX9_cutAt_15 : decode cX9_cutAt 15 = .ok (.aload_n 0, 1) := by decide +kernel
theorem dX9_cutAt_16 : decode cX9_cutAt 16 = .ok (.getfield 19, 3) := by decide +kernel
theorem dX9_cutAt_19 : decode cX9_cutAt 19 = .ok (.iload_n 2, 1) := by decide +kernel
theorem dX9_cutAt_20 : decode cX9_cutAt 20 = .ok (.invokevirtual 121, 3) := by decide +kernel
theorem dX9_cutAt_23 : decode cX9_cutAt 23 = .ok (.istore_n 3, 1) := by decide +kernel
theorem dX9_cutAt_24 : decode cX9_cutAt 24 = .ok (.iconst 0, 1) := by decide +kernel
theorem dX9_cutAt_25 : decode cX9_cutAt 25 = .ok (.istore 4, 2) := by decide +kernel
theorem dX9_cutAt_27 : decode cX9_cutAt 27 = .ok (.iconst 0, 1) := by decide +kernel
theorem dX9_cutAt_28 : decode cX9_cutAt 28 = .ok (.istore 5, 2) := by decide +kernel
theorem dX9_cutAt_30 : decode cX9_cutAt 30 = .ok (.iload 5, 2) := by decide +kernel
theorem dX9_cutAt_32 : decode cX9_cutAt 32 = .ok (.aload_n 0, 1) := by decide +kernel
theorem dX9_cutAt_33 : decode cX9_cutAt 33 = .ok (.getfield 15, 3) := by decide +kernel
theorem dX9_cutAt_36 : decode cX9_cutAt 36 = .ok (.getfield 83, 3) := by decide +kernel
theorem dX9_cutAt_39 : decode cX9_cutAt 39 = .ok (.if_icmp .ge 60, 3) := by decide +kernel
theorem dX9_cutAt_42 : decode cX9_cutAt 42 = .ok (.aload_n 0, 1) := by decide +kernel
theorem dX9_cutAt_43 : decode cX9_cutAt 43 = .ok (.getfield 15, 3) := by decide +kernel
theorem dX9_cutAt_46 : decode cX9_cutAt 46 = .ok (.getfield 44, 3) := by decide +kernel
theorem dX9_cutAt_49 : decode cX9_cutAt 49 = .ok (.iload 5, 2) := by decide +kernel
theorem dX9_cutAt_51 : decode cX9_cutAt 51 = .ok (.iaload, 1) := by decide +kernel
theorem dX9_cutAt_52 : decode cX9_cutAt 52 = .ok (.ifCond .le 41, 3) := by decide +kernel
theorem dX9_cutAt_55 : decode cX9_cutAt 55 = .ok (.iload_n 3, 1) := by decide +kernel
theorem dX9_cutAt_56 : decode cX9_cutAt 56 = .ok (.aload_n 0, 1) := by decide +kernel
theorem dX9_cutAt_57 : decode cX9_cutAt 57 = .ok (.getfield 15, 3) := by decide +kernel
theorem dX9_cutAt_60 : decode cX9_cutAt 60 = .ok (.getfield 41, 3) := by decide +kernel
theorem dX9_cutAt_63 : decode cX9_cutAt 63 = .ok (.iload 5, 2) := by decide +kernel
theorem dX9_cutAt_65 : decode cX9_cutAt 65 = .ok (.iaload, 1) := by decide +kernel
theorem dX9_cutAt_66 : decode cX9_cutAt 66 = .ok (.ishr, 1) := by decide +kernel
theorem dX9_cutAt_67 : decode cX9_cutAt 67 = .ok (.iconst 1, 1) := by decide +kernel
theorem dX9_cutAt_68 : decode cX9_cutAt 68 = .ok (.iand, 1) := by decide +kernel
theorem dX9_cutAt_69 : decode cX9_cutAt 69 = .ok (.iconst 1, 1) := by decide +kernel
theorem dX9_cutAt_70 : decode cX9_cutAt 70 = .ok (.if_icmp .ne 23, 3) := by decide +kernel
theorem dX9_cutAt_73 : decode cX9_cutAt 73 = .ok (.iload 4, 2) := by decide +kernel
theorem dX9_cutAt_75 : decode cX9_cutAt 75 = .ok (.iconst 1, 1) := by decide +kernel
theorem dX9_cutAt_76 : decode cX9_cutAt 76 = .ok (.iload 5, 2) := by decide +kernel
theorem dX9_cutAt_78 : decode cX9_cutAt 78 = .ok (.ishl, 1) := by decide +kernel
theorem dX9_cutAt_79 : decode cX9_cutAt 79 = .ok (.ior, 1) := by decide +kernel
theorem dX9_cutAt_80 : decode cX9_cutAt 80 = .ok (.istore 4, 2) := by decide +kernel
theorem dX9_cutAt_82 : decode cX9_cutAt 82 = .ok (.aload_n 0, 1) := by decide +kernel
theorem dX9_cutAt_83 : decode cX9_cutAt 83 = .ok (.getfield 15, 3) := by decide +kernel
theorem dX9_cutAt_86 : decode cX9_cutAt 86 = .ok (.getfield 44, 3) := by decide +kernel
theorem dX9_cutAt_89 : decode cX9_cutAt 89 = .ok (.iload 5, 2) := by decide +kernel
theorem dX9_cutAt_91 : decode cX9_cutAt 91 = .ok (.iconst 0, 1) := by decide +kernel
theorem dX9_cutAt_92 : decode cX9_cutAt 92 = .ok (.iastore, 1) := by decide +kernel
theorem dX9_cutAt_93 : decode cX9_cutAt 93 = .ok (.iinc 5 1, 3) := by decide +kernel
theorem dX9_cutAt_96 : decode cX9_cutAt 96 = .ok (.goto (-66), 3) := by decide +kernel
theorem dX9_cutAt_99 : decode cX9_cutAt 99 = .ok (.iload 4, 2) := by decide +kernel
theorem dX9_cutAt_101 : decode cX9_cutAt 101 = .ok (.ireturn, 1) := by decide +kernel
theorem dX9_lowerEnd_0 : decode cX9_lowerEnd 0 = .ok (.aload_n 0, 1) := by decide +kernel
theorem dX9_lowerEnd_1 : decode cX9_lowerEnd 1 = .ok (.getfield 9, 3) := by decide +kernel
theorem dX9_lowerEnd_4 : decode cX9_lowerEnd 4 = .ok (.getfield 124, 3) := by decide +kernel
theorem dX9_lowerEnd_7 : decode cX9_lowerEnd 7 = .ok (.iload_n 1, 1) := by decide +kernel
theorem dX9_lowerEnd_8 : decode cX9_lowerEnd 8 = .ok (.iaload, 1) := by decide +kernel
theorem dX9_lowerEnd_9 : decode cX9_lowerEnd 9 = .ok (.istore_n 2, 1) := by decide +kernel
theorem dX9_lowerEnd_10 : decode cX9_lowerEnd 10 = .ok (.aload_n 0, 1) := by decide +kernel
theorem dX9_lowerEnd_11 : decode cX9_lowerEnd 11 = .ok (.getfield 9, 3) := by decide +kernel
theorem dX9_lowerEnd_14 : decode cX9_lowerEnd 14 = .ok (.getfield 127, 3) := by decide +kernel
theorem dX9_lowerEnd_17 : decode cX9_lowerEnd 17 = .ok (.iload_n 1, 1) := by decide +kernel
theorem dX9_lowerEnd_18 : decode cX9_lowerEnd 18 = .ok (.iaload, 1) := by decide +kernel
theorem dX9_lowerEnd_19 : decode cX9_lowerEnd 19 = .ok (.istore_n 3, 1) := by decide +kernel
theorem dX9_lowerEnd_20 : decode cX9_lowerEnd 20 = .ok (.aload_n 0, 1) := by decide +kernel
theorem dX9_lowerEnd_21 : decode cX9_lowerEnd 21 = .ok (.getfield 15, 3) := by decide +kernel
theorem dX9_lowerEnd_24 : decode cX9_lowerEnd 24 = .ok (.getfield 130, 3) := by decide +kernel
theorem dX9_lowerEnd_27 : decode cX9_lowerEnd 27 = .ok (.iload_n 2, 1) := by decide +kernel
theorem dX9_lowerEnd_28 : decode cX9_lowerEnd 28 = .ok (.iaload, 1) := by decide +kernel
theorem dX9_lowerEnd_29 : decode cX9_lowerEnd 29 = .ok (.iload_n 3, 1) := by decide +kernel
theorem dX9_lowerEnd_30 : decode cX9_lowerEnd 30 = .ok (.if_icmp .ne 5, 3) := by decide +kernel
theorem dX9_lowerEnd_33 : decode cX9_lowerEnd 33 = .ok (.iload_n 2, 1) := by decide +kernel
theorem dX9_lowerEnd_34 : decode cX9_lowerEnd 34 = .ok (.ireturn, 1) := by decide +kernel
theorem dX9_lowerEnd_35 : decode cX9_lowerEnd 35 = .ok (.aload_n 0, 1) := by decide +kernel
theorem dX9_lowerEnd_36 : decode cX9_lowerEnd 36 = .ok (.getfield 15, 3) := by decide +kernel
theorem dX9_lowerEnd_39 : decode cX9_lowerEnd 39 = .ok (.getfield 130, 3) := by decide +kernel
theorem dX9_lowerEnd_42 : decode cX9_lowerEnd 42 = .ok (.iload_n 3, 1) := by decide +kernel
theorem dX9_lowerEnd_43 : decode cX9_lowerEnd 43 = .ok (.iaload, 1) := by decide +kernel
theorem dX9_lowerEnd_44 : decode cX9_lowerEnd 44 = .ok (.iload_n 2, 1) := by decide +kernel
theorem dX9_lowerEnd_45 : decode cX9_lowerEnd 45 = .ok (.if_icmp .ne 7, 3) := by decide +kernel
theorem dX9_lowerEnd_48 : decode cX9_lowerEnd 48 = .ok (.iload_n 3, 1) := by decide +kernel
theorem dX9_lowerEnd_49 : decode cX9_lowerEnd 49 = .ok (.goto 4, 3) := by decide +kernel
theorem dX9_lowerEnd_52 : decode cX9_lowerEnd 52 = .ok (.iconst (-1), 1) := by decide +kernel
theorem dX9_lowerEnd_53 : decode cX9_lowerEnd 53 = .ok (.ireturn, 1) := by decide +kernel
theorem dX9_repair_0 : decode cX9_repair 0 = .ok (.iconst 0, 1) := by decide +kernel
theorem dX9_repair_1 : decode cX9_repair 1 = .ok (.istore_n 1, 1) := by decide +kernel
theorem dX9_repair_2 : decode cX9_repair 2 = .ok (.iconst 0, 1) := by decide +kernel
theorem dX9_repair_3 : decode cX9_repair 3 = .ok (.istore_n 2, 1) := by decide +kernel
theorem dX9_repair_4 : decode cX9_repair 4 = .ok (.iload_n 2, 1) := by decide +kernel
theorem dX9_repair_5 : decode cX9_repair 5 = .ok (.bipush 105, 2) := by decide +kernel
theorem dX9_repair_7 : decode cX9_repair 7 = .ok (.if_icmp .gt 51, 3) := by decide +kernel
theorem dX9_repair_10 : decode cX9_repair 10 = .ok (.aload_n 0, 1) := by decide +kernel
theorem dX9_repair_11 : decode cX9_repair 11 = .ok (.getfield 23, 3) := by decide +kernel
theorem dX9_repair_14 : decode cX9_repair 14 = .ok (.invokevirtual 68, 3) := by decide +kernel
theorem dX9_repair_17 : decode cX9_repair 17 = .ok (.aload_n 0, 1) := by decide +kernel
theorem dX9_repair_18 : decode cX9_repair 18 = .ok (.invokevirtual 133, 3) := by decide +kernel
theorem dX9_repair_21 : decode cX9_repair 21 = .ok (.istore_n 3, 1) := by decide +kernel
theorem dX9_repair_22 : decode cX9_repair 22 = .ok (.iload_n 3, 1) := by decide +kernel
theorem dX9_repair_23 : decode cX9_repair 23 = .ok (.iconst (-1), 1) := by decide +kernel
theorem dX9_repair_24 : decode cX9_repair 24 = .ok (.if_icmp .ne 5, 3) := by decide +kernel
theorem dX9_repair_27 : decode cX9_repair 27 = .ok (.iload_n 1, 1) := by decide +kernel
theorem dX9_repair_28 : decode cX9_repair 28 = .ok (.ireturn, 1) := by decide +kernel
theorem dX9_repair_29 : decode cX9_repair 29 = .ok (.aload_n 0, 1) := by decide +kernel
theorem dX9_repair_30 : decode cX9_repair 30 = .ok (.getfield 15, 3) := by decide +kernel
theorem dX9_repair_33 : decode cX9_repair 33 = .ok (.getfield 44, 3) := by decide +kernel
theorem dX9_repair_36 : decode cX9_repair 36 = .ok (.iload_n 3, 1) := by decide +kernel
theorem dX9_repair_37 : decode cX9_repair 37 = .ok (.dup2, 1) := by decide +kernel
theorem dX9_repair_38 : decode cX9_repair 38 = .ok (.iaload, 1) := by decide +kernel
theorem dX9_repair_39 : decode cX9_repair 39 = .ok (.iconst 1, 1) := by decide +kernel
theorem dX9_repair_40 : decode cX9_repair 40 = .ok (.isub, 1) := by decide +kernel
theorem dX9_repair_41 : decode cX9_repair 41 = .ok (.iastore, 1) := by decide +kernel
theorem dX9_repair_42 : decode cX9_repair 42 = .ok (.iinc 1 1, 3) := by decide +kernel
theorem dX9_repair_45 : decode cX9_repair 45 = .ok (.aload_n 0, 1) := by decide +kernel
theorem dX9_repair_46 : decode cX9_repair 46 = .ok (.getfield 19, 3) := by decide +kernel
theorem dX9_repair_49 : decode cX9_repair 49 = .ok (.invokevirtual 113, 3) := by decide +kernel
theorem dX9_repair_52 : decode cX9_repair 52 = .ok (.iinc 2 1, 3) := by decide +kernel
theorem dX9_repair_55 : decode cX9_repair 55 = .ok (.goto (-51), 3) := by decide +kernel
theorem dX9_repair_58 : decode cX9_repair 58 = .ok (.iload_n 1, 1) := by decide +kernel
theorem dX9_repair_59 : decode cX9_repair 59 = .ok (.ireturn, 1) := by decide +kernel
theorem dX9_nextToLower_0 : decode cX9_nextToLower 0 = .ok (.aload_n 0, 1) := by decide +kernel
theorem dX9_nextToLower_1 : decode cX9_nextToLower 1 = .ok (.getfield 23, 3) := by decide +kernel
theorem dX9_nextToLower_4 : decode cX9_nextToLower 4 = .ok (.invokevirtual 136, 3) := by decide +kernel
theorem dX9_nextToLower_7 : decode cX9_nextToLower 7 = .ok (.istore_n 1, 1) := by decide +kernel
theorem dX9_nextToLower_8 : decode cX9_nextToLower 8 = .ok (.iload_n 1, 1) := by decide +kernel
theorem dX9_nextToLower_9 : decode cX9_nextToLower 9 = .ok (.iconst (-1), 1) := by decide +kernel
theorem dX9_nextToLower_10 : decode cX9_nextToLower 10 = .ok (.if_icmp .eq 13, 3) := by decide +kernel
theorem dX9_nextToLower_13 : decode cX9_nextToLower 13 = .ok (.aload_n 0, 1) := by decide +kernel
theorem dX9_nextToLower_14 : decode cX9_nextToLower 14 = .ok (.aload_n 0, 1) := by decide +kernel
theorem dX9_nextToLower_15 : decode cX9_nextToLower 15 = .ok (.iload_n 1, 1) := by decide +kernel
theorem dX9_nextToLower_16 : decode cX9_nextToLower 16 = .ok (.invokevirtual 118, 3) := by decide +kernel
theorem dX9_nextToLower_19 : decode cX9_nextToLower 19 = .ok (.invokevirtual 139, 3) := by decide +kernel
theorem dX9_nextToLower_22 : decode cX9_nextToLower 22 = .ok (.ireturn, 1) := by decide +kernel
theorem dX9_nextToLower_23 : decode cX9_nextToLower 23 = .ok (.aload_n 0, 1) := by decide +kernel
theorem dX9_nextToLower_24 : decode cX9_nextToLower 24 = .ok (.getfield 23, 3) := by decide +kernel
theorem dX9_nextToLower_27 : decode cX9_nextToLower 27 = .ok (.invokevirtual 142, 3) := by decide +kernel
theorem dX9_nextToLower_30 : decode cX9_nextToLower 30 = .ok (.istore_n 2, 1) := by decide +kernel
theorem dX9_nextToLower_31 : decode cX9_nextToLower 31 = .ok (.iload_n 2, 1) := by decide +kernel
theorem dX9_nextToLower_32 : decode cX9_nextToLower 32 = .ok (.iconst (-1), 1) := by decide +kernel
theorem dX9_nextToLower_33 : decode cX9_nextToLower 33 = .ok (.if_icmp .eq 9, 3) := by decide +kernel
theorem dX9_nextToLower_36 : decode cX9_nextToLower 36 = .ok (.aload_n 0, 1) := by decide +kernel
theorem dX9_nextToLower_37 : decode cX9_nextToLower 37 = .ok (.iload_n 2, 1) := by decide +kernel
theorem dX9_nextToLower_38 : decode cX9_nextToLower 38 = .ok (.invokevirtual 145, 3) := by decide +kernel
theorem dX9_nextToLower_41 : decode cX9_nextToLower 41 = .ok (.ireturn, 1) := by decide +kernel
theorem dX9_nextToLower_42 : decode cX9_nextToLower 42 = .ok (.aload_n 0, 1) := by decide +kernel
theorem dX9_nextToLower_43 : decode cX9_nextToLower 43 = .ok (.getfield 23, 3) := by decide +kernel
theorem dX9_nextToLower_46 : decode cX9_nextToLower 46 = .ok (.invokevirtual 148, 3) := by decide +kernel
theorem dX9_nextToLower_49 : decode cX9_nextToLower 49 = .ok (.istore_n 3, 1) := by decide +kernel
theorem dX9_nextToLower_50 : decode cX9_nextToLower 50 = .ok (.iload_n 3, 1) := by decide +kernel
theorem dX9_nextToLower_51 : decode cX9_nextToLower 51 = .ok (.iconst (-1), 1) := by decide +kernel
theorem dX9_nextToLower_52 : decode cX9_nextToLower 52 = .ok (.if_icmp .ne 7, 3) := by decide +kernel
theorem dX9_nextToLower_55 : decode cX9_nextToLower 55 = .ok (.iconst (-1), 1) := by decide +kernel
theorem dX9_nextToLower_56 : decode cX9_nextToLower 56 = .ok (.goto 8, 3) := by decide +kernel
theorem dX9_nextToLower_59 : decode cX9_nextToLower 59 = .ok (.aload_n 0, 1) := by decide +kernel
theorem dX9_nextToLower_60 : decode cX9_nextToLower 60 = .ok (.iload_n 3, 1) := by decide +kernel
theorem dX9_nextToLower_61 : decode cX9_nextToLower 61 = .ok (.invokevirtual 151, 3) := by decide +kernel
theorem dX9_nextToLower_64 : decode cX9_nextToLower 64 = .ok (.ireturn, 1) := by decide +kernel
theorem dX9_greatestBelow_0 : decode cX9_greatestBelow 0 = .ok (.iconst (-1), 1) := by decide +kernel
theorem dX9_greatestBelow_1 : decode cX9_greatestBelow 1 = .ok (.istore_n 2, 1) := by decide +kernel
theorem dX9_greatestBelow_2 : decode cX9_greatestBelow 2 = .ok (.iconst 0, 1) := by decide +kernel
theorem dX9_greatestBelow_3 : decode cX9_greatestBelow 3 = .ok (.istore_n 3, 1) := by decide +kernel
theorem dX9_greatestBelow_4 : decode cX9_greatestBelow 4 = .ok (.iload_n 3, 1) := by decide +kernel
theorem dX9_greatestBelow_5 : decode cX9_greatestBelow 5 = .ok (.aload_n 0, 1) := by decide +kernel
theorem dX9_greatestBelow_6 : decode cX9_greatestBelow 6 = .ok (.getfield 15, 3) := by decide +kernel
theorem dX9_greatestBelow_9 : decode cX9_greatestBelow 9 = .ok (.getfield 83, 3) := by decide +kernel
theorem dX9_greatestBelow_12 : decode cX9_greatestBelow 12 = .ok (.if_icmp .ge 37, 3) := by decide +kernel
theorem dX9_greatestBelow_15 : decode cX9_greatestBelow 15 = .ok (.iload_n 1, 1) := by decide +kernel
theorem dX9_greatestBelow_16 : decode cX9_greatestBelow 16 = .ok (.iconst (-1), 1) := by decide +kernel
theorem dX9_greatestBelow_17 : decode cX9_greatestBelow 17 = .ok (.if_icmp .eq 26, 3) := by decide +kernel
theorem dX9_greatestBelow_20 : decode cX9_greatestBelow 20 = .ok (.aload_n 0, 1) := by decide +kernel
theorem dX9_greatestBelow_21 : decode cX9_greatestBelow 21 = .ok (.getfield 19, 3) := by decide +kernel
theorem dX9_greatestBelow_24 : decode cX9_greatestBelow 24 = .ok (.iload_n 3, 1) := by decide +kernel
theorem dX9_greatestBelow_25 : decode cX9_greatestBelow 25 = .ok (.invokevirtual 154, 3) := by decide +kernel
theorem dX9_greatestBelow_28 : decode cX9_greatestBelow 28 = .ok (.iload_n 1, 1) := by decide +kernel
theorem dX9_greatestBelow_29 : decode cX9_greatestBelow 29 = .ok (.ishr, 1) := by decide +kernel
theorem dX9_greatestBelow_30 : decode cX9_greatestBelow 30 = .ok (.iconst 1, 1) := by decide +kernel
theorem dX9_greatestBelow_31 : decode cX9_greatestBelow 31 = .ok (.iand, 1) := by decide +kernel
theorem dX9_greatestBelow_32 : decode cX9_greatestBelow 32 = .ok (.iconst 1, 1) := by decide +kernel
theorem dX9_greatestBelow_33 : decode cX9_greatestBelow 33 = .ok (.if_icmp .ne 10, 3) := by decide +kernel
theorem dX9_greatestBelow_36 : decode cX9_greatestBelow 36 = .ok (.aload_n 0, 1) := by decide +kernel
theorem dX9_greatestBelow_37 : decode cX9_greatestBelow 37 = .ok (.iload_n 2, 1) := by decide +kernel
theorem dX9_greatestBelow_38 : decode cX9_greatestBelow 38 = .ok (.iload_n 3, 1) := by decide +kernel
theorem dX9_greatestBelow_39 : decode cX9_greatestBelow 39 = .ok (.invokevirtual 157, 3) := by decide +kernel
theorem dX9_greatestBelow_42 : decode cX9_greatestBelow 42 = .ok (.istore_n 2, 1) := by decide +kernel
theorem dX9_greatestBelow_43 : decode cX9_greatestBelow 43 = .ok (.iinc 3 1, 3) := by decide +kernel
theorem dX9_greatestBelow_46 : decode cX9_greatestBelow 46 = .ok (.goto (-42), 3) := by decide +kernel
theorem dX9_greatestBelow_49 : decode cX9_greatestBelow 49 = .ok (.iload_n 2, 1) := by decide +kernel
theorem dX9_greatestBelow_50 : decode cX9_greatestBelow 50 = .ok (.ireturn, 1) := by decide +kernel
theorem dX9_greatestServed_0 : decode cX9_greatestServed 0 = .ok (.iconst (-1), 1) := by decide +kernel
theorem dX9_greatestServed_1 : decode cX9_greatestServed 1 = .ok (.istore_n 2, 1) := by decide +kernel
theorem dX9_greatestServed_2 : decode cX9_greatestServed 2 = .ok (.iconst 0, 1) := by decide +kernel
theorem dX9_greatestServed_3 : decode cX9_greatestServed 3 = .ok (.istore_n 3, 1) := by decide +kernel
theorem dX9_greatestServed_4 : decode cX9_greatestServed 4 = .ok (.iload_n 3, 1) := by decide +kernel
theorem dX9_greatestServed_5 : decode cX9_greatestServed 5 = .ok (.aload_n 0, 1) := by decide +kernel
theorem dX9_greatestServed_6 : decode cX9_greatestServed 6 = .ok (.getfield 15, 3) := by decide +kernel
theorem dX9_greatestServed_9 : decode cX9_greatestServed 9 = .ok (.getfield 83, 3) := by decide +kernel
theorem dX9_greatestServed_12 : decode cX9_greatestServed 12 = .ok (.if_icmp .ge 28, 3) := by decide +kernel
theorem dX9_greatestServed_15 : decode cX9_greatestServed 15 = .ok (.aload_n 0, 1) := by decide +kernel
theorem dX9_greatestServed_16 : decode cX9_greatestServed 16 = .ok (.getfield 19, 3) := by decide +kernel
theorem dX9_greatestServed_19 : decode cX9_greatestServed 19 = .ok (.iload_n 3, 1) := by decide +kernel
theorem dX9_greatestServed_20 : decode cX9_greatestServed 20 = .ok (.invokevirtual 160, 3) := by decide +kernel
theorem dX9_greatestServed_23 : decode cX9_greatestServed 23 = .ok (.iload_n 1, 1) := by decide +kernel
theorem dX9_greatestServed_24 : decode cX9_greatestServed 24 = .ok (.if_icmp .ne 10, 3) := by decide +kernel
theorem dX9_greatestServed_27 : decode cX9_greatestServed 27 = .ok (.aload_n 0, 1) := by decide +kernel
theorem dX9_greatestServed_28 : decode cX9_greatestServed 28 = .ok (.iload_n 2, 1) := by decide +kernel
theorem dX9_greatestServed_29 : decode cX9_greatestServed 29 = .ok (.iload_n 3, 1) := by decide +kernel
theorem dX9_greatestServed_30 : decode cX9_greatestServed 30 = .ok (.invokevirtual 157, 3) := by decide +kernel
theorem dX9_greatestServed_33 : decode cX9_greatestServed 33 = .ok (.istore_n 2, 1) := by decide +kernel
theorem dX9_greatestServed_34 : decode cX9_greatestServed 34 = .ok (.iinc 3 1, 3) := by decide +kernel
theorem dX9_greatestServed_37 : decode cX9_greatestServed 37 = .ok (.goto (-33), 3) := by decide +kernel
theorem dX9_greatestServed_40 : decode cX9_greatestServed 40 = .ok (.iload_n 2, 1) := by decide +kernel
theorem dX9_greatestServed_41 : decode cX9_greatestServed 41 = .ok (.ireturn, 1) := by decide +kernel
theorem dX9_greatestUnserved_0 : decode cX9_greatestUnserved 0 = .ok (.iconst (-1), 1) := by decide +kernel
theorem dX9_greatestUnserved_1 : decode cX9_greatestUnserved 1 = .ok (.istore_n 2, 1) := by decide +kernel
theorem dX9_greatestUnserved_2 : decode cX9_greatestUnserved 2 = .ok (.iconst 0, 1) := by decide +kernel
theorem dX9_greatestUnserved_3 : decode cX9_greatestUnserved 3 = .ok (.istore_n 3, 1) := by decide +kernel
theorem dX9_greatestUnserved_4 : decode cX9_greatestUnserved 4 = .ok (.iload_n 3, 1) := by decide +kernel
theorem dX9_greatestUnserved_5 : decode cX9_greatestUnserved 5 = .ok (.aload_n 0, 1) := by decide +kernel
theorem dX9_greatestUnserved_6 : decode cX9_greatestUnserved 6 = .ok (.getfield 15, 3) := by decide +kernel
theorem dX9_greatestUnserved_9 : decode cX9_greatestUnserved 9 = .ok (.getfield 83, 3) := by decide +kernel
theorem dX9_greatestUnserved_12 : decode cX9_greatestUnserved 12 = .ok (.if_icmp .ge 53, 3) := by decide +kernel
theorem dX9_greatestUnserved_15 : decode cX9_greatestUnserved 15 = .ok (.aload_n 0, 1) := by decide +kernel
theorem dX9_greatestUnserved_16 : decode cX9_greatestUnserved 16 = .ok (.getfield 15, 3) := by decide +kernel
theorem dX9_greatestUnserved_19 : decode cX9_greatestUnserved 19 = .ok (.getfield 44, 3) := by decide +kernel
theorem dX9_greatestUnserved_22 : decode cX9_greatestUnserved 22 = .ok (.iload_n 3, 1) := by decide +kernel
theorem dX9_greatestUnserved_23 : decode cX9_greatestUnserved 23 = .ok (.iaload, 1) := by decide +kernel
theorem dX9_greatestUnserved_24 : decode cX9_greatestUnserved 24 = .ok (.ifCond .le 35, 3) := by decide +kernel
theorem dX9_greatestUnserved_27 : decode cX9_greatestUnserved 27 = .ok (.aload_n 0, 1) := by decide +kernel
theorem dX9_greatestUnserved_28 : decode cX9_greatestUnserved 28 = .ok (.getfield 15, 3) := by decide +kernel
theorem dX9_greatestUnserved_31 : decode cX9_greatestUnserved 31 = .ok (.getfield 51, 3) := by decide +kernel
theorem dX9_greatestUnserved_34 : decode cX9_greatestUnserved 34 = .ok (.iload_n 3, 1) := by decide +kernel
theorem dX9_greatestUnserved_35 : decode cX9_greatestUnserved 35 = .ok (.iaload, 1) := by decide +kernel
theorem dX9_greatestUnserved_36 : decode cX9_greatestUnserved 36 = .ok (.iload_n 1, 1) := by decide +kernel
theorem dX9_greatestUnserved_37 : decode cX9_greatestUnserved 37 = .ok (.if_icmp .ne 22, 3) := by decide +kernel
theorem dX9_greatestUnserved_40 : decode cX9_greatestUnserved 40 = .ok (.aload_n 0, 1) := by decide +kernel
theorem dX9_greatestUnserved_41 : decode cX9_greatestUnserved 41 = .ok (.getfield 19, 3) := by decide +kernel
theorem dX9_greatestUnserved_44 : decode cX9_greatestUnserved 44 = .ok (.iload_n 3, 1) := by decide +kernel
theorem dX9_greatestUnserved_45 : decode cX9_greatestUnserved 45 = .ok (.invokevirtual 160, 3) := by decide +kernel
theorem dX9_greatestUnserved_48 : decode cX9_greatestUnserved 48 = .ok (.iconst (-1), 1) := by decide +kernel
theorem dX9_greatestUnserved_49 : decode cX9_greatestUnserved 49 = .ok (.if_icmp .ne 10, 3) := by decide +kernel
theorem dX9_greatestUnserved_52 : decode cX9_greatestUnserved 52 = .ok (.aload_n 0, 1) := by decide +kernel
theorem dX9_greatestUnserved_53 : decode cX9_greatestUnserved 53 = .ok (.iload_n 2, 1) := by decide +kernel
theorem dX9_greatestUnserved_54 : decode cX9_greatestUnserved 54 = .ok (.iload_n 3, 1) := by decide +kernel
theorem dX9_greatestUnserved_55 : decode cX9_greatestUnserved 55 = .ok (.invokevirtual 157, 3) := by decide +kernel
theorem dX9_greatestUnserved_58 : decode cX9_greatestUnserved 58 = .ok (.istore_n 2, 1) := by decide +kernel
theorem dX9_greatestUnserved_59 : decode cX9_greatestUnserved 59 = .ok (.iinc 3 1, 3) := by decide +kernel
theorem dX9_greatestUnserved_62 : decode cX9_greatestUnserved 62 = .ok (.goto (-58), 3) := by decide +kernel
theorem dX9_greatestUnserved_65 : decode cX9_greatestUnserved 65 = .ok (.iload_n 2, 1) := by decide +kernel
theorem dX9_greatestUnserved_66 : decode cX9_greatestUnserved 66 = .ok (.ireturn, 1) := by decide +kernel
theorem dX9_greater_0 : decode cX9_greater 0 = .ok (.iload_n 1, 1) := by decide +kernel
theorem dX9_greater_1 : decode cX9_greater 1 = .ok (.iconst (-1), 1) := by decide +kernel
theorem dX9_greater_2 : decode cX9_greater 2 = .ok (.if_icmp .eq 24, 3) := by decide +kernel
theorem dX9_greater_5 : decode cX9_greater 5 = .ok (.aload_n 0, 1) := by decide +kernel
theorem dX9_greater_6 : decode cX9_greater 6 = .ok (.getfield 15, 3) := by decide +kernel
theorem dX9_greater_9 : decode cX9_greater 9 = .ok (.getfield 44, 3) := by decide +kernel
theorem dX9_greater_12 : decode cX9_greater 12 = .ok (.iload_n 2, 1) := by decide +kernel
theorem dX9_greater_13 : decode cX9_greater 13 = .ok (.iaload, 1) := by decide +kernel
theorem dX9_greater_14 : decode cX9_greater 14 = .ok (.aload_n 0, 1) := by decide +kernel
theorem dX9_greater_15 : decode cX9_greater 15 = .ok (.getfield 15, 3) := by decide +kernel
theorem dX9_greater_18 : decode cX9_greater 18 = .ok (.getfield 44, 3) := by decide +kernel
theorem dX9_greater_21 : decode cX9_greater 21 = .ok (.iload_n 1, 1) := by decide +kernel
theorem dX9_greater_22 : decode cX9_greater 22 = .ok (.iaload, 1) := by decide +kernel
theorem dX9_greater_23 : decode cX9_greater 23 = .ok (.if_icmp .lt 5, 3) := by decide +kernel
theorem dX9_greater_26 : decode cX9_greater 26 = .ok (.iload_n 2, 1) := by decide +kernel
theorem dX9_greater_27 : decode cX9_greater 27 = .ok (.ireturn, 1) := by decide +kernel
theorem dX9_greater_28 : decode cX9_greater 28 = .ok (.iload_n 1, 1) := by decide +kernel
theorem dX9_greater_29 : decode cX9_greater 29 = .ok (.ireturn, 1) := by decide +kernel
theorem dJ0_length_8abf5_0 : decode cJ0_length_8abf5 0 = .ok (.aload_n 0, 1) := by decide +kernel
theorem dJ0_length_8abf5_1 : decode cJ0_length_8abf5 1 = .ok (.getfield 9, 3) := by decide +kernel
theorem dJ0_length_8abf5_4 : decode cJ0_length_8abf5 4 = .ok (.arraylength, 1) := by decide +kernel
theorem dJ0_length_8abf5_5 : decode cJ0_length_8abf5 5 = .ok (.aload_n 0, 1) := by decide +kernel
theorem dJ0_length_8abf5_6 : decode cJ0_length_8abf5 6 = .ok (.invokevirtual 335, 3) := by decide +kernel
theorem dJ0_length_8abf5_9 : decode cJ0_length_8abf5 9 = .ok (.ishr, 1) := by decide +kernel
theorem dJ0_length_8abf5_10 : decode cJ0_length_8abf5 10 = .ok (.ireturn, 1) := by decide +kernel
theorem dJ0_charAt_5068e_0 : decode cJ0_charAt_5068e 0 = .ok (.aload_n 0, 1) := by decide +kernel
theorem dJ0_charAt_5068e_1 : decode cJ0_charAt_5068e 1 = .ok (.invokevirtual 492, 3) := by decide +kernel
theorem dJ0_charAt_5068e_4 : decode cJ0_charAt_5068e 4 = .ok (.ifCond .eq 12, 3) := by decide +kernel
theorem dJ0_charAt_5068e_7 : decode cJ0_charAt_5068e 7 = .ok (.aload_n 0, 1) := by decide +kernel
theorem dJ0_charAt_5068e_8 : decode cJ0_charAt_5068e 8 = .ok (.getfield 9, 3) := by decide +kernel
theorem dJ0_charAt_5068e_11 : decode cJ0_charAt_5068e 11 = .ok (.iload_n 1, 1) := by decide +kernel
theorem dJ0_charAt_5068e_12 : decode cJ0_charAt_5068e 12 = .ok (.invokestatic 495, 3) := by decide +kernel
theorem dJ0_charAt_5068e_15 : decode cJ0_charAt_5068e 15 = .ok (.ireturn, 1) := by decide +kernel
theorem dJ0_charAt_5068e_16 : decode cJ0_charAt_5068e 16 = .ok (.aload_n 0, 1) := by decide +kernel
theorem dJ0_charAt_5068e_17 : decode cJ0_charAt_5068e 17 = .ok (.getfield 9, 3) := by decide +kernel
theorem dJ0_charAt_5068e_20 : decode cJ0_charAt_5068e 20 = .ok (.iload_n 1, 1) := by decide +kernel
theorem dJ0_charAt_5068e_21 : decode cJ0_charAt_5068e 21 = .ok (.invokestatic 498, 3) := by decide +kernel
theorem dJ0_charAt_5068e_24 : decode cJ0_charAt_5068e 24 = .ok (.ireturn, 1) := by decide +kernel
theorem dJ0_coder_7d493_0 : decode cJ0_coder_7d493 0 = .ok (.getstatic 38, 3) := by decide +kernel
theorem dJ0_coder_7d493_3 : decode cJ0_coder_7d493 3 = .ok (.ifCond .eq 10, 3) := by decide +kernel
theorem dJ0_coder_7d493_6 : decode cJ0_coder_7d493 6 = .ok (.aload_n 0, 1) := by decide +kernel
theorem dJ0_coder_7d493_7 : decode cJ0_coder_7d493 7 = .ok (.getfield 15, 3) := by decide +kernel
theorem dJ0_coder_7d493_10 : decode cJ0_coder_7d493 10 = .ok (.goto 4, 3) := by decide +kernel
theorem dJ0_coder_7d493_13 : decode cJ0_coder_7d493 13 = .ok (.iconst 1, 1) := by decide +kernel
theorem dJ0_coder_7d493_14 : decode cJ0_coder_7d493 14 = .ok (.ireturn, 1) := by decide +kernel
theorem dJ0_isLatin1_aae02_0 : decode cJ0_isLatin1_aae02 0 = .ok (.getstatic 38, 3) := by decide +kernel
theorem dJ0_isLatin1_aae02_3 : decode cJ0_isLatin1_aae02 3 = .ok (.ifCond .eq 14, 3) := by decide +kernel
theorem dJ0_isLatin1_aae02_6 : decode cJ0_isLatin1_aae02 6 = .ok (.aload_n 0, 1) := by decide +kernel
theorem dJ0_isLatin1_aae02_7 : decode cJ0_isLatin1_aae02 7 = .ok (.getfield 15, 3) := by decide +kernel
theorem dJ0_isLatin1_aae02_10 : decode cJ0_isLatin1_aae02 10 = .ok (.ifCond .ne 7, 3) := by decide +kernel
theorem dJ0_isLatin1_aae02_13 : decode cJ0_isLatin1_aae02 13 = .ok (.iconst 1, 1) := by decide +kernel
theorem dJ0_isLatin1_aae02_14 : decode cJ0_isLatin1_aae02 14 = .ok (.goto 4, 3) := by decide +kernel
theorem dJ0_isLatin1_aae02_17 : decode cJ0_isLatin1_aae02 17 = .ok (.iconst 0, 1) := by decide +kernel
theorem dJ0_isLatin1_aae02_18 : decode cJ0_isLatin1_aae02 18 = .ok (.ireturn, 1) := by decide +kernel
theorem dJ0_checkIndex_df160_0 : decode cJ0_checkIndex_df160 0 = .ok (.iload_n 0, 1) := by decide +kernel
theorem dJ0_checkIndex_df160_1 : decode cJ0_checkIndex_df160 1 = .ok (.iload_n 1, 1) := by decide +kernel
theorem dJ0_checkIndex_df160_2 : decode cJ0_checkIndex_df160 2 = .ok (.getstatic 1053, 3) := by decide +kernel
theorem dJ0_checkIndex_df160_5 : decode cJ0_checkIndex_df160 5 = .ok (.invokestatic 1059, 3) := by decide +kernel
theorem dJ0_checkIndex_df160_8 : decode cJ0_checkIndex_df160 8 = .ok (.pop, 1) := by decide +kernel
theorem dJ0_checkIndex_df160_9 : decode cJ0_checkIndex_df160 9 = .ok (.return_, 1) := by decide +kernel
theorem dJ1_charAt_3b067_0 : decode cJ1_charAt_3b067 0 = .ok (.iload_n 1, 1) := by decide +kernel
theorem dJ1_charAt_3b067_1 : decode cJ1_charAt_3b067 1 = .ok (.aload_n 0, 1) := by decide +kernel
theorem dJ1_charAt_3b067_2 : decode cJ1_charAt_3b067 2 = .ok (.arraylength, 1) := by decide +kernel
theorem dJ1_charAt_3b067_3 : decode cJ1_charAt_3b067 3 = .ok (.invokestatic 9, 3) := by decide +kernel
theorem dJ1_charAt_3b067_6 : decode cJ1_charAt_3b067 6 = .ok (.aload_n 0, 1) := by decide +kernel
theorem dJ1_charAt_3b067_7 : decode cJ1_charAt_3b067 7 = .ok (.iload_n 1, 1) := by decide +kernel
theorem dJ1_charAt_3b067_8 : decode cJ1_charAt_3b067 8 = .ok (.baload, 1) := by decide +kernel
theorem dJ1_charAt_3b067_9 : decode cJ1_charAt_3b067 9 = .ok (.sipush 255, 3) := by decide +kernel
theorem dJ1_charAt_3b067_12 : decode cJ1_charAt_3b067 12 = .ok (.iand, 1) := by decide +kernel
theorem dJ1_charAt_3b067_13 : decode cJ1_charAt_3b067 13 = .ok (.i2c, 1) := by decide +kernel
theorem dJ1_charAt_3b067_14 : decode cJ1_charAt_3b067 14 = .ok (.ireturn, 1) := by decide +kernel
theorem dJ2_getChar_3b067_0 : decode cJ2_getChar_3b067 0 = .ok (.getstatic 44, 3) := by decide +kernel
theorem dJ2_getChar_3b067_3 : decode cJ2_getChar_3b067 3 = .ok (.ifCond .ne 25, 3) := by decide +kernel
theorem dJ2_getChar_3b067_6 : decode cJ2_getChar_3b067 6 = .ok (.iload_n 1, 1) := by decide +kernel
theorem dJ2_getChar_3b067_7 : decode cJ2_getChar_3b067 7 = .ok (.ifCond .lt 11, 3) := by decide +kernel
theorem dJ2_getChar_3b067_10 : decode cJ2_getChar_3b067 10 = .ok (.iload_n 1, 1) := by decide +kernel
theorem dJ2_getChar_3b067_11 : decode cJ2_getChar_3b067 11 = .ok (.aload_n 0, 1) := by decide +kernel
theorem dJ2_getChar_3b067_12 : decode cJ2_getChar_3b067 12 = .ok (.invokestatic 48, 3) := by decide +kernel
theorem dJ2_getChar_3b067_15 : decode cJ2_getChar_3b067 15 = .ok (.if_icmp .lt 13, 3) := by decide +kernel
theorem dJ2_getChar_3b067_18 : decode cJ2_getChar_3b067 18 = .ok (.new 52, 3) := by decide +kernel
theorem dJ2_getChar_3b067_21 : decode cJ2_getChar_3b067 21 = .ok (.dup, 1) := by decide +kernel
theorem dJ2_getChar_3b067_22 : decode cJ2_getChar_3b067 22 = .ok (.ldc 54, 2) := by decide +kernel
theorem dJ2_getChar_3b067_24 : decode cJ2_getChar_3b067 24 = .ok (.invokespecial 56, 3) := by decide +kernel
theorem dJ2_getChar_3b067_27 : decode cJ2_getChar_3b067 27 = .ok (.athrow, 1) := by decide +kernel
theorem dJ2_getChar_3b067_28 : decode cJ2_getChar_3b067 28 = .ok (.iload_n 1, 1) := by decide +kernel
theorem dJ2_getChar_3b067_29 : decode cJ2_getChar_3b067 29 = .ok (.iconst 1, 1) := by decide +kernel
theorem dJ2_getChar_3b067_30 : decode cJ2_getChar_3b067 30 = .ok (.ishl, 1) := by decide +kernel
theorem dJ2_getChar_3b067_31 : decode cJ2_getChar_3b067 31 = .ok (.istore_n 1, 1) := by decide +kernel
theorem dJ2_getChar_3b067_32 : decode cJ2_getChar_3b067 32 = .ok (.aload_n 0, 1) := by decide +kernel
theorem dJ2_getChar_3b067_33 : decode cJ2_getChar_3b067 33 = .ok (.iload_n 1, 1) := by decide +kernel
theorem dJ2_getChar_3b067_34 : decode cJ2_getChar_3b067 34 = .ok (.iinc 1 1, 3) := by decide +kernel
theorem dJ2_getChar_3b067_37 : decode cJ2_getChar_3b067 37 = .ok (.baload, 1) := by decide +kernel
theorem dJ2_getChar_3b067_38 : decode cJ2_getChar_3b067 38 = .ok (.sipush 255, 3) := by decide +kernel
theorem dJ2_getChar_3b067_41 : decode cJ2_getChar_3b067 41 = .ok (.iand, 1) := by decide +kernel
theorem dJ2_getChar_3b067_42 : decode cJ2_getChar_3b067 42 = .ok (.getstatic 59, 3) := by decide +kernel
theorem dJ2_getChar_3b067_45 : decode cJ2_getChar_3b067 45 = .ok (.ishl, 1) := by decide +kernel
theorem dJ2_getChar_3b067_46 : decode cJ2_getChar_3b067 46 = .ok (.aload_n 0, 1) := by decide +kernel
theorem dJ2_getChar_3b067_47 : decode cJ2_getChar_3b067 47 = .ok (.iload_n 1, 1) := by decide +kernel
theorem dJ2_getChar_3b067_48 : decode cJ2_getChar_3b067 48 = .ok (.baload, 1) := by decide +kernel
theorem dJ2_getChar_3b067_49 : decode cJ2_getChar_3b067 49 = .ok (.sipush 255, 3) := by decide +kernel
theorem dJ2_getChar_3b067_52 : decode cJ2_getChar_3b067 52 = .ok (.iand, 1) := by decide +kernel
theorem dJ2_getChar_3b067_53 : decode cJ2_getChar_3b067 53 = .ok (.getstatic 63, 3) := by decide +kernel
theorem dJ2_getChar_3b067_56 : decode cJ2_getChar_3b067 56 = .ok (.ishl, 1) := by decide +kernel
theorem dJ2_getChar_3b067_57 : decode cJ2_getChar_3b067 57 = .ok (.ior, 1) := by decide +kernel
theorem dJ2_getChar_3b067_58 : decode cJ2_getChar_3b067 58 = .ok (.i2c, 1) := by decide +kernel
theorem dJ2_getChar_3b067_59 : decode cJ2_getChar_3b067 59 = .ok (.ireturn, 1) := by decide +kernel
theorem dJ2_length_9d52b_0 : decode cJ2_length_9d52b 0 = .ok (.aload_n 0, 1) := by decide +kernel
theorem dJ2_length_9d52b_1 : decode cJ2_length_9d52b 1 = .ok (.arraylength, 1) := by decide +kernel
theorem dJ2_length_9d52b_2 : decode cJ2_length_9d52b 2 = .ok (.iconst 1, 1) := by decide +kernel
theorem dJ2_length_9d52b_3 : decode cJ2_length_9d52b 3 = .ok (.ishr, 1) := by decide +kernel
theorem dJ2_length_9d52b_4 : decode cJ2_length_9d52b 4 = .ok (.ireturn, 1) := by decide +kernel
theorem dJ2_charAt_3b067_0 : decode cJ2_charAt_3b067 0 = .ok (.iload_n 1, 1) := by decide +kernel
theorem dJ2_charAt_3b067_1 : decode cJ2_charAt_3b067 1 = .ok (.aload_n 0, 1) := by decide +kernel
theorem dJ2_charAt_3b067_2 : decode cJ2_charAt_3b067 2 = .ok (.invokestatic 67, 3) := by decide +kernel
theorem dJ2_charAt_3b067_5 : decode cJ2_charAt_3b067 5 = .ok (.aload_n 0, 1) := by decide +kernel
theorem dJ2_charAt_3b067_6 : decode cJ2_charAt_3b067 6 = .ok (.iload_n 1, 1) := by decide +kernel
theorem dJ2_charAt_3b067_7 : decode cJ2_charAt_3b067 7 = .ok (.invokestatic 71, 3) := by decide +kernel
theorem dJ2_charAt_3b067_10 : decode cJ2_charAt_3b067 10 = .ok (.ireturn, 1) := by decide +kernel
theorem dJ2_checkIndex_2214a_0 : decode cJ2_checkIndex_2214a 0 = .ok (.iload_n 0, 1) := by decide +kernel
theorem dJ2_checkIndex_2214a_1 : decode cJ2_checkIndex_2214a 1 = .ok (.aload_n 1, 1) := by decide +kernel
theorem dJ2_checkIndex_2214a_2 : decode cJ2_checkIndex_2214a 2 = .ok (.invokestatic 48, 3) := by decide +kernel
theorem dJ2_checkIndex_2214a_5 : decode cJ2_checkIndex_2214a 5 = .ok (.invokestatic 414, 3) := by decide +kernel
theorem dJ2_checkIndex_2214a_8 : decode cJ2_checkIndex_2214a 8 = .ok (.return_, 1) := by decide +kernel
theorem dJ3_checkIndex_8e157_0 : decode cJ3_checkIndex_8e157 0 = .ok (.iload_n 0, 1) := by decide +kernel
theorem dJ3_checkIndex_8e157_1 : decode cJ3_checkIndex_8e157 1 = .ok (.ifCond .lt 8, 3) := by decide +kernel
theorem dJ3_checkIndex_8e157_4 : decode cJ3_checkIndex_8e157 4 = .ok (.iload_n 0, 1) := by decide +kernel
theorem dJ3_checkIndex_8e157_5 : decode cJ3_checkIndex_8e157 5 = .ok (.iload_n 1, 1) := by decide +kernel
theorem dJ3_checkIndex_8e157_6 : decode cJ3_checkIndex_8e157 6 = .ok (.if_icmp .lt 10, 3) := by decide +kernel
theorem dJ3_checkIndex_8e157_9 : decode cJ3_checkIndex_8e157 9 = .ok (.aload_n 2, 1) := by decide +kernel
theorem dJ3_checkIndex_8e157_10 : decode cJ3_checkIndex_8e157 10 = .ok (.iload_n 0, 1) := by decide +kernel
theorem dJ3_checkIndex_8e157_11 : decode cJ3_checkIndex_8e157 11 = .ok (.iload_n 1, 1) := by decide +kernel
theorem dJ3_checkIndex_8e157_12 : decode cJ3_checkIndex_8e157 12 = .ok (.invokestatic 95, 3) := by decide +kernel
theorem dJ3_checkIndex_8e157_15 : decode cJ3_checkIndex_8e157 15 = .ok (.athrow, 1) := by decide +kernel
theorem dJ3_checkIndex_8e157_16 : decode cJ3_checkIndex_8e157 16 = .ok (.iload_n 0, 1) := by decide +kernel
theorem dJ3_checkIndex_8e157_17 : decode cJ3_checkIndex_8e157 17 = .ok (.ireturn, 1) := by decide +kernel
theorem dJ6_bitCount_0f7a4_0 : decode cJ6_bitCount_0f7a4 0 = .ok (.iload_n 0, 1) := by decide +kernel
theorem dJ6_bitCount_0f7a4_1 : decode cJ6_bitCount_0f7a4 1 = .ok (.iload_n 0, 1) := by decide +kernel
theorem dJ6_bitCount_0f7a4_2 : decode cJ6_bitCount_0f7a4 2 = .ok (.iconst 1, 1) := by decide +kernel
theorem dJ6_bitCount_0f7a4_3 : decode cJ6_bitCount_0f7a4 3 = .ok (.iushr, 1) := by decide +kernel
theorem dJ6_bitCount_0f7a4_4 : decode cJ6_bitCount_0f7a4 4 = .ok (.ldc_w 265, 3) := by decide +kernel
theorem dJ6_bitCount_0f7a4_7 : decode cJ6_bitCount_0f7a4 7 = .ok (.iand, 1) := by decide +kernel
theorem dJ6_bitCount_0f7a4_8 : decode cJ6_bitCount_0f7a4 8 = .ok (.isub, 1) := by decide +kernel
theorem dJ6_bitCount_0f7a4_9 : decode cJ6_bitCount_0f7a4 9 = .ok (.istore_n 0, 1) := by decide +kernel
theorem dJ6_bitCount_0f7a4_10 : decode cJ6_bitCount_0f7a4 10 = .ok (.iload_n 0, 1) := by decide +kernel
theorem dJ6_bitCount_0f7a4_11 : decode cJ6_bitCount_0f7a4 11 = .ok (.ldc_w 266, 3) := by decide +kernel
theorem dJ6_bitCount_0f7a4_14 : decode cJ6_bitCount_0f7a4 14 = .ok (.iand, 1) := by decide +kernel
theorem dJ6_bitCount_0f7a4_15 : decode cJ6_bitCount_0f7a4 15 = .ok (.iload_n 0, 1) := by decide +kernel
theorem dJ6_bitCount_0f7a4_16 : decode cJ6_bitCount_0f7a4 16 = .ok (.iconst 2, 1) := by decide +kernel
theorem dJ6_bitCount_0f7a4_17 : decode cJ6_bitCount_0f7a4 17 = .ok (.iushr, 1) := by decide +kernel
theorem dJ6_bitCount_0f7a4_18 : decode cJ6_bitCount_0f7a4 18 = .ok (.ldc_w 266, 3) := by decide +kernel
theorem dJ6_bitCount_0f7a4_21 : decode cJ6_bitCount_0f7a4 21 = .ok (.iand, 1) := by decide +kernel
theorem dJ6_bitCount_0f7a4_22 : decode cJ6_bitCount_0f7a4 22 = .ok (.iadd, 1) := by decide +kernel
theorem dJ6_bitCount_0f7a4_23 : decode cJ6_bitCount_0f7a4 23 = .ok (.istore_n 0, 1) := by decide +kernel
theorem dJ6_bitCount_0f7a4_24 : decode cJ6_bitCount_0f7a4 24 = .ok (.iload_n 0, 1) := by decide +kernel
theorem dJ6_bitCount_0f7a4_25 : decode cJ6_bitCount_0f7a4 25 = .ok (.iload_n 0, 1) := by decide +kernel
theorem dJ6_bitCount_0f7a4_26 : decode cJ6_bitCount_0f7a4 26 = .ok (.iconst 4, 1) := by decide +kernel
theorem dJ6_bitCount_0f7a4_27 : decode cJ6_bitCount_0f7a4 27 = .ok (.iushr, 1) := by decide +kernel
theorem dJ6_bitCount_0f7a4_28 : decode cJ6_bitCount_0f7a4 28 = .ok (.iadd, 1) := by decide +kernel
theorem dJ6_bitCount_0f7a4_29 : decode cJ6_bitCount_0f7a4 29 = .ok (.ldc_w 267, 3) := by decide +kernel
theorem dJ6_bitCount_0f7a4_32 : decode cJ6_bitCount_0f7a4 32 = .ok (.iand, 1) := by decide +kernel
theorem dJ6_bitCount_0f7a4_33 : decode cJ6_bitCount_0f7a4 33 = .ok (.istore_n 0, 1) := by decide +kernel
theorem dJ6_bitCount_0f7a4_34 : decode cJ6_bitCount_0f7a4 34 = .ok (.iload_n 0, 1) := by decide +kernel
theorem dJ6_bitCount_0f7a4_35 : decode cJ6_bitCount_0f7a4 35 = .ok (.iload_n 0, 1) := by decide +kernel
theorem dJ6_bitCount_0f7a4_36 : decode cJ6_bitCount_0f7a4 36 = .ok (.bipush 8, 2) := by decide +kernel
theorem dJ6_bitCount_0f7a4_38 : decode cJ6_bitCount_0f7a4 38 = .ok (.iushr, 1) := by decide +kernel
theorem dJ6_bitCount_0f7a4_39 : decode cJ6_bitCount_0f7a4 39 = .ok (.iadd, 1) := by decide +kernel
theorem dJ6_bitCount_0f7a4_40 : decode cJ6_bitCount_0f7a4 40 = .ok (.istore_n 0, 1) := by decide +kernel
theorem dJ6_bitCount_0f7a4_41 : decode cJ6_bitCount_0f7a4 41 = .ok (.iload_n 0, 1) := by decide +kernel
theorem dJ6_bitCount_0f7a4_42 : decode cJ6_bitCount_0f7a4 42 = .ok (.iload_n 0, 1) := by decide +kernel
theorem dJ6_bitCount_0f7a4_43 : decode cJ6_bitCount_0f7a4 43 = .ok (.bipush 16, 2) := by decide +kernel
theorem dJ6_bitCount_0f7a4_45 : decode cJ6_bitCount_0f7a4 45 = .ok (.iushr, 1) := by decide +kernel
theorem dJ6_bitCount_0f7a4_46 : decode cJ6_bitCount_0f7a4 46 = .ok (.iadd, 1) := by decide +kernel
theorem dJ6_bitCount_0f7a4_47 : decode cJ6_bitCount_0f7a4 47 = .ok (.istore_n 0, 1) := by decide +kernel
theorem dJ6_bitCount_0f7a4_48 : decode cJ6_bitCount_0f7a4 48 = .ok (.iload_n 0, 1) := by decide +kernel
theorem dJ6_bitCount_0f7a4_49 : decode cJ6_bitCount_0f7a4 49 = .ok (.bipush 63, 2) := by decide +kernel
theorem dJ6_bitCount_0f7a4_51 : decode cJ6_bitCount_0f7a4 51 = .ok (.iand, 1) := by decide +kernel
theorem dJ6_bitCount_0f7a4_52 : decode cJ6_bitCount_0f7a4 52 = .ok (.ireturn, 1) := by decide +kernel
theorem dJ7_fill_53178_0 : decode cJ7_fill_53178 0 = .ok (.iconst 0, 1) := by decide +kernel
theorem dJ7_fill_53178_1 : decode cJ7_fill_53178 1 = .ok (.istore_n 2, 1) := by decide +kernel
theorem dJ7_fill_53178_2 : decode cJ7_fill_53178 2 = .ok (.aload_n 0, 1) := by decide +kernel
theorem dJ7_fill_53178_3 : decode cJ7_fill_53178 3 = .ok (.arraylength, 1) := by decide +kernel
theorem dJ7_fill_53178_4 : decode cJ7_fill_53178 4 = .ok (.istore_n 3, 1) := by decide +kernel
theorem dJ7_fill_53178_5 : decode cJ7_fill_53178 5 = .ok (.iload_n 2, 1) := by decide +kernel
theorem dJ7_fill_53178_6 : decode cJ7_fill_53178 6 = .ok (.iload_n 3, 1) := by decide +kernel
theorem dJ7_fill_53178_7 : decode cJ7_fill_53178 7 = .ok (.if_icmp .ge 13, 3) := by decide +kernel
theorem dJ7_fill_53178_10 : decode cJ7_fill_53178 10 = .ok (.aload_n 0, 1) := by decide +kernel
theorem dJ7_fill_53178_11 : decode cJ7_fill_53178 11 = .ok (.iload_n 2, 1) := by decide +kernel
theorem dJ7_fill_53178_12 : decode cJ7_fill_53178 12 = .ok (.iload_n 1, 1) := by decide +kernel
theorem dJ7_fill_53178_13 : decode cJ7_fill_53178 13 = .ok (.iastore, 1) := by decide +kernel
theorem dJ7_fill_53178_14 : decode cJ7_fill_53178 14 = .ok (.iinc 2 1, 3) := by decide +kernel
theorem dJ7_fill_53178_17 : decode cJ7_fill_53178 17 = .ok (.goto (-12), 3) := by decide +kernel
theorem dJ7_fill_53178_20 : decode cJ7_fill_53178 20 = .ok (.return_, 1) := by decide +kernel
theorem dJ9_max_7cf53_0 : decode cJ9_max_7cf53 0 = .ok (.iload_n 0, 1) := by decide +kernel
theorem dJ9_max_7cf53_1 : decode cJ9_max_7cf53 1 = .ok (.iload_n 1, 1) := by decide +kernel
theorem dJ9_max_7cf53_2 : decode cJ9_max_7cf53 2 = .ok (.if_icmp .lt 7, 3) := by decide +kernel
theorem dJ9_max_7cf53_5 : decode cJ9_max_7cf53 5 = .ok (.iload_n 0, 1) := by decide +kernel
theorem dJ9_max_7cf53_6 : decode cJ9_max_7cf53 6 = .ok (.goto 4, 3) := by decide +kernel
theorem dJ9_max_7cf53_9 : decode cJ9_max_7cf53 9 = .ok (.iload_n 1, 1) := by decide +kernel
theorem dJ9_max_7cf53_10 : decode cJ9_max_7cf53 10 = .ok (.ireturn, 1) := by decide +kernel
theorem dJ9_min_7cf53_0 : decode cJ9_min_7cf53 0 = .ok (.iload_n 0, 1) := by decide +kernel
theorem dJ9_min_7cf53_1 : decode cJ9_min_7cf53 1 = .ok (.iload_n 1, 1) := by decide +kernel
theorem dJ9_min_7cf53_2 : decode cJ9_min_7cf53 2 = .ok (.if_icmp .gt 7, 3) := by decide +kernel
theorem dJ9_min_7cf53_5 : decode cJ9_min_7cf53 5 = .ok (.iload_n 0, 1) := by decide +kernel
theorem dJ9_min_7cf53_6 : decode cJ9_min_7cf53 6 = .ok (.goto 4, 3) := by decide +kernel
theorem dJ9_min_7cf53_9 : decode cJ9_min_7cf53 9 = .ok (.iload_n 1, 1) := by decide +kernel
theorem dJ9_min_7cf53_10 : decode cJ9_min_7cf53 10 = .ok (.ireturn, 1) := by decide +kernel
