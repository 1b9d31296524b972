theorem dX11_init_0 : decode cX11_init 0 = .ok (.aload_n 0, 1) := by decide +kernel
theorem dX11_init_1 : decode cX11_init 1 = .ok (.invokespecial 1, 3) := by decide +kernel
theorem dX11_init_4 : decode cX11_init 4 = .ok (.aload_n 0, 1) := by decide +kernel
theorem dX11_init_5 : decode cX11_init 5 = .ok (.sipush 1400, 3) := by decide +kernel
theorem dX11_init_8 : decode cX11_init 8 = .ok (.newarray .byte, 2) := by decide +kernel
theorem dX11_init_10 : decode cX11_init 10 = .ok (.putfield 7, 3) := by decide +kernel
theorem dX11_init_13 : decode cX11_init 13 = .ok (.aload_n 0, 1) := by decide +kernel
theorem dX11_init_14 : decode cX11_init 14 = .ok (.bipush (-2), 2) := by decide +kernel
theorem dX11_init_16 : decode cX11_init 16 = .ok (.putfield 13, 3) := by decide +kernel
theorem dX11_init_19 : decode cX11_init 19 = .ok (.aload_n 0, 1) := by decide +kernel
theorem dX11_init_20 : decode cX11_init 20 = .ok (.sipush 172, 3) := by decide +kernel
theorem dX11_init_23 : decode cX11_init 23 = .ok (.newarray .int, 2) := by decide +kernel
theorem dX11_init_25 : decode cX11_init 25 = .ok (.putfield 17, 3) := by decide +kernel
theorem dX11_init_28 : decode cX11_init 28 = .ok (.aload_n 0, 1) := by decide +kernel
theorem dX11_init_29 : decode cX11_init 29 = .ok (.sipush 172, 3) := by decide +kernel
theorem dX11_init_32 : decode cX11_init 32 = .ok (.newarray .int, 2) := by decide +kernel
theorem dX11_init_34 : decode cX11_init 34 = .ok (.putfield 21, 3) := by decide +kernel
theorem dX11_init_37 : decode cX11_init 37 = .ok (.aload_n 0, 1) := by decide +kernel
theorem dX11_init_38 : decode cX11_init 38 = .ok (.sipush 202, 3) := by decide +kernel
theorem dX11_init_41 : decode cX11_init 41 = .ok (.newarray .int, 2) := by decide +kernel
theorem dX11_init_43 : decode cX11_init 43 = .ok (.putfield 24, 3) := by decide +kernel
theorem dX11_init_46 : decode cX11_init 46 = .ok (.aload_n 0, 1) := by decide +kernel
theorem dX11_init_47 : decode cX11_init 47 = .ok (.sipush 202, 3) := by decide +kernel
theorem dX11_init_50 : decode cX11_init 50 = .ok (.newarray .int, 2) := by decide +kernel
theorem dX11_init_52 : decode cX11_init 52 = .ok (.putfield 27, 3) := by decide +kernel
theorem dX11_init_55 : decode cX11_init 55 = .ok (.aload_n 0, 1) := by decide +kernel
theorem dX11_init_56 : decode cX11_init 56 = .ok (.sipush 2020, 3) := by decide +kernel
theorem dX11_init_59 : decode cX11_init 59 = .ok (.newarray .int, 2) := by decide +kernel
theorem dX11_init_61 : decode cX11_init 61 = .ok (.putfield 30, 3) := by decide +kernel
theorem dX11_init_64 : decode cX11_init 64 = .ok (.aload_n 0, 1) := by decide +kernel
theorem dX11_init_65 : decode cX11_init 65 = .ok (.bipush 64, 2) := by decide +kernel
theorem dX11_init_67 : decode cX11_init 67 = .ok (.newarray .int, 2) := by decide +kernel
theorem dX11_init_69 : decode cX11_init 69 = .ok (.putfield 33, 3) := by decide +kernel
theorem dX11_init_72 : decode cX11_init 72 = .ok (.aload_n 0, 1) := by decide +kernel
theorem dX11_init_73 : decode cX11_init 73 = .ok (.bipush 64, 2) := by decide +kernel
theorem dX11_init_75 : decode cX11_init 75 = .ok (.newarray .int, 2) := by decide +kernel
theorem dX11_init_77 : decode cX11_init 77 = .ok (.putfield 36, 3) := by decide +kernel
theorem dX11_init_80 : decode cX11_init 80 = .ok (.aload_n 0, 1) := by decide +kernel
theorem dX11_init_81 : decode cX11_init 81 = .ok (.bipush 32, 2) := by decide +kernel
theorem dX11_init_83 : decode cX11_init 83 = .ok (.newarray .int, 2) := by decide +kernel
theorem dX11_init_85 : decode cX11_init 85 = .ok (.putfield 39, 3) := by decide +kernel
theorem dX11_init_88 : decode cX11_init 88 = .ok (.aload_n 0, 1) := by decide +kernel
theorem dX11_init_89 : decode cX11_init 89 = .ok (.bipush 16, 2) := by decide +kernel
theorem dX11_init_91 : decode cX11_init 91 = .ok (.newarray .int, 2) := by decide +kernel
theorem dX11_init_93 : decode cX11_init 93 = .ok (.putfield 42, 3) := by decide +kernel
theorem dX11_init_96 : decode cX11_init 96 = .ok (.aload_n 0, 1) := by decide +kernel
theorem dX11_init_97 : decode cX11_init 97 = .ok (.bipush 16, 2) := by decide +kernel
theorem dX11_init_99 : decode cX11_init 99 = .ok (.newarray .int, 2) := by decide +kernel
theorem dX11_init_101 : decode cX11_init 101 = .ok (.putfield 45, 3) := by decide +kernel
theorem dX11_init_104 : decode cX11_init 104 = .ok (.aload_n 0, 1) := by decide +kernel
theorem dX11_init_105 : decode cX11_init 105 = .ok (.bipush 16, 2) := by decide +kernel
theorem dX11_init_107 : decode cX11_init 107 = .ok (.newarray .int, 2) := by decide +kernel
theorem dX11_init_109 : decode cX11_init 109 = .ok (.putfield 48, 3) := by decide +kernel
theorem dX11_init_112 : decode cX11_init 112 = .ok (.aload_n 0, 1) := by decide +kernel
theorem dX11_init_113 : decode cX11_init 113 = .ok (.bipush 17, 2) := by decide +kernel
theorem dX11_init_115 : decode cX11_init 115 = .ok (.newarray .int, 2) := by decide +kernel
theorem dX11_init_117 : decode cX11_init 117 = .ok (.putfield 51, 3) := by decide +kernel
theorem dX11_init_120 : decode cX11_init 120 = .ok (.aload_n 0, 1) := by decide +kernel
theorem dX11_init_121 : decode cX11_init 121 = .ok (.bipush 16, 2) := by decide +kernel
theorem dX11_init_123 : decode cX11_init 123 = .ok (.newarray .int, 2) := by decide +kernel
theorem dX11_init_125 : decode cX11_init 125 = .ok (.putfield 54, 3) := by decide +kernel
theorem dX11_init_128 : decode cX11_init 128 = .ok (.aload_n 0, 1) := by decide +kernel
theorem dX11_init_129 : decode cX11_init 129 = .ok (.bipush 16, 2) := by decide +kernel
theorem dX11_init_131 : decode cX11_init 131 = .ok (.newarray .boolean, 2) := by decide +kernel
theorem dX11_init_133 : decode cX11_init 133 = .ok (.putfield 57, 3) := by decide +kernel
theorem dX11_init_136 : decode cX11_init 136 = .ok (.aload_n 0, 1) := by decide +kernel
theorem dX11_init_137 : decode cX11_init 137 = .ok (.bipush 20, 2) := by decide +kernel
theorem dX11_init_139 : decode cX11_init 139 = .ok (.newarray .boolean, 2) := by decide +kernel
theorem dX11_init_141 : decode cX11_init 141 = .ok (.putfield 61, 3) := by decide +kernel
theorem dX11_init_144 : decode cX11_init 144 = .ok (.aload_n 0, 1) := by decide +kernel
theorem dX11_init_145 : decode cX11_init 145 = .ok (.sipush 256, 3) := by decide +kernel
theorem dX11_init_148 : decode cX11_init 148 = .ok (.newarray .int, 2) := by decide +kernel
theorem dX11_init_150 : decode cX11_init 150 = .ok (.putfield 64, 3) := by decide +kernel
theorem dX11_init_153 : decode cX11_init 153 = .ok (.aload_n 0, 1) := by decide +kernel
theorem dX11_init_154 : decode cX11_init 154 = .ok (.invokevirtual 67, 3) := by decide +kernel
theorem dX11_init_157 : decode cX11_init 157 = .ok (.aload_n 0, 1) := by decide +kernel
theorem dX11_init_158 : decode cX11_init 158 = .ok (.getfield 21, 3) := by decide +kernel
theorem dX11_init_161 : decode cX11_init 161 = .ok (.iconst 0, 1) := by decide +kernel
theorem dX11_init_162 : decode cX11_init 162 = .ok (.iconst 2, 1) := by decide +kernel
theorem dX11_init_163 : decode cX11_init 163 = .ok (.iastore, 1) := by decide +kernel
theorem dX11_init_164 : decode cX11_init 164 = .ok (.aload_n 0, 1) := by decide +kernel
theorem dX11_init_165 : decode cX11_init 165 = .ok (.getfield 21, 3) := by decide +kernel
theorem dX11_init_168 : decode cX11_init 168 = .ok (.iconst 2, 1) := by decide +kernel
theorem dX11_init_169 : decode cX11_init 169 = .ok (.iconst 1, 1) := by decide +kernel
theorem dX11_init_170 : decode cX11_init 170 = .ok (.iastore, 1) := by decide +kernel
theorem dX11_init_171 : decode cX11_init 171 = .ok (.aload_n 0, 1) := by decide +kernel
theorem dX11_init_172 : decode cX11_init 172 = .ok (.getfield 21, 3) := by decide +kernel
theorem dX11_init_175 : decode cX11_init 175 = .ok (.iconst 3, 1) := by decide +kernel
theorem dX11_init_176 : decode cX11_init 176 = .ok (.iconst 1, 1) := by decide +kernel
theorem dX11_init_177 : decode cX11_init 177 = .ok (.iastore, 1) := by decide +kernel
theorem dX11_init_178 : decode cX11_init 178 = .ok (.aload_n 0, 1) := by decide +kernel
theorem dX11_init_179 : decode cX11_init 179 = .ok (.getfield 21, 3) := by decide +kernel
theorem dX11_init_182 : decode cX11_init 182 = .ok (.sipush 148, 3) := by decide +kernel
theorem dX11_init_185 : decode cX11_init 185 = .ok (.iconst 1, 1) := by decide +kernel
theorem dX11_init_186 : decode cX11_init 186 = .ok (.iastore, 1) := by decide +kernel
theorem dX11_init_187 : decode cX11_init 187 = .ok (.aload_n 0, 1) := by decide +kernel
theorem dX11_init_188 : decode cX11_init 188 = .ok (.invokevirtual 70, 3) := by decide +kernel
theorem dX11_init_191 : decode cX11_init 191 = .ok (.return_, 1) := by decide +kernel
theorem dX11_in_0 : decode cX11_in 0 = .ok (.lload_n 0, 1) := by decide +kernel
theorem dX11_in_1 : decode cX11_in 1 = .ok (.lload_n 2, 1) := by decide +kernel
theorem dX11_in_2 : decode cX11_in 2 = .ok (.lcmp, 1) := by decide +kernel
theorem dX11_in_3 : decode cX11_in 3 = .ok (.ifCond .lt 14, 3) := by decide +kernel
theorem dX11_in_6 : decode cX11_in 6 = .ok (.lload_n 0, 1) := by decide +kernel
theorem dX11_in_7 : decode cX11_in 7 = .ok (.lload 4, 2) := by decide +kernel
theorem dX11_in_9 : decode cX11_in 9 = .ok (.lcmp, 1) := by decide +kernel
theorem dX11_in_10 : decode cX11_in 10 = .ok (.ifCond .gt 7, 3) := by decide +kernel
theorem dX11_in_13 : decode cX11_in 13 = .ok (.iconst 1, 1) := by decide +kernel
theorem dX11_in_14 : decode cX11_in 14 = .ok (.goto 4, 3) := by decide +kernel
theorem dX11_in_17 : decode cX11_in 17 = .ok (.iconst 0, 1) := by decide +kernel
theorem dX11_in_18 : decode cX11_in 18 = .ok (.ireturn, 1) := by decide +kernel
theorem dX11_most_0 : decode cX11_most 0 = .ok (.iload_n 0, 1) := by decide +kernel
theorem dX11_most_1 : decode cX11_most 1 = .ok (.iload_n 1, 1) := by decide +kernel
theorem dX11_most_2 : decode cX11_most 2 = .ok (.if_icmp .le 7, 3) := by decide +kernel
theorem dX11_most_5 : decode cX11_most 5 = .ok (.iload_n 0, 1) := by decide +kernel
theorem dX11_most_6 : decode cX11_most 6 = .ok (.goto 4, 3) := by decide +kernel
theorem dX11_most_9 : decode cX11_most 9 = .ok (.iload_n 1, 1) := by decide +kernel
theorem dX11_most_10 : decode cX11_most 10 = .ok (.ireturn, 1) := by decide +kernel
theorem dX11_defaults_0 : decode cX11_defaults 0 = .ok (.iconst 0, 1) := by decide +kernel
theorem dX11_defaults_1 : decode cX11_defaults 1 = .ok (.istore_n 1, 1) := by decide +kernel
theorem dX11_defaults_2 : decode cX11_defaults 2 = .ok (.iload_n 1, 1) := by decide +kernel
theorem dX11_defaults_3 : decode cX11_defaults 3 = .ok (.sipush 172, 3) := by decide +kernel
theorem dX11_defaults_6 : decode cX11_defaults 6 = .ok (.if_icmp .ge 16, 3) := by decide +kernel
theorem dX11_defaults_9 : decode cX11_defaults 9 = .ok (.aload_n 0, 1) := by decide +kernel
theorem dX11_defaults_10 : decode cX11_defaults 10 = .ok (.getfield 21, 3) := by decide +kernel
theorem dX11_defaults_13 : decode cX11_defaults 13 = .ok (.iload_n 1, 1) := by decide +kernel
theorem dX11_defaults_14 : decode cX11_defaults 14 = .ok (.iconst 0, 1) := by decide +kernel
theorem dX11_defaults_15 : decode cX11_defaults 15 = .ok (.iastore, 1) := by decide +kernel
theorem dX11_defaults_16 : decode cX11_defaults 16 = .ok (.iinc 1 1, 3) := by decide +kernel
theorem dX11_defaults_19 : decode cX11_defaults 19 = .ok (.goto (-17), 3) := by decide +kernel
theorem dX11_defaults_22 : decode cX11_defaults 22 = .ok (.aload_n 0, 1) := by decide +kernel
theorem dX11_defaults_23 : decode cX11_defaults 23 = .ok (.iconst 0, 1) := by decide +kernel
theorem dX11_defaults_24 : decode cX11_defaults 24 = .ok (.putfield 73, 3) := by decide +kernel
theorem dX11_defaults_27 : decode cX11_defaults 27 = .ok (.return_, 1) := by decide +kernel
theorem dX11_isAt_0 : decode cX11_isAt 0 = .ok (.aload_n 0, 1) := by decide +kernel
theorem dX11_isAt_1 : decode cX11_isAt 1 = .ok (.getfield 76, 3) := by decide +kernel
theorem dX11_isAt_4 : decode cX11_isAt 4 = .ok (.aload_n 0, 1) := by decide +kernel
theorem dX11_isAt_5 : decode cX11_isAt 5 = .ok (.getfield 79, 3) := by decide +kernel
theorem dX11_isAt_8 : decode cX11_isAt 8 = .ok (.if_icmp .ge 33, 3) := by decide +kernel
theorem dX11_isAt_11 : decode cX11_isAt 11 = .ok (.aload_n 0, 1) := by decide +kernel
theorem dX11_isAt_12 : decode cX11_isAt 12 = .ok (.getfield 7, 3) := by decide +kernel
theorem dX11_isAt_15 : decode cX11_isAt 15 = .ok (.aload_n 0, 1) := by decide +kernel
theorem dX11_isAt_16 : decode cX11_isAt 16 = .ok (.getfield 76, 3) := by decide +kernel
theorem dX11_isAt_19 : decode cX11_isAt 19 = .ok (.baload, 1) := by decide +kernel
theorem dX11_isAt_20 : decode cX11_isAt 20 = .ok (.iload_n 1, 1) := by decide +kernel
theorem dX11_isAt_21 : decode cX11_isAt 21 = .ok (.if_icmp .lt 20, 3) := by decide +kernel
theorem dX11_isAt_24 : decode cX11_isAt 24 = .ok (.aload_n 0, 1) := by decide +kernel
theorem dX11_isAt_25 : decode cX11_isAt 25 = .ok (.getfield 7, 3) := by decide +kernel
theorem dX11_isAt_28 : decode cX11_isAt 28 = .ok (.aload_n 0, 1) := by decide +kernel
theorem dX11_isAt_29 : decode cX11_isAt 29 = .ok (.getfield 76, 3) := by decide +kernel
theorem dX11_isAt_32 : decode cX11_isAt 32 = .ok (.baload, 1) := by decide +kernel
theorem dX11_isAt_33 : decode cX11_isAt 33 = .ok (.iload_n 2, 1) := by decide +kernel
theorem dX11_isAt_34 : decode cX11_isAt 34 = .ok (.if_icmp .gt 7, 3) := by decide +kernel
theorem dX11_isAt_37 : decode cX11_isAt 37 = .ok (.iconst 1, 1) := by decide +kernel
theorem dX11_isAt_38 : decode cX11_isAt 38 = .ok (.goto 4, 3) := by decide +kernel
theorem dX11_isAt_41 : decode cX11_isAt 41 = .ok (.iconst 0, 1) := by decide +kernel
theorem dX11_isAt_42 : decode cX11_isAt 42 = .ok (.ireturn, 1) := by decide +kernel
theorem dX11_next_0 : decode cX11_next 0 = .ok (.aload_n 0, 1) := by decide +kernel
theorem dX11_next_1 : decode cX11_next 1 = .ok (.getfield 76, 3) := by decide +kernel
theorem dX11_next_4 : decode cX11_next 4 = .ok (.aload_n 0, 1) := by decide +kernel
theorem dX11_next_5 : decode cX11_next 5 = .ok (.getfield 79, 3) := by decide +kernel
theorem dX11_next_8 : decode cX11_next 8 = .ok (.if_icmp .ge 44, 3) := by decide +kernel
theorem dX11_next_11 : decode cX11_next 11 = .ok (.aload_n 0, 1) := by decide +kernel
theorem dX11_next_12 : decode cX11_next 12 = .ok (.getfield 7, 3) := by decide +kernel
theorem dX11_next_15 : decode cX11_next 15 = .ok (.aload_n 0, 1) := by decide +kernel
theorem dX11_next_16 : decode cX11_next 16 = .ok (.getfield 76, 3) := by decide +kernel
theorem dX11_next_19 : decode cX11_next 19 = .ok (.baload, 1) := by decide +kernel
theorem dX11_next_20 : decode cX11_next 20 = .ok (.bipush 32, 2) := by decide +kernel
theorem dX11_next_22 : decode cX11_next 22 = .ok (.if_icmp .eq 17, 3) := by decide +kernel
theorem dX11_next_25 : decode cX11_next 25 = .ok (.aload_n 0, 1) := by decide +kernel
theorem dX11_next_26 : decode cX11_next 26 = .ok (.getfield 7, 3) := by decide +kernel
theorem dX11_next_29 : decode cX11_next 29 = .ok (.aload_n 0, 1) := by decide +kernel
theorem dX11_next_30 : decode cX11_next 30 = .ok (.getfield 76, 3) := by decide +kernel
theorem dX11_next_33 : decode cX11_next 33 = .ok (.baload, 1) := by decide +kernel
theorem dX11_next_34 : decode cX11_next 34 = .ok (.bipush 10, 2) := by decide +kernel
theorem dX11_next_36 : decode cX11_next 36 = .ok (.if_icmp .ne 16, 3) := by decide +kernel
theorem dX11_next_39 : decode cX11_next 39 = .ok (.aload_n 0, 1) := by decide +kernel
theorem dX11_next_40 : decode cX11_next 40 = .ok (.dup, 1) := by decide +kernel
theorem dX11_next_41 : decode cX11_next 41 = .ok (.getfield 76, 3) := by decide +kernel
theorem dX11_next_44 : decode cX11_next 44 = .ok (.iconst 1, 1) := by decide +kernel
theorem dX11_next_45 : decode cX11_next 45 = .ok (.iadd, 1) := by decide +kernel
theorem dX11_next_46 : decode cX11_next 46 = .ok (.putfield 76, 3) := by decide +kernel
theorem dX11_next_49 : decode cX11_next 49 = .ok (.goto (-49), 3) := by decide +kernel
theorem dX11_next_52 : decode cX11_next 52 = .ok (.aload_n 0, 1) := by decide +kernel
theorem dX11_next_53 : decode cX11_next 53 = .ok (.aload_n 0, 1) := by decide +kernel
theorem dX11_next_54 : decode cX11_next 54 = .ok (.getfield 76, 3) := by decide +kernel
theorem dX11_next_57 : decode cX11_next 57 = .ok (.putfield 82, 3) := by decide +kernel
theorem dX11_next_60 : decode cX11_next 60 = .ok (.aload_n 0, 1) := by decide +kernel
theorem dX11_next_61 : decode cX11_next 61 = .ok (.iconst 0, 1) := by decide +kernel
theorem dX11_next_62 : decode cX11_next 62 = .ok (.putfield 85, 3) := by decide +kernel
theorem dX11_next_65 : decode cX11_next 65 = .ok (.aload_n 0, 1) := by decide +kernel
theorem dX11_next_66 : decode cX11_next 66 = .ok (.lconst 0, 1) := by decide +kernel
theorem dX11_next_67 : decode cX11_next 67 = .ok (.putfield 88, 3) := by decide +kernel
theorem dX11_next_70 : decode cX11_next 70 = .ok (.aload_n 0, 1) := by decide +kernel
theorem dX11_next_71 : decode cX11_next 71 = .ok (.getfield 76, 3) := by decide +kernel
theorem dX11_next_74 : decode cX11_next 74 = .ok (.aload_n 0, 1) := by decide +kernel
theorem dX11_next_75 : decode cX11_next 75 = .ok (.getfield 79, 3) := by decide +kernel
theorem dX11_next_78 : decode cX11_next 78 = .ok (.if_icmp .ne 11, 3) := by decide +kernel
theorem dX11_next_81 : decode cX11_next 81 = .ok (.aload_n 0, 1) := by decide +kernel
theorem dX11_next_82 : decode cX11_next 82 = .ok (.iconst 0, 1) := by decide +kernel
theorem dX11_next_83 : decode cX11_next 83 = .ok (.putfield 92, 3) := by decide +kernel
theorem dX11_next_86 : decode cX11_next 86 = .ok (.goto 231, 3) := by decide +kernel
theorem dX11_next_89 : decode cX11_next 89 = .ok (.aload_n 0, 1) := by decide +kernel
theorem dX11_next_90 : decode cX11_next 90 = .ok (.bipush 97, 2) := by decide +kernel
theorem dX11_next_92 : decode cX11_next 92 = .ok (.bipush 122, 2) := by decide +kernel
theorem dX11_next_94 : decode cX11_next 94 = .ok (.invokevirtual 95, 3) := by decide +kernel
theorem dX11_next_97 : decode cX11_next 97 = .ok (.ifCond .eq 83, 3) := by decide +kernel
theorem dX11_next_100 : decode cX11_next 100 = .ok (.aload_n 0, 1) := by decide +kernel
theorem dX11_next_101 : decode cX11_next 101 = .ok (.bipush 97, 2) := by decide +kernel
theorem dX11_next_103 : decode cX11_next 103 = .ok (.bipush 122, 2) := by decide +kernel
theorem dX11_next_105 : decode cX11_next 105 = .ok (.invokevirtual 95, 3) := by decide +kernel
theorem dX11_next_108 : decode cX11_next 108 = .ok (.ifCond .eq 64, 3) := by decide +kernel
theorem dX11_next_111 : decode cX11_next 111 = .ok (.aload_n 0, 1) := by decide +kernel
theorem dX11_next_112 : decode cX11_next 112 = .ok (.aload_n 0, 1) := by decide +kernel
theorem dX11_next_113 : decode cX11_next 113 = .ok (.getfield 76, 3) := by decide +kernel
theorem dX11_next_116 : decode cX11_next 116 = .ok (.aload_n 0, 1) := by decide +kernel
theorem dX11_next_117 : decode cX11_next 117 = .ok (.getfield 82, 3) := by decide +kernel
theorem dX11_next_120 : decode cX11_next 120 = .ok (.isub, 1) := by decide +kernel
theorem dX11_next_121 : decode cX11_next 121 = .ok (.bipush 12, 2) := by decide +kernel
theorem dX11_next_123 : decode cX11_next 123 = .ok (.if_icmp .ge 29, 3) := by decide +kernel
theorem dX11_next_126 : decode cX11_next 126 = .ok (.ldc2_w 99, 3) := by decide +kernel
theorem dX11_next_129 : decode cX11_next 129 = .ok (.aload_n 0, 1) := by decide +kernel
theorem dX11_next_130 : decode cX11_next 130 = .ok (.getfield 88, 3) := by decide +kernel
theorem dX11_next_133 : decode cX11_next 133 = .ok (.lmul, 1) := by decide +kernel
theorem dX11_next_134 : decode cX11_next 134 = .ok (.aload_n 0, 1) := by decide +kernel
theorem dX11_next_135 : decode cX11_next 135 = .ok (.getfield 7, 3) := by decide +kernel
theorem dX11_next_138 : decode cX11_next 138 = .ok (.aload_n 0, 1) := by decide +kernel
theorem dX11_next_139 : decode cX11_next 139 = .ok (.getfield 76, 3) := by decide +kernel
theorem dX11_next_142 : decode cX11_next 142 = .ok (.baload, 1) := by decide +kernel
theorem dX11_next_143 : decode cX11_next 143 = .ok (.i2l, 1) := by decide +kernel
theorem dX11_next_144 : decode cX11_next 144 = .ok (.ladd, 1) := by decide +kernel
theorem dX11_next_145 : decode cX11_next 145 = .ok (.ldc2_w 101, 3) := by decide +kernel
theorem dX11_next_148 : decode cX11_next 148 = .ok (.lsub, 1) := by decide +kernel
theorem dX11_next_149 : decode cX11_next 149 = .ok (.goto 7, 3) := by decide +kernel
theorem dX11_next_152 : decode cX11_next 152 = .ok (.aload_n 0, 1) := by decide +kernel
theorem dX11_next_153 : decode cX11_next 153 = .ok (.getfield 88, 3) := by decide +kernel
theorem dX11_next_156 : decode cX11_next 156 = .ok (.putfield 88, 3) := by decide +kernel
theorem dX11_next_159 : decode cX11_next 159 = .ok (.aload_n 0, 1) := by decide +kernel
theorem dX11_next_160 : decode cX11_next 160 = .ok (.dup, 1) := by decide +kernel
theorem dX11_next_161 : decode cX11_next 161 = .ok (.getfield 76, 3) := by decide +kernel
theorem dX11_next_164 : decode cX11_next 164 = .ok (.iconst 1, 1) := by decide +kernel
theorem dX11_next_165 : decode cX11_next 165 = .ok (.iadd, 1) := by decide +kernel
theorem dX11_next_166 : decode cX11_next 166 = .ok (.putfield 76, 3) := by decide +kernel
theorem dX11_next_169 : decode cX11_next 169 = .ok (.goto (-69), 3) := by decide +kernel
theorem dX11_next_172 : decode cX11_next 172 = .ok (.aload_n 0, 1) := by decide +kernel
theorem dX11_next_173 : decode cX11_next 173 = .ok (.iconst 1, 1) := by decide +kernel
theorem dX11_next_174 : decode cX11_next 174 = .ok (.putfield 92, 3) := by decide +kernel
theorem dX11_next_177 : decode cX11_next 177 = .ok (.goto 140, 3) := by decide +kernel
theorem dX11_next_180 : decode cX11_next 180 = .ok (.aload_n 0, 1) := by decide +kernel
theorem dX11_next_181 : decode cX11_next 181 = .ok (.bipush 48, 2) := by decide +kernel
theorem dX11_next_183 : decode cX11_next 183 = .ok (.bipush 57, 2) := by decide +kernel
theorem dX11_next_185 : decode cX11_next 185 = .ok (.invokevirtual 95, 3) := by decide +kernel
theorem dX11_next_188 : decode cX11_next 188 = .ok (.ifCond .eq 96, 3) := by decide +kernel
theorem dX11_next_191 : decode cX11_next 191 = .ok (.aload_n 0, 1) := by decide +kernel
theorem dX11_next_192 : decode cX11_next 192 = .ok (.bipush 48, 2) := by decide +kernel
theorem dX11_next_194 : decode cX11_next 194 = .ok (.bipush 57, 2) := by decide +kernel
theorem dX11_next_196 : decode cX11_next 196 = .ok (.invokevirtual 95, 3) := by decide +kernel
theorem dX11_next_199 : decode cX11_next 199 = .ok (.ifCond .eq 60, 3) := by decide +kernel
theorem dX11_next_202 : decode cX11_next 202 = .ok (.aload_n 0, 1) := by decide +kernel
theorem dX11_next_203 : decode cX11_next 203 = .ok (.aload_n 0, 1) := by decide +kernel
theorem dX11_next_204 : decode cX11_next 204 = .ok (.getfield 76, 3) := by decide +kernel
theorem dX11_next_207 : decode cX11_next 207 = .ok (.aload_n 0, 1) := by decide +kernel
theorem dX11_next_208 : decode cX11_next 208 = .ok (.getfield 82, 3) := by decide +kernel
theorem dX11_next_211 : decode cX11_next 211 = .ok (.isub, 1) := by decide +kernel
theorem dX11_next_212 : decode cX11_next 212 = .ok (.iconst 4, 1) := by decide +kernel
theorem dX11_next_213 : decode cX11_next 213 = .ok (.if_icmp .ge 26, 3) := by decide +kernel
theorem dX11_next_216 : decode cX11_next 216 = .ok (.bipush 10, 2) := by decide +kernel
theorem dX11_next_218 : decode cX11_next 218 = .ok (.aload_n 0, 1) := by decide +kernel
theorem dX11_next_219 : decode cX11_next 219 = .ok (.getfield 85, 3) := by decide +kernel
theorem dX11_next_222 : decode cX11_next 222 = .ok (.imul, 1) := by decide +kernel
theorem dX11_next_223 : decode cX11_next 223 = .ok (.aload_n 0, 1) := by decide +kernel
theorem dX11_next_224 : decode cX11_next 224 = .ok (.getfield 7, 3) := by decide +kernel
theorem dX11_next_227 : decode cX11_next 227 = .ok (.aload_n 0, 1) := by decide +kernel
theorem dX11_next_228 : decode cX11_next 228 = .ok (.getfield 76, 3) := by decide +kernel
theorem dX11_next_231 : decode cX11_next 231 = .ok (.baload, 1) := by decide +kernel
theorem dX11_next_232 : decode cX11_next 232 = .ok (.iadd, 1) := by decide +kernel
theorem dX11_next_233 : decode cX11_next 233 = .ok (.bipush 48, 2) := by decide +kernel
theorem dX11_next_235 : decode cX11_next 235 = .ok (.isub, 1) := by decide +kernel
theorem dX11_next_236 : decode cX11_next 236 = .ok (.goto 7, 3) := by decide +kernel
theorem dX11_next_239 : decode cX11_next 239 = .ok (.aload_n 0, 1) := by decide +kernel
theorem dX11_next_240 : decode cX11_next 240 = .ok (.getfield 85, 3) := by decide +kernel
theorem dX11_next_243 : decode cX11_next 243 = .ok (.putfield 85, 3) := by decide +kernel
theorem dX11_next_246 : decode cX11_next 246 = .ok (.aload_n 0, 1) := by decide +kernel
theorem dX11_next_247 : decode cX11_next 247 = .ok (.dup, 1) := by decide +kernel
theorem dX11_next_248 : decode cX11_next 248 = .ok (.getfield 76, 3) := by decide +kernel
theorem dX11_next_251 : decode cX11_next 251 = .ok (.iconst 1, 1) := by decide +kernel
theorem dX11_next_252 : decode cX11_next 252 = .ok (.iadd, 1) := by decide +kernel
theorem dX11_next_253 : decode cX11_next 253 = .ok (.putfield 76, 3) := by decide +kernel
theorem dX11_next_256 : decode cX11_next 256 = .ok (.goto (-65), 3) := by decide +kernel
theorem dX11_next_259 : decode cX11_next 259 = .ok (.aload_n 0, 1) := by decide +kernel
theorem dX11_next_260 : decode cX11_next 260 = .ok (.aload_n 0, 1) := by decide +kernel
theorem dX11_next_261 : decode cX11_next 261 = .ok (.getfield 76, 3) := by decide +kernel
theorem dX11_next_264 : decode cX11_next 264 = .ok (.aload_n 0, 1) := by decide +kernel
theorem dX11_next_265 : decode cX11_next 265 = .ok (.getfield 82, 3) := by decide +kernel
theorem dX11_next_268 : decode cX11_next 268 = .ok (.isub, 1) := by decide +kernel
theorem dX11_next_269 : decode cX11_next 269 = .ok (.iconst 4, 1) := by decide +kernel
theorem dX11_next_270 : decode cX11_next 270 = .ok (.if_icmp .le 7, 3) := by decide +kernel
theorem dX11_next_273 : decode cX11_next 273 = .ok (.iconst 4, 1) := by decide +kernel
theorem dX11_next_274 : decode cX11_next 274 = .ok (.goto 4, 3) := by decide +kernel
theorem dX11_next_277 : decode cX11_next 277 = .ok (.iconst 2, 1) := by decide +kernel
theorem dX11_next_278 : decode cX11_next 278 = .ok (.putfield 92, 3) := by decide +kernel
theorem dX11_next_281 : decode cX11_next 281 = .ok (.goto 36, 3) := by decide +kernel
theorem dX11_next_284 : decode cX11_next 284 = .ok (.aload_n 0, 1) := by decide +kernel
theorem dX11_next_285 : decode cX11_next 285 = .ok (.aload_n 0, 1) := by decide +kernel
theorem dX11_next_286 : decode cX11_next 286 = .ok (.getfield 7, 3) := by decide +kernel
theorem dX11_next_289 : decode cX11_next 289 = .ok (.aload_n 0, 1) := by decide +kernel
theorem dX11_next_290 : decode cX11_next 290 = .ok (.getfield 76, 3) := by decide +kernel
theorem dX11_next_293 : decode cX11_next 293 = .ok (.baload, 1) := by decide +kernel
theorem dX11_next_294 : decode cX11_next 294 = .ok (.bipush 59, 2) := by decide +kernel
theorem dX11_next_296 : decode cX11_next 296 = .ok (.if_icmp .ne 7, 3) := by decide +kernel
theorem dX11_next_299 : decode cX11_next 299 = .ok (.iconst 3, 1) := by decide +kernel
theorem dX11_next_300 : decode cX11_next 300 = .ok (.goto 4, 3) := by decide +kernel
theorem dX11_next_303 : decode cX11_next 303 = .ok (.iconst 4, 1) := by decide +kernel
theorem dX11_next_304 : decode cX11_next 304 = .ok (.putfield 92, 3) := by decide +kernel
theorem dX11_next_307 : decode cX11_next 307 = .ok (.aload_n 0, 1) := by decide +kernel
theorem dX11_next_308 : decode cX11_next 308 = .ok (.dup, 1) := by decide +kernel
theorem dX11_next_309 : decode cX11_next 309 = .ok (.getfield 76, 3) := by decide +kernel
theorem dX11_next_312 : decode cX11_next 312 = .ok (.iconst 1, 1) := by decide +kernel
theorem dX11_next_313 : decode cX11_next 313 = .ok (.iadd, 1) := by decide +kernel
theorem dX11_next_314 : decode cX11_next 314 = .ok (.putfield 76, 3) := by decide +kernel
theorem dX11_next_317 : decode cX11_next 317 = .ok (.return_, 1) := by decide +kernel
theorem dX11_takes_0 : decode cX11_takes 0 = .ok (.aload_n 0, 1) := by decide +kernel
theorem dX11_takes_1 : decode cX11_takes 1 = .ok (.getfield 103, 3) := by decide +kernel
theorem dX11_takes_4 : decode cX11_takes 4 = .ok (.ifCond .eq 20, 3) := by decide +kernel
theorem dX11_takes_7 : decode cX11_takes 7 = .ok (.iload_n 1, 1) := by decide +kernel
theorem dX11_takes_8 : decode cX11_takes 8 = .ok (.ifCond .ne 16, 3) := by decide +kernel
theorem dX11_takes_11 : decode cX11_takes 11 = .ok (.aload_n 0, 1) := by decide +kernel
theorem dX11_takes_12 : decode cX11_takes 12 = .ok (.iconst 0, 1) := by decide +kernel
theorem dX11_takes_13 : decode cX11_takes 13 = .ok (.putfield 103, 3) := by decide +kernel
theorem dX11_takes_16 : decode cX11_takes 16 = .ok (.aload_n 0, 1) := by decide +kernel
theorem dX11_takes_17 : decode cX11_takes 17 = .ok (.aload_n 0, 1) := by decide +kernel
theorem dX11_takes_18 : decode cX11_takes 18 = .ok (.getfield 82, 3) := by decide +kernel
theorem dX11_takes_21 : decode cX11_takes 21 = .ok (.putfield 13, 3) := by decide +kernel
theorem dX11_takes_24 : decode cX11_takes 24 = .ok (.aload_n 0, 1) := by decide +kernel
theorem dX11_takes_25 : decode cX11_takes 25 = .ok (.getfield 103, 3) := by decide +kernel
theorem dX11_takes_28 : decode cX11_takes 28 = .ok (.ifCond .eq 7, 3) := by decide +kernel
theorem dX11_takes_31 : decode cX11_takes 31 = .ok (.aload_n 0, 1) := by decide +kernel
theorem dX11_takes_32 : decode cX11_takes 32 = .ok (.invokevirtual 107, 3) := by decide +kernel
theorem dX11_takes_35 : decode cX11_takes 35 = .ok (.return_, 1) := by decide +kernel
theorem dX11_isWord_0 : decode cX11_isWord 0 = .ok (.aload_n 0, 1) := by decide +kernel
theorem dX11_isWord_1 : decode cX11_isWord 1 = .ok (.getfield 103, 3) := by decide +kernel
theorem dX11_isWord_4 : decode cX11_isWord 4 = .ok (.ifCond .eq 24, 3) := by decide +kernel
theorem dX11_isWord_7 : decode cX11_isWord 7 = .ok (.aload_n 0, 1) := by decide +kernel
theorem dX11_isWord_8 : decode cX11_isWord 8 = .ok (.getfield 92, 3) := by decide +kernel
theorem dX11_isWord_11 : decode cX11_isWord 11 = .ok (.iconst 1, 1) := by decide +kernel
theorem dX11_isWord_12 : decode cX11_isWord 12 = .ok (.if_icmp .ne 16, 3) := by decide +kernel
theorem dX11_isWord_15 : decode cX11_isWord 15 = .ok (.aload_n 0, 1) := by decide +kernel
theorem dX11_isWord_16 : decode cX11_isWord 16 = .ok (.getfield 88, 3) := by decide +kernel
theorem dX11_isWord_19 : decode cX11_isWord 19 = .ok (.lload_n 1, 1) := by decide +kernel
theorem dX11_isWord_20 : decode cX11_isWord 20 = .ok (.lcmp, 1) := by decide +kernel
theorem dX11_isWord_21 : decode cX11_isWord 21 = .ok (.ifCond .ne 7, 3) := by decide +kernel
theorem dX11_isWord_24 : decode cX11_isWord 24 = .ok (.iconst 1, 1) := by decide +kernel
theorem dX11_isWord_25 : decode cX11_isWord 25 = .ok (.goto 4, 3) := by decide +kernel
theorem dX11_isWord_28 : decode cX11_isWord 28 = .ok (.iconst 0, 1) := by decide +kernel
theorem dX11_isWord_29 : decode cX11_isWord 29 = .ok (.ireturn, 1) := by decide +kernel
theorem dX11_number_0 : decode cX11_number 0 = .ok (.aload_n 0, 1) := by decide +kernel
theorem dX11_number_1 : decode cX11_number 1 = .ok (.getfield 85, 3) := by decide +kernel
theorem dX11_number_4 : decode cX11_number 4 = .ok (.istore_n 3, 1) := by decide +kernel
theorem dX11_number_5 : decode cX11_number 5 = .ok (.aload_n 0, 1) := by decide +kernel
theorem dX11_number_6 : decode cX11_number 6 = .ok (.aload_n 0, 1) := by decide +kernel
theorem dX11_number_7 : decode cX11_number 7 = .ok (.getfield 92, 3) := by decide +kernel
theorem dX11_number_10 : decode cX11_number 10 = .ok (.iconst 2, 1) := by decide +kernel
theorem dX11_number_11 : decode cX11_number 11 = .ok (.if_icmp .ne 19, 3) := by decide +kernel
theorem dX11_number_14 : decode cX11_number 14 = .ok (.iload_n 3, 1) := by decide +kernel
theorem dX11_number_15 : decode cX11_number 15 = .ok (.i2l, 1) := by decide +kernel
theorem dX11_number_16 : decode cX11_number 16 = .ok (.iload_n 1, 1) := by decide +kernel
theorem dX11_number_17 : decode cX11_number 17 = .ok (.i2l, 1) := by decide +kernel
theorem dX11_number_18 : decode cX11_number 18 = .ok (.iload_n 2, 1) := by decide +kernel
theorem dX11_number_19 : decode cX11_number 19 = .ok (.i2l, 1) := by decide +kernel
theorem dX11_number_20 : decode cX11_number 20 = .ok (.invokestatic 110, 3) := by decide +kernel
theorem dX11_number_23 : decode cX11_number 23 = .ok (.ifCond .eq 7, 3) := by decide +kernel
theorem dX11_number_26 : decode cX11_number 26 = .ok (.iconst 1, 1) := by decide +kernel
theorem dX11_number_27 : decode cX11_number 27 = .ok (.goto 4, 3) := by decide +kernel
theorem dX11_number_30 : decode cX11_number 30 = .ok (.iconst 0, 1) := by decide +kernel
theorem dX11_number_31 : decode cX11_number 31 = .ok (.invokevirtual 114, 3) := by decide +kernel
theorem dX11_number_34 : decode cX11_number 34 = .ok (.iload_n 3, 1) := by decide +kernel
theorem dX11_number_35 : decode cX11_number 35 = .ok (.ireturn, 1) := by decide +kernel
theorem dX11_numberBehind_0 : decode cX11_numberBehind 0 = .ok (.aload_n 0, 1) := by decide +kernel
theorem dX11_numberBehind_1 : decode cX11_numberBehind 1 = .ok (.aload_n 0, 1) := by decide +kernel
theorem dX11_numberBehind_2 : decode cX11_numberBehind 2 = .ok (.lload_n 1, 1) := by decide +kernel
theorem dX11_numberBehind_3 : decode cX11_numberBehind 3 = .ok (.invokevirtual 118, 3) := by decide +kernel
theorem dX11_numberBehind_6 : decode cX11_numberBehind 6 = .ok (.invokevirtual 114, 3) := by decide +kernel
theorem dX11_numberBehind_9 : decode cX11_numberBehind 9 = .ok (.aload_n 0, 1) := by decide +kernel
theorem dX11_numberBehind_10 : decode cX11_numberBehind 10 = .ok (.iload_n 3, 1) := by decide +kernel
theorem dX11_numberBehind_11 : decode cX11_numberBehind 11 = .ok (.iload 4, 2) := by decide +kernel
theorem dX11_numberBehind_13 : decode cX11_numberBehind 13 = .ok (.invokevirtual 122, 3) := by decide +kernel
theorem dX11_numberBehind_16 : decode cX11_numberBehind 16 = .ok (.ireturn, 1) := by decide +kernel
theorem dX11_isJoined_0 : decode cX11_isJoined 0 = .ok (.iconst 0, 1) := by decide +kernel
theorem dX11_isJoined_1 : decode cX11_isJoined 1 = .ok (.istore_n 3, 1) := by decide +kernel
theorem dX11_isJoined_2 : decode cX11_isJoined 2 = .ok (.iload_n 3, 1) := by decide +kernel
theorem dX11_isJoined_3 : decode cX11_isJoined 3 = .ok (.aload_n 0, 1) := by decide +kernel
theorem dX11_isJoined_4 : decode cX11_isJoined 4 = .ok (.getfield 21, 3) := by decide +kernel
theorem dX11_isJoined_7 : decode cX11_isJoined 7 = .ok (.iconst 1, 1) := by decide +kernel
theorem dX11_isJoined_8 : decode cX11_isJoined 8 = .ok (.iaload, 1) := by decide +kernel
theorem dX11_isJoined_9 : decode cX11_isJoined 9 = .ok (.if_icmp .ge 61, 3) := by decide +kernel
theorem dX11_isJoined_12 : decode cX11_isJoined 12 = .ok (.aload_n 0, 1) := by decide +kernel
theorem dX11_isJoined_13 : decode cX11_isJoined 13 = .ok (.getfield 21, 3) := by decide +kernel
theorem dX11_isJoined_16 : decode cX11_isJoined 16 = .ok (.iconst 4, 1) := by decide +kernel
theorem dX11_isJoined_17 : decode cX11_isJoined 17 = .ok (.iconst 4, 1) := by decide +kernel
theorem dX11_isJoined_18 : decode cX11_isJoined 18 = .ok (.iload_n 3, 1) := by decide +kernel
theorem dX11_isJoined_19 : decode cX11_isJoined 19 = .ok (.imul, 1) := by decide +kernel
theorem dX11_isJoined_20 : decode cX11_isJoined 20 = .ok (.iadd, 1) := by decide +kernel
theorem dX11_isJoined_21 : decode cX11_isJoined 21 = .ok (.iaload, 1) := by decide +kernel
theorem dX11_isJoined_22 : decode cX11_isJoined 22 = .ok (.istore 4, 2) := by decide +kernel
theorem dX11_isJoined_24 : decode cX11_isJoined 24 = .ok (.aload_n 0, 1) := by decide +kernel
theorem dX11_isJoined_25 : decode cX11_isJoined 25 = .ok (.getfield 21, 3) := by decide +kernel
theorem dX11_isJoined_28 : decode cX11_isJoined 28 = .ok (.iconst 4, 1) := by decide +kernel
theorem dX11_isJoined_29 : decode cX11_isJoined 29 = .ok (.iconst 4, 1) := by decide +kernel
theorem dX11_isJoined_30 : decode cX11_isJoined 30 = .ok (.iload_n 3, 1) := by decide +kernel
theorem dX11_isJoined_31 : decode cX11_isJoined 31 = .ok (.imul, 1) := by decide +kernel
theorem dX11_isJoined_32 : decode cX11_isJoined 32 = .ok (.iadd, 1) := by decide +kernel
theorem dX11_isJoined_33 : decode cX11_isJoined 33 = .ok (.iconst 1, 1) := by decide +kernel
theorem dX11_isJoined_34 : decode cX11_isJoined 34 = .ok (.iadd, 1) := by decide +kernel
theorem dX11_isJoined_35 : decode cX11_isJoined 35 = .ok (.iaload, 1) := by decide +kernel
theorem dX11_isJoined_36 : decode cX11_isJoined 36 = .ok (.istore 5, 2) := by decide +kernel
theorem dX11_isJoined_38 : decode cX11_isJoined 38 = .ok (.iload 4, 2) := by decide +kernel
theorem dX11_isJoined_40 : decode cX11_isJoined 40 = .ok (.iload_n 1, 1) := by decide +kernel
theorem dX11_isJoined_41 : decode cX11_isJoined 41 = .ok (.if_icmp .ne 9, 3) := by decide +kernel
theorem dX11_isJoined_44 : decode cX11_isJoined 44 = .ok (.iload 5, 2) := by decide +kernel
theorem dX11_isJoined_46 : decode cX11_isJoined 46 = .ok (.iload_n 2, 1) := by decide +kernel
theorem dX11_isJoined_47 : decode cX11_isJoined 47 = .ok (.if_icmp .eq 15, 3) := by decide +kernel
theorem dX11_isJoined_50 : decode cX11_isJoined 50 = .ok (.iload 4, 2) := by decide +kernel
theorem dX11_isJoined_52 : decode cX11_isJoined 52 = .ok (.iload_n 2, 1) := by decide +kernel
theorem dX11_isJoined_53 : decode cX11_isJoined 53 = .ok (.if_icmp .ne 11, 3) := by decide +kernel
theorem dX11_isJoined_56 : decode cX11_isJoined 56 = .ok (.iload 5, 2) := by decide +kernel
theorem dX11_isJoined_58 : decode cX11_isJoined 58 = .ok (.iload_n 1, 1) := by decide +kernel
theorem dX11_isJoined_59 : decode cX11_isJoined 59 = .ok (.if_icmp .ne 5, 3) := by decide +kernel
theorem dX11_isJoined_62 : decode cX11_isJoined 62 = .ok (.iconst 1, 1) := by decide +kernel
theorem dX11_isJoined_63 : decode cX11_isJoined 63 = .ok (.ireturn, 1) := by decide +kernel
theorem dX11_isJoined_64 : decode cX11_isJoined 64 = .ok (.iinc 3 1, 3) := by decide +kernel
theorem dX11_isJoined_67 : decode cX11_isJoined 67 = .ok (.goto (-65), 3) := by decide +kernel
theorem dX11_isJoined_70 : decode cX11_isJoined 70 = .ok (.iconst 0, 1) := by decide +kernel
theorem dX11_isJoined_71 : decode cX11_isJoined 71 = .ok (.ireturn, 1) := by decide +kernel
theorem dX11_readLink_0 : decode cX11_readLink 0 = .ok (.aload_n 0, 1) := by decide +kernel
theorem dX11_readLink_1 : decode cX11_readLink 1 = .ok (.getfield 21, 3) := by decide +kernel
theorem dX11_readLink_4 : decode cX11_readLink 4 = .ok (.iconst 1, 1) := by decide +kernel
theorem dX11_readLink_5 : decode cX11_readLink 5 = .ok (.iaload, 1) := by decide +kernel
theorem dX11_readLink_6 : decode cX11_readLink 6 = .ok (.istore_n 1, 1) := by decide +kernel
theorem dX11_readLink_7 : decode cX11_readLink 7 = .ok (.aload_n 0, 1) := by decide +kernel
theorem dX11_readLink_8 : decode cX11_readLink 8 = .ok (.iload_n 1, 1) := by decide +kernel
theorem dX11_readLink_9 : decode cX11_readLink 9 = .ok (.bipush 32, 2) := by decide +kernel
theorem dX11_readLink_11 : decode cX11_readLink 11 = .ok (.if_icmp .ge 7, 3) := by decide +kernel
theorem dX11_readLink_14 : decode cX11_readLink 14 = .ok (.iconst 1, 1) := by decide +kernel
theorem dX11_readLink_15 : decode cX11_readLink 15 = .ok (.goto 4, 3) := by decide +kernel
theorem dX11_readLink_18 : decode cX11_readLink 18 = .ok (.iconst 0, 1) := by decide +kernel
theorem dX11_readLink_19 : decode cX11_readLink 19 = .ok (.invokevirtual 114, 3) := by decide +kernel
theorem dX11_readLink_22 : decode cX11_readLink 22 = .ok (.aload_n 0, 1) := by decide +kernel
theorem dX11_readLink_23 : decode cX11_readLink 23 = .ok (.iconst 0, 1) := by decide +kernel
theorem dX11_readLink_24 : decode cX11_readLink 24 = .ok (.aload_n 0, 1) := by decide +kernel
theorem dX11_readLink_25 : decode cX11_readLink 25 = .ok (.getfield 21, 3) := by decide +kernel
theorem dX11_readLink_28 : decode cX11_readLink 28 = .ok (.iconst 0, 1) := by decide +kernel
theorem dX11_readLink_29 : decode cX11_readLink 29 = .ok (.iaload, 1) := by decide +kernel
theorem dX11_readLink_30 : decode cX11_readLink 30 = .ok (.iconst 1, 1) := by decide +kernel
theorem dX11_readLink_31 : decode cX11_readLink 31 = .ok (.isub, 1) := by decide +kernel
theorem dX11_readLink_32 : decode cX11_readLink 32 = .ok (.invokevirtual 122, 3) := by decide +kernel
theorem dX11_readLink_35 : decode cX11_readLink 35 = .ok (.istore_n 2, 1) := by decide +kernel
theorem dX11_readLink_36 : decode cX11_readLink 36 = .ok (.aload_n 0, 1) := by decide +kernel
theorem dX11_readLink_37 : decode cX11_readLink 37 = .ok (.getfield 85, 3) := by decide +kernel
theorem dX11_readLink_40 : decode cX11_readLink 40 = .ok (.istore_n 3, 1) := by decide +kernel
theorem dX11_readLink_41 : decode cX11_readLink 41 = .ok (.aload_n 0, 1) := by decide +kernel
theorem dX11_readLink_42 : decode cX11_readLink 42 = .ok (.aload_n 0, 1) := by decide +kernel
theorem dX11_readLink_43 : decode cX11_readLink 43 = .ok (.getfield 92, 3) := by decide +kernel
theorem dX11_readLink_46 : decode cX11_readLink 46 = .ok (.iconst 2, 1) := by decide +kernel
theorem dX11_readLink_47 : decode cX11_readLink 47 = .ok (.if_icmp .ne 39, 3) := by decide +kernel
theorem dX11_readLink_50 : decode cX11_readLink 50 = .ok (.iload_n 3, 1) := by decide +kernel
theorem dX11_readLink_51 : decode cX11_readLink 51 = .ok (.i2l, 1) := by decide +kernel
theorem dX11_readLink_52 : decode cX11_readLink 52 = .ok (.lconst 0, 1) := by decide +kernel
theorem dX11_readLink_53 : decode cX11_readLink 53 = .ok (.aload_n 0, 1) := by decide +kernel
theorem dX11_readLink_54 : decode cX11_readLink 54 = .ok (.getfield 21, 3) := by decide +kernel
theorem dX11_readLink_57 : decode cX11_readLink 57 = .ok (.iconst 0, 1) := by decide +kernel
theorem dX11_readLink_58 : decode cX11_readLink 58 = .ok (.iaload, 1) := by decide +kernel
theorem dX11_readLink_59 : decode cX11_readLink 59 = .ok (.iconst 1, 1) := by decide +kernel
theorem dX11_readLink_60 : decode cX11_readLink 60 = .ok (.isub, 1) := by decide +kernel
theorem dX11_readLink_61 : decode cX11_readLink 61 = .ok (.i2l, 1) := by decide +kernel
theorem dX11_readLink_62 : decode cX11_readLink 62 = .ok (.invokestatic 110, 3) := by decide +kernel
theorem dX11_readLink_65 : decode cX11_readLink 65 = .ok (.ifCond .eq 21, 3) := by decide +kernel
theorem dX11_readLink_68 : decode cX11_readLink 68 = .ok (.iload_n 2, 1) := by decide +kernel
theorem dX11_readLink_69 : decode cX11_readLink 69 = .ok (.iload_n 3, 1) := by decide +kernel
theorem dX11_readLink_70 : decode cX11_readLink 70 = .ok (.if_icmp .eq 16, 3) := by decide +kernel
theorem dX11_readLink_73 : decode cX11_readLink 73 = .ok (.aload_n 0, 1) := by decide +kernel
theorem dX11_readLink_74 : decode cX11_readLink 74 = .ok (.iload_n 2, 1) := by decide +kernel
theorem dX11_readLink_75 : decode cX11_readLink 75 = .ok (.iload_n 3, 1) := by decide +kernel
theorem dX11_readLink_76 : decode cX11_readLink 76 = .ok (.invokevirtual 126, 3) := by decide +kernel
theorem dX11_readLink_79 : decode cX11_readLink 79 = .ok (.ifCond .ne 7, 3) := by decide +kernel
theorem dX11_readLink_82 : decode cX11_readLink 82 = .ok (.iconst 1, 1) := by decide +kernel
theorem dX11_readLink_83 : decode cX11_readLink 83 = .ok (.goto 4, 3) := by decide +kernel
theorem dX11_readLink_86 : decode cX11_readLink 86 = .ok (.iconst 0, 1) := by decide +kernel
theorem dX11_readLink_87 : decode cX11_readLink 87 = .ok (.invokevirtual 114, 3) := by decide +kernel
theorem dX11_readLink_90 : decode cX11_readLink 90 = .ok (.aload_n 0, 1) := by decide +kernel
theorem dX11_readLink_91 : decode cX11_readLink 91 = .ok (.ldc2_w 129, 3) := by decide +kernel
theorem dX11_readLink_94 : decode cX11_readLink 94 = .ok (.iconst 0, 1) := by decide +kernel
theorem dX11_readLink_95 : decode cX11_readLink 95 = .ok (.sipush 9999, 3) := by decide +kernel
theorem dX11_readLink_98 : decode cX11_readLink 98 = .ok (.invokevirtual 131, 3) := by decide +kernel
theorem dX11_readLink_101 : decode cX11_readLink 101 = .ok (.istore 4, 2) := by decide +kernel
theorem dX11_readLink_103 : decode cX11_readLink 103 = .ok (.aload_n 0, 1) := by decide +kernel
theorem dX11_readLink_104 : decode cX11_readLink 104 = .ok (.ldc2_w 135, 3) := by decide +kernel
theorem dX11_readLink_107 : decode cX11_readLink 107 = .ok (.iconst 1, 1) := by decide +kernel
theorem dX11_readLink_108 : decode cX11_readLink 108 = .ok (.bipush 99, 2) := by decide +kernel
theorem dX11_readLink_110 : decode cX11_readLink 110 = .ok (.invokevirtual 131, 3) := by decide +kernel
theorem dX11_readLink_113 : decode cX11_readLink 113 = .ok (.istore 5, 2) := by decide +kernel
theorem dX11_readLink_115 : decode cX11_readLink 115 = .ok (.aload_n 0, 1) := by decide +kernel
theorem dX11_readLink_116 : decode cX11_readLink 116 = .ok (.aload_n 0, 1) := by decide +kernel
theorem dX11_readLink_117 : decode cX11_readLink 117 = .ok (.getfield 92, 3) := by decide +kernel
theorem dX11_readLink_120 : decode cX11_readLink 120 = .ok (.iconst 3, 1) := by decide +kernel
theorem dX11_readLink_121 : decode cX11_readLink 121 = .ok (.if_icmp .ne 7, 3) := by decide +kernel
theorem dX11_readLink_124 : decode cX11_readLink 124 = .ok (.iconst 1, 1) := by decide +kernel
theorem dX11_readLink_125 : decode cX11_readLink 125 = .ok (.goto 4, 3) := by decide +kernel
theorem dX11_readLink_128 : decode cX11_readLink 128 = .ok (.iconst 0, 1) := by decide +kernel
theorem dX11_readLink_129 : decode cX11_readLink 129 = .ok (.invokevirtual 114, 3) := by decide +kernel
theorem dX11_readLink_132 : decode cX11_readLink 132 = .ok (.aload_n 0, 1) := by decide +kernel
theorem dX11_readLink_133 : decode cX11_readLink 133 = .ok (.getfield 103, 3) := by decide +kernel
theorem dX11_readLink_136 : decode cX11_readLink 136 = .ok (.ifCond .eq 65, 3) := by decide +kernel
theorem dX11_readLink_139 : decode cX11_readLink 139 = .ok (.aload_n 0, 1) := by decide +kernel
theorem dX11_readLink_140 : decode cX11_readLink 140 = .ok (.getfield 21, 3) := by decide +kernel
theorem dX11_readLink_143 : decode cX11_readLink 143 = .ok (.iconst 4, 1) := by decide +kernel
theorem dX11_readLink_144 : decode cX11_readLink 144 = .ok (.iconst 4, 1) := by decide +kernel
theorem dX11_readLink_145 : decode cX11_readLink 145 = .ok (.iload_n 1, 1) := by decide +kernel
theorem dX11_readLink_146 : decode cX11_readLink 146 = .ok (.imul, 1) := by decide +kernel
theorem dX11_readLink_147 : decode cX11_readLink 147 = .ok (.iadd, 1) := by decide +kernel
theorem dX11_readLink_148 : decode cX11_readLink 148 = .ok (.iload_n 2, 1) := by decide +kernel
theorem dX11_readLink_149 : decode cX11_readLink 149 = .ok (.iastore, 1) := by decide +kernel
theorem dX11_readLink_150 : decode cX11_readLink 150 = .ok (.aload_n 0, 1) := by decide +kernel
theorem dX11_readLink_151 : decode cX11_readLink 151 = .ok (.getfield 21, 3) := by decide +kernel
theorem dX11_readLink_154 : decode cX11_readLink 154 = .ok (.iconst 4, 1) := by decide +kernel
theorem dX11_readLink_155 : decode cX11_readLink 155 = .ok (.iconst 4, 1) := by decide +kernel
theorem dX11_readLink_156 : decode cX11_readLink 156 = .ok (.iload_n 1, 1) := by decide +kernel
theorem dX11_readLink_157 : decode cX11_readLink 157 = .ok (.imul, 1) := by decide +kernel
theorem dX11_readLink_158 : decode cX11_readLink 158 = .ok (.iadd, 1) := by decide +kernel
theorem dX11_readLink_159 : decode cX11_readLink 159 = .ok (.iconst 1, 1) := by decide +kernel
theorem dX11_readLink_160 : decode cX11_readLink 160 = .ok (.iadd, 1) := by decide +kernel
theorem dX11_readLink_161 : decode cX11_readLink 161 = .ok (.iload_n 3, 1) := by decide +kernel
theorem dX11_readLink_162 : decode cX11_readLink 162 = .ok (.iastore, 1) := by decide +kernel
theorem dX11_readLink_163 : decode cX11_readLink 163 = .ok (.aload_n 0, 1) := by decide +kernel
theorem dX11_readLink_164 : decode cX11_readLink 164 = .ok (.getfield 21, 3) := by decide +kernel
theorem dX11_readLink_167 : decode cX11_readLink 167 = .ok (.iconst 4, 1) := by decide +kernel
theorem dX11_readLink_168 : decode cX11_readLink 168 = .ok (.iconst 4, 1) := by decide +kernel
theorem dX11_readLink_169 : decode cX11_readLink 169 = .ok (.iload_n 1, 1) := by decide +kernel
theorem dX11_readLink_170 : decode cX11_readLink 170 = .ok (.imul, 1) := by decide +kernel
theorem dX11_readLink_171 : decode cX11_readLink 171 = .ok (.iadd, 1) := by decide +kernel
theorem dX11_readLink_172 : decode cX11_readLink 172 = .ok (.iconst 2, 1) := by decide +kernel
theorem dX11_readLink_173 : decode cX11_readLink 173 = .ok (.iadd, 1) := by decide +kernel
theorem dX11_readLink_174 : decode cX11_readLink 174 = .ok (.iload 4, 2) := by decide +kernel
theorem dX11_readLink_176 : decode cX11_readLink 176 = .ok (.iastore, 1) := by decide +kernel
theorem dX11_readLink_177 : decode cX11_readLink 177 = .ok (.aload_n 0, 1) := by decide +kernel
theorem dX11_readLink_178 : decode cX11_readLink 178 = .ok (.getfield 21, 3) := by decide +kernel
theorem dX11_readLink_181 : decode cX11_readLink 181 = .ok (.iconst 4, 1) := by decide +kernel
theorem dX11_readLink_182 : decode cX11_readLink 182 = .ok (.iconst 4, 1) := by decide +kernel
theorem dX11_readLink_183 : decode cX11_readLink 183 = .ok (.iload_n 1, 1) := by decide +kernel
theorem dX11_readLink_184 : decode cX11_readLink 184 = .ok (.imul, 1) := by decide +kernel
theorem dX11_readLink_185 : decode cX11_readLink 185 = .ok (.iadd, 1) := by decide +kernel
theorem dX11_readLink_186 : decode cX11_readLink 186 = .ok (.iconst 3, 1) := by decide +kernel
theorem dX11_readLink_187 : decode cX11_readLink 187 = .ok (.iadd, 1) := by decide +kernel
theorem dX11_readLink_188 : decode cX11_readLink 188 = .ok (.iload 5, 2) := by decide +kernel
theorem dX11_readLink_190 : decode cX11_readLink 190 = .ok (.iastore, 1) := by decide +kernel
theorem dX11_readLink_191 : decode cX11_readLink 191 = .ok (.aload_n 0, 1) := by decide +kernel
theorem dX11_readLink_192 : decode cX11_readLink 192 = .ok (.getfield 21, 3) := by decide +kernel
theorem dX11_readLink_195 : decode cX11_readLink 195 = .ok (.iconst 1, 1) := by decide +kernel
theorem dX11_readLink_196 : decode cX11_readLink 196 = .ok (.dup2, 1) := by decide +kernel
theorem dX11_readLink_197 : decode cX11_readLink 197 = .ok (.iaload, 1) := by decide +kernel
theorem dX11_readLink_198 : decode cX11_readLink 198 = .ok (.iconst 1, 1) := by decide +kernel
theorem dX11_readLink_199 : decode cX11_readLink 199 = .ok (.iadd, 1) := by decide +kernel
theorem dX11_readLink_200 : decode cX11_readLink 200 = .ok (.iastore, 1) := by decide +kernel
theorem dX11_readLink_201 : decode cX11_readLink 201 = .ok (.return_, 1) := by decide +kernel
theorem dX11_readCpu_0 : decode cX11_readCpu 0 = .ok (.aload_n 0, 1) := by decide +kernel
theorem dX11_readCpu_1 : decode cX11_readCpu 1 = .ok (.iconst 1, 1) := by decide +kernel
theorem dX11_readCpu_2 : decode cX11_readCpu 2 = .ok (.invokevirtual 114, 3) := by decide +kernel
theorem dX11_readCpu_5 : decode cX11_readCpu 5 = .ok (.aload_n 0, 1) := by decide +kernel
theorem dX11_readCpu_6 : decode cX11_readCpu 6 = .ok (.getfield 85, 3) := by decide +kernel
theorem dX11_readCpu_9 : decode cX11_readCpu 9 = .ok (.istore_n 1, 1) := by decide +kernel
theorem dX11_readCpu_10 : decode cX11_readCpu 10 = .ok (.aload_n 0, 1) := by decide +kernel
theorem dX11_readCpu_11 : decode cX11_readCpu 11 = .ok (.aload_n 0, 1) := by decide +kernel
theorem dX11_readCpu_12 : decode cX11_readCpu 12 = .ok (.getfield 92, 3) := by decide +kernel
theorem dX11_readCpu_15 : decode cX11_readCpu 15 = .ok (.iconst 2, 1) := by decide +kernel
theorem dX11_readCpu_16 : decode cX11_readCpu 16 = .ok (.if_icmp .ne 36, 3) := by decide +kernel
theorem dX11_readCpu_19 : decode cX11_readCpu 19 = .ok (.iload_n 1, 1) := by decide +kernel
theorem dX11_readCpu_20 : decode cX11_readCpu 20 = .ok (.i2l, 1) := by decide +kernel
theorem dX11_readCpu_21 : decode cX11_readCpu 21 = .ok (.lconst 0, 1) := by decide +kernel
theorem dX11_readCpu_22 : decode cX11_readCpu 22 = .ok (.aload_n 0, 1) := by decide +kernel
theorem dX11_readCpu_23 : decode cX11_readCpu 23 = .ok (.getfield 21, 3) := by decide +kernel
theorem dX11_readCpu_26 : decode cX11_readCpu 26 = .ok (.iconst 0, 1) := by decide +kernel
theorem dX11_readCpu_27 : decode cX11_readCpu 27 = .ok (.iaload, 1) := by decide +kernel
theorem dX11_readCpu_28 : decode cX11_readCpu 28 = .ok (.iconst 1, 1) := by decide +kernel
theorem dX11_readCpu_29 : decode cX11_readCpu 29 = .ok (.isub, 1) := by decide +kernel
theorem dX11_readCpu_30 : decode cX11_readCpu 30 = .ok (.i2l, 1) := by decide +kernel
theorem dX11_readCpu_31 : decode cX11_readCpu 31 = .ok (.invokestatic 110, 3) := by decide +kernel
theorem dX11_readCpu_34 : decode cX11_readCpu 34 = .ok (.ifCond .eq 18, 3) := by decide +kernel
theorem dX11_readCpu_37 : decode cX11_readCpu 37 = .ok (.aload_n 0, 1) := by decide +kernel
theorem dX11_readCpu_38 : decode cX11_readCpu 38 = .ok (.getfield 73, 3) := by decide +kernel
theorem dX11_readCpu_41 : decode cX11_readCpu 41 = .ok (.iload_n 1, 1) := by decide +kernel
theorem dX11_readCpu_42 : decode cX11_readCpu 42 = .ok (.ishr, 1) := by decide +kernel
theorem dX11_readCpu_43 : decode cX11_readCpu 43 = .ok (.iconst 1, 1) := by decide +kernel
theorem dX11_readCpu_44 : decode cX11_readCpu 44 = .ok (.iand, 1) := by decide +kernel
theorem dX11_readCpu_45 : decode cX11_readCpu 45 = .ok (.ifCond .ne 7, 3) := by decide +kernel
theorem dX11_readCpu_48 : decode cX11_readCpu 48 = .ok (.iconst 1, 1) := by decide +kernel
theorem dX11_readCpu_49 : decode cX11_readCpu 49 = .ok (.goto 4, 3) := by decide +kernel
theorem dX11_readCpu_52 : decode cX11_readCpu 52 = .ok (.iconst 0, 1) := by decide +kernel
theorem dX11_readCpu_53 : decode cX11_readCpu 53 = .ok (.invokevirtual 114, 3) := by decide +kernel
theorem dX11_readCpu_56 : decode cX11_readCpu 56 = .ok (.aload_n 0, 1) := by decide +kernel
theorem dX11_readCpu_57 : decode cX11_readCpu 57 = .ok (.iconst 0, 1) := by decide +kernel
theorem dX11_readCpu_58 : decode cX11_readCpu 58 = .ok (.sipush 999, 3) := by decide +kernel
theorem dX11_readCpu_61 : decode cX11_readCpu 61 = .ok (.invokevirtual 122, 3) := by decide +kernel
theorem dX11_readCpu_64 : decode cX11_readCpu 64 = .ok (.istore_n 2, 1) := by decide +kernel
theorem dX11_readCpu_65 : decode cX11_readCpu 65 = .ok (.aload_n 0, 1) := by decide +kernel
theorem dX11_readCpu_66 : decode cX11_readCpu 66 = .ok (.aload_n 0, 1) := by decide +kernel
theorem dX11_readCpu_67 : decode cX11_readCpu 67 = .ok (.getfield 92, 3) := by decide +kernel
theorem dX11_readCpu_70 : decode cX11_readCpu 70 = .ok (.iconst 3, 1) := by decide +kernel
theorem dX11_readCpu_71 : decode cX11_readCpu 71 = .ok (.if_icmp .ne 7, 3) := by decide +kernel
theorem dX11_readCpu_74 : decode cX11_readCpu 74 = .ok (.iconst 1, 1) := by decide +kernel
theorem dX11_readCpu_75 : decode cX11_readCpu 75 = .ok (.goto 4, 3) := by decide +kernel
theorem dX11_readCpu_78 : decode cX11_readCpu 78 = .ok (.iconst 0, 1) := by decide +kernel
theorem dX11_readCpu_79 : decode cX11_readCpu 79 = .ok (.invokevirtual 114, 3) := by decide +kernel
theorem dX11_readCpu_82 : decode cX11_readCpu 82 = .ok (.aload_n 0, 1) := by decide +kernel
theorem dX11_readCpu_83 : decode cX11_readCpu 83 = .ok (.getfield 103, 3) := by decide +kernel
theorem dX11_readCpu_86 : decode cX11_readCpu 86 = .ok (.ifCond .eq 26, 3) := by decide +kernel
theorem dX11_readCpu_89 : decode cX11_readCpu 89 = .ok (.aload_n 0, 1) := by decide +kernel
theorem dX11_readCpu_90 : decode cX11_readCpu 90 = .ok (.getfield 21, 3) := by decide +kernel
theorem dX11_readCpu_93 : decode cX11_readCpu 93 = .ok (.sipush 132, 3) := by decide +kernel
theorem dX11_readCpu_96 : decode cX11_readCpu 96 = .ok (.iload_n 1, 1) := by decide +kernel
theorem dX11_readCpu_97 : decode cX11_readCpu 97 = .ok (.iadd, 1) := by decide +kernel
theorem dX11_readCpu_98 : decode cX11_readCpu 98 = .ok (.iload_n 2, 1) := by decide +kernel
theorem dX11_readCpu_99 : decode cX11_readCpu 99 = .ok (.iastore, 1) := by decide +kernel
theorem dX11_readCpu_100 : decode cX11_readCpu 100 = .ok (.aload_n 0, 1) := by decide +kernel
theorem dX11_readCpu_101 : decode cX11_readCpu 101 = .ok (.dup, 1) := by decide +kernel
theorem dX11_readCpu_102 : decode cX11_readCpu 102 = .ok (.getfield 73, 3) := by decide +kernel
theorem dX11_readCpu_105 : decode cX11_readCpu 105 = .ok (.iconst 1, 1) := by decide +kernel
theorem dX11_readCpu_106 : decode cX11_readCpu 106 = .ok (.iload_n 1, 1) := by decide +kernel
theorem dX11_readCpu_107 : decode cX11_readCpu 107 = .ok (.ishl, 1) := by decide +kernel
theorem dX11_readCpu_108 : decode cX11_readCpu 108 = .ok (.ior, 1) := by decide +kernel
theorem dX11_readCpu_109 : decode cX11_readCpu 109 = .ok (.putfield 73, 3) := by decide +kernel
theorem dX11_readCpu_112 : decode cX11_readCpu 112 = .ok (.return_, 1) := by decide +kernel
theorem dX11_readNative_0 : decode cX11_readNative 0 = .ok (.aload_n 0, 1) := by decide +kernel
theorem dX11_readNative_1 : decode cX11_readNative 1 = .ok (.aload_n 0, 1) := by decide +kernel
theorem dX11_readNative_2 : decode cX11_readNative 2 = .ok (.ldc2_w 137, 3) := by decide +kernel
theorem dX11_readNative_5 : decode cX11_readNative 5 = .ok (.invokevirtual 118, 3) := by decide +kernel
theorem dX11_readNative_8 : decode cX11_readNative 8 = .ok (.invokevirtual 114, 3) := by decide +kernel
theorem dX11_readNative_11 : decode cX11_readNative 11 = .ok (.aload_n 0, 1) := by decide +kernel
theorem dX11_readNative_12 : decode cX11_readNative 12 = .ok (.getfield 21, 3) := by decide +kernel
theorem dX11_readNative_15 : decode cX11_readNative 15 = .ok (.iconst 2, 1) := by decide +kernel
theorem dX11_readNative_16 : decode cX11_readNative 16 = .ok (.iconst 1, 1) := by decide +kernel
theorem dX11_readNative_17 : decode cX11_readNative 17 = .ok (.iastore, 1) := by decide +kernel
theorem dX11_readNative_18 : decode cX11_readNative 18 = .ok (.iconst 1, 1) := by decide +kernel
theorem dX11_readNative_19 : decode cX11_readNative 19 = .ok (.istore_n 1, 1) := by decide +kernel
theorem dX11_readNative_20 : decode cX11_readNative 20 = .ok (.aload_n 0, 1) := by decide +kernel
theorem dX11_readNative_21 : decode cX11_readNative 21 = .ok (.getfield 103, 3) := by decide +kernel
theorem dX11_readNative_24 : decode cX11_readNative 24 = .ok (.ifCond .eq 98, 3) := by decide +kernel
theorem dX11_readNative_27 : decode cX11_readNative 27 = .ok (.iload_n 1, 1) := by decide +kernel
theorem dX11_readNative_28 : decode cX11_readNative 28 = .ok (.ifCond .eq 94, 3) := by decide +kernel
theorem dX11_readNative_31 : decode cX11_readNative 31 = .ok (.aload_n 0, 1) := by decide +kernel
theorem dX11_readNative_32 : decode cX11_readNative 32 = .ok (.getfield 21, 3) := by decide +kernel
theorem dX11_readNative_35 : decode cX11_readNative 35 = .ok (.iconst 3, 1) := by decide +kernel
theorem dX11_readNative_36 : decode cX11_readNative 36 = .ok (.iaload, 1) := by decide +kernel
theorem dX11_readNative_37 : decode cX11_readNative 37 = .ok (.istore_n 2, 1) := by decide +kernel
theorem dX11_readNative_38 : decode cX11_readNative 38 = .ok (.aload_n 0, 1) := by decide +kernel
theorem dX11_readNative_39 : decode cX11_readNative 39 = .ok (.getfield 85, 3) := by decide +kernel
theorem dX11_readNative_42 : decode cX11_readNative 42 = .ok (.istore_n 3, 1) := by decide +kernel
theorem dX11_readNative_43 : decode cX11_readNative 43 = .ok (.aload_n 0, 1) := by decide +kernel
theorem dX11_readNative_44 : decode cX11_readNative 44 = .ok (.aload_n 0, 1) := by decide +kernel
theorem dX11_readNative_45 : decode cX11_readNative 45 = .ok (.getfield 92, 3) := by decide +kernel
theorem dX11_readNative_48 : decode cX11_readNative 48 = .ok (.iconst 2, 1) := by decide +kernel
theorem dX11_readNative_49 : decode cX11_readNative 49 = .ok (.if_icmp .ne 24, 3) := by decide +kernel
theorem dX11_readNative_52 : decode cX11_readNative 52 = .ok (.iload_n 3, 1) := by decide +kernel
theorem dX11_readNative_53 : decode cX11_readNative 53 = .ok (.i2l, 1) := by decide +kernel
theorem dX11_readNative_54 : decode cX11_readNative 54 = .ok (.lconst 1, 1) := by decide +kernel
theorem dX11_readNative_55 : decode cX11_readNative 55 = .ok (.ldc2_w 139, 3) := by decide +kernel
theorem dX11_readNative_58 : decode cX11_readNative 58 = .ok (.invokestatic 110, 3) := by decide +kernel
theorem dX11_readNative_61 : decode cX11_readNative 61 = .ok (.ifCond .eq 12, 3) := by decide +kernel
theorem dX11_readNative_64 : decode cX11_readNative 64 = .ok (.iload_n 2, 1) := by decide +kernel
theorem dX11_readNative_65 : decode cX11_readNative 65 = .ok (.iconst 5, 1) := by decide +kernel
theorem dX11_readNative_66 : decode cX11_readNative 66 = .ok (.if_icmp .ge 7, 3) := by decide +kernel
theorem dX11_readNative_69 : decode cX11_readNative 69 = .ok (.iconst 1, 1) := by decide +kernel
theorem dX11_readNative_70 : decode cX11_readNative 70 = .ok (.goto 4, 3) := by decide +kernel
theorem dX11_readNative_73 : decode cX11_readNative 73 = .ok (.iconst 0, 1) := by decide +kernel
theorem dX11_readNative_74 : decode cX11_readNative 74 = .ok (.invokevirtual 114, 3) := by decide +kernel
theorem dX11_readNative_77 : decode cX11_readNative 77 = .ok (.aload_n 0, 1) := by decide +kernel
theorem dX11_readNative_78 : decode cX11_readNative 78 = .ok (.getfield 103, 3) := by decide +kernel
theorem dX11_readNative_81 : decode cX11_readNative 81 = .ok (.ifCond .eq 24, 3) := by decide +kernel
theorem dX11_readNative_84 : decode cX11_readNative 84 = .ok (.aload_n 0, 1) := by decide +kernel
theorem dX11_readNative_85 : decode cX11_readNative 85 = .ok (.getfield 21, 3) := by decide +kernel
theorem dX11_readNative_88 : decode cX11_readNative 88 = .ok (.sipush 148, 3) := by decide +kernel
theorem dX11_readNative_91 : decode cX11_readNative 91 = .ok (.iload_n 2, 1) := by decide +kernel
theorem dX11_readNative_92 : decode cX11_readNative 92 = .ok (.iadd, 1) := by decide +kernel
theorem dX11_readNative_93 : decode cX11_readNative 93 = .ok (.iload_n 3, 1) := by decide +kernel
theorem dX11_readNative_94 : decode cX11_readNative 94 = .ok (.iastore, 1) := by decide +kernel
theorem dX11_readNative_95 : decode cX11_readNative 95 = .ok (.aload_n 0, 1) := by decide +kernel
theorem dX11_readNative_96 : decode cX11_readNative 96 = .ok (.getfield 21, 3) := by decide +kernel
theorem dX11_readNative_99 : decode cX11_readNative 99 = .ok (.iconst 3, 1) := by decide +kernel
theorem dX11_readNative_100 : decode cX11_readNative 100 = .ok (.dup2, 1) := by decide +kernel
theorem dX11_readNative_101 : decode cX11_readNative 101 = .ok (.iaload, 1) := by decide +kernel
theorem dX11_readNative_102 : decode cX11_readNative 102 = .ok (.iconst 1, 1) := by decide +kernel
theorem dX11_readNative_103 : decode cX11_readNative 103 = .ok (.iadd, 1) := by decide +kernel
theorem dX11_readNative_104 : decode cX11_readNative 104 = .ok (.iastore, 1) := by decide +kernel
theorem dX11_readNative_105 : decode cX11_readNative 105 = .ok (.aload_n 0, 1) := by decide +kernel
theorem dX11_readNative_106 : decode cX11_readNative 106 = .ok (.getfield 92, 3) := by decide +kernel
theorem dX11_readNative_109 : decode cX11_readNative 109 = .ok (.iconst 3, 1) := by decide +kernel
theorem dX11_readNative_110 : decode cX11_readNative 110 = .ok (.if_icmp .eq 7, 3) := by decide +kernel
theorem dX11_readNative_113 : decode cX11_readNative 113 = .ok (.iconst 1, 1) := by decide +kernel
theorem dX11_readNative_114 : decode cX11_readNative 114 = .ok (.goto 4, 3) := by decide +kernel
theorem dX11_readNative_117 : decode cX11_readNative 117 = .ok (.iconst 0, 1) := by decide +kernel
theorem dX11_readNative_118 : decode cX11_readNative 118 = .ok (.istore_n 1, 1) := by decide +kernel
theorem dX11_readNative_119 : decode cX11_readNative 119 = .ok (.goto (-99), 3) := by decide +kernel
theorem dX11_readNative_122 : decode cX11_readNative 122 = .ok (.aload_n 0, 1) := by decide +kernel
theorem dX11_readNative_123 : decode cX11_readNative 123 = .ok (.aload_n 0, 1) := by decide +kernel
theorem dX11_readNative_124 : decode cX11_readNative 124 = .ok (.getfield 92, 3) := by decide +kernel
theorem dX11_readNative_127 : decode cX11_readNative 127 = .ok (.iconst 3, 1) := by decide +kernel
theorem dX11_readNative_128 : decode cX11_readNative 128 = .ok (.if_icmp .ne 7, 3) := by decide +kernel
theorem dX11_readNative_131 : decode cX11_readNative 131 = .ok (.iconst 1, 1) := by decide +kernel
theorem dX11_readNative_132 : decode cX11_readNative 132 = .ok (.goto 4, 3) := by decide +kernel
theorem dX11_readNative_135 : decode cX11_readNative 135 = .ok (.iconst 0, 1) := by decide +kernel
theorem dX11_readNative_136 : decode cX11_readNative 136 = .ok (.invokevirtual 114, 3) := by decide +kernel
theorem dX11_readNative_139 : decode cX11_readNative 139 = .ok (.return_, 1) := by decide +kernel
theorem dX11_readFormat_0 : decode cX11_readFormat 0 = .ok (.aload_n 0, 1) := by decide +kernel
theorem dX11_readFormat_1 : decode cX11_readFormat 1 = .ok (.getfield 21, 3) := by decide +kernel
theorem dX11_readFormat_4 : decode cX11_readFormat 4 = .ok (.iconst 2, 1) := by decide +kernel
theorem dX11_readFormat_5 : decode cX11_readFormat 5 = .ok (.iaload, 1) := by decide +kernel
theorem dX11_readFormat_6 : decode cX11_readFormat 6 = .ok (.istore_n 1, 1) := by decide +kernel
theorem dX11_readFormat_7 : decode cX11_readFormat 7 = .ok (.aload_n 0, 1) := by decide +kernel
theorem dX11_readFormat_8 : decode cX11_readFormat 8 = .ok (.iload_n 1, 1) := by decide +kernel
theorem dX11_readFormat_9 : decode cX11_readFormat 9 = .ok (.iconst 4, 1) := by decide +kernel
theorem dX11_readFormat_10 : decode cX11_readFormat 10 = .ok (.if_icmp .ge 7, 3) := by decide +kernel
theorem dX11_readFormat_13 : decode cX11_readFormat 13 = .ok (.iconst 1, 1) := by decide +kernel
theorem dX11_readFormat_14 : decode cX11_readFormat 14 = .ok (.goto 4, 3) := by decide +kernel
theorem dX11_readFormat_17 : decode cX11_readFormat 17 = .ok (.iconst 0, 1) := by decide +kernel
theorem dX11_readFormat_18 : decode cX11_readFormat 18 = .ok (.invokevirtual 114, 3) := by decide +kernel
theorem dX11_readFormat_21 : decode cX11_readFormat 21 = .ok (.aload_n 0, 1) := by decide +kernel
theorem dX11_readFormat_22 : decode cX11_readFormat 22 = .ok (.iconst 1, 1) := by decide +kernel
theorem dX11_readFormat_23 : decode cX11_readFormat 23 = .ok (.bipush 99, 2) := by decide +kernel
theorem dX11_readFormat_25 : decode cX11_readFormat 25 = .ok (.invokevirtual 122, 3) := by decide +kernel
theorem dX11_readFormat_28 : decode cX11_readFormat 28 = .ok (.istore_n 2, 1) := by decide +kernel
theorem dX11_readFormat_29 : decode cX11_readFormat 29 = .ok (.aload_n 0, 1) := by decide +kernel
theorem dX11_readFormat_30 : decode cX11_readFormat 30 = .ok (.aload_n 0, 1) := by decide +kernel
theorem dX11_readFormat_31 : decode cX11_readFormat 31 = .ok (.ldc2_w 141, 3) := by decide +kernel
theorem dX11_readFormat_34 : decode cX11_readFormat 34 = .ok (.invokevirtual 118, 3) := by decide +kernel
theorem dX11_readFormat_37 : decode cX11_readFormat 37 = .ok (.invokevirtual 114, 3) := by decide +kernel
theorem dX11_readFormat_40 : decode cX11_readFormat 40 = .ok (.iconst 0, 1) := by decide +kernel
theorem dX11_readFormat_41 : decode cX11_readFormat 41 = .ok (.istore_n 3, 1) := by decide +kernel
theorem dX11_readFormat_42 : decode cX11_readFormat 42 = .ok (.iload_n 3, 1) := by decide +kernel
theorem dX11_readFormat_43 : decode cX11_readFormat 43 = .ok (.aload_n 0, 1) := by decide +kernel
theorem dX11_readFormat_44 : decode cX11_readFormat 44 = .ok (.getfield 21, 3) := by decide +kernel
theorem dX11_readFormat_47 : decode cX11_readFormat 47 = .ok (.iconst 3, 1) := by decide +kernel
theorem dX11_readFormat_48 : decode cX11_readFormat 48 = .ok (.iaload, 1) := by decide +kernel
theorem dX11_readFormat_49 : decode cX11_readFormat 49 = .ok (.if_icmp .ge 49, 3) := by decide +kernel
theorem dX11_readFormat_52 : decode cX11_readFormat 52 = .ok (.aload_n 0, 1) := by decide +kernel
theorem dX11_readFormat_53 : decode cX11_readFormat 53 = .ok (.getfield 103, 3) := by decide +kernel
theorem dX11_readFormat_56 : decode cX11_readFormat 56 = .ok (.ifCond .eq 42, 3) := by decide +kernel
theorem dX11_readFormat_59 : decode cX11_readFormat 59 = .ok (.aload_n 0, 1) := by decide +kernel
theorem dX11_readFormat_60 : decode cX11_readFormat 60 = .ok (.iconst 1, 1) := by decide +kernel
theorem dX11_readFormat_61 : decode cX11_readFormat 61 = .ok (.sipush 999, 3) := by decide +kernel
theorem dX11_readFormat_64 : decode cX11_readFormat 64 = .ok (.invokevirtual 122, 3) := by decide +kernel
theorem dX11_readFormat_67 : decode cX11_readFormat 67 = .ok (.istore 4, 2) := by decide +kernel
theorem dX11_readFormat_69 : decode cX11_readFormat 69 = .ok (.aload_n 0, 1) := by decide +kernel
theorem dX11_readFormat_70 : decode cX11_readFormat 70 = .ok (.getfield 103, 3) := by decide +kernel
theorem dX11_readFormat_73 : decode cX11_readFormat 73 = .ok (.ifCond .eq 19, 3) := by decide +kernel
theorem dX11_readFormat_76 : decode cX11_readFormat 76 = .ok (.aload_n 0, 1) := by decide +kernel
theorem dX11_readFormat_77 : decode cX11_readFormat 77 = .ok (.getfield 21, 3) := by decide +kernel
theorem dX11_readFormat_80 : decode cX11_readFormat 80 = .ok (.sipush 148, 3) := by decide +kernel
theorem dX11_readFormat_83 : decode cX11_readFormat 83 = .ok (.iconst 5, 1) := by decide +kernel
theorem dX11_readFormat_84 : decode cX11_readFormat 84 = .ok (.iload_n 1, 1) := by decide +kernel
theorem dX11_readFormat_85 : decode cX11_readFormat 85 = .ok (.imul, 1) := by decide +kernel
theorem dX11_readFormat_86 : decode cX11_readFormat 86 = .ok (.iadd, 1) := by decide +kernel
theorem dX11_readFormat_87 : decode cX11_readFormat 87 = .ok (.iload_n 3, 1) := by decide +kernel
theorem dX11_readFormat_88 : decode cX11_readFormat 88 = .ok (.iadd, 1) := by decide +kernel
theorem dX11_readFormat_89 : decode cX11_readFormat 89 = .ok (.iload 4, 2) := by decide +kernel
theorem dX11_readFormat_91 : decode cX11_readFormat 91 = .ok (.iastore, 1) := by decide +kernel
theorem dX11_readFormat_92 : decode cX11_readFormat 92 = .ok (.iinc 3 1, 3) := by decide +kernel
theorem dX11_readFormat_95 : decode cX11_readFormat 95 = .ok (.goto (-53), 3) := by decide +kernel
theorem dX11_readFormat_98 : decode cX11_readFormat 98 = .ok (.aload_n 0, 1) := by decide +kernel
theorem dX11_readFormat_99 : decode cX11_readFormat 99 = .ok (.aload_n 0, 1) := by decide +kernel
theorem dX11_readFormat_100 : decode cX11_readFormat 100 = .ok (.getfield 92, 3) := by decide +kernel
theorem dX11_readFormat_103 : decode cX11_readFormat 103 = .ok (.iconst 3, 1) := by decide +kernel
theorem dX11_readFormat_104 : decode cX11_readFormat 104 = .ok (.if_icmp .ne 7, 3) := by decide +kernel
theorem dX11_readFormat_107 : decode cX11_readFormat 107 = .ok (.iconst 1, 1) := by decide +kernel
theorem dX11_readFormat_108 : decode cX11_readFormat 108 = .ok (.goto 4, 3) := by decide +kernel
theorem dX11_readFormat_111 : decode cX11_readFormat 111 = .ok (.iconst 0, 1) := by decide +kernel
theorem dX11_readFormat_112 : decode cX11_readFormat 112 = .ok (.invokevirtual 114, 3) := by decide +kernel
theorem dX11_readFormat_115 : decode cX11_readFormat 115 = .ok (.aload_n 0, 1) := by decide +kernel
theorem dX11_readFormat_116 : decode cX11_readFormat 116 = .ok (.getfield 103, 3) := by decide +kernel
theorem dX11_readFormat_119 : decode cX11_readFormat 119 = .ok (.ifCond .eq 24, 3) := by decide +kernel
theorem dX11_readFormat_122 : decode cX11_readFormat 122 = .ok (.aload_n 0, 1) := by decide +kernel
theorem dX11_readFormat_123 : decode cX11_readFormat 123 = .ok (.getfield 21, 3) := by decide +kernel
theorem dX11_readFormat_126 : decode cX11_readFormat 126 = .ok (.sipush 168, 3) := by decide +kernel
theorem dX11_readFormat_129 : decode cX11_readFormat 129 = .ok (.iload_n 1, 1) := by decide +kernel
theorem dX11_readFormat_130 : decode cX11_readFormat 130 = .ok (.iadd, 1) := by decide +kernel
theorem dX11_readFormat_131 : decode cX11_readFormat 131 = .ok (.iload_n 2, 1) := by decide +kernel
theorem dX11_readFormat_132 : decode cX11_readFormat 132 = .ok (.iastore, 1) := by decide +kernel
theorem dX11_readFormat_133 : decode cX11_readFormat 133 = .ok (.aload_n 0, 1) := by decide +kernel
theorem dX11_readFormat_134 : decode cX11_readFormat 134 = .ok (.getfield 21, 3) := by decide +kernel
theorem dX11_readFormat_137 : decode cX11_readFormat 137 = .ok (.iconst 2, 1) := by decide +kernel
theorem dX11_readFormat_138 : decode cX11_readFormat 138 = .ok (.dup2, 1) := by decide +kernel
theorem dX11_readFormat_139 : decode cX11_readFormat 139 = .ok (.iaload, 1) := by decide +kernel
theorem dX11_readFormat_140 : decode cX11_readFormat 140 = .ok (.iconst 1, 1) := by decide +kernel
theorem dX11_readFormat_141 : decode cX11_readFormat 141 = .ok (.iadd, 1) := by decide +kernel
theorem dX11_readFormat_142 : decode cX11_readFormat 142 = .ok (.iastore, 1) := by decide +kernel
theorem dX11_readFormat_143 : decode cX11_readFormat 143 = .ok (.return_, 1) := by decide +kernel
theorem dX11_reads_0 : decode cX11_reads 0 = .ok (.aload_n 0, 1) := by decide +kernel
theorem dX11_reads_1 : decode cX11_reads 1 = .ok (.invokevirtual 67, 3) := by decide +kernel
theorem dX11_reads_4 : decode cX11_reads 4 = .ok (.aload_n 0, 1) := by decide +kernel
theorem dX11_reads_5 : decode cX11_reads 5 = .ok (.iconst 1, 1) := by decide +kernel
theorem dX11_reads_6 : decode cX11_reads 6 = .ok (.putfield 103, 3) := by decide +kernel
theorem dX11_reads_9 : decode cX11_reads 9 = .ok (.aload_n 0, 1) := by decide +kernel
theorem dX11_reads_10 : decode cX11_reads 10 = .ok (.iconst 0, 1) := by decide +kernel
theorem dX11_reads_11 : decode cX11_reads 11 = .ok (.putfield 76, 3) := by decide +kernel
theorem dX11_reads_14 : decode cX11_reads 14 = .ok (.aload_n 0, 1) := by decide +kernel
theorem dX11_reads_15 : decode cX11_reads 15 = .ok (.invokevirtual 107, 3) := by decide +kernel
theorem dX11_reads_18 : decode cX11_reads 18 = .ok (.aload_n 0, 1) := by decide +kernel
theorem dX11_reads_19 : decode cX11_reads 19 = .ok (.getfield 21, 3) := by decide +kernel
theorem dX11_reads_22 : decode cX11_reads 22 = .ok (.iconst 0, 1) := by decide +kernel
theorem dX11_reads_23 : decode cX11_reads 23 = .ok (.aload_n 0, 1) := by decide +kernel
theorem dX11_reads_24 : decode cX11_reads 24 = .ok (.ldc2_w 143, 3) := by decide +kernel
theorem dX11_reads_27 : decode cX11_reads 27 = .ok (.iconst 2, 1) := by decide +kernel
theorem dX11_reads_28 : decode cX11_reads 28 = .ok (.bipush 16, 2) := by decide +kernel
theorem dX11_reads_30 : decode cX11_reads 30 = .ok (.invokevirtual 131, 3) := by decide +kernel
theorem dX11_reads_33 : decode cX11_reads 33 = .ok (.iastore, 1) := by decide +kernel
theorem dX11_reads_34 : decode cX11_reads 34 = .ok (.aload_n 0, 1) := by decide +kernel
theorem dX11_reads_35 : decode cX11_reads 35 = .ok (.aload_n 0, 1) := by decide +kernel
theorem dX11_reads_36 : decode cX11_reads 36 = .ok (.getfield 92, 3) := by decide +kernel
theorem dX11_reads_39 : decode cX11_reads 39 = .ok (.iconst 3, 1) := by decide +kernel
theorem dX11_reads_40 : decode cX11_reads 40 = .ok (.if_icmp .ne 7, 3) := by decide +kernel
theorem dX11_reads_43 : decode cX11_reads 43 = .ok (.iconst 1, 1) := by decide +kernel
theorem dX11_reads_44 : decode cX11_reads 44 = .ok (.goto 4, 3) := by decide +kernel
theorem dX11_reads_47 : decode cX11_reads 47 = .ok (.iconst 0, 1) := by decide +kernel
theorem dX11_reads_48 : decode cX11_reads 48 = .ok (.invokevirtual 114, 3) := by decide +kernel
theorem dX11_reads_51 : decode cX11_reads 51 = .ok (.aload_n 0, 1) := by decide +kernel
theorem dX11_reads_52 : decode cX11_reads 52 = .ok (.ldc2_w 145, 3) := by decide +kernel
theorem dX11_reads_55 : decode cX11_reads 55 = .ok (.invokevirtual 118, 3) := by decide +kernel
theorem dX11_reads_58 : decode cX11_reads 58 = .ok (.ifCond .eq 10, 3) := by decide +kernel
theorem dX11_reads_61 : decode cX11_reads 61 = .ok (.aload_n 0, 1) := by decide +kernel
theorem dX11_reads_62 : decode cX11_reads 62 = .ok (.invokevirtual 147, 3) := by decide +kernel
theorem dX11_reads_65 : decode cX11_reads 65 = .ok (.goto (-14), 3) := by decide +kernel
theorem dX11_reads_68 : decode cX11_reads 68 = .ok (.aload_n 0, 1) := by decide +kernel
theorem dX11_reads_69 : decode cX11_reads 69 = .ok (.ldc2_w 150, 3) := by decide +kernel
theorem dX11_reads_72 : decode cX11_reads 72 = .ok (.invokevirtual 118, 3) := by decide +kernel
theorem dX11_reads_75 : decode cX11_reads 75 = .ok (.ifCond .eq 10, 3) := by decide +kernel
theorem dX11_reads_78 : decode cX11_reads 78 = .ok (.aload_n 0, 1) := by decide +kernel
theorem dX11_reads_79 : decode cX11_reads 79 = .ok (.invokevirtual 152, 3) := by decide +kernel
theorem dX11_reads_82 : decode cX11_reads 82 = .ok (.goto (-14), 3) := by decide +kernel
theorem dX11_reads_85 : decode cX11_reads 85 = .ok (.aload_n 0, 1) := by decide +kernel
theorem dX11_reads_86 : decode cX11_reads 86 = .ok (.invokevirtual 155, 3) := by decide +kernel
theorem dX11_reads_89 : decode cX11_reads 89 = .ok (.aload_n 0, 1) := by decide +kernel
theorem dX11_reads_90 : decode cX11_reads 90 = .ok (.ldc2_w 158, 3) := by decide +kernel
theorem dX11_reads_93 : decode cX11_reads 93 = .ok (.invokevirtual 118, 3) := by decide +kernel
theorem dX11_reads_96 : decode cX11_reads 96 = .ok (.ifCond .eq 10, 3) := by decide +kernel
theorem dX11_reads_99 : decode cX11_reads 99 = .ok (.aload_n 0, 1) := by decide +kernel
theorem dX11_reads_100 : decode cX11_reads 100 = .ok (.invokevirtual 160, 3) := by decide +kernel
theorem dX11_reads_103 : decode cX11_reads 103 = .ok (.goto (-14), 3) := by decide +kernel
theorem dX11_reads_106 : decode cX11_reads 106 = .ok (.aload_n 0, 1) := by decide +kernel
theorem dX11_reads_107 : decode cX11_reads 107 = .ok (.getfield 103, 3) := by decide +kernel
theorem dX11_reads_110 : decode cX11_reads 110 = .ok (.ifCond .eq 23, 3) := by decide +kernel
theorem dX11_reads_113 : decode cX11_reads 113 = .ok (.aload_n 0, 1) := by decide +kernel
theorem dX11_reads_114 : decode cX11_reads 114 = .ok (.getfield 92, 3) := by decide +kernel
theorem dX11_reads_117 : decode cX11_reads 117 = .ok (.ifCond .eq 16, 3) := by decide +kernel
theorem dX11_reads_120 : decode cX11_reads 120 = .ok (.aload_n 0, 1) := by decide +kernel
theorem dX11_reads_121 : decode cX11_reads 121 = .ok (.iconst 0, 1) := by decide +kernel
theorem dX11_reads_122 : decode cX11_reads 122 = .ok (.putfield 103, 3) := by decide +kernel
theorem dX11_reads_125 : decode cX11_reads 125 = .ok (.aload_n 0, 1) := by decide +kernel
theorem dX11_reads_126 : decode cX11_reads 126 = .ok (.aload_n 0, 1) := by decide +kernel
theorem dX11_reads_127 : decode cX11_reads 127 = .ok (.getfield 82, 3) := by decide +kernel
theorem dX11_reads_130 : decode cX11_reads 130 = .ok (.putfield 13, 3) := by decide +kernel
theorem dX11_reads_133 : decode cX11_reads 133 = .ok (.return_, 1) := by decide +kernel
theorem dX11_puts_0 : decode cX11_puts 0 = .ok (.bipush 24, 2) := by decide +kernel
theorem dX11_puts_2 : decode cX11_puts 2 = .ok (.istore_n 2, 1) := by decide +kernel
theorem dX11_puts_3 : decode cX11_puts 3 = .ok (.iload_n 2, 1) := by decide +kernel
theorem dX11_puts_4 : decode cX11_puts 4 = .ok (.ifCond .lt 32, 3) := by decide +kernel
theorem dX11_puts_7 : decode cX11_puts 7 = .ok (.aload_n 0, 1) := by decide +kernel
theorem dX11_puts_8 : decode cX11_puts 8 = .ok (.getfield 7, 3) := by decide +kernel
theorem dX11_puts_11 : decode cX11_puts 11 = .ok (.aload_n 0, 1) := by decide +kernel
theorem dX11_puts_12 : decode cX11_puts 12 = .ok (.getfield 79, 3) := by decide +kernel
theorem dX11_puts_15 : decode cX11_puts 15 = .ok (.iload_n 1, 1) := by decide +kernel
theorem dX11_puts_16 : decode cX11_puts 16 = .ok (.iload_n 2, 1) := by decide +kernel
theorem dX11_puts_17 : decode cX11_puts 17 = .ok (.ishr, 1) := by decide +kernel
theorem dX11_puts_18 : decode cX11_puts 18 = .ok (.i2b, 1) := by decide +kernel
theorem dX11_puts_19 : decode cX11_puts 19 = .ok (.bastore, 1) := by decide +kernel
theorem dX11_puts_20 : decode cX11_puts 20 = .ok (.aload_n 0, 1) := by decide +kernel
theorem dX11_puts_21 : decode cX11_puts 21 = .ok (.dup, 1) := by decide +kernel
theorem dX11_puts_22 : decode cX11_puts 22 = .ok (.getfield 79, 3) := by decide +kernel
theorem dX11_puts_25 : decode cX11_puts 25 = .ok (.iconst 1, 1) := by decide +kernel
theorem dX11_puts_26 : decode cX11_puts 26 = .ok (.iadd, 1) := by decide +kernel
theorem dX11_puts_27 : decode cX11_puts 27 = .ok (.putfield 79, 3) := by decide +kernel
theorem dX11_puts_30 : decode cX11_puts 30 = .ok (.iinc 2 (-8), 3) := by decide +kernel
theorem dX11_puts_33 : decode cX11_puts 33 = .ok (.goto (-30), 3) := by decide +kernel
theorem dX11_puts_36 : decode cX11_puts 36 = .ok (.return_, 1) := by decide +kernel
theorem dX11_append_0 : decode cX11_append 0 = .ok (.aload_n 0, 1) := by decide +kernel
theorem dX11_append_1 : decode cX11_append 1 = .ok (.getfield 79, 3) := by decide +kernel
theorem dX11_append_4 : decode cX11_append 4 = .ok (.bipush 20, 2) := by decide +kernel
theorem dX11_append_6 : decode cX11_append 6 = .ok (.iadd, 1) := by decide +kernel
theorem dX11_append_7 : decode cX11_append 7 = .ok (.sipush 1400, 3) := by decide +kernel
theorem dX11_append_10 : decode cX11_append 10 = .ok (.if_icmp .le 5, 3) := by decide +kernel
theorem dX11_append_13 : decode cX11_append 13 = .ok (.iconst (-1), 1) := by decide +kernel
theorem dX11_append_14 : decode cX11_append 14 = .ok (.ireturn, 1) := by decide +kernel
theorem dX11_append_15 : decode cX11_append 15 = .ok (.aload_n 0, 1) := by decide +kernel
theorem dX11_append_16 : decode cX11_append 16 = .ok (.iload_n 1, 1) := by decide +kernel
theorem dX11_append_17 : decode cX11_append 17 = .ok (.invokevirtual 163, 3) := by decide +kernel
theorem dX11_append_20 : decode cX11_append 20 = .ok (.aload_n 0, 1) := by decide +kernel
theorem dX11_append_21 : decode cX11_append 21 = .ok (.iload_n 2, 1) := by decide +kernel
theorem dX11_append_22 : decode cX11_append 22 = .ok (.invokevirtual 163, 3) := by decide +kernel
theorem dX11_append_25 : decode cX11_append 25 = .ok (.aload_n 0, 1) := by decide +kernel
theorem dX11_append_26 : decode cX11_append 26 = .ok (.iload_n 3, 1) := by decide +kernel
theorem dX11_append_27 : decode cX11_append 27 = .ok (.invokevirtual 163, 3) := by decide +kernel
theorem dX11_append_30 : decode cX11_append 30 = .ok (.aload_n 0, 1) := by decide +kernel
theorem dX11_append_31 : decode cX11_append 31 = .ok (.iload 4, 2) := by decide +kernel
theorem dX11_append_33 : decode cX11_append 33 = .ok (.invokevirtual 163, 3) := by decide +kernel
theorem dX11_append_36 : decode cX11_append 36 = .ok (.aload_n 0, 1) := by decide +kernel
theorem dX11_append_37 : decode cX11_append 37 = .ok (.iload 5, 2) := by decide +kernel
theorem dX11_append_39 : decode cX11_append 39 = .ok (.invokevirtual 163, 3) := by decide +kernel
theorem dX11_append_42 : decode cX11_append 42 = .ok (.aload_n 0, 1) := by decide +kernel
theorem dX11_append_43 : decode cX11_append 43 = .ok (.getfield 79, 3) := by decide +kernel
theorem dX11_append_46 : decode cX11_append 46 = .ok (.ireturn, 1) := by decide +kernel
theorem dX11_truncate_0 : decode cX11_truncate 0 = .ok (.iload_n 1, 1) := by decide +kernel
theorem dX11_truncate_1 : decode cX11_truncate 1 = .ok (.i2l, 1) := by decide +kernel
theorem dX11_truncate_2 : decode cX11_truncate 2 = .ok (.lconst 0, 1) := by decide +kernel
theorem dX11_truncate_3 : decode cX11_truncate 3 = .ok (.aload_n 0, 1) := by decide +kernel
theorem dX11_truncate_4 : decode cX11_truncate 4 = .ok (.getfield 79, 3) := by decide +kernel
theorem dX11_truncate_7 : decode cX11_truncate 7 = .ok (.i2l, 1) := by decide +kernel
theorem dX11_truncate_8 : decode cX11_truncate 8 = .ok (.invokestatic 110, 3) := by decide +kernel
theorem dX11_truncate_11 : decode cX11_truncate 11 = .ok (.ifCond .ne 5, 3) := by decide +kernel
theorem dX11_truncate_14 : decode cX11_truncate 14 = .ok (.iconst (-1), 1) := by decide +kernel
theorem dX11_truncate_15 : decode cX11_truncate 15 = .ok (.ireturn, 1) := by decide +kernel
theorem dX11_truncate_16 : decode cX11_truncate 16 = .ok (.aload_n 0, 1) := by decide +kernel
theorem dX11_truncate_17 : decode cX11_truncate 17 = .ok (.dup, 1) := by decide +kernel
theorem dX11_truncate_18 : decode cX11_truncate 18 = .ok (.getfield 79, 3) := by decide +kernel
theorem dX11_truncate_21 : decode cX11_truncate 21 = .ok (.iload_n 1, 1) := by decide +kernel
theorem dX11_truncate_22 : decode cX11_truncate 22 = .ok (.isub, 1) := by decide +kernel
theorem dX11_truncate_23 : decode cX11_truncate 23 = .ok (.putfield 79, 3) := by decide +kernel
theorem dX11_truncate_26 : decode cX11_truncate 26 = .ok (.aload_n 0, 1) := by decide +kernel
theorem dX11_truncate_27 : decode cX11_truncate 27 = .ok (.getfield 79, 3) := by decide +kernel
theorem dX11_truncate_30 : decode cX11_truncate 30 = .ok (.ireturn, 1) := by decide +kernel
theorem dX11_load_0 : decode cX11_load 0 = .ok (.aload_n 0, 1) := by decide +kernel
theorem dX11_load_1 : decode cX11_load 1 = .ok (.bipush (-2), 2) := by decide +kernel
theorem dX11_load_3 : decode cX11_load 3 = .ok (.putfield 13, 3) := by decide +kernel
theorem dX11_load_6 : decode cX11_load 6 = .ok (.aload_n 0, 1) := by decide +kernel
theorem dX11_load_7 : decode cX11_load 7 = .ok (.invokevirtual 167, 3) := by decide +kernel
theorem dX11_load_10 : decode cX11_load 10 = .ok (.aload_n 0, 1) := by decide +kernel
theorem dX11_load_11 : decode cX11_load 11 = .ok (.iconst 0, 1) := by decide +kernel
theorem dX11_load_12 : decode cX11_load 12 = .ok (.putfield 79, 3) := by decide +kernel
theorem dX11_load_15 : decode cX11_load 15 = .ok (.aload_n 0, 1) := by decide +kernel
theorem dX11_load_16 : decode cX11_load 16 = .ok (.getfield 103, 3) := by decide +kernel
theorem dX11_load_19 : decode cX11_load 19 = .ok (.ifCond .ne 5, 3) := by decide +kernel
theorem dX11_load_22 : decode cX11_load 22 = .ok (.iconst (-1), 1) := by decide +kernel
theorem dX11_load_23 : decode cX11_load 23 = .ok (.ireturn, 1) := by decide +kernel
theorem dX11_load_24 : decode cX11_load 24 = .ok (.aload_n 0, 1) := by decide +kernel
theorem dX11_load_25 : decode cX11_load 25 = .ok (.invokevirtual 70, 3) := by decide +kernel
theorem dX11_load_28 : decode cX11_load 28 = .ok (.aload_n 0, 1) := by decide +kernel
theorem dX11_load_29 : decode cX11_load 29 = .ok (.getfield 17, 3) := by decide +kernel
theorem dX11_load_32 : decode cX11_load 32 = .ok (.iconst 0, 1) := by decide +kernel
theorem dX11_load_33 : decode cX11_load 33 = .ok (.iaload, 1) := by decide +kernel
theorem dX11_load_34 : decode cX11_load 34 = .ok (.ireturn, 1) := by decide +kernel
theorem dX11_errorPosition_0 : decode cX11_errorPosition 0 = .ok (.aload_n 0, 1) := by decide +kernel
theorem dX11_errorPosition_1 : decode cX11_errorPosition 1 = .ok (.getfield 13, 3) := by decide +kernel
theorem dX11_errorPosition_4 : decode cX11_errorPosition 4 = .ok (.ireturn, 1) := by decide +kernel
theorem dX11_takesDraft_0 : decode cX11_takesDraft 0 = .ok (.iconst 0, 1) := by decide +kernel
theorem dX11_takesDraft_1 : decode cX11_takesDraft 1 = .ok (.istore_n 1, 1) := by decide +kernel
theorem dX11_takesDraft_2 : decode cX11_takesDraft 2 = .ok (.iload_n 1, 1) := by decide +kernel
theorem dX11_takesDraft_3 : decode cX11_takesDraft 3 = .ok (.sipush 172, 3) := by decide +kernel
theorem dX11_takesDraft_6 : decode cX11_takesDraft 6 = .ok (.if_icmp .ge 21, 3) := by decide +kernel
theorem dX11_takesDraft_9 : decode cX11_takesDraft 9 = .ok (.aload_n 0, 1) := by decide +kernel
theorem dX11_takesDraft_10 : decode cX11_takesDraft 10 = .ok (.getfield 17, 3) := by decide +kernel
theorem dX11_takesDraft_13 : decode cX11_takesDraft 13 = .ok (.iload_n 1, 1) := by decide +kernel
theorem dX11_takesDraft_14 : decode cX11_takesDraft 14 = .ok (.aload_n 0, 1) := by decide +kernel
theorem dX11_takesDraft_15 : decode cX11_takesDraft 15 = .ok (.getfield 21, 3) := by decide +kernel
theorem dX11_takesDraft_18 : decode cX11_takesDraft 18 = .ok (.iload_n 1, 1) := by decide +kernel
theorem dX11_takesDraft_19 : decode cX11_takesDraft 19 = .ok (.iaload, 1) := by decide +kernel
theorem dX11_takesDraft_20 : decode cX11_takesDraft 20 = .ok (.iastore, 1) := by decide +kernel
theorem dX11_takesDraft_21 : decode cX11_takesDraft 21 = .ok (.iinc 1 1, 3) := by decide +kernel
theorem dX11_takesDraft_24 : decode cX11_takesDraft 24 = .ok (.goto (-22), 3) := by decide +kernel
theorem dX11_takesDraft_27 : decode cX11_takesDraft 27 = .ok (.iconst 0, 1) := by decide +kernel
theorem dX11_takesDraft_28 : decode cX11_takesDraft 28 = .ok (.istore_n 1, 1) := by decide +kernel
theorem dX11_takesDraft_29 : decode cX11_takesDraft 29 = .ok (.iload_n 1, 1) := by decide +kernel
theorem dX11_takesDraft_30 : decode cX11_takesDraft 30 = .ok (.sipush 202, 3) := by decide +kernel
theorem dX11_takesDraft_33 : decode cX11_takesDraft 33 = .ok (.if_icmp .ge 16, 3) := by decide +kernel
theorem dX11_takesDraft_36 : decode cX11_takesDraft 36 = .ok (.aload_n 0, 1) := by decide +kernel
theorem dX11_takesDraft_37 : decode cX11_takesDraft 37 = .ok (.getfield 24, 3) := by decide +kernel
theorem dX11_takesDraft_40 : decode cX11_takesDraft 40 = .ok (.iload_n 1, 1) := by decide +kernel
theorem dX11_takesDraft_41 : decode cX11_takesDraft 41 = .ok (.iconst 0, 1) := by decide +kernel
theorem dX11_takesDraft_42 : decode cX11_takesDraft 42 = .ok (.iastore, 1) := by decide +kernel
theorem dX11_takesDraft_43 : decode cX11_takesDraft 43 = .ok (.iinc 1 1, 3) := by decide +kernel
theorem dX11_takesDraft_46 : decode cX11_takesDraft 46 = .ok (.goto (-17), 3) := by decide +kernel
theorem dX11_takesDraft_49 : decode cX11_takesDraft 49 = .ok (.iconst 0, 1) := by decide +kernel
theorem dX11_takesDraft_50 : decode cX11_takesDraft 50 = .ok (.istore_n 1, 1) := by decide +kernel
theorem dX11_takesDraft_51 : decode cX11_takesDraft 51 = .ok (.iload_n 1, 1) := by decide +kernel
theorem dX11_takesDraft_52 : decode cX11_takesDraft 52 = .ok (.aload_n 0, 1) := by decide +kernel
theorem dX11_takesDraft_53 : decode cX11_takesDraft 53 = .ok (.getfield 17, 3) := by decide +kernel
theorem dX11_takesDraft_56 : decode cX11_takesDraft 56 = .ok (.iconst 1, 1) := by decide +kernel
theorem dX11_takesDraft_57 : decode cX11_takesDraft 57 = .ok (.iaload, 1) := by decide +kernel
theorem dX11_takesDraft_58 : decode cX11_takesDraft 58 = .ok (.if_icmp .ge 39, 3) := by decide +kernel
theorem dX11_takesDraft_61 : decode cX11_takesDraft 61 = .ok (.aload_n 0, 1) := by decide +kernel
theorem dX11_takesDraft_62 : decode cX11_takesDraft 62 = .ok (.getfield 24, 3) := by decide +kernel
theorem dX11_takesDraft_65 : decode cX11_takesDraft 65 = .ok (.iconst 0, 1) := by decide +kernel
theorem dX11_takesDraft_66 : decode cX11_takesDraft 66 = .ok (.iload_n 1, 1) := by decide +kernel
theorem dX11_takesDraft_67 : decode cX11_takesDraft 67 = .ok (.iadd, 1) := by decide +kernel
theorem dX11_takesDraft_68 : decode cX11_takesDraft 68 = .ok (.aload_n 0, 1) := by decide +kernel
theorem dX11_takesDraft_69 : decode cX11_takesDraft 69 = .ok (.getfield 17, 3) := by decide +kernel
theorem dX11_takesDraft_72 : decode cX11_takesDraft 72 = .ok (.iconst 4, 1) := by decide +kernel
theorem dX11_takesDraft_73 : decode cX11_takesDraft 73 = .ok (.iconst 4, 1) := by decide +kernel
theorem dX11_takesDraft_74 : decode cX11_takesDraft 74 = .ok (.iload_n 1, 1) := by decide +kernel
theorem dX11_takesDraft_75 : decode cX11_takesDraft 75 = .ok (.imul, 1) := by decide +kernel
theorem dX11_takesDraft_76 : decode cX11_takesDraft 76 = .ok (.iadd, 1) := by decide +kernel
theorem dX11_takesDraft_77 : decode cX11_takesDraft 77 = .ok (.iconst 2, 1) := by decide +kernel
theorem dX11_takesDraft_78 : decode cX11_takesDraft 78 = .ok (.iadd, 1) := by decide +kernel
theorem dX11_takesDraft_79 : decode cX11_takesDraft 79 = .ok (.iaload, 1) := by decide +kernel
theorem dX11_takesDraft_80 : decode cX11_takesDraft 80 = .ok (.iastore, 1) := by decide +kernel
theorem dX11_takesDraft_81 : decode cX11_takesDraft 81 = .ok (.aload_n 0, 1) := by decide +kernel
theorem dX11_takesDraft_82 : decode cX11_takesDraft 82 = .ok (.getfield 24, 3) := by decide +kernel
theorem dX11_takesDraft_85 : decode cX11_takesDraft 85 = .ok (.bipush 32, 2) := by decide +kernel
theorem dX11_takesDraft_87 : decode cX11_takesDraft 87 = .ok (.iload_n 1, 1) := by decide +kernel
theorem dX11_takesDraft_88 : decode cX11_takesDraft 88 = .ok (.iadd, 1) := by decide +kernel
theorem dX11_takesDraft_89 : decode cX11_takesDraft 89 = .ok (.iconst 1, 1) := by decide +kernel
theorem dX11_takesDraft_90 : decode cX11_takesDraft 90 = .ok (.iastore, 1) := by decide +kernel
theorem dX11_takesDraft_91 : decode cX11_takesDraft 91 = .ok (.iinc 1 1, 3) := by decide +kernel
theorem dX11_takesDraft_94 : decode cX11_takesDraft 94 = .ok (.goto (-43), 3) := by decide +kernel
theorem dX11_takesDraft_97 : decode cX11_takesDraft 97 = .ok (.aload_n 0, 1) := by decide +kernel
theorem dX11_takesDraft_98 : decode cX11_takesDraft 98 = .ok (.invokevirtual 170, 3) := by decide +kernel
theorem dX11_takesDraft_101 : decode cX11_takesDraft 101 = .ok (.aload_n 0, 1) := by decide +kernel
theorem dX11_takesDraft_102 : decode cX11_takesDraft 102 = .ok (.iconst 0, 1) := by decide +kernel
theorem dX11_takesDraft_103 : decode cX11_takesDraft 103 = .ok (.putfield 173, 3) := by decide +kernel
theorem dX11_takesDraft_106 : decode cX11_takesDraft 106 = .ok (.return_, 1) := by decide +kernel
theorem dX11_emptiesTree_0 : decode cX11_emptiesTree 0 = .ok (.iconst 0, 1) := by decide +kernel
theorem dX11_emptiesTree_1 : decode cX11_emptiesTree 1 = .ok (.istore_n 1, 1) := by decide +kernel
theorem dX11_emptiesTree_2 : decode cX11_emptiesTree 2 = .ok (.iload_n 1, 1) := by decide +kernel
theorem dX11_emptiesTree_3 : decode cX11_emptiesTree 3 = .ok (.bipush 16, 2) := by decide +kernel
theorem dX11_emptiesTree_5 : decode cX11_emptiesTree 5 = .ok (.if_icmp .ge 28, 3) := by decide +kernel
theorem dX11_emptiesTree_8 : decode cX11_emptiesTree 8 = .ok (.aload_n 0, 1) := by decide +kernel
theorem dX11_emptiesTree_9 : decode cX11_emptiesTree 9 = .ok (.getfield 24, 3) := by decide +kernel
theorem dX11_emptiesTree_12 : decode cX11_emptiesTree 12 = .ok (.bipush 80, 2) := by decide +kernel
theorem dX11_emptiesTree_14 : decode cX11_emptiesTree 14 = .ok (.iload_n 1, 1) := by decide +kernel
theorem dX11_emptiesTree_15 : decode cX11_emptiesTree 15 = .ok (.iadd, 1) := by decide +kernel
theorem dX11_emptiesTree_16 : decode cX11_emptiesTree 16 = .ok (.iload_n 1, 1) := by decide +kernel
theorem dX11_emptiesTree_17 : decode cX11_emptiesTree 17 = .ok (.ifCond .ne 8, 3) := by decide +kernel
theorem dX11_emptiesTree_20 : decode cX11_emptiesTree 20 = .ok (.bipush (-2), 2) := by decide +kernel
theorem dX11_emptiesTree_22 : decode cX11_emptiesTree 22 = .ok (.goto 4, 3) := by decide +kernel
theorem dX11_emptiesTree_25 : decode cX11_emptiesTree 25 = .ok (.iconst (-1), 1) := by decide +kernel
theorem dX11_emptiesTree_26 : decode cX11_emptiesTree 26 = .ok (.iastore, 1) := by decide +kernel
theorem dX11_emptiesTree_27 : decode cX11_emptiesTree 27 = .ok (.iinc 1 1, 3) := by decide +kernel
theorem dX11_emptiesTree_30 : decode cX11_emptiesTree 30 = .ok (.goto (-28), 3) := by decide +kernel
theorem dX11_emptiesTree_33 : decode cX11_emptiesTree 33 = .ok (.return_, 1) := by decide +kernel
theorem dX11_isNode_0 : decode cX11_isNode 0 = .ok (.iload_n 1, 1) := by decide +kernel
theorem dX11_isNode_1 : decode cX11_isNode 1 = .ok (.i2l, 1) := by decide +kernel
theorem dX11_isNode_2 : decode cX11_isNode 2 = .ok (.lconst 0, 1) := by decide +kernel
theorem dX11_isNode_3 : decode cX11_isNode 3 = .ok (.aload_n 0, 1) := by decide +kernel
theorem dX11_isNode_4 : decode cX11_isNode 4 = .ok (.getfield 17, 3) := by decide +kernel
theorem dX11_isNode_7 : decode cX11_isNode 7 = .ok (.iconst 0, 1) := by decide +kernel
theorem dX11_isNode_8 : decode cX11_isNode 8 = .ok (.iaload, 1) := by decide +kernel
theorem dX11_isNode_9 : decode cX11_isNode 9 = .ok (.iconst 1, 1) := by decide +kernel
theorem dX11_isNode_10 : decode cX11_isNode 10 = .ok (.isub, 1) := by decide +kernel
theorem dX11_isNode_11 : decode cX11_isNode 11 = .ok (.i2l, 1) := by decide +kernel
theorem dX11_isNode_12 : decode cX11_isNode 12 = .ok (.invokestatic 110, 3) := by decide +kernel
theorem dX11_isNode_15 : decode cX11_isNode 15 = .ok (.ireturn, 1) := by decide +kernel
theorem dX11_isLink_0 : decode cX11_isLink 0 = .ok (.iload_n 1, 1) := by decide +kernel
theorem dX11_isLink_1 : decode cX11_isLink 1 = .ok (.i2l, 1) := by decide +kernel
theorem dX11_isLink_2 : decode cX11_isLink 2 = .ok (.lconst 0, 1) := by decide +kernel
theorem dX11_isLink_3 : decode cX11_isLink 3 = .ok (.aload_n 0, 1) := by decide +kernel
theorem dX11_isLink_4 : decode cX11_isLink 4 = .ok (.getfield 17, 3) := by decide +kernel
theorem dX11_isLink_7 : decode cX11_isLink 7 = .ok (.iconst 1, 1) := by decide +kernel
theorem dX11_isLink_8 : decode cX11_isLink 8 = .ok (.iaload, 1) := by decide +kernel
theorem dX11_isLink_9 : decode cX11_isLink 9 = .ok (.iconst 1, 1) := by decide +kernel
theorem dX11_isLink_10 : decode cX11_isLink 10 = .ok (.isub, 1) := by decide +kernel
theorem dX11_isLink_11 : decode cX11_isLink 11 = .ok (.i2l, 1) := by decide +kernel
theorem dX11_isLink_12 : decode cX11_isLink 12 = .ok (.invokestatic 110, 3) := by decide +kernel
theorem dX11_isLink_15 : decode cX11_isLink 15 = .ok (.ireturn, 1) := by decide +kernel
theorem dX11_isFormat_0 : decode cX11_isFormat 0 = .ok (.iload_n 1, 1) := by decide +kernel
theorem dX11_isFormat_1 : decode cX11_isFormat 1 = .ok (.i2l, 1) := by decide +kernel
theorem dX11_isFormat_2 : decode cX11_isFormat 2 = .ok (.lconst 0, 1) := by decide +kernel
theorem dX11_isFormat_3 : decode cX11_isFormat 3 = .ok (.aload_n 0, 1) := by decide +kernel
theorem dX11_isFormat_4 : decode cX11_isFormat 4 = .ok (.getfield 17, 3) := by decide +kernel
theorem dX11_isFormat_7 : decode cX11_isFormat 7 = .ok (.iconst 2, 1) := by decide +kernel
theorem dX11_isFormat_8 : decode cX11_isFormat 8 = .ok (.iaload, 1) := by decide +kernel
theorem dX11_isFormat_9 : decode cX11_isFormat 9 = .ok (.iconst 1, 1) := by decide +kernel
theorem dX11_isFormat_10 : decode cX11_isFormat 10 = .ok (.isub, 1) := by decide +kernel
theorem dX11_isFormat_11 : decode cX11_isFormat 11 = .ok (.i2l, 1) := by decide +kernel
theorem dX11_isFormat_12 : decode cX11_isFormat 12 = .ok (.invokestatic 110, 3) := by decide +kernel
theorem dX11_isFormat_15 : decode cX11_isFormat 15 = .ok (.ireturn, 1) := by decide +kernel
theorem dX11_isLevel_0 : decode cX11_isLevel 0 = .ok (.iload_n 1, 1) := by decide +kernel
theorem dX11_isLevel_1 : decode cX11_isLevel 1 = .ok (.i2l, 1) := by decide +kernel
theorem dX11_isLevel_2 : decode cX11_isLevel 2 = .ok (.lconst 1, 1) := by decide +kernel
theorem dX11_isLevel_3 : decode cX11_isLevel 3 = .ok (.aload_n 0, 1) := by decide +kernel
theorem dX11_isLevel_4 : decode cX11_isLevel 4 = .ok (.getfield 17, 3) := by decide +kernel
theorem dX11_isLevel_7 : decode cX11_isLevel 7 = .ok (.iconst 3, 1) := by decide +kernel
theorem dX11_isLevel_8 : decode cX11_isLevel 8 = .ok (.iaload, 1) := by decide +kernel
theorem dX11_isLevel_9 : decode cX11_isLevel 9 = .ok (.i2l, 1) := by decide +kernel
theorem dX11_isLevel_10 : decode cX11_isLevel 10 = .ok (.invokestatic 110, 3) := by decide +kernel
theorem dX11_isLevel_13 : decode cX11_isLevel 13 = .ok (.ireturn, 1) := by decide +kernel
theorem dX11_of_0 : decode cX11_of 0 = .ok (.aload_n 0, 1) := by decide +kernel
theorem dX11_of_1 : decode cX11_of 1 = .ok (.getfield 24, 3) := by decide +kernel
theorem dX11_of_4 : decode cX11_of 4 = .ok (.bipush 97, 2) := by decide +kernel
theorem dX11_of_6 : decode cX11_of 6 = .ok (.iconst 5, 1) := by decide +kernel
theorem dX11_of_7 : decode cX11_of 7 = .ok (.iload_n 1, 1) := by decide +kernel
theorem dX11_of_8 : decode cX11_of 8 = .ok (.imul, 1) := by decide +kernel
theorem dX11_of_9 : decode cX11_of 9 = .ok (.iadd, 1) := by decide +kernel
theorem dX11_of_10 : decode cX11_of 10 = .ok (.iload_n 2, 1) := by decide +kernel
theorem dX11_of_11 : decode cX11_of 11 = .ok (.iadd, 1) := by decide +kernel
theorem dX11_of_12 : decode cX11_of 12 = .ok (.iaload, 1) := by decide +kernel
theorem dX11_of_13 : decode cX11_of 13 = .ok (.ireturn, 1) := by decide +kernel
theorem dX11_set_0 : decode cX11_set 0 = .ok (.aload_n 0, 1) := by decide +kernel
theorem dX11_set_1 : decode cX11_set 1 = .ok (.getfield 24, 3) := by decide +kernel
theorem dX11_set_4 : decode cX11_set 4 = .ok (.bipush 97, 2) := by decide +kernel
theorem dX11_set_6 : decode cX11_set 6 = .ok (.iconst 5, 1) := by decide +kernel
theorem dX11_set_7 : decode cX11_set 7 = .ok (.iload_n 1, 1) := by decide +kernel
theorem dX11_set_8 : decode cX11_set 8 = .ok (.imul, 1) := by decide +kernel
theorem dX11_set_9 : decode cX11_set 9 = .ok (.iadd, 1) := by decide +kernel
theorem dX11_set_10 : decode cX11_set 10 = .ok (.iload_n 2, 1) := by decide +kernel
theorem dX11_set_11 : decode cX11_set 11 = .ok (.iadd, 1) := by decide +kernel
theorem dX11_set_12 : decode cX11_set 12 = .ok (.iload_n 3, 1) := by decide +kernel
theorem dX11_set_13 : decode cX11_set 13 = .ok (.iastore, 1) := by decide +kernel
theorem dX11_set_14 : decode cX11_set 14 = .ok (.return_, 1) := by decide +kernel
theorem dX11_isReceiver_0 : decode cX11_isReceiver 0 = .ok (.iload_n 1, 1) := by decide +kernel
theorem dX11_isReceiver_1 : decode cX11_isReceiver 1 = .ok (.i2l, 1) := by decide +kernel
theorem dX11_isReceiver_2 : decode cX11_isReceiver 2 = .ok (.lconst 0, 1) := by decide +kernel
theorem dX11_isReceiver_3 : decode cX11_isReceiver 3 = .ok (.aload_n 0, 1) := by decide +kernel
theorem dX11_isReceiver_4 : decode cX11_isReceiver 4 = .ok (.getfield 24, 3) := by decide +kernel
theorem dX11_isReceiver_7 : decode cX11_isReceiver 7 = .ok (.bipush 96, 2) := by decide +kernel
theorem dX11_isReceiver_9 : decode cX11_isReceiver 9 = .ok (.iaload, 1) := by decide +kernel
theorem dX11_isReceiver_10 : decode cX11_isReceiver 10 = .ok (.iconst 1, 1) := by decide +kernel
theorem dX11_isReceiver_11 : decode cX11_isReceiver 11 = .ok (.isub, 1) := by decide +kernel
theorem dX11_isReceiver_12 : decode cX11_isReceiver 12 = .ok (.i2l, 1) := by decide +kernel
theorem dX11_isReceiver_13 : decode cX11_isReceiver 13 = .ok (.invokestatic 110, 3) := by decide +kernel
theorem dX11_isReceiver_16 : decode cX11_isReceiver 16 = .ok (.ifCond .eq 16, 3) := by decide +kernel
theorem dX11_isReceiver_19 : decode cX11_isReceiver 19 = .ok (.aload_n 0, 1) := by decide +kernel
theorem dX11_isReceiver_20 : decode cX11_isReceiver 20 = .ok (.iload_n 1, 1) := by decide +kernel
theorem dX11_isReceiver_21 : decode cX11_isReceiver 21 = .ok (.iconst 4, 1) := by decide +kernel
theorem dX11_isReceiver_22 : decode cX11_isReceiver 22 = .ok (.invokevirtual 176, 3) := by decide +kernel
theorem dX11_isReceiver_25 : decode cX11_isReceiver 25 = .ok (.ifCond .ne 7, 3) := by decide +kernel
theorem dX11_isReceiver_28 : decode cX11_isReceiver 28 = .ok (.iconst 1, 1) := by decide +kernel
theorem dX11_isReceiver_29 : decode cX11_isReceiver 29 = .ok (.goto 4, 3) := by decide +kernel
theorem dX11_isReceiver_32 : decode cX11_isReceiver 32 = .ok (.iconst 0, 1) := by decide +kernel
theorem dX11_isReceiver_33 : decode cX11_isReceiver 33 = .ok (.ireturn, 1) := by decide +kernel
theorem dX11_end_0 : decode cX11_end 0 = .ok (.aload_n 0, 1) := by decide +kernel
theorem dX11_end_1 : decode cX11_end 1 = .ok (.getfield 17, 3) := by decide +kernel
theorem dX11_end_4 : decode cX11_end 4 = .ok (.iconst 4, 1) := by decide +kernel
theorem dX11_end_5 : decode cX11_end 5 = .ok (.iconst 4, 1) := by decide +kernel
theorem dX11_end_6 : decode cX11_end 6 = .ok (.iload_n 1, 1) := by decide +kernel
theorem dX11_end_7 : decode cX11_end 7 = .ok (.imul, 1) := by decide +kernel
theorem dX11_end_8 : decode cX11_end 8 = .ok (.iadd, 1) := by decide +kernel
theorem dX11_end_9 : decode cX11_end 9 = .ok (.iload_n 2, 1) := by decide +kernel
theorem dX11_end_10 : decode cX11_end 10 = .ok (.iadd, 1) := by decide +kernel
theorem dX11_end_11 : decode cX11_end 11 = .ok (.iaload, 1) := by decide +kernel
theorem dX11_end_12 : decode cX11_end 12 = .ok (.ireturn, 1) := by decide +kernel
theorem dX11_delayOf_0 : decode cX11_delayOf 0 = .ok (.aload_n 0, 1) := by decide +kernel
theorem dX11_delayOf_1 : decode cX11_delayOf 1 = .ok (.getfield 17, 3) := by decide +kernel
theorem dX11_delayOf_4 : decode cX11_delayOf 4 = .ok (.iconst 4, 1) := by decide +kernel
theorem dX11_delayOf_5 : decode cX11_delayOf 5 = .ok (.iconst 4, 1) := by decide +kernel
theorem dX11_delayOf_6 : decode cX11_delayOf 6 = .ok (.iload_n 1, 1) := by decide +kernel
theorem dX11_delayOf_7 : decode cX11_delayOf 7 = .ok (.imul, 1) := by decide +kernel
theorem dX11_delayOf_8 : decode cX11_delayOf 8 = .ok (.iadd, 1) := by decide +kernel
theorem dX11_delayOf_9 : decode cX11_delayOf 9 = .ok (.iconst 3, 1) := by decide +kernel
theorem dX11_delayOf_10 : decode cX11_delayOf 10 = .ok (.iadd, 1) := by decide +kernel
theorem dX11_delayOf_11 : decode cX11_delayOf 11 = .ok (.iaload, 1) := by decide +kernel
theorem dX11_delayOf_12 : decode cX11_delayOf 12 = .ok (.ireturn, 1) := by decide +kernel
theorem dX11_linkAt_0 : decode cX11_linkAt 0 = .ok (.iconst 0, 1) := by decide +kernel
theorem dX11_linkAt_1 : decode cX11_linkAt 1 = .ok (.istore_n 3, 1) := by decide +kernel
theorem dX11_linkAt_2 : decode cX11_linkAt 2 = .ok (.iload_n 3, 1) := by decide +kernel
theorem dX11_linkAt_3 : decode cX11_linkAt 3 = .ok (.aload_n 0, 1) := by decide +kernel
theorem dX11_linkAt_4 : decode cX11_linkAt 4 = .ok (.getfield 17, 3) := by decide +kernel
theorem dX11_linkAt_7 : decode cX11_linkAt 7 = .ok (.iconst 1, 1) := by decide +kernel
theorem dX11_linkAt_8 : decode cX11_linkAt 8 = .ok (.iaload, 1) := by decide +kernel
theorem dX11_linkAt_9 : decode cX11_linkAt 9 = .ok (.if_icmp .ge 51, 3) := by decide +kernel
theorem dX11_linkAt_12 : decode cX11_linkAt 12 = .ok (.aload_n 0, 1) := by decide +kernel
theorem dX11_linkAt_13 : decode cX11_linkAt 13 = .ok (.iload_n 3, 1) := by decide +kernel
theorem dX11_linkAt_14 : decode cX11_linkAt 14 = .ok (.iconst 0, 1) := by decide +kernel
theorem dX11_linkAt_15 : decode cX11_linkAt 15 = .ok (.invokevirtual 179, 3) := by decide +kernel
theorem dX11_linkAt_18 : decode cX11_linkAt 18 = .ok (.iload_n 1, 1) := by decide +kernel
theorem dX11_linkAt_19 : decode cX11_linkAt 19 = .ok (.if_icmp .ne 13, 3) := by decide +kernel
theorem dX11_linkAt_22 : decode cX11_linkAt 22 = .ok (.aload_n 0, 1) := by decide +kernel
theorem dX11_linkAt_23 : decode cX11_linkAt 23 = .ok (.iload_n 3, 1) := by decide +kernel
theorem dX11_linkAt_24 : decode cX11_linkAt 24 = .ok (.iconst 1, 1) := by decide +kernel
theorem dX11_linkAt_25 : decode cX11_linkAt 25 = .ok (.invokevirtual 179, 3) := by decide +kernel
theorem dX11_linkAt_28 : decode cX11_linkAt 28 = .ok (.iload_n 2, 1) := by decide +kernel
theorem dX11_linkAt_29 : decode cX11_linkAt 29 = .ok (.if_icmp .eq 23, 3) := by decide +kernel
theorem dX11_linkAt_32 : decode cX11_linkAt 32 = .ok (.aload_n 0, 1) := by decide +kernel
theorem dX11_linkAt_33 : decode cX11_linkAt 33 = .ok (.iload_n 3, 1) := by decide +kernel
theorem dX11_linkAt_34 : decode cX11_linkAt 34 = .ok (.iconst 0, 1) := by decide +kernel
theorem dX11_linkAt_35 : decode cX11_linkAt 35 = .ok (.invokevirtual 179, 3) := by decide +kernel
theorem dX11_linkAt_38 : decode cX11_linkAt 38 = .ok (.iload_n 2, 1) := by decide +kernel
theorem dX11_linkAt_39 : decode cX11_linkAt 39 = .ok (.if_icmp .ne 15, 3) := by decide +kernel
theorem dX11_linkAt_42 : decode cX11_linkAt 42 = .ok (.aload_n 0, 1) := by decide +kernel
theorem dX11_linkAt_43 : decode cX11_linkAt 43 = .ok (.iload_n 3, 1) := by decide +kernel
theorem dX11_linkAt_44 : decode cX11_linkAt 44 = .ok (.iconst 1, 1) := by decide +kernel
theorem dX11_linkAt_45 : decode cX11_linkAt 45 = .ok (.invokevirtual 179, 3) := by decide +kernel
theorem dX11_linkAt_48 : decode cX11_linkAt 48 = .ok (.iload_n 1, 1) := by decide +kernel
theorem dX11_linkAt_49 : decode cX11_linkAt 49 = .ok (.if_icmp .ne 5, 3) := by decide +kernel
theorem dX11_linkAt_52 : decode cX11_linkAt 52 = .ok (.iload_n 3, 1) := by decide +kernel
theorem dX11_linkAt_53 : decode cX11_linkAt 53 = .ok (.ireturn, 1) := by decide +kernel
theorem dX11_linkAt_54 : decode cX11_linkAt 54 = .ok (.iinc 3 1, 3) := by decide +kernel
theorem dX11_linkAt_57 : decode cX11_linkAt 57 = .ok (.goto (-55), 3) := by decide +kernel
theorem dX11_linkAt_60 : decode cX11_linkAt 60 = .ok (.bipush (-2), 2) := by decide +kernel
theorem dX11_linkAt_62 : decode cX11_linkAt 62 = .ok (.ireturn, 1) := by decide +kernel
theorem dX11_rateOf_0 : decode cX11_rateOf 0 = .ok (.iconst 0, 1) := by decide +kernel
theorem dX11_rateOf_1 : decode cX11_rateOf 1 = .ok (.istore_n 3, 1) := by decide +kernel
theorem dX11_rateOf_2 : decode cX11_rateOf 2 = .ok (.iconst 0, 1) := by decide +kernel
theorem dX11_rateOf_3 : decode cX11_rateOf 3 = .ok (.istore 4, 2) := by decide +kernel
theorem dX11_rateOf_5 : decode cX11_rateOf 5 = .ok (.iload 4, 2) := by decide +kernel
theorem dX11_rateOf_7 : decode cX11_rateOf 7 = .ok (.iload_n 2, 1) := by decide +kernel
theorem dX11_rateOf_8 : decode cX11_rateOf 8 = .ok (.if_icmp .ge 27, 3) := by decide +kernel
theorem dX11_rateOf_11 : decode cX11_rateOf 11 = .ok (.iload_n 3, 1) := by decide +kernel
theorem dX11_rateOf_12 : decode cX11_rateOf 12 = .ok (.aload_n 0, 1) := by decide +kernel
theorem dX11_rateOf_13 : decode cX11_rateOf 13 = .ok (.getfield 17, 3) := by decide +kernel
theorem dX11_rateOf_16 : decode cX11_rateOf 16 = .ok (.sipush 148, 3) := by decide +kernel
theorem dX11_rateOf_19 : decode cX11_rateOf 19 = .ok (.iconst 5, 1) := by decide +kernel
theorem dX11_rateOf_20 : decode cX11_rateOf 20 = .ok (.iload_n 1, 1) := by decide +kernel
theorem dX11_rateOf_21 : decode cX11_rateOf 21 = .ok (.imul, 1) := by decide +kernel
theorem dX11_rateOf_22 : decode cX11_rateOf 22 = .ok (.iadd, 1) := by decide +kernel
theorem dX11_rateOf_23 : decode cX11_rateOf 23 = .ok (.iload 4, 2) := by decide +kernel
theorem dX11_rateOf_25 : decode cX11_rateOf 25 = .ok (.iadd, 1) := by decide +kernel
theorem dX11_rateOf_26 : decode cX11_rateOf 26 = .ok (.iaload, 1) := by decide +kernel
theorem dX11_rateOf_27 : decode cX11_rateOf 27 = .ok (.iadd, 1) := by decide +kernel
theorem dX11_rateOf_28 : decode cX11_rateOf 28 = .ok (.istore_n 3, 1) := by decide +kernel
theorem dX11_rateOf_29 : decode cX11_rateOf 29 = .ok (.iinc 4 1, 3) := by decide +kernel
theorem dX11_rateOf_32 : decode cX11_rateOf 32 = .ok (.goto (-27), 3) := by decide +kernel
theorem dX11_rateOf_35 : decode cX11_rateOf 35 = .ok (.iload_n 3, 1) := by decide +kernel
theorem dX11_rateOf_36 : decode cX11_rateOf 36 = .ok (.ireturn, 1) := by decide +kernel
theorem dX11_isIn_0 : decode cX11_isIn 0 = .ok (.aload_n 0, 1) := by decide +kernel
theorem dX11_isIn_1 : decode cX11_isIn 1 = .ok (.getfield 24, 3) := by decide +kernel
theorem dX11_isIn_4 : decode cX11_isIn 4 = .ok (.bipush 80, 2) := by decide +kernel
theorem dX11_isIn_6 : decode cX11_isIn 6 = .ok (.iload_n 1, 1) := by decide +kernel
theorem dX11_isIn_7 : decode cX11_isIn 7 = .ok (.iadd, 1) := by decide +kernel
theorem dX11_isIn_8 : decode cX11_isIn 8 = .ok (.iaload, 1) := by decide +kernel
theorem dX11_isIn_9 : decode cX11_isIn 9 = .ok (.iconst (-1), 1) := by decide +kernel
theorem dX11_isIn_10 : decode cX11_isIn 10 = .ok (.if_icmp .eq 7, 3) := by decide +kernel
theorem dX11_isIn_13 : decode cX11_isIn 13 = .ok (.iconst 1, 1) := by decide +kernel
theorem dX11_isIn_14 : decode cX11_isIn 14 = .ok (.goto 4, 3) := by decide +kernel
theorem dX11_isIn_17 : decode cX11_isIn 17 = .ok (.iconst 0, 1) := by decide +kernel
theorem dX11_isIn_18 : decode cX11_isIn 18 = .ok (.ireturn, 1) := by decide +kernel
theorem dX11_up_0 : decode cX11_up 0 = .ok (.aload_n 0, 1) := by decide +kernel
theorem dX11_up_1 : decode cX11_up 1 = .ok (.getfield 24, 3) := by decide +kernel
theorem dX11_up_4 : decode cX11_up 4 = .ok (.bipush 80, 2) := by decide +kernel
theorem dX11_up_6 : decode cX11_up 6 = .ok (.iload_n 1, 1) := by decide +kernel
theorem dX11_up_7 : decode cX11_up 7 = .ok (.iadd, 1) := by decide +kernel
theorem dX11_up_8 : decode cX11_up 8 = .ok (.iaload, 1) := by decide +kernel
theorem dX11_up_9 : decode cX11_up 9 = .ok (.ireturn, 1) := by decide +kernel
theorem dX11_has_0 : decode cX11_has 0 = .ok (.aload_n 0, 1) := by decide +kernel
theorem dX11_has_1 : decode cX11_has 1 = .ok (.getfield 24, 3) := by decide +kernel
theorem dX11_has_4 : decode cX11_has 4 = .ok (.bipush 64, 2) := by decide +kernel
theorem dX11_has_6 : decode cX11_has 6 = .ok (.iload_n 1, 1) := by decide +kernel
theorem dX11_has_7 : decode cX11_has 7 = .ok (.iadd, 1) := by decide +kernel
theorem dX11_has_8 : decode cX11_has 8 = .ok (.iaload, 1) := by decide +kernel
theorem dX11_has_9 : decode cX11_has 9 = .ok (.iload_n 2, 1) := by decide +kernel
theorem dX11_has_10 : decode cX11_has 10 = .ok (.ishr, 1) := by decide +kernel
theorem dX11_has_11 : decode cX11_has 11 = .ok (.iconst 1, 1) := by decide +kernel
theorem dX11_has_12 : decode cX11_has 12 = .ok (.iand, 1) := by decide +kernel
theorem dX11_has_13 : decode cX11_has 13 = .ok (.iconst 1, 1) := by decide +kernel
theorem dX11_has_14 : decode cX11_has 14 = .ok (.if_icmp .ne 7, 3) := by decide +kernel
theorem dX11_has_17 : decode cX11_has 17 = .ok (.iconst 1, 1) := by decide +kernel
theorem dX11_has_18 : decode cX11_has 18 = .ok (.goto 4, 3) := by decide +kernel
theorem dX11_has_21 : decode cX11_has 21 = .ok (.iconst 0, 1) := by decide +kernel
theorem dX11_has_22 : decode cX11_has 22 = .ok (.ireturn, 1) := by decide +kernel
theorem dX11_depth_0 : decode cX11_depth 0 = .ok (.iconst 0, 1) := by decide +kernel
theorem dX11_depth_1 : decode cX11_depth 1 = .ok (.istore_n 2, 1) := by decide +kernel
theorem dX11_depth_2 : decode cX11_depth 2 = .ok (.iload_n 1, 1) := by decide +kernel
theorem dX11_depth_3 : decode cX11_depth 3 = .ok (.istore_n 3, 1) := by decide +kernel
theorem dX11_depth_4 : decode cX11_depth 4 = .ok (.iload_n 3, 1) := by decide +kernel
theorem dX11_depth_5 : decode cX11_depth 5 = .ok (.ifCond .eq 15, 3) := by decide +kernel
theorem dX11_depth_8 : decode cX11_depth 8 = .ok (.iinc 2 1, 3) := by decide +kernel
theorem dX11_depth_11 : decode cX11_depth 11 = .ok (.aload_n 0, 1) := by decide +kernel
theorem dX11_depth_12 : decode cX11_depth 12 = .ok (.iload_n 3, 1) := by decide +kernel
theorem dX11_depth_13 : decode cX11_depth 13 = .ok (.invokevirtual 182, 3) := by decide +kernel
theorem dX11_depth_16 : decode cX11_depth 16 = .ok (.istore_n 3, 1) := by decide +kernel
theorem dX11_depth_17 : decode cX11_depth 17 = .ok (.goto (-13), 3) := by decide +kernel
theorem dX11_depth_20 : decode cX11_depth 20 = .ok (.iload_n 2, 1) := by decide +kernel
theorem dX11_depth_21 : decode cX11_depth 21 = .ok (.ireturn, 1) := by decide +kernel
theorem dX11_delayTo_0 : decode cX11_delayTo 0 = .ok (.iconst 0, 1) := by decide +kernel
theorem dX11_delayTo_1 : decode cX11_delayTo 1 = .ok (.istore_n 2, 1) := by decide +kernel
theorem dX11_delayTo_2 : decode cX11_delayTo 2 = .ok (.iload_n 1, 1) := by decide +kernel
theorem dX11_delayTo_3 : decode cX11_delayTo 3 = .ok (.istore_n 3, 1) := by decide +kernel
theorem dX11_delayTo_4 : decode cX11_delayTo 4 = .ok (.iload_n 3, 1) := by decide +kernel
theorem dX11_delayTo_5 : decode cX11_delayTo 5 = .ok (.ifCond .eq 29, 3) := by decide +kernel
theorem dX11_delayTo_8 : decode cX11_delayTo 8 = .ok (.iload_n 2, 1) := by decide +kernel
theorem dX11_delayTo_9 : decode cX11_delayTo 9 = .ok (.aload_n 0, 1) := by decide +kernel
theorem dX11_delayTo_10 : decode cX11_delayTo 10 = .ok (.aload_n 0, 1) := by decide +kernel
theorem dX11_delayTo_11 : decode cX11_delayTo 11 = .ok (.iload_n 3, 1) := by decide +kernel
theorem dX11_delayTo_12 : decode cX11_delayTo 12 = .ok (.aload_n 0, 1) := by decide +kernel
theorem dX11_delayTo_13 : decode cX11_delayTo 13 = .ok (.iload_n 3, 1) := by decide +kernel
theorem dX11_delayTo_14 : decode cX11_delayTo 14 = .ok (.invokevirtual 182, 3) := by decide +kernel
theorem dX11_delayTo_17 : decode cX11_delayTo 17 = .ok (.invokevirtual 186, 3) := by decide +kernel
theorem dX11_delayTo_20 : decode cX11_delayTo 20 = .ok (.invokevirtual 189, 3) := by decide +kernel
theorem dX11_delayTo_23 : decode cX11_delayTo 23 = .ok (.iadd, 1) := by decide +kernel
theorem dX11_delayTo_24 : decode cX11_delayTo 24 = .ok (.istore_n 2, 1) := by decide +kernel
theorem dX11_delayTo_25 : decode cX11_delayTo 25 = .ok (.aload_n 0, 1) := by decide +kernel
theorem dX11_delayTo_26 : decode cX11_delayTo 26 = .ok (.iload_n 3, 1) := by decide +kernel
theorem dX11_delayTo_27 : decode cX11_delayTo 27 = .ok (.invokevirtual 182, 3) := by decide +kernel
theorem dX11_delayTo_30 : decode cX11_delayTo 30 = .ok (.istore_n 3, 1) := by decide +kernel
theorem dX11_delayTo_31 : decode cX11_delayTo 31 = .ok (.goto (-27), 3) := by decide +kernel
theorem dX11_delayTo_34 : decode cX11_delayTo 34 = .ok (.iload_n 2, 1) := by decide +kernel
theorem dX11_delayTo_35 : decode cX11_delayTo 35 = .ok (.ireturn, 1) := by decide +kernel
theorem dX11_wants_0 : decode cX11_wants 0 = .ok (.aload_n 0, 1) := by decide +kernel
theorem dX11_wants_1 : decode cX11_wants 1 = .ok (.getfield 33, 3) := by decide +kernel
theorem dX11_wants_4 : decode cX11_wants 4 = .ok (.iconst 4, 1) := by decide +kernel
theorem dX11_wants_5 : decode cX11_wants 5 = .ok (.iload_n 1, 1) := by decide +kernel
theorem dX11_wants_6 : decode cX11_wants 6 = .ok (.imul, 1) := by decide +kernel
theorem dX11_wants_7 : decode cX11_wants 7 = .ok (.iload_n 2, 1) := by decide +kernel
theorem dX11_wants_8 : decode cX11_wants 8 = .ok (.iadd, 1) := by decide +kernel
theorem dX11_wants_9 : decode cX11_wants 9 = .ok (.aload_n 0, 1) := by decide +kernel
theorem dX11_wants_10 : decode cX11_wants 10 = .ok (.getfield 33, 3) := by decide +kernel
theorem dX11_wants_13 : decode cX11_wants 13 = .ok (.iconst 4, 1) := by decide +kernel
theorem dX11_wants_14 : decode cX11_wants 14 = .ok (.iload_n 1, 1) := by decide +kernel
theorem dX11_wants_15 : decode cX11_wants 15 = .ok (.imul, 1) := by decide +kernel
theorem dX11_wants_16 : decode cX11_wants 16 = .ok (.iload_n 2, 1) := by decide +kernel
theorem dX11_wants_17 : decode cX11_wants 17 = .ok (.iadd, 1) := by decide +kernel
theorem dX11_wants_18 : decode cX11_wants 18 = .ok (.iaload, 1) := by decide +kernel
theorem dX11_wants_19 : decode cX11_wants 19 = .ok (.iload_n 3, 1) := by decide +kernel
theorem dX11_wants_20 : decode cX11_wants 20 = .ok (.invokestatic 192, 3) := by decide +kernel
theorem dX11_wants_23 : decode cX11_wants 23 = .ok (.iastore, 1) := by decide +kernel
theorem dX11_wants_24 : decode cX11_wants 24 = .ok (.return_, 1) := by decide +kernel
theorem dX11_asksFrom_0 : decode cX11_asksFrom 0 = .ok (.iconst 1, 1) := by decide +kernel
theorem dX11_asksFrom_1 : decode cX11_asksFrom 1 = .ok (.istore_n 2, 1) := by decide +kernel
theorem dX11_asksFrom_2 : decode cX11_asksFrom 2 = .ok (.iload_n 2, 1) := by decide +kernel
theorem dX11_asksFrom_3 : decode cX11_asksFrom 3 = .ok (.aload_n 0, 1) := by decide +kernel
theorem dX11_asksFrom_4 : decode cX11_asksFrom 4 = .ok (.getfield 17, 3) := by decide +kernel
theorem dX11_asksFrom_7 : decode cX11_asksFrom 7 = .ok (.iconst 2, 1) := by decide +kernel
theorem dX11_asksFrom_8 : decode cX11_asksFrom 8 = .ok (.iaload, 1) := by decide +kernel
theorem dX11_asksFrom_9 : decode cX11_asksFrom 9 = .ok (.if_icmp .ge 64, 3) := by decide +kernel
theorem dX11_asksFrom_12 : decode cX11_asksFrom 12 = .ok (.aload_n 0, 1) := by decide +kernel
theorem dX11_asksFrom_13 : decode cX11_asksFrom 13 = .ok (.iload_n 1, 1) := by decide +kernel
theorem dX11_asksFrom_14 : decode cX11_asksFrom 14 = .ok (.iload_n 2, 1) := by decide +kernel
theorem dX11_asksFrom_15 : decode cX11_asksFrom 15 = .ok (.invokevirtual 195, 3) := by decide +kernel
theorem dX11_asksFrom_18 : decode cX11_asksFrom 18 = .ok (.ifCond .eq 49, 3) := by decide +kernel
theorem dX11_asksFrom_21 : decode cX11_asksFrom 21 = .ok (.aload_n 0, 1) := by decide +kernel
theorem dX11_asksFrom_22 : decode cX11_asksFrom 22 = .ok (.iload_n 1, 1) := by decide +kernel
theorem dX11_asksFrom_23 : decode cX11_asksFrom 23 = .ok (.iconst 0, 1) := by decide +kernel
theorem dX11_asksFrom_24 : decode cX11_asksFrom 24 = .ok (.aload_n 0, 1) := by decide +kernel
theorem dX11_asksFrom_25 : decode cX11_asksFrom 25 = .ok (.getfield 33, 3) := by decide +kernel
theorem dX11_asksFrom_28 : decode cX11_asksFrom 28 = .ok (.iconst 4, 1) := by decide +kernel
theorem dX11_asksFrom_29 : decode cX11_asksFrom 29 = .ok (.iload_n 1, 1) := by decide +kernel
theorem dX11_asksFrom_30 : decode cX11_asksFrom 30 = .ok (.imul, 1) := by decide +kernel
theorem dX11_asksFrom_31 : decode cX11_asksFrom 31 = .ok (.iload_n 2, 1) := by decide +kernel
theorem dX11_asksFrom_32 : decode cX11_asksFrom 32 = .ok (.iadd, 1) := by decide +kernel
theorem dX11_asksFrom_33 : decode cX11_asksFrom 33 = .ok (.iaload, 1) := by decide +kernel
theorem dX11_asksFrom_34 : decode cX11_asksFrom 34 = .ok (.invokevirtual 198, 3) := by decide +kernel
theorem dX11_asksFrom_37 : decode cX11_asksFrom 37 = .ok (.aload_n 0, 1) := by decide +kernel
theorem dX11_asksFrom_38 : decode cX11_asksFrom 38 = .ok (.getfield 42, 3) := by decide +kernel
theorem dX11_asksFrom_41 : decode cX11_asksFrom 41 = .ok (.iload_n 1, 1) := by decide +kernel
theorem dX11_asksFrom_42 : decode cX11_asksFrom 42 = .ok (.dup2, 1) := by decide +kernel
theorem dX11_asksFrom_43 : decode cX11_asksFrom 43 = .ok (.iaload, 1) := by decide +kernel
theorem dX11_asksFrom_44 : decode cX11_asksFrom 44 = .ok (.aload_n 0, 1) := by decide +kernel
theorem dX11_asksFrom_45 : decode cX11_asksFrom 45 = .ok (.getfield 17, 3) := by decide +kernel
theorem dX11_asksFrom_48 : decode cX11_asksFrom 48 = .ok (.sipush 168, 3) := by decide +kernel
theorem dX11_asksFrom_51 : decode cX11_asksFrom 51 = .ok (.iload_n 2, 1) := by decide +kernel
theorem dX11_asksFrom_52 : decode cX11_asksFrom 52 = .ok (.iadd, 1) := by decide +kernel
theorem dX11_asksFrom_53 : decode cX11_asksFrom 53 = .ok (.iaload, 1) := by decide +kernel
theorem dX11_asksFrom_54 : decode cX11_asksFrom 54 = .ok (.aload_n 0, 1) := by decide +kernel
theorem dX11_asksFrom_55 : decode cX11_asksFrom 55 = .ok (.getfield 33, 3) := by decide +kernel
theorem dX11_asksFrom_58 : decode cX11_asksFrom 58 = .ok (.iconst 4, 1) := by decide +kernel
theorem dX11_asksFrom_59 : decode cX11_asksFrom 59 = .ok (.iload_n 1, 1) := by decide +kernel
theorem dX11_asksFrom_60 : decode cX11_asksFrom 60 = .ok (.imul, 1) := by decide +kernel
theorem dX11_asksFrom_61 : decode cX11_asksFrom 61 = .ok (.iload_n 2, 1) := by decide +kernel
theorem dX11_asksFrom_62 : decode cX11_asksFrom 62 = .ok (.iadd, 1) := by decide +kernel
theorem dX11_asksFrom_63 : decode cX11_asksFrom 63 = .ok (.iaload, 1) := by decide +kernel
theorem dX11_asksFrom_64 : decode cX11_asksFrom 64 = .ok (.imul, 1) := by decide +kernel
theorem dX11_asksFrom_65 : decode cX11_asksFrom 65 = .ok (.iadd, 1) := by decide +kernel
theorem dX11_asksFrom_66 : decode cX11_asksFrom 66 = .ok (.iastore, 1) := by decide +kernel
theorem dX11_asksFrom_67 : decode cX11_asksFrom 67 = .ok (.iinc 2 1, 3) := by decide +kernel
theorem dX11_asksFrom_70 : decode cX11_asksFrom 70 = .ok (.goto (-68), 3) := by decide +kernel
theorem dX11_asksFrom_73 : decode cX11_asksFrom 73 = .ok (.iconst 0, 1) := by decide +kernel
theorem dX11_asksFrom_74 : decode cX11_asksFrom 74 = .ok (.istore_n 2, 1) := by decide +kernel
theorem dX11_asksFrom_75 : decode cX11_asksFrom 75 = .ok (.iconst 0, 1) := by decide +kernel
theorem dX11_asksFrom_76 : decode cX11_asksFrom 76 = .ok (.istore_n 3, 1) := by decide +kernel
theorem dX11_asksFrom_77 : decode cX11_asksFrom 77 = .ok (.iload_n 3, 1) := by decide +kernel
theorem dX11_asksFrom_78 : decode cX11_asksFrom 78 = .ok (.aload_n 0, 1) := by decide +kernel
theorem dX11_asksFrom_79 : decode cX11_asksFrom 79 = .ok (.getfield 17, 3) := by decide +kernel
theorem dX11_asksFrom_82 : decode cX11_asksFrom 82 = .ok (.iconst 2, 1) := by decide +kernel
theorem dX11_asksFrom_83 : decode cX11_asksFrom 83 = .ok (.iaload, 1) := by decide +kernel
theorem dX11_asksFrom_84 : decode cX11_asksFrom 84 = .ok (.if_icmp .ge 60, 3) := by decide +kernel
theorem dX11_asksFrom_87 : decode cX11_asksFrom 87 = .ok (.iload_n 3, 1) := by decide +kernel
theorem dX11_asksFrom_88 : decode cX11_asksFrom 88 = .ok (.ifCond .le 16, 3) := by decide +kernel
theorem dX11_asksFrom_91 : decode cX11_asksFrom 91 = .ok (.aload_n 0, 1) := by decide +kernel
theorem dX11_asksFrom_92 : decode cX11_asksFrom 92 = .ok (.iload_n 1, 1) := by decide +kernel
theorem dX11_asksFrom_93 : decode cX11_asksFrom 93 = .ok (.iload_n 3, 1) := by decide +kernel
theorem dX11_asksFrom_94 : decode cX11_asksFrom 94 = .ok (.invokevirtual 195, 3) := by decide +kernel
theorem dX11_asksFrom_97 : decode cX11_asksFrom 97 = .ok (.ifCond .eq 7, 3) := by decide +kernel
theorem dX11_asksFrom_100 : decode cX11_asksFrom 100 = .ok (.iconst 0, 1) := by decide +kernel
theorem dX11_asksFrom_101 : decode cX11_asksFrom 101 = .ok (.goto 13, 3) := by decide +kernel
theorem dX11_asksFrom_104 : decode cX11_asksFrom 104 = .ok (.aload_n 0, 1) := by decide +kernel
theorem dX11_asksFrom_105 : decode cX11_asksFrom 105 = .ok (.getfield 33, 3) := by decide +kernel
theorem dX11_asksFrom_108 : decode cX11_asksFrom 108 = .ok (.iconst 4, 1) := by decide +kernel
theorem dX11_asksFrom_109 : decode cX11_asksFrom 109 = .ok (.iload_n 1, 1) := by decide +kernel
theorem dX11_asksFrom_110 : decode cX11_asksFrom 110 = .ok (.imul, 1) := by decide +kernel
theorem dX11_asksFrom_111 : decode cX11_asksFrom 111 = .ok (.iload_n 3, 1) := by decide +kernel
theorem dX11_asksFrom_112 : decode cX11_asksFrom 112 = .ok (.iadd, 1) := by decide +kernel
theorem dX11_asksFrom_113 : decode cX11_asksFrom 113 = .ok (.iaload, 1) := by decide +kernel
theorem dX11_asksFrom_114 : decode cX11_asksFrom 114 = .ok (.istore 4, 2) := by decide +kernel
theorem dX11_asksFrom_116 : decode cX11_asksFrom 116 = .ok (.aload_n 0, 1) := by decide +kernel
theorem dX11_asksFrom_117 : decode cX11_asksFrom 117 = .ok (.getfield 36, 3) := by decide +kernel
theorem dX11_asksFrom_120 : decode cX11_asksFrom 120 = .ok (.iconst 4, 1) := by decide +kernel
theorem dX11_asksFrom_121 : decode cX11_asksFrom 121 = .ok (.iload_n 1, 1) := by decide +kernel
theorem dX11_asksFrom_122 : decode cX11_asksFrom 122 = .ok (.imul, 1) := by decide +kernel
theorem dX11_asksFrom_123 : decode cX11_asksFrom 123 = .ok (.iload_n 3, 1) := by decide +kernel
theorem dX11_asksFrom_124 : decode cX11_asksFrom 124 = .ok (.iadd, 1) := by decide +kernel
theorem dX11_asksFrom_125 : decode cX11_asksFrom 125 = .ok (.iload 4, 2) := by decide +kernel
theorem dX11_asksFrom_127 : decode cX11_asksFrom 127 = .ok (.iastore, 1) := by decide +kernel
theorem dX11_asksFrom_128 : decode cX11_asksFrom 128 = .ok (.iload_n 2, 1) := by decide +kernel
theorem dX11_asksFrom_129 : decode cX11_asksFrom 129 = .ok (.aload_n 0, 1) := by decide +kernel
theorem dX11_asksFrom_130 : decode cX11_asksFrom 130 = .ok (.iload_n 3, 1) := by decide +kernel
theorem dX11_asksFrom_131 : decode cX11_asksFrom 131 = .ok (.iload 4, 2) := by decide +kernel
theorem dX11_asksFrom_133 : decode cX11_asksFrom 133 = .ok (.invokevirtual 202, 3) := by decide +kernel
theorem dX11_asksFrom_136 : decode cX11_asksFrom 136 = .ok (.iadd, 1) := by decide +kernel
theorem dX11_asksFrom_137 : decode cX11_asksFrom 137 = .ok (.istore_n 2, 1) := by decide +kernel
theorem dX11_asksFrom_138 : decode cX11_asksFrom 138 = .ok (.iinc 3 1, 3) := by decide +kernel
theorem dX11_asksFrom_141 : decode cX11_asksFrom 141 = .ok (.goto (-64), 3) := by decide +kernel
theorem dX11_asksFrom_144 : decode cX11_asksFrom 144 = .ok (.iload_n 1, 1) := by decide +kernel
theorem dX11_asksFrom_145 : decode cX11_asksFrom 145 = .ok (.ifCond .ne 4, 3) := by decide +kernel
theorem dX11_asksFrom_148 : decode cX11_asksFrom 148 = .ok (.return_, 1) := by decide +kernel
theorem dX11_asksFrom_149 : decode cX11_asksFrom 149 = .ok (.aload_n 0, 1) := by decide +kernel
theorem dX11_asksFrom_150 : decode cX11_asksFrom 150 = .ok (.getfield 39, 3) := by decide +kernel
theorem dX11_asksFrom_153 : decode cX11_asksFrom 153 = .ok (.aload_n 0, 1) := by decide +kernel
theorem dX11_asksFrom_154 : decode cX11_asksFrom 154 = .ok (.iload_n 1, 1) := by decide +kernel
theorem dX11_asksFrom_155 : decode cX11_asksFrom 155 = .ok (.aload_n 0, 1) := by decide +kernel
theorem dX11_asksFrom_156 : decode cX11_asksFrom 156 = .ok (.iload_n 1, 1) := by decide +kernel
