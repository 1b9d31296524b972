theorem dX11_lowerEnd_15 : decode cX11_lowerEnd 15 = .ok (.iload_n 2, 1) := by decide +kernel
theorem dX11_lowerEnd_16 : decode cX11_lowerEnd 16 = .ok (.invokevirtual 205, 3) := by decide +kernel
theorem dX11_lowerEnd_19 : decode cX11_lowerEnd 19 = .ok (.ifCond .eq 16, 3) := by decide +kernel
theorem dX11_lowerEnd_22 : decode cX11_lowerEnd 22 = .ok (.aload_n 0, 1) := by decide +kernel
theorem dX11_lowerEnd_23 : decode cX11_lowerEnd 23 = .ok (.iload_n 2, 1) := by decide +kernel
theorem dX11_lowerEnd_24 : decode cX11_lowerEnd 24 = .ok (.invokevirtual 182, 3) := by decide +kernel
theorem dX11_lowerEnd_27 : decode cX11_lowerEnd 27 = .ok (.iload_n 3, 1) := by decide +kernel
theorem dX11_lowerEnd_28 : decode cX11_lowerEnd 28 = .ok (.if_icmp .ne 7, 3) := by decide +kernel
theorem dX11_lowerEnd_31 : decode cX11_lowerEnd 31 = .ok (.iload_n 2, 1) := by decide +kernel
theorem dX11_lowerEnd_32 : decode cX11_lowerEnd 32 = .ok (.goto 26, 3) := by decide +kernel
theorem dX11_lowerEnd_35 : decode cX11_lowerEnd 35 = .ok (.aload_n 0, 1) := by decide +kernel
theorem dX11_lowerEnd_36 : decode cX11_lowerEnd 36 = .ok (.iload_n 3, 1) := by decide +kernel
theorem dX11_lowerEnd_37 : decode cX11_lowerEnd 37 = .ok (.invokevirtual 205, 3) := by decide +kernel
theorem dX11_lowerEnd_40 : decode cX11_lowerEnd 40 = .ok (.ifCond .eq 16, 3) := by decide +kernel
theorem dX11_lowerEnd_43 : decode cX11_lowerEnd 43 = .ok (.aload_n 0, 1) := by decide +kernel
theorem dX11_lowerEnd_44 : decode cX11_lowerEnd 44 = .ok (.iload_n 3, 1) := by decide +kernel
theorem dX11_lowerEnd_45 : decode cX11_lowerEnd 45 = .ok (.invokevirtual 182, 3) := by decide +kernel
theorem dX11_lowerEnd_48 : decode cX11_lowerEnd 48 = .ok (.iload_n 2, 1) := by decide +kernel
theorem dX11_lowerEnd_49 : decode cX11_lowerEnd 49 = .ok (.if_icmp .ne 7, 3) := by decide +kernel
theorem dX11_lowerEnd_52 : decode cX11_lowerEnd 52 = .ok (.iload_n 3, 1) := by decide +kernel
theorem dX11_lowerEnd_53 : decode cX11_lowerEnd 53 = .ok (.goto 5, 3) := by decide +kernel
theorem dX11_lowerEnd_56 : decode cX11_lowerEnd 56 = .ok (.bipush (-2), 2) := by decide +kernel
theorem dX11_lowerEnd_58 : decode cX11_lowerEnd 58 = .ok (.ireturn, 1) := by decide +kernel
theorem dX11_isBelow_0 : decode cX11_isBelow 0 = .ok (.iload_n 1, 1) := by decide +kernel
theorem dX11_isBelow_1 : decode cX11_isBelow 1 = .ok (.istore_n 3, 1) := by decide +kernel
theorem dX11_isBelow_2 : decode cX11_isBelow 2 = .ok (.iload_n 3, 1) := by decide +kernel
theorem dX11_isBelow_3 : decode cX11_isBelow 3 = .ok (.ifCond .eq 17, 3) := by decide +kernel
theorem dX11_isBelow_6 : decode cX11_isBelow 6 = .ok (.iload_n 3, 1) := by decide +kernel
theorem dX11_isBelow_7 : decode cX11_isBelow 7 = .ok (.iload_n 2, 1) := by decide +kernel
theorem dX11_isBelow_8 : decode cX11_isBelow 8 = .ok (.if_icmp .eq 12, 3) := by decide +kernel
theorem dX11_isBelow_11 : decode cX11_isBelow 11 = .ok (.aload_n 0, 1) := by decide +kernel
theorem dX11_isBelow_12 : decode cX11_isBelow 12 = .ok (.iload_n 3, 1) := by decide +kernel
theorem dX11_isBelow_13 : decode cX11_isBelow 13 = .ok (.invokevirtual 182, 3) := by decide +kernel
theorem dX11_isBelow_16 : decode cX11_isBelow 16 = .ok (.istore_n 3, 1) := by decide +kernel
theorem dX11_isBelow_17 : decode cX11_isBelow 17 = .ok (.goto (-15), 3) := by decide +kernel
theorem dX11_isBelow_20 : decode cX11_isBelow 20 = .ok (.iload_n 3, 1) := by decide +kernel
theorem dX11_isBelow_21 : decode cX11_isBelow 21 = .ok (.iload_n 2, 1) := by decide +kernel
theorem dX11_isBelow_22 : decode cX11_isBelow 22 = .ok (.if_icmp .ne 7, 3) := by decide +kernel
theorem dX11_isBelow_25 : decode cX11_isBelow 25 = .ok (.iconst 1, 1) := by decide +kernel
theorem dX11_isBelow_26 : decode cX11_isBelow 26 = .ok (.goto 4, 3) := by decide +kernel
theorem dX11_isBelow_29 : decode cX11_isBelow 29 = .ok (.iconst 0, 1) := by decide +kernel
theorem dX11_isBelow_30 : decode cX11_isBelow 30 = .ok (.ireturn, 1) := by decide +kernel
theorem dX11_closes_0 : decode cX11_closes 0 = .ok (.aload_n 0, 1) := by decide +kernel
theorem dX11_closes_1 : decode cX11_closes 1 = .ok (.iload_n 1, 1) := by decide +kernel
theorem dX11_closes_2 : decode cX11_closes 2 = .ok (.invokevirtual 308, 3) := by decide +kernel
theorem dX11_closes_5 : decode cX11_closes 5 = .ok (.istore_n 2, 1) := by decide +kernel
theorem dX11_closes_6 : decode cX11_closes 6 = .ok (.aload_n 0, 1) := by decide +kernel
theorem dX11_closes_7 : decode cX11_closes 7 = .ok (.getfield 24, 3) := by decide +kernel
theorem dX11_closes_10 : decode cX11_closes 10 = .ok (.bipush 32, 2) := by decide +kernel
theorem dX11_closes_12 : decode cX11_closes 12 = .ok (.iload_n 1, 1) := by decide +kernel
theorem dX11_closes_13 : decode cX11_closes 13 = .ok (.iadd, 1) := by decide +kernel
theorem dX11_closes_14 : decode cX11_closes 14 = .ok (.iconst 0, 1) := by decide +kernel
theorem dX11_closes_15 : decode cX11_closes 15 = .ok (.iastore, 1) := by decide +kernel
theorem dX11_closes_16 : decode cX11_closes 16 = .ok (.iload_n 2, 1) := by decide +kernel
theorem dX11_closes_17 : decode cX11_closes 17 = .ok (.ifCond .ge 4, 3) := by decide +kernel
theorem dX11_closes_20 : decode cX11_closes 20 = .ok (.return_, 1) := by decide +kernel
theorem dX11_closes_21 : decode cX11_closes 21 = .ok (.iconst 0, 1) := by decide +kernel
theorem dX11_closes_22 : decode cX11_closes 22 = .ok (.istore_n 3, 1) := by decide +kernel
theorem dX11_closes_23 : decode cX11_closes 23 = .ok (.iload_n 3, 1) := by decide +kernel
theorem dX11_closes_24 : decode cX11_closes 24 = .ok (.aload_n 0, 1) := by decide +kernel
theorem dX11_closes_25 : decode cX11_closes 25 = .ok (.getfield 17, 3) := by decide +kernel
theorem dX11_closes_28 : decode cX11_closes 28 = .ok (.iconst 0, 1) := by decide +kernel
theorem dX11_closes_29 : decode cX11_closes 29 = .ok (.iaload, 1) := by decide +kernel
theorem dX11_closes_30 : decode cX11_closes 30 = .ok (.if_icmp .ge 37, 3) := by decide +kernel
theorem dX11_closes_33 : decode cX11_closes 33 = .ok (.aload_n 0, 1) := by decide +kernel
theorem dX11_closes_34 : decode cX11_closes 34 = .ok (.getfield 57, 3) := by decide +kernel
theorem dX11_closes_37 : decode cX11_closes 37 = .ok (.iload_n 3, 1) := by decide +kernel
theorem dX11_closes_38 : decode cX11_closes 38 = .ok (.aload_n 0, 1) := by decide +kernel
theorem dX11_closes_39 : decode cX11_closes 39 = .ok (.iload_n 3, 1) := by decide +kernel
theorem dX11_closes_40 : decode cX11_closes 40 = .ok (.invokevirtual 205, 3) := by decide +kernel
theorem dX11_closes_43 : decode cX11_closes 43 = .ok (.ifCond .eq 16, 3) := by decide +kernel
theorem dX11_closes_46 : decode cX11_closes 46 = .ok (.aload_n 0, 1) := by decide +kernel
theorem dX11_closes_47 : decode cX11_closes 47 = .ok (.iload_n 3, 1) := by decide +kernel
theorem dX11_closes_48 : decode cX11_closes 48 = .ok (.iload_n 2, 1) := by decide +kernel
theorem dX11_closes_49 : decode cX11_closes 49 = .ok (.invokevirtual 311, 3) := by decide +kernel
theorem dX11_closes_52 : decode cX11_closes 52 = .ok (.ifCond .eq 7, 3) := by decide +kernel
theorem dX11_closes_55 : decode cX11_closes 55 = .ok (.iconst 1, 1) := by decide +kernel
theorem dX11_closes_56 : decode cX11_closes 56 = .ok (.goto 4, 3) := by decide +kernel
theorem dX11_closes_59 : decode cX11_closes 59 = .ok (.iconst 0, 1) := by decide +kernel
theorem dX11_closes_60 : decode cX11_closes 60 = .ok (.bastore, 1) := by decide +kernel
theorem dX11_closes_61 : decode cX11_closes 61 = .ok (.iinc 3 1, 3) := by decide +kernel
theorem dX11_closes_64 : decode cX11_closes 64 = .ok (.goto (-41), 3) := by decide +kernel
theorem dX11_closes_67 : decode cX11_closes 67 = .ok (.iconst 0, 1) := by decide +kernel
theorem dX11_closes_68 : decode cX11_closes 68 = .ok (.istore_n 3, 1) := by decide +kernel
theorem dX11_closes_69 : decode cX11_closes 69 = .ok (.iload_n 3, 1) := by decide +kernel
theorem dX11_closes_70 : decode cX11_closes 70 = .ok (.aload_n 0, 1) := by decide +kernel
theorem dX11_closes_71 : decode cX11_closes 71 = .ok (.getfield 17, 3) := by decide +kernel
theorem dX11_closes_74 : decode cX11_closes 74 = .ok (.iconst 0, 1) := by decide +kernel
theorem dX11_closes_75 : decode cX11_closes 75 = .ok (.iaload, 1) := by decide +kernel
theorem dX11_closes_76 : decode cX11_closes 76 = .ok (.if_icmp .ge 40, 3) := by decide +kernel
theorem dX11_closes_79 : decode cX11_closes 79 = .ok (.aload_n 0, 1) := by decide +kernel
theorem dX11_closes_80 : decode cX11_closes 80 = .ok (.getfield 24, 3) := by decide +kernel
theorem dX11_closes_83 : decode cX11_closes 83 = .ok (.bipush 80, 2) := by decide +kernel
theorem dX11_closes_85 : decode cX11_closes 85 = .ok (.iload_n 3, 1) := by decide +kernel
theorem dX11_closes_86 : decode cX11_closes 86 = .ok (.iadd, 1) := by decide +kernel
theorem dX11_closes_87 : decode cX11_closes 87 = .ok (.aload_n 0, 1) := by decide +kernel
theorem dX11_closes_88 : decode cX11_closes 88 = .ok (.getfield 57, 3) := by decide +kernel
theorem dX11_closes_91 : decode cX11_closes 91 = .ok (.iload_n 3, 1) := by decide +kernel
theorem dX11_closes_92 : decode cX11_closes 92 = .ok (.baload, 1) := by decide +kernel
theorem dX11_closes_93 : decode cX11_closes 93 = .ok (.ifCond .eq 7, 3) := by decide +kernel
theorem dX11_closes_96 : decode cX11_closes 96 = .ok (.iconst (-1), 1) := by decide +kernel
theorem dX11_closes_97 : decode cX11_closes 97 = .ok (.goto 12, 3) := by decide +kernel
theorem dX11_closes_100 : decode cX11_closes 100 = .ok (.aload_n 0, 1) := by decide +kernel
theorem dX11_closes_101 : decode cX11_closes 101 = .ok (.getfield 24, 3) := by decide +kernel
theorem dX11_closes_104 : decode cX11_closes 104 = .ok (.bipush 80, 2) := by decide +kernel
theorem dX11_closes_106 : decode cX11_closes 106 = .ok (.iload_n 3, 1) := by decide +kernel
theorem dX11_closes_107 : decode cX11_closes 107 = .ok (.iadd, 1) := by decide +kernel
theorem dX11_closes_108 : decode cX11_closes 108 = .ok (.iaload, 1) := by decide +kernel
theorem dX11_closes_109 : decode cX11_closes 109 = .ok (.iastore, 1) := by decide +kernel
theorem dX11_closes_110 : decode cX11_closes 110 = .ok (.iinc 3 1, 3) := by decide +kernel
theorem dX11_closes_113 : decode cX11_closes 113 = .ok (.goto (-44), 3) := by decide +kernel
theorem dX11_closes_116 : decode cX11_closes 116 = .ok (.iconst 0, 1) := by decide +kernel
theorem dX11_closes_117 : decode cX11_closes 117 = .ok (.istore_n 3, 1) := by decide +kernel
theorem dX11_closes_118 : decode cX11_closes 118 = .ok (.iload_n 3, 1) := by decide +kernel
theorem dX11_closes_119 : decode cX11_closes 119 = .ok (.aload_n 0, 1) := by decide +kernel
theorem dX11_closes_120 : decode cX11_closes 120 = .ok (.getfield 24, 3) := by decide +kernel
theorem dX11_closes_123 : decode cX11_closes 123 = .ok (.bipush 96, 2) := by decide +kernel
theorem dX11_closes_125 : decode cX11_closes 125 = .ok (.iaload, 1) := by decide +kernel
theorem dX11_closes_126 : decode cX11_closes 126 = .ok (.if_icmp .ge 68, 3) := by decide +kernel
theorem dX11_closes_129 : decode cX11_closes 129 = .ok (.aload_n 0, 1) := by decide +kernel
theorem dX11_closes_130 : decode cX11_closes 130 = .ok (.getfield 61, 3) := by decide +kernel
theorem dX11_closes_133 : decode cX11_closes 133 = .ok (.iload_n 3, 1) := by decide +kernel
theorem dX11_closes_134 : decode cX11_closes 134 = .ok (.aload_n 0, 1) := by decide +kernel
theorem dX11_closes_135 : decode cX11_closes 135 = .ok (.iload_n 3, 1) := by decide +kernel
theorem dX11_closes_136 : decode cX11_closes 136 = .ok (.iconst 3, 1) := by decide +kernel
theorem dX11_closes_137 : decode cX11_closes 137 = .ok (.invokevirtual 176, 3) := by decide +kernel
theorem dX11_closes_140 : decode cX11_closes 140 = .ok (.ifCond .le 21, 3) := by decide +kernel
theorem dX11_closes_143 : decode cX11_closes 143 = .ok (.aload_n 0, 1) := by decide +kernel
theorem dX11_closes_144 : decode cX11_closes 144 = .ok (.getfield 57, 3) := by decide +kernel
theorem dX11_closes_147 : decode cX11_closes 147 = .ok (.aload_n 0, 1) := by decide +kernel
theorem dX11_closes_148 : decode cX11_closes 148 = .ok (.iload_n 3, 1) := by decide +kernel
theorem dX11_closes_149 : decode cX11_closes 149 = .ok (.iconst 0, 1) := by decide +kernel
theorem dX11_closes_150 : decode cX11_closes 150 = .ok (.invokevirtual 176, 3) := by decide +kernel
theorem dX11_closes_153 : decode cX11_closes 153 = .ok (.baload, 1) := by decide +kernel
theorem dX11_closes_154 : decode cX11_closes 154 = .ok (.ifCond .eq 7, 3) := by decide +kernel
theorem dX11_closes_157 : decode cX11_closes 157 = .ok (.iconst 1, 1) := by decide +kernel
theorem dX11_closes_158 : decode cX11_closes 158 = .ok (.goto 4, 3) := by decide +kernel
theorem dX11_closes_161 : decode cX11_closes 161 = .ok (.iconst 0, 1) := by decide +kernel
theorem dX11_closes_162 : decode cX11_closes 162 = .ok (.bastore, 1) := by decide +kernel
theorem dX11_closes_163 : decode cX11_closes 163 = .ok (.aload_n 0, 1) := by decide +kernel
theorem dX11_closes_164 : decode cX11_closes 164 = .ok (.iload_n 3, 1) := by decide +kernel
theorem dX11_closes_165 : decode cX11_closes 165 = .ok (.iconst 3, 1) := by decide +kernel
theorem dX11_closes_166 : decode cX11_closes 166 = .ok (.aload_n 0, 1) := by decide +kernel
theorem dX11_closes_167 : decode cX11_closes 167 = .ok (.getfield 61, 3) := by decide +kernel
theorem dX11_closes_170 : decode cX11_closes 170 = .ok (.iload_n 3, 1) := by decide +kernel
theorem dX11_closes_171 : decode cX11_closes 171 = .ok (.baload, 1) := by decide +kernel
theorem dX11_closes_172 : decode cX11_closes 172 = .ok (.ifCond .eq 7, 3) := by decide +kernel
theorem dX11_closes_175 : decode cX11_closes 175 = .ok (.iconst 0, 1) := by decide +kernel
theorem dX11_closes_176 : decode cX11_closes 176 = .ok (.goto 9, 3) := by decide +kernel
theorem dX11_closes_179 : decode cX11_closes 179 = .ok (.aload_n 0, 1) := by decide +kernel
theorem dX11_closes_180 : decode cX11_closes 180 = .ok (.iload_n 3, 1) := by decide +kernel
theorem dX11_closes_181 : decode cX11_closes 181 = .ok (.iconst 3, 1) := by decide +kernel
theorem dX11_closes_182 : decode cX11_closes 182 = .ok (.invokevirtual 176, 3) := by decide +kernel
theorem dX11_closes_185 : decode cX11_closes 185 = .ok (.invokevirtual 244, 3) := by decide +kernel
theorem dX11_closes_188 : decode cX11_closes 188 = .ok (.iinc 3 1, 3) := by decide +kernel
theorem dX11_closes_191 : decode cX11_closes 191 = .ok (.goto (-73), 3) := by decide +kernel
theorem dX11_closes_194 : decode cX11_closes 194 = .ok (.aload_n 0, 1) := by decide +kernel
theorem dX11_closes_195 : decode cX11_closes 195 = .ok (.invokevirtual 263, 3) := by decide +kernel
theorem dX11_closes_198 : decode cX11_closes 198 = .ok (.iconst 0, 1) := by decide +kernel
theorem dX11_closes_199 : decode cX11_closes 199 = .ok (.istore_n 3, 1) := by decide +kernel
theorem dX11_closes_200 : decode cX11_closes 200 = .ok (.iload_n 3, 1) := by decide +kernel
theorem dX11_closes_201 : decode cX11_closes 201 = .ok (.aload_n 0, 1) := by decide +kernel
theorem dX11_closes_202 : decode cX11_closes 202 = .ok (.getfield 24, 3) := by decide +kernel
theorem dX11_closes_205 : decode cX11_closes 205 = .ok (.bipush 96, 2) := by decide +kernel
theorem dX11_closes_207 : decode cX11_closes 207 = .ok (.iaload, 1) := by decide +kernel
theorem dX11_closes_208 : decode cX11_closes 208 = .ok (.if_icmp .ge 23, 3) := by decide +kernel
theorem dX11_closes_211 : decode cX11_closes 211 = .ok (.aload_n 0, 1) := by decide +kernel
theorem dX11_closes_212 : decode cX11_closes 212 = .ok (.getfield 61, 3) := by decide +kernel
theorem dX11_closes_215 : decode cX11_closes 215 = .ok (.iload_n 3, 1) := by decide +kernel
theorem dX11_closes_216 : decode cX11_closes 216 = .ok (.baload, 1) := by decide +kernel
theorem dX11_closes_217 : decode cX11_closes 217 = .ok (.ifCond .eq 8, 3) := by decide +kernel
theorem dX11_closes_220 : decode cX11_closes 220 = .ok (.aload_n 0, 1) := by decide +kernel
theorem dX11_closes_221 : decode cX11_closes 221 = .ok (.iload_n 3, 1) := by decide +kernel
theorem dX11_closes_222 : decode cX11_closes 222 = .ok (.invokevirtual 282, 3) := by decide +kernel
theorem dX11_closes_225 : decode cX11_closes 225 = .ok (.iinc 3 1, 3) := by decide +kernel
theorem dX11_closes_228 : decode cX11_closes 228 = .ok (.goto (-28), 3) := by decide +kernel
theorem dX11_closes_231 : decode cX11_closes 231 = .ok (.return_, 1) := by decide +kernel
theorem dX11_setOpen_0 : decode cX11_setOpen 0 = .ok (.aload_n 0, 1) := by decide +kernel
theorem dX11_setOpen_1 : decode cX11_setOpen 1 = .ok (.iload_n 1, 1) := by decide +kernel
theorem dX11_setOpen_2 : decode cX11_setOpen 2 = .ok (.invokevirtual 303, 3) := by decide +kernel
theorem dX11_setOpen_5 : decode cX11_setOpen 5 = .ok (.ifCond .ne 5, 3) := by decide +kernel
theorem dX11_setOpen_8 : decode cX11_setOpen 8 = .ok (.iconst (-1), 1) := by decide +kernel
theorem dX11_setOpen_9 : decode cX11_setOpen 9 = .ok (.ireturn, 1) := by decide +kernel
theorem dX11_setOpen_10 : decode cX11_setOpen 10 = .ok (.iload_n 2, 1) := by decide +kernel
theorem dX11_setOpen_11 : decode cX11_setOpen 11 = .ok (.ifCond .eq 7, 3) := by decide +kernel
theorem dX11_setOpen_14 : decode cX11_setOpen 14 = .ok (.iconst 1, 1) := by decide +kernel
theorem dX11_setOpen_15 : decode cX11_setOpen 15 = .ok (.goto 4, 3) := by decide +kernel
theorem dX11_setOpen_18 : decode cX11_setOpen 18 = .ok (.iconst 0, 1) := by decide +kernel
theorem dX11_setOpen_19 : decode cX11_setOpen 19 = .ok (.istore_n 3, 1) := by decide +kernel
theorem dX11_setOpen_20 : decode cX11_setOpen 20 = .ok (.aload_n 0, 1) := by decide +kernel
theorem dX11_setOpen_21 : decode cX11_setOpen 21 = .ok (.getfield 24, 3) := by decide +kernel
theorem dX11_setOpen_24 : decode cX11_setOpen 24 = .ok (.bipush 32, 2) := by decide +kernel
theorem dX11_setOpen_26 : decode cX11_setOpen 26 = .ok (.iload_n 1, 1) := by decide +kernel
theorem dX11_setOpen_27 : decode cX11_setOpen 27 = .ok (.iadd, 1) := by decide +kernel
theorem dX11_setOpen_28 : decode cX11_setOpen 28 = .ok (.iaload, 1) := by decide +kernel
theorem dX11_setOpen_29 : decode cX11_setOpen 29 = .ok (.iload_n 3, 1) := by decide +kernel
theorem dX11_setOpen_30 : decode cX11_setOpen 30 = .ok (.if_icmp .ne 6, 3) := by decide +kernel
theorem dX11_setOpen_33 : decode cX11_setOpen 33 = .ok (.bipush (-2), 2) := by decide +kernel
theorem dX11_setOpen_35 : decode cX11_setOpen 35 = .ok (.ireturn, 1) := by decide +kernel
theorem dX11_setOpen_36 : decode cX11_setOpen 36 = .ok (.aload_n 0, 1) := by decide +kernel
theorem dX11_setOpen_37 : decode cX11_setOpen 37 = .ok (.invokevirtual 275, 3) := by decide +kernel
theorem dX11_setOpen_40 : decode cX11_setOpen 40 = .ok (.aload_n 0, 1) := by decide +kernel
theorem dX11_setOpen_41 : decode cX11_setOpen 41 = .ok (.invokevirtual 314, 3) := by decide +kernel
theorem dX11_setOpen_44 : decode cX11_setOpen 44 = .ok (.istore 4, 2) := by decide +kernel
theorem dX11_setOpen_46 : decode cX11_setOpen 46 = .ok (.iload_n 2, 1) := by decide +kernel
theorem dX11_setOpen_47 : decode cX11_setOpen 47 = .ok (.ifCond .eq 16, 3) := by decide +kernel
theorem dX11_setOpen_50 : decode cX11_setOpen 50 = .ok (.aload_n 0, 1) := by decide +kernel
theorem dX11_setOpen_51 : decode cX11_setOpen 51 = .ok (.getfield 24, 3) := by decide +kernel
theorem dX11_setOpen_54 : decode cX11_setOpen 54 = .ok (.bipush 32, 2) := by decide +kernel
theorem dX11_setOpen_56 : decode cX11_setOpen 56 = .ok (.iload_n 1, 1) := by decide +kernel
theorem dX11_setOpen_57 : decode cX11_setOpen 57 = .ok (.iadd, 1) := by decide +kernel
theorem dX11_setOpen_58 : decode cX11_setOpen 58 = .ok (.iconst 1, 1) := by decide +kernel
theorem dX11_setOpen_59 : decode cX11_setOpen 59 = .ok (.iastore, 1) := by decide +kernel
theorem dX11_setOpen_60 : decode cX11_setOpen 60 = .ok (.goto 8, 3) := by decide +kernel
theorem dX11_setOpen_63 : decode cX11_setOpen 63 = .ok (.aload_n 0, 1) := by decide +kernel
theorem dX11_setOpen_64 : decode cX11_setOpen 64 = .ok (.iload_n 1, 1) := by decide +kernel
theorem dX11_setOpen_65 : decode cX11_setOpen 65 = .ok (.invokevirtual 317, 3) := by decide +kernel
theorem dX11_setOpen_68 : decode cX11_setOpen 68 = .ok (.iload 4, 2) := by decide +kernel
theorem dX11_setOpen_70 : decode cX11_setOpen 70 = .ok (.aload_n 0, 1) := by decide +kernel
theorem dX11_setOpen_71 : decode cX11_setOpen 71 = .ok (.invokevirtual 314, 3) := by decide +kernel
theorem dX11_setOpen_74 : decode cX11_setOpen 74 = .ok (.isub, 1) := by decide +kernel
theorem dX11_setOpen_75 : decode cX11_setOpen 75 = .ok (.ireturn, 1) := by decide +kernel
theorem dX11_raises_0 : decode cX11_raises 0 = .ok (.iconst 0, 1) := by decide +kernel
theorem dX11_raises_1 : decode cX11_raises 1 = .ok (.istore_n 1, 1) := by decide +kernel
theorem dX11_raises_2 : decode cX11_raises 2 = .ok (.iconst 1, 1) := by decide +kernel
theorem dX11_raises_3 : decode cX11_raises 3 = .ok (.istore_n 2, 1) := by decide +kernel
theorem dX11_raises_4 : decode cX11_raises 4 = .ok (.iload_n 2, 1) := by decide +kernel
theorem dX11_raises_5 : decode cX11_raises 5 = .ok (.ifCond .eq 72, 3) := by decide +kernel
theorem dX11_raises_8 : decode cX11_raises 8 = .ok (.iconst 0, 1) := by decide +kernel
theorem dX11_raises_9 : decode cX11_raises 9 = .ok (.istore_n 2, 1) := by decide +kernel
theorem dX11_raises_10 : decode cX11_raises 10 = .ok (.iconst 0, 1) := by decide +kernel
theorem dX11_raises_11 : decode cX11_raises 11 = .ok (.istore_n 3, 1) := by decide +kernel
theorem dX11_raises_12 : decode cX11_raises 12 = .ok (.iload_n 3, 1) := by decide +kernel
theorem dX11_raises_13 : decode cX11_raises 13 = .ok (.aload_n 0, 1) := by decide +kernel
theorem dX11_raises_14 : decode cX11_raises 14 = .ok (.getfield 24, 3) := by decide +kernel
theorem dX11_raises_17 : decode cX11_raises 17 = .ok (.bipush 96, 2) := by decide +kernel
theorem dX11_raises_19 : decode cX11_raises 19 = .ok (.iaload, 1) := by decide +kernel
theorem dX11_raises_20 : decode cX11_raises 20 = .ok (.if_icmp .ge 54, 3) := by decide +kernel
theorem dX11_raises_23 : decode cX11_raises 23 = .ok (.aload_n 0, 1) := by decide +kernel
theorem dX11_raises_24 : decode cX11_raises 24 = .ok (.iload_n 3, 1) := by decide +kernel
theorem dX11_raises_25 : decode cX11_raises 25 = .ok (.iconst 4, 1) := by decide +kernel
theorem dX11_raises_26 : decode cX11_raises 26 = .ok (.invokevirtual 176, 3) := by decide +kernel
theorem dX11_raises_29 : decode cX11_raises 29 = .ok (.ifCond .ne 39, 3) := by decide +kernel
theorem dX11_raises_32 : decode cX11_raises 32 = .ok (.aload_n 0, 1) := by decide +kernel
theorem dX11_raises_33 : decode cX11_raises 33 = .ok (.iload_n 3, 1) := by decide +kernel
theorem dX11_raises_34 : decode cX11_raises 34 = .ok (.iconst 3, 1) := by decide +kernel
theorem dX11_raises_35 : decode cX11_raises 35 = .ok (.invokevirtual 176, 3) := by decide +kernel
theorem dX11_raises_38 : decode cX11_raises 38 = .ok (.aload_n 0, 1) := by decide +kernel
theorem dX11_raises_39 : decode cX11_raises 39 = .ok (.iload_n 3, 1) := by decide +kernel
theorem dX11_raises_40 : decode cX11_raises 40 = .ok (.iconst 2, 1) := by decide +kernel
theorem dX11_raises_41 : decode cX11_raises 41 = .ok (.invokevirtual 176, 3) := by decide +kernel
theorem dX11_raises_44 : decode cX11_raises 44 = .ok (.if_icmp .ge 24, 3) := by decide +kernel
theorem dX11_raises_47 : decode cX11_raises 47 = .ok (.aload_n 0, 1) := by decide +kernel
theorem dX11_raises_48 : decode cX11_raises 48 = .ok (.iload_n 3, 1) := by decide +kernel
theorem dX11_raises_49 : decode cX11_raises 49 = .ok (.aload_n 0, 1) := by decide +kernel
theorem dX11_raises_50 : decode cX11_raises 50 = .ok (.iload_n 3, 1) := by decide +kernel
theorem dX11_raises_51 : decode cX11_raises 51 = .ok (.iconst 3, 1) := by decide +kernel
theorem dX11_raises_52 : decode cX11_raises 52 = .ok (.invokevirtual 176, 3) := by decide +kernel
theorem dX11_raises_55 : decode cX11_raises 55 = .ok (.iconst 1, 1) := by decide +kernel
theorem dX11_raises_56 : decode cX11_raises 56 = .ok (.iadd, 1) := by decide +kernel
theorem dX11_raises_57 : decode cX11_raises 57 = .ok (.invokevirtual 251, 3) := by decide +kernel
theorem dX11_raises_60 : decode cX11_raises 60 = .ok (.ifCond .eq 8, 3) := by decide +kernel
theorem dX11_raises_63 : decode cX11_raises 63 = .ok (.iinc 1 1, 3) := by decide +kernel
theorem dX11_raises_66 : decode cX11_raises 66 = .ok (.iconst 1, 1) := by decide +kernel
theorem dX11_raises_67 : decode cX11_raises 67 = .ok (.istore_n 2, 1) := by decide +kernel
theorem dX11_raises_68 : decode cX11_raises 68 = .ok (.iinc 3 1, 3) := by decide +kernel
theorem dX11_raises_71 : decode cX11_raises 71 = .ok (.goto (-59), 3) := by decide +kernel
theorem dX11_raises_74 : decode cX11_raises 74 = .ok (.goto (-70), 3) := by decide +kernel
theorem dX11_raises_77 : decode cX11_raises 77 = .ok (.iload_n 1, 1) := by decide +kernel
theorem dX11_raises_78 : decode cX11_raises 78 = .ok (.ireturn, 1) := by decide +kernel
theorem dX11_improve_0 : decode cX11_improve 0 = .ok (.aload_n 0, 1) := by decide +kernel
theorem dX11_improve_1 : decode cX11_improve 1 = .ok (.invokevirtual 288, 3) := by decide +kernel
theorem dX11_improve_4 : decode cX11_improve 4 = .ok (.aload_n 0, 1) := by decide +kernel
theorem dX11_improve_5 : decode cX11_improve 5 = .ok (.invokevirtual 320, 3) := by decide +kernel
theorem dX11_improve_8 : decode cX11_improve 8 = .ok (.istore_n 1, 1) := by decide +kernel
theorem dX11_improve_9 : decode cX11_improve 9 = .ok (.aload_n 0, 1) := by decide +kernel
theorem dX11_improve_10 : decode cX11_improve 10 = .ok (.invokevirtual 291, 3) := by decide +kernel
theorem dX11_improve_13 : decode cX11_improve 13 = .ok (.iload_n 1, 1) := by decide +kernel
theorem dX11_improve_14 : decode cX11_improve 14 = .ok (.ifCond .ne 6, 3) := by decide +kernel
theorem dX11_improve_17 : decode cX11_improve 17 = .ok (.bipush (-2), 2) := by decide +kernel
theorem dX11_improve_19 : decode cX11_improve 19 = .ok (.ireturn, 1) := by decide +kernel
theorem dX11_improve_20 : decode cX11_improve 20 = .ok (.aload_n 0, 1) := by decide +kernel
theorem dX11_improve_21 : decode cX11_improve 21 = .ok (.invokevirtual 275, 3) := by decide +kernel
theorem dX11_improve_24 : decode cX11_improve 24 = .ok (.aload_n 0, 1) := by decide +kernel
theorem dX11_improve_25 : decode cX11_improve 25 = .ok (.invokevirtual 320, 3) := by decide +kernel
theorem dX11_improve_28 : decode cX11_improve 28 = .ok (.ireturn, 1) := by decide +kernel
theorem dX11_buildsAnew_0 : decode cX11_buildsAnew 0 = .ok (.aload_n 0, 1) := by decide +kernel
theorem dX11_buildsAnew_1 : decode cX11_buildsAnew 1 = .ok (.invokevirtual 170, 3) := by decide +kernel
theorem dX11_buildsAnew_4 : decode cX11_buildsAnew 4 = .ok (.iconst 0, 1) := by decide +kernel
theorem dX11_buildsAnew_5 : decode cX11_buildsAnew 5 = .ok (.istore_n 1, 1) := by decide +kernel
theorem dX11_buildsAnew_6 : decode cX11_buildsAnew 6 = .ok (.iload_n 1, 1) := by decide +kernel
theorem dX11_buildsAnew_7 : decode cX11_buildsAnew 7 = .ok (.aload_n 0, 1) := by decide +kernel
theorem dX11_buildsAnew_8 : decode cX11_buildsAnew 8 = .ok (.getfield 24, 3) := by decide +kernel
theorem dX11_buildsAnew_11 : decode cX11_buildsAnew 11 = .ok (.bipush 96, 2) := by decide +kernel
theorem dX11_buildsAnew_13 : decode cX11_buildsAnew 13 = .ok (.iaload, 1) := by decide +kernel
theorem dX11_buildsAnew_14 : decode cX11_buildsAnew 14 = .ok (.if_icmp .ge 16, 3) := by decide +kernel
theorem dX11_buildsAnew_17 : decode cX11_buildsAnew 17 = .ok (.aload_n 0, 1) := by decide +kernel
theorem dX11_buildsAnew_18 : decode cX11_buildsAnew 18 = .ok (.iload_n 1, 1) := by decide +kernel
theorem dX11_buildsAnew_19 : decode cX11_buildsAnew 19 = .ok (.iconst 3, 1) := by decide +kernel
theorem dX11_buildsAnew_20 : decode cX11_buildsAnew 20 = .ok (.iconst 0, 1) := by decide +kernel
theorem dX11_buildsAnew_21 : decode cX11_buildsAnew 21 = .ok (.invokevirtual 244, 3) := by decide +kernel
theorem dX11_buildsAnew_24 : decode cX11_buildsAnew 24 = .ok (.iinc 1 1, 3) := by decide +kernel
theorem dX11_buildsAnew_27 : decode cX11_buildsAnew 27 = .ok (.goto (-21), 3) := by decide +kernel
theorem dX11_buildsAnew_30 : decode cX11_buildsAnew 30 = .ok (.iconst 0, 1) := by decide +kernel
theorem dX11_buildsAnew_31 : decode cX11_buildsAnew 31 = .ok (.istore_n 1, 1) := by decide +kernel
theorem dX11_buildsAnew_32 : decode cX11_buildsAnew 32 = .ok (.iload_n 1, 1) := by decide +kernel
theorem dX11_buildsAnew_33 : decode cX11_buildsAnew 33 = .ok (.aload_n 0, 1) := by decide +kernel
theorem dX11_buildsAnew_34 : decode cX11_buildsAnew 34 = .ok (.getfield 24, 3) := by decide +kernel
theorem dX11_buildsAnew_37 : decode cX11_buildsAnew 37 = .ok (.bipush 96, 2) := by decide +kernel
theorem dX11_buildsAnew_39 : decode cX11_buildsAnew 39 = .ok (.iaload, 1) := by decide +kernel
theorem dX11_buildsAnew_40 : decode cX11_buildsAnew 40 = .ok (.if_icmp .ge 23, 3) := by decide +kernel
theorem dX11_buildsAnew_43 : decode cX11_buildsAnew 43 = .ok (.aload_n 0, 1) := by decide +kernel
theorem dX11_buildsAnew_44 : decode cX11_buildsAnew 44 = .ok (.iload_n 1, 1) := by decide +kernel
theorem dX11_buildsAnew_45 : decode cX11_buildsAnew 45 = .ok (.iconst 4, 1) := by decide +kernel
theorem dX11_buildsAnew_46 : decode cX11_buildsAnew 46 = .ok (.invokevirtual 176, 3) := by decide +kernel
theorem dX11_buildsAnew_49 : decode cX11_buildsAnew 49 = .ok (.ifCond .ne 8, 3) := by decide +kernel
theorem dX11_buildsAnew_52 : decode cX11_buildsAnew 52 = .ok (.aload_n 0, 1) := by decide +kernel
theorem dX11_buildsAnew_53 : decode cX11_buildsAnew 53 = .ok (.iload_n 1, 1) := by decide +kernel
theorem dX11_buildsAnew_54 : decode cX11_buildsAnew 54 = .ok (.invokevirtual 282, 3) := by decide +kernel
theorem dX11_buildsAnew_57 : decode cX11_buildsAnew 57 = .ok (.iinc 1 1, 3) := by decide +kernel
theorem dX11_buildsAnew_60 : decode cX11_buildsAnew 60 = .ok (.goto (-28), 3) := by decide +kernel
theorem dX11_buildsAnew_63 : decode cX11_buildsAnew 63 = .ok (.return_, 1) := by decide +kernel
theorem dX11_rebuild_0 : decode cX11_rebuild 0 = .ok (.aload_n 0, 1) := by decide +kernel
theorem dX11_rebuild_1 : decode cX11_rebuild 1 = .ok (.invokevirtual 314, 3) := by decide +kernel
theorem dX11_rebuild_4 : decode cX11_rebuild 4 = .ok (.istore_n 1, 1) := by decide +kernel
theorem dX11_rebuild_5 : decode cX11_rebuild 5 = .ok (.aload_n 0, 1) := by decide +kernel
theorem dX11_rebuild_6 : decode cX11_rebuild 6 = .ok (.invokevirtual 288, 3) := by decide +kernel
theorem dX11_rebuild_9 : decode cX11_rebuild 9 = .ok (.aload_n 0, 1) := by decide +kernel
theorem dX11_rebuild_10 : decode cX11_rebuild 10 = .ok (.invokevirtual 323, 3) := by decide +kernel
theorem dX11_rebuild_13 : decode cX11_rebuild 13 = .ok (.aload_n 0, 1) := by decide +kernel
theorem dX11_rebuild_14 : decode cX11_rebuild 14 = .ok (.invokevirtual 314, 3) := by decide +kernel
theorem dX11_rebuild_17 : decode cX11_rebuild 17 = .ok (.istore_n 2, 1) := by decide +kernel
theorem dX11_rebuild_18 : decode cX11_rebuild 18 = .ok (.aload_n 0, 1) := by decide +kernel
theorem dX11_rebuild_19 : decode cX11_rebuild 19 = .ok (.invokevirtual 291, 3) := by decide +kernel
theorem dX11_rebuild_22 : decode cX11_rebuild 22 = .ok (.iload_n 2, 1) := by decide +kernel
theorem dX11_rebuild_23 : decode cX11_rebuild 23 = .ok (.iload_n 1, 1) := by decide +kernel
theorem dX11_rebuild_24 : decode cX11_rebuild 24 = .ok (.if_icmp .gt 6, 3) := by decide +kernel
theorem dX11_rebuild_27 : decode cX11_rebuild 27 = .ok (.bipush (-2), 2) := by decide +kernel
theorem dX11_rebuild_29 : decode cX11_rebuild 29 = .ok (.ireturn, 1) := by decide +kernel
theorem dX11_rebuild_30 : decode cX11_rebuild 30 = .ok (.aload_n 0, 1) := by decide +kernel
theorem dX11_rebuild_31 : decode cX11_rebuild 31 = .ok (.invokevirtual 275, 3) := by decide +kernel
theorem dX11_rebuild_34 : decode cX11_rebuild 34 = .ok (.aload_n 0, 1) := by decide +kernel
theorem dX11_rebuild_35 : decode cX11_rebuild 35 = .ok (.invokevirtual 323, 3) := by decide +kernel
theorem dX11_rebuild_38 : decode cX11_rebuild 38 = .ok (.iload_n 2, 1) := by decide +kernel
theorem dX11_rebuild_39 : decode cX11_rebuild 39 = .ok (.iload_n 1, 1) := by decide +kernel
theorem dX11_rebuild_40 : decode cX11_rebuild 40 = .ok (.isub, 1) := by decide +kernel
theorem dX11_rebuild_41 : decode cX11_rebuild 41 = .ok (.ireturn, 1) := by decide +kernel
theorem dX11_nodes_0 : decode cX11_nodes 0 = .ok (.aload_n 0, 1) := by decide +kernel
theorem dX11_nodes_1 : decode cX11_nodes 1 = .ok (.getfield 17, 3) := by decide +kernel
theorem dX11_nodes_4 : decode cX11_nodes 4 = .ok (.iconst 0, 1) := by decide +kernel
theorem dX11_nodes_5 : decode cX11_nodes 5 = .ok (.iaload, 1) := by decide +kernel
theorem dX11_nodes_6 : decode cX11_nodes 6 = .ok (.ireturn, 1) := by decide +kernel
theorem dX11_links_0 : decode cX11_links 0 = .ok (.aload_n 0, 1) := by decide +kernel
theorem dX11_links_1 : decode cX11_links 1 = .ok (.getfield 17, 3) := by decide +kernel
theorem dX11_links_4 : decode cX11_links 4 = .ok (.iconst 1, 1) := by decide +kernel
theorem dX11_links_5 : decode cX11_links 5 = .ok (.iaload, 1) := by decide +kernel
theorem dX11_links_6 : decode cX11_links 6 = .ok (.ireturn, 1) := by decide +kernel
theorem dX11_formats_0 : decode cX11_formats 0 = .ok (.aload_n 0, 1) := by decide +kernel
theorem dX11_formats_1 : decode cX11_formats 1 = .ok (.getfield 17, 3) := by decide +kernel
theorem dX11_formats_4 : decode cX11_formats 4 = .ok (.iconst 2, 1) := by decide +kernel
theorem dX11_formats_5 : decode cX11_formats 5 = .ok (.iaload, 1) := by decide +kernel
theorem dX11_formats_6 : decode cX11_formats 6 = .ok (.ireturn, 1) := by decide +kernel
theorem dX11_layers_0 : decode cX11_layers 0 = .ok (.aload_n 0, 1) := by decide +kernel
theorem dX11_layers_1 : decode cX11_layers 1 = .ok (.getfield 17, 3) := by decide +kernel
theorem dX11_layers_4 : decode cX11_layers 4 = .ok (.iconst 3, 1) := by decide +kernel
theorem dX11_layers_5 : decode cX11_layers 5 = .ok (.iaload, 1) := by decide +kernel
theorem dX11_layers_6 : decode cX11_layers 6 = .ok (.ireturn, 1) := by decide +kernel
theorem dX11_rate_0 : decode cX11_rate 0 = .ok (.aload_n 0, 1) := by decide +kernel
theorem dX11_rate_1 : decode cX11_rate 1 = .ok (.iload_n 1, 1) := by decide +kernel
theorem dX11_rate_2 : decode cX11_rate 2 = .ok (.invokevirtual 269, 3) := by decide +kernel
theorem dX11_rate_5 : decode cX11_rate 5 = .ok (.ifCond .eq 20, 3) := by decide +kernel
theorem dX11_rate_8 : decode cX11_rate 8 = .ok (.aload_n 0, 1) := by decide +kernel
theorem dX11_rate_9 : decode cX11_rate 9 = .ok (.iload_n 2, 1) := by decide +kernel
theorem dX11_rate_10 : decode cX11_rate 10 = .ok (.invokevirtual 272, 3) := by decide +kernel
theorem dX11_rate_13 : decode cX11_rate 13 = .ok (.ifCond .eq 12, 3) := by decide +kernel
theorem dX11_rate_16 : decode cX11_rate 16 = .ok (.aload_n 0, 1) := by decide +kernel
theorem dX11_rate_17 : decode cX11_rate 17 = .ok (.iload_n 1, 1) := by decide +kernel
theorem dX11_rate_18 : decode cX11_rate 18 = .ok (.iload_n 2, 1) := by decide +kernel
theorem dX11_rate_19 : decode cX11_rate 19 = .ok (.invokevirtual 202, 3) := by decide +kernel
theorem dX11_rate_22 : decode cX11_rate 22 = .ok (.goto 4, 3) := by decide +kernel
theorem dX11_rate_25 : decode cX11_rate 25 = .ok (.iconst (-1), 1) := by decide +kernel
theorem dX11_rate_26 : decode cX11_rate 26 = .ok (.ireturn, 1) := by decide +kernel
theorem dX11_linkBetween_0 : decode cX11_linkBetween 0 = .ok (.aload_n 0, 1) := by decide +kernel
theorem dX11_linkBetween_1 : decode cX11_linkBetween 1 = .ok (.iload_n 1, 1) := by decide +kernel
theorem dX11_linkBetween_2 : decode cX11_linkBetween 2 = .ok (.invokevirtual 266, 3) := by decide +kernel
theorem dX11_linkBetween_5 : decode cX11_linkBetween 5 = .ok (.ifCond .eq 20, 3) := by decide +kernel
theorem dX11_linkBetween_8 : decode cX11_linkBetween 8 = .ok (.aload_n 0, 1) := by decide +kernel
theorem dX11_linkBetween_9 : decode cX11_linkBetween 9 = .ok (.iload_n 2, 1) := by decide +kernel
theorem dX11_linkBetween_10 : decode cX11_linkBetween 10 = .ok (.invokevirtual 266, 3) := by decide +kernel
theorem dX11_linkBetween_13 : decode cX11_linkBetween 13 = .ok (.ifCond .eq 12, 3) := by decide +kernel
theorem dX11_linkBetween_16 : decode cX11_linkBetween 16 = .ok (.aload_n 0, 1) := by decide +kernel
theorem dX11_linkBetween_17 : decode cX11_linkBetween 17 = .ok (.iload_n 1, 1) := by decide +kernel
theorem dX11_linkBetween_18 : decode cX11_linkBetween 18 = .ok (.iload_n 2, 1) := by decide +kernel
theorem dX11_linkBetween_19 : decode cX11_linkBetween 19 = .ok (.invokevirtual 186, 3) := by decide +kernel
theorem dX11_linkBetween_22 : decode cX11_linkBetween 22 = .ok (.goto 4, 3) := by decide +kernel
theorem dX11_linkBetween_25 : decode cX11_linkBetween 25 = .ok (.iconst (-1), 1) := by decide +kernel
theorem dX11_linkBetween_26 : decode cX11_linkBetween 26 = .ok (.ireturn, 1) := by decide +kernel
theorem dX11_capacity_0 : decode cX11_capacity 0 = .ok (.aload_n 0, 1) := by decide +kernel
theorem dX11_capacity_1 : decode cX11_capacity 1 = .ok (.iload_n 1, 1) := by decide +kernel
theorem dX11_capacity_2 : decode cX11_capacity 2 = .ok (.invokevirtual 303, 3) := by decide +kernel
theorem dX11_capacity_5 : decode cX11_capacity 5 = .ok (.ifCond .eq 14, 3) := by decide +kernel
theorem dX11_capacity_8 : decode cX11_capacity 8 = .ok (.aload_n 0, 1) := by decide +kernel
theorem dX11_capacity_9 : decode cX11_capacity 9 = .ok (.getfield 24, 3) := by decide +kernel
theorem dX11_capacity_12 : decode cX11_capacity 12 = .ok (.iconst 0, 1) := by decide +kernel
theorem dX11_capacity_13 : decode cX11_capacity 13 = .ok (.iload_n 1, 1) := by decide +kernel
theorem dX11_capacity_14 : decode cX11_capacity 14 = .ok (.iadd, 1) := by decide +kernel
theorem dX11_capacity_15 : decode cX11_capacity 15 = .ok (.iaload, 1) := by decide +kernel
theorem dX11_capacity_16 : decode cX11_capacity 16 = .ok (.goto 4, 3) := by decide +kernel
theorem dX11_capacity_19 : decode cX11_capacity 19 = .ok (.iconst (-1), 1) := by decide +kernel
theorem dX11_capacity_20 : decode cX11_capacity 20 = .ok (.ireturn, 1) := by decide +kernel
theorem dX11_isOpen_0 : decode cX11_isOpen 0 = .ok (.aload_n 0, 1) := by decide +kernel
theorem dX11_isOpen_1 : decode cX11_isOpen 1 = .ok (.iload_n 1, 1) := by decide +kernel
theorem dX11_isOpen_2 : decode cX11_isOpen 2 = .ok (.invokevirtual 303, 3) := by decide +kernel
theorem dX11_isOpen_5 : decode cX11_isOpen 5 = .ok (.ifCond .eq 20, 3) := by decide +kernel
theorem dX11_isOpen_8 : decode cX11_isOpen 8 = .ok (.aload_n 0, 1) := by decide +kernel
theorem dX11_isOpen_9 : decode cX11_isOpen 9 = .ok (.getfield 24, 3) := by decide +kernel
theorem dX11_isOpen_12 : decode cX11_isOpen 12 = .ok (.bipush 32, 2) := by decide +kernel
theorem dX11_isOpen_14 : decode cX11_isOpen 14 = .ok (.iload_n 1, 1) := by decide +kernel
theorem dX11_isOpen_15 : decode cX11_isOpen 15 = .ok (.iadd, 1) := by decide +kernel
theorem dX11_isOpen_16 : decode cX11_isOpen 16 = .ok (.iaload, 1) := by decide +kernel
theorem dX11_isOpen_17 : decode cX11_isOpen 17 = .ok (.iconst 1, 1) := by decide +kernel
theorem dX11_isOpen_18 : decode cX11_isOpen 18 = .ok (.if_icmp .ne 7, 3) := by decide +kernel
theorem dX11_isOpen_21 : decode cX11_isOpen 21 = .ok (.iconst 1, 1) := by decide +kernel
theorem dX11_isOpen_22 : decode cX11_isOpen 22 = .ok (.goto 4, 3) := by decide +kernel
theorem dX11_isOpen_25 : decode cX11_isOpen 25 = .ok (.iconst 0, 1) := by decide +kernel
theorem dX11_isOpen_26 : decode cX11_isOpen 26 = .ok (.ireturn, 1) := by decide +kernel
theorem dX11_receivers_0 : decode cX11_receivers 0 = .ok (.aload_n 0, 1) := by decide +kernel
theorem dX11_receivers_1 : decode cX11_receivers 1 = .ok (.getfield 24, 3) := by decide +kernel
theorem dX11_receivers_4 : decode cX11_receivers 4 = .ok (.bipush 96, 2) := by decide +kernel
theorem dX11_receivers_6 : decode cX11_receivers 6 = .ok (.iaload, 1) := by decide +kernel
theorem dX11_receivers_7 : decode cX11_receivers 7 = .ok (.ireturn, 1) := by decide +kernel
theorem dX11_hasLeft_0 : decode cX11_hasLeft 0 = .ok (.iload_n 1, 1) := by decide +kernel
theorem dX11_hasLeft_1 : decode cX11_hasLeft 1 = .ok (.i2l, 1) := by decide +kernel
theorem dX11_hasLeft_2 : decode cX11_hasLeft 2 = .ok (.lconst 0, 1) := by decide +kernel
theorem dX11_hasLeft_3 : decode cX11_hasLeft 3 = .ok (.aload_n 0, 1) := by decide +kernel
theorem dX11_hasLeft_4 : decode cX11_hasLeft 4 = .ok (.getfield 24, 3) := by decide +kernel
theorem dX11_hasLeft_7 : decode cX11_hasLeft 7 = .ok (.bipush 96, 2) := by decide +kernel
theorem dX11_hasLeft_9 : decode cX11_hasLeft 9 = .ok (.iaload, 1) := by decide +kernel
theorem dX11_hasLeft_10 : decode cX11_hasLeft 10 = .ok (.iconst 1, 1) := by decide +kernel
theorem dX11_hasLeft_11 : decode cX11_hasLeft 11 = .ok (.isub, 1) := by decide +kernel
theorem dX11_hasLeft_12 : decode cX11_hasLeft 12 = .ok (.i2l, 1) := by decide +kernel
theorem dX11_hasLeft_13 : decode cX11_hasLeft 13 = .ok (.invokestatic 110, 3) := by decide +kernel
theorem dX11_hasLeft_16 : decode cX11_hasLeft 16 = .ok (.ifCond .eq 17, 3) := by decide +kernel
theorem dX11_hasLeft_19 : decode cX11_hasLeft 19 = .ok (.aload_n 0, 1) := by decide +kernel
theorem dX11_hasLeft_20 : decode cX11_hasLeft 20 = .ok (.iload_n 1, 1) := by decide +kernel
theorem dX11_hasLeft_21 : decode cX11_hasLeft 21 = .ok (.iconst 4, 1) := by decide +kernel
theorem dX11_hasLeft_22 : decode cX11_hasLeft 22 = .ok (.invokevirtual 176, 3) := by decide +kernel
theorem dX11_hasLeft_25 : decode cX11_hasLeft 25 = .ok (.iconst 1, 1) := by decide +kernel
theorem dX11_hasLeft_26 : decode cX11_hasLeft 26 = .ok (.if_icmp .ne 7, 3) := by decide +kernel
theorem dX11_hasLeft_29 : decode cX11_hasLeft 29 = .ok (.iconst 1, 1) := by decide +kernel
theorem dX11_hasLeft_30 : decode cX11_hasLeft 30 = .ok (.goto 4, 3) := by decide +kernel
theorem dX11_hasLeft_33 : decode cX11_hasLeft 33 = .ok (.iconst 0, 1) := by decide +kernel
theorem dX11_hasLeft_34 : decode cX11_hasLeft 34 = .ok (.ireturn, 1) := by decide +kernel
theorem dX11_level_0 : decode cX11_level 0 = .ok (.iload_n 1, 1) := by decide +kernel
theorem dX11_level_1 : decode cX11_level 1 = .ok (.i2l, 1) := by decide +kernel
theorem dX11_level_2 : decode cX11_level 2 = .ok (.lconst 0, 1) := by decide +kernel
theorem dX11_level_3 : decode cX11_level 3 = .ok (.aload_n 0, 1) := by decide +kernel
theorem dX11_level_4 : decode cX11_level 4 = .ok (.getfield 24, 3) := by decide +kernel
theorem dX11_level_7 : decode cX11_level 7 = .ok (.bipush 96, 2) := by decide +kernel
theorem dX11_level_9 : decode cX11_level 9 = .ok (.iaload, 1) := by decide +kernel
theorem dX11_level_10 : decode cX11_level 10 = .ok (.iconst 1, 1) := by decide +kernel
theorem dX11_level_11 : decode cX11_level 11 = .ok (.isub, 1) := by decide +kernel
theorem dX11_level_12 : decode cX11_level 12 = .ok (.i2l, 1) := by decide +kernel
theorem dX11_level_13 : decode cX11_level 13 = .ok (.invokestatic 110, 3) := by decide +kernel
theorem dX11_level_16 : decode cX11_level 16 = .ok (.ifCond .eq 12, 3) := by decide +kernel
theorem dX11_level_19 : decode cX11_level 19 = .ok (.aload_n 0, 1) := by decide +kernel
theorem dX11_level_20 : decode cX11_level 20 = .ok (.iload_n 1, 1) := by decide +kernel
theorem dX11_level_21 : decode cX11_level 21 = .ok (.iconst 3, 1) := by decide +kernel
theorem dX11_level_22 : decode cX11_level 22 = .ok (.invokevirtual 176, 3) := by decide +kernel
theorem dX11_level_25 : decode cX11_level 25 = .ok (.goto 4, 3) := by decide +kernel
theorem dX11_level_28 : decode cX11_level 28 = .ok (.iconst (-1), 1) := by decide +kernel
theorem dX11_level_29 : decode cX11_level 29 = .ok (.ireturn, 1) := by decide +kernel
theorem dX11_wanted_0 : decode cX11_wanted 0 = .ok (.aload_n 0, 1) := by decide +kernel
theorem dX11_wanted_1 : decode cX11_wanted 1 = .ok (.iload_n 1, 1) := by decide +kernel
theorem dX11_wanted_2 : decode cX11_wanted 2 = .ok (.invokevirtual 285, 3) := by decide +kernel
theorem dX11_wanted_5 : decode cX11_wanted 5 = .ok (.ifCond .eq 12, 3) := by decide +kernel
theorem dX11_wanted_8 : decode cX11_wanted 8 = .ok (.aload_n 0, 1) := by decide +kernel
theorem dX11_wanted_9 : decode cX11_wanted 9 = .ok (.iload_n 1, 1) := by decide +kernel
theorem dX11_wanted_10 : decode cX11_wanted 10 = .ok (.iconst 2, 1) := by decide +kernel
theorem dX11_wanted_11 : decode cX11_wanted 11 = .ok (.invokevirtual 176, 3) := by decide +kernel
theorem dX11_wanted_14 : decode cX11_wanted 14 = .ok (.goto 4, 3) := by decide +kernel
theorem dX11_wanted_17 : decode cX11_wanted 17 = .ok (.iconst (-1), 1) := by decide +kernel
theorem dX11_wanted_18 : decode cX11_wanted 18 = .ok (.ireturn, 1) := by decide +kernel
theorem dX11_servedAt_0 : decode cX11_servedAt 0 = .ok (.aload_n 0, 1) := by decide +kernel
theorem dX11_servedAt_1 : decode cX11_servedAt 1 = .ok (.iload_n 1, 1) := by decide +kernel
theorem dX11_servedAt_2 : decode cX11_servedAt 2 = .ok (.invokevirtual 285, 3) := by decide +kernel
theorem dX11_servedAt_5 : decode cX11_servedAt 5 = .ok (.ifCond .eq 11, 3) := by decide +kernel
theorem dX11_servedAt_8 : decode cX11_servedAt 8 = .ok (.aload_n 0, 1) := by decide +kernel
theorem dX11_servedAt_9 : decode cX11_servedAt 9 = .ok (.iload_n 1, 1) := by decide +kernel
theorem dX11_servedAt_10 : decode cX11_servedAt 10 = .ok (.invokevirtual 254, 3) := by decide +kernel
theorem dX11_servedAt_13 : decode cX11_servedAt 13 = .ok (.goto 4, 3) := by decide +kernel
theorem dX11_servedAt_16 : decode cX11_servedAt 16 = .ok (.iconst (-1), 1) := by decide +kernel
theorem dX11_servedAt_17 : decode cX11_servedAt 17 = .ok (.ireturn, 1) := by decide +kernel
theorem dX11_pathNode_0 : decode cX11_pathNode 0 = .ok (.aload_n 0, 1) := by decide +kernel
theorem dX11_pathNode_1 : decode cX11_pathNode 1 = .ok (.iload_n 1, 1) := by decide +kernel
theorem dX11_pathNode_2 : decode cX11_pathNode 2 = .ok (.invokevirtual 285, 3) := by decide +kernel
theorem dX11_pathNode_5 : decode cX11_pathNode 5 = .ok (.ifCond .eq 7, 3) := by decide +kernel
theorem dX11_pathNode_8 : decode cX11_pathNode 8 = .ok (.iload_n 2, 1) := by decide +kernel
theorem dX11_pathNode_9 : decode cX11_pathNode 9 = .ok (.ifCond .ge 5, 3) := by decide +kernel
theorem dX11_pathNode_12 : decode cX11_pathNode 12 = .ok (.iconst (-1), 1) := by decide +kernel
theorem dX11_pathNode_13 : decode cX11_pathNode 13 = .ok (.ireturn, 1) := by decide +kernel
theorem dX11_pathNode_14 : decode cX11_pathNode 14 = .ok (.aload_n 0, 1) := by decide +kernel
theorem dX11_pathNode_15 : decode cX11_pathNode 15 = .ok (.iload_n 1, 1) := by decide +kernel
theorem dX11_pathNode_16 : decode cX11_pathNode 16 = .ok (.iconst 3, 1) := by decide +kernel
theorem dX11_pathNode_17 : decode cX11_pathNode 17 = .ok (.invokevirtual 176, 3) := by decide +kernel
theorem dX11_pathNode_20 : decode cX11_pathNode 20 = .ok (.ifCond .eq 17, 3) := by decide +kernel
theorem dX11_pathNode_23 : decode cX11_pathNode 23 = .ok (.iload_n 2, 1) := by decide +kernel
theorem dX11_pathNode_24 : decode cX11_pathNode 24 = .ok (.aload_n 0, 1) := by decide +kernel
theorem dX11_pathNode_25 : decode cX11_pathNode 25 = .ok (.aload_n 0, 1) := by decide +kernel
theorem dX11_pathNode_26 : decode cX11_pathNode 26 = .ok (.iload_n 1, 1) := by decide +kernel
theorem dX11_pathNode_27 : decode cX11_pathNode 27 = .ok (.iconst 0, 1) := by decide +kernel
theorem dX11_pathNode_28 : decode cX11_pathNode 28 = .ok (.invokevirtual 176, 3) := by decide +kernel
theorem dX11_pathNode_31 : decode cX11_pathNode 31 = .ok (.invokevirtual 209, 3) := by decide +kernel
theorem dX11_pathNode_34 : decode cX11_pathNode 34 = .ok (.if_icmp .le 6, 3) := by decide +kernel
theorem dX11_pathNode_37 : decode cX11_pathNode 37 = .ok (.bipush (-2), 2) := by decide +kernel
theorem dX11_pathNode_39 : decode cX11_pathNode 39 = .ok (.ireturn, 1) := by decide +kernel
theorem dX11_pathNode_40 : decode cX11_pathNode 40 = .ok (.aload_n 0, 1) := by decide +kernel
theorem dX11_pathNode_41 : decode cX11_pathNode 41 = .ok (.iload_n 1, 1) := by decide +kernel
theorem dX11_pathNode_42 : decode cX11_pathNode 42 = .ok (.iconst 0, 1) := by decide +kernel
theorem dX11_pathNode_43 : decode cX11_pathNode 43 = .ok (.invokevirtual 176, 3) := by decide +kernel
theorem dX11_pathNode_46 : decode cX11_pathNode 46 = .ok (.istore_n 3, 1) := by decide +kernel
theorem dX11_pathNode_47 : decode cX11_pathNode 47 = .ok (.iconst 0, 1) := by decide +kernel
theorem dX11_pathNode_48 : decode cX11_pathNode 48 = .ok (.istore 4, 2) := by decide +kernel
theorem dX11_pathNode_50 : decode cX11_pathNode 50 = .ok (.iload 4, 2) := by decide +kernel
theorem dX11_pathNode_52 : decode cX11_pathNode 52 = .ok (.iload_n 2, 1) := by decide +kernel
theorem dX11_pathNode_53 : decode cX11_pathNode 53 = .ok (.if_icmp .ge 15, 3) := by decide +kernel
theorem dX11_pathNode_56 : decode cX11_pathNode 56 = .ok (.aload_n 0, 1) := by decide +kernel
theorem dX11_pathNode_57 : decode cX11_pathNode 57 = .ok (.iload_n 3, 1) := by decide +kernel
theorem dX11_pathNode_58 : decode cX11_pathNode 58 = .ok (.invokevirtual 182, 3) := by decide +kernel
theorem dX11_pathNode_61 : decode cX11_pathNode 61 = .ok (.istore_n 3, 1) := by decide +kernel
theorem dX11_pathNode_62 : decode cX11_pathNode 62 = .ok (.iinc 4 1, 3) := by decide +kernel
theorem dX11_pathNode_65 : decode cX11_pathNode 65 = .ok (.goto (-15), 3) := by decide +kernel
theorem dX11_pathNode_68 : decode cX11_pathNode 68 = .ok (.iload_n 3, 1) := by decide +kernel
theorem dX11_pathNode_69 : decode cX11_pathNode 69 = .ok (.ireturn, 1) := by decide +kernel
theorem dX11_bottleneck_0 : decode cX11_bottleneck 0 = .ok (.aload_n 0, 1) := by decide +kernel
theorem dX11_bottleneck_1 : decode cX11_bottleneck 1 = .ok (.iload_n 1, 1) := by decide +kernel
theorem dX11_bottleneck_2 : decode cX11_bottleneck 2 = .ok (.invokevirtual 285, 3) := by decide +kernel
theorem dX11_bottleneck_5 : decode cX11_bottleneck 5 = .ok (.ifCond .ne 5, 3) := by decide +kernel
theorem dX11_bottleneck_8 : decode cX11_bottleneck 8 = .ok (.iconst (-1), 1) := by decide +kernel
theorem dX11_bottleneck_9 : decode cX11_bottleneck 9 = .ok (.ireturn, 1) := by decide +kernel
theorem dX11_bottleneck_10 : decode cX11_bottleneck 10 = .ok (.aload_n 0, 1) := by decide +kernel
theorem dX11_bottleneck_11 : decode cX11_bottleneck 11 = .ok (.invokevirtual 215, 3) := by decide +kernel
theorem dX11_bottleneck_14 : decode cX11_bottleneck 14 = .ok (.bipush (-2), 2) := by decide +kernel
theorem dX11_bottleneck_16 : decode cX11_bottleneck 16 = .ok (.istore_n 2, 1) := by decide +kernel
theorem dX11_bottleneck_17 : decode cX11_bottleneck 17 = .ok (.iconst 0, 1) := by decide +kernel
theorem dX11_bottleneck_18 : decode cX11_bottleneck 18 = .ok (.istore_n 3, 1) := by decide +kernel
theorem dX11_bottleneck_19 : decode cX11_bottleneck 19 = .ok (.iload_n 3, 1) := by decide +kernel
theorem dX11_bottleneck_20 : decode cX11_bottleneck 20 = .ok (.aload_n 0, 1) := by decide +kernel
theorem dX11_bottleneck_21 : decode cX11_bottleneck 21 = .ok (.getfield 17, 3) := by decide +kernel
theorem dX11_bottleneck_24 : decode cX11_bottleneck 24 = .ok (.iconst 1, 1) := by decide +kernel
theorem dX11_bottleneck_25 : decode cX11_bottleneck 25 = .ok (.iaload, 1) := by decide +kernel
theorem dX11_bottleneck_26 : decode cX11_bottleneck 26 = .ok (.if_icmp .ge 57, 3) := by decide +kernel
theorem dX11_bottleneck_29 : decode cX11_bottleneck 29 = .ok (.aload_n 0, 1) := by decide +kernel
theorem dX11_bottleneck_30 : decode cX11_bottleneck 30 = .ok (.iload_n 1, 1) := by decide +kernel
theorem dX11_bottleneck_31 : decode cX11_bottleneck 31 = .ok (.iload_n 3, 1) := by decide +kernel
theorem dX11_bottleneck_32 : decode cX11_bottleneck 32 = .ok (.invokevirtual 257, 3) := by decide +kernel
theorem dX11_bottleneck_35 : decode cX11_bottleneck 35 = .ok (.ifCond .eq 42, 3) := by decide +kernel
theorem dX11_bottleneck_38 : decode cX11_bottleneck 38 = .ok (.iload_n 2, 1) := by decide +kernel
theorem dX11_bottleneck_39 : decode cX11_bottleneck 39 = .ok (.ifCond .lt 36, 3) := by decide +kernel
theorem dX11_bottleneck_42 : decode cX11_bottleneck 42 = .ok (.aload_n 0, 1) := by decide +kernel
theorem dX11_bottleneck_43 : decode cX11_bottleneck 43 = .ok (.getfield 24, 3) := by decide +kernel
theorem dX11_bottleneck_46 : decode cX11_bottleneck 46 = .ok (.iconst 0, 1) := by decide +kernel
theorem dX11_bottleneck_47 : decode cX11_bottleneck 47 = .ok (.iload_n 3, 1) := by decide +kernel
theorem dX11_bottleneck_48 : decode cX11_bottleneck 48 = .ok (.iadd, 1) := by decide +kernel
theorem dX11_bottleneck_49 : decode cX11_bottleneck 49 = .ok (.iaload, 1) := by decide +kernel
theorem dX11_bottleneck_50 : decode cX11_bottleneck 50 = .ok (.aload_n 0, 1) := by decide +kernel
theorem dX11_bottleneck_51 : decode cX11_bottleneck 51 = .ok (.getfield 39, 3) := by decide +kernel
theorem dX11_bottleneck_54 : decode cX11_bottleneck 54 = .ok (.iload_n 3, 1) := by decide +kernel
theorem dX11_bottleneck_55 : decode cX11_bottleneck 55 = .ok (.iaload, 1) := by decide +kernel
theorem dX11_bottleneck_56 : decode cX11_bottleneck 56 = .ok (.isub, 1) := by decide +kernel
theorem dX11_bottleneck_57 : decode cX11_bottleneck 57 = .ok (.aload_n 0, 1) := by decide +kernel
theorem dX11_bottleneck_58 : decode cX11_bottleneck 58 = .ok (.getfield 24, 3) := by decide +kernel
theorem dX11_bottleneck_61 : decode cX11_bottleneck 61 = .ok (.iconst 0, 1) := by decide +kernel
theorem dX11_bottleneck_62 : decode cX11_bottleneck 62 = .ok (.iload_n 2, 1) := by decide +kernel
theorem dX11_bottleneck_63 : decode cX11_bottleneck 63 = .ok (.iadd, 1) := by decide +kernel
theorem dX11_bottleneck_64 : decode cX11_bottleneck 64 = .ok (.iaload, 1) := by decide +kernel
theorem dX11_bottleneck_65 : decode cX11_bottleneck 65 = .ok (.aload_n 0, 1) := by decide +kernel
theorem dX11_bottleneck_66 : decode cX11_bottleneck 66 = .ok (.getfield 39, 3) := by decide +kernel
theorem dX11_bottleneck_69 : decode cX11_bottleneck 69 = .ok (.iload_n 2, 1) := by decide +kernel
theorem dX11_bottleneck_70 : decode cX11_bottleneck 70 = .ok (.iaload, 1) := by decide +kernel
theorem dX11_bottleneck_71 : decode cX11_bottleneck 71 = .ok (.isub, 1) := by decide +kernel
theorem dX11_bottleneck_72 : decode cX11_bottleneck 72 = .ok (.if_icmp .ge 5, 3) := by decide +kernel
theorem dX11_bottleneck_75 : decode cX11_bottleneck 75 = .ok (.iload_n 3, 1) := by decide +kernel
theorem dX11_bottleneck_76 : decode cX11_bottleneck 76 = .ok (.istore_n 2, 1) := by decide +kernel
theorem dX11_bottleneck_77 : decode cX11_bottleneck 77 = .ok (.iinc 3 1, 3) := by decide +kernel
theorem dX11_bottleneck_80 : decode cX11_bottleneck 80 = .ok (.goto (-61), 3) := by decide +kernel
theorem dX11_bottleneck_83 : decode cX11_bottleneck 83 = .ok (.iload_n 2, 1) := by decide +kernel
theorem dX11_bottleneck_84 : decode cX11_bottleneck 84 = .ok (.ireturn, 1) := by decide +kernel
theorem dX11_shared_0 : decode cX11_shared 0 = .ok (.aload_n 0, 1) := by decide +kernel
theorem dX11_shared_1 : decode cX11_shared 1 = .ok (.iload_n 1, 1) := by decide +kernel
theorem dX11_shared_2 : decode cX11_shared 2 = .ok (.invokevirtual 285, 3) := by decide +kernel
theorem dX11_shared_5 : decode cX11_shared 5 = .ok (.ifCond .eq 11, 3) := by decide +kernel
theorem dX11_shared_8 : decode cX11_shared 8 = .ok (.aload_n 0, 1) := by decide +kernel
theorem dX11_shared_9 : decode cX11_shared 9 = .ok (.iload_n 2, 1) := by decide +kernel
theorem dX11_shared_10 : decode cX11_shared 10 = .ok (.invokevirtual 285, 3) := by decide +kernel
theorem dX11_shared_13 : decode cX11_shared 13 = .ok (.ifCond .ne 5, 3) := by decide +kernel
theorem dX11_shared_16 : decode cX11_shared 16 = .ok (.iconst (-1), 1) := by decide +kernel
theorem dX11_shared_17 : decode cX11_shared 17 = .ok (.ireturn, 1) := by decide +kernel
theorem dX11_shared_18 : decode cX11_shared 18 = .ok (.iconst 0, 1) := by decide +kernel
theorem dX11_shared_19 : decode cX11_shared 19 = .ok (.istore_n 3, 1) := by decide +kernel
theorem dX11_shared_20 : decode cX11_shared 20 = .ok (.iconst 0, 1) := by decide +kernel
theorem dX11_shared_21 : decode cX11_shared 21 = .ok (.istore 4, 2) := by decide +kernel
theorem dX11_shared_23 : decode cX11_shared 23 = .ok (.iload 4, 2) := by decide +kernel
theorem dX11_shared_25 : decode cX11_shared 25 = .ok (.aload_n 0, 1) := by decide +kernel
theorem dX11_shared_26 : decode cX11_shared 26 = .ok (.getfield 17, 3) := by decide +kernel
theorem dX11_shared_29 : decode cX11_shared 29 = .ok (.iconst 1, 1) := by decide +kernel
theorem dX11_shared_30 : decode cX11_shared 30 = .ok (.iaload, 1) := by decide +kernel
theorem dX11_shared_31 : decode cX11_shared 31 = .ok (.if_icmp .ge 37, 3) := by decide +kernel
theorem dX11_shared_34 : decode cX11_shared 34 = .ok (.iload_n 3, 1) := by decide +kernel
theorem dX11_shared_35 : decode cX11_shared 35 = .ok (.aload_n 0, 1) := by decide +kernel
theorem dX11_shared_36 : decode cX11_shared 36 = .ok (.iload_n 1, 1) := by decide +kernel
theorem dX11_shared_37 : decode cX11_shared 37 = .ok (.iload 4, 2) := by decide +kernel
theorem dX11_shared_39 : decode cX11_shared 39 = .ok (.invokevirtual 257, 3) := by decide +kernel
theorem dX11_shared_42 : decode cX11_shared 42 = .ok (.ifCond .eq 17, 3) := by decide +kernel
theorem dX11_shared_45 : decode cX11_shared 45 = .ok (.aload_n 0, 1) := by decide +kernel
theorem dX11_shared_46 : decode cX11_shared 46 = .ok (.iload_n 2, 1) := by decide +kernel
theorem dX11_shared_47 : decode cX11_shared 47 = .ok (.iload 4, 2) := by decide +kernel
theorem dX11_shared_49 : decode cX11_shared 49 = .ok (.invokevirtual 257, 3) := by decide +kernel
theorem dX11_shared_52 : decode cX11_shared 52 = .ok (.ifCond .eq 7, 3) := by decide +kernel
theorem dX11_shared_55 : decode cX11_shared 55 = .ok (.iconst 1, 1) := by decide +kernel
theorem dX11_shared_56 : decode cX11_shared 56 = .ok (.goto 4, 3) := by decide +kernel
theorem dX11_shared_59 : decode cX11_shared 59 = .ok (.iconst 0, 1) := by decide +kernel
theorem dX11_shared_60 : decode cX11_shared 60 = .ok (.iadd, 1) := by decide +kernel
theorem dX11_shared_61 : decode cX11_shared 61 = .ok (.istore_n 3, 1) := by decide +kernel
theorem dX11_shared_62 : decode cX11_shared 62 = .ok (.iinc 4 1, 3) := by decide +kernel
theorem dX11_shared_65 : decode cX11_shared 65 = .ok (.goto (-42), 3) := by decide +kernel
theorem dX11_shared_68 : decode cX11_shared 68 = .ok (.iload_n 3, 1) := by decide +kernel
theorem dX11_shared_69 : decode cX11_shared 69 = .ok (.ireturn, 1) := by decide +kernel
theorem dX11_neediest_0 : decode cX11_neediest 0 = .ok (.bipush (-2), 2) := by decide +kernel
theorem dX11_neediest_2 : decode cX11_neediest 2 = .ok (.istore_n 1, 1) := by decide +kernel
theorem dX11_neediest_3 : decode cX11_neediest 3 = .ok (.iconst 0, 1) := by decide +kernel
theorem dX11_neediest_4 : decode cX11_neediest 4 = .ok (.istore_n 2, 1) := by decide +kernel
theorem dX11_neediest_5 : decode cX11_neediest 5 = .ok (.iconst 0, 1) := by decide +kernel
theorem dX11_neediest_6 : decode cX11_neediest 6 = .ok (.istore_n 3, 1) := by decide +kernel
theorem dX11_neediest_7 : decode cX11_neediest 7 = .ok (.iload_n 3, 1) := by decide +kernel
theorem dX11_neediest_8 : decode cX11_neediest 8 = .ok (.aload_n 0, 1) := by decide +kernel
theorem dX11_neediest_9 : decode cX11_neediest 9 = .ok (.getfield 24, 3) := by decide +kernel
theorem dX11_neediest_12 : decode cX11_neediest 12 = .ok (.bipush 96, 2) := by decide +kernel
theorem dX11_neediest_14 : decode cX11_neediest 14 = .ok (.iaload, 1) := by decide +kernel
theorem dX11_neediest_15 : decode cX11_neediest 15 = .ok (.if_icmp .ge 51, 3) := by decide +kernel
theorem dX11_neediest_18 : decode cX11_neediest 18 = .ok (.aload_n 0, 1) := by decide +kernel
theorem dX11_neediest_19 : decode cX11_neediest 19 = .ok (.iload_n 3, 1) := by decide +kernel
theorem dX11_neediest_20 : decode cX11_neediest 20 = .ok (.iconst 4, 1) := by decide +kernel
theorem dX11_neediest_21 : decode cX11_neediest 21 = .ok (.invokevirtual 176, 3) := by decide +kernel
theorem dX11_neediest_24 : decode cX11_neediest 24 = .ok (.ifCond .ne 36, 3) := by decide +kernel
theorem dX11_neediest_27 : decode cX11_neediest 27 = .ok (.aload_n 0, 1) := by decide +kernel
theorem dX11_neediest_28 : decode cX11_neediest 28 = .ok (.iload_n 3, 1) := by decide +kernel
theorem dX11_neediest_29 : decode cX11_neediest 29 = .ok (.iconst 2, 1) := by decide +kernel
theorem dX11_neediest_30 : decode cX11_neediest 30 = .ok (.invokevirtual 176, 3) := by decide +kernel
theorem dX11_neediest_33 : decode cX11_neediest 33 = .ok (.aload_n 0, 1) := by decide +kernel
theorem dX11_neediest_34 : decode cX11_neediest 34 = .ok (.iload_n 3, 1) := by decide +kernel
theorem dX11_neediest_35 : decode cX11_neediest 35 = .ok (.iconst 3, 1) := by decide +kernel
theorem dX11_neediest_36 : decode cX11_neediest 36 = .ok (.invokevirtual 176, 3) := by decide +kernel
theorem dX11_neediest_39 : decode cX11_neediest 39 = .ok (.isub, 1) := by decide +kernel
theorem dX11_neediest_40 : decode cX11_neediest 40 = .ok (.iload_n 2, 1) := by decide +kernel
theorem dX11_neediest_41 : decode cX11_neediest 41 = .ok (.if_icmp .le 19, 3) := by decide +kernel
theorem dX11_neediest_44 : decode cX11_neediest 44 = .ok (.iload_n 3, 1) := by decide +kernel
theorem dX11_neediest_45 : decode cX11_neediest 45 = .ok (.istore_n 1, 1) := by decide +kernel
theorem dX11_neediest_46 : decode cX11_neediest 46 = .ok (.aload_n 0, 1) := by decide +kernel
theorem dX11_neediest_47 : decode cX11_neediest 47 = .ok (.iload_n 3, 1) := by decide +kernel
theorem dX11_neediest_48 : decode cX11_neediest 48 = .ok (.iconst 2, 1) := by decide +kernel
theorem dX11_neediest_49 : decode cX11_neediest 49 = .ok (.invokevirtual 176, 3) := by decide +kernel
theorem dX11_neediest_52 : decode cX11_neediest 52 = .ok (.aload_n 0, 1) := by decide +kernel
theorem dX11_neediest_53 : decode cX11_neediest 53 = .ok (.iload_n 3, 1) := by decide +kernel
theorem dX11_neediest_54 : decode cX11_neediest 54 = .ok (.iconst 3, 1) := by decide +kernel
theorem dX11_neediest_55 : decode cX11_neediest 55 = .ok (.invokevirtual 176, 3) := by decide +kernel
theorem dX11_neediest_58 : decode cX11_neediest 58 = .ok (.isub, 1) := by decide +kernel
theorem dX11_neediest_59 : decode cX11_neediest 59 = .ok (.istore_n 2, 1) := by decide +kernel
theorem dX11_neediest_60 : decode cX11_neediest 60 = .ok (.iinc 3 1, 3) := by decide +kernel
theorem dX11_neediest_63 : decode cX11_neediest 63 = .ok (.goto (-56), 3) := by decide +kernel
theorem dX11_neediest_66 : decode cX11_neediest 66 = .ok (.iload_n 1, 1) := by decide +kernel
theorem dX11_neediest_67 : decode cX11_neediest 67 = .ok (.ireturn, 1) := by decide +kernel
theorem dX11_isInTree_0 : decode cX11_isInTree 0 = .ok (.aload_n 0, 1) := by decide +kernel
theorem dX11_isInTree_1 : decode cX11_isInTree 1 = .ok (.iload_n 1, 1) := by decide +kernel
theorem dX11_isInTree_2 : decode cX11_isInTree 2 = .ok (.invokevirtual 266, 3) := by decide +kernel
theorem dX11_isInTree_5 : decode cX11_isInTree 5 = .ok (.ifCond .eq 15, 3) := by decide +kernel
theorem dX11_isInTree_8 : decode cX11_isInTree 8 = .ok (.aload_n 0, 1) := by decide +kernel
theorem dX11_isInTree_9 : decode cX11_isInTree 9 = .ok (.iload_n 1, 1) := by decide +kernel
theorem dX11_isInTree_10 : decode cX11_isInTree 10 = .ok (.invokevirtual 205, 3) := by decide +kernel
theorem dX11_isInTree_13 : decode cX11_isInTree 13 = .ok (.ifCond .eq 7, 3) := by decide +kernel
theorem dX11_isInTree_16 : decode cX11_isInTree 16 = .ok (.iconst 1, 1) := by decide +kernel
theorem dX11_isInTree_17 : decode cX11_isInTree 17 = .ok (.goto 4, 3) := by decide +kernel
theorem dX11_isInTree_20 : decode cX11_isInTree 20 = .ok (.iconst 0, 1) := by decide +kernel
theorem dX11_isInTree_21 : decode cX11_isInTree 21 = .ok (.ireturn, 1) := by decide +kernel
theorem dX11_parent_0 : decode cX11_parent 0 = .ok (.aload_n 0, 1) := by decide +kernel
theorem dX11_parent_1 : decode cX11_parent 1 = .ok (.iload_n 1, 1) := by decide +kernel
theorem dX11_parent_2 : decode cX11_parent 2 = .ok (.invokevirtual 266, 3) := by decide +kernel
theorem dX11_parent_5 : decode cX11_parent 5 = .ok (.ifCond .ne 5, 3) := by decide +kernel
theorem dX11_parent_8 : decode cX11_parent 8 = .ok (.iconst (-1), 1) := by decide +kernel
theorem dX11_parent_9 : decode cX11_parent 9 = .ok (.ireturn, 1) := by decide +kernel
theorem dX11_parent_10 : decode cX11_parent 10 = .ok (.aload_n 0, 1) := by decide +kernel
theorem dX11_parent_11 : decode cX11_parent 11 = .ok (.iload_n 1, 1) := by decide +kernel
theorem dX11_parent_12 : decode cX11_parent 12 = .ok (.invokevirtual 182, 3) := by decide +kernel
theorem dX11_parent_15 : decode cX11_parent 15 = .ok (.ifCond .lt 11, 3) := by decide +kernel
theorem dX11_parent_18 : decode cX11_parent 18 = .ok (.aload_n 0, 1) := by decide +kernel
theorem dX11_parent_19 : decode cX11_parent 19 = .ok (.iload_n 1, 1) := by decide +kernel
theorem dX11_parent_20 : decode cX11_parent 20 = .ok (.invokevirtual 182, 3) := by decide +kernel
theorem dX11_parent_23 : decode cX11_parent 23 = .ok (.goto 5, 3) := by decide +kernel
theorem dX11_parent_26 : decode cX11_parent 26 = .ok (.bipush (-2), 2) := by decide +kernel
theorem dX11_parent_28 : decode cX11_parent 28 = .ok (.ireturn, 1) := by decide +kernel
theorem dX11_delay_0 : decode cX11_delay 0 = .ok (.aload_n 0, 1) := by decide +kernel
theorem dX11_delay_1 : decode cX11_delay 1 = .ok (.iload_n 1, 1) := by decide +kernel
theorem dX11_delay_2 : decode cX11_delay 2 = .ok (.invokevirtual 266, 3) := by decide +kernel
theorem dX11_delay_5 : decode cX11_delay 5 = .ok (.ifCond .ne 5, 3) := by decide +kernel
theorem dX11_delay_8 : decode cX11_delay 8 = .ok (.iconst (-1), 1) := by decide +kernel
theorem dX11_delay_9 : decode cX11_delay 9 = .ok (.ireturn, 1) := by decide +kernel
theorem dX11_delay_10 : decode cX11_delay 10 = .ok (.aload_n 0, 1) := by decide +kernel
theorem dX11_delay_11 : decode cX11_delay 11 = .ok (.iload_n 1, 1) := by decide +kernel
theorem dX11_delay_12 : decode cX11_delay 12 = .ok (.invokevirtual 205, 3) := by decide +kernel
theorem dX11_delay_15 : decode cX11_delay 15 = .ok (.ifCond .eq 11, 3) := by decide +kernel
theorem dX11_delay_18 : decode cX11_delay 18 = .ok (.aload_n 0, 1) := by decide +kernel
theorem dX11_delay_19 : decode cX11_delay 19 = .ok (.iload_n 1, 1) := by decide +kernel
theorem dX11_delay_20 : decode cX11_delay 20 = .ok (.invokevirtual 235, 3) := by decide +kernel
theorem dX11_delay_23 : decode cX11_delay 23 = .ok (.goto 5, 3) := by decide +kernel
theorem dX11_delay_26 : decode cX11_delay 26 = .ok (.bipush (-2), 2) := by decide +kernel
theorem dX11_delay_28 : decode cX11_delay 28 = .ok (.ireturn, 1) := by decide +kernel
theorem dX11_below_0 : decode cX11_below 0 = .ok (.aload_n 0, 1) := by decide +kernel
theorem dX11_below_1 : decode cX11_below 1 = .ok (.iload_n 1, 1) := by decide +kernel
theorem dX11_below_2 : decode cX11_below 2 = .ok (.invokevirtual 266, 3) := by decide +kernel
theorem dX11_below_5 : decode cX11_below 5 = .ok (.ifCond .ne 5, 3) := by decide +kernel
theorem dX11_below_8 : decode cX11_below 8 = .ok (.iconst (-1), 1) := by decide +kernel
theorem dX11_below_9 : decode cX11_below 9 = .ok (.ireturn, 1) := by decide +kernel
theorem dX11_below_10 : decode cX11_below 10 = .ok (.aload_n 0, 1) := by decide +kernel
theorem dX11_below_11 : decode cX11_below 11 = .ok (.iload_n 1, 1) := by decide +kernel
theorem dX11_below_12 : decode cX11_below 12 = .ok (.invokevirtual 205, 3) := by decide +kernel
theorem dX11_below_15 : decode cX11_below 15 = .ok (.ifCond .ne 6, 3) := by decide +kernel
theorem dX11_below_18 : decode cX11_below 18 = .ok (.bipush (-2), 2) := by decide +kernel
theorem dX11_below_20 : decode cX11_below 20 = .ok (.ireturn, 1) := by decide +kernel
theorem dX11_below_21 : decode cX11_below 21 = .ok (.iconst 0, 1) := by decide +kernel
theorem dX11_below_22 : decode cX11_below 22 = .ok (.istore_n 2, 1) := by decide +kernel
theorem dX11_below_23 : decode cX11_below 23 = .ok (.iconst 0, 1) := by decide +kernel
theorem dX11_below_24 : decode cX11_below 24 = .ok (.istore_n 3, 1) := by decide +kernel
theorem dX11_below_25 : decode cX11_below 25 = .ok (.iload_n 3, 1) := by decide +kernel
theorem dX11_below_26 : decode cX11_below 26 = .ok (.aload_n 0, 1) := by decide +kernel
theorem dX11_below_27 : decode cX11_below 27 = .ok (.getfield 17, 3) := by decide +kernel
theorem dX11_below_30 : decode cX11_below 30 = .ok (.iconst 0, 1) := by decide +kernel
theorem dX11_below_31 : decode cX11_below 31 = .ok (.iaload, 1) := by decide +kernel
theorem dX11_below_32 : decode cX11_below 32 = .ok (.if_icmp .ge 39, 3) := by decide +kernel
theorem dX11_below_35 : decode cX11_below 35 = .ok (.iload_n 2, 1) := by decide +kernel
theorem dX11_below_36 : decode cX11_below 36 = .ok (.iload_n 3, 1) := by decide +kernel
theorem dX11_below_37 : decode cX11_below 37 = .ok (.iload_n 1, 1) := by decide +kernel
theorem dX11_below_38 : decode cX11_below 38 = .ok (.if_icmp .eq 24, 3) := by decide +kernel
theorem dX11_below_41 : decode cX11_below 41 = .ok (.aload_n 0, 1) := by decide +kernel
theorem dX11_below_42 : decode cX11_below 42 = .ok (.iload_n 3, 1) := by decide +kernel
theorem dX11_below_43 : decode cX11_below 43 = .ok (.invokevirtual 205, 3) := by decide +kernel
theorem dX11_below_46 : decode cX11_below 46 = .ok (.ifCond .eq 16, 3) := by decide +kernel
theorem dX11_below_49 : decode cX11_below 49 = .ok (.aload_n 0, 1) := by decide +kernel
theorem dX11_below_50 : decode cX11_below 50 = .ok (.iload_n 3, 1) := by decide +kernel
theorem dX11_below_51 : decode cX11_below 51 = .ok (.iload_n 1, 1) := by decide +kernel
theorem dX11_below_52 : decode cX11_below 52 = .ok (.invokevirtual 311, 3) := by decide +kernel
theorem dX11_below_55 : decode cX11_below 55 = .ok (.ifCond .eq 7, 3) := by decide +kernel
theorem dX11_below_58 : decode cX11_below 58 = .ok (.iconst 1, 1) := by decide +kernel
theorem dX11_below_59 : decode cX11_below 59 = .ok (.goto 4, 3) := by decide +kernel
theorem dX11_below_62 : decode cX11_below 62 = .ok (.iconst 0, 1) := by decide +kernel
theorem dX11_below_63 : decode cX11_below 63 = .ok (.iadd, 1) := by decide +kernel
theorem dX11_below_64 : decode cX11_below 64 = .ok (.istore_n 2, 1) := by decide +kernel
theorem dX11_below_65 : decode cX11_below 65 = .ok (.iinc 3 1, 3) := by decide +kernel
theorem dX11_below_68 : decode cX11_below 68 = .ok (.goto (-43), 3) := by decide +kernel
theorem dX11_below_71 : decode cX11_below 71 = .ok (.iload_n 2, 1) := by decide +kernel
theorem dX11_below_72 : decode cX11_below 72 = .ok (.ireturn, 1) := by decide +kernel
theorem dX11_demand_0 : decode cX11_demand 0 = .ok (.aload_n 0, 1) := by decide +kernel
theorem dX11_demand_1 : decode cX11_demand 1 = .ok (.iload_n 1, 1) := by decide +kernel
theorem dX11_demand_2 : decode cX11_demand 2 = .ok (.invokevirtual 266, 3) := by decide +kernel
theorem dX11_demand_5 : decode cX11_demand 5 = .ok (.ifCond .eq 11, 3) := by decide +kernel
theorem dX11_demand_8 : decode cX11_demand 8 = .ok (.aload_n 0, 1) := by decide +kernel
theorem dX11_demand_9 : decode cX11_demand 9 = .ok (.iload_n 2, 1) := by decide +kernel
theorem dX11_demand_10 : decode cX11_demand 10 = .ok (.invokevirtual 269, 3) := by decide +kernel
theorem dX11_demand_13 : decode cX11_demand 13 = .ok (.ifCond .ne 5, 3) := by decide +kernel
theorem dX11_demand_16 : decode cX11_demand 16 = .ok (.iconst (-1), 1) := by decide +kernel
theorem dX11_demand_17 : decode cX11_demand 17 = .ok (.ireturn, 1) := by decide +kernel
theorem dX11_demand_18 : decode cX11_demand 18 = .ok (.aload_n 0, 1) := by decide +kernel
theorem dX11_demand_19 : decode cX11_demand 19 = .ok (.invokevirtual 215, 3) := by decide +kernel
theorem dX11_demand_22 : decode cX11_demand 22 = .ok (.aload_n 0, 1) := by decide +kernel
theorem dX11_demand_23 : decode cX11_demand 23 = .ok (.getfield 33, 3) := by decide +kernel
theorem dX11_demand_26 : decode cX11_demand 26 = .ok (.iconst 4, 1) := by decide +kernel
theorem dX11_demand_27 : decode cX11_demand 27 = .ok (.iload_n 1, 1) := by decide +kernel
theorem dX11_demand_28 : decode cX11_demand 28 = .ok (.imul, 1) := by decide +kernel
theorem dX11_demand_29 : decode cX11_demand 29 = .ok (.iload_n 2, 1) := by decide +kernel
theorem dX11_demand_30 : decode cX11_demand 30 = .ok (.iadd, 1) := by decide +kernel
theorem dX11_demand_31 : decode cX11_demand 31 = .ok (.iaload, 1) := by decide +kernel
theorem dX11_demand_32 : decode cX11_demand 32 = .ok (.ireturn, 1) := by decide +kernel
theorem dX11_linkLoad_0 : decode cX11_linkLoad 0 = .ok (.aload_n 0, 1) := by decide +kernel
theorem dX11_linkLoad_1 : decode cX11_linkLoad 1 = .ok (.iload_n 1, 1) := by decide +kernel
theorem dX11_linkLoad_2 : decode cX11_linkLoad 2 = .ok (.invokevirtual 303, 3) := by decide +kernel
theorem dX11_linkLoad_5 : decode cX11_linkLoad 5 = .ok (.ifCond .ne 5, 3) := by decide +kernel
theorem dX11_linkLoad_8 : decode cX11_linkLoad 8 = .ok (.iconst (-1), 1) := by decide +kernel
theorem dX11_linkLoad_9 : decode cX11_linkLoad 9 = .ok (.ireturn, 1) := by decide +kernel
theorem dX11_linkLoad_10 : decode cX11_linkLoad 10 = .ok (.aload_n 0, 1) := by decide +kernel
theorem dX11_linkLoad_11 : decode cX11_linkLoad 11 = .ok (.invokevirtual 215, 3) := by decide +kernel
theorem dX11_linkLoad_14 : decode cX11_linkLoad 14 = .ok (.aload_n 0, 1) := by decide +kernel
theorem dX11_linkLoad_15 : decode cX11_linkLoad 15 = .ok (.getfield 39, 3) := by decide +kernel
theorem dX11_linkLoad_18 : decode cX11_linkLoad 18 = .ok (.iload_n 1, 1) := by decide +kernel
theorem dX11_linkLoad_19 : decode cX11_linkLoad 19 = .ok (.iaload, 1) := by decide +kernel
theorem dX11_linkLoad_20 : decode cX11_linkLoad 20 = .ok (.ireturn, 1) := by decide +kernel
theorem dX11_cpuLoad_0 : decode cX11_cpuLoad 0 = .ok (.aload_n 0, 1) := by decide +kernel
theorem dX11_cpuLoad_1 : decode cX11_cpuLoad 1 = .ok (.iload_n 1, 1) := by decide +kernel
theorem dX11_cpuLoad_2 : decode cX11_cpuLoad 2 = .ok (.invokevirtual 266, 3) := by decide +kernel
theorem dX11_cpuLoad_5 : decode cX11_cpuLoad 5 = .ok (.ifCond .ne 5, 3) := by decide +kernel
theorem dX11_cpuLoad_8 : decode cX11_cpuLoad 8 = .ok (.iconst (-1), 1) := by decide +kernel
theorem dX11_cpuLoad_9 : decode cX11_cpuLoad 9 = .ok (.ireturn, 1) := by decide +kernel
theorem dX11_cpuLoad_10 : decode cX11_cpuLoad 10 = .ok (.aload_n 0, 1) := by decide +kernel
theorem dX11_cpuLoad_11 : decode cX11_cpuLoad 11 = .ok (.invokevirtual 215, 3) := by decide +kernel
theorem dX11_cpuLoad_14 : decode cX11_cpuLoad 14 = .ok (.aload_n 0, 1) := by decide +kernel
theorem dX11_cpuLoad_15 : decode cX11_cpuLoad 15 = .ok (.getfield 42, 3) := by decide +kernel
theorem dX11_cpuLoad_18 : decode cX11_cpuLoad 18 = .ok (.iload_n 1, 1) := by decide +kernel
theorem dX11_cpuLoad_19 : decode cX11_cpuLoad 19 = .ok (.iaload, 1) := by decide +kernel
theorem dX11_cpuLoad_20 : decode cX11_cpuLoad 20 = .ok (.ireturn, 1) := by decide +kernel
theorem dX11_isPlaced_0 : decode cX11_isPlaced 0 = .ok (.aload_n 0, 1) := by decide +kernel
theorem dX11_isPlaced_1 : decode cX11_isPlaced 1 = .ok (.iload_n 1, 1) := by decide +kernel
theorem dX11_isPlaced_2 : decode cX11_isPlaced 2 = .ok (.invokevirtual 266, 3) := by decide +kernel
theorem dX11_isPlaced_5 : decode cX11_isPlaced 5 = .ok (.ifCond .eq 24, 3) := by decide +kernel
theorem dX11_isPlaced_8 : decode cX11_isPlaced 8 = .ok (.aload_n 0, 1) := by decide +kernel
theorem dX11_isPlaced_9 : decode cX11_isPlaced 9 = .ok (.iload_n 2, 1) := by decide +kernel
theorem dX11_isPlaced_10 : decode cX11_isPlaced 10 = .ok (.invokevirtual 269, 3) := by decide +kernel
theorem dX11_isPlaced_13 : decode cX11_isPlaced 13 = .ok (.ifCond .eq 16, 3) := by decide +kernel
theorem dX11_isPlaced_16 : decode cX11_isPlaced 16 = .ok (.aload_n 0, 1) := by decide +kernel
theorem dX11_isPlaced_17 : decode cX11_isPlaced 17 = .ok (.iload_n 1, 1) := by decide +kernel
theorem dX11_isPlaced_18 : decode cX11_isPlaced 18 = .ok (.iload_n 2, 1) := by decide +kernel
theorem dX11_isPlaced_19 : decode cX11_isPlaced 19 = .ok (.invokevirtual 195, 3) := by decide +kernel
theorem dX11_isPlaced_22 : decode cX11_isPlaced 22 = .ok (.ifCond .eq 7, 3) := by decide +kernel
theorem dX11_isPlaced_25 : decode cX11_isPlaced 25 = .ok (.iconst 1, 1) := by decide +kernel
theorem dX11_isPlaced_26 : decode cX11_isPlaced 26 = .ok (.goto 4, 3) := by decide +kernel
theorem dX11_isPlaced_29 : decode cX11_isPlaced 29 = .ok (.iconst 0, 1) := by decide +kernel
theorem dX11_isPlaced_30 : decode cX11_isPlaced 30 = .ok (.ireturn, 1) := by decide +kernel
theorem dX11_sumLoads_0 : decode cX11_sumLoads 0 = .ok (.iconst 0, 1) := by decide +kernel
theorem dX11_sumLoads_1 : decode cX11_sumLoads 1 = .ok (.istore_n 1, 1) := by decide +kernel
theorem dX11_sumLoads_2 : decode cX11_sumLoads 2 = .ok (.iconst 0, 1) := by decide +kernel
theorem dX11_sumLoads_3 : decode cX11_sumLoads 3 = .ok (.istore_n 2, 1) := by decide +kernel
theorem dX11_sumLoads_4 : decode cX11_sumLoads 4 = .ok (.iload_n 2, 1) := by decide +kernel
theorem dX11_sumLoads_5 : decode cX11_sumLoads 5 = .ok (.aload_n 0, 1) := by decide +kernel
theorem dX11_sumLoads_6 : decode cX11_sumLoads 6 = .ok (.getfield 17, 3) := by decide +kernel
theorem dX11_sumLoads_9 : decode cX11_sumLoads 9 = .ok (.iconst 1, 1) := by decide +kernel
theorem dX11_sumLoads_10 : decode cX11_sumLoads 10 = .ok (.iaload, 1) := by decide +kernel
theorem dX11_sumLoads_11 : decode cX11_sumLoads 11 = .ok (.if_icmp .ge 18, 3) := by decide +kernel
theorem dX11_sumLoads_14 : decode cX11_sumLoads 14 = .ok (.iload_n 1, 1) := by decide +kernel
theorem dX11_sumLoads_15 : decode cX11_sumLoads 15 = .ok (.aload_n 0, 1) := by decide +kernel
theorem dX11_sumLoads_16 : decode cX11_sumLoads 16 = .ok (.getfield 39, 3) := by decide +kernel
theorem dX11_sumLoads_19 : decode cX11_sumLoads 19 = .ok (.iload_n 2, 1) := by decide +kernel
theorem dX11_sumLoads_20 : decode cX11_sumLoads 20 = .ok (.iaload, 1) := by decide +kernel
theorem dX11_sumLoads_21 : decode cX11_sumLoads 21 = .ok (.iadd, 1) := by decide +kernel
theorem dX11_sumLoads_22 : decode cX11_sumLoads 22 = .ok (.istore_n 1, 1) := by decide +kernel
theorem dX11_sumLoads_23 : decode cX11_sumLoads 23 = .ok (.iinc 2 1, 3) := by decide +kernel
theorem dX11_sumLoads_26 : decode cX11_sumLoads 26 = .ok (.goto (-22), 3) := by decide +kernel
theorem dX11_sumLoads_29 : decode cX11_sumLoads 29 = .ok (.iload_n 1, 1) := by decide +kernel
theorem dX11_sumLoads_30 : decode cX11_sumLoads 30 = .ok (.ireturn, 1) := by decide +kernel
theorem dX11_countReceivers_0 : decode cX11_countReceivers 0 = .ok (.iconst 0, 1) := by decide +kernel
theorem dX11_countReceivers_1 : decode cX11_countReceivers 1 = .ok (.istore_n 2, 1) := by decide +kernel
theorem dX11_countReceivers_2 : decode cX11_countReceivers 2 = .ok (.iconst 0, 1) := by decide +kernel
theorem dX11_countReceivers_3 : decode cX11_countReceivers 3 = .ok (.istore_n 3, 1) := by decide +kernel
theorem dX11_countReceivers_4 : decode cX11_countReceivers 4 = .ok (.iload_n 3, 1) := by decide +kernel
theorem dX11_countReceivers_5 : decode cX11_countReceivers 5 = .ok (.aload_n 0, 1) := by decide +kernel
theorem dX11_countReceivers_6 : decode cX11_countReceivers 6 = .ok (.getfield 24, 3) := by decide +kernel
theorem dX11_countReceivers_9 : decode cX11_countReceivers 9 = .ok (.bipush 96, 2) := by decide +kernel
theorem dX11_countReceivers_11 : decode cX11_countReceivers 11 = .ok (.iaload, 1) := by decide +kernel
theorem dX11_countReceivers_12 : decode cX11_countReceivers 12 = .ok (.if_icmp .ge 81, 3) := by decide +kernel
theorem dX11_countReceivers_15 : decode cX11_countReceivers 15 = .ok (.aload_n 0, 1) := by decide +kernel
theorem dX11_countReceivers_16 : decode cX11_countReceivers 16 = .ok (.iload_n 3, 1) := by decide +kernel
theorem dX11_countReceivers_17 : decode cX11_countReceivers 17 = .ok (.iconst 4, 1) := by decide +kernel
theorem dX11_countReceivers_18 : decode cX11_countReceivers 18 = .ok (.invokevirtual 176, 3) := by decide +kernel
theorem dX11_countReceivers_21 : decode cX11_countReceivers 21 = .ok (.ifCond .ne 7, 3) := by decide +kernel
theorem dX11_countReceivers_24 : decode cX11_countReceivers 24 = .ok (.iconst 1, 1) := by decide +kernel
theorem dX11_countReceivers_25 : decode cX11_countReceivers 25 = .ok (.goto 4, 3) := by decide +kernel
theorem dX11_countReceivers_28 : decode cX11_countReceivers 28 = .ok (.iconst 0, 1) := by decide +kernel
theorem dX11_countReceivers_29 : decode cX11_countReceivers 29 = .ok (.istore 4, 2) := by decide +kernel
theorem dX11_countReceivers_31 : decode cX11_countReceivers 31 = .ok (.iload_n 2, 1) := by decide +kernel
theorem dX11_countReceivers_32 : decode cX11_countReceivers 32 = .ok (.iload 4, 2) := by decide +kernel
theorem dX11_countReceivers_34 : decode cX11_countReceivers 34 = .ok (.ifCond .ne 7, 3) := by decide +kernel
theorem dX11_countReceivers_37 : decode cX11_countReceivers 37 = .ok (.iconst 0, 1) := by decide +kernel
theorem dX11_countReceivers_38 : decode cX11_countReceivers 38 = .ok (.goto 47, 3) := by decide +kernel
theorem dX11_countReceivers_41 : decode cX11_countReceivers 41 = .ok (.iload_n 1, 1) := by decide +kernel
theorem dX11_countReceivers_42 : decode cX11_countReceivers 42 = .ok (.iconst 1, 1) := by decide +kernel
theorem dX11_countReceivers_43 : decode cX11_countReceivers 43 = .ok (.if_icmp .ne 12, 3) := by decide +kernel
theorem dX11_countReceivers_46 : decode cX11_countReceivers 46 = .ok (.aload_n 0, 1) := by decide +kernel
theorem dX11_countReceivers_47 : decode cX11_countReceivers 47 = .ok (.iload_n 3, 1) := by decide +kernel
theorem dX11_countReceivers_48 : decode cX11_countReceivers 48 = .ok (.iconst 2, 1) := by decide +kernel
theorem dX11_countReceivers_49 : decode cX11_countReceivers 49 = .ok (.invokevirtual 176, 3) := by decide +kernel
theorem dX11_countReceivers_52 : decode cX11_countReceivers 52 = .ok (.goto 33, 3) := by decide +kernel
theorem dX11_countReceivers_55 : decode cX11_countReceivers 55 = .ok (.iload_n 1, 1) := by decide +kernel
theorem dX11_countReceivers_56 : decode cX11_countReceivers 56 = .ok (.bipush 6, 2) := by decide +kernel
theorem dX11_countReceivers_58 : decode cX11_countReceivers 58 = .ok (.if_icmp .ne 26, 3) := by decide +kernel
theorem dX11_countReceivers_61 : decode cX11_countReceivers 61 = .ok (.aload_n 0, 1) := by decide +kernel
theorem dX11_countReceivers_62 : decode cX11_countReceivers 62 = .ok (.iload_n 3, 1) := by decide +kernel
theorem dX11_countReceivers_63 : decode cX11_countReceivers 63 = .ok (.iconst 2, 1) := by decide +kernel
theorem dX11_countReceivers_64 : decode cX11_countReceivers 64 = .ok (.invokevirtual 176, 3) := by decide +kernel
theorem dX11_countReceivers_67 : decode cX11_countReceivers 67 = .ok (.aload_n 0, 1) := by decide +kernel
theorem dX11_countReceivers_68 : decode cX11_countReceivers 68 = .ok (.iload_n 3, 1) := by decide +kernel
theorem dX11_countReceivers_69 : decode cX11_countReceivers 69 = .ok (.iconst 3, 1) := by decide +kernel
theorem dX11_countReceivers_70 : decode cX11_countReceivers 70 = .ok (.invokevirtual 176, 3) := by decide +kernel
theorem dX11_countReceivers_73 : decode cX11_countReceivers 73 = .ok (.if_icmp .ne 7, 3) := by decide +kernel
theorem dX11_countReceivers_76 : decode cX11_countReceivers 76 = .ok (.iconst 1, 1) := by decide +kernel
theorem dX11_countReceivers_77 : decode cX11_countReceivers 77 = .ok (.goto 8, 3) := by decide +kernel
theorem dX11_countReceivers_80 : decode cX11_countReceivers 80 = .ok (.iconst 0, 1) := by decide +kernel
theorem dX11_countReceivers_81 : decode cX11_countReceivers 81 = .ok (.goto 4, 3) := by decide +kernel
theorem dX11_countReceivers_84 : decode cX11_countReceivers 84 = .ok (.iconst 1, 1) := by decide +kernel
theorem dX11_countReceivers_85 : decode cX11_countReceivers 85 = .ok (.iadd, 1) := by decide +kernel
theorem dX11_countReceivers_86 : decode cX11_countReceivers 86 = .ok (.istore_n 2, 1) := by decide +kernel
theorem dX11_countReceivers_87 : decode cX11_countReceivers 87 = .ok (.iinc 3 1, 3) := by decide +kernel
theorem dX11_countReceivers_90 : decode cX11_countReceivers 90 = .ok (.goto (-86), 3) := by decide +kernel
theorem dX11_countReceivers_93 : decode cX11_countReceivers 93 = .ok (.iload_n 2, 1) := by decide +kernel
theorem dX11_countReceivers_94 : decode cX11_countReceivers 94 = .ok (.ireturn, 1) := by decide +kernel
theorem dX11_countNodes_0 : decode cX11_countNodes 0 = .ok (.iconst 0, 1) := by decide +kernel
theorem dX11_countNodes_1 : decode cX11_countNodes 1 = .ok (.istore_n 2, 1) := by decide +kernel
theorem dX11_countNodes_2 : decode cX11_countNodes 2 = .ok (.iconst 0, 1) := by decide +kernel
theorem dX11_countNodes_3 : decode cX11_countNodes 3 = .ok (.istore_n 3, 1) := by decide +kernel
theorem dX11_countNodes_4 : decode cX11_countNodes 4 = .ok (.iload_n 3, 1) := by decide +kernel
theorem dX11_countNodes_5 : decode cX11_countNodes 5 = .ok (.aload_n 0, 1) := by decide +kernel
theorem dX11_countNodes_6 : decode cX11_countNodes 6 = .ok (.getfield 17, 3) := by decide +kernel
theorem dX11_countNodes_9 : decode cX11_countNodes 9 = .ok (.iconst 0, 1) := by decide +kernel
theorem dX11_countNodes_10 : decode cX11_countNodes 10 = .ok (.iaload, 1) := by decide +kernel
theorem dX11_countNodes_11 : decode cX11_countNodes 11 = .ok (.if_icmp .ge 103, 3) := by decide +kernel
theorem dX11_countNodes_14 : decode cX11_countNodes 14 = .ok (.iload_n 1, 1) := by decide +kernel
theorem dX11_countNodes_15 : decode cX11_countNodes 15 = .ok (.iconst 3, 1) := by decide +kernel
theorem dX11_countNodes_16 : decode cX11_countNodes 16 = .ok (.if_icmp .ne 22, 3) := by decide +kernel
theorem dX11_countNodes_19 : decode cX11_countNodes 19 = .ok (.iload_n 2, 1) := by decide +kernel
theorem dX11_countNodes_20 : decode cX11_countNodes 20 = .ok (.aload_n 0, 1) := by decide +kernel
theorem dX11_countNodes_21 : decode cX11_countNodes 21 = .ok (.iload_n 3, 1) := by decide +kernel
theorem dX11_countNodes_22 : decode cX11_countNodes 22 = .ok (.invokevirtual 205, 3) := by decide +kernel
theorem dX11_countNodes_25 : decode cX11_countNodes 25 = .ok (.ifCond .eq 7, 3) := by decide +kernel
theorem dX11_countNodes_28 : decode cX11_countNodes 28 = .ok (.iconst 1, 1) := by decide +kernel
theorem dX11_countNodes_29 : decode cX11_countNodes 29 = .ok (.goto 4, 3) := by decide +kernel
theorem dX11_countNodes_32 : decode cX11_countNodes 32 = .ok (.iconst 0, 1) := by decide +kernel
theorem dX11_countNodes_33 : decode cX11_countNodes 33 = .ok (.iadd, 1) := by decide +kernel
theorem dX11_countNodes_34 : decode cX11_countNodes 34 = .ok (.istore_n 2, 1) := by decide +kernel
theorem dX11_countNodes_35 : decode cX11_countNodes 35 = .ok (.goto 30, 3) := by decide +kernel
theorem dX11_countNodes_38 : decode cX11_countNodes 38 = .ok (.iload_n 1, 1) := by decide +kernel
theorem dX11_countNodes_39 : decode cX11_countNodes 39 = .ok (.iconst 5, 1) := by decide +kernel
theorem dX11_countNodes_40 : decode cX11_countNodes 40 = .ok (.if_icmp .ne 25, 3) := by decide +kernel
theorem dX11_countNodes_43 : decode cX11_countNodes 43 = .ok (.aload_n 0, 1) := by decide +kernel
theorem dX11_countNodes_44 : decode cX11_countNodes 44 = .ok (.iload_n 3, 1) := by decide +kernel
theorem dX11_countNodes_45 : decode cX11_countNodes 45 = .ok (.invokevirtual 205, 3) := by decide +kernel
theorem dX11_countNodes_48 : decode cX11_countNodes 48 = .ok (.ifCond .eq 15, 3) := by decide +kernel
theorem dX11_countNodes_51 : decode cX11_countNodes 51 = .ok (.iload_n 2, 1) := by decide +kernel
theorem dX11_countNodes_52 : decode cX11_countNodes 52 = .ok (.aload_n 0, 1) := by decide +kernel
theorem dX11_countNodes_53 : decode cX11_countNodes 53 = .ok (.iload_n 3, 1) := by decide +kernel
theorem dX11_countNodes_54 : decode cX11_countNodes 54 = .ok (.invokevirtual 235, 3) := by decide +kernel
theorem dX11_countNodes_57 : decode cX11_countNodes 57 = .ok (.invokestatic 192, 3) := by decide +kernel
theorem dX11_countNodes_60 : decode cX11_countNodes 60 = .ok (.goto 4, 3) := by decide +kernel
theorem dX11_countNodes_63 : decode cX11_countNodes 63 = .ok (.iload_n 2, 1) := by decide +kernel
theorem dX11_countNodes_64 : decode cX11_countNodes 64 = .ok (.istore_n 2, 1) := by decide +kernel
theorem dX11_countNodes_65 : decode cX11_countNodes 65 = .ok (.iconst 1, 1) := by decide +kernel
theorem dX11_countNodes_66 : decode cX11_countNodes 66 = .ok (.istore 4, 2) := by decide +kernel
theorem dX11_countNodes_68 : decode cX11_countNodes 68 = .ok (.iload 4, 2) := by decide +kernel
theorem dX11_countNodes_70 : decode cX11_countNodes 70 = .ok (.aload_n 0, 1) := by decide +kernel
theorem dX11_countNodes_71 : decode cX11_countNodes 71 = .ok (.getfield 17, 3) := by decide +kernel
theorem dX11_countNodes_74 : decode cX11_countNodes 74 = .ok (.iconst 2, 1) := by decide +kernel
theorem dX11_countNodes_75 : decode cX11_countNodes 75 = .ok (.iaload, 1) := by decide +kernel
theorem dX11_countNodes_76 : decode cX11_countNodes 76 = .ok (.if_icmp .ge 32, 3) := by decide +kernel
theorem dX11_countNodes_79 : decode cX11_countNodes 79 = .ok (.iload_n 1, 1) := by decide +kernel
theorem dX11_countNodes_80 : decode cX11_countNodes 80 = .ok (.iconst 4, 1) := by decide +kernel
theorem dX11_countNodes_81 : decode cX11_countNodes 81 = .ok (.if_icmp .ne 27, 3) := by decide +kernel
theorem dX11_countNodes_84 : decode cX11_countNodes 84 = .ok (.iload_n 2, 1) := by decide +kernel
theorem dX11_countNodes_85 : decode cX11_countNodes 85 = .ok (.aload_n 0, 1) := by decide +kernel
theorem dX11_countNodes_86 : decode cX11_countNodes 86 = .ok (.iload_n 3, 1) := by decide +kernel
theorem dX11_countNodes_87 : decode cX11_countNodes 87 = .ok (.iload 4, 2) := by decide +kernel
theorem dX11_countNodes_89 : decode cX11_countNodes 89 = .ok (.invokevirtual 195, 3) := by decide +kernel
theorem dX11_countNodes_92 : decode cX11_countNodes 92 = .ok (.ifCond .eq 7, 3) := by decide +kernel
theorem dX11_countNodes_95 : decode cX11_countNodes 95 = .ok (.iconst 1, 1) := by decide +kernel
theorem dX11_countNodes_96 : decode cX11_countNodes 96 = .ok (.goto 4, 3) := by decide +kernel
theorem dX11_countNodes_99 : decode cX11_countNodes 99 = .ok (.iconst 0, 1) := by decide +kernel
theorem dX11_countNodes_100 : decode cX11_countNodes 100 = .ok (.iadd, 1) := by decide +kernel
theorem dX11_countNodes_101 : decode cX11_countNodes 101 = .ok (.istore_n 2, 1) := by decide +kernel
theorem dX11_countNodes_102 : decode cX11_countNodes 102 = .ok (.iinc 4 1, 3) := by decide +kernel
theorem dX11_countNodes_105 : decode cX11_countNodes 105 = .ok (.goto (-37), 3) := by decide +kernel
theorem dX11_countNodes_108 : decode cX11_countNodes 108 = .ok (.iinc 3 1, 3) := by decide +kernel
theorem dX11_countNodes_111 : decode cX11_countNodes 111 = .ok (.goto (-107), 3) := by decide +kernel
theorem dX11_countNodes_114 : decode cX11_countNodes 114 = .ok (.iload_n 2, 1) := by decide +kernel
theorem dX11_countNodes_115 : decode cX11_countNodes 115 = .ok (.ireturn, 1) := by decide +kernel
theorem dX11_total_0 : decode cX11_total 0 = .ok (.iload_n 1, 1) := by decide +kernel
theorem dX11_total_1 : decode cX11_total 1 = .ok (.tableswitch 73 0 7 #[47, 52, 58, 67, 67, 67, 52, 52], 47) := by decide +kernel
theorem dX11_total_48 : decode cX11_total 48 = .ok (.aload_n 0, 1) := by decide +kernel
theorem dX11_total_49 : decode cX11_total 49 = .ok (.invokevirtual 314, 3) := by decide +kernel
theorem dX11_total_52 : decode cX11_total 52 = .ok (.ireturn, 1) := by decide +kernel
theorem dX11_total_53 : decode cX11_total 53 = .ok (.aload_n 0, 1) := by decide +kernel
theorem dX11_total_54 : decode cX11_total 54 = .ok (.iload_n 1, 1) := by decide +kernel
theorem dX11_total_55 : decode cX11_total 55 = .ok (.invokevirtual 326, 3) := by decide +kernel
theorem dX11_total_58 : decode cX11_total 58 = .ok (.ireturn, 1) := by decide +kernel
theorem dX11_total_59 : decode cX11_total 59 = .ok (.aload_n 0, 1) := by decide +kernel
theorem dX11_total_60 : decode cX11_total 60 = .ok (.invokevirtual 215, 3) := by decide +kernel
theorem dX11_total_63 : decode cX11_total 63 = .ok (.aload_n 0, 1) := by decide +kernel
theorem dX11_total_64 : decode cX11_total 64 = .ok (.invokevirtual 329, 3) := by decide +kernel
theorem dX11_total_67 : decode cX11_total 67 = .ok (.ireturn, 1) := by decide +kernel
theorem dX11_total_68 : decode cX11_total 68 = .ok (.aload_n 0, 1) := by decide +kernel
theorem dX11_total_69 : decode cX11_total 69 = .ok (.iload_n 1, 1) := by decide +kernel
theorem dX11_total_70 : decode cX11_total 70 = .ok (.invokevirtual 332, 3) := by decide +kernel
theorem dX11_total_73 : decode cX11_total 73 = .ok (.ireturn, 1) := by decide +kernel
theorem dX11_total_74 : decode cX11_total 74 = .ok (.iconst (-1), 1) := by decide +kernel
theorem dX11_total_75 : decode cX11_total 75 = .ok (.ireturn, 1) := by decide +kernel
theorem dX11_busy_0 : decode cX11_busy 0 = .ok (.aload_n 0, 1) := by decide +kernel
theorem dX11_busy_1 : decode cX11_busy 1 = .ok (.getfield 39, 3) := by decide +kernel
theorem dX11_busy_4 : decode cX11_busy 4 = .ok (.iload_n 1, 1) := by decide +kernel
theorem dX11_busy_5 : decode cX11_busy 5 = .ok (.iaload, 1) := by decide +kernel
theorem dX11_busy_6 : decode cX11_busy 6 = .ok (.ifCond .ne 7, 3) := by decide +kernel
theorem dX11_busy_9 : decode cX11_busy 9 = .ok (.iconst 0, 1) := by decide +kernel
theorem dX11_busy_10 : decode cX11_busy 10 = .ok (.goto 22, 3) := by decide +kernel
theorem dX11_busy_13 : decode cX11_busy 13 = .ok (.aload_n 0, 1) := by decide +kernel
theorem dX11_busy_14 : decode cX11_busy 14 = .ok (.getfield 39, 3) := by decide +kernel
theorem dX11_busy_17 : decode cX11_busy 17 = .ok (.iload_n 1, 1) := by decide +kernel
theorem dX11_busy_18 : decode cX11_busy 18 = .ok (.iaload, 1) := by decide +kernel
theorem dX11_busy_19 : decode cX11_busy 19 = .ok (.sipush 1000, 3) := by decide +kernel
theorem dX11_busy_22 : decode cX11_busy 22 = .ok (.imul, 1) := by decide +kernel
theorem dX11_busy_23 : decode cX11_busy 23 = .ok (.aload_n 0, 1) := by decide +kernel
theorem dX11_busy_24 : decode cX11_busy 24 = .ok (.getfield 24, 3) := by decide +kernel
theorem dX11_busy_27 : decode cX11_busy 27 = .ok (.iconst 0, 1) := by decide +kernel
theorem dX11_busy_28 : decode cX11_busy 28 = .ok (.iload_n 1, 1) := by decide +kernel
theorem dX11_busy_29 : decode cX11_busy 29 = .ok (.iadd, 1) := by decide +kernel
theorem dX11_busy_30 : decode cX11_busy 30 = .ok (.iaload, 1) := by decide +kernel
theorem dX11_busy_31 : decode cX11_busy 31 = .ok (.idiv, 1) := by decide +kernel
theorem dX11_busy_32 : decode cX11_busy 32 = .ok (.ireturn, 1) := by decide +kernel
theorem dX11_busiest_0 : decode cX11_busiest 0 = .ok (.iload_n 1, 1) := by decide +kernel
theorem dX11_busiest_1 : decode cX11_busiest 1 = .ok (.ifCond .ge 5, 3) := by decide +kernel
theorem dX11_busiest_4 : decode cX11_busiest 4 = .ok (.iconst (-1), 1) := by decide +kernel
theorem dX11_busiest_5 : decode cX11_busiest 5 = .ok (.ireturn, 1) := by decide +kernel
theorem dX11_busiest_6 : decode cX11_busiest 6 = .ok (.aload_n 0, 1) := by decide +kernel
theorem dX11_busiest_7 : decode cX11_busiest 7 = .ok (.invokevirtual 215, 3) := by decide +kernel
theorem dX11_busiest_10 : decode cX11_busiest 10 = .ok (.iconst 0, 1) := by decide +kernel
theorem dX11_busiest_11 : decode cX11_busiest 11 = .ok (.istore_n 2, 1) := by decide +kernel
theorem dX11_busiest_12 : decode cX11_busiest 12 = .ok (.iload_n 2, 1) := by decide +kernel
theorem dX11_busiest_13 : decode cX11_busiest 13 = .ok (.aload_n 0, 1) := by decide +kernel
theorem dX11_busiest_14 : decode cX11_busiest 14 = .ok (.getfield 17, 3) := by decide +kernel
theorem dX11_busiest_17 : decode cX11_busiest 17 = .ok (.iconst 1, 1) := by decide +kernel
theorem dX11_busiest_18 : decode cX11_busiest 18 = .ok (.iaload, 1) := by decide +kernel
theorem dX11_busiest_19 : decode cX11_busiest 19 = .ok (.if_icmp .ge 80, 3) := by decide +kernel
theorem dX11_busiest_22 : decode cX11_busiest 22 = .ok (.iconst 0, 1) := by decide +kernel
theorem dX11_busiest_23 : decode cX11_busiest 23 = .ok (.istore_n 3, 1) := by decide +kernel
theorem dX11_busiest_24 : decode cX11_busiest 24 = .ok (.iconst 0, 1) := by decide +kernel
theorem dX11_busiest_25 : decode cX11_busiest 25 = .ok (.istore 4, 2) := by decide +kernel
theorem dX11_busiest_27 : decode cX11_busiest 27 = .ok (.iload 4, 2) := by decide +kernel
theorem dX11_busiest_29 : decode cX11_busiest 29 = .ok (.aload_n 0, 1) := by decide +kernel
theorem dX11_busiest_30 : decode cX11_busiest 30 = .ok (.getfield 17, 3) := by decide +kernel
theorem dX11_busiest_33 : decode cX11_busiest 33 = .ok (.iconst 1, 1) := by decide +kernel
theorem dX11_busiest_34 : decode cX11_busiest 34 = .ok (.iaload, 1) := by decide +kernel
theorem dX11_busiest_35 : decode cX11_busiest 35 = .ok (.if_icmp .ge 51, 3) := by decide +kernel
theorem dX11_busiest_38 : decode cX11_busiest 38 = .ok (.iload_n 3, 1) := by decide +kernel
theorem dX11_busiest_39 : decode cX11_busiest 39 = .ok (.aload_n 0, 1) := by decide +kernel
theorem dX11_busiest_40 : decode cX11_busiest 40 = .ok (.iload 4, 2) := by decide +kernel
theorem dX11_busiest_42 : decode cX11_busiest 42 = .ok (.invokevirtual 335, 3) := by decide +kernel
theorem dX11_busiest_45 : decode cX11_busiest 45 = .ok (.aload_n 0, 1) := by decide +kernel
theorem dX11_busiest_46 : decode cX11_busiest 46 = .ok (.iload_n 2, 1) := by decide +kernel
theorem dX11_busiest_47 : decode cX11_busiest 47 = .ok (.invokevirtual 335, 3) := by decide +kernel
theorem dX11_busiest_50 : decode cX11_busiest 50 = .ok (.if_icmp .gt 23, 3) := by decide +kernel
theorem dX11_busiest_53 : decode cX11_busiest 53 = .ok (.aload_n 0, 1) := by decide +kernel
theorem dX11_busiest_54 : decode cX11_busiest 54 = .ok (.iload 4, 2) := by decide +kernel
theorem dX11_busiest_56 : decode cX11_busiest 56 = .ok (.invokevirtual 335, 3) := by decide +kernel
theorem dX11_busiest_59 : decode cX11_busiest 59 = .ok (.aload_n 0, 1) := by decide +kernel
theorem dX11_busiest_60 : decode cX11_busiest 60 = .ok (.iload_n 2, 1) := by decide +kernel
theorem dX11_busiest_61 : decode cX11_busiest 61 = .ok (.invokevirtual 335, 3) := by decide +kernel
theorem dX11_busiest_64 : decode cX11_busiest 64 = .ok (.if_icmp .ne 13, 3) := by decide +kernel
theorem dX11_busiest_67 : decode cX11_busiest 67 = .ok (.iload 4, 2) := by decide +kernel
theorem dX11_busiest_69 : decode cX11_busiest 69 = .ok (.iload_n 2, 1) := by decide +kernel
theorem dX11_busiest_70 : decode cX11_busiest 70 = .ok (.if_icmp .ge 7, 3) := by decide +kernel
theorem dX11_busiest_73 : decode cX11_busiest 73 = .ok (.iconst 1, 1) := by decide +kernel
theorem dX11_busiest_74 : decode cX11_busiest 74 = .ok (.goto 4, 3) := by decide +kernel
theorem dX11_busiest_77 : decode cX11_busiest 77 = .ok (.iconst 0, 1) := by decide +kernel
theorem dX11_busiest_78 : decode cX11_busiest 78 = .ok (.iadd, 1) := by decide +kernel
theorem dX11_busiest_79 : decode cX11_busiest 79 = .ok (.istore_n 3, 1) := by decide +kernel
theorem dX11_busiest_80 : decode cX11_busiest 80 = .ok (.iinc 4 1, 3) := by decide +kernel
theorem dX11_busiest_83 : decode cX11_busiest 83 = .ok (.goto (-56), 3) := by decide +kernel
theorem dX11_busiest_86 : decode cX11_busiest 86 = .ok (.iload_n 3, 1) := by decide +kernel
theorem dX11_busiest_87 : decode cX11_busiest 87 = .ok (.iload_n 1, 1) := by decide +kernel
theorem dX11_busiest_88 : decode cX11_busiest 88 = .ok (.if_icmp .ne 5, 3) := by decide +kernel
theorem dX11_busiest_91 : decode cX11_busiest 91 = .ok (.iload_n 2, 1) := by decide +kernel
theorem dX11_busiest_92 : decode cX11_busiest 92 = .ok (.ireturn, 1) := by decide +kernel
theorem dX11_busiest_93 : decode cX11_busiest 93 = .ok (.iinc 2 1, 3) := by decide +kernel
theorem dX11_busiest_96 : decode cX11_busiest 96 = .ok (.goto (-84), 3) := by decide +kernel
theorem dX11_busiest_99 : decode cX11_busiest 99 = .ok (.bipush (-2), 2) := by decide +kernel
theorem dX11_busiest_101 : decode cX11_busiest 101 = .ok (.ireturn, 1) := by decide +kernel
theorem dX11_offer_0 : decode cX11_offer 0 = .ok (.aload_n 0, 1) := by decide +kernel
theorem dX11_offer_1 : decode cX11_offer 1 = .ok (.iload_n 1, 1) := by decide +kernel
theorem dX11_offer_2 : decode cX11_offer 2 = .ok (.invokevirtual 266, 3) := by decide +kernel
theorem dX11_offer_5 : decode cX11_offer 5 = .ok (.ifCond .eq 11, 3) := by decide +kernel
theorem dX11_offer_8 : decode cX11_offer 8 = .ok (.aload_n 0, 1) := by decide +kernel
theorem dX11_offer_9 : decode cX11_offer 9 = .ok (.iload_n 2, 1) := by decide +kernel
theorem dX11_offer_10 : decode cX11_offer 10 = .ok (.invokevirtual 269, 3) := by decide +kernel
theorem dX11_offer_13 : decode cX11_offer 13 = .ok (.ifCond .ne 5, 3) := by decide +kernel
theorem dX11_offer_16 : decode cX11_offer 16 = .ok (.iconst (-1), 1) := by decide +kernel
theorem dX11_offer_17 : decode cX11_offer 17 = .ok (.ireturn, 1) := by decide +kernel
theorem dX11_offer_18 : decode cX11_offer 18 = .ok (.aload_n 0, 1) := by decide +kernel
theorem dX11_offer_19 : decode cX11_offer 19 = .ok (.invokevirtual 288, 3) := by decide +kernel
theorem dX11_offer_22 : decode cX11_offer 22 = .ok (.aload_n 0, 1) := by decide +kernel
theorem dX11_offer_23 : decode cX11_offer 23 = .ok (.bipush 20, 2) := by decide +kernel
theorem dX11_offer_25 : decode cX11_offer 25 = .ok (.iload_n 1, 1) := by decide +kernel
theorem dX11_offer_26 : decode cX11_offer 26 = .ok (.iload_n 2, 1) := by decide +kernel
theorem dX11_offer_27 : decode cX11_offer 27 = .ok (.aload_n 0, 1) := by decide +kernel
theorem dX11_offer_28 : decode cX11_offer 28 = .ok (.getfield 17, 3) := by decide +kernel
theorem dX11_offer_31 : decode cX11_offer 31 = .ok (.iconst 3, 1) := by decide +kernel
theorem dX11_offer_32 : decode cX11_offer 32 = .ok (.iaload, 1) := by decide +kernel
theorem dX11_offer_33 : decode cX11_offer 33 = .ok (.invokevirtual 278, 3) := by decide +kernel
theorem dX11_offer_36 : decode cX11_offer 36 = .ok (.aload_n 0, 1) := by decide +kernel
theorem dX11_offer_37 : decode cX11_offer 37 = .ok (.bipush 20, 2) := by decide +kernel
theorem dX11_offer_39 : decode cX11_offer 39 = .ok (.invokevirtual 282, 3) := by decide +kernel
theorem dX11_offer_42 : decode cX11_offer 42 = .ok (.aload_n 0, 1) := by decide +kernel
theorem dX11_offer_43 : decode cX11_offer 43 = .ok (.bipush 20, 2) := by decide +kernel
theorem dX11_offer_45 : decode cX11_offer 45 = .ok (.iconst 3, 1) := by decide +kernel
theorem dX11_offer_46 : decode cX11_offer 46 = .ok (.invokevirtual 176, 3) := by decide +kernel
theorem dX11_offer_49 : decode cX11_offer 49 = .ok (.istore_n 3, 1) := by decide +kernel
theorem dX11_offer_50 : decode cX11_offer 50 = .ok (.aload_n 0, 1) := by decide +kernel
theorem dX11_offer_51 : decode cX11_offer 51 = .ok (.invokevirtual 291, 3) := by decide +kernel
theorem dX11_offer_54 : decode cX11_offer 54 = .ok (.iload_n 3, 1) := by decide +kernel
theorem dX11_offer_55 : decode cX11_offer 55 = .ok (.ireturn, 1) := by decide +kernel
theorem dX11_graftNode_0 : decode cX11_graftNode 0 = .ok (.aload_n 0, 1) := by decide +kernel
theorem dX11_graftNode_1 : decode cX11_graftNode 1 = .ok (.iload_n 1, 1) := by decide +kernel
theorem dX11_graftNode_2 : decode cX11_graftNode 2 = .ok (.invokevirtual 266, 3) := by decide +kernel
theorem dX11_graftNode_5 : decode cX11_graftNode 5 = .ok (.ifCond .eq 24, 3) := by decide +kernel
theorem dX11_graftNode_8 : decode cX11_graftNode 8 = .ok (.aload_n 0, 1) := by decide +kernel
theorem dX11_graftNode_9 : decode cX11_graftNode 9 = .ok (.iload_n 2, 1) := by decide +kernel
theorem dX11_graftNode_10 : decode cX11_graftNode 10 = .ok (.invokevirtual 269, 3) := by decide +kernel
theorem dX11_graftNode_13 : decode cX11_graftNode 13 = .ok (.ifCond .eq 16, 3) := by decide +kernel
theorem dX11_graftNode_16 : decode cX11_graftNode 16 = .ok (.aload_n 0, 1) := by decide +kernel
theorem dX11_graftNode_17 : decode cX11_graftNode 17 = .ok (.iload_n 3, 1) := by decide +kernel
theorem dX11_graftNode_18 : decode cX11_graftNode 18 = .ok (.invokevirtual 272, 3) := by decide +kernel
theorem dX11_graftNode_21 : decode cX11_graftNode 21 = .ok (.ifCond .eq 8, 3) := by decide +kernel
theorem dX11_graftNode_24 : decode cX11_graftNode 24 = .ok (.iload 4, 2) := by decide +kernel
theorem dX11_graftNode_26 : decode cX11_graftNode 26 = .ok (.ifCond .ge 5, 3) := by decide +kernel
theorem dX11_graftNode_29 : decode cX11_graftNode 29 = .ok (.iconst (-1), 1) := by decide +kernel
theorem dX11_graftNode_30 : decode cX11_graftNode 30 = .ok (.ireturn, 1) := by decide +kernel
theorem dX11_graftNode_31 : decode cX11_graftNode 31 = .ok (.aload_n 0, 1) := by decide +kernel
theorem dX11_graftNode_32 : decode cX11_graftNode 32 = .ok (.iload_n 1, 1) := by decide +kernel
theorem dX11_graftNode_33 : decode cX11_graftNode 33 = .ok (.invokevirtual 205, 3) := by decide +kernel
theorem dX11_graftNode_36 : decode cX11_graftNode 36 = .ok (.ifCond .ne 26, 3) := by decide +kernel
theorem dX11_graftNode_39 : decode cX11_graftNode 39 = .ok (.aload_n 0, 1) := by decide +kernel
theorem dX11_graftNode_40 : decode cX11_graftNode 40 = .ok (.iload_n 1, 1) := by decide +kernel
theorem dX11_graftNode_41 : decode cX11_graftNode 41 = .ok (.aload_n 0, 1) := by decide +kernel
theorem dX11_graftNode_42 : decode cX11_graftNode 42 = .ok (.iload_n 2, 1) := by decide +kernel
theorem dX11_graftNode_43 : decode cX11_graftNode 43 = .ok (.iload_n 3, 1) := by decide +kernel
theorem dX11_graftNode_44 : decode cX11_graftNode 44 = .ok (.invokevirtual 202, 3) := by decide +kernel
theorem dX11_graftNode_47 : decode cX11_graftNode 47 = .ok (.invokevirtual 241, 3) := by decide +kernel
theorem dX11_graftNode_50 : decode cX11_graftNode 50 = .ok (.ifCond .eq 12, 3) := by decide +kernel
theorem dX11_graftNode_53 : decode cX11_graftNode 53 = .ok (.iload 4, 2) := by decide +kernel
theorem dX11_graftNode_55 : decode cX11_graftNode 55 = .ok (.aload_n 0, 1) := by decide +kernel
theorem dX11_graftNode_56 : decode cX11_graftNode 56 = .ok (.getfield 229, 3) := by decide +kernel
theorem dX11_graftNode_59 : decode cX11_graftNode 59 = .ok (.if_icmp .lt 6, 3) := by decide +kernel
theorem dX11_graftNode_62 : decode cX11_graftNode 62 = .ok (.bipush (-2), 2) := by decide +kernel
theorem dX11_graftNode_64 : decode cX11_graftNode 64 = .ok (.ireturn, 1) := by decide +kernel
theorem dX11_graftNode_65 : decode cX11_graftNode 65 = .ok (.aload_n 0, 1) := by decide +kernel
theorem dX11_graftNode_66 : decode cX11_graftNode 66 = .ok (.getfield 51, 3) := by decide +kernel
theorem dX11_graftNode_69 : decode cX11_graftNode 69 = .ok (.iload 4, 2) := by decide +kernel
theorem dX11_graftNode_71 : decode cX11_graftNode 71 = .ok (.iaload, 1) := by decide +kernel
theorem dX11_graftNode_72 : decode cX11_graftNode 72 = .ok (.ireturn, 1) := by decide +kernel
theorem dX11_gain_0 : decode cX11_gain 0 = .ok (.aload_n 0, 1) := by decide +kernel
theorem dX11_gain_1 : decode cX11_gain 1 = .ok (.iload_n 1, 1) := by decide +kernel
theorem dX11_gain_2 : decode cX11_gain 2 = .ok (.invokevirtual 266, 3) := by decide +kernel
theorem dX11_gain_5 : decode cX11_gain 5 = .ok (.ifCond .eq 11, 3) := by decide +kernel
theorem dX11_gain_8 : decode cX11_gain 8 = .ok (.aload_n 0, 1) := by decide +kernel
theorem dX11_gain_9 : decode cX11_gain 9 = .ok (.iload_n 2, 1) := by decide +kernel
theorem dX11_gain_10 : decode cX11_gain 10 = .ok (.invokevirtual 294, 3) := by decide +kernel
theorem dX11_gain_13 : decode cX11_gain 13 = .ok (.ifCond .ne 5, 3) := by decide +kernel
theorem dX11_gain_16 : decode cX11_gain 16 = .ok (.iconst (-1), 1) := by decide +kernel
theorem dX11_gain_17 : decode cX11_gain 17 = .ok (.ireturn, 1) := by decide +kernel
theorem dX11_gain_18 : decode cX11_gain 18 = .ok (.aload_n 0, 1) := by decide +kernel
theorem dX11_gain_19 : decode cX11_gain 19 = .ok (.iload_n 1, 1) := by decide +kernel
theorem dX11_gain_20 : decode cX11_gain 20 = .ok (.iload_n 2, 1) := by decide +kernel
theorem dX11_gain_21 : decode cX11_gain 21 = .ok (.invokevirtual 297, 3) := by decide +kernel
theorem dX11_gain_24 : decode cX11_gain 24 = .ok (.ifCond .ne 6, 3) := by decide +kernel
theorem dX11_gain_27 : decode cX11_gain 27 = .ok (.bipush (-2), 2) := by decide +kernel
theorem dX11_gain_29 : decode cX11_gain 29 = .ok (.ireturn, 1) := by decide +kernel
theorem dX11_gain_30 : decode cX11_gain 30 = .ok (.aload_n 0, 1) := by decide +kernel
theorem dX11_gain_31 : decode cX11_gain 31 = .ok (.invokevirtual 288, 3) := by decide +kernel
theorem dX11_gain_34 : decode cX11_gain 34 = .ok (.aload_n 0, 1) := by decide +kernel
theorem dX11_gain_35 : decode cX11_gain 35 = .ok (.getfield 24, 3) := by decide +kernel
theorem dX11_gain_38 : decode cX11_gain 38 = .ok (.bipush 64, 2) := by decide +kernel
theorem dX11_gain_40 : decode cX11_gain 40 = .ok (.iload_n 1, 1) := by decide +kernel
theorem dX11_gain_41 : decode cX11_gain 41 = .ok (.iadd, 1) := by decide +kernel
theorem dX11_gain_42 : decode cX11_gain 42 = .ok (.dup2, 1) := by decide +kernel
theorem dX11_gain_43 : decode cX11_gain 43 = .ok (.iaload, 1) := by decide +kernel
theorem dX11_gain_44 : decode cX11_gain 44 = .ok (.iconst 1, 1) := by decide +kernel
theorem dX11_gain_45 : decode cX11_gain 45 = .ok (.iload_n 2, 1) := by decide +kernel
theorem dX11_gain_46 : decode cX11_gain 46 = .ok (.ishl, 1) := by decide +kernel
theorem dX11_gain_47 : decode cX11_gain 47 = .ok (.ior, 1) := by decide +kernel
theorem dX11_gain_48 : decode cX11_gain 48 = .ok (.iastore, 1) := by decide +kernel
theorem dX11_gain_49 : decode cX11_gain 49 = .ok (.aload_n 0, 1) := by decide +kernel
theorem dX11_gain_50 : decode cX11_gain 50 = .ok (.invokevirtual 314, 3) := by decide +kernel
theorem dX11_gain_53 : decode cX11_gain 53 = .ok (.istore_n 3, 1) := by decide +kernel
theorem dX11_gain_54 : decode cX11_gain 54 = .ok (.aload_n 0, 1) := by decide +kernel
theorem dX11_gain_55 : decode cX11_gain 55 = .ok (.invokevirtual 320, 3) := by decide +kernel
theorem dX11_gain_58 : decode cX11_gain 58 = .ok (.istore 4, 2) := by decide +kernel
theorem dX11_gain_60 : decode cX11_gain 60 = .ok (.aload_n 0, 1) := by decide +kernel
theorem dX11_gain_61 : decode cX11_gain 61 = .ok (.invokevirtual 314, 3) := by decide +kernel
theorem dX11_gain_64 : decode cX11_gain 64 = .ok (.istore 5, 2) := by decide +kernel
theorem dX11_gain_66 : decode cX11_gain 66 = .ok (.aload_n 0, 1) := by decide +kernel
theorem dX11_gain_67 : decode cX11_gain 67 = .ok (.invokevirtual 291, 3) := by decide +kernel
theorem dX11_gain_70 : decode cX11_gain 70 = .ok (.iload 5, 2) := by decide +kernel
theorem dX11_gain_72 : decode cX11_gain 72 = .ok (.iload_n 3, 1) := by decide +kernel
theorem dX11_gain_73 : decode cX11_gain 73 = .ok (.isub, 1) := by decide +kernel
theorem dX11_gain_74 : decode cX11_gain 74 = .ok (.ireturn, 1) := by decide +kernel
theorem dX11_bestPlace_0 : decode cX11_bestPlace 0 = .ok (.aload_n 0, 1) := by decide +kernel
theorem dX11_bestPlace_1 : decode cX11_bestPlace 1 = .ok (.iload_n 1, 1) := by decide +kernel
theorem dX11_bestPlace_2 : decode cX11_bestPlace 2 = .ok (.invokevirtual 294, 3) := by decide +kernel
theorem dX11_bestPlace_5 : decode cX11_bestPlace 5 = .ok (.ifCond .ne 5, 3) := by decide +kernel
theorem dX11_bestPlace_8 : decode cX11_bestPlace 8 = .ok (.iconst (-1), 1) := by decide +kernel
theorem dX11_bestPlace_9 : decode cX11_bestPlace 9 = .ok (.ireturn, 1) := by decide +kernel
theorem dX11_bestPlace_10 : decode cX11_bestPlace 10 = .ok (.bipush (-2), 2) := by decide +kernel
theorem dX11_bestPlace_12 : decode cX11_bestPlace 12 = .ok (.istore_n 2, 1) := by decide +kernel
theorem dX11_bestPlace_13 : decode cX11_bestPlace 13 = .ok (.bipush (-2), 2) := by decide +kernel
theorem dX11_bestPlace_15 : decode cX11_bestPlace 15 = .ok (.istore_n 3, 1) := by decide +kernel
theorem dX11_bestPlace_16 : decode cX11_bestPlace 16 = .ok (.iconst 0, 1) := by decide +kernel
theorem dX11_bestPlace_17 : decode cX11_bestPlace 17 = .ok (.istore 4, 2) := by decide +kernel
theorem dX11_bestPlace_19 : decode cX11_bestPlace 19 = .ok (.iload 4, 2) := by decide +kernel
theorem dX11_bestPlace_21 : decode cX11_bestPlace 21 = .ok (.aload_n 0, 1) := by decide +kernel
theorem dX11_bestPlace_22 : decode cX11_bestPlace 22 = .ok (.getfield 17, 3) := by decide +kernel
theorem dX11_bestPlace_25 : decode cX11_bestPlace 25 = .ok (.iconst 0, 1) := by decide +kernel
theorem dX11_bestPlace_26 : decode cX11_bestPlace 26 = .ok (.iaload, 1) := by decide +kernel
theorem dX11_bestPlace_27 : decode cX11_bestPlace 27 = .ok (.if_icmp .ge 30, 3) := by decide +kernel
theorem dX11_bestPlace_30 : decode cX11_bestPlace 30 = .ok (.aload_n 0, 1) := by decide +kernel
theorem dX11_bestPlace_31 : decode cX11_bestPlace 31 = .ok (.iload 4, 2) := by decide +kernel
theorem dX11_bestPlace_33 : decode cX11_bestPlace 33 = .ok (.iload_n 1, 1) := by decide +kernel
theorem dX11_bestPlace_34 : decode cX11_bestPlace 34 = .ok (.invokevirtual 338, 3) := by decide +kernel
theorem dX11_bestPlace_37 : decode cX11_bestPlace 37 = .ok (.istore 5, 2) := by decide +kernel
theorem dX11_bestPlace_39 : decode cX11_bestPlace 39 = .ok (.iload 5, 2) := by decide +kernel
theorem dX11_bestPlace_41 : decode cX11_bestPlace 41 = .ok (.iload_n 3, 1) := by decide +kernel
theorem dX11_bestPlace_42 : decode cX11_bestPlace 42 = .ok (.if_icmp .le 9, 3) := by decide +kernel
theorem dX11_bestPlace_45 : decode cX11_bestPlace 45 = .ok (.iload 4, 2) := by decide +kernel
theorem dX11_bestPlace_47 : decode cX11_bestPlace 47 = .ok (.istore_n 2, 1) := by decide +kernel
theorem dX11_bestPlace_48 : decode cX11_bestPlace 48 = .ok (.iload 5, 2) := by decide +kernel
theorem dX11_bestPlace_50 : decode cX11_bestPlace 50 = .ok (.istore_n 3, 1) := by decide +kernel
theorem dX11_bestPlace_51 : decode cX11_bestPlace 51 = .ok (.iinc 4 1, 3) := by decide +kernel
theorem dX11_bestPlace_54 : decode cX11_bestPlace 54 = .ok (.goto (-35), 3) := by decide +kernel
theorem dX11_bestPlace_57 : decode cX11_bestPlace 57 = .ok (.iload_n 2, 1) := by decide +kernel
theorem dX11_bestPlace_58 : decode cX11_bestPlace 58 = .ok (.ireturn, 1) := by decide +kernel
theorem dX11_loss_0 : decode cX11_loss 0 = .ok (.aload_n 0, 1) := by decide +kernel
theorem dX11_loss_1 : decode cX11_loss 1 = .ok (.iload_n 1, 1) := by decide +kernel
theorem dX11_loss_2 : decode cX11_loss 2 = .ok (.invokevirtual 303, 3) := by decide +kernel
theorem dX11_loss_5 : decode cX11_loss 5 = .ok (.ifCond .ne 5, 3) := by decide +kernel
theorem dX11_loss_8 : decode cX11_loss 8 = .ok (.iconst (-1), 1) := by decide +kernel
theorem dX11_loss_9 : decode cX11_loss 9 = .ok (.ireturn, 1) := by decide +kernel
theorem dX11_loss_10 : decode cX11_loss 10 = .ok (.aload_n 0, 1) := by decide +kernel
theorem dX11_loss_11 : decode cX11_loss 11 = .ok (.getfield 24, 3) := by decide +kernel
theorem dX11_loss_14 : decode cX11_loss 14 = .ok (.bipush 32, 2) := by decide +kernel
theorem dX11_loss_16 : decode cX11_loss 16 = .ok (.iload_n 1, 1) := by decide +kernel
theorem dX11_loss_17 : decode cX11_loss 17 = .ok (.iadd, 1) := by decide +kernel
theorem dX11_loss_18 : decode cX11_loss 18 = .ok (.iaload, 1) := by decide +kernel
theorem dX11_loss_19 : decode cX11_loss 19 = .ok (.ifCond .ne 5, 3) := by decide +kernel
theorem dX11_loss_22 : decode cX11_loss 22 = .ok (.iconst 0, 1) := by decide +kernel
theorem dX11_loss_23 : decode cX11_loss 23 = .ok (.ireturn, 1) := by decide +kernel
theorem dX11_loss_24 : decode cX11_loss 24 = .ok (.aload_n 0, 1) := by decide +kernel
theorem dX11_loss_25 : decode cX11_loss 25 = .ok (.invokevirtual 288, 3) := by decide +kernel
theorem dX11_loss_28 : decode cX11_loss 28 = .ok (.aload_n 0, 1) := by decide +kernel
theorem dX11_loss_29 : decode cX11_loss 29 = .ok (.invokevirtual 314, 3) := by decide +kernel
theorem dX11_loss_32 : decode cX11_loss 32 = .ok (.istore_n 2, 1) := by decide +kernel
theorem dX11_loss_33 : decode cX11_loss 33 = .ok (.aload_n 0, 1) := by decide +kernel
theorem dX11_loss_34 : decode cX11_loss 34 = .ok (.iload_n 1, 1) := by decide +kernel
theorem dX11_loss_35 : decode cX11_loss 35 = .ok (.invokevirtual 317, 3) := by decide +kernel
theorem dX11_loss_38 : decode cX11_loss 38 = .ok (.aload_n 0, 1) := by decide +kernel
theorem dX11_loss_39 : decode cX11_loss 39 = .ok (.invokevirtual 314, 3) := by decide +kernel
theorem dX11_loss_42 : decode cX11_loss 42 = .ok (.istore_n 3, 1) := by decide +kernel
theorem dX11_loss_43 : decode cX11_loss 43 = .ok (.aload_n 0, 1) := by decide +kernel
theorem dX11_loss_44 : decode cX11_loss 44 = .ok (.invokevirtual 291, 3) := by decide +kernel
theorem dX11_loss_47 : decode cX11_loss 47 = .ok (.iload_n 2, 1) := by decide +kernel
theorem dX11_loss_48 : decode cX11_loss 48 = .ok (.iload_n 3, 1) := by decide +kernel
theorem dX11_loss_49 : decode cX11_loss 49 = .ok (.isub, 1) := by decide +kernel
theorem dX11_loss_50 : decode cX11_loss 50 = .ok (.ireturn, 1) := by decide +kernel
theorem dX11_criticalLink_0 : decode cX11_criticalLink 0 = .ok (.bipush (-2), 2) := by decide +kernel
theorem dX11_criticalLink_2 : decode cX11_criticalLink 2 = .ok (.istore_n 1, 1) := by decide +kernel
theorem dX11_criticalLink_3 : decode cX11_criticalLink 3 = .ok (.iconst 0, 1) := by decide +kernel
theorem dX11_criticalLink_4 : decode cX11_criticalLink 4 = .ok (.istore_n 2, 1) := by decide +kernel
theorem dX11_criticalLink_5 : decode cX11_criticalLink 5 = .ok (.iconst 0, 1) := by decide +kernel
theorem dX11_criticalLink_6 : decode cX11_criticalLink 6 = .ok (.istore_n 3, 1) := by decide +kernel
theorem dX11_criticalLink_7 : decode cX11_criticalLink 7 = .ok (.iload_n 3, 1) := by decide +kernel
theorem dX11_criticalLink_8 : decode cX11_criticalLink 8 = .ok (.aload_n 0, 1) := by decide +kernel
theorem dX11_criticalLink_9 : decode cX11_criticalLink 9 = .ok (.getfield 17, 3) := by decide +kernel
theorem dX11_criticalLink_12 : decode cX11_criticalLink 12 = .ok (.iconst 1, 1) := by decide +kernel
theorem dX11_criticalLink_13 : decode cX11_criticalLink 13 = .ok (.iaload, 1) := by decide +kernel
theorem dX11_criticalLink_14 : decode cX11_criticalLink 14 = .ok (.if_icmp .ge 46, 3) := by decide +kernel
theorem dX11_criticalLink_17 : decode cX11_criticalLink 17 = .ok (.aload_n 0, 1) := by decide +kernel
theorem dX11_criticalLink_18 : decode cX11_criticalLink 18 = .ok (.getfield 24, 3) := by decide +kernel
theorem dX11_criticalLink_21 : decode cX11_criticalLink 21 = .ok (.bipush 32, 2) := by decide +kernel
theorem dX11_criticalLink_23 : decode cX11_criticalLink 23 = .ok (.iload_n 3, 1) := by decide +kernel
theorem dX11_criticalLink_24 : decode cX11_criticalLink 24 = .ok (.iadd, 1) := by decide +kernel
theorem dX11_criticalLink_25 : decode cX11_criticalLink 25 = .ok (.iaload, 1) := by decide +kernel
theorem dX11_criticalLink_26 : decode cX11_criticalLink 26 = .ok (.ifCond .ne 6, 3) := by decide +kernel
theorem dX11_criticalLink_29 : decode cX11_criticalLink 29 = .ok (.goto 25, 3) := by decide +kernel
theorem dX11_criticalLink_32 : decode cX11_criticalLink 32 = .ok (.aload_n 0, 1) := by decide +kernel
theorem dX11_criticalLink_33 : decode cX11_criticalLink 33 = .ok (.iload_n 3, 1) := by decide +kernel
theorem dX11_criticalLink_34 : decode cX11_criticalLink 34 = .ok (.invokevirtual 341, 3) := by decide +kernel
theorem dX11_criticalLink_37 : decode cX11_criticalLink 37 = .ok (.istore 4, 2) := by decide +kernel
theorem dX11_criticalLink_39 : decode cX11_criticalLink 39 = .ok (.iload_n 1, 1) := by decide +kernel
theorem dX11_criticalLink_40 : decode cX11_criticalLink 40 = .ok (.ifCond .lt 9, 3) := by decide +kernel
theorem dX11_criticalLink_43 : decode cX11_criticalLink 43 = .ok (.iload 4, 2) := by decide +kernel
theorem dX11_criticalLink_45 : decode cX11_criticalLink 45 = .ok (.iload_n 2, 1) := by decide +kernel
theorem dX11_criticalLink_46 : decode cX11_criticalLink 46 = .ok (.if_icmp .le 8, 3) := by decide +kernel
theorem dX11_criticalLink_49 : decode cX11_criticalLink 49 = .ok (.iload_n 3, 1) := by decide +kernel
theorem dX11_criticalLink_50 : decode cX11_criticalLink 50 = .ok (.istore_n 1, 1) := by decide +kernel
theorem dX11_criticalLink_51 : decode cX11_criticalLink 51 = .ok (.iload 4, 2) := by decide +kernel
theorem dX11_criticalLink_53 : decode cX11_criticalLink 53 = .ok (.istore_n 2, 1) := by decide +kernel
theorem dX11_criticalLink_54 : decode cX11_criticalLink 54 = .ok (.iinc 3 1, 3) := by decide +kernel
theorem dX11_criticalLink_57 : decode cX11_criticalLink 57 = .ok (.goto (-50), 3) := by decide +kernel
theorem dX11_criticalLink_60 : decode cX11_criticalLink 60 = .ok (.iload_n 1, 1) := by decide +kernel
theorem dX11_criticalLink_61 : decode cX11_criticalLink 61 = .ok (.ireturn, 1) := by decide +kernel
theorem dX11_says_0 : decode cX11_says 0 = .ok (.aload_n 0, 1) := by decide +kernel
theorem dX11_says_1 : decode cX11_says 1 = .ok (.getfield 64, 3) := by decide +kernel
theorem dX11_says_4 : decode cX11_says 4 = .ok (.aload_n 0, 1) := by decide +kernel
theorem dX11_says_5 : decode cX11_says 5 = .ok (.getfield 344, 3) := by decide +kernel
theorem dX11_says_8 : decode cX11_says 8 = .ok (.iload_n 1, 1) := by decide +kernel
theorem dX11_says_9 : decode cX11_says 9 = .ok (.iastore, 1) := by decide +kernel
theorem dX11_says_10 : decode cX11_says 10 = .ok (.aload_n 0, 1) := by decide +kernel
theorem dX11_says_11 : decode cX11_says 11 = .ok (.dup, 1) := by decide +kernel
theorem dX11_says_12 : decode cX11_says 12 = .ok (.getfield 344, 3) := by decide +kernel
theorem dX11_says_15 : decode cX11_says 15 = .ok (.iconst 1, 1) := by decide +kernel
theorem dX11_says_16 : decode cX11_says 16 = .ok (.iadd, 1) := by decide +kernel
theorem dX11_says_17 : decode cX11_says 17 = .ok (.putfield 344, 3) := by decide +kernel
theorem dX11_says_20 : decode cX11_says 20 = .ok (.return_, 1) := by decide +kernel
theorem dX11_saysNumber_0 : decode cX11_saysNumber 0 = .ok (.iload_n 1, 1) := by decide +kernel
theorem dX11_saysNumber_1 : decode cX11_saysNumber 1 = .ok (.bipush 9, 2) := by decide +kernel
theorem dX11_saysNumber_3 : decode cX11_saysNumber 3 = .ok (.if_icmp .le 14, 3) := by decide +kernel
theorem dX11_saysNumber_6 : decode cX11_saysNumber 6 = .ok (.aload_n 0, 1) := by decide +kernel
theorem dX11_saysNumber_7 : decode cX11_saysNumber 7 = .ok (.bipush 48, 2) := by decide +kernel
theorem dX11_saysNumber_9 : decode cX11_saysNumber 9 = .ok (.iload_n 1, 1) := by decide +kernel
theorem dX11_saysNumber_10 : decode cX11_saysNumber 10 = .ok (.bipush 10, 2) := by decide +kernel
theorem dX11_saysNumber_12 : decode cX11_saysNumber 12 = .ok (.idiv, 1) := by decide +kernel
theorem dX11_saysNumber_13 : decode cX11_saysNumber 13 = .ok (.iadd, 1) := by decide +kernel
theorem dX11_saysNumber_14 : decode cX11_saysNumber 14 = .ok (.invokevirtual 347, 3) := by decide +kernel
theorem dX11_saysNumber_17 : decode cX11_saysNumber 17 = .ok (.aload_n 0, 1) := by decide +kernel
theorem dX11_saysNumber_18 : decode cX11_saysNumber 18 = .ok (.bipush 48, 2) := by decide +kernel
theorem dX11_saysNumber_20 : decode cX11_saysNumber 20 = .ok (.iload_n 1, 1) := by decide +kernel
theorem dX11_saysNumber_21 : decode cX11_saysNumber 21 = .ok (.bipush 10, 2) := by decide +kernel
theorem dX11_saysNumber_23 : decode cX11_saysNumber 23 = .ok (.irem, 1) := by decide +kernel
theorem dX11_saysNumber_24 : decode cX11_saysNumber 24 = .ok (.iadd, 1) := by decide +kernel
theorem dX11_saysNumber_25 : decode cX11_saysNumber 25 = .ok (.invokevirtual 347, 3) := by decide +kernel
theorem dX11_saysNumber_28 : decode cX11_saysNumber 28 = .ok (.aload_n 0, 1) := by decide +kernel
theorem dX11_saysNumber_29 : decode cX11_saysNumber 29 = .ok (.bipush 32, 2) := by decide +kernel
theorem dX11_saysNumber_31 : decode cX11_saysNumber 31 = .ok (.invokevirtual 347, 3) := by decide +kernel
theorem dX11_saysNumber_34 : decode cX11_saysNumber 34 = .ok (.return_, 1) := by decide +kernel
theorem dX11_reports_0 : decode cX11_reports 0 = .ok (.aload_n 0, 1) := by decide +kernel
theorem dX11_reports_1 : decode cX11_reports 1 = .ok (.invokevirtual 215, 3) := by decide +kernel
theorem dX11_reports_4 : decode cX11_reports 4 = .ok (.aload_n 0, 1) := by decide +kernel
theorem dX11_reports_5 : decode cX11_reports 5 = .ok (.iconst 0, 1) := by decide +kernel
theorem dX11_reports_6 : decode cX11_reports 6 = .ok (.putfield 344, 3) := by decide +kernel
theorem dX11_reports_9 : decode cX11_reports 9 = .ok (.iconst 1, 1) := by decide +kernel
theorem dX11_reports_10 : decode cX11_reports 10 = .ok (.istore_n 1, 1) := by decide +kernel
theorem dX11_reports_11 : decode cX11_reports 11 = .ok (.iload_n 1, 1) := by decide +kernel
theorem dX11_reports_12 : decode cX11_reports 12 = .ok (.aload_n 0, 1) := by decide +kernel
theorem dX11_reports_13 : decode cX11_reports 13 = .ok (.getfield 17, 3) := by decide +kernel
theorem dX11_reports_16 : decode cX11_reports 16 = .ok (.iconst 0, 1) := by decide +kernel
theorem dX11_reports_17 : decode cX11_reports 17 = .ok (.iaload, 1) := by decide +kernel
theorem dX11_reports_18 : decode cX11_reports 18 = .ok (.if_icmp .ge 75, 3) := by decide +kernel
theorem dX11_reports_21 : decode cX11_reports 21 = .ok (.aload_n 0, 1) := by decide +kernel
theorem dX11_reports_22 : decode cX11_reports 22 = .ok (.iload_n 1, 1) := by decide +kernel
theorem dX11_reports_23 : decode cX11_reports 23 = .ok (.invokevirtual 205, 3) := by decide +kernel
theorem dX11_reports_26 : decode cX11_reports 26 = .ok (.ifCond .ne 6, 3) := by decide +kernel
theorem dX11_reports_29 : decode cX11_reports 29 = .ok (.goto 58, 3) := by decide +kernel
theorem dX11_reports_32 : decode cX11_reports 32 = .ok (.aload_n 0, 1) := by decide +kernel
theorem dX11_reports_33 : decode cX11_reports 33 = .ok (.iload_n 1, 1) := by decide +kernel
theorem dX11_reports_34 : decode cX11_reports 34 = .ok (.invokevirtual 350, 3) := by decide +kernel
theorem dX11_reports_37 : decode cX11_reports 37 = .ok (.aload_n 0, 1) := by decide +kernel
theorem dX11_reports_38 : decode cX11_reports 38 = .ok (.aload_n 0, 1) := by decide +kernel
theorem dX11_reports_39 : decode cX11_reports 39 = .ok (.iload_n 1, 1) := by decide +kernel
theorem dX11_reports_40 : decode cX11_reports 40 = .ok (.invokevirtual 182, 3) := by decide +kernel
theorem dX11_reports_43 : decode cX11_reports 43 = .ok (.invokevirtual 350, 3) := by decide +kernel
theorem dX11_reports_46 : decode cX11_reports 46 = .ok (.iconst 0, 1) := by decide +kernel
theorem dX11_reports_47 : decode cX11_reports 47 = .ok (.istore_n 2, 1) := by decide +kernel
theorem dX11_reports_48 : decode cX11_reports 48 = .ok (.iload_n 2, 1) := by decide +kernel
theorem dX11_reports_49 : decode cX11_reports 49 = .ok (.aload_n 0, 1) := by decide +kernel
theorem dX11_reports_50 : decode cX11_reports 50 = .ok (.getfield 17, 3) := by decide +kernel
theorem dX11_reports_53 : decode cX11_reports 53 = .ok (.iconst 2, 1) := by decide +kernel
theorem dX11_reports_54 : decode cX11_reports 54 = .ok (.iaload, 1) := by decide +kernel
theorem dX11_reports_55 : decode cX11_reports 55 = .ok (.if_icmp .ge 26, 3) := by decide +kernel
theorem dX11_reports_58 : decode cX11_reports 58 = .ok (.aload_n 0, 1) := by decide +kernel
theorem dX11_reports_59 : decode cX11_reports 59 = .ok (.bipush 48, 2) := by decide +kernel
theorem dX11_reports_61 : decode cX11_reports 61 = .ok (.aload_n 0, 1) := by decide +kernel
theorem dX11_reports_62 : decode cX11_reports 62 = .ok (.getfield 36, 3) := by decide +kernel
theorem dX11_reports_65 : decode cX11_reports 65 = .ok (.iconst 4, 1) := by decide +kernel
theorem dX11_reports_66 : decode cX11_reports 66 = .ok (.iload_n 1, 1) := by decide +kernel
theorem dX11_reports_67 : decode cX11_reports 67 = .ok (.imul, 1) := by decide +kernel
theorem dX11_reports_68 : decode cX11_reports 68 = .ok (.iload_n 2, 1) := by decide +kernel
theorem dX11_reports_69 : decode cX11_reports 69 = .ok (.iadd, 1) := by decide +kernel
theorem dX11_reports_70 : decode cX11_reports 70 = .ok (.iaload, 1) := by decide +kernel
theorem dX11_reports_71 : decode cX11_reports 71 = .ok (.iadd, 1) := by decide +kernel
theorem dX11_reports_72 : decode cX11_reports 72 = .ok (.invokevirtual 347, 3) := by decide +kernel
theorem dX11_reports_75 : decode cX11_reports 75 = .ok (.iinc 2 1, 3) := by decide +kernel
theorem dX11_reports_78 : decode cX11_reports 78 = .ok (.goto (-30), 3) := by decide +kernel
theorem dX11_reports_81 : decode cX11_reports 81 = .ok (.aload_n 0, 1) := by decide +kernel
theorem dX11_reports_82 : decode cX11_reports 82 = .ok (.bipush 10, 2) := by decide +kernel
theorem dX11_reports_84 : decode cX11_reports 84 = .ok (.invokevirtual 347, 3) := by decide +kernel
theorem dX11_reports_87 : decode cX11_reports 87 = .ok (.iinc 1 1, 3) := by decide +kernel
theorem dX11_reports_90 : decode cX11_reports 90 = .ok (.goto (-79), 3) := by decide +kernel
theorem dX11_reports_93 : decode cX11_reports 93 = .ok (.return_, 1) := by decide +kernel
theorem dX11_reportLength_0 : decode cX11_reportLength 0 = .ok (.aload_n 0, 1) := by decide +kernel
theorem dX11_reportLength_1 : decode cX11_reportLength 1 = .ok (.invokevirtual 353, 3) := by decide +kernel
theorem dX11_reportLength_4 : decode cX11_reportLength 4 = .ok (.aload_n 0, 1) := by decide +kernel
theorem dX11_reportLength_5 : decode cX11_reportLength 5 = .ok (.getfield 344, 3) := by decide +kernel
theorem dX11_reportLength_8 : decode cX11_reportLength 8 = .ok (.ireturn, 1) := by decide +kernel
theorem dX11_reportByte_0 : decode cX11_reportByte 0 = .ok (.iload_n 1, 1) := by decide +kernel
theorem dX11_reportByte_1 : decode cX11_reportByte 1 = .ok (.ifCond .ge 5, 3) := by decide +kernel
theorem dX11_reportByte_4 : decode cX11_reportByte 4 = .ok (.iconst (-1), 1) := by decide +kernel
theorem dX11_reportByte_5 : decode cX11_reportByte 5 = .ok (.ireturn, 1) := by decide +kernel
theorem dX11_reportByte_6 : decode cX11_reportByte 6 = .ok (.aload_n 0, 1) := by decide +kernel
theorem dX11_reportByte_7 : decode cX11_reportByte 7 = .ok (.invokevirtual 353, 3) := by decide +kernel
theorem dX11_reportByte_10 : decode cX11_reportByte 10 = .ok (.iload_n 1, 1) := by decide +kernel
theorem dX11_reportByte_11 : decode cX11_reportByte 11 = .ok (.aload_n 0, 1) := by decide +kernel
theorem dX11_reportByte_12 : decode cX11_reportByte 12 = .ok (.getfield 344, 3) := by decide +kernel
theorem dX11_reportByte_15 : decode cX11_reportByte 15 = .ok (.if_icmp .ge 12, 3) := by decide +kernel
theorem dX11_reportByte_18 : decode cX11_reportByte 18 = .ok (.aload_n 0, 1) := by decide +kernel
theorem dX11_reportByte_19 : decode cX11_reportByte 19 = .ok (.getfield 64, 3) := by decide +kernel
theorem dX11_reportByte_22 : decode cX11_reportByte 22 = .ok (.iload_n 1, 1) := by decide +kernel
theorem dX11_reportByte_23 : decode cX11_reportByte 23 = .ok (.iaload, 1) := by decide +kernel
theorem dX11_reportByte_24 : decode cX11_reportByte 24 = .ok (.goto 5, 3) := by decide +kernel
theorem dX11_reportByte_27 : decode cX11_reportByte 27 = .ok (.bipush (-2), 2) := by decide +kernel
theorem dX11_reportByte_29 : decode cX11_reportByte 29 = .ok (.ireturn, 1) := by decide +kernel
theorem dX11_tapeLength_0 : decode cX11_tapeLength 0 = .ok (.aload_n 0, 1) := by decide +kernel
theorem dX11_tapeLength_1 : decode cX11_tapeLength 1 = .ok (.getfield 79, 3) := by decide +kernel
theorem dX11_tapeLength_4 : decode cX11_tapeLength 4 = .ok (.ireturn, 1) := by decide +kernel
