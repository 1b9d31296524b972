theorem dX11_asksFrom_157 : decode cX11_asksFrom 157 = .ok (.invokevirtual 182, 3) := by decide +kernel
theorem dX11_asksFrom_160 : decode cX11_asksFrom 160 = .ok (.invokevirtual 186, 3) := by decide +kernel
theorem dX11_asksFrom_163 : decode cX11_asksFrom 163 = .ok (.iload_n 2, 1) := by decide +kernel
theorem dX11_asksFrom_164 : decode cX11_asksFrom 164 = .ok (.iastore, 1) := by decide +kernel
theorem dX11_asksFrom_165 : decode cX11_asksFrom 165 = .ok (.iconst 0, 1) := by decide +kernel
theorem dX11_asksFrom_166 : decode cX11_asksFrom 166 = .ok (.istore_n 3, 1) := by decide +kernel
theorem dX11_asksFrom_167 : decode cX11_asksFrom 167 = .ok (.iload_n 3, 1) := by decide +kernel
theorem dX11_asksFrom_168 : decode cX11_asksFrom 168 = .ok (.aload_n 0, 1) := by decide +kernel
theorem dX11_asksFrom_169 : decode cX11_asksFrom 169 = .ok (.getfield 17, 3) := by decide +kernel
theorem dX11_asksFrom_172 : decode cX11_asksFrom 172 = .ok (.iconst 2, 1) := by decide +kernel
theorem dX11_asksFrom_173 : decode cX11_asksFrom 173 = .ok (.iaload, 1) := by decide +kernel
theorem dX11_asksFrom_174 : decode cX11_asksFrom 174 = .ok (.if_icmp .ge 29, 3) := by decide +kernel
theorem dX11_asksFrom_177 : decode cX11_asksFrom 177 = .ok (.aload_n 0, 1) := by decide +kernel
theorem dX11_asksFrom_178 : decode cX11_asksFrom 178 = .ok (.aload_n 0, 1) := by decide +kernel
theorem dX11_asksFrom_179 : decode cX11_asksFrom 179 = .ok (.iload_n 1, 1) := by decide +kernel
theorem dX11_asksFrom_180 : decode cX11_asksFrom 180 = .ok (.invokevirtual 182, 3) := by decide +kernel
theorem dX11_asksFrom_183 : decode cX11_asksFrom 183 = .ok (.iload_n 3, 1) := by decide +kernel
theorem dX11_asksFrom_184 : decode cX11_asksFrom 184 = .ok (.aload_n 0, 1) := by decide +kernel
theorem dX11_asksFrom_185 : decode cX11_asksFrom 185 = .ok (.getfield 36, 3) := by decide +kernel
theorem dX11_asksFrom_188 : decode cX11_asksFrom 188 = .ok (.iconst 4, 1) := by decide +kernel
theorem dX11_asksFrom_189 : decode cX11_asksFrom 189 = .ok (.iload_n 1, 1) := by decide +kernel
theorem dX11_asksFrom_190 : decode cX11_asksFrom 190 = .ok (.imul, 1) := by decide +kernel
theorem dX11_asksFrom_191 : decode cX11_asksFrom 191 = .ok (.iload_n 3, 1) := by decide +kernel
theorem dX11_asksFrom_192 : decode cX11_asksFrom 192 = .ok (.iadd, 1) := by decide +kernel
theorem dX11_asksFrom_193 : decode cX11_asksFrom 193 = .ok (.iaload, 1) := by decide +kernel
theorem dX11_asksFrom_194 : decode cX11_asksFrom 194 = .ok (.invokevirtual 198, 3) := by decide +kernel
theorem dX11_asksFrom_197 : decode cX11_asksFrom 197 = .ok (.iinc 3 1, 3) := by decide +kernel
theorem dX11_asksFrom_200 : decode cX11_asksFrom 200 = .ok (.goto (-33), 3) := by decide +kernel
theorem dX11_asksFrom_203 : decode cX11_asksFrom 203 = .ok (.return_, 1) := by decide +kernel
theorem dX11_measures_0 : decode cX11_measures 0 = .ok (.iconst 0, 1) := by decide +kernel
theorem dX11_measures_1 : decode cX11_measures 1 = .ok (.istore_n 1, 1) := by decide +kernel
theorem dX11_measures_2 : decode cX11_measures 2 = .ok (.iload_n 1, 1) := by decide +kernel
theorem dX11_measures_3 : decode cX11_measures 3 = .ok (.bipush 64, 2) := by decide +kernel
theorem dX11_measures_5 : decode cX11_measures 5 = .ok (.if_icmp .ge 23, 3) := by decide +kernel
theorem dX11_measures_8 : decode cX11_measures 8 = .ok (.aload_n 0, 1) := by decide +kernel
theorem dX11_measures_9 : decode cX11_measures 9 = .ok (.getfield 33, 3) := by decide +kernel
theorem dX11_measures_12 : decode cX11_measures 12 = .ok (.iload_n 1, 1) := by decide +kernel
theorem dX11_measures_13 : decode cX11_measures 13 = .ok (.iconst 0, 1) := by decide +kernel
theorem dX11_measures_14 : decode cX11_measures 14 = .ok (.iastore, 1) := by decide +kernel
theorem dX11_measures_15 : decode cX11_measures 15 = .ok (.aload_n 0, 1) := by decide +kernel
theorem dX11_measures_16 : decode cX11_measures 16 = .ok (.getfield 36, 3) := by decide +kernel
theorem dX11_measures_19 : decode cX11_measures 19 = .ok (.iload_n 1, 1) := by decide +kernel
theorem dX11_measures_20 : decode cX11_measures 20 = .ok (.iconst 0, 1) := by decide +kernel
theorem dX11_measures_21 : decode cX11_measures 21 = .ok (.iastore, 1) := by decide +kernel
theorem dX11_measures_22 : decode cX11_measures 22 = .ok (.iinc 1 1, 3) := by decide +kernel
theorem dX11_measures_25 : decode cX11_measures 25 = .ok (.goto (-23), 3) := by decide +kernel
theorem dX11_measures_28 : decode cX11_measures 28 = .ok (.iconst 0, 1) := by decide +kernel
theorem dX11_measures_29 : decode cX11_measures 29 = .ok (.istore_n 1, 1) := by decide +kernel
theorem dX11_measures_30 : decode cX11_measures 30 = .ok (.iload_n 1, 1) := by decide +kernel
theorem dX11_measures_31 : decode cX11_measures 31 = .ok (.bipush 32, 2) := by decide +kernel
theorem dX11_measures_33 : decode cX11_measures 33 = .ok (.if_icmp .ge 16, 3) := by decide +kernel
theorem dX11_measures_36 : decode cX11_measures 36 = .ok (.aload_n 0, 1) := by decide +kernel
theorem dX11_measures_37 : decode cX11_measures 37 = .ok (.getfield 39, 3) := by decide +kernel
theorem dX11_measures_40 : decode cX11_measures 40 = .ok (.iload_n 1, 1) := by decide +kernel
theorem dX11_measures_41 : decode cX11_measures 41 = .ok (.iconst 0, 1) := by decide +kernel
theorem dX11_measures_42 : decode cX11_measures 42 = .ok (.iastore, 1) := by decide +kernel
theorem dX11_measures_43 : decode cX11_measures 43 = .ok (.iinc 1 1, 3) := by decide +kernel
theorem dX11_measures_46 : decode cX11_measures 46 = .ok (.goto (-16), 3) := by decide +kernel
theorem dX11_measures_49 : decode cX11_measures 49 = .ok (.iconst 0, 1) := by decide +kernel
theorem dX11_measures_50 : decode cX11_measures 50 = .ok (.istore_n 1, 1) := by decide +kernel
theorem dX11_measures_51 : decode cX11_measures 51 = .ok (.iload_n 1, 1) := by decide +kernel
theorem dX11_measures_52 : decode cX11_measures 52 = .ok (.bipush 16, 2) := by decide +kernel
theorem dX11_measures_54 : decode cX11_measures 54 = .ok (.if_icmp .ge 49, 3) := by decide +kernel
theorem dX11_measures_57 : decode cX11_measures 57 = .ok (.aload_n 0, 1) := by decide +kernel
theorem dX11_measures_58 : decode cX11_measures 58 = .ok (.getfield 42, 3) := by decide +kernel
theorem dX11_measures_61 : decode cX11_measures 61 = .ok (.iload_n 1, 1) := by decide +kernel
theorem dX11_measures_62 : decode cX11_measures 62 = .ok (.iconst 0, 1) := by decide +kernel
theorem dX11_measures_63 : decode cX11_measures 63 = .ok (.iastore, 1) := by decide +kernel
theorem dX11_measures_64 : decode cX11_measures 64 = .ok (.aload_n 0, 1) := by decide +kernel
theorem dX11_measures_65 : decode cX11_measures 65 = .ok (.getfield 45, 3) := by decide +kernel
theorem dX11_measures_68 : decode cX11_measures 68 = .ok (.iload_n 1, 1) := by decide +kernel
theorem dX11_measures_69 : decode cX11_measures 69 = .ok (.iload_n 1, 1) := by decide +kernel
theorem dX11_measures_70 : decode cX11_measures 70 = .ok (.aload_n 0, 1) := by decide +kernel
theorem dX11_measures_71 : decode cX11_measures 71 = .ok (.getfield 17, 3) := by decide +kernel
theorem dX11_measures_74 : decode cX11_measures 74 = .ok (.iconst 0, 1) := by decide +kernel
theorem dX11_measures_75 : decode cX11_measures 75 = .ok (.iaload, 1) := by decide +kernel
theorem dX11_measures_76 : decode cX11_measures 76 = .ok (.if_icmp .ge 19, 3) := by decide +kernel
theorem dX11_measures_79 : decode cX11_measures 79 = .ok (.aload_n 0, 1) := by decide +kernel
theorem dX11_measures_80 : decode cX11_measures 80 = .ok (.iload_n 1, 1) := by decide +kernel
theorem dX11_measures_81 : decode cX11_measures 81 = .ok (.invokevirtual 205, 3) := by decide +kernel
theorem dX11_measures_84 : decode cX11_measures 84 = .ok (.ifCond .eq 11, 3) := by decide +kernel
theorem dX11_measures_87 : decode cX11_measures 87 = .ok (.aload_n 0, 1) := by decide +kernel
theorem dX11_measures_88 : decode cX11_measures 88 = .ok (.iload_n 1, 1) := by decide +kernel
theorem dX11_measures_89 : decode cX11_measures 89 = .ok (.invokevirtual 209, 3) := by decide +kernel
theorem dX11_measures_92 : decode cX11_measures 92 = .ok (.goto 4, 3) := by decide +kernel
theorem dX11_measures_95 : decode cX11_measures 95 = .ok (.iconst (-1), 1) := by decide +kernel
theorem dX11_measures_96 : decode cX11_measures 96 = .ok (.iastore, 1) := by decide +kernel
theorem dX11_measures_97 : decode cX11_measures 97 = .ok (.iinc 1 1, 3) := by decide +kernel
theorem dX11_measures_100 : decode cX11_measures 100 = .ok (.goto (-49), 3) := by decide +kernel
theorem dX11_measures_103 : decode cX11_measures 103 = .ok (.iconst 0, 1) := by decide +kernel
theorem dX11_measures_104 : decode cX11_measures 104 = .ok (.istore_n 1, 1) := by decide +kernel
theorem dX11_measures_105 : decode cX11_measures 105 = .ok (.iload_n 1, 1) := by decide +kernel
theorem dX11_measures_106 : decode cX11_measures 106 = .ok (.bipush 20, 2) := by decide +kernel
theorem dX11_measures_108 : decode cX11_measures 108 = .ok (.if_icmp .gt 40, 3) := by decide +kernel
theorem dX11_measures_111 : decode cX11_measures 111 = .ok (.aload_n 0, 1) := by decide +kernel
theorem dX11_measures_112 : decode cX11_measures 112 = .ok (.iload_n 1, 1) := by decide +kernel
theorem dX11_measures_113 : decode cX11_measures 113 = .ok (.iconst 3, 1) := by decide +kernel
theorem dX11_measures_114 : decode cX11_measures 114 = .ok (.invokevirtual 176, 3) := by decide +kernel
theorem dX11_measures_117 : decode cX11_measures 117 = .ok (.ifCond .le 25, 3) := by decide +kernel
theorem dX11_measures_120 : decode cX11_measures 120 = .ok (.aload_n 0, 1) := by decide +kernel
theorem dX11_measures_121 : decode cX11_measures 121 = .ok (.aload_n 0, 1) := by decide +kernel
theorem dX11_measures_122 : decode cX11_measures 122 = .ok (.iload_n 1, 1) := by decide +kernel
theorem dX11_measures_123 : decode cX11_measures 123 = .ok (.iconst 0, 1) := by decide +kernel
theorem dX11_measures_124 : decode cX11_measures 124 = .ok (.invokevirtual 176, 3) := by decide +kernel
theorem dX11_measures_127 : decode cX11_measures 127 = .ok (.aload_n 0, 1) := by decide +kernel
theorem dX11_measures_128 : decode cX11_measures 128 = .ok (.iload_n 1, 1) := by decide +kernel
theorem dX11_measures_129 : decode cX11_measures 129 = .ok (.iconst 1, 1) := by decide +kernel
theorem dX11_measures_130 : decode cX11_measures 130 = .ok (.invokevirtual 176, 3) := by decide +kernel
theorem dX11_measures_133 : decode cX11_measures 133 = .ok (.aload_n 0, 1) := by decide +kernel
theorem dX11_measures_134 : decode cX11_measures 134 = .ok (.iload_n 1, 1) := by decide +kernel
theorem dX11_measures_135 : decode cX11_measures 135 = .ok (.iconst 3, 1) := by decide +kernel
theorem dX11_measures_136 : decode cX11_measures 136 = .ok (.invokevirtual 176, 3) := by decide +kernel
theorem dX11_measures_139 : decode cX11_measures 139 = .ok (.invokevirtual 198, 3) := by decide +kernel
theorem dX11_measures_142 : decode cX11_measures 142 = .ok (.iinc 1 1, 3) := by decide +kernel
theorem dX11_measures_145 : decode cX11_measures 145 = .ok (.goto (-40), 3) := by decide +kernel
theorem dX11_measures_148 : decode cX11_measures 148 = .ok (.bipush 16, 2) := by decide +kernel
theorem dX11_measures_150 : decode cX11_measures 150 = .ok (.istore_n 1, 1) := by decide +kernel
theorem dX11_measures_151 : decode cX11_measures 151 = .ok (.iload_n 1, 1) := by decide +kernel
theorem dX11_measures_152 : decode cX11_measures 152 = .ok (.ifCond .lt 42, 3) := by decide +kernel
theorem dX11_measures_155 : decode cX11_measures 155 = .ok (.iconst 0, 1) := by decide +kernel
theorem dX11_measures_156 : decode cX11_measures 156 = .ok (.istore_n 2, 1) := by decide +kernel
theorem dX11_measures_157 : decode cX11_measures 157 = .ok (.iload_n 2, 1) := by decide +kernel
theorem dX11_measures_158 : decode cX11_measures 158 = .ok (.aload_n 0, 1) := by decide +kernel
theorem dX11_measures_159 : decode cX11_measures 159 = .ok (.getfield 17, 3) := by decide +kernel
theorem dX11_measures_162 : decode cX11_measures 162 = .ok (.iconst 0, 1) := by decide +kernel
theorem dX11_measures_163 : decode cX11_measures 163 = .ok (.iaload, 1) := by decide +kernel
theorem dX11_measures_164 : decode cX11_measures 164 = .ok (.if_icmp .ge 24, 3) := by decide +kernel
theorem dX11_measures_167 : decode cX11_measures 167 = .ok (.aload_n 0, 1) := by decide +kernel
theorem dX11_measures_168 : decode cX11_measures 168 = .ok (.getfield 45, 3) := by decide +kernel
theorem dX11_measures_171 : decode cX11_measures 171 = .ok (.iload_n 2, 1) := by decide +kernel
theorem dX11_measures_172 : decode cX11_measures 172 = .ok (.iaload, 1) := by decide +kernel
theorem dX11_measures_173 : decode cX11_measures 173 = .ok (.iload_n 1, 1) := by decide +kernel
theorem dX11_measures_174 : decode cX11_measures 174 = .ok (.if_icmp .ne 8, 3) := by decide +kernel
theorem dX11_measures_177 : decode cX11_measures 177 = .ok (.aload_n 0, 1) := by decide +kernel
theorem dX11_measures_178 : decode cX11_measures 178 = .ok (.iload_n 2, 1) := by decide +kernel
theorem dX11_measures_179 : decode cX11_measures 179 = .ok (.invokevirtual 212, 3) := by decide +kernel
theorem dX11_measures_182 : decode cX11_measures 182 = .ok (.iinc 2 1, 3) := by decide +kernel
theorem dX11_measures_185 : decode cX11_measures 185 = .ok (.goto (-28), 3) := by decide +kernel
theorem dX11_measures_188 : decode cX11_measures 188 = .ok (.iinc 1 (-1), 3) := by decide +kernel
theorem dX11_measures_191 : decode cX11_measures 191 = .ok (.goto (-40), 3) := by decide +kernel
theorem dX11_measures_194 : decode cX11_measures 194 = .ok (.return_, 1) := by decide +kernel
theorem dX11_wrong_0 : decode cX11_wrong 0 = .ok (.aload_n 0, 1) := by decide +kernel
theorem dX11_wrong_1 : decode cX11_wrong 1 = .ok (.invokevirtual 215, 3) := by decide +kernel
theorem dX11_wrong_4 : decode cX11_wrong 4 = .ok (.iconst 0, 1) := by decide +kernel
theorem dX11_wrong_5 : decode cX11_wrong 5 = .ok (.istore_n 1, 1) := by decide +kernel
theorem dX11_wrong_6 : decode cX11_wrong 6 = .ok (.iload_n 1, 1) := by decide +kernel
theorem dX11_wrong_7 : decode cX11_wrong 7 = .ok (.aload_n 0, 1) := by decide +kernel
theorem dX11_wrong_8 : decode cX11_wrong 8 = .ok (.getfield 17, 3) := by decide +kernel
theorem dX11_wrong_11 : decode cX11_wrong 11 = .ok (.iconst 1, 1) := by decide +kernel
theorem dX11_wrong_12 : decode cX11_wrong 12 = .ok (.iaload, 1) := by decide +kernel
theorem dX11_wrong_13 : decode cX11_wrong 13 = .ok (.if_icmp .ge 30, 3) := by decide +kernel
theorem dX11_wrong_16 : decode cX11_wrong 16 = .ok (.aload_n 0, 1) := by decide +kernel
theorem dX11_wrong_17 : decode cX11_wrong 17 = .ok (.getfield 39, 3) := by decide +kernel
theorem dX11_wrong_20 : decode cX11_wrong 20 = .ok (.iload_n 1, 1) := by decide +kernel
theorem dX11_wrong_21 : decode cX11_wrong 21 = .ok (.iaload, 1) := by decide +kernel
theorem dX11_wrong_22 : decode cX11_wrong 22 = .ok (.aload_n 0, 1) := by decide +kernel
theorem dX11_wrong_23 : decode cX11_wrong 23 = .ok (.getfield 24, 3) := by decide +kernel
theorem dX11_wrong_26 : decode cX11_wrong 26 = .ok (.iconst 0, 1) := by decide +kernel
theorem dX11_wrong_27 : decode cX11_wrong 27 = .ok (.iload_n 1, 1) := by decide +kernel
theorem dX11_wrong_28 : decode cX11_wrong 28 = .ok (.iadd, 1) := by decide +kernel
theorem dX11_wrong_29 : decode cX11_wrong 29 = .ok (.iaload, 1) := by decide +kernel
theorem dX11_wrong_30 : decode cX11_wrong 30 = .ok (.if_icmp .le 7, 3) := by decide +kernel
theorem dX11_wrong_33 : decode cX11_wrong 33 = .ok (.iconst 0, 1) := by decide +kernel
theorem dX11_wrong_34 : decode cX11_wrong 34 = .ok (.iload_n 1, 1) := by decide +kernel
theorem dX11_wrong_35 : decode cX11_wrong 35 = .ok (.iadd, 1) := by decide +kernel
theorem dX11_wrong_36 : decode cX11_wrong 36 = .ok (.ireturn, 1) := by decide +kernel
theorem dX11_wrong_37 : decode cX11_wrong 37 = .ok (.iinc 1 1, 3) := by decide +kernel
theorem dX11_wrong_40 : decode cX11_wrong 40 = .ok (.goto (-34), 3) := by decide +kernel
theorem dX11_wrong_43 : decode cX11_wrong 43 = .ok (.iconst 0, 1) := by decide +kernel
theorem dX11_wrong_44 : decode cX11_wrong 44 = .ok (.istore_n 1, 1) := by decide +kernel
theorem dX11_wrong_45 : decode cX11_wrong 45 = .ok (.iload_n 1, 1) := by decide +kernel
theorem dX11_wrong_46 : decode cX11_wrong 46 = .ok (.aload_n 0, 1) := by decide +kernel
theorem dX11_wrong_47 : decode cX11_wrong 47 = .ok (.getfield 17, 3) := by decide +kernel
theorem dX11_wrong_50 : decode cX11_wrong 50 = .ok (.iconst 0, 1) := by decide +kernel
theorem dX11_wrong_51 : decode cX11_wrong 51 = .ok (.iaload, 1) := by decide +kernel
theorem dX11_wrong_52 : decode cX11_wrong 52 = .ok (.if_icmp .ge 33, 3) := by decide +kernel
theorem dX11_wrong_55 : decode cX11_wrong 55 = .ok (.aload_n 0, 1) := by decide +kernel
theorem dX11_wrong_56 : decode cX11_wrong 56 = .ok (.getfield 42, 3) := by decide +kernel
theorem dX11_wrong_59 : decode cX11_wrong 59 = .ok (.iload_n 1, 1) := by decide +kernel
theorem dX11_wrong_60 : decode cX11_wrong 60 = .ok (.iaload, 1) := by decide +kernel
theorem dX11_wrong_61 : decode cX11_wrong 61 = .ok (.aload_n 0, 1) := by decide +kernel
theorem dX11_wrong_62 : decode cX11_wrong 62 = .ok (.getfield 17, 3) := by decide +kernel
theorem dX11_wrong_65 : decode cX11_wrong 65 = .ok (.sipush 132, 3) := by decide +kernel
theorem dX11_wrong_68 : decode cX11_wrong 68 = .ok (.iload_n 1, 1) := by decide +kernel
theorem dX11_wrong_69 : decode cX11_wrong 69 = .ok (.iadd, 1) := by decide +kernel
theorem dX11_wrong_70 : decode cX11_wrong 70 = .ok (.iaload, 1) := by decide +kernel
theorem dX11_wrong_71 : decode cX11_wrong 71 = .ok (.if_icmp .le 8, 3) := by decide +kernel
theorem dX11_wrong_74 : decode cX11_wrong 74 = .ok (.bipush 100, 2) := by decide +kernel
theorem dX11_wrong_76 : decode cX11_wrong 76 = .ok (.iload_n 1, 1) := by decide +kernel
theorem dX11_wrong_77 : decode cX11_wrong 77 = .ok (.iadd, 1) := by decide +kernel
theorem dX11_wrong_78 : decode cX11_wrong 78 = .ok (.ireturn, 1) := by decide +kernel
theorem dX11_wrong_79 : decode cX11_wrong 79 = .ok (.iinc 1 1, 3) := by decide +kernel
theorem dX11_wrong_82 : decode cX11_wrong 82 = .ok (.goto (-37), 3) := by decide +kernel
theorem dX11_wrong_85 : decode cX11_wrong 85 = .ok (.iconst 1, 1) := by decide +kernel
theorem dX11_wrong_86 : decode cX11_wrong 86 = .ok (.istore_n 1, 1) := by decide +kernel
theorem dX11_wrong_87 : decode cX11_wrong 87 = .ok (.iload_n 1, 1) := by decide +kernel
theorem dX11_wrong_88 : decode cX11_wrong 88 = .ok (.aload_n 0, 1) := by decide +kernel
theorem dX11_wrong_89 : decode cX11_wrong 89 = .ok (.getfield 17, 3) := by decide +kernel
theorem dX11_wrong_92 : decode cX11_wrong 92 = .ok (.iconst 2, 1) := by decide +kernel
theorem dX11_wrong_93 : decode cX11_wrong 93 = .ok (.iaload, 1) := by decide +kernel
theorem dX11_wrong_94 : decode cX11_wrong 94 = .ok (.if_icmp .ge 24, 3) := by decide +kernel
theorem dX11_wrong_97 : decode cX11_wrong 97 = .ok (.aload_n 0, 1) := by decide +kernel
theorem dX11_wrong_98 : decode cX11_wrong 98 = .ok (.getfield 36, 3) := by decide +kernel
theorem dX11_wrong_101 : decode cX11_wrong 101 = .ok (.iload_n 1, 1) := by decide +kernel
theorem dX11_wrong_102 : decode cX11_wrong 102 = .ok (.iaload, 1) := by decide +kernel
theorem dX11_wrong_103 : decode cX11_wrong 103 = .ok (.ifCond .le 9, 3) := by decide +kernel
theorem dX11_wrong_106 : decode cX11_wrong 106 = .ok (.sipush 200, 3) := by decide +kernel
theorem dX11_wrong_109 : decode cX11_wrong 109 = .ok (.iload_n 1, 1) := by decide +kernel
theorem dX11_wrong_110 : decode cX11_wrong 110 = .ok (.iadd, 1) := by decide +kernel
theorem dX11_wrong_111 : decode cX11_wrong 111 = .ok (.ireturn, 1) := by decide +kernel
theorem dX11_wrong_112 : decode cX11_wrong 112 = .ok (.iinc 1 1, 3) := by decide +kernel
theorem dX11_wrong_115 : decode cX11_wrong 115 = .ok (.goto (-28), 3) := by decide +kernel
theorem dX11_wrong_118 : decode cX11_wrong 118 = .ok (.bipush (-2), 2) := by decide +kernel
theorem dX11_wrong_120 : decode cX11_wrong 120 = .ok (.ireturn, 1) := by decide +kernel
theorem dX11_isBare_0 : decode cX11_isBare 0 = .ok (.iconst 0, 1) := by decide +kernel
theorem dX11_isBare_1 : decode cX11_isBare 1 = .ok (.istore_n 2, 1) := by decide +kernel
theorem dX11_isBare_2 : decode cX11_isBare 2 = .ok (.iload_n 2, 1) := by decide +kernel
theorem dX11_isBare_3 : decode cX11_isBare 3 = .ok (.aload_n 0, 1) := by decide +kernel
theorem dX11_isBare_4 : decode cX11_isBare 4 = .ok (.getfield 17, 3) := by decide +kernel
theorem dX11_isBare_7 : decode cX11_isBare 7 = .ok (.iconst 0, 1) := by decide +kernel
theorem dX11_isBare_8 : decode cX11_isBare 8 = .ok (.iaload, 1) := by decide +kernel
theorem dX11_isBare_9 : decode cX11_isBare 9 = .ok (.if_icmp .ge 32, 3) := by decide +kernel
theorem dX11_isBare_12 : decode cX11_isBare 12 = .ok (.iload_n 2, 1) := by decide +kernel
theorem dX11_isBare_13 : decode cX11_isBare 13 = .ok (.ifCond .le 22, 3) := by decide +kernel
theorem dX11_isBare_16 : decode cX11_isBare 16 = .ok (.aload_n 0, 1) := by decide +kernel
theorem dX11_isBare_17 : decode cX11_isBare 17 = .ok (.iload_n 2, 1) := by decide +kernel
theorem dX11_isBare_18 : decode cX11_isBare 18 = .ok (.invokevirtual 205, 3) := by decide +kernel
theorem dX11_isBare_21 : decode cX11_isBare 21 = .ok (.ifCond .eq 14, 3) := by decide +kernel
theorem dX11_isBare_24 : decode cX11_isBare 24 = .ok (.aload_n 0, 1) := by decide +kernel
theorem dX11_isBare_25 : decode cX11_isBare 25 = .ok (.iload_n 2, 1) := by decide +kernel
theorem dX11_isBare_26 : decode cX11_isBare 26 = .ok (.invokevirtual 182, 3) := by decide +kernel
theorem dX11_isBare_29 : decode cX11_isBare 29 = .ok (.iload_n 1, 1) := by decide +kernel
theorem dX11_isBare_30 : decode cX11_isBare 30 = .ok (.if_icmp .ne 5, 3) := by decide +kernel
theorem dX11_isBare_33 : decode cX11_isBare 33 = .ok (.iconst 0, 1) := by decide +kernel
theorem dX11_isBare_34 : decode cX11_isBare 34 = .ok (.ireturn, 1) := by decide +kernel
theorem dX11_isBare_35 : decode cX11_isBare 35 = .ok (.iinc 2 1, 3) := by decide +kernel
theorem dX11_isBare_38 : decode cX11_isBare 38 = .ok (.goto (-36), 3) := by decide +kernel
theorem dX11_isBare_41 : decode cX11_isBare 41 = .ok (.iconst 0, 1) := by decide +kernel
theorem dX11_isBare_42 : decode cX11_isBare 42 = .ok (.istore_n 2, 1) := by decide +kernel
theorem dX11_isBare_43 : decode cX11_isBare 43 = .ok (.iload_n 2, 1) := by decide +kernel
theorem dX11_isBare_44 : decode cX11_isBare 44 = .ok (.bipush 20, 2) := by decide +kernel
theorem dX11_isBare_46 : decode cX11_isBare 46 = .ok (.if_icmp .gt 30, 3) := by decide +kernel
theorem dX11_isBare_49 : decode cX11_isBare 49 = .ok (.aload_n 0, 1) := by decide +kernel
theorem dX11_isBare_50 : decode cX11_isBare 50 = .ok (.iload_n 2, 1) := by decide +kernel
theorem dX11_isBare_51 : decode cX11_isBare 51 = .ok (.iconst 3, 1) := by decide +kernel
theorem dX11_isBare_52 : decode cX11_isBare 52 = .ok (.invokevirtual 176, 3) := by decide +kernel
theorem dX11_isBare_55 : decode cX11_isBare 55 = .ok (.ifCond .le 15, 3) := by decide +kernel
theorem dX11_isBare_58 : decode cX11_isBare 58 = .ok (.aload_n 0, 1) := by decide +kernel
theorem dX11_isBare_59 : decode cX11_isBare 59 = .ok (.iload_n 2, 1) := by decide +kernel
theorem dX11_isBare_60 : decode cX11_isBare 60 = .ok (.iconst 0, 1) := by decide +kernel
theorem dX11_isBare_61 : decode cX11_isBare 61 = .ok (.invokevirtual 176, 3) := by decide +kernel
theorem dX11_isBare_64 : decode cX11_isBare 64 = .ok (.iload_n 1, 1) := by decide +kernel
theorem dX11_isBare_65 : decode cX11_isBare 65 = .ok (.if_icmp .ne 5, 3) := by decide +kernel
theorem dX11_isBare_68 : decode cX11_isBare 68 = .ok (.iconst 0, 1) := by decide +kernel
theorem dX11_isBare_69 : decode cX11_isBare 69 = .ok (.ireturn, 1) := by decide +kernel
theorem dX11_isBare_70 : decode cX11_isBare 70 = .ok (.iinc 2 1, 3) := by decide +kernel
theorem dX11_isBare_73 : decode cX11_isBare 73 = .ok (.goto (-30), 3) := by decide +kernel
theorem dX11_isBare_76 : decode cX11_isBare 76 = .ok (.iconst 1, 1) := by decide +kernel
theorem dX11_isBare_77 : decode cX11_isBare 77 = .ok (.ireturn, 1) := by decide +kernel
theorem dX11_prunes_0 : decode cX11_prunes 0 = .ok (.iconst 1, 1) := by decide +kernel
theorem dX11_prunes_1 : decode cX11_prunes 1 = .ok (.istore_n 1, 1) := by decide +kernel
theorem dX11_prunes_2 : decode cX11_prunes 2 = .ok (.iload_n 1, 1) := by decide +kernel
theorem dX11_prunes_3 : decode cX11_prunes 3 = .ok (.ifCond .eq 54, 3) := by decide +kernel
theorem dX11_prunes_6 : decode cX11_prunes 6 = .ok (.iconst 0, 1) := by decide +kernel
theorem dX11_prunes_7 : decode cX11_prunes 7 = .ok (.istore_n 1, 1) := by decide +kernel
theorem dX11_prunes_8 : decode cX11_prunes 8 = .ok (.iconst 1, 1) := by decide +kernel
theorem dX11_prunes_9 : decode cX11_prunes 9 = .ok (.istore_n 2, 1) := by decide +kernel
theorem dX11_prunes_10 : decode cX11_prunes 10 = .ok (.iload_n 2, 1) := by decide +kernel
theorem dX11_prunes_11 : decode cX11_prunes 11 = .ok (.aload_n 0, 1) := by decide +kernel
theorem dX11_prunes_12 : decode cX11_prunes 12 = .ok (.getfield 17, 3) := by decide +kernel
theorem dX11_prunes_15 : decode cX11_prunes 15 = .ok (.iconst 0, 1) := by decide +kernel
theorem dX11_prunes_16 : decode cX11_prunes 16 = .ok (.iaload, 1) := by decide +kernel
theorem dX11_prunes_17 : decode cX11_prunes 17 = .ok (.if_icmp .ge 37, 3) := by decide +kernel
theorem dX11_prunes_20 : decode cX11_prunes 20 = .ok (.aload_n 0, 1) := by decide +kernel
theorem dX11_prunes_21 : decode cX11_prunes 21 = .ok (.iload_n 2, 1) := by decide +kernel
theorem dX11_prunes_22 : decode cX11_prunes 22 = .ok (.invokevirtual 205, 3) := by decide +kernel
theorem dX11_prunes_25 : decode cX11_prunes 25 = .ok (.ifCond .eq 23, 3) := by decide +kernel
theorem dX11_prunes_28 : decode cX11_prunes 28 = .ok (.aload_n 0, 1) := by decide +kernel
theorem dX11_prunes_29 : decode cX11_prunes 29 = .ok (.iload_n 2, 1) := by decide +kernel
theorem dX11_prunes_30 : decode cX11_prunes 30 = .ok (.invokevirtual 218, 3) := by decide +kernel
theorem dX11_prunes_33 : decode cX11_prunes 33 = .ok (.ifCond .eq 15, 3) := by decide +kernel
theorem dX11_prunes_36 : decode cX11_prunes 36 = .ok (.aload_n 0, 1) := by decide +kernel
theorem dX11_prunes_37 : decode cX11_prunes 37 = .ok (.getfield 24, 3) := by decide +kernel
theorem dX11_prunes_40 : decode cX11_prunes 40 = .ok (.bipush 80, 2) := by decide +kernel
theorem dX11_prunes_42 : decode cX11_prunes 42 = .ok (.iload_n 2, 1) := by decide +kernel
theorem dX11_prunes_43 : decode cX11_prunes 43 = .ok (.iadd, 1) := by decide +kernel
theorem dX11_prunes_44 : decode cX11_prunes 44 = .ok (.iconst (-1), 1) := by decide +kernel
theorem dX11_prunes_45 : decode cX11_prunes 45 = .ok (.iastore, 1) := by decide +kernel
theorem dX11_prunes_46 : decode cX11_prunes 46 = .ok (.iconst 1, 1) := by decide +kernel
theorem dX11_prunes_47 : decode cX11_prunes 47 = .ok (.istore_n 1, 1) := by decide +kernel
theorem dX11_prunes_48 : decode cX11_prunes 48 = .ok (.iinc 2 1, 3) := by decide +kernel
theorem dX11_prunes_51 : decode cX11_prunes 51 = .ok (.goto (-41), 3) := by decide +kernel
theorem dX11_prunes_54 : decode cX11_prunes 54 = .ok (.goto (-52), 3) := by decide +kernel
theorem dX11_prunes_57 : decode cX11_prunes 57 = .ok (.return_, 1) := by decide +kernel
theorem dX11_isFit_0 : decode cX11_isFit 0 = .ok (.aload_n 0, 1) := by decide +kernel
theorem dX11_isFit_1 : decode cX11_isFit 1 = .ok (.getfield 24, 3) := by decide +kernel
theorem dX11_isFit_4 : decode cX11_isFit 4 = .ok (.bipush 32, 2) := by decide +kernel
theorem dX11_isFit_6 : decode cX11_isFit 6 = .ok (.iload_n 1, 1) := by decide +kernel
theorem dX11_isFit_7 : decode cX11_isFit 7 = .ok (.iadd, 1) := by decide +kernel
theorem dX11_isFit_8 : decode cX11_isFit 8 = .ok (.iaload, 1) := by decide +kernel
theorem dX11_isFit_9 : decode cX11_isFit 9 = .ok (.iconst 1, 1) := by decide +kernel
theorem dX11_isFit_10 : decode cX11_isFit 10 = .ok (.if_icmp .ne 19, 3) := by decide +kernel
theorem dX11_isFit_13 : decode cX11_isFit 13 = .ok (.aload_n 0, 1) := by decide +kernel
theorem dX11_isFit_14 : decode cX11_isFit 14 = .ok (.getfield 24, 3) := by decide +kernel
theorem dX11_isFit_17 : decode cX11_isFit 17 = .ok (.iconst 0, 1) := by decide +kernel
theorem dX11_isFit_18 : decode cX11_isFit 18 = .ok (.iload_n 1, 1) := by decide +kernel
theorem dX11_isFit_19 : decode cX11_isFit 19 = .ok (.iadd, 1) := by decide +kernel
theorem dX11_isFit_20 : decode cX11_isFit 20 = .ok (.iaload, 1) := by decide +kernel
theorem dX11_isFit_21 : decode cX11_isFit 21 = .ok (.iload_n 2, 1) := by decide +kernel
theorem dX11_isFit_22 : decode cX11_isFit 22 = .ok (.if_icmp .lt 7, 3) := by decide +kernel
theorem dX11_isFit_25 : decode cX11_isFit 25 = .ok (.iconst 1, 1) := by decide +kernel
theorem dX11_isFit_26 : decode cX11_isFit 26 = .ok (.goto 4, 3) := by decide +kernel
theorem dX11_isFit_29 : decode cX11_isFit 29 = .ok (.iconst 0, 1) := by decide +kernel
theorem dX11_isFit_30 : decode cX11_isFit 30 = .ok (.ireturn, 1) := by decide +kernel
theorem dX11_reaches_0 : decode cX11_reaches 0 = .ok (.iconst 0, 1) := by decide +kernel
theorem dX11_reaches_1 : decode cX11_reaches 1 = .ok (.istore_n 3, 1) := by decide +kernel
theorem dX11_reaches_2 : decode cX11_reaches 2 = .ok (.iload_n 3, 1) := by decide +kernel
theorem dX11_reaches_3 : decode cX11_reaches 3 = .ok (.bipush 16, 2) := by decide +kernel
theorem dX11_reaches_5 : decode cX11_reaches 5 = .ok (.if_icmp .ge 26, 3) := by decide +kernel
theorem dX11_reaches_8 : decode cX11_reaches 8 = .ok (.aload_n 0, 1) := by decide +kernel
theorem dX11_reaches_9 : decode cX11_reaches 9 = .ok (.getfield 48, 3) := by decide +kernel
theorem dX11_reaches_12 : decode cX11_reaches 12 = .ok (.iload_n 3, 1) := by decide +kernel
theorem dX11_reaches_13 : decode cX11_reaches 13 = .ok (.iload_n 3, 1) := by decide +kernel
theorem dX11_reaches_14 : decode cX11_reaches 14 = .ok (.iload_n 1, 1) := by decide +kernel
theorem dX11_reaches_15 : decode cX11_reaches 15 = .ok (.if_icmp .ne 7, 3) := by decide +kernel
theorem dX11_reaches_18 : decode cX11_reaches 18 = .ok (.iconst 0, 1) := by decide +kernel
theorem dX11_reaches_19 : decode cX11_reaches 19 = .ok (.goto 5, 3) := by decide +kernel
theorem dX11_reaches_22 : decode cX11_reaches 22 = .ok (.ldc 221, 2) := by decide +kernel
theorem dX11_reaches_24 : decode cX11_reaches 24 = .ok (.iastore, 1) := by decide +kernel
theorem dX11_reaches_25 : decode cX11_reaches 25 = .ok (.iinc 3 1, 3) := by decide +kernel
theorem dX11_reaches_28 : decode cX11_reaches 28 = .ok (.goto (-26), 3) := by decide +kernel
theorem dX11_reaches_31 : decode cX11_reaches 31 = .ok (.iconst 0, 1) := by decide +kernel
theorem dX11_reaches_32 : decode cX11_reaches 32 = .ok (.istore_n 3, 1) := by decide +kernel
theorem dX11_reaches_33 : decode cX11_reaches 33 = .ok (.iload_n 3, 1) := by decide +kernel
theorem dX11_reaches_34 : decode cX11_reaches 34 = .ok (.bipush 16, 2) := by decide +kernel
theorem dX11_reaches_36 : decode cX11_reaches 36 = .ok (.if_icmp .ge 185, 3) := by decide +kernel
theorem dX11_reaches_39 : decode cX11_reaches 39 = .ok (.iconst 0, 1) := by decide +kernel
theorem dX11_reaches_40 : decode cX11_reaches 40 = .ok (.istore 4, 2) := by decide +kernel
theorem dX11_reaches_42 : decode cX11_reaches 42 = .ok (.iload 4, 2) := by decide +kernel
theorem dX11_reaches_44 : decode cX11_reaches 44 = .ok (.aload_n 0, 1) := by decide +kernel
theorem dX11_reaches_45 : decode cX11_reaches 45 = .ok (.getfield 17, 3) := by decide +kernel
theorem dX11_reaches_48 : decode cX11_reaches 48 = .ok (.iconst 1, 1) := by decide +kernel
theorem dX11_reaches_49 : decode cX11_reaches 49 = .ok (.iaload, 1) := by decide +kernel
theorem dX11_reaches_50 : decode cX11_reaches 50 = .ok (.if_icmp .ge 165, 3) := by decide +kernel
theorem dX11_reaches_53 : decode cX11_reaches 53 = .ok (.aload_n 0, 1) := by decide +kernel
theorem dX11_reaches_54 : decode cX11_reaches 54 = .ok (.iload 4, 2) := by decide +kernel
theorem dX11_reaches_56 : decode cX11_reaches 56 = .ok (.iconst 0, 1) := by decide +kernel
theorem dX11_reaches_57 : decode cX11_reaches 57 = .ok (.invokevirtual 179, 3) := by decide +kernel
theorem dX11_reaches_60 : decode cX11_reaches 60 = .ok (.istore 5, 2) := by decide +kernel
theorem dX11_reaches_62 : decode cX11_reaches 62 = .ok (.aload_n 0, 1) := by decide +kernel
theorem dX11_reaches_63 : decode cX11_reaches 63 = .ok (.iload 4, 2) := by decide +kernel
theorem dX11_reaches_65 : decode cX11_reaches 65 = .ok (.iconst 1, 1) := by decide +kernel
theorem dX11_reaches_66 : decode cX11_reaches 66 = .ok (.invokevirtual 179, 3) := by decide +kernel
theorem dX11_reaches_69 : decode cX11_reaches 69 = .ok (.istore 6, 2) := by decide +kernel
theorem dX11_reaches_71 : decode cX11_reaches 71 = .ok (.aload_n 0, 1) := by decide +kernel
theorem dX11_reaches_72 : decode cX11_reaches 72 = .ok (.iload 4, 2) := by decide +kernel
theorem dX11_reaches_74 : decode cX11_reaches 74 = .ok (.iload_n 2, 1) := by decide +kernel
theorem dX11_reaches_75 : decode cX11_reaches 75 = .ok (.invokevirtual 222, 3) := by decide +kernel
theorem dX11_reaches_78 : decode cX11_reaches 78 = .ok (.ifCond .eq 131, 3) := by decide +kernel
theorem dX11_reaches_81 : decode cX11_reaches 81 = .ok (.aload_n 0, 1) := by decide +kernel
theorem dX11_reaches_82 : decode cX11_reaches 82 = .ok (.iload 5, 2) := by decide +kernel
theorem dX11_reaches_84 : decode cX11_reaches 84 = .ok (.invokevirtual 205, 3) := by decide +kernel
theorem dX11_reaches_87 : decode cX11_reaches 87 = .ok (.ifCond .ne 122, 3) := by decide +kernel
theorem dX11_reaches_90 : decode cX11_reaches 90 = .ok (.aload_n 0, 1) := by decide +kernel
theorem dX11_reaches_91 : decode cX11_reaches 91 = .ok (.iload 6, 2) := by decide +kernel
theorem dX11_reaches_93 : decode cX11_reaches 93 = .ok (.invokevirtual 205, 3) := by decide +kernel
theorem dX11_reaches_96 : decode cX11_reaches 96 = .ok (.ifCond .eq 6, 3) := by decide +kernel
theorem dX11_reaches_99 : decode cX11_reaches 99 = .ok (.goto 110, 3) := by decide +kernel
theorem dX11_reaches_102 : decode cX11_reaches 102 = .ok (.bipush 100, 2) := by decide +kernel
theorem dX11_reaches_104 : decode cX11_reaches 104 = .ok (.aload_n 0, 1) := by decide +kernel
theorem dX11_reaches_105 : decode cX11_reaches 105 = .ok (.iload 4, 2) := by decide +kernel
theorem dX11_reaches_107 : decode cX11_reaches 107 = .ok (.invokevirtual 189, 3) := by decide +kernel
theorem dX11_reaches_110 : decode cX11_reaches 110 = .ok (.imul, 1) := by decide +kernel
theorem dX11_reaches_111 : decode cX11_reaches 111 = .ok (.iconst 1, 1) := by decide +kernel
theorem dX11_reaches_112 : decode cX11_reaches 112 = .ok (.iadd, 1) := by decide +kernel
theorem dX11_reaches_113 : decode cX11_reaches 113 = .ok (.istore 7, 2) := by decide +kernel
theorem dX11_reaches_115 : decode cX11_reaches 115 = .ok (.aload_n 0, 1) := by decide +kernel
theorem dX11_reaches_116 : decode cX11_reaches 116 = .ok (.getfield 48, 3) := by decide +kernel
theorem dX11_reaches_119 : decode cX11_reaches 119 = .ok (.iload 5, 2) := by decide +kernel
theorem dX11_reaches_121 : decode cX11_reaches 121 = .ok (.aload_n 0, 1) := by decide +kernel
theorem dX11_reaches_122 : decode cX11_reaches 122 = .ok (.getfield 48, 3) := by decide +kernel
theorem dX11_reaches_125 : decode cX11_reaches 125 = .ok (.iload 6, 2) := by decide +kernel
theorem dX11_reaches_127 : decode cX11_reaches 127 = .ok (.iaload, 1) := by decide +kernel
theorem dX11_reaches_128 : decode cX11_reaches 128 = .ok (.iload 7, 2) := by decide +kernel
theorem dX11_reaches_130 : decode cX11_reaches 130 = .ok (.iadd, 1) := by decide +kernel
theorem dX11_reaches_131 : decode cX11_reaches 131 = .ok (.aload_n 0, 1) := by decide +kernel
theorem dX11_reaches_132 : decode cX11_reaches 132 = .ok (.getfield 48, 3) := by decide +kernel
theorem dX11_reaches_135 : decode cX11_reaches 135 = .ok (.iload 5, 2) := by decide +kernel
theorem dX11_reaches_137 : decode cX11_reaches 137 = .ok (.iaload, 1) := by decide +kernel
theorem dX11_reaches_138 : decode cX11_reaches 138 = .ok (.if_icmp .ge 16, 3) := by decide +kernel
theorem dX11_reaches_141 : decode cX11_reaches 141 = .ok (.aload_n 0, 1) := by decide +kernel
theorem dX11_reaches_142 : decode cX11_reaches 142 = .ok (.getfield 48, 3) := by decide +kernel
theorem dX11_reaches_145 : decode cX11_reaches 145 = .ok (.iload 6, 2) := by decide +kernel
theorem dX11_reaches_147 : decode cX11_reaches 147 = .ok (.iaload, 1) := by decide +kernel
theorem dX11_reaches_148 : decode cX11_reaches 148 = .ok (.iload 7, 2) := by decide +kernel
theorem dX11_reaches_150 : decode cX11_reaches 150 = .ok (.iadd, 1) := by decide +kernel
theorem dX11_reaches_151 : decode cX11_reaches 151 = .ok (.goto 10, 3) := by decide +kernel
theorem dX11_reaches_154 : decode cX11_reaches 154 = .ok (.aload_n 0, 1) := by decide +kernel
theorem dX11_reaches_155 : decode cX11_reaches 155 = .ok (.getfield 48, 3) := by decide +kernel
theorem dX11_reaches_158 : decode cX11_reaches 158 = .ok (.iload 5, 2) := by decide +kernel
theorem dX11_reaches_160 : decode cX11_reaches 160 = .ok (.iaload, 1) := by decide +kernel
theorem dX11_reaches_161 : decode cX11_reaches 161 = .ok (.iastore, 1) := by decide +kernel
theorem dX11_reaches_162 : decode cX11_reaches 162 = .ok (.aload_n 0, 1) := by decide +kernel
theorem dX11_reaches_163 : decode cX11_reaches 163 = .ok (.getfield 48, 3) := by decide +kernel
theorem dX11_reaches_166 : decode cX11_reaches 166 = .ok (.iload 6, 2) := by decide +kernel
theorem dX11_reaches_168 : decode cX11_reaches 168 = .ok (.aload_n 0, 1) := by decide +kernel
theorem dX11_reaches_169 : decode cX11_reaches 169 = .ok (.getfield 48, 3) := by decide +kernel
theorem dX11_reaches_172 : decode cX11_reaches 172 = .ok (.iload 5, 2) := by decide +kernel
theorem dX11_reaches_174 : decode cX11_reaches 174 = .ok (.iaload, 1) := by decide +kernel
theorem dX11_reaches_175 : decode cX11_reaches 175 = .ok (.iload 7, 2) := by decide +kernel
theorem dX11_reaches_177 : decode cX11_reaches 177 = .ok (.iadd, 1) := by decide +kernel
theorem dX11_reaches_178 : decode cX11_reaches 178 = .ok (.aload_n 0, 1) := by decide +kernel
theorem dX11_reaches_179 : decode cX11_reaches 179 = .ok (.getfield 48, 3) := by decide +kernel
theorem dX11_reaches_182 : decode cX11_reaches 182 = .ok (.iload 6, 2) := by decide +kernel
theorem dX11_reaches_184 : decode cX11_reaches 184 = .ok (.iaload, 1) := by decide +kernel
theorem dX11_reaches_185 : decode cX11_reaches 185 = .ok (.if_icmp .ge 16, 3) := by decide +kernel
theorem dX11_reaches_188 : decode cX11_reaches 188 = .ok (.aload_n 0, 1) := by decide +kernel
theorem dX11_reaches_189 : decode cX11_reaches 189 = .ok (.getfield 48, 3) := by decide +kernel
theorem dX11_reaches_192 : decode cX11_reaches 192 = .ok (.iload 5, 2) := by decide +kernel
theorem dX11_reaches_194 : decode cX11_reaches 194 = .ok (.iaload, 1) := by decide +kernel
theorem dX11_reaches_195 : decode cX11_reaches 195 = .ok (.iload 7, 2) := by decide +kernel
theorem dX11_reaches_197 : decode cX11_reaches 197 = .ok (.iadd, 1) := by decide +kernel
theorem dX11_reaches_198 : decode cX11_reaches 198 = .ok (.goto 10, 3) := by decide +kernel
theorem dX11_reaches_201 : decode cX11_reaches 201 = .ok (.aload_n 0, 1) := by decide +kernel
theorem dX11_reaches_202 : decode cX11_reaches 202 = .ok (.getfield 48, 3) := by decide +kernel
theorem dX11_reaches_205 : decode cX11_reaches 205 = .ok (.iload 6, 2) := by decide +kernel
theorem dX11_reaches_207 : decode cX11_reaches 207 = .ok (.iaload, 1) := by decide +kernel
theorem dX11_reaches_208 : decode cX11_reaches 208 = .ok (.iastore, 1) := by decide +kernel
theorem dX11_reaches_209 : decode cX11_reaches 209 = .ok (.iinc 4 1, 3) := by decide +kernel
theorem dX11_reaches_212 : decode cX11_reaches 212 = .ok (.goto (-170), 3) := by decide +kernel
theorem dX11_reaches_215 : decode cX11_reaches 215 = .ok (.iinc 3 1, 3) := by decide +kernel
theorem dX11_reaches_218 : decode cX11_reaches 218 = .ok (.goto (-185), 3) := by decide +kernel
theorem dX11_reaches_221 : decode cX11_reaches 221 = .ok (.return_, 1) := by decide +kernel
theorem dX11_onward_0 : decode cX11_onward 0 = .ok (.bipush (-2), 2) := by decide +kernel
theorem dX11_onward_2 : decode cX11_onward 2 = .ok (.istore_n 3, 1) := by decide +kernel
theorem dX11_onward_3 : decode cX11_onward 3 = .ok (.ldc 221, 2) := by decide +kernel
theorem dX11_onward_5 : decode cX11_onward 5 = .ok (.istore 4, 2) := by decide +kernel
theorem dX11_onward_7 : decode cX11_onward 7 = .ok (.iconst 0, 1) := by decide +kernel
theorem dX11_onward_8 : decode cX11_onward 8 = .ok (.istore 5, 2) := by decide +kernel
theorem dX11_onward_10 : decode cX11_onward 10 = .ok (.iload 5, 2) := by decide +kernel
theorem dX11_onward_12 : decode cX11_onward 12 = .ok (.aload_n 0, 1) := by decide +kernel
theorem dX11_onward_13 : decode cX11_onward 13 = .ok (.getfield 17, 3) := by decide +kernel
theorem dX11_onward_16 : decode cX11_onward 16 = .ok (.iconst 0, 1) := by decide +kernel
theorem dX11_onward_17 : decode cX11_onward 17 = .ok (.iaload, 1) := by decide +kernel
theorem dX11_onward_18 : decode cX11_onward 18 = .ok (.if_icmp .ge 107, 3) := by decide +kernel
theorem dX11_onward_21 : decode cX11_onward 21 = .ok (.aload_n 0, 1) := by decide +kernel
theorem dX11_onward_22 : decode cX11_onward 22 = .ok (.iload 5, 2) := by decide +kernel
theorem dX11_onward_24 : decode cX11_onward 24 = .ok (.invokevirtual 205, 3) := by decide +kernel
theorem dX11_onward_27 : decode cX11_onward 27 = .ok (.ifCond .eq 8, 3) := by decide +kernel
theorem dX11_onward_30 : decode cX11_onward 30 = .ok (.bipush (-2), 2) := by decide +kernel
theorem dX11_onward_32 : decode cX11_onward 32 = .ok (.goto 10, 3) := by decide +kernel
theorem dX11_onward_35 : decode cX11_onward 35 = .ok (.aload_n 0, 1) := by decide +kernel
theorem dX11_onward_36 : decode cX11_onward 36 = .ok (.iload_n 1, 1) := by decide +kernel
theorem dX11_onward_37 : decode cX11_onward 37 = .ok (.iload 5, 2) := by decide +kernel
theorem dX11_onward_39 : decode cX11_onward 39 = .ok (.invokevirtual 186, 3) := by decide +kernel
theorem dX11_onward_42 : decode cX11_onward 42 = .ok (.istore 6, 2) := by decide +kernel
theorem dX11_onward_44 : decode cX11_onward 44 = .ok (.iload 6, 2) := by decide +kernel
theorem dX11_onward_46 : decode cX11_onward 46 = .ok (.ifCond .lt 73, 3) := by decide +kernel
theorem dX11_onward_49 : decode cX11_onward 49 = .ok (.aload_n 0, 1) := by decide +kernel
theorem dX11_onward_50 : decode cX11_onward 50 = .ok (.iload 6, 2) := by decide +kernel
theorem dX11_onward_52 : decode cX11_onward 52 = .ok (.iload_n 2, 1) := by decide +kernel
theorem dX11_onward_53 : decode cX11_onward 53 = .ok (.invokevirtual 222, 3) := by decide +kernel
theorem dX11_onward_56 : decode cX11_onward 56 = .ok (.ifCond .eq 63, 3) := by decide +kernel
theorem dX11_onward_59 : decode cX11_onward 59 = .ok (.aload_n 0, 1) := by decide +kernel
theorem dX11_onward_60 : decode cX11_onward 60 = .ok (.getfield 48, 3) := by decide +kernel
theorem dX11_onward_63 : decode cX11_onward 63 = .ok (.iload 5, 2) := by decide +kernel
theorem dX11_onward_65 : decode cX11_onward 65 = .ok (.iaload, 1) := by decide +kernel
theorem dX11_onward_66 : decode cX11_onward 66 = .ok (.ldc 221, 2) := by decide +kernel
theorem dX11_onward_68 : decode cX11_onward 68 = .ok (.if_icmp .ge 51, 3) := by decide +kernel
theorem dX11_onward_71 : decode cX11_onward 71 = .ok (.aload_n 0, 1) := by decide +kernel
theorem dX11_onward_72 : decode cX11_onward 72 = .ok (.getfield 48, 3) := by decide +kernel
theorem dX11_onward_75 : decode cX11_onward 75 = .ok (.iload 5, 2) := by decide +kernel
theorem dX11_onward_77 : decode cX11_onward 77 = .ok (.iaload, 1) := by decide +kernel
theorem dX11_onward_78 : decode cX11_onward 78 = .ok (.bipush 100, 2) := by decide +kernel
theorem dX11_onward_80 : decode cX11_onward 80 = .ok (.aload_n 0, 1) := by decide +kernel
theorem dX11_onward_81 : decode cX11_onward 81 = .ok (.iload 6, 2) := by decide +kernel
theorem dX11_onward_83 : decode cX11_onward 83 = .ok (.invokevirtual 189, 3) := by decide +kernel
theorem dX11_onward_86 : decode cX11_onward 86 = .ok (.imul, 1) := by decide +kernel
theorem dX11_onward_87 : decode cX11_onward 87 = .ok (.iadd, 1) := by decide +kernel
theorem dX11_onward_88 : decode cX11_onward 88 = .ok (.iconst 1, 1) := by decide +kernel
theorem dX11_onward_89 : decode cX11_onward 89 = .ok (.iadd, 1) := by decide +kernel
theorem dX11_onward_90 : decode cX11_onward 90 = .ok (.iload 4, 2) := by decide +kernel
theorem dX11_onward_92 : decode cX11_onward 92 = .ok (.if_icmp .ge 27, 3) := by decide +kernel
theorem dX11_onward_95 : decode cX11_onward 95 = .ok (.iload 5, 2) := by decide +kernel
theorem dX11_onward_97 : decode cX11_onward 97 = .ok (.istore_n 3, 1) := by decide +kernel
theorem dX11_onward_98 : decode cX11_onward 98 = .ok (.aload_n 0, 1) := by decide +kernel
theorem dX11_onward_99 : decode cX11_onward 99 = .ok (.getfield 48, 3) := by decide +kernel
theorem dX11_onward_102 : decode cX11_onward 102 = .ok (.iload 5, 2) := by decide +kernel
theorem dX11_onward_104 : decode cX11_onward 104 = .ok (.iaload, 1) := by decide +kernel
theorem dX11_onward_105 : decode cX11_onward 105 = .ok (.bipush 100, 2) := by decide +kernel
theorem dX11_onward_107 : decode cX11_onward 107 = .ok (.aload_n 0, 1) := by decide +kernel
theorem dX11_onward_108 : decode cX11_onward 108 = .ok (.iload 6, 2) := by decide +kernel
theorem dX11_onward_110 : decode cX11_onward 110 = .ok (.invokevirtual 189, 3) := by decide +kernel
theorem dX11_onward_113 : decode cX11_onward 113 = .ok (.imul, 1) := by decide +kernel
theorem dX11_onward_114 : decode cX11_onward 114 = .ok (.iadd, 1) := by decide +kernel
theorem dX11_onward_115 : decode cX11_onward 115 = .ok (.iconst 1, 1) := by decide +kernel
theorem dX11_onward_116 : decode cX11_onward 116 = .ok (.iadd, 1) := by decide +kernel
theorem dX11_onward_117 : decode cX11_onward 117 = .ok (.istore 4, 2) := by decide +kernel
theorem dX11_onward_119 : decode cX11_onward 119 = .ok (.iinc 5 1, 3) := by decide +kernel
theorem dX11_onward_122 : decode cX11_onward 122 = .ok (.goto (-112), 3) := by decide +kernel
theorem dX11_onward_125 : decode cX11_onward 125 = .ok (.iload_n 3, 1) := by decide +kernel
theorem dX11_onward_126 : decode cX11_onward 126 = .ok (.ireturn, 1) := by decide +kernel
theorem dX11_costBy_0 : decode cX11_costBy 0 = .ok (.aload_n 0, 1) := by decide +kernel
theorem dX11_costBy_1 : decode cX11_costBy 1 = .ok (.getfield 48, 3) := by decide +kernel
theorem dX11_costBy_4 : decode cX11_costBy 4 = .ok (.iload_n 2, 1) := by decide +kernel
theorem dX11_costBy_5 : decode cX11_costBy 5 = .ok (.iaload, 1) := by decide +kernel
theorem dX11_costBy_6 : decode cX11_costBy 6 = .ok (.bipush 100, 2) := by decide +kernel
theorem dX11_costBy_8 : decode cX11_costBy 8 = .ok (.aload_n 0, 1) := by decide +kernel
theorem dX11_costBy_9 : decode cX11_costBy 9 = .ok (.aload_n 0, 1) := by decide +kernel
theorem dX11_costBy_10 : decode cX11_costBy 10 = .ok (.iload_n 1, 1) := by decide +kernel
theorem dX11_costBy_11 : decode cX11_costBy 11 = .ok (.iload_n 2, 1) := by decide +kernel
theorem dX11_costBy_12 : decode cX11_costBy 12 = .ok (.invokevirtual 186, 3) := by decide +kernel
theorem dX11_costBy_15 : decode cX11_costBy 15 = .ok (.invokevirtual 189, 3) := by decide +kernel
theorem dX11_costBy_18 : decode cX11_costBy 18 = .ok (.imul, 1) := by decide +kernel
theorem dX11_costBy_19 : decode cX11_costBy 19 = .ok (.iadd, 1) := by decide +kernel
theorem dX11_costBy_20 : decode cX11_costBy 20 = .ok (.iconst 1, 1) := by decide +kernel
theorem dX11_costBy_21 : decode cX11_costBy 21 = .ok (.iadd, 1) := by decide +kernel
theorem dX11_costBy_22 : decode cX11_costBy 22 = .ok (.ireturn, 1) := by decide +kernel
theorem dX11_lays_0 : decode cX11_lays 0 = .ok (.aload_n 0, 1) := by decide +kernel
theorem dX11_lays_1 : decode cX11_lays 1 = .ok (.iload_n 1, 1) := by decide +kernel
theorem dX11_lays_2 : decode cX11_lays 2 = .ok (.iload_n 2, 1) := by decide +kernel
theorem dX11_lays_3 : decode cX11_lays 3 = .ok (.invokevirtual 225, 3) := by decide +kernel
theorem dX11_lays_6 : decode cX11_lays 6 = .ok (.aload_n 0, 1) := by decide +kernel
theorem dX11_lays_7 : decode cX11_lays 7 = .ok (.iconst 0, 1) := by decide +kernel
theorem dX11_lays_8 : decode cX11_lays 8 = .ok (.putfield 229, 3) := by decide +kernel
theorem dX11_lays_11 : decode cX11_lays 11 = .ok (.bipush (-2), 2) := by decide +kernel
theorem dX11_lays_13 : decode cX11_lays 13 = .ok (.istore_n 3, 1) := by decide +kernel
theorem dX11_lays_14 : decode cX11_lays 14 = .ok (.ldc 221, 2) := by decide +kernel
theorem dX11_lays_16 : decode cX11_lays 16 = .ok (.istore 4, 2) := by decide +kernel
theorem dX11_lays_18 : decode cX11_lays 18 = .ok (.iconst 0, 1) := by decide +kernel
theorem dX11_lays_19 : decode cX11_lays 19 = .ok (.istore 5, 2) := by decide +kernel
theorem dX11_lays_21 : decode cX11_lays 21 = .ok (.iload 5, 2) := by decide +kernel
theorem dX11_lays_23 : decode cX11_lays 23 = .ok (.aload_n 0, 1) := by decide +kernel
theorem dX11_lays_24 : decode cX11_lays 24 = .ok (.getfield 17, 3) := by decide +kernel
theorem dX11_lays_27 : decode cX11_lays 27 = .ok (.iconst 0, 1) := by decide +kernel
theorem dX11_lays_28 : decode cX11_lays 28 = .ok (.iaload, 1) := by decide +kernel
theorem dX11_lays_29 : decode cX11_lays 29 = .ok (.if_icmp .ge 83, 3) := by decide +kernel
theorem dX11_lays_32 : decode cX11_lays 32 = .ok (.aload_n 0, 1) := by decide +kernel
theorem dX11_lays_33 : decode cX11_lays 33 = .ok (.iload 5, 2) := by decide +kernel
theorem dX11_lays_35 : decode cX11_lays 35 = .ok (.invokevirtual 205, 3) := by decide +kernel
theorem dX11_lays_38 : decode cX11_lays 38 = .ok (.ifCond .eq 13, 3) := by decide +kernel
theorem dX11_lays_41 : decode cX11_lays 41 = .ok (.aload_n 0, 1) := by decide +kernel
theorem dX11_lays_42 : decode cX11_lays 42 = .ok (.iload 5, 2) := by decide +kernel
theorem dX11_lays_44 : decode cX11_lays 44 = .ok (.iload_n 2, 1) := by decide +kernel
theorem dX11_lays_45 : decode cX11_lays 45 = .ok (.invokevirtual 232, 3) := by decide +kernel
theorem dX11_lays_48 : decode cX11_lays 48 = .ok (.goto 5, 3) := by decide +kernel
theorem dX11_lays_51 : decode cX11_lays 51 = .ok (.bipush (-2), 2) := by decide +kernel
theorem dX11_lays_53 : decode cX11_lays 53 = .ok (.istore 6, 2) := by decide +kernel
theorem dX11_lays_55 : decode cX11_lays 55 = .ok (.iload 6, 2) := by decide +kernel
theorem dX11_lays_57 : decode cX11_lays 57 = .ok (.ifCond .lt 49, 3) := by decide +kernel
theorem dX11_lays_60 : decode cX11_lays 60 = .ok (.bipush 100, 2) := by decide +kernel
theorem dX11_lays_62 : decode cX11_lays 62 = .ok (.aload_n 0, 1) := by decide +kernel
theorem dX11_lays_63 : decode cX11_lays 63 = .ok (.iload 5, 2) := by decide +kernel
theorem dX11_lays_65 : decode cX11_lays 65 = .ok (.invokevirtual 235, 3) := by decide +kernel
theorem dX11_lays_68 : decode cX11_lays 68 = .ok (.imul, 1) := by decide +kernel
theorem dX11_lays_69 : decode cX11_lays 69 = .ok (.aload_n 0, 1) := by decide +kernel
theorem dX11_lays_70 : decode cX11_lays 70 = .ok (.iload 5, 2) := by decide +kernel
theorem dX11_lays_72 : decode cX11_lays 72 = .ok (.iload 6, 2) := by decide +kernel
theorem dX11_lays_74 : decode cX11_lays 74 = .ok (.invokevirtual 238, 3) := by decide +kernel
theorem dX11_lays_77 : decode cX11_lays 77 = .ok (.iadd, 1) := by decide +kernel
theorem dX11_lays_78 : decode cX11_lays 78 = .ok (.iload 4, 2) := by decide +kernel
theorem dX11_lays_80 : decode cX11_lays 80 = .ok (.if_icmp .ge 26, 3) := by decide +kernel
theorem dX11_lays_83 : decode cX11_lays 83 = .ok (.iload 5, 2) := by decide +kernel
theorem dX11_lays_85 : decode cX11_lays 85 = .ok (.istore_n 3, 1) := by decide +kernel
theorem dX11_lays_86 : decode cX11_lays 86 = .ok (.bipush 100, 2) := by decide +kernel
theorem dX11_lays_88 : decode cX11_lays 88 = .ok (.aload_n 0, 1) := by decide +kernel
theorem dX11_lays_89 : decode cX11_lays 89 = .ok (.iload 5, 2) := by decide +kernel
theorem dX11_lays_91 : decode cX11_lays 91 = .ok (.invokevirtual 235, 3) := by decide +kernel
theorem dX11_lays_94 : decode cX11_lays 94 = .ok (.imul, 1) := by decide +kernel
theorem dX11_lays_95 : decode cX11_lays 95 = .ok (.aload_n 0, 1) := by decide +kernel
theorem dX11_lays_96 : decode cX11_lays 96 = .ok (.iload 5, 2) := by decide +kernel
theorem dX11_lays_98 : decode cX11_lays 98 = .ok (.iload 6, 2) := by decide +kernel
theorem dX11_lays_100 : decode cX11_lays 100 = .ok (.invokevirtual 238, 3) := by decide +kernel
theorem dX11_lays_103 : decode cX11_lays 103 = .ok (.iadd, 1) := by decide +kernel
theorem dX11_lays_104 : decode cX11_lays 104 = .ok (.istore 4, 2) := by decide +kernel
theorem dX11_lays_106 : decode cX11_lays 106 = .ok (.iinc 5 1, 3) := by decide +kernel
theorem dX11_lays_109 : decode cX11_lays 109 = .ok (.goto (-88), 3) := by decide +kernel
theorem dX11_lays_112 : decode cX11_lays 112 = .ok (.iload_n 3, 1) := by decide +kernel
theorem dX11_lays_113 : decode cX11_lays 113 = .ok (.ifCond .ge 5, 3) := by decide +kernel
theorem dX11_lays_116 : decode cX11_lays 116 = .ok (.iconst 0, 1) := by decide +kernel
theorem dX11_lays_117 : decode cX11_lays 117 = .ok (.ireturn, 1) := by decide +kernel
theorem dX11_lays_118 : decode cX11_lays 118 = .ok (.aload_n 0, 1) := by decide +kernel
theorem dX11_lays_119 : decode cX11_lays 119 = .ok (.getfield 51, 3) := by decide +kernel
theorem dX11_lays_122 : decode cX11_lays 122 = .ok (.iconst 0, 1) := by decide +kernel
theorem dX11_lays_123 : decode cX11_lays 123 = .ok (.iload_n 3, 1) := by decide +kernel
theorem dX11_lays_124 : decode cX11_lays 124 = .ok (.iastore, 1) := by decide +kernel
theorem dX11_lays_125 : decode cX11_lays 125 = .ok (.aload_n 0, 1) := by decide +kernel
theorem dX11_lays_126 : decode cX11_lays 126 = .ok (.iconst 1, 1) := by decide +kernel
theorem dX11_lays_127 : decode cX11_lays 127 = .ok (.putfield 229, 3) := by decide +kernel
theorem dX11_lays_130 : decode cX11_lays 130 = .ok (.iload_n 3, 1) := by decide +kernel
theorem dX11_lays_131 : decode cX11_lays 131 = .ok (.istore 5, 2) := by decide +kernel
theorem dX11_lays_133 : decode cX11_lays 133 = .ok (.iload 5, 2) := by decide +kernel
theorem dX11_lays_135 : decode cX11_lays 135 = .ok (.iload_n 1, 1) := by decide +kernel
theorem dX11_lays_136 : decode cX11_lays 136 = .ok (.if_icmp .eq 36, 3) := by decide +kernel
theorem dX11_lays_139 : decode cX11_lays 139 = .ok (.aload_n 0, 1) := by decide +kernel
theorem dX11_lays_140 : decode cX11_lays 140 = .ok (.iload 5, 2) := by decide +kernel
theorem dX11_lays_142 : decode cX11_lays 142 = .ok (.iload_n 2, 1) := by decide +kernel
theorem dX11_lays_143 : decode cX11_lays 143 = .ok (.invokevirtual 232, 3) := by decide +kernel
theorem dX11_lays_146 : decode cX11_lays 146 = .ok (.istore 5, 2) := by decide +kernel
theorem dX11_lays_148 : decode cX11_lays 148 = .ok (.aload_n 0, 1) := by decide +kernel
theorem dX11_lays_149 : decode cX11_lays 149 = .ok (.getfield 51, 3) := by decide +kernel
theorem dX11_lays_152 : decode cX11_lays 152 = .ok (.aload_n 0, 1) := by decide +kernel
theorem dX11_lays_153 : decode cX11_lays 153 = .ok (.getfield 229, 3) := by decide +kernel
theorem dX11_lays_156 : decode cX11_lays 156 = .ok (.iload 5, 2) := by decide +kernel
theorem dX11_lays_158 : decode cX11_lays 158 = .ok (.iastore, 1) := by decide +kernel
theorem dX11_lays_159 : decode cX11_lays 159 = .ok (.aload_n 0, 1) := by decide +kernel
theorem dX11_lays_160 : decode cX11_lays 160 = .ok (.dup, 1) := by decide +kernel
theorem dX11_lays_161 : decode cX11_lays 161 = .ok (.getfield 229, 3) := by decide +kernel
theorem dX11_lays_164 : decode cX11_lays 164 = .ok (.iconst 1, 1) := by decide +kernel
theorem dX11_lays_165 : decode cX11_lays 165 = .ok (.iadd, 1) := by decide +kernel
theorem dX11_lays_166 : decode cX11_lays 166 = .ok (.putfield 229, 3) := by decide +kernel
theorem dX11_lays_169 : decode cX11_lays 169 = .ok (.goto (-36), 3) := by decide +kernel
theorem dX11_lays_172 : decode cX11_lays 172 = .ok (.iconst 1, 1) := by decide +kernel
theorem dX11_lays_173 : decode cX11_lays 173 = .ok (.ireturn, 1) := by decide +kernel
theorem dX11_tries_0 : decode cX11_tries 0 = .ok (.aload_n 0, 1) := by decide +kernel
theorem dX11_tries_1 : decode cX11_tries 1 = .ok (.iload_n 1, 1) := by decide +kernel
theorem dX11_tries_2 : decode cX11_tries 2 = .ok (.iconst 3, 1) := by decide +kernel
theorem dX11_tries_3 : decode cX11_tries 3 = .ok (.invokevirtual 176, 3) := by decide +kernel
theorem dX11_tries_6 : decode cX11_tries 6 = .ok (.istore_n 3, 1) := by decide +kernel
theorem dX11_tries_7 : decode cX11_tries 7 = .ok (.aload_n 0, 1) := by decide +kernel
theorem dX11_tries_8 : decode cX11_tries 8 = .ok (.iload_n 1, 1) := by decide +kernel
theorem dX11_tries_9 : decode cX11_tries 9 = .ok (.iconst 0, 1) := by decide +kernel
theorem dX11_tries_10 : decode cX11_tries 10 = .ok (.invokevirtual 176, 3) := by decide +kernel
theorem dX11_tries_13 : decode cX11_tries 13 = .ok (.istore 4, 2) := by decide +kernel
theorem dX11_tries_15 : decode cX11_tries 15 = .ok (.iconst 0, 1) := by decide +kernel
theorem dX11_tries_16 : decode cX11_tries 16 = .ok (.istore 5, 2) := by decide +kernel
theorem dX11_tries_18 : decode cX11_tries 18 = .ok (.iload 5, 2) := by decide +kernel
theorem dX11_tries_20 : decode cX11_tries 20 = .ok (.bipush 16, 2) := by decide +kernel
theorem dX11_tries_22 : decode cX11_tries 22 = .ok (.if_icmp .ge 26, 3) := by decide +kernel
theorem dX11_tries_25 : decode cX11_tries 25 = .ok (.aload_n 0, 1) := by decide +kernel
theorem dX11_tries_26 : decode cX11_tries 26 = .ok (.getfield 54, 3) := by decide +kernel
theorem dX11_tries_29 : decode cX11_tries 29 = .ok (.iload 5, 2) := by decide +kernel
theorem dX11_tries_31 : decode cX11_tries 31 = .ok (.aload_n 0, 1) := by decide +kernel
theorem dX11_tries_32 : decode cX11_tries 32 = .ok (.getfield 24, 3) := by decide +kernel
theorem dX11_tries_35 : decode cX11_tries 35 = .ok (.bipush 80, 2) := by decide +kernel
theorem dX11_tries_37 : decode cX11_tries 37 = .ok (.iload 5, 2) := by decide +kernel
theorem dX11_tries_39 : decode cX11_tries 39 = .ok (.iadd, 1) := by decide +kernel
theorem dX11_tries_40 : decode cX11_tries 40 = .ok (.iaload, 1) := by decide +kernel
theorem dX11_tries_41 : decode cX11_tries 41 = .ok (.iastore, 1) := by decide +kernel
theorem dX11_tries_42 : decode cX11_tries 42 = .ok (.iinc 5 1, 3) := by decide +kernel
theorem dX11_tries_45 : decode cX11_tries 45 = .ok (.goto (-27), 3) := by decide +kernel
theorem dX11_tries_48 : decode cX11_tries 48 = .ok (.aload_n 0, 1) := by decide +kernel
theorem dX11_tries_49 : decode cX11_tries 49 = .ok (.iload 4, 2) := by decide +kernel
theorem dX11_tries_51 : decode cX11_tries 51 = .ok (.invokevirtual 205, 3) := by decide +kernel
theorem dX11_tries_54 : decode cX11_tries 54 = .ok (.ifCond .ne 67, 3) := by decide +kernel
theorem dX11_tries_57 : decode cX11_tries 57 = .ok (.aload_n 0, 1) := by decide +kernel
theorem dX11_tries_58 : decode cX11_tries 58 = .ok (.iload 4, 2) := by decide +kernel
theorem dX11_tries_60 : decode cX11_tries 60 = .ok (.aload_n 0, 1) := by decide +kernel
theorem dX11_tries_61 : decode cX11_tries 61 = .ok (.aload_n 0, 1) := by decide +kernel
theorem dX11_tries_62 : decode cX11_tries 62 = .ok (.iload_n 1, 1) := by decide +kernel
theorem dX11_tries_63 : decode cX11_tries 63 = .ok (.iconst 1, 1) := by decide +kernel
theorem dX11_tries_64 : decode cX11_tries 64 = .ok (.invokevirtual 176, 3) := by decide +kernel
theorem dX11_tries_67 : decode cX11_tries 67 = .ok (.iload_n 2, 1) := by decide +kernel
theorem dX11_tries_68 : decode cX11_tries 68 = .ok (.invokevirtual 202, 3) := by decide +kernel
theorem dX11_tries_71 : decode cX11_tries 71 = .ok (.invokevirtual 241, 3) := by decide +kernel
theorem dX11_tries_74 : decode cX11_tries 74 = .ok (.ifCond .ne 5, 3) := by decide +kernel
theorem dX11_tries_77 : decode cX11_tries 77 = .ok (.iconst 0, 1) := by decide +kernel
theorem dX11_tries_78 : decode cX11_tries 78 = .ok (.ireturn, 1) := by decide +kernel
theorem dX11_tries_79 : decode cX11_tries 79 = .ok (.iconst 1, 1) := by decide +kernel
theorem dX11_tries_80 : decode cX11_tries 80 = .ok (.istore 5, 2) := by decide +kernel
theorem dX11_tries_82 : decode cX11_tries 82 = .ok (.iload 5, 2) := by decide +kernel
theorem dX11_tries_84 : decode cX11_tries 84 = .ok (.aload_n 0, 1) := by decide +kernel
theorem dX11_tries_85 : decode cX11_tries 85 = .ok (.getfield 229, 3) := by decide +kernel
theorem dX11_tries_88 : decode cX11_tries 88 = .ok (.if_icmp .ge 33, 3) := by decide +kernel
theorem dX11_tries_91 : decode cX11_tries 91 = .ok (.aload_n 0, 1) := by decide +kernel
theorem dX11_tries_92 : decode cX11_tries 92 = .ok (.getfield 24, 3) := by decide +kernel
theorem dX11_tries_95 : decode cX11_tries 95 = .ok (.bipush 80, 2) := by decide +kernel
theorem dX11_tries_97 : decode cX11_tries 97 = .ok (.aload_n 0, 1) := by decide +kernel
theorem dX11_tries_98 : decode cX11_tries 98 = .ok (.getfield 51, 3) := by decide +kernel
theorem dX11_tries_101 : decode cX11_tries 101 = .ok (.iload 5, 2) := by decide +kernel
theorem dX11_tries_103 : decode cX11_tries 103 = .ok (.iaload, 1) := by decide +kernel
theorem dX11_tries_104 : decode cX11_tries 104 = .ok (.iadd, 1) := by decide +kernel
theorem dX11_tries_105 : decode cX11_tries 105 = .ok (.aload_n 0, 1) := by decide +kernel
theorem dX11_tries_106 : decode cX11_tries 106 = .ok (.getfield 51, 3) := by decide +kernel
theorem dX11_tries_109 : decode cX11_tries 109 = .ok (.iload 5, 2) := by decide +kernel
theorem dX11_tries_111 : decode cX11_tries 111 = .ok (.iconst 1, 1) := by decide +kernel
theorem dX11_tries_112 : decode cX11_tries 112 = .ok (.isub, 1) := by decide +kernel
theorem dX11_tries_113 : decode cX11_tries 113 = .ok (.iaload, 1) := by decide +kernel
theorem dX11_tries_114 : decode cX11_tries 114 = .ok (.iastore, 1) := by decide +kernel
theorem dX11_tries_115 : decode cX11_tries 115 = .ok (.iinc 5 1, 3) := by decide +kernel
theorem dX11_tries_118 : decode cX11_tries 118 = .ok (.goto (-36), 3) := by decide +kernel
theorem dX11_tries_121 : decode cX11_tries 121 = .ok (.aload_n 0, 1) := by decide +kernel
theorem dX11_tries_122 : decode cX11_tries 122 = .ok (.iload_n 1, 1) := by decide +kernel
theorem dX11_tries_123 : decode cX11_tries 123 = .ok (.iconst 3, 1) := by decide +kernel
theorem dX11_tries_124 : decode cX11_tries 124 = .ok (.iload_n 2, 1) := by decide +kernel
theorem dX11_tries_125 : decode cX11_tries 125 = .ok (.invokevirtual 244, 3) := by decide +kernel
theorem dX11_tries_128 : decode cX11_tries 128 = .ok (.aload_n 0, 1) := by decide +kernel
theorem dX11_tries_129 : decode cX11_tries 129 = .ok (.invokevirtual 247, 3) := by decide +kernel
theorem dX11_tries_132 : decode cX11_tries 132 = .ok (.ifCond .ge 5, 3) := by decide +kernel
theorem dX11_tries_135 : decode cX11_tries 135 = .ok (.iconst 1, 1) := by decide +kernel
theorem dX11_tries_136 : decode cX11_tries 136 = .ok (.ireturn, 1) := by decide +kernel
theorem dX11_tries_137 : decode cX11_tries 137 = .ok (.aload_n 0, 1) := by decide +kernel
theorem dX11_tries_138 : decode cX11_tries 138 = .ok (.iload_n 1, 1) := by decide +kernel
theorem dX11_tries_139 : decode cX11_tries 139 = .ok (.iconst 3, 1) := by decide +kernel
theorem dX11_tries_140 : decode cX11_tries 140 = .ok (.iload_n 3, 1) := by decide +kernel
theorem dX11_tries_141 : decode cX11_tries 141 = .ok (.invokevirtual 244, 3) := by decide +kernel
theorem dX11_tries_144 : decode cX11_tries 144 = .ok (.iconst 0, 1) := by decide +kernel
theorem dX11_tries_145 : decode cX11_tries 145 = .ok (.istore 5, 2) := by decide +kernel
theorem dX11_tries_147 : decode cX11_tries 147 = .ok (.iload 5, 2) := by decide +kernel
theorem dX11_tries_149 : decode cX11_tries 149 = .ok (.bipush 16, 2) := by decide +kernel
theorem dX11_tries_151 : decode cX11_tries 151 = .ok (.if_icmp .ge 26, 3) := by decide +kernel
theorem dX11_tries_154 : decode cX11_tries 154 = .ok (.aload_n 0, 1) := by decide +kernel
theorem dX11_tries_155 : decode cX11_tries 155 = .ok (.getfield 24, 3) := by decide +kernel
theorem dX11_tries_158 : decode cX11_tries 158 = .ok (.bipush 80, 2) := by decide +kernel
theorem dX11_tries_160 : decode cX11_tries 160 = .ok (.iload 5, 2) := by decide +kernel
theorem dX11_tries_162 : decode cX11_tries 162 = .ok (.iadd, 1) := by decide +kernel
theorem dX11_tries_163 : decode cX11_tries 163 = .ok (.aload_n 0, 1) := by decide +kernel
theorem dX11_tries_164 : decode cX11_tries 164 = .ok (.getfield 54, 3) := by decide +kernel
theorem dX11_tries_167 : decode cX11_tries 167 = .ok (.iload 5, 2) := by decide +kernel
theorem dX11_tries_169 : decode cX11_tries 169 = .ok (.iaload, 1) := by decide +kernel
theorem dX11_tries_170 : decode cX11_tries 170 = .ok (.iastore, 1) := by decide +kernel
theorem dX11_tries_171 : decode cX11_tries 171 = .ok (.iinc 5 1, 3) := by decide +kernel
theorem dX11_tries_174 : decode cX11_tries 174 = .ok (.goto (-27), 3) := by decide +kernel
theorem dX11_tries_177 : decode cX11_tries 177 = .ok (.iconst 0, 1) := by decide +kernel
theorem dX11_tries_178 : decode cX11_tries 178 = .ok (.ireturn, 1) := by decide +kernel
theorem dX11_joins_0 : decode cX11_joins 0 = .ok (.aload_n 0, 1) := by decide +kernel
theorem dX11_joins_1 : decode cX11_joins 1 = .ok (.iload_n 1, 1) := by decide +kernel
theorem dX11_joins_2 : decode cX11_joins 2 = .ok (.iconst 3, 1) := by decide +kernel
theorem dX11_joins_3 : decode cX11_joins 3 = .ok (.iconst 0, 1) := by decide +kernel
theorem dX11_joins_4 : decode cX11_joins 4 = .ok (.invokevirtual 244, 3) := by decide +kernel
theorem dX11_joins_7 : decode cX11_joins 7 = .ok (.aload_n 0, 1) := by decide +kernel
theorem dX11_joins_8 : decode cX11_joins 8 = .ok (.iload_n 1, 1) := by decide +kernel
theorem dX11_joins_9 : decode cX11_joins 9 = .ok (.iconst 2, 1) := by decide +kernel
theorem dX11_joins_10 : decode cX11_joins 10 = .ok (.invokevirtual 176, 3) := by decide +kernel
theorem dX11_joins_13 : decode cX11_joins 13 = .ok (.istore_n 2, 1) := by decide +kernel
theorem dX11_joins_14 : decode cX11_joins 14 = .ok (.iload_n 2, 1) := by decide +kernel
theorem dX11_joins_15 : decode cX11_joins 15 = .ok (.ifCond .le 19, 3) := by decide +kernel
theorem dX11_joins_18 : decode cX11_joins 18 = .ok (.aload_n 0, 1) := by decide +kernel
theorem dX11_joins_19 : decode cX11_joins 19 = .ok (.iload_n 1, 1) := by decide +kernel
theorem dX11_joins_20 : decode cX11_joins 20 = .ok (.iload_n 2, 1) := by decide +kernel
theorem dX11_joins_21 : decode cX11_joins 21 = .ok (.invokevirtual 251, 3) := by decide +kernel
theorem dX11_joins_24 : decode cX11_joins 24 = .ok (.ifCond .eq 4, 3) := by decide +kernel
theorem dX11_joins_27 : decode cX11_joins 27 = .ok (.return_, 1) := by decide +kernel
theorem dX11_joins_28 : decode cX11_joins 28 = .ok (.iinc 2 (-1), 3) := by decide +kernel
theorem dX11_joins_31 : decode cX11_joins 31 = .ok (.goto (-17), 3) := by decide +kernel
theorem dX11_joins_34 : decode cX11_joins 34 = .ok (.return_, 1) := by decide +kernel
theorem dX11_isOver_0 : decode cX11_isOver 0 = .ok (.aload_n 0, 1) := by decide +kernel
theorem dX11_isOver_1 : decode cX11_isOver 1 = .ok (.iload_n 1, 1) := by decide +kernel
theorem dX11_isOver_2 : decode cX11_isOver 2 = .ok (.iconst 3, 1) := by decide +kernel
theorem dX11_isOver_3 : decode cX11_isOver 3 = .ok (.invokevirtual 176, 3) := by decide +kernel
theorem dX11_isOver_6 : decode cX11_isOver 6 = .ok (.ifCond .ne 5, 3) := by decide +kernel
theorem dX11_isOver_9 : decode cX11_isOver 9 = .ok (.iconst 0, 1) := by decide +kernel
theorem dX11_isOver_10 : decode cX11_isOver 10 = .ok (.ireturn, 1) := by decide +kernel
theorem dX11_isOver_11 : decode cX11_isOver 11 = .ok (.aload_n 0, 1) := by decide +kernel
theorem dX11_isOver_12 : decode cX11_isOver 12 = .ok (.iload_n 1, 1) := by decide +kernel
theorem dX11_isOver_13 : decode cX11_isOver 13 = .ok (.iconst 0, 1) := by decide +kernel
theorem dX11_isOver_14 : decode cX11_isOver 14 = .ok (.invokevirtual 176, 3) := by decide +kernel
theorem dX11_isOver_17 : decode cX11_isOver 17 = .ok (.istore_n 3, 1) := by decide +kernel
theorem dX11_isOver_18 : decode cX11_isOver 18 = .ok (.iload_n 3, 1) := by decide +kernel
theorem dX11_isOver_19 : decode cX11_isOver 19 = .ok (.ifCond .eq 28, 3) := by decide +kernel
theorem dX11_isOver_22 : decode cX11_isOver 22 = .ok (.aload_n 0, 1) := by decide +kernel
theorem dX11_isOver_23 : decode cX11_isOver 23 = .ok (.iload_n 3, 1) := by decide +kernel
theorem dX11_isOver_24 : decode cX11_isOver 24 = .ok (.aload_n 0, 1) := by decide +kernel
theorem dX11_isOver_25 : decode cX11_isOver 25 = .ok (.iload_n 3, 1) := by decide +kernel
theorem dX11_isOver_26 : decode cX11_isOver 26 = .ok (.invokevirtual 182, 3) := by decide +kernel
theorem dX11_isOver_29 : decode cX11_isOver 29 = .ok (.invokevirtual 186, 3) := by decide +kernel
theorem dX11_isOver_32 : decode cX11_isOver 32 = .ok (.iload_n 2, 1) := by decide +kernel
theorem dX11_isOver_33 : decode cX11_isOver 33 = .ok (.if_icmp .ne 5, 3) := by decide +kernel
theorem dX11_isOver_36 : decode cX11_isOver 36 = .ok (.iconst 1, 1) := by decide +kernel
theorem dX11_isOver_37 : decode cX11_isOver 37 = .ok (.ireturn, 1) := by decide +kernel
theorem dX11_isOver_38 : decode cX11_isOver 38 = .ok (.aload_n 0, 1) := by decide +kernel
theorem dX11_isOver_39 : decode cX11_isOver 39 = .ok (.iload_n 3, 1) := by decide +kernel
theorem dX11_isOver_40 : decode cX11_isOver 40 = .ok (.invokevirtual 182, 3) := by decide +kernel
theorem dX11_isOver_43 : decode cX11_isOver 43 = .ok (.istore_n 3, 1) := by decide +kernel
theorem dX11_isOver_44 : decode cX11_isOver 44 = .ok (.goto (-26), 3) := by decide +kernel
theorem dX11_isOver_47 : decode cX11_isOver 47 = .ok (.iconst 0, 1) := by decide +kernel
theorem dX11_isOver_48 : decode cX11_isOver 48 = .ok (.ireturn, 1) := by decide +kernel
theorem dX11_servedBy_0 : decode cX11_servedBy 0 = .ok (.aload_n 0, 1) := by decide +kernel
theorem dX11_servedBy_1 : decode cX11_servedBy 1 = .ok (.iload_n 1, 1) := by decide +kernel
theorem dX11_servedBy_2 : decode cX11_servedBy 2 = .ok (.iconst 1, 1) := by decide +kernel
theorem dX11_servedBy_3 : decode cX11_servedBy 3 = .ok (.invokevirtual 176, 3) := by decide +kernel
theorem dX11_servedBy_6 : decode cX11_servedBy 6 = .ok (.istore_n 2, 1) := by decide +kernel
theorem dX11_servedBy_7 : decode cX11_servedBy 7 = .ok (.aload_n 0, 1) := by decide +kernel
theorem dX11_servedBy_8 : decode cX11_servedBy 8 = .ok (.iload_n 1, 1) := by decide +kernel
theorem dX11_servedBy_9 : decode cX11_servedBy 9 = .ok (.iconst 3, 1) := by decide +kernel
theorem dX11_servedBy_10 : decode cX11_servedBy 10 = .ok (.invokevirtual 176, 3) := by decide +kernel
theorem dX11_servedBy_13 : decode cX11_servedBy 13 = .ok (.ifCond .eq 7, 3) := by decide +kernel
theorem dX11_servedBy_16 : decode cX11_servedBy 16 = .ok (.iload_n 2, 1) := by decide +kernel
theorem dX11_servedBy_17 : decode cX11_servedBy 17 = .ok (.ifCond .ne 6, 3) := by decide +kernel
theorem dX11_servedBy_20 : decode cX11_servedBy 20 = .ok (.bipush (-2), 2) := by decide +kernel
theorem dX11_servedBy_22 : decode cX11_servedBy 22 = .ok (.ireturn, 1) := by decide +kernel
theorem dX11_servedBy_23 : decode cX11_servedBy 23 = .ok (.aload_n 0, 1) := by decide +kernel
theorem dX11_servedBy_24 : decode cX11_servedBy 24 = .ok (.iload_n 1, 1) := by decide +kernel
theorem dX11_servedBy_25 : decode cX11_servedBy 25 = .ok (.iconst 0, 1) := by decide +kernel
theorem dX11_servedBy_26 : decode cX11_servedBy 26 = .ok (.invokevirtual 176, 3) := by decide +kernel
theorem dX11_servedBy_29 : decode cX11_servedBy 29 = .ok (.istore_n 3, 1) := by decide +kernel
theorem dX11_servedBy_30 : decode cX11_servedBy 30 = .ok (.iload_n 3, 1) := by decide +kernel
theorem dX11_servedBy_31 : decode cX11_servedBy 31 = .ok (.ifCond .eq 21, 3) := by decide +kernel
theorem dX11_servedBy_34 : decode cX11_servedBy 34 = .ok (.aload_n 0, 1) := by decide +kernel
theorem dX11_servedBy_35 : decode cX11_servedBy 35 = .ok (.iload_n 3, 1) := by decide +kernel
theorem dX11_servedBy_36 : decode cX11_servedBy 36 = .ok (.iload_n 2, 1) := by decide +kernel
theorem dX11_servedBy_37 : decode cX11_servedBy 37 = .ok (.invokevirtual 195, 3) := by decide +kernel
theorem dX11_servedBy_40 : decode cX11_servedBy 40 = .ok (.ifCond .ne 12, 3) := by decide +kernel
theorem dX11_servedBy_43 : decode cX11_servedBy 43 = .ok (.aload_n 0, 1) := by decide +kernel
theorem dX11_servedBy_44 : decode cX11_servedBy 44 = .ok (.iload_n 3, 1) := by decide +kernel
theorem dX11_servedBy_45 : decode cX11_servedBy 45 = .ok (.invokevirtual 182, 3) := by decide +kernel
theorem dX11_servedBy_48 : decode cX11_servedBy 48 = .ok (.istore_n 3, 1) := by decide +kernel
theorem dX11_servedBy_49 : decode cX11_servedBy 49 = .ok (.goto (-19), 3) := by decide +kernel
theorem dX11_servedBy_52 : decode cX11_servedBy 52 = .ok (.aload_n 0, 1) := by decide +kernel
theorem dX11_servedBy_53 : decode cX11_servedBy 53 = .ok (.iload_n 3, 1) := by decide +kernel
theorem dX11_servedBy_54 : decode cX11_servedBy 54 = .ok (.iload_n 2, 1) := by decide +kernel
theorem dX11_servedBy_55 : decode cX11_servedBy 55 = .ok (.invokevirtual 195, 3) := by decide +kernel
theorem dX11_servedBy_58 : decode cX11_servedBy 58 = .ok (.ifCond .eq 7, 3) := by decide +kernel
theorem dX11_servedBy_61 : decode cX11_servedBy 61 = .ok (.iload_n 3, 1) := by decide +kernel
theorem dX11_servedBy_62 : decode cX11_servedBy 62 = .ok (.goto 5, 3) := by decide +kernel
theorem dX11_servedBy_65 : decode cX11_servedBy 65 = .ok (.bipush (-2), 2) := by decide +kernel
theorem dX11_servedBy_67 : decode cX11_servedBy 67 = .ok (.ireturn, 1) := by decide +kernel
theorem dX11_isPartOf_0 : decode cX11_isPartOf 0 = .ok (.iload_n 2, 1) := by decide +kernel
theorem dX11_isPartOf_1 : decode cX11_isPartOf 1 = .ok (.sipush 200, 3) := by decide +kernel
theorem dX11_isPartOf_4 : decode cX11_isPartOf 4 = .ok (.if_icmp .lt 40, 3) := by decide +kernel
theorem dX11_isPartOf_7 : decode cX11_isPartOf 7 = .ok (.aload_n 0, 1) := by decide +kernel
theorem dX11_isPartOf_8 : decode cX11_isPartOf 8 = .ok (.iload_n 1, 1) := by decide +kernel
theorem dX11_isPartOf_9 : decode cX11_isPartOf 9 = .ok (.iconst 3, 1) := by decide +kernel
theorem dX11_isPartOf_10 : decode cX11_isPartOf 10 = .ok (.invokevirtual 176, 3) := by decide +kernel
theorem dX11_isPartOf_13 : decode cX11_isPartOf 13 = .ok (.ifCond .le 29, 3) := by decide +kernel
theorem dX11_isPartOf_16 : decode cX11_isPartOf 16 = .ok (.aload_n 0, 1) := by decide +kernel
theorem dX11_isPartOf_17 : decode cX11_isPartOf 17 = .ok (.iload_n 1, 1) := by decide +kernel
theorem dX11_isPartOf_18 : decode cX11_isPartOf 18 = .ok (.iconst 1, 1) := by decide +kernel
theorem dX11_isPartOf_19 : decode cX11_isPartOf 19 = .ok (.invokevirtual 176, 3) := by decide +kernel
theorem dX11_isPartOf_22 : decode cX11_isPartOf 22 = .ok (.iload_n 2, 1) := by decide +kernel
theorem dX11_isPartOf_23 : decode cX11_isPartOf 23 = .ok (.sipush 200, 3) := by decide +kernel
theorem dX11_isPartOf_26 : decode cX11_isPartOf 26 = .ok (.isub, 1) := by decide +kernel
theorem dX11_isPartOf_27 : decode cX11_isPartOf 27 = .ok (.if_icmp .ne 15, 3) := by decide +kernel
theorem dX11_isPartOf_30 : decode cX11_isPartOf 30 = .ok (.aload_n 0, 1) := by decide +kernel
theorem dX11_isPartOf_31 : decode cX11_isPartOf 31 = .ok (.iload_n 1, 1) := by decide +kernel
theorem dX11_isPartOf_32 : decode cX11_isPartOf 32 = .ok (.invokevirtual 254, 3) := by decide +kernel
theorem dX11_isPartOf_35 : decode cX11_isPartOf 35 = .ok (.ifCond .ge 7, 3) := by decide +kernel
theorem dX11_isPartOf_38 : decode cX11_isPartOf 38 = .ok (.iconst 1, 1) := by decide +kernel
theorem dX11_isPartOf_39 : decode cX11_isPartOf 39 = .ok (.goto 4, 3) := by decide +kernel
theorem dX11_isPartOf_42 : decode cX11_isPartOf 42 = .ok (.iconst 0, 1) := by decide +kernel
theorem dX11_isPartOf_43 : decode cX11_isPartOf 43 = .ok (.ireturn, 1) := by decide +kernel
theorem dX11_isPartOf_44 : decode cX11_isPartOf 44 = .ok (.iload_n 2, 1) := by decide +kernel
theorem dX11_isPartOf_45 : decode cX11_isPartOf 45 = .ok (.bipush 100, 2) := by decide +kernel
theorem dX11_isPartOf_47 : decode cX11_isPartOf 47 = .ok (.if_icmp .lt 23, 3) := by decide +kernel
theorem dX11_isPartOf_50 : decode cX11_isPartOf 50 = .ok (.aload_n 0, 1) := by decide +kernel
theorem dX11_isPartOf_51 : decode cX11_isPartOf 51 = .ok (.iload_n 1, 1) := by decide +kernel
theorem dX11_isPartOf_52 : decode cX11_isPartOf 52 = .ok (.invokevirtual 254, 3) := by decide +kernel
theorem dX11_isPartOf_55 : decode cX11_isPartOf 55 = .ok (.iload_n 2, 1) := by decide +kernel
theorem dX11_isPartOf_56 : decode cX11_isPartOf 56 = .ok (.bipush 100, 2) := by decide +kernel
theorem dX11_isPartOf_58 : decode cX11_isPartOf 58 = .ok (.isub, 1) := by decide +kernel
theorem dX11_isPartOf_59 : decode cX11_isPartOf 59 = .ok (.if_icmp .ne 7, 3) := by decide +kernel
theorem dX11_isPartOf_62 : decode cX11_isPartOf 62 = .ok (.iconst 1, 1) := by decide +kernel
theorem dX11_isPartOf_63 : decode cX11_isPartOf 63 = .ok (.goto 15, 3) := by decide +kernel
theorem dX11_isPartOf_66 : decode cX11_isPartOf 66 = .ok (.iconst 0, 1) := by decide +kernel
theorem dX11_isPartOf_67 : decode cX11_isPartOf 67 = .ok (.goto 11, 3) := by decide +kernel
theorem dX11_isPartOf_70 : decode cX11_isPartOf 70 = .ok (.aload_n 0, 1) := by decide +kernel
theorem dX11_isPartOf_71 : decode cX11_isPartOf 71 = .ok (.iload_n 1, 1) := by decide +kernel
theorem dX11_isPartOf_72 : decode cX11_isPartOf 72 = .ok (.iload_n 2, 1) := by decide +kernel
theorem dX11_isPartOf_73 : decode cX11_isPartOf 73 = .ok (.iconst 0, 1) := by decide +kernel
theorem dX11_isPartOf_74 : decode cX11_isPartOf 74 = .ok (.isub, 1) := by decide +kernel
theorem dX11_isPartOf_75 : decode cX11_isPartOf 75 = .ok (.invokevirtual 257, 3) := by decide +kernel
theorem dX11_isPartOf_78 : decode cX11_isPartOf 78 = .ok (.ireturn, 1) := by decide +kernel
theorem dX11_repairs_0 : decode cX11_repairs 0 = .ok (.iconst 0, 1) := by decide +kernel
theorem dX11_repairs_1 : decode cX11_repairs 1 = .ok (.istore_n 1, 1) := by decide +kernel
theorem dX11_repairs_2 : decode cX11_repairs 2 = .ok (.aload_n 0, 1) := by decide +kernel
theorem dX11_repairs_3 : decode cX11_repairs 3 = .ok (.invokevirtual 247, 3) := by decide +kernel
theorem dX11_repairs_6 : decode cX11_repairs 6 = .ok (.istore_n 2, 1) := by decide +kernel
theorem dX11_repairs_7 : decode cX11_repairs 7 = .ok (.iload_n 2, 1) := by decide +kernel
theorem dX11_repairs_8 : decode cX11_repairs 8 = .ok (.ifCond .lt 89, 3) := by decide +kernel
theorem dX11_repairs_11 : decode cX11_repairs 11 = .ok (.bipush (-2), 2) := by decide +kernel
theorem dX11_repairs_13 : decode cX11_repairs 13 = .ok (.istore_n 3, 1) := by decide +kernel
theorem dX11_repairs_14 : decode cX11_repairs 14 = .ok (.iconst 0, 1) := by decide +kernel
theorem dX11_repairs_15 : decode cX11_repairs 15 = .ok (.istore 4, 2) := by decide +kernel
theorem dX11_repairs_17 : decode cX11_repairs 17 = .ok (.iload 4, 2) := by decide +kernel
theorem dX11_repairs_19 : decode cX11_repairs 19 = .ok (.aload_n 0, 1) := by decide +kernel
theorem dX11_repairs_20 : decode cX11_repairs 20 = .ok (.getfield 24, 3) := by decide +kernel
theorem dX11_repairs_23 : decode cX11_repairs 23 = .ok (.bipush 96, 2) := by decide +kernel
theorem dX11_repairs_25 : decode cX11_repairs 25 = .ok (.iaload, 1) := by decide +kernel
theorem dX11_repairs_26 : decode cX11_repairs 26 = .ok (.if_icmp .ge 42, 3) := by decide +kernel
theorem dX11_repairs_29 : decode cX11_repairs 29 = .ok (.aload_n 0, 1) := by decide +kernel
theorem dX11_repairs_30 : decode cX11_repairs 30 = .ok (.iload 4, 2) := by decide +kernel
theorem dX11_repairs_32 : decode cX11_repairs 32 = .ok (.iload_n 2, 1) := by decide +kernel
theorem dX11_repairs_33 : decode cX11_repairs 33 = .ok (.invokevirtual 260, 3) := by decide +kernel
theorem dX11_repairs_36 : decode cX11_repairs 36 = .ok (.ifCond .eq 26, 3) := by decide +kernel
theorem dX11_repairs_39 : decode cX11_repairs 39 = .ok (.iload_n 3, 1) := by decide +kernel
theorem dX11_repairs_40 : decode cX11_repairs 40 = .ok (.ifCond .lt 19, 3) := by decide +kernel
theorem dX11_repairs_43 : decode cX11_repairs 43 = .ok (.aload_n 0, 1) := by decide +kernel
theorem dX11_repairs_44 : decode cX11_repairs 44 = .ok (.iload 4, 2) := by decide +kernel
theorem dX11_repairs_46 : decode cX11_repairs 46 = .ok (.iconst 3, 1) := by decide +kernel
theorem dX11_repairs_47 : decode cX11_repairs 47 = .ok (.invokevirtual 176, 3) := by decide +kernel
theorem dX11_repairs_50 : decode cX11_repairs 50 = .ok (.aload_n 0, 1) := by decide +kernel
theorem dX11_repairs_51 : decode cX11_repairs 51 = .ok (.iload_n 3, 1) := by decide +kernel
theorem dX11_repairs_52 : decode cX11_repairs 52 = .ok (.iconst 3, 1) := by decide +kernel
theorem dX11_repairs_53 : decode cX11_repairs 53 = .ok (.invokevirtual 176, 3) := by decide +kernel
theorem dX11_repairs_56 : decode cX11_repairs 56 = .ok (.if_icmp .lt 6, 3) := by decide +kernel
theorem dX11_repairs_59 : decode cX11_repairs 59 = .ok (.iload 4, 2) := by decide +kernel
theorem dX11_repairs_61 : decode cX11_repairs 61 = .ok (.istore_n 3, 1) := by decide +kernel
theorem dX11_repairs_62 : decode cX11_repairs 62 = .ok (.iinc 4 1, 3) := by decide +kernel
theorem dX11_repairs_65 : decode cX11_repairs 65 = .ok (.goto (-48), 3) := by decide +kernel
theorem dX11_repairs_68 : decode cX11_repairs 68 = .ok (.aload_n 0, 1) := by decide +kernel
theorem dX11_repairs_69 : decode cX11_repairs 69 = .ok (.iload_n 3, 1) := by decide +kernel
theorem dX11_repairs_70 : decode cX11_repairs 70 = .ok (.iconst 3, 1) := by decide +kernel
theorem dX11_repairs_71 : decode cX11_repairs 71 = .ok (.aload_n 0, 1) := by decide +kernel
theorem dX11_repairs_72 : decode cX11_repairs 72 = .ok (.iload_n 3, 1) := by decide +kernel
theorem dX11_repairs_73 : decode cX11_repairs 73 = .ok (.iconst 3, 1) := by decide +kernel
theorem dX11_repairs_74 : decode cX11_repairs 74 = .ok (.invokevirtual 176, 3) := by decide +kernel
theorem dX11_repairs_77 : decode cX11_repairs 77 = .ok (.iconst 1, 1) := by decide +kernel
theorem dX11_repairs_78 : decode cX11_repairs 78 = .ok (.isub, 1) := by decide +kernel
theorem dX11_repairs_79 : decode cX11_repairs 79 = .ok (.invokevirtual 244, 3) := by decide +kernel
theorem dX11_repairs_82 : decode cX11_repairs 82 = .ok (.aload_n 0, 1) := by decide +kernel
theorem dX11_repairs_83 : decode cX11_repairs 83 = .ok (.invokevirtual 263, 3) := by decide +kernel
theorem dX11_repairs_86 : decode cX11_repairs 86 = .ok (.iinc 1 1, 3) := by decide +kernel
theorem dX11_repairs_89 : decode cX11_repairs 89 = .ok (.aload_n 0, 1) := by decide +kernel
theorem dX11_repairs_90 : decode cX11_repairs 90 = .ok (.invokevirtual 247, 3) := by decide +kernel
theorem dX11_repairs_93 : decode cX11_repairs 93 = .ok (.istore_n 2, 1) := by decide +kernel
theorem dX11_repairs_94 : decode cX11_repairs 94 = .ok (.goto (-87), 3) := by decide +kernel
theorem dX11_repairs_97 : decode cX11_repairs 97 = .ok (.iload_n 1, 1) := by decide +kernel
theorem dX11_repairs_98 : decode cX11_repairs 98 = .ok (.ireturn, 1) := by decide +kernel
theorem dX11_levels_0 : decode cX11_levels 0 = .ok (.iconst 0, 1) := by decide +kernel
theorem dX11_levels_1 : decode cX11_levels 1 = .ok (.istore_n 1, 1) := by decide +kernel
theorem dX11_levels_2 : decode cX11_levels 2 = .ok (.iconst 0, 1) := by decide +kernel
theorem dX11_levels_3 : decode cX11_levels 3 = .ok (.istore_n 2, 1) := by decide +kernel
theorem dX11_levels_4 : decode cX11_levels 4 = .ok (.iload_n 2, 1) := by decide +kernel
theorem dX11_levels_5 : decode cX11_levels 5 = .ok (.aload_n 0, 1) := by decide +kernel
theorem dX11_levels_6 : decode cX11_levels 6 = .ok (.getfield 24, 3) := by decide +kernel
theorem dX11_levels_9 : decode cX11_levels 9 = .ok (.bipush 96, 2) := by decide +kernel
theorem dX11_levels_11 : decode cX11_levels 11 = .ok (.iaload, 1) := by decide +kernel
theorem dX11_levels_12 : decode cX11_levels 12 = .ok (.if_icmp .ge 18, 3) := by decide +kernel
theorem dX11_levels_15 : decode cX11_levels 15 = .ok (.iload_n 1, 1) := by decide +kernel
theorem dX11_levels_16 : decode cX11_levels 16 = .ok (.aload_n 0, 1) := by decide +kernel
theorem dX11_levels_17 : decode cX11_levels 17 = .ok (.iload_n 2, 1) := by decide +kernel
theorem dX11_levels_18 : decode cX11_levels 18 = .ok (.iconst 3, 1) := by decide +kernel
theorem dX11_levels_19 : decode cX11_levels 19 = .ok (.invokevirtual 176, 3) := by decide +kernel
theorem dX11_levels_22 : decode cX11_levels 22 = .ok (.iadd, 1) := by decide +kernel
theorem dX11_levels_23 : decode cX11_levels 23 = .ok (.istore_n 1, 1) := by decide +kernel
theorem dX11_levels_24 : decode cX11_levels 24 = .ok (.iinc 2 1, 3) := by decide +kernel
theorem dX11_levels_27 : decode cX11_levels 27 = .ok (.goto (-23), 3) := by decide +kernel
theorem dX11_levels_30 : decode cX11_levels 30 = .ok (.iload_n 1, 1) := by decide +kernel
theorem dX11_levels_31 : decode cX11_levels 31 = .ok (.ireturn, 1) := by decide +kernel
theorem dX11_keeps_0 : decode cX11_keeps 0 = .ok (.aload_n 0, 1) := by decide +kernel
theorem dX11_keeps_1 : decode cX11_keeps 1 = .ok (.getfield 173, 3) := by decide +kernel
theorem dX11_keeps_4 : decode cX11_keeps 4 = .ok (.bipush 10, 2) := by decide +kernel
theorem dX11_keeps_6 : decode cX11_keeps 6 = .ok (.if_icmp .ne 46, 3) := by decide +kernel
theorem dX11_keeps_9 : decode cX11_keeps 9 = .ok (.sipush 202, 3) := by decide +kernel
theorem dX11_keeps_12 : decode cX11_keeps 12 = .ok (.istore_n 1, 1) := by decide +kernel
theorem dX11_keeps_13 : decode cX11_keeps 13 = .ok (.iload_n 1, 1) := by decide +kernel
theorem dX11_keeps_14 : decode cX11_keeps 14 = .ok (.sipush 2020, 3) := by decide +kernel
theorem dX11_keeps_17 : decode cX11_keeps 17 = .ok (.if_icmp .ge 25, 3) := by decide +kernel
theorem dX11_keeps_20 : decode cX11_keeps 20 = .ok (.aload_n 0, 1) := by decide +kernel
theorem dX11_keeps_21 : decode cX11_keeps 21 = .ok (.getfield 30, 3) := by decide +kernel
theorem dX11_keeps_24 : decode cX11_keeps 24 = .ok (.iload_n 1, 1) := by decide +kernel
theorem dX11_keeps_25 : decode cX11_keeps 25 = .ok (.sipush 202, 3) := by decide +kernel
theorem dX11_keeps_28 : decode cX11_keeps 28 = .ok (.isub, 1) := by decide +kernel
theorem dX11_keeps_29 : decode cX11_keeps 29 = .ok (.aload_n 0, 1) := by decide +kernel
theorem dX11_keeps_30 : decode cX11_keeps 30 = .ok (.getfield 30, 3) := by decide +kernel
theorem dX11_keeps_33 : decode cX11_keeps 33 = .ok (.iload_n 1, 1) := by decide +kernel
theorem dX11_keeps_34 : decode cX11_keeps 34 = .ok (.iaload, 1) := by decide +kernel
theorem dX11_keeps_35 : decode cX11_keeps 35 = .ok (.iastore, 1) := by decide +kernel
theorem dX11_keeps_36 : decode cX11_keeps 36 = .ok (.iinc 1 1, 3) := by decide +kernel
theorem dX11_keeps_39 : decode cX11_keeps 39 = .ok (.goto (-26), 3) := by decide +kernel
theorem dX11_keeps_42 : decode cX11_keeps 42 = .ok (.aload_n 0, 1) := by decide +kernel
theorem dX11_keeps_43 : decode cX11_keeps 43 = .ok (.dup, 1) := by decide +kernel
theorem dX11_keeps_44 : decode cX11_keeps 44 = .ok (.getfield 173, 3) := by decide +kernel
theorem dX11_keeps_47 : decode cX11_keeps 47 = .ok (.iconst 1, 1) := by decide +kernel
theorem dX11_keeps_48 : decode cX11_keeps 48 = .ok (.isub, 1) := by decide +kernel
theorem dX11_keeps_49 : decode cX11_keeps 49 = .ok (.putfield 173, 3) := by decide +kernel
theorem dX11_keeps_52 : decode cX11_keeps 52 = .ok (.iconst 0, 1) := by decide +kernel
theorem dX11_keeps_53 : decode cX11_keeps 53 = .ok (.istore_n 1, 1) := by decide +kernel
theorem dX11_keeps_54 : decode cX11_keeps 54 = .ok (.iload_n 1, 1) := by decide +kernel
theorem dX11_keeps_55 : decode cX11_keeps 55 = .ok (.sipush 202, 3) := by decide +kernel
theorem dX11_keeps_58 : decode cX11_keeps 58 = .ok (.if_icmp .ge 30, 3) := by decide +kernel
theorem dX11_keeps_61 : decode cX11_keeps 61 = .ok (.aload_n 0, 1) := by decide +kernel
theorem dX11_keeps_62 : decode cX11_keeps 62 = .ok (.getfield 30, 3) := by decide +kernel
theorem dX11_keeps_65 : decode cX11_keeps 65 = .ok (.sipush 202, 3) := by decide +kernel
theorem dX11_keeps_68 : decode cX11_keeps 68 = .ok (.aload_n 0, 1) := by decide +kernel
theorem dX11_keeps_69 : decode cX11_keeps 69 = .ok (.getfield 173, 3) := by decide +kernel
theorem dX11_keeps_72 : decode cX11_keeps 72 = .ok (.imul, 1) := by decide +kernel
theorem dX11_keeps_73 : decode cX11_keeps 73 = .ok (.iload_n 1, 1) := by decide +kernel
theorem dX11_keeps_74 : decode cX11_keeps 74 = .ok (.iadd, 1) := by decide +kernel
theorem dX11_keeps_75 : decode cX11_keeps 75 = .ok (.aload_n 0, 1) := by decide +kernel
theorem dX11_keeps_76 : decode cX11_keeps 76 = .ok (.getfield 24, 3) := by decide +kernel
theorem dX11_keeps_79 : decode cX11_keeps 79 = .ok (.iload_n 1, 1) := by decide +kernel
theorem dX11_keeps_80 : decode cX11_keeps 80 = .ok (.iaload, 1) := by decide +kernel
theorem dX11_keeps_81 : decode cX11_keeps 81 = .ok (.iastore, 1) := by decide +kernel
theorem dX11_keeps_82 : decode cX11_keeps 82 = .ok (.iinc 1 1, 3) := by decide +kernel
theorem dX11_keeps_85 : decode cX11_keeps 85 = .ok (.goto (-31), 3) := by decide +kernel
theorem dX11_keeps_88 : decode cX11_keeps 88 = .ok (.aload_n 0, 1) := by decide +kernel
theorem dX11_keeps_89 : decode cX11_keeps 89 = .ok (.dup, 1) := by decide +kernel
theorem dX11_keeps_90 : decode cX11_keeps 90 = .ok (.getfield 173, 3) := by decide +kernel
theorem dX11_keeps_93 : decode cX11_keeps 93 = .ok (.iconst 1, 1) := by decide +kernel
theorem dX11_keeps_94 : decode cX11_keeps 94 = .ok (.iadd, 1) := by decide +kernel
theorem dX11_keeps_95 : decode cX11_keeps 95 = .ok (.putfield 173, 3) := by decide +kernel
theorem dX11_keeps_98 : decode cX11_keeps 98 = .ok (.return_, 1) := by decide +kernel
theorem dX11_undo_0 : decode cX11_undo 0 = .ok (.aload_n 0, 1) := by decide +kernel
theorem dX11_undo_1 : decode cX11_undo 1 = .ok (.getfield 173, 3) := by decide +kernel
theorem dX11_undo_4 : decode cX11_undo 4 = .ok (.ifCond .ne 5, 3) := by decide +kernel
theorem dX11_undo_7 : decode cX11_undo 7 = .ok (.iconst (-1), 1) := by decide +kernel
theorem dX11_undo_8 : decode cX11_undo 8 = .ok (.ireturn, 1) := by decide +kernel
theorem dX11_undo_9 : decode cX11_undo 9 = .ok (.aload_n 0, 1) := by decide +kernel
theorem dX11_undo_10 : decode cX11_undo 10 = .ok (.dup, 1) := by decide +kernel
theorem dX11_undo_11 : decode cX11_undo 11 = .ok (.getfield 173, 3) := by decide +kernel
theorem dX11_undo_14 : decode cX11_undo 14 = .ok (.iconst 1, 1) := by decide +kernel
theorem dX11_undo_15 : decode cX11_undo 15 = .ok (.isub, 1) := by decide +kernel
theorem dX11_undo_16 : decode cX11_undo 16 = .ok (.putfield 173, 3) := by decide +kernel
theorem dX11_undo_19 : decode cX11_undo 19 = .ok (.iconst 0, 1) := by decide +kernel
theorem dX11_undo_20 : decode cX11_undo 20 = .ok (.istore_n 1, 1) := by decide +kernel
theorem dX11_undo_21 : decode cX11_undo 21 = .ok (.iload_n 1, 1) := by decide +kernel
theorem dX11_undo_22 : decode cX11_undo 22 = .ok (.sipush 202, 3) := by decide +kernel
theorem dX11_undo_25 : decode cX11_undo 25 = .ok (.if_icmp .ge 30, 3) := by decide +kernel
theorem dX11_undo_28 : decode cX11_undo 28 = .ok (.aload_n 0, 1) := by decide +kernel
theorem dX11_undo_29 : decode cX11_undo 29 = .ok (.getfield 24, 3) := by decide +kernel
theorem dX11_undo_32 : decode cX11_undo 32 = .ok (.iload_n 1, 1) := by decide +kernel
theorem dX11_undo_33 : decode cX11_undo 33 = .ok (.aload_n 0, 1) := by decide +kernel
theorem dX11_undo_34 : decode cX11_undo 34 = .ok (.getfield 30, 3) := by decide +kernel
theorem dX11_undo_37 : decode cX11_undo 37 = .ok (.sipush 202, 3) := by decide +kernel
theorem dX11_undo_40 : decode cX11_undo 40 = .ok (.aload_n 0, 1) := by decide +kernel
theorem dX11_undo_41 : decode cX11_undo 41 = .ok (.getfield 173, 3) := by decide +kernel
theorem dX11_undo_44 : decode cX11_undo 44 = .ok (.imul, 1) := by decide +kernel
theorem dX11_undo_45 : decode cX11_undo 45 = .ok (.iload_n 1, 1) := by decide +kernel
theorem dX11_undo_46 : decode cX11_undo 46 = .ok (.iadd, 1) := by decide +kernel
theorem dX11_undo_47 : decode cX11_undo 47 = .ok (.iaload, 1) := by decide +kernel
theorem dX11_undo_48 : decode cX11_undo 48 = .ok (.iastore, 1) := by decide +kernel
theorem dX11_undo_49 : decode cX11_undo 49 = .ok (.iinc 1 1, 3) := by decide +kernel
theorem dX11_undo_52 : decode cX11_undo 52 = .ok (.goto (-31), 3) := by decide +kernel
theorem dX11_undo_55 : decode cX11_undo 55 = .ok (.aload_n 0, 1) := by decide +kernel
theorem dX11_undo_56 : decode cX11_undo 56 = .ok (.getfield 173, 3) := by decide +kernel
theorem dX11_undo_59 : decode cX11_undo 59 = .ok (.ireturn, 1) := by decide +kernel
theorem dX11_laysAside_0 : decode cX11_laysAside 0 = .ok (.iconst 0, 1) := by decide +kernel
theorem dX11_laysAside_1 : decode cX11_laysAside 1 = .ok (.istore_n 1, 1) := by decide +kernel
theorem dX11_laysAside_2 : decode cX11_laysAside 2 = .ok (.iload_n 1, 1) := by decide +kernel
theorem dX11_laysAside_3 : decode cX11_laysAside 3 = .ok (.sipush 202, 3) := by decide +kernel
theorem dX11_laysAside_6 : decode cX11_laysAside 6 = .ok (.if_icmp .ge 21, 3) := by decide +kernel
theorem dX11_laysAside_9 : decode cX11_laysAside 9 = .ok (.aload_n 0, 1) := by decide +kernel
theorem dX11_laysAside_10 : decode cX11_laysAside 10 = .ok (.getfield 27, 3) := by decide +kernel
theorem dX11_laysAside_13 : decode cX11_laysAside 13 = .ok (.iload_n 1, 1) := by decide +kernel
theorem dX11_laysAside_14 : decode cX11_laysAside 14 = .ok (.aload_n 0, 1) := by decide +kernel
theorem dX11_laysAside_15 : decode cX11_laysAside 15 = .ok (.getfield 24, 3) := by decide +kernel
theorem dX11_laysAside_18 : decode cX11_laysAside 18 = .ok (.iload_n 1, 1) := by decide +kernel
theorem dX11_laysAside_19 : decode cX11_laysAside 19 = .ok (.iaload, 1) := by decide +kernel
theorem dX11_laysAside_20 : decode cX11_laysAside 20 = .ok (.iastore, 1) := by decide +kernel
theorem dX11_laysAside_21 : decode cX11_laysAside 21 = .ok (.iinc 1 1, 3) := by decide +kernel
theorem dX11_laysAside_24 : decode cX11_laysAside 24 = .ok (.goto (-22), 3) := by decide +kernel
theorem dX11_laysAside_27 : decode cX11_laysAside 27 = .ok (.return_, 1) := by decide +kernel
theorem dX11_comesBack_0 : decode cX11_comesBack 0 = .ok (.iconst 0, 1) := by decide +kernel
theorem dX11_comesBack_1 : decode cX11_comesBack 1 = .ok (.istore_n 1, 1) := by decide +kernel
theorem dX11_comesBack_2 : decode cX11_comesBack 2 = .ok (.iload_n 1, 1) := by decide +kernel
theorem dX11_comesBack_3 : decode cX11_comesBack 3 = .ok (.sipush 202, 3) := by decide +kernel
theorem dX11_comesBack_6 : decode cX11_comesBack 6 = .ok (.if_icmp .ge 21, 3) := by decide +kernel
theorem dX11_comesBack_9 : decode cX11_comesBack 9 = .ok (.aload_n 0, 1) := by decide +kernel
theorem dX11_comesBack_10 : decode cX11_comesBack 10 = .ok (.getfield 24, 3) := by decide +kernel
theorem dX11_comesBack_13 : decode cX11_comesBack 13 = .ok (.iload_n 1, 1) := by decide +kernel
theorem dX11_comesBack_14 : decode cX11_comesBack 14 = .ok (.aload_n 0, 1) := by decide +kernel
theorem dX11_comesBack_15 : decode cX11_comesBack 15 = .ok (.getfield 27, 3) := by decide +kernel
theorem dX11_comesBack_18 : decode cX11_comesBack 18 = .ok (.iload_n 1, 1) := by decide +kernel
theorem dX11_comesBack_19 : decode cX11_comesBack 19 = .ok (.iaload, 1) := by decide +kernel
theorem dX11_comesBack_20 : decode cX11_comesBack 20 = .ok (.iastore, 1) := by decide +kernel
theorem dX11_comesBack_21 : decode cX11_comesBack 21 = .ok (.iinc 1 1, 3) := by decide +kernel
theorem dX11_comesBack_24 : decode cX11_comesBack 24 = .ok (.goto (-22), 3) := by decide +kernel
theorem dX11_comesBack_27 : decode cX11_comesBack 27 = .ok (.return_, 1) := by decide +kernel
theorem dX11_begins_0 : decode cX11_begins 0 = .ok (.aload_n 0, 1) := by decide +kernel
theorem dX11_begins_1 : decode cX11_begins 1 = .ok (.iload_n 1, 1) := by decide +kernel
theorem dX11_begins_2 : decode cX11_begins 2 = .ok (.iconst 0, 1) := by decide +kernel
theorem dX11_begins_3 : decode cX11_begins 3 = .ok (.iload_n 2, 1) := by decide +kernel
theorem dX11_begins_4 : decode cX11_begins 4 = .ok (.invokevirtual 244, 3) := by decide +kernel
theorem dX11_begins_7 : decode cX11_begins 7 = .ok (.aload_n 0, 1) := by decide +kernel
theorem dX11_begins_8 : decode cX11_begins 8 = .ok (.iload_n 1, 1) := by decide +kernel
theorem dX11_begins_9 : decode cX11_begins 9 = .ok (.iconst 1, 1) := by decide +kernel
theorem dX11_begins_10 : decode cX11_begins 10 = .ok (.iload_n 3, 1) := by decide +kernel
theorem dX11_begins_11 : decode cX11_begins 11 = .ok (.invokevirtual 244, 3) := by decide +kernel
theorem dX11_begins_14 : decode cX11_begins 14 = .ok (.aload_n 0, 1) := by decide +kernel
theorem dX11_begins_15 : decode cX11_begins 15 = .ok (.iload_n 1, 1) := by decide +kernel
theorem dX11_begins_16 : decode cX11_begins 16 = .ok (.iconst 2, 1) := by decide +kernel
theorem dX11_begins_17 : decode cX11_begins 17 = .ok (.iload 4, 2) := by decide +kernel
theorem dX11_begins_19 : decode cX11_begins 19 = .ok (.invokevirtual 244, 3) := by decide +kernel
theorem dX11_begins_22 : decode cX11_begins 22 = .ok (.aload_n 0, 1) := by decide +kernel
theorem dX11_begins_23 : decode cX11_begins 23 = .ok (.iload_n 1, 1) := by decide +kernel
theorem dX11_begins_24 : decode cX11_begins 24 = .ok (.iconst 3, 1) := by decide +kernel
theorem dX11_begins_25 : decode cX11_begins 25 = .ok (.iconst 0, 1) := by decide +kernel
theorem dX11_begins_26 : decode cX11_begins 26 = .ok (.invokevirtual 244, 3) := by decide +kernel
theorem dX11_begins_29 : decode cX11_begins 29 = .ok (.aload_n 0, 1) := by decide +kernel
theorem dX11_begins_30 : decode cX11_begins 30 = .ok (.iload_n 1, 1) := by decide +kernel
theorem dX11_begins_31 : decode cX11_begins 31 = .ok (.iconst 4, 1) := by decide +kernel
theorem dX11_begins_32 : decode cX11_begins 32 = .ok (.iconst 0, 1) := by decide +kernel
theorem dX11_begins_33 : decode cX11_begins 33 = .ok (.invokevirtual 244, 3) := by decide +kernel
theorem dX11_begins_36 : decode cX11_begins 36 = .ok (.return_, 1) := by decide +kernel
theorem dX11_addReceiver_0 : decode cX11_addReceiver 0 = .ok (.aload_n 0, 1) := by decide +kernel
theorem dX11_addReceiver_1 : decode cX11_addReceiver 1 = .ok (.iload_n 1, 1) := by decide +kernel
theorem dX11_addReceiver_2 : decode cX11_addReceiver 2 = .ok (.invokevirtual 266, 3) := by decide +kernel
theorem dX11_addReceiver_5 : decode cX11_addReceiver 5 = .ok (.ifCond .eq 19, 3) := by decide +kernel
theorem dX11_addReceiver_8 : decode cX11_addReceiver 8 = .ok (.aload_n 0, 1) := by decide +kernel
theorem dX11_addReceiver_9 : decode cX11_addReceiver 9 = .ok (.iload_n 2, 1) := by decide +kernel
theorem dX11_addReceiver_10 : decode cX11_addReceiver 10 = .ok (.invokevirtual 269, 3) := by decide +kernel
theorem dX11_addReceiver_13 : decode cX11_addReceiver 13 = .ok (.ifCond .eq 11, 3) := by decide +kernel
theorem dX11_addReceiver_16 : decode cX11_addReceiver 16 = .ok (.aload_n 0, 1) := by decide +kernel
theorem dX11_addReceiver_17 : decode cX11_addReceiver 17 = .ok (.iload_n 3, 1) := by decide +kernel
theorem dX11_addReceiver_18 : decode cX11_addReceiver 18 = .ok (.invokevirtual 272, 3) := by decide +kernel
theorem dX11_addReceiver_21 : decode cX11_addReceiver 21 = .ok (.ifCond .ne 5, 3) := by decide +kernel
theorem dX11_addReceiver_24 : decode cX11_addReceiver 24 = .ok (.iconst (-1), 1) := by decide +kernel
theorem dX11_addReceiver_25 : decode cX11_addReceiver 25 = .ok (.ireturn, 1) := by decide +kernel
theorem dX11_addReceiver_26 : decode cX11_addReceiver 26 = .ok (.aload_n 0, 1) := by decide +kernel
theorem dX11_addReceiver_27 : decode cX11_addReceiver 27 = .ok (.getfield 24, 3) := by decide +kernel
theorem dX11_addReceiver_30 : decode cX11_addReceiver 30 = .ok (.bipush 96, 2) := by decide +kernel
theorem dX11_addReceiver_32 : decode cX11_addReceiver 32 = .ok (.iaload, 1) := by decide +kernel
theorem dX11_addReceiver_33 : decode cX11_addReceiver 33 = .ok (.bipush 20, 2) := by decide +kernel
theorem dX11_addReceiver_35 : decode cX11_addReceiver 35 = .ok (.if_icmp .ne 6, 3) := by decide +kernel
theorem dX11_addReceiver_38 : decode cX11_addReceiver 38 = .ok (.bipush (-2), 2) := by decide +kernel
theorem dX11_addReceiver_40 : decode cX11_addReceiver 40 = .ok (.ireturn, 1) := by decide +kernel
theorem dX11_addReceiver_41 : decode cX11_addReceiver 41 = .ok (.aload_n 0, 1) := by decide +kernel
theorem dX11_addReceiver_42 : decode cX11_addReceiver 42 = .ok (.invokevirtual 275, 3) := by decide +kernel
theorem dX11_addReceiver_45 : decode cX11_addReceiver 45 = .ok (.aload_n 0, 1) := by decide +kernel
theorem dX11_addReceiver_46 : decode cX11_addReceiver 46 = .ok (.getfield 24, 3) := by decide +kernel
theorem dX11_addReceiver_49 : decode cX11_addReceiver 49 = .ok (.bipush 96, 2) := by decide +kernel
theorem dX11_addReceiver_51 : decode cX11_addReceiver 51 = .ok (.iaload, 1) := by decide +kernel
theorem dX11_addReceiver_52 : decode cX11_addReceiver 52 = .ok (.istore 4, 2) := by decide +kernel
theorem dX11_addReceiver_54 : decode cX11_addReceiver 54 = .ok (.aload_n 0, 1) := by decide +kernel
theorem dX11_addReceiver_55 : decode cX11_addReceiver 55 = .ok (.iload 4, 2) := by decide +kernel
theorem dX11_addReceiver_57 : decode cX11_addReceiver 57 = .ok (.iload_n 1, 1) := by decide +kernel
theorem dX11_addReceiver_58 : decode cX11_addReceiver 58 = .ok (.iload_n 2, 1) := by decide +kernel
theorem dX11_addReceiver_59 : decode cX11_addReceiver 59 = .ok (.iload_n 3, 1) := by decide +kernel
theorem dX11_addReceiver_60 : decode cX11_addReceiver 60 = .ok (.invokevirtual 278, 3) := by decide +kernel
theorem dX11_addReceiver_63 : decode cX11_addReceiver 63 = .ok (.aload_n 0, 1) := by decide +kernel
theorem dX11_addReceiver_64 : decode cX11_addReceiver 64 = .ok (.getfield 24, 3) := by decide +kernel
theorem dX11_addReceiver_67 : decode cX11_addReceiver 67 = .ok (.bipush 96, 2) := by decide +kernel
theorem dX11_addReceiver_69 : decode cX11_addReceiver 69 = .ok (.dup2, 1) := by decide +kernel
theorem dX11_addReceiver_70 : decode cX11_addReceiver 70 = .ok (.iaload, 1) := by decide +kernel
theorem dX11_addReceiver_71 : decode cX11_addReceiver 71 = .ok (.iconst 1, 1) := by decide +kernel
theorem dX11_addReceiver_72 : decode cX11_addReceiver 72 = .ok (.iadd, 1) := by decide +kernel
theorem dX11_addReceiver_73 : decode cX11_addReceiver 73 = .ok (.iastore, 1) := by decide +kernel
theorem dX11_addReceiver_74 : decode cX11_addReceiver 74 = .ok (.aload_n 0, 1) := by decide +kernel
theorem dX11_addReceiver_75 : decode cX11_addReceiver 75 = .ok (.iload 4, 2) := by decide +kernel
theorem dX11_addReceiver_77 : decode cX11_addReceiver 77 = .ok (.invokevirtual 282, 3) := by decide +kernel
theorem dX11_addReceiver_80 : decode cX11_addReceiver 80 = .ok (.iload 4, 2) := by decide +kernel
theorem dX11_addReceiver_82 : decode cX11_addReceiver 82 = .ok (.ireturn, 1) := by decide +kernel
theorem dX11_leave_0 : decode cX11_leave 0 = .ok (.aload_n 0, 1) := by decide +kernel
theorem dX11_leave_1 : decode cX11_leave 1 = .ok (.iload_n 1, 1) := by decide +kernel
theorem dX11_leave_2 : decode cX11_leave 2 = .ok (.invokevirtual 285, 3) := by decide +kernel
theorem dX11_leave_5 : decode cX11_leave 5 = .ok (.ifCond .ne 5, 3) := by decide +kernel
theorem dX11_leave_8 : decode cX11_leave 8 = .ok (.iconst (-1), 1) := by decide +kernel
theorem dX11_leave_9 : decode cX11_leave 9 = .ok (.ireturn, 1) := by decide +kernel
theorem dX11_leave_10 : decode cX11_leave 10 = .ok (.aload_n 0, 1) := by decide +kernel
theorem dX11_leave_11 : decode cX11_leave 11 = .ok (.invokevirtual 275, 3) := by decide +kernel
theorem dX11_leave_14 : decode cX11_leave 14 = .ok (.aload_n 0, 1) := by decide +kernel
theorem dX11_leave_15 : decode cX11_leave 15 = .ok (.iload_n 1, 1) := by decide +kernel
theorem dX11_leave_16 : decode cX11_leave 16 = .ok (.iconst 3, 1) := by decide +kernel
theorem dX11_leave_17 : decode cX11_leave 17 = .ok (.invokevirtual 176, 3) := by decide +kernel
theorem dX11_leave_20 : decode cX11_leave 20 = .ok (.istore_n 2, 1) := by decide +kernel
theorem dX11_leave_21 : decode cX11_leave 21 = .ok (.aload_n 0, 1) := by decide +kernel
theorem dX11_leave_22 : decode cX11_leave 22 = .ok (.iload_n 1, 1) := by decide +kernel
theorem dX11_leave_23 : decode cX11_leave 23 = .ok (.iconst 3, 1) := by decide +kernel
theorem dX11_leave_24 : decode cX11_leave 24 = .ok (.iconst 0, 1) := by decide +kernel
theorem dX11_leave_25 : decode cX11_leave 25 = .ok (.invokevirtual 244, 3) := by decide +kernel
theorem dX11_leave_28 : decode cX11_leave 28 = .ok (.aload_n 0, 1) := by decide +kernel
theorem dX11_leave_29 : decode cX11_leave 29 = .ok (.iload_n 1, 1) := by decide +kernel
theorem dX11_leave_30 : decode cX11_leave 30 = .ok (.iconst 4, 1) := by decide +kernel
theorem dX11_leave_31 : decode cX11_leave 31 = .ok (.iconst 1, 1) := by decide +kernel
theorem dX11_leave_32 : decode cX11_leave 32 = .ok (.invokevirtual 244, 3) := by decide +kernel
theorem dX11_leave_35 : decode cX11_leave 35 = .ok (.aload_n 0, 1) := by decide +kernel
theorem dX11_leave_36 : decode cX11_leave 36 = .ok (.invokevirtual 263, 3) := by decide +kernel
theorem dX11_leave_39 : decode cX11_leave 39 = .ok (.iload_n 2, 1) := by decide +kernel
theorem dX11_leave_40 : decode cX11_leave 40 = .ok (.ireturn, 1) := by decide +kernel
theorem dX11_setWanted_0 : decode cX11_setWanted 0 = .ok (.aload_n 0, 1) := by decide +kernel
theorem dX11_setWanted_1 : decode cX11_setWanted 1 = .ok (.iload_n 1, 1) := by decide +kernel
theorem dX11_setWanted_2 : decode cX11_setWanted 2 = .ok (.invokevirtual 285, 3) := by decide +kernel
theorem dX11_setWanted_5 : decode cX11_setWanted 5 = .ok (.ifCond .eq 11, 3) := by decide +kernel
theorem dX11_setWanted_8 : decode cX11_setWanted 8 = .ok (.aload_n 0, 1) := by decide +kernel
theorem dX11_setWanted_9 : decode cX11_setWanted 9 = .ok (.iload_n 2, 1) := by decide +kernel
theorem dX11_setWanted_10 : decode cX11_setWanted 10 = .ok (.invokevirtual 272, 3) := by decide +kernel
theorem dX11_setWanted_13 : decode cX11_setWanted 13 = .ok (.ifCond .ne 5, 3) := by decide +kernel
theorem dX11_setWanted_16 : decode cX11_setWanted 16 = .ok (.iconst (-1), 1) := by decide +kernel
theorem dX11_setWanted_17 : decode cX11_setWanted 17 = .ok (.ireturn, 1) := by decide +kernel
theorem dX11_setWanted_18 : decode cX11_setWanted 18 = .ok (.aload_n 0, 1) := by decide +kernel
theorem dX11_setWanted_19 : decode cX11_setWanted 19 = .ok (.iload_n 1, 1) := by decide +kernel
theorem dX11_setWanted_20 : decode cX11_setWanted 20 = .ok (.iconst 2, 1) := by decide +kernel
theorem dX11_setWanted_21 : decode cX11_setWanted 21 = .ok (.invokevirtual 176, 3) := by decide +kernel
theorem dX11_setWanted_24 : decode cX11_setWanted 24 = .ok (.iload_n 2, 1) := by decide +kernel
theorem dX11_setWanted_25 : decode cX11_setWanted 25 = .ok (.if_icmp .ne 6, 3) := by decide +kernel
theorem dX11_setWanted_28 : decode cX11_setWanted 28 = .ok (.bipush (-2), 2) := by decide +kernel
theorem dX11_setWanted_30 : decode cX11_setWanted 30 = .ok (.ireturn, 1) := by decide +kernel
theorem dX11_setWanted_31 : decode cX11_setWanted 31 = .ok (.aload_n 0, 1) := by decide +kernel
theorem dX11_setWanted_32 : decode cX11_setWanted 32 = .ok (.invokevirtual 275, 3) := by decide +kernel
theorem dX11_setWanted_35 : decode cX11_setWanted 35 = .ok (.aload_n 0, 1) := by decide +kernel
theorem dX11_setWanted_36 : decode cX11_setWanted 36 = .ok (.iload_n 1, 1) := by decide +kernel
theorem dX11_setWanted_37 : decode cX11_setWanted 37 = .ok (.iconst 2, 1) := by decide +kernel
theorem dX11_setWanted_38 : decode cX11_setWanted 38 = .ok (.iload_n 2, 1) := by decide +kernel
theorem dX11_setWanted_39 : decode cX11_setWanted 39 = .ok (.invokevirtual 244, 3) := by decide +kernel
theorem dX11_setWanted_42 : decode cX11_setWanted 42 = .ok (.aload_n 0, 1) := by decide +kernel
theorem dX11_setWanted_43 : decode cX11_setWanted 43 = .ok (.iload_n 1, 1) := by decide +kernel
theorem dX11_setWanted_44 : decode cX11_setWanted 44 = .ok (.iconst 3, 1) := by decide +kernel
theorem dX11_setWanted_45 : decode cX11_setWanted 45 = .ok (.invokevirtual 176, 3) := by decide +kernel
theorem dX11_setWanted_48 : decode cX11_setWanted 48 = .ok (.iload_n 2, 1) := by decide +kernel
theorem dX11_setWanted_49 : decode cX11_setWanted 49 = .ok (.if_icmp .le 10, 3) := by decide +kernel
theorem dX11_setWanted_52 : decode cX11_setWanted 52 = .ok (.aload_n 0, 1) := by decide +kernel
theorem dX11_setWanted_53 : decode cX11_setWanted 53 = .ok (.iload_n 1, 1) := by decide +kernel
theorem dX11_setWanted_54 : decode cX11_setWanted 54 = .ok (.iconst 3, 1) := by decide +kernel
theorem dX11_setWanted_55 : decode cX11_setWanted 55 = .ok (.iload_n 2, 1) := by decide +kernel
theorem dX11_setWanted_56 : decode cX11_setWanted 56 = .ok (.invokevirtual 244, 3) := by decide +kernel
theorem dX11_setWanted_59 : decode cX11_setWanted 59 = .ok (.aload_n 0, 1) := by decide +kernel
theorem dX11_setWanted_60 : decode cX11_setWanted 60 = .ok (.iload_n 1, 1) := by decide +kernel
theorem dX11_setWanted_61 : decode cX11_setWanted 61 = .ok (.iconst 3, 1) := by decide +kernel
theorem dX11_setWanted_62 : decode cX11_setWanted 62 = .ok (.invokevirtual 176, 3) := by decide +kernel
theorem dX11_setWanted_65 : decode cX11_setWanted 65 = .ok (.ireturn, 1) := by decide +kernel
theorem dX11_raise_0 : decode cX11_raise 0 = .ok (.aload_n 0, 1) := by decide +kernel
theorem dX11_raise_1 : decode cX11_raise 1 = .ok (.iload_n 1, 1) := by decide +kernel
theorem dX11_raise_2 : decode cX11_raise 2 = .ok (.invokevirtual 285, 3) := by decide +kernel
theorem dX11_raise_5 : decode cX11_raise 5 = .ok (.ifCond .ne 5, 3) := by decide +kernel
theorem dX11_raise_8 : decode cX11_raise 8 = .ok (.iconst (-1), 1) := by decide +kernel
theorem dX11_raise_9 : decode cX11_raise 9 = .ok (.ireturn, 1) := by decide +kernel
theorem dX11_raise_10 : decode cX11_raise 10 = .ok (.aload_n 0, 1) := by decide +kernel
theorem dX11_raise_11 : decode cX11_raise 11 = .ok (.iload_n 1, 1) := by decide +kernel
theorem dX11_raise_12 : decode cX11_raise 12 = .ok (.iconst 3, 1) := by decide +kernel
theorem dX11_raise_13 : decode cX11_raise 13 = .ok (.invokevirtual 176, 3) := by decide +kernel
theorem dX11_raise_16 : decode cX11_raise 16 = .ok (.istore_n 2, 1) := by decide +kernel
theorem dX11_raise_17 : decode cX11_raise 17 = .ok (.iload_n 2, 1) := by decide +kernel
theorem dX11_raise_18 : decode cX11_raise 18 = .ok (.aload_n 0, 1) := by decide +kernel
theorem dX11_raise_19 : decode cX11_raise 19 = .ok (.iload_n 1, 1) := by decide +kernel
theorem dX11_raise_20 : decode cX11_raise 20 = .ok (.iconst 2, 1) := by decide +kernel
theorem dX11_raise_21 : decode cX11_raise 21 = .ok (.invokevirtual 176, 3) := by decide +kernel
theorem dX11_raise_24 : decode cX11_raise 24 = .ok (.if_icmp .ne 6, 3) := by decide +kernel
theorem dX11_raise_27 : decode cX11_raise 27 = .ok (.bipush (-2), 2) := by decide +kernel
theorem dX11_raise_29 : decode cX11_raise 29 = .ok (.ireturn, 1) := by decide +kernel
theorem dX11_raise_30 : decode cX11_raise 30 = .ok (.aload_n 0, 1) := by decide +kernel
theorem dX11_raise_31 : decode cX11_raise 31 = .ok (.invokevirtual 288, 3) := by decide +kernel
theorem dX11_raise_34 : decode cX11_raise 34 = .ok (.aload_n 0, 1) := by decide +kernel
theorem dX11_raise_35 : decode cX11_raise 35 = .ok (.iload_n 1, 1) := by decide +kernel
theorem dX11_raise_36 : decode cX11_raise 36 = .ok (.iload_n 2, 1) := by decide +kernel
theorem dX11_raise_37 : decode cX11_raise 37 = .ok (.iconst 1, 1) := by decide +kernel
theorem dX11_raise_38 : decode cX11_raise 38 = .ok (.iadd, 1) := by decide +kernel
theorem dX11_raise_39 : decode cX11_raise 39 = .ok (.invokevirtual 251, 3) := by decide +kernel
theorem dX11_raise_42 : decode cX11_raise 42 = .ok (.istore_n 3, 1) := by decide +kernel
theorem dX11_raise_43 : decode cX11_raise 43 = .ok (.aload_n 0, 1) := by decide +kernel
theorem dX11_raise_44 : decode cX11_raise 44 = .ok (.invokevirtual 291, 3) := by decide +kernel
theorem dX11_raise_47 : decode cX11_raise 47 = .ok (.iload_n 3, 1) := by decide +kernel
theorem dX11_raise_48 : decode cX11_raise 48 = .ok (.ifCond .ne 6, 3) := by decide +kernel
theorem dX11_raise_51 : decode cX11_raise 51 = .ok (.bipush (-2), 2) := by decide +kernel
theorem dX11_raise_53 : decode cX11_raise 53 = .ok (.ireturn, 1) := by decide +kernel
theorem dX11_raise_54 : decode cX11_raise 54 = .ok (.aload_n 0, 1) := by decide +kernel
theorem dX11_raise_55 : decode cX11_raise 55 = .ok (.invokevirtual 275, 3) := by decide +kernel
theorem dX11_raise_58 : decode cX11_raise 58 = .ok (.aload_n 0, 1) := by decide +kernel
theorem dX11_raise_59 : decode cX11_raise 59 = .ok (.iload_n 1, 1) := by decide +kernel
theorem dX11_raise_60 : decode cX11_raise 60 = .ok (.iload_n 2, 1) := by decide +kernel
theorem dX11_raise_61 : decode cX11_raise 61 = .ok (.iconst 1, 1) := by decide +kernel
theorem dX11_raise_62 : decode cX11_raise 62 = .ok (.iadd, 1) := by decide +kernel
theorem dX11_raise_63 : decode cX11_raise 63 = .ok (.invokevirtual 251, 3) := by decide +kernel
theorem dX11_raise_66 : decode cX11_raise 66 = .ok (.istore_n 3, 1) := by decide +kernel
theorem dX11_raise_67 : decode cX11_raise 67 = .ok (.iload_n 2, 1) := by decide +kernel
theorem dX11_raise_68 : decode cX11_raise 68 = .ok (.iconst 1, 1) := by decide +kernel
theorem dX11_raise_69 : decode cX11_raise 69 = .ok (.iadd, 1) := by decide +kernel
theorem dX11_raise_70 : decode cX11_raise 70 = .ok (.ireturn, 1) := by decide +kernel
theorem dX11_isOther_0 : decode cX11_isOther 0 = .ok (.iload_n 1, 1) := by decide +kernel
theorem dX11_isOther_1 : decode cX11_isOther 1 = .ok (.ifCond .le 15, 3) := by decide +kernel
theorem dX11_isOther_4 : decode cX11_isOther 4 = .ok (.aload_n 0, 1) := by decide +kernel
theorem dX11_isOther_5 : decode cX11_isOther 5 = .ok (.iload_n 1, 1) := by decide +kernel
theorem dX11_isOther_6 : decode cX11_isOther 6 = .ok (.invokevirtual 269, 3) := by decide +kernel
theorem dX11_isOther_9 : decode cX11_isOther 9 = .ok (.ifCond .eq 7, 3) := by decide +kernel
theorem dX11_isOther_12 : decode cX11_isOther 12 = .ok (.iconst 1, 1) := by decide +kernel
theorem dX11_isOther_13 : decode cX11_isOther 13 = .ok (.goto 4, 3) := by decide +kernel
theorem dX11_isOther_16 : decode cX11_isOther 16 = .ok (.iconst 0, 1) := by decide +kernel
theorem dX11_isOther_17 : decode cX11_isOther 17 = .ok (.ireturn, 1) := by decide +kernel
theorem dX11_canPlace_0 : decode cX11_canPlace 0 = .ok (.aload_n 0, 1) := by decide +kernel
theorem dX11_canPlace_1 : decode cX11_canPlace 1 = .ok (.iload_n 1, 1) := by decide +kernel
theorem dX11_canPlace_2 : decode cX11_canPlace 2 = .ok (.iload_n 2, 1) := by decide +kernel
theorem dX11_canPlace_3 : decode cX11_canPlace 3 = .ok (.invokevirtual 195, 3) := by decide +kernel
theorem dX11_canPlace_6 : decode cX11_canPlace 6 = .ok (.ifCond .eq 5, 3) := by decide +kernel
theorem dX11_canPlace_9 : decode cX11_canPlace 9 = .ok (.iconst 0, 1) := by decide +kernel
theorem dX11_canPlace_10 : decode cX11_canPlace 10 = .ok (.ireturn, 1) := by decide +kernel
theorem dX11_canPlace_11 : decode cX11_canPlace 11 = .ok (.aload_n 0, 1) := by decide +kernel
theorem dX11_canPlace_12 : decode cX11_canPlace 12 = .ok (.getfield 24, 3) := by decide +kernel
theorem dX11_canPlace_15 : decode cX11_canPlace 15 = .ok (.bipush 64, 2) := by decide +kernel
theorem dX11_canPlace_17 : decode cX11_canPlace 17 = .ok (.iload_n 1, 1) := by decide +kernel
theorem dX11_canPlace_18 : decode cX11_canPlace 18 = .ok (.iadd, 1) := by decide +kernel
theorem dX11_canPlace_19 : decode cX11_canPlace 19 = .ok (.dup2, 1) := by decide +kernel
theorem dX11_canPlace_20 : decode cX11_canPlace 20 = .ok (.iaload, 1) := by decide +kernel
theorem dX11_canPlace_21 : decode cX11_canPlace 21 = .ok (.iconst 1, 1) := by decide +kernel
theorem dX11_canPlace_22 : decode cX11_canPlace 22 = .ok (.iload_n 2, 1) := by decide +kernel
theorem dX11_canPlace_23 : decode cX11_canPlace 23 = .ok (.ishl, 1) := by decide +kernel
theorem dX11_canPlace_24 : decode cX11_canPlace 24 = .ok (.ior, 1) := by decide +kernel
theorem dX11_canPlace_25 : decode cX11_canPlace 25 = .ok (.iastore, 1) := by decide +kernel
theorem dX11_canPlace_26 : decode cX11_canPlace 26 = .ok (.aload_n 0, 1) := by decide +kernel
theorem dX11_canPlace_27 : decode cX11_canPlace 27 = .ok (.invokevirtual 247, 3) := by decide +kernel
theorem dX11_canPlace_30 : decode cX11_canPlace 30 = .ok (.ifCond .ge 7, 3) := by decide +kernel
theorem dX11_canPlace_33 : decode cX11_canPlace 33 = .ok (.iconst 1, 1) := by decide +kernel
theorem dX11_canPlace_34 : decode cX11_canPlace 34 = .ok (.goto 4, 3) := by decide +kernel
theorem dX11_canPlace_37 : decode cX11_canPlace 37 = .ok (.iconst 0, 1) := by decide +kernel
theorem dX11_canPlace_38 : decode cX11_canPlace 38 = .ok (.istore_n 3, 1) := by decide +kernel
theorem dX11_canPlace_39 : decode cX11_canPlace 39 = .ok (.aload_n 0, 1) := by decide +kernel
theorem dX11_canPlace_40 : decode cX11_canPlace 40 = .ok (.getfield 24, 3) := by decide +kernel
theorem dX11_canPlace_43 : decode cX11_canPlace 43 = .ok (.bipush 64, 2) := by decide +kernel
theorem dX11_canPlace_45 : decode cX11_canPlace 45 = .ok (.iload_n 1, 1) := by decide +kernel
theorem dX11_canPlace_46 : decode cX11_canPlace 46 = .ok (.iadd, 1) := by decide +kernel
theorem dX11_canPlace_47 : decode cX11_canPlace 47 = .ok (.dup2, 1) := by decide +kernel
theorem dX11_canPlace_48 : decode cX11_canPlace 48 = .ok (.iaload, 1) := by decide +kernel
theorem dX11_canPlace_49 : decode cX11_canPlace 49 = .ok (.iconst 1, 1) := by decide +kernel
theorem dX11_canPlace_50 : decode cX11_canPlace 50 = .ok (.iload_n 2, 1) := by decide +kernel
theorem dX11_canPlace_51 : decode cX11_canPlace 51 = .ok (.ishl, 1) := by decide +kernel
theorem dX11_canPlace_52 : decode cX11_canPlace 52 = .ok (.iconst (-1), 1) := by decide +kernel
theorem dX11_canPlace_53 : decode cX11_canPlace 53 = .ok (.ixor, 1) := by decide +kernel
theorem dX11_canPlace_54 : decode cX11_canPlace 54 = .ok (.iand, 1) := by decide +kernel
theorem dX11_canPlace_55 : decode cX11_canPlace 55 = .ok (.iastore, 1) := by decide +kernel
theorem dX11_canPlace_56 : decode cX11_canPlace 56 = .ok (.iload_n 3, 1) := by decide +kernel
theorem dX11_canPlace_57 : decode cX11_canPlace 57 = .ok (.ireturn, 1) := by decide +kernel
theorem dX11_place_0 : decode cX11_place 0 = .ok (.aload_n 0, 1) := by decide +kernel
theorem dX11_place_1 : decode cX11_place 1 = .ok (.iload_n 1, 1) := by decide +kernel
theorem dX11_place_2 : decode cX11_place 2 = .ok (.invokevirtual 266, 3) := by decide +kernel
theorem dX11_place_5 : decode cX11_place 5 = .ok (.ifCond .eq 20, 3) := by decide +kernel
theorem dX11_place_8 : decode cX11_place 8 = .ok (.aload_n 0, 1) := by decide +kernel
theorem dX11_place_9 : decode cX11_place 9 = .ok (.iload_n 2, 1) := by decide +kernel
theorem dX11_place_10 : decode cX11_place 10 = .ok (.invokevirtual 294, 3) := by decide +kernel
theorem dX11_place_13 : decode cX11_place 13 = .ok (.ifCond .eq 12, 3) := by decide +kernel
theorem dX11_place_16 : decode cX11_place 16 = .ok (.aload_n 0, 1) := by decide +kernel
theorem dX11_place_17 : decode cX11_place 17 = .ok (.iload_n 1, 1) := by decide +kernel
theorem dX11_place_18 : decode cX11_place 18 = .ok (.iload_n 2, 1) := by decide +kernel
theorem dX11_place_19 : decode cX11_place 19 = .ok (.invokevirtual 297, 3) := by decide +kernel
theorem dX11_place_22 : decode cX11_place 22 = .ok (.ifCond .ne 5, 3) := by decide +kernel
theorem dX11_place_25 : decode cX11_place 25 = .ok (.iconst 0, 1) := by decide +kernel
theorem dX11_place_26 : decode cX11_place 26 = .ok (.ireturn, 1) := by decide +kernel
theorem dX11_place_27 : decode cX11_place 27 = .ok (.aload_n 0, 1) := by decide +kernel
theorem dX11_place_28 : decode cX11_place 28 = .ok (.invokevirtual 275, 3) := by decide +kernel
theorem dX11_place_31 : decode cX11_place 31 = .ok (.aload_n 0, 1) := by decide +kernel
theorem dX11_place_32 : decode cX11_place 32 = .ok (.getfield 24, 3) := by decide +kernel
theorem dX11_place_35 : decode cX11_place 35 = .ok (.bipush 64, 2) := by decide +kernel
theorem dX11_place_37 : decode cX11_place 37 = .ok (.iload_n 1, 1) := by decide +kernel
theorem dX11_place_38 : decode cX11_place 38 = .ok (.iadd, 1) := by decide +kernel
theorem dX11_place_39 : decode cX11_place 39 = .ok (.dup2, 1) := by decide +kernel
theorem dX11_place_40 : decode cX11_place 40 = .ok (.iaload, 1) := by decide +kernel
theorem dX11_place_41 : decode cX11_place 41 = .ok (.iconst 1, 1) := by decide +kernel
theorem dX11_place_42 : decode cX11_place 42 = .ok (.iload_n 2, 1) := by decide +kernel
theorem dX11_place_43 : decode cX11_place 43 = .ok (.ishl, 1) := by decide +kernel
theorem dX11_place_44 : decode cX11_place 44 = .ok (.ior, 1) := by decide +kernel
theorem dX11_place_45 : decode cX11_place 45 = .ok (.iastore, 1) := by decide +kernel
theorem dX11_place_46 : decode cX11_place 46 = .ok (.iconst 1, 1) := by decide +kernel
theorem dX11_place_47 : decode cX11_place 47 = .ok (.ireturn, 1) := by decide +kernel
theorem dX11_remove_0 : decode cX11_remove 0 = .ok (.aload_n 0, 1) := by decide +kernel
theorem dX11_remove_1 : decode cX11_remove 1 = .ok (.iload_n 1, 1) := by decide +kernel
theorem dX11_remove_2 : decode cX11_remove 2 = .ok (.invokevirtual 266, 3) := by decide +kernel
theorem dX11_remove_5 : decode cX11_remove 5 = .ok (.ifCond .eq 11, 3) := by decide +kernel
theorem dX11_remove_8 : decode cX11_remove 8 = .ok (.aload_n 0, 1) := by decide +kernel
theorem dX11_remove_9 : decode cX11_remove 9 = .ok (.iload_n 2, 1) := by decide +kernel
theorem dX11_remove_10 : decode cX11_remove 10 = .ok (.invokevirtual 294, 3) := by decide +kernel
theorem dX11_remove_13 : decode cX11_remove 13 = .ok (.ifCond .ne 5, 3) := by decide +kernel
theorem dX11_remove_16 : decode cX11_remove 16 = .ok (.iconst (-1), 1) := by decide +kernel
theorem dX11_remove_17 : decode cX11_remove 17 = .ok (.ireturn, 1) := by decide +kernel
theorem dX11_remove_18 : decode cX11_remove 18 = .ok (.aload_n 0, 1) := by decide +kernel
theorem dX11_remove_19 : decode cX11_remove 19 = .ok (.iload_n 1, 1) := by decide +kernel
theorem dX11_remove_20 : decode cX11_remove 20 = .ok (.iload_n 2, 1) := by decide +kernel
theorem dX11_remove_21 : decode cX11_remove 21 = .ok (.invokevirtual 195, 3) := by decide +kernel
theorem dX11_remove_24 : decode cX11_remove 24 = .ok (.ifCond .ne 6, 3) := by decide +kernel
theorem dX11_remove_27 : decode cX11_remove 27 = .ok (.bipush (-2), 2) := by decide +kernel
theorem dX11_remove_29 : decode cX11_remove 29 = .ok (.ireturn, 1) := by decide +kernel
theorem dX11_remove_30 : decode cX11_remove 30 = .ok (.aload_n 0, 1) := by decide +kernel
theorem dX11_remove_31 : decode cX11_remove 31 = .ok (.invokevirtual 275, 3) := by decide +kernel
theorem dX11_remove_34 : decode cX11_remove 34 = .ok (.aload_n 0, 1) := by decide +kernel
theorem dX11_remove_35 : decode cX11_remove 35 = .ok (.getfield 24, 3) := by decide +kernel
theorem dX11_remove_38 : decode cX11_remove 38 = .ok (.bipush 64, 2) := by decide +kernel
theorem dX11_remove_40 : decode cX11_remove 40 = .ok (.iload_n 1, 1) := by decide +kernel
theorem dX11_remove_41 : decode cX11_remove 41 = .ok (.iadd, 1) := by decide +kernel
theorem dX11_remove_42 : decode cX11_remove 42 = .ok (.dup2, 1) := by decide +kernel
theorem dX11_remove_43 : decode cX11_remove 43 = .ok (.iaload, 1) := by decide +kernel
theorem dX11_remove_44 : decode cX11_remove 44 = .ok (.iconst 1, 1) := by decide +kernel
theorem dX11_remove_45 : decode cX11_remove 45 = .ok (.iload_n 2, 1) := by decide +kernel
theorem dX11_remove_46 : decode cX11_remove 46 = .ok (.ishl, 1) := by decide +kernel
theorem dX11_remove_47 : decode cX11_remove 47 = .ok (.iconst (-1), 1) := by decide +kernel
theorem dX11_remove_48 : decode cX11_remove 48 = .ok (.ixor, 1) := by decide +kernel
theorem dX11_remove_49 : decode cX11_remove 49 = .ok (.iand, 1) := by decide +kernel
theorem dX11_remove_50 : decode cX11_remove 50 = .ok (.iastore, 1) := by decide +kernel
theorem dX11_remove_51 : decode cX11_remove 51 = .ok (.aload_n 0, 1) := by decide +kernel
theorem dX11_remove_52 : decode cX11_remove 52 = .ok (.invokevirtual 300, 3) := by decide +kernel
theorem dX11_remove_55 : decode cX11_remove 55 = .ok (.ireturn, 1) := by decide +kernel
theorem dX11_setCapacity_0 : decode cX11_setCapacity 0 = .ok (.aload_n 0, 1) := by decide +kernel
theorem dX11_setCapacity_1 : decode cX11_setCapacity 1 = .ok (.iload_n 1, 1) := by decide +kernel
theorem dX11_setCapacity_2 : decode cX11_setCapacity 2 = .ok (.invokevirtual 303, 3) := by decide +kernel
theorem dX11_setCapacity_5 : decode cX11_setCapacity 5 = .ok (.ifCond .eq 15, 3) := by decide +kernel
theorem dX11_setCapacity_8 : decode cX11_setCapacity 8 = .ok (.iload_n 2, 1) := by decide +kernel
theorem dX11_setCapacity_9 : decode cX11_setCapacity 9 = .ok (.i2l, 1) := by decide +kernel
theorem dX11_setCapacity_10 : decode cX11_setCapacity 10 = .ok (.lconst 0, 1) := by decide +kernel
theorem dX11_setCapacity_11 : decode cX11_setCapacity 11 = .ok (.ldc2_w 306, 3) := by decide +kernel
theorem dX11_setCapacity_14 : decode cX11_setCapacity 14 = .ok (.invokestatic 110, 3) := by decide +kernel
theorem dX11_setCapacity_17 : decode cX11_setCapacity 17 = .ok (.ifCond .ne 5, 3) := by decide +kernel
theorem dX11_setCapacity_20 : decode cX11_setCapacity 20 = .ok (.iconst (-1), 1) := by decide +kernel
theorem dX11_setCapacity_21 : decode cX11_setCapacity 21 = .ok (.ireturn, 1) := by decide +kernel
theorem dX11_setCapacity_22 : decode cX11_setCapacity 22 = .ok (.aload_n 0, 1) := by decide +kernel
theorem dX11_setCapacity_23 : decode cX11_setCapacity 23 = .ok (.getfield 24, 3) := by decide +kernel
theorem dX11_setCapacity_26 : decode cX11_setCapacity 26 = .ok (.iconst 0, 1) := by decide +kernel
theorem dX11_setCapacity_27 : decode cX11_setCapacity 27 = .ok (.iload_n 1, 1) := by decide +kernel
theorem dX11_setCapacity_28 : decode cX11_setCapacity 28 = .ok (.iadd, 1) := by decide +kernel
theorem dX11_setCapacity_29 : decode cX11_setCapacity 29 = .ok (.iaload, 1) := by decide +kernel
theorem dX11_setCapacity_30 : decode cX11_setCapacity 30 = .ok (.iload_n 2, 1) := by decide +kernel
theorem dX11_setCapacity_31 : decode cX11_setCapacity 31 = .ok (.if_icmp .ne 6, 3) := by decide +kernel
theorem dX11_setCapacity_34 : decode cX11_setCapacity 34 = .ok (.bipush (-2), 2) := by decide +kernel
theorem dX11_setCapacity_36 : decode cX11_setCapacity 36 = .ok (.ireturn, 1) := by decide +kernel
theorem dX11_setCapacity_37 : decode cX11_setCapacity 37 = .ok (.aload_n 0, 1) := by decide +kernel
theorem dX11_setCapacity_38 : decode cX11_setCapacity 38 = .ok (.invokevirtual 275, 3) := by decide +kernel
theorem dX11_setCapacity_41 : decode cX11_setCapacity 41 = .ok (.aload_n 0, 1) := by decide +kernel
theorem dX11_setCapacity_42 : decode cX11_setCapacity 42 = .ok (.getfield 24, 3) := by decide +kernel
theorem dX11_setCapacity_45 : decode cX11_setCapacity 45 = .ok (.iconst 0, 1) := by decide +kernel
theorem dX11_setCapacity_46 : decode cX11_setCapacity 46 = .ok (.iload_n 1, 1) := by decide +kernel
theorem dX11_setCapacity_47 : decode cX11_setCapacity 47 = .ok (.iadd, 1) := by decide +kernel
theorem dX11_setCapacity_48 : decode cX11_setCapacity 48 = .ok (.iload_n 2, 1) := by decide +kernel
theorem dX11_setCapacity_49 : decode cX11_setCapacity 49 = .ok (.iastore, 1) := by decide +kernel
theorem dX11_setCapacity_50 : decode cX11_setCapacity 50 = .ok (.aload_n 0, 1) := by decide +kernel
theorem dX11_setCapacity_51 : decode cX11_setCapacity 51 = .ok (.invokevirtual 300, 3) := by decide +kernel
theorem dX11_setCapacity_54 : decode cX11_setCapacity 54 = .ok (.ireturn, 1) := by decide +kernel
theorem dX11_lowerEnd_0 : decode cX11_lowerEnd 0 = .ok (.aload_n 0, 1) := by decide +kernel
theorem dX11_lowerEnd_1 : decode cX11_lowerEnd 1 = .ok (.iload_n 1, 1) := by decide +kernel
theorem dX11_lowerEnd_2 : decode cX11_lowerEnd 2 = .ok (.iconst 0, 1) := by decide +kernel
theorem dX11_lowerEnd_3 : decode cX11_lowerEnd 3 = .ok (.invokevirtual 179, 3) := by decide +kernel
theorem dX11_lowerEnd_6 : decode cX11_lowerEnd 6 = .ok (.istore_n 2, 1) := by decide +kernel
theorem dX11_lowerEnd_7 : decode cX11_lowerEnd 7 = .ok (.aload_n 0, 1) := by decide +kernel
theorem dX11_lowerEnd_8 : decode cX11_lowerEnd 8 = .ok (.iload_n 1, 1) := by decide +kernel
theorem dX11_lowerEnd_9 : decode cX11_lowerEnd 9 = .ok (.iconst 1, 1) := by decide +kernel
theorem dX11_lowerEnd_10 : decode cX11_lowerEnd 10 = .ok (.invokevirtual 179, 3) := by decide +kernel
theorem dX11_lowerEnd_13 : decode cX11_lowerEnd 13 = .ok (.istore_n 3, 1) := by decide +kernel
theorem dX11_lowerEnd_14 : decode cX11_lowerEnd 14 = .ok (.aload_n 0, 1) := by decide +kernel
