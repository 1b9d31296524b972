theorem dX10_init_0 : decode cX10_init 0 = .ok (.aload_n 0, 1) := by decide +kernel
theorem dX10_init_1 : decode cX10_init 1 = .ok (.invokespecial 3, 3) := by decide +kernel
theorem dX10_init_4 : decode cX10_init 4 = .ok (.aload_n 0, 1) := by decide +kernel
theorem dX10_init_5 : decode cX10_init 5 = .ok (.new 9, 3) := by decide +kernel
theorem dX10_init_8 : decode cX10_init 8 = .ok (.dup, 1) := by decide +kernel
theorem dX10_init_9 : decode cX10_init 9 = .ok (.invokespecial 11, 3) := by decide +kernel
theorem dX10_init_12 : decode cX10_init 12 = .ok (.putfield 12, 3) := by decide +kernel
theorem dX10_init_15 : decode cX10_init 15 = .ok (.aload_n 0, 1) := by decide +kernel
theorem dX10_init_16 : decode cX10_init 16 = .ok (.new 9, 3) := by decide +kernel
theorem dX10_init_19 : decode cX10_init 19 = .ok (.dup, 1) := by decide +kernel
theorem dX10_init_20 : decode cX10_init 20 = .ok (.invokespecial 11, 3) := by decide +kernel
theorem dX10_init_23 : decode cX10_init 23 = .ok (.putfield 16, 3) := by decide +kernel
theorem dX10_init_26 : decode cX10_init 26 = .ok (.aload_n 0, 1) := by decide +kernel
theorem dX10_init_27 : decode cX10_init 27 = .ok (.new 19, 3) := by decide +kernel
theorem dX10_init_30 : decode cX10_init 30 = .ok (.dup, 1) := by decide +kernel
theorem dX10_init_31 : decode cX10_init 31 = .ok (.invokespecial 21, 3) := by decide +kernel
theorem dX10_init_34 : decode cX10_init 34 = .ok (.putfield 22, 3) := by decide +kernel
theorem dX10_init_37 : decode cX10_init 37 = .ok (.aload_n 0, 1) := by decide +kernel
theorem dX10_init_38 : decode cX10_init 38 = .ok (.new 19, 3) := by decide +kernel
theorem dX10_init_41 : decode cX10_init 41 = .ok (.dup, 1) := by decide +kernel
theorem dX10_init_42 : decode cX10_init 42 = .ok (.invokespecial 21, 3) := by decide +kernel
theorem dX10_init_45 : decode cX10_init 45 = .ok (.putfield 26, 3) := by decide +kernel
theorem dX10_init_48 : decode cX10_init 48 = .ok (.aload_n 0, 1) := by decide +kernel
theorem dX10_init_49 : decode cX10_init 49 = .ok (.new 29, 3) := by decide +kernel
theorem dX10_init_52 : decode cX10_init 52 = .ok (.dup, 1) := by decide +kernel
theorem dX10_init_53 : decode cX10_init 53 = .ok (.invokespecial 31, 3) := by decide +kernel
theorem dX10_init_56 : decode cX10_init 56 = .ok (.putfield 32, 3) := by decide +kernel
theorem dX10_init_59 : decode cX10_init 59 = .ok (.aload_n 0, 1) := by decide +kernel
theorem dX10_init_60 : decode cX10_init 60 = .ok (.new 36, 3) := by decide +kernel
theorem dX10_init_63 : decode cX10_init 63 = .ok (.dup, 1) := by decide +kernel
theorem dX10_init_64 : decode cX10_init 64 = .ok (.invokespecial 38, 3) := by decide +kernel
theorem dX10_init_67 : decode cX10_init 67 = .ok (.putfield 39, 3) := by decide +kernel
theorem dX10_init_70 : decode cX10_init 70 = .ok (.aload_n 0, 1) := by decide +kernel
theorem dX10_init_71 : decode cX10_init 71 = .ok (.new 43, 3) := by decide +kernel
theorem dX10_init_74 : decode cX10_init 74 = .ok (.dup, 1) := by decide +kernel
theorem dX10_init_75 : decode cX10_init 75 = .ok (.aload_n 0, 1) := by decide +kernel
theorem dX10_init_76 : decode cX10_init 76 = .ok (.getfield 39, 3) := by decide +kernel
theorem dX10_init_79 : decode cX10_init 79 = .ok (.aload_n 0, 1) := by decide +kernel
theorem dX10_init_80 : decode cX10_init 80 = .ok (.getfield 16, 3) := by decide +kernel
theorem dX10_init_83 : decode cX10_init 83 = .ok (.invokespecial 45, 3) := by decide +kernel
theorem dX10_init_86 : decode cX10_init 86 = .ok (.putfield 48, 3) := by decide +kernel
theorem dX10_init_89 : decode cX10_init 89 = .ok (.aload_n 0, 1) := by decide +kernel
theorem dX10_init_90 : decode cX10_init 90 = .ok (.new 52, 3) := by decide +kernel
theorem dX10_init_93 : decode cX10_init 93 = .ok (.dup, 1) := by decide +kernel
theorem dX10_init_94 : decode cX10_init 94 = .ok (.aload_n 0, 1) := by decide +kernel
theorem dX10_init_95 : decode cX10_init 95 = .ok (.getfield 12, 3) := by decide +kernel
theorem dX10_init_98 : decode cX10_init 98 = .ok (.aload_n 0, 1) := by decide +kernel
theorem dX10_init_99 : decode cX10_init 99 = .ok (.getfield 22, 3) := by decide +kernel
theorem dX10_init_102 : decode cX10_init 102 = .ok (.invokespecial 54, 3) := by decide +kernel
theorem dX10_init_105 : decode cX10_init 105 = .ok (.putfield 57, 3) := by decide +kernel
theorem dX10_init_108 : decode cX10_init 108 = .ok (.aload_n 0, 1) := by decide +kernel
theorem dX10_init_109 : decode cX10_init 109 = .ok (.new 61, 3) := by decide +kernel
theorem dX10_init_112 : decode cX10_init 112 = .ok (.dup, 1) := by decide +kernel
theorem dX10_init_113 : decode cX10_init 113 = .ok (.aload_n 0, 1) := by decide +kernel
theorem dX10_init_114 : decode cX10_init 114 = .ok (.getfield 12, 3) := by decide +kernel
theorem dX10_init_117 : decode cX10_init 117 = .ok (.aload_n 0, 1) := by decide +kernel
theorem dX10_init_118 : decode cX10_init 118 = .ok (.getfield 22, 3) := by decide +kernel
theorem dX10_init_121 : decode cX10_init 121 = .ok (.aload_n 0, 1) := by decide +kernel
theorem dX10_init_122 : decode cX10_init 122 = .ok (.getfield 57, 3) := by decide +kernel
theorem dX10_init_125 : decode cX10_init 125 = .ok (.invokespecial 63, 3) := by decide +kernel
theorem dX10_init_128 : decode cX10_init 128 = .ok (.putfield 66, 3) := by decide +kernel
theorem dX10_init_131 : decode cX10_init 131 = .ok (.aload_n 0, 1) := by decide +kernel
theorem dX10_init_132 : decode cX10_init 132 = .ok (.new 70, 3) := by decide +kernel
theorem dX10_init_135 : decode cX10_init 135 = .ok (.dup, 1) := by decide +kernel
theorem dX10_init_136 : decode cX10_init 136 = .ok (.aload_n 0, 1) := by decide +kernel
theorem dX10_init_137 : decode cX10_init 137 = .ok (.getfield 12, 3) := by decide +kernel
theorem dX10_init_140 : decode cX10_init 140 = .ok (.aload_n 0, 1) := by decide +kernel
theorem dX10_init_141 : decode cX10_init 141 = .ok (.getfield 22, 3) := by decide +kernel
theorem dX10_init_144 : decode cX10_init 144 = .ok (.aload_n 0, 1) := by decide +kernel
theorem dX10_init_145 : decode cX10_init 145 = .ok (.getfield 57, 3) := by decide +kernel
theorem dX10_init_148 : decode cX10_init 148 = .ok (.invokespecial 72, 3) := by decide +kernel
theorem dX10_init_151 : decode cX10_init 151 = .ok (.putfield 73, 3) := by decide +kernel
theorem dX10_init_154 : decode cX10_init 154 = .ok (.aload_n 0, 1) := by decide +kernel
theorem dX10_init_155 : decode cX10_init 155 = .ok (.new 77, 3) := by decide +kernel
theorem dX10_init_158 : decode cX10_init 158 = .ok (.dup, 1) := by decide +kernel
theorem dX10_init_159 : decode cX10_init 159 = .ok (.aload_n 0, 1) := by decide +kernel
theorem dX10_init_160 : decode cX10_init 160 = .ok (.getfield 12, 3) := by decide +kernel
theorem dX10_init_163 : decode cX10_init 163 = .ok (.aload_n 0, 1) := by decide +kernel
theorem dX10_init_164 : decode cX10_init 164 = .ok (.getfield 22, 3) := by decide +kernel
theorem dX10_init_167 : decode cX10_init 167 = .ok (.aload_n 0, 1) := by decide +kernel
theorem dX10_init_168 : decode cX10_init 168 = .ok (.getfield 57, 3) := by decide +kernel
theorem dX10_init_171 : decode cX10_init 171 = .ok (.aload_n 0, 1) := by decide +kernel
theorem dX10_init_172 : decode cX10_init 172 = .ok (.getfield 66, 3) := by decide +kernel
theorem dX10_init_175 : decode cX10_init 175 = .ok (.aload_n 0, 1) := by decide +kernel
theorem dX10_init_176 : decode cX10_init 176 = .ok (.getfield 73, 3) := by decide +kernel
theorem dX10_init_179 : decode cX10_init 179 = .ok (.invokespecial 79, 3) := by decide +kernel
theorem dX10_init_182 : decode cX10_init 182 = .ok (.putfield 82, 3) := by decide +kernel
theorem dX10_init_185 : decode cX10_init 185 = .ok (.aload_n 0, 1) := by decide +kernel
theorem dX10_init_186 : decode cX10_init 186 = .ok (.new 86, 3) := by decide +kernel
theorem dX10_init_189 : decode cX10_init 189 = .ok (.dup, 1) := by decide +kernel
theorem dX10_init_190 : decode cX10_init 190 = .ok (.aload_n 0, 1) := by decide +kernel
theorem dX10_init_191 : decode cX10_init 191 = .ok (.getfield 12, 3) := by decide +kernel
theorem dX10_init_194 : decode cX10_init 194 = .ok (.aload_n 0, 1) := by decide +kernel
theorem dX10_init_195 : decode cX10_init 195 = .ok (.getfield 22, 3) := by decide +kernel
theorem dX10_init_198 : decode cX10_init 198 = .ok (.aload_n 0, 1) := by decide +kernel
theorem dX10_init_199 : decode cX10_init 199 = .ok (.getfield 66, 3) := by decide +kernel
theorem dX10_init_202 : decode cX10_init 202 = .ok (.invokespecial 88, 3) := by decide +kernel
theorem dX10_init_205 : decode cX10_init 205 = .ok (.putfield 91, 3) := by decide +kernel
theorem dX10_init_208 : decode cX10_init 208 = .ok (.aload_n 0, 1) := by decide +kernel
theorem dX10_init_209 : decode cX10_init 209 = .ok (.bipush (-2), 2) := by decide +kernel
theorem dX10_init_211 : decode cX10_init 211 = .ok (.putfield 95, 3) := by decide +kernel
theorem dX10_init_214 : decode cX10_init 214 = .ok (.aload_n 0, 1) := by decide +kernel
theorem dX10_init_215 : decode cX10_init 215 = .ok (.getfield 12, 3) := by decide +kernel
theorem dX10_init_218 : decode cX10_init 218 = .ok (.invokevirtual 99, 3) := by decide +kernel
theorem dX10_init_221 : decode cX10_init 221 = .ok (.aload_n 0, 1) := by decide +kernel
theorem dX10_init_222 : decode cX10_init 222 = .ok (.getfield 22, 3) := by decide +kernel
theorem dX10_init_225 : decode cX10_init 225 = .ok (.aload_n 0, 1) := by decide +kernel
theorem dX10_init_226 : decode cX10_init 226 = .ok (.getfield 12, 3) := by decide +kernel
theorem dX10_init_229 : decode cX10_init 229 = .ok (.invokevirtual 102, 3) := by decide +kernel
theorem dX10_init_232 : decode cX10_init 232 = .ok (.return_, 1) := by decide +kernel
theorem dX10_append_0 : decode cX10_append 0 = .ok (.aload_n 0, 1) := by decide +kernel
theorem dX10_append_1 : decode cX10_append 1 = .ok (.getfield 39, 3) := by decide +kernel
theorem dX10_append_4 : decode cX10_append 4 = .ok (.getfield 106, 3) := by decide +kernel
theorem dX10_append_7 : decode cX10_append 7 = .ok (.bipush 20, 2) := by decide +kernel
theorem dX10_append_9 : decode cX10_append 9 = .ok (.iadd, 1) := by decide +kernel
theorem dX10_append_10 : decode cX10_append 10 = .ok (.sipush 1400, 3) := by decide +kernel
theorem dX10_append_13 : decode cX10_append 13 = .ok (.if_icmp .le 5, 3) := by decide +kernel
theorem dX10_append_16 : decode cX10_append 16 = .ok (.iconst (-1), 1) := by decide +kernel
theorem dX10_append_17 : decode cX10_append 17 = .ok (.ireturn, 1) := by decide +kernel
theorem dX10_append_18 : decode cX10_append 18 = .ok (.aload_n 0, 1) := by decide +kernel
theorem dX10_append_19 : decode cX10_append 19 = .ok (.getfield 39, 3) := by decide +kernel
theorem dX10_append_22 : decode cX10_append 22 = .ok (.iload_n 1, 1) := by decide +kernel
theorem dX10_append_23 : decode cX10_append 23 = .ok (.invokevirtual 109, 3) := by decide +kernel
theorem dX10_append_26 : decode cX10_append 26 = .ok (.aload_n 0, 1) := by decide +kernel
theorem dX10_append_27 : decode cX10_append 27 = .ok (.getfield 39, 3) := by decide +kernel
theorem dX10_append_30 : decode cX10_append 30 = .ok (.iload_n 2, 1) := by decide +kernel
theorem dX10_append_31 : decode cX10_append 31 = .ok (.invokevirtual 109, 3) := by decide +kernel
theorem dX10_append_34 : decode cX10_append 34 = .ok (.aload_n 0, 1) := by decide +kernel
theorem dX10_append_35 : decode cX10_append 35 = .ok (.getfield 39, 3) := by decide +kernel
theorem dX10_append_38 : decode cX10_append 38 = .ok (.iload_n 3, 1) := by decide +kernel
theorem dX10_append_39 : decode cX10_append 39 = .ok (.invokevirtual 109, 3) := by decide +kernel
theorem dX10_append_42 : decode cX10_append 42 = .ok (.aload_n 0, 1) := by decide +kernel
theorem dX10_append_43 : decode cX10_append 43 = .ok (.getfield 39, 3) := by decide +kernel
theorem dX10_append_46 : decode cX10_append 46 = .ok (.iload 4, 2) := by decide +kernel
theorem dX10_append_48 : decode cX10_append 48 = .ok (.invokevirtual 109, 3) := by decide +kernel
theorem dX10_append_51 : decode cX10_append 51 = .ok (.aload_n 0, 1) := by decide +kernel
theorem dX10_append_52 : decode cX10_append 52 = .ok (.getfield 39, 3) := by decide +kernel
theorem dX10_append_55 : decode cX10_append 55 = .ok (.iload 5, 2) := by decide +kernel
theorem dX10_append_57 : decode cX10_append 57 = .ok (.invokevirtual 109, 3) := by decide +kernel
theorem dX10_append_60 : decode cX10_append 60 = .ok (.aload_n 0, 1) := by decide +kernel
theorem dX10_append_61 : decode cX10_append 61 = .ok (.getfield 39, 3) := by decide +kernel
theorem dX10_append_64 : decode cX10_append 64 = .ok (.getfield 106, 3) := by decide +kernel
theorem dX10_append_67 : decode cX10_append 67 = .ok (.ireturn, 1) := by decide +kernel
theorem dX10_truncate_0 : decode cX10_truncate 0 = .ok (.iload_n 1, 1) := by decide +kernel
theorem dX10_truncate_1 : decode cX10_truncate 1 = .ok (.ifCond .lt 14, 3) := by decide +kernel
theorem dX10_truncate_4 : decode cX10_truncate 4 = .ok (.iload_n 1, 1) := by decide +kernel
theorem dX10_truncate_5 : decode cX10_truncate 5 = .ok (.aload_n 0, 1) := by decide +kernel
theorem dX10_truncate_6 : decode cX10_truncate 6 = .ok (.getfield 39, 3) := by decide +kernel
theorem dX10_truncate_9 : decode cX10_truncate 9 = .ok (.getfield 106, 3) := by decide +kernel
theorem dX10_truncate_12 : decode cX10_truncate 12 = .ok (.if_icmp .le 5, 3) := by decide +kernel
theorem dX10_truncate_15 : decode cX10_truncate 15 = .ok (.iconst (-1), 1) := by decide +kernel
theorem dX10_truncate_16 : decode cX10_truncate 16 = .ok (.ireturn, 1) := by decide +kernel
theorem dX10_truncate_17 : decode cX10_truncate 17 = .ok (.aload_n 0, 1) := by decide +kernel
theorem dX10_truncate_18 : decode cX10_truncate 18 = .ok (.getfield 39, 3) := by decide +kernel
theorem dX10_truncate_21 : decode cX10_truncate 21 = .ok (.dup, 1) := by decide +kernel
theorem dX10_truncate_22 : decode cX10_truncate 22 = .ok (.getfield 106, 3) := by decide +kernel
theorem dX10_truncate_25 : decode cX10_truncate 25 = .ok (.iload_n 1, 1) := by decide +kernel
theorem dX10_truncate_26 : decode cX10_truncate 26 = .ok (.isub, 1) := by decide +kernel
theorem dX10_truncate_27 : decode cX10_truncate 27 = .ok (.putfield 106, 3) := by decide +kernel
theorem dX10_truncate_30 : decode cX10_truncate 30 = .ok (.aload_n 0, 1) := by decide +kernel
theorem dX10_truncate_31 : decode cX10_truncate 31 = .ok (.getfield 39, 3) := by decide +kernel
theorem dX10_truncate_34 : decode cX10_truncate 34 = .ok (.getfield 106, 3) := by decide +kernel
theorem dX10_truncate_37 : decode cX10_truncate 37 = .ok (.ireturn, 1) := by decide +kernel
theorem dX10_load_0 : decode cX10_load 0 = .ok (.aload_n 0, 1) := by decide +kernel
theorem dX10_load_1 : decode cX10_load 1 = .ok (.getfield 48, 3) := by decide +kernel
theorem dX10_load_4 : decode cX10_load 4 = .ok (.invokevirtual 113, 3) := by decide +kernel
theorem dX10_load_7 : decode cX10_load 7 = .ok (.istore_n 1, 1) := by decide +kernel
theorem dX10_load_8 : decode cX10_load 8 = .ok (.aload_n 0, 1) := by decide +kernel
theorem dX10_load_9 : decode cX10_load 9 = .ok (.getfield 39, 3) := by decide +kernel
theorem dX10_load_12 : decode cX10_load 12 = .ok (.iconst 0, 1) := by decide +kernel
theorem dX10_load_13 : decode cX10_load 13 = .ok (.putfield 106, 3) := by decide +kernel
theorem dX10_load_16 : decode cX10_load 16 = .ok (.iload_n 1, 1) := by decide +kernel
theorem dX10_load_17 : decode cX10_load 17 = .ok (.ifCond .ne 16, 3) := by decide +kernel
theorem dX10_load_20 : decode cX10_load 20 = .ok (.aload_n 0, 1) := by decide +kernel
theorem dX10_load_21 : decode cX10_load 21 = .ok (.aload_n 0, 1) := by decide +kernel
theorem dX10_load_22 : decode cX10_load 22 = .ok (.getfield 48, 3) := by decide +kernel
theorem dX10_load_25 : decode cX10_load 25 = .ok (.getfield 117, 3) := by decide +kernel
theorem dX10_load_28 : decode cX10_load 28 = .ok (.putfield 95, 3) := by decide +kernel
theorem dX10_load_31 : decode cX10_load 31 = .ok (.iconst (-1), 1) := by decide +kernel
theorem dX10_load_32 : decode cX10_load 32 = .ok (.ireturn, 1) := by decide +kernel
theorem dX10_load_33 : decode cX10_load 33 = .ok (.aload_n 0, 1) := by decide +kernel
theorem dX10_load_34 : decode cX10_load 34 = .ok (.bipush (-2), 2) := by decide +kernel
theorem dX10_load_36 : decode cX10_load 36 = .ok (.putfield 95, 3) := by decide +kernel
theorem dX10_load_39 : decode cX10_load 39 = .ok (.aload_n 0, 1) := by decide +kernel
theorem dX10_load_40 : decode cX10_load 40 = .ok (.getfield 12, 3) := by decide +kernel
theorem dX10_load_43 : decode cX10_load 43 = .ok (.aload_n 0, 1) := by decide +kernel
theorem dX10_load_44 : decode cX10_load 44 = .ok (.getfield 16, 3) := by decide +kernel
theorem dX10_load_47 : decode cX10_load 47 = .ok (.invokevirtual 120, 3) := by decide +kernel
theorem dX10_load_50 : decode cX10_load 50 = .ok (.aload_n 0, 1) := by decide +kernel
theorem dX10_load_51 : decode cX10_load 51 = .ok (.getfield 22, 3) := by decide +kernel
theorem dX10_load_54 : decode cX10_load 54 = .ok (.aload_n 0, 1) := by decide +kernel
theorem dX10_load_55 : decode cX10_load 55 = .ok (.getfield 12, 3) := by decide +kernel
theorem dX10_load_58 : decode cX10_load 58 = .ok (.invokevirtual 102, 3) := by decide +kernel
theorem dX10_load_61 : decode cX10_load 61 = .ok (.aload_n 0, 1) := by decide +kernel
theorem dX10_load_62 : decode cX10_load 62 = .ok (.getfield 32, 3) := by decide +kernel
theorem dX10_load_65 : decode cX10_load 65 = .ok (.invokevirtual 123, 3) := by decide +kernel
theorem dX10_load_68 : decode cX10_load 68 = .ok (.aload_n 0, 1) := by decide +kernel
theorem dX10_load_69 : decode cX10_load 69 = .ok (.getfield 12, 3) := by decide +kernel
theorem dX10_load_72 : decode cX10_load 72 = .ok (.getfield 126, 3) := by decide +kernel
theorem dX10_load_75 : decode cX10_load 75 = .ok (.ireturn, 1) := by decide +kernel
theorem dX10_errorPosition_0 : decode cX10_errorPosition 0 = .ok (.aload_n 0, 1) := by decide +kernel
theorem dX10_errorPosition_1 : decode cX10_errorPosition 1 = .ok (.getfield 95, 3) := by decide +kernel
theorem dX10_errorPosition_4 : decode cX10_errorPosition 4 = .ok (.ireturn, 1) := by decide +kernel
theorem dX10_nodes_0 : decode cX10_nodes 0 = .ok (.aload_n 0, 1) := by decide +kernel
theorem dX10_nodes_1 : decode cX10_nodes 1 = .ok (.getfield 12, 3) := by decide +kernel
theorem dX10_nodes_4 : decode cX10_nodes 4 = .ok (.getfield 126, 3) := by decide +kernel
theorem dX10_nodes_7 : decode cX10_nodes 7 = .ok (.ireturn, 1) := by decide +kernel
theorem dX10_links_0 : decode cX10_links 0 = .ok (.aload_n 0, 1) := by decide +kernel
theorem dX10_links_1 : decode cX10_links 1 = .ok (.getfield 12, 3) := by decide +kernel
theorem dX10_links_4 : decode cX10_links 4 = .ok (.getfield 129, 3) := by decide +kernel
theorem dX10_links_7 : decode cX10_links 7 = .ok (.ireturn, 1) := by decide +kernel
theorem dX10_formats_0 : decode cX10_formats 0 = .ok (.aload_n 0, 1) := by decide +kernel
theorem dX10_formats_1 : decode cX10_formats 1 = .ok (.getfield 12, 3) := by decide +kernel
theorem dX10_formats_4 : decode cX10_formats 4 = .ok (.getfield 132, 3) := by decide +kernel
theorem dX10_formats_7 : decode cX10_formats 7 = .ok (.ireturn, 1) := by decide +kernel
theorem dX10_layers_0 : decode cX10_layers 0 = .ok (.aload_n 0, 1) := by decide +kernel
theorem dX10_layers_1 : decode cX10_layers 1 = .ok (.getfield 12, 3) := by decide +kernel
theorem dX10_layers_4 : decode cX10_layers 4 = .ok (.getfield 135, 3) := by decide +kernel
theorem dX10_layers_7 : decode cX10_layers 7 = .ok (.ireturn, 1) := by decide +kernel
theorem dX10_rate_0 : decode cX10_rate 0 = .ok (.aload_n 0, 1) := by decide +kernel
theorem dX10_rate_1 : decode cX10_rate 1 = .ok (.iload_n 1, 1) := by decide +kernel
theorem dX10_rate_2 : decode cX10_rate 2 = .ok (.invokevirtual 138, 3) := by decide +kernel
theorem dX10_rate_5 : decode cX10_rate 5 = .ok (.ifCond .eq 11, 3) := by decide +kernel
theorem dX10_rate_8 : decode cX10_rate 8 = .ok (.aload_n 0, 1) := by decide +kernel
theorem dX10_rate_9 : decode cX10_rate 9 = .ok (.iload_n 2, 1) := by decide +kernel
theorem dX10_rate_10 : decode cX10_rate 10 = .ok (.invokevirtual 142, 3) := by decide +kernel
theorem dX10_rate_13 : decode cX10_rate 13 = .ok (.ifCond .ne 5, 3) := by decide +kernel
theorem dX10_rate_16 : decode cX10_rate 16 = .ok (.iconst (-1), 1) := by decide +kernel
theorem dX10_rate_17 : decode cX10_rate 17 = .ok (.ireturn, 1) := by decide +kernel
theorem dX10_rate_18 : decode cX10_rate 18 = .ok (.aload_n 0, 1) := by decide +kernel
theorem dX10_rate_19 : decode cX10_rate 19 = .ok (.getfield 12, 3) := by decide +kernel
theorem dX10_rate_22 : decode cX10_rate 22 = .ok (.iload_n 1, 1) := by decide +kernel
theorem dX10_rate_23 : decode cX10_rate 23 = .ok (.iload_n 2, 1) := by decide +kernel
theorem dX10_rate_24 : decode cX10_rate 24 = .ok (.invokevirtual 145, 3) := by decide +kernel
theorem dX10_rate_27 : decode cX10_rate 27 = .ok (.ireturn, 1) := by decide +kernel
theorem dX10_linkBetween_0 : decode cX10_linkBetween 0 = .ok (.aload_n 0, 1) := by decide +kernel
theorem dX10_linkBetween_1 : decode cX10_linkBetween 1 = .ok (.iload_n 1, 1) := by decide +kernel
theorem dX10_linkBetween_2 : decode cX10_linkBetween 2 = .ok (.invokevirtual 149, 3) := by decide +kernel
theorem dX10_linkBetween_5 : decode cX10_linkBetween 5 = .ok (.ifCond .eq 11, 3) := by decide +kernel
theorem dX10_linkBetween_8 : decode cX10_linkBetween 8 = .ok (.aload_n 0, 1) := by decide +kernel
theorem dX10_linkBetween_9 : decode cX10_linkBetween 9 = .ok (.iload_n 2, 1) := by decide +kernel
theorem dX10_linkBetween_10 : decode cX10_linkBetween 10 = .ok (.invokevirtual 149, 3) := by decide +kernel
theorem dX10_linkBetween_13 : decode cX10_linkBetween 13 = .ok (.ifCond .ne 5, 3) := by decide +kernel
theorem dX10_linkBetween_16 : decode cX10_linkBetween 16 = .ok (.iconst (-1), 1) := by decide +kernel
theorem dX10_linkBetween_17 : decode cX10_linkBetween 17 = .ok (.ireturn, 1) := by decide +kernel
theorem dX10_linkBetween_18 : decode cX10_linkBetween 18 = .ok (.aload_n 0, 1) := by decide +kernel
theorem dX10_linkBetween_19 : decode cX10_linkBetween 19 = .ok (.getfield 12, 3) := by decide +kernel
theorem dX10_linkBetween_22 : decode cX10_linkBetween 22 = .ok (.getfield 152, 3) := by decide +kernel
theorem dX10_linkBetween_25 : decode cX10_linkBetween 25 = .ok (.iload_n 1, 1) := by decide +kernel
theorem dX10_linkBetween_26 : decode cX10_linkBetween 26 = .ok (.bipush 16, 2) := by decide +kernel
theorem dX10_linkBetween_28 : decode cX10_linkBetween 28 = .ok (.imul, 1) := by decide +kernel
theorem dX10_linkBetween_29 : decode cX10_linkBetween 29 = .ok (.iload_n 2, 1) := by decide +kernel
theorem dX10_linkBetween_30 : decode cX10_linkBetween 30 = .ok (.iadd, 1) := by decide +kernel
theorem dX10_linkBetween_31 : decode cX10_linkBetween 31 = .ok (.iaload, 1) := by decide +kernel
theorem dX10_linkBetween_32 : decode cX10_linkBetween 32 = .ok (.istore_n 3, 1) := by decide +kernel
theorem dX10_linkBetween_33 : decode cX10_linkBetween 33 = .ok (.iload_n 3, 1) := by decide +kernel
theorem dX10_linkBetween_34 : decode cX10_linkBetween 34 = .ok (.iconst (-1), 1) := by decide +kernel
theorem dX10_linkBetween_35 : decode cX10_linkBetween 35 = .ok (.if_icmp .ne 8, 3) := by decide +kernel
theorem dX10_linkBetween_38 : decode cX10_linkBetween 38 = .ok (.bipush (-2), 2) := by decide +kernel
theorem dX10_linkBetween_40 : decode cX10_linkBetween 40 = .ok (.goto 4, 3) := by decide +kernel
theorem dX10_linkBetween_43 : decode cX10_linkBetween 43 = .ok (.iload_n 3, 1) := by decide +kernel
theorem dX10_linkBetween_44 : decode cX10_linkBetween 44 = .ok (.ireturn, 1) := by decide +kernel
theorem dX10_capacity_0 : decode cX10_capacity 0 = .ok (.aload_n 0, 1) := by decide +kernel
theorem dX10_capacity_1 : decode cX10_capacity 1 = .ok (.iload_n 1, 1) := by decide +kernel
theorem dX10_capacity_2 : decode cX10_capacity 2 = .ok (.invokevirtual 156, 3) := by decide +kernel
theorem dX10_capacity_5 : decode cX10_capacity 5 = .ok (.ifCond .eq 15, 3) := by decide +kernel
theorem dX10_capacity_8 : decode cX10_capacity 8 = .ok (.aload_n 0, 1) := by decide +kernel
theorem dX10_capacity_9 : decode cX10_capacity 9 = .ok (.getfield 22, 3) := by decide +kernel
theorem dX10_capacity_12 : decode cX10_capacity 12 = .ok (.getfield 159, 3) := by decide +kernel
theorem dX10_capacity_15 : decode cX10_capacity 15 = .ok (.iload_n 1, 1) := by decide +kernel
theorem dX10_capacity_16 : decode cX10_capacity 16 = .ok (.iaload, 1) := by decide +kernel
theorem dX10_capacity_17 : decode cX10_capacity 17 = .ok (.goto 4, 3) := by decide +kernel
theorem dX10_capacity_20 : decode cX10_capacity 20 = .ok (.iconst (-1), 1) := by decide +kernel
theorem dX10_capacity_21 : decode cX10_capacity 21 = .ok (.ireturn, 1) := by decide +kernel
theorem dX10_isOpen_0 : decode cX10_isOpen 0 = .ok (.aload_n 0, 1) := by decide +kernel
theorem dX10_isOpen_1 : decode cX10_isOpen 1 = .ok (.iload_n 1, 1) := by decide +kernel
theorem dX10_isOpen_2 : decode cX10_isOpen 2 = .ok (.invokevirtual 156, 3) := by decide +kernel
theorem dX10_isOpen_5 : decode cX10_isOpen 5 = .ok (.ifCond .eq 19, 3) := by decide +kernel
theorem dX10_isOpen_8 : decode cX10_isOpen 8 = .ok (.aload_n 0, 1) := by decide +kernel
theorem dX10_isOpen_9 : decode cX10_isOpen 9 = .ok (.getfield 22, 3) := by decide +kernel
theorem dX10_isOpen_12 : decode cX10_isOpen 12 = .ok (.getfield 162, 3) := by decide +kernel
theorem dX10_isOpen_15 : decode cX10_isOpen 15 = .ok (.iload_n 1, 1) := by decide +kernel
theorem dX10_isOpen_16 : decode cX10_isOpen 16 = .ok (.baload, 1) := by decide +kernel
theorem dX10_isOpen_17 : decode cX10_isOpen 17 = .ok (.ifCond .eq 7, 3) := by decide +kernel
theorem dX10_isOpen_20 : decode cX10_isOpen 20 = .ok (.iconst 1, 1) := by decide +kernel
theorem dX10_isOpen_21 : decode cX10_isOpen 21 = .ok (.goto 4, 3) := by decide +kernel
theorem dX10_isOpen_24 : decode cX10_isOpen 24 = .ok (.iconst 0, 1) := by decide +kernel
theorem dX10_isOpen_25 : decode cX10_isOpen 25 = .ok (.ireturn, 1) := by decide +kernel
theorem dX10_addReceiver_0 : decode cX10_addReceiver 0 = .ok (.aload_n 0, 1) := by decide +kernel
theorem dX10_addReceiver_1 : decode cX10_addReceiver 1 = .ok (.iload_n 1, 1) := by decide +kernel
theorem dX10_addReceiver_2 : decode cX10_addReceiver 2 = .ok (.invokevirtual 149, 3) := by decide +kernel
theorem dX10_addReceiver_5 : decode cX10_addReceiver 5 = .ok (.ifCond .eq 19, 3) := by decide +kernel
theorem dX10_addReceiver_8 : decode cX10_addReceiver 8 = .ok (.aload_n 0, 1) := by decide +kernel
theorem dX10_addReceiver_9 : decode cX10_addReceiver 9 = .ok (.iload_n 2, 1) := by decide +kernel
theorem dX10_addReceiver_10 : decode cX10_addReceiver 10 = .ok (.invokevirtual 138, 3) := by decide +kernel
theorem dX10_addReceiver_13 : decode cX10_addReceiver 13 = .ok (.ifCond .eq 11, 3) := by decide +kernel
theorem dX10_addReceiver_16 : decode cX10_addReceiver 16 = .ok (.aload_n 0, 1) := by decide +kernel
theorem dX10_addReceiver_17 : decode cX10_addReceiver 17 = .ok (.iload_n 3, 1) := by decide +kernel
theorem dX10_addReceiver_18 : decode cX10_addReceiver 18 = .ok (.invokevirtual 142, 3) := by decide +kernel
theorem dX10_addReceiver_21 : decode cX10_addReceiver 21 = .ok (.ifCond .ne 5, 3) := by decide +kernel
theorem dX10_addReceiver_24 : decode cX10_addReceiver 24 = .ok (.iconst (-1), 1) := by decide +kernel
theorem dX10_addReceiver_25 : decode cX10_addReceiver 25 = .ok (.ireturn, 1) := by decide +kernel
theorem dX10_addReceiver_26 : decode cX10_addReceiver 26 = .ok (.aload_n 0, 1) := by decide +kernel
theorem dX10_addReceiver_27 : decode cX10_addReceiver 27 = .ok (.getfield 22, 3) := by decide +kernel
theorem dX10_addReceiver_30 : decode cX10_addReceiver 30 = .ok (.getfield 166, 3) := by decide +kernel
theorem dX10_addReceiver_33 : decode cX10_addReceiver 33 = .ok (.bipush 20, 2) := by decide +kernel
theorem dX10_addReceiver_35 : decode cX10_addReceiver 35 = .ok (.if_icmp .lt 6, 3) := by decide +kernel
theorem dX10_addReceiver_38 : decode cX10_addReceiver 38 = .ok (.bipush (-2), 2) := by decide +kernel
theorem dX10_addReceiver_40 : decode cX10_addReceiver 40 = .ok (.ireturn, 1) := by decide +kernel
theorem dX10_addReceiver_41 : decode cX10_addReceiver 41 = .ok (.aload_n 0, 1) := by decide +kernel
theorem dX10_addReceiver_42 : decode cX10_addReceiver 42 = .ok (.getfield 32, 3) := by decide +kernel
theorem dX10_addReceiver_45 : decode cX10_addReceiver 45 = .ok (.aload_n 0, 1) := by decide +kernel
theorem dX10_addReceiver_46 : decode cX10_addReceiver 46 = .ok (.getfield 22, 3) := by decide +kernel
theorem dX10_addReceiver_49 : decode cX10_addReceiver 49 = .ok (.invokevirtual 169, 3) := by decide +kernel
theorem dX10_addReceiver_52 : decode cX10_addReceiver 52 = .ok (.aload_n 0, 1) := by decide +kernel
theorem dX10_addReceiver_53 : decode cX10_addReceiver 53 = .ok (.getfield 22, 3) := by decide +kernel
theorem dX10_addReceiver_56 : decode cX10_addReceiver 56 = .ok (.iload_n 1, 1) := by decide +kernel
theorem dX10_addReceiver_57 : decode cX10_addReceiver 57 = .ok (.iload_n 2, 1) := by decide +kernel
theorem dX10_addReceiver_58 : decode cX10_addReceiver 58 = .ok (.iload_n 3, 1) := by decide +kernel
theorem dX10_addReceiver_59 : decode cX10_addReceiver 59 = .ok (.invokevirtual 173, 3) := by decide +kernel
theorem dX10_addReceiver_62 : decode cX10_addReceiver 62 = .ok (.istore 4, 2) := by decide +kernel
theorem dX10_addReceiver_64 : decode cX10_addReceiver 64 = .ok (.aload_n 0, 1) := by decide +kernel
theorem dX10_addReceiver_65 : decode cX10_addReceiver 65 = .ok (.getfield 82, 3) := by decide +kernel
theorem dX10_addReceiver_68 : decode cX10_addReceiver 68 = .ok (.iload 4, 2) := by decide +kernel
theorem dX10_addReceiver_70 : decode cX10_addReceiver 70 = .ok (.invokevirtual 177, 3) := by decide +kernel
theorem dX10_addReceiver_73 : decode cX10_addReceiver 73 = .ok (.pop, 1) := by decide +kernel
theorem dX10_addReceiver_74 : decode cX10_addReceiver 74 = .ok (.iload 4, 2) := by decide +kernel
theorem dX10_addReceiver_76 : decode cX10_addReceiver 76 = .ok (.ireturn, 1) := by decide +kernel
theorem dX10_leave_0 : decode cX10_leave 0 = .ok (.aload_n 0, 1) := by decide +kernel
theorem dX10_leave_1 : decode cX10_leave 1 = .ok (.iload_n 1, 1) := by decide +kernel
theorem dX10_leave_2 : decode cX10_leave 2 = .ok (.invokevirtual 181, 3) := by decide +kernel
theorem dX10_leave_5 : decode cX10_leave 5 = .ok (.ifCond .ne 5, 3) := by decide +kernel
theorem dX10_leave_8 : decode cX10_leave 8 = .ok (.iconst (-1), 1) := by decide +kernel
theorem dX10_leave_9 : decode cX10_leave 9 = .ok (.ireturn, 1) := by decide +kernel
theorem dX10_leave_10 : decode cX10_leave 10 = .ok (.aload_n 0, 1) := by decide +kernel
theorem dX10_leave_11 : decode cX10_leave 11 = .ok (.getfield 32, 3) := by decide +kernel
theorem dX10_leave_14 : decode cX10_leave 14 = .ok (.aload_n 0, 1) := by decide +kernel
theorem dX10_leave_15 : decode cX10_leave 15 = .ok (.getfield 22, 3) := by decide +kernel
theorem dX10_leave_18 : decode cX10_leave 18 = .ok (.invokevirtual 169, 3) := by decide +kernel
theorem dX10_leave_21 : decode cX10_leave 21 = .ok (.aload_n 0, 1) := by decide +kernel
theorem dX10_leave_22 : decode cX10_leave 22 = .ok (.getfield 22, 3) := by decide +kernel
theorem dX10_leave_25 : decode cX10_leave 25 = .ok (.getfield 184, 3) := by decide +kernel
theorem dX10_leave_28 : decode cX10_leave 28 = .ok (.iload_n 1, 1) := by decide +kernel
theorem dX10_leave_29 : decode cX10_leave 29 = .ok (.iaload, 1) := by decide +kernel
theorem dX10_leave_30 : decode cX10_leave 30 = .ok (.istore_n 2, 1) := by decide +kernel
theorem dX10_leave_31 : decode cX10_leave 31 = .ok (.aload_n 0, 1) := by decide +kernel
theorem dX10_leave_32 : decode cX10_leave 32 = .ok (.getfield 22, 3) := by decide +kernel
theorem dX10_leave_35 : decode cX10_leave 35 = .ok (.getfield 184, 3) := by decide +kernel
theorem dX10_leave_38 : decode cX10_leave 38 = .ok (.iload_n 1, 1) := by decide +kernel
theorem dX10_leave_39 : decode cX10_leave 39 = .ok (.iconst 0, 1) := by decide +kernel
theorem dX10_leave_40 : decode cX10_leave 40 = .ok (.iastore, 1) := by decide +kernel
theorem dX10_leave_41 : decode cX10_leave 41 = .ok (.aload_n 0, 1) := by decide +kernel
theorem dX10_leave_42 : decode cX10_leave 42 = .ok (.getfield 22, 3) := by decide +kernel
theorem dX10_leave_45 : decode cX10_leave 45 = .ok (.getfield 187, 3) := by decide +kernel
theorem dX10_leave_48 : decode cX10_leave 48 = .ok (.iload_n 1, 1) := by decide +kernel
theorem dX10_leave_49 : decode cX10_leave 49 = .ok (.iconst 1, 1) := by decide +kernel
theorem dX10_leave_50 : decode cX10_leave 50 = .ok (.bastore, 1) := by decide +kernel
theorem dX10_leave_51 : decode cX10_leave 51 = .ok (.aload_n 0, 1) := by decide +kernel
theorem dX10_leave_52 : decode cX10_leave 52 = .ok (.getfield 57, 3) := by decide +kernel
theorem dX10_leave_55 : decode cX10_leave 55 = .ok (.invokevirtual 190, 3) := by decide +kernel
theorem dX10_leave_58 : decode cX10_leave 58 = .ok (.iload_n 2, 1) := by decide +kernel
theorem dX10_leave_59 : decode cX10_leave 59 = .ok (.ireturn, 1) := by decide +kernel
theorem dX10_setWanted_0 : decode cX10_setWanted 0 = .ok (.aload_n 0, 1) := by decide +kernel
theorem dX10_setWanted_1 : decode cX10_setWanted 1 = .ok (.iload_n 1, 1) := by decide +kernel
theorem dX10_setWanted_2 : decode cX10_setWanted 2 = .ok (.invokevirtual 181, 3) := by decide +kernel
theorem dX10_setWanted_5 : decode cX10_setWanted 5 = .ok (.ifCond .eq 11, 3) := by decide +kernel
theorem dX10_setWanted_8 : decode cX10_setWanted 8 = .ok (.aload_n 0, 1) := by decide +kernel
theorem dX10_setWanted_9 : decode cX10_setWanted 9 = .ok (.iload_n 2, 1) := by decide +kernel
theorem dX10_setWanted_10 : decode cX10_setWanted 10 = .ok (.invokevirtual 142, 3) := by decide +kernel
theorem dX10_setWanted_13 : decode cX10_setWanted 13 = .ok (.ifCond .ne 5, 3) := by decide +kernel
theorem dX10_setWanted_16 : decode cX10_setWanted 16 = .ok (.iconst (-1), 1) := by decide +kernel
theorem dX10_setWanted_17 : decode cX10_setWanted 17 = .ok (.ireturn, 1) := by decide +kernel
theorem dX10_setWanted_18 : decode cX10_setWanted 18 = .ok (.aload_n 0, 1) := by decide +kernel
theorem dX10_setWanted_19 : decode cX10_setWanted 19 = .ok (.getfield 22, 3) := by decide +kernel
theorem dX10_setWanted_22 : decode cX10_setWanted 22 = .ok (.getfield 193, 3) := by decide +kernel
theorem dX10_setWanted_25 : decode cX10_setWanted 25 = .ok (.iload_n 1, 1) := by decide +kernel
theorem dX10_setWanted_26 : decode cX10_setWanted 26 = .ok (.iaload, 1) := by decide +kernel
theorem dX10_setWanted_27 : decode cX10_setWanted 27 = .ok (.iload_n 2, 1) := by decide +kernel
theorem dX10_setWanted_28 : decode cX10_setWanted 28 = .ok (.if_icmp .ne 6, 3) := by decide +kernel
theorem dX10_setWanted_31 : decode cX10_setWanted 31 = .ok (.bipush (-2), 2) := by decide +kernel
theorem dX10_setWanted_33 : decode cX10_setWanted 33 = .ok (.ireturn, 1) := by decide +kernel
theorem dX10_setWanted_34 : decode cX10_setWanted 34 = .ok (.aload_n 0, 1) := by decide +kernel
theorem dX10_setWanted_35 : decode cX10_setWanted 35 = .ok (.getfield 32, 3) := by decide +kernel
theorem dX10_setWanted_38 : decode cX10_setWanted 38 = .ok (.aload_n 0, 1) := by decide +kernel
theorem dX10_setWanted_39 : decode cX10_setWanted 39 = .ok (.getfield 22, 3) := by decide +kernel
theorem dX10_setWanted_42 : decode cX10_setWanted 42 = .ok (.invokevirtual 169, 3) := by decide +kernel
theorem dX10_setWanted_45 : decode cX10_setWanted 45 = .ok (.aload_n 0, 1) := by decide +kernel
theorem dX10_setWanted_46 : decode cX10_setWanted 46 = .ok (.getfield 22, 3) := by decide +kernel
theorem dX10_setWanted_49 : decode cX10_setWanted 49 = .ok (.getfield 193, 3) := by decide +kernel
theorem dX10_setWanted_52 : decode cX10_setWanted 52 = .ok (.iload_n 1, 1) := by decide +kernel
theorem dX10_setWanted_53 : decode cX10_setWanted 53 = .ok (.iload_n 2, 1) := by decide +kernel
theorem dX10_setWanted_54 : decode cX10_setWanted 54 = .ok (.iastore, 1) := by decide +kernel
theorem dX10_setWanted_55 : decode cX10_setWanted 55 = .ok (.aload_n 0, 1) := by decide +kernel
theorem dX10_setWanted_56 : decode cX10_setWanted 56 = .ok (.getfield 22, 3) := by decide +kernel
theorem dX10_setWanted_59 : decode cX10_setWanted 59 = .ok (.getfield 184, 3) := by decide +kernel
theorem dX10_setWanted_62 : decode cX10_setWanted 62 = .ok (.iload_n 1, 1) := by decide +kernel
theorem dX10_setWanted_63 : decode cX10_setWanted 63 = .ok (.aload_n 0, 1) := by decide +kernel
theorem dX10_setWanted_64 : decode cX10_setWanted 64 = .ok (.getfield 22, 3) := by decide +kernel
theorem dX10_setWanted_67 : decode cX10_setWanted 67 = .ok (.getfield 184, 3) := by decide +kernel
theorem dX10_setWanted_70 : decode cX10_setWanted 70 = .ok (.iload_n 1, 1) := by decide +kernel
theorem dX10_setWanted_71 : decode cX10_setWanted 71 = .ok (.iaload, 1) := by decide +kernel
theorem dX10_setWanted_72 : decode cX10_setWanted 72 = .ok (.iload_n 2, 1) := by decide +kernel
theorem dX10_setWanted_73 : decode cX10_setWanted 73 = .ok (.invokestatic 196, 3) := by decide +kernel
theorem dX10_setWanted_76 : decode cX10_setWanted 76 = .ok (.iastore, 1) := by decide +kernel
theorem dX10_setWanted_77 : decode cX10_setWanted 77 = .ok (.aload_n 0, 1) := by decide +kernel
theorem dX10_setWanted_78 : decode cX10_setWanted 78 = .ok (.getfield 22, 3) := by decide +kernel
theorem dX10_setWanted_81 : decode cX10_setWanted 81 = .ok (.getfield 184, 3) := by decide +kernel
theorem dX10_setWanted_84 : decode cX10_setWanted 84 = .ok (.iload_n 1, 1) := by decide +kernel
theorem dX10_setWanted_85 : decode cX10_setWanted 85 = .ok (.iaload, 1) := by decide +kernel
theorem dX10_setWanted_86 : decode cX10_setWanted 86 = .ok (.ireturn, 1) := by decide +kernel
theorem dX10_raise_0 : decode cX10_raise 0 = .ok (.aload_n 0, 1) := by decide +kernel
theorem dX10_raise_1 : decode cX10_raise 1 = .ok (.iload_n 1, 1) := by decide +kernel
theorem dX10_raise_2 : decode cX10_raise 2 = .ok (.invokevirtual 181, 3) := by decide +kernel
theorem dX10_raise_5 : decode cX10_raise 5 = .ok (.ifCond .ne 5, 3) := by decide +kernel
theorem dX10_raise_8 : decode cX10_raise 8 = .ok (.iconst (-1), 1) := by decide +kernel
theorem dX10_raise_9 : decode cX10_raise 9 = .ok (.ireturn, 1) := by decide +kernel
theorem dX10_raise_10 : decode cX10_raise 10 = .ok (.aload_n 0, 1) := by decide +kernel
theorem dX10_raise_11 : decode cX10_raise 11 = .ok (.getfield 26, 3) := by decide +kernel
theorem dX10_raise_14 : decode cX10_raise 14 = .ok (.aload_n 0, 1) := by decide +kernel
theorem dX10_raise_15 : decode cX10_raise 15 = .ok (.getfield 22, 3) := by decide +kernel
theorem dX10_raise_18 : decode cX10_raise 18 = .ok (.invokevirtual 201, 3) := by decide +kernel
theorem dX10_raise_21 : decode cX10_raise 21 = .ok (.aload_n 0, 1) := by decide +kernel
theorem dX10_raise_22 : decode cX10_raise 22 = .ok (.getfield 22, 3) := by decide +kernel
theorem dX10_raise_25 : decode cX10_raise 25 = .ok (.getfield 184, 3) := by decide +kernel
theorem dX10_raise_28 : decode cX10_raise 28 = .ok (.iload_n 1, 1) := by decide +kernel
theorem dX10_raise_29 : decode cX10_raise 29 = .ok (.iaload, 1) := by decide +kernel
theorem dX10_raise_30 : decode cX10_raise 30 = .ok (.iconst 1, 1) := by decide +kernel
theorem dX10_raise_31 : decode cX10_raise 31 = .ok (.iadd, 1) := by decide +kernel
theorem dX10_raise_32 : decode cX10_raise 32 = .ok (.istore_n 2, 1) := by decide +kernel
theorem dX10_raise_33 : decode cX10_raise 33 = .ok (.iload_n 2, 1) := by decide +kernel
theorem dX10_raise_34 : decode cX10_raise 34 = .ok (.aload_n 0, 1) := by decide +kernel
theorem dX10_raise_35 : decode cX10_raise 35 = .ok (.getfield 22, 3) := by decide +kernel
theorem dX10_raise_38 : decode cX10_raise 38 = .ok (.getfield 193, 3) := by decide +kernel
theorem dX10_raise_41 : decode cX10_raise 41 = .ok (.iload_n 1, 1) := by decide +kernel
theorem dX10_raise_42 : decode cX10_raise 42 = .ok (.iaload, 1) := by decide +kernel
theorem dX10_raise_43 : decode cX10_raise 43 = .ok (.if_icmp .gt 15, 3) := by decide +kernel
theorem dX10_raise_46 : decode cX10_raise 46 = .ok (.aload_n 0, 1) := by decide +kernel
theorem dX10_raise_47 : decode cX10_raise 47 = .ok (.getfield 82, 3) := by decide +kernel
theorem dX10_raise_50 : decode cX10_raise 50 = .ok (.iload_n 1, 1) := by decide +kernel
theorem dX10_raise_51 : decode cX10_raise 51 = .ok (.iload_n 2, 1) := by decide +kernel
theorem dX10_raise_52 : decode cX10_raise 52 = .ok (.invokevirtual 203, 3) := by decide +kernel
theorem dX10_raise_55 : decode cX10_raise 55 = .ok (.ifCond .ne 6, 3) := by decide +kernel
theorem dX10_raise_58 : decode cX10_raise 58 = .ok (.bipush (-2), 2) := by decide +kernel
theorem dX10_raise_60 : decode cX10_raise 60 = .ok (.ireturn, 1) := by decide +kernel
theorem dX10_raise_61 : decode cX10_raise 61 = .ok (.aload_n 0, 1) := by decide +kernel
theorem dX10_raise_62 : decode cX10_raise 62 = .ok (.getfield 32, 3) := by decide +kernel
theorem dX10_raise_65 : decode cX10_raise 65 = .ok (.aload_n 0, 1) := by decide +kernel
theorem dX10_raise_66 : decode cX10_raise 66 = .ok (.getfield 26, 3) := by decide +kernel
theorem dX10_raise_69 : decode cX10_raise 69 = .ok (.invokevirtual 169, 3) := by decide +kernel
theorem dX10_raise_72 : decode cX10_raise 72 = .ok (.iload_n 2, 1) := by decide +kernel
theorem dX10_raise_73 : decode cX10_raise 73 = .ok (.ireturn, 1) := by decide +kernel
theorem dX10_place_0 : decode cX10_place 0 = .ok (.aload_n 0, 1) := by decide +kernel
theorem dX10_place_1 : decode cX10_place 1 = .ok (.iload_n 1, 1) := by decide +kernel
theorem dX10_place_2 : decode cX10_place 2 = .ok (.invokevirtual 149, 3) := by decide +kernel
theorem dX10_place_5 : decode cX10_place 5 = .ok (.ifCond .eq 11, 3) := by decide +kernel
theorem dX10_place_8 : decode cX10_place 8 = .ok (.aload_n 0, 1) := by decide +kernel
theorem dX10_place_9 : decode cX10_place 9 = .ok (.iload_n 2, 1) := by decide +kernel
theorem dX10_place_10 : decode cX10_place 10 = .ok (.invokevirtual 207, 3) := by decide +kernel
theorem dX10_place_13 : decode cX10_place 13 = .ok (.ifCond .ne 5, 3) := by decide +kernel
theorem dX10_place_16 : decode cX10_place 16 = .ok (.iconst 0, 1) := by decide +kernel
theorem dX10_place_17 : decode cX10_place 17 = .ok (.ireturn, 1) := by decide +kernel
theorem dX10_place_18 : decode cX10_place 18 = .ok (.aload_n 0, 1) := by decide +kernel
theorem dX10_place_19 : decode cX10_place 19 = .ok (.getfield 26, 3) := by decide +kernel
theorem dX10_place_22 : decode cX10_place 22 = .ok (.aload_n 0, 1) := by decide +kernel
theorem dX10_place_23 : decode cX10_place 23 = .ok (.getfield 22, 3) := by decide +kernel
theorem dX10_place_26 : decode cX10_place 26 = .ok (.invokevirtual 201, 3) := by decide +kernel
theorem dX10_place_29 : decode cX10_place 29 = .ok (.aload_n 0, 1) := by decide +kernel
theorem dX10_place_30 : decode cX10_place 30 = .ok (.getfield 82, 3) := by decide +kernel
theorem dX10_place_33 : decode cX10_place 33 = .ok (.iload_n 1, 1) := by decide +kernel
theorem dX10_place_34 : decode cX10_place 34 = .ok (.iload_n 2, 1) := by decide +kernel
theorem dX10_place_35 : decode cX10_place 35 = .ok (.invokevirtual 210, 3) := by decide +kernel
theorem dX10_place_38 : decode cX10_place 38 = .ok (.ifCond .ne 5, 3) := by decide +kernel
theorem dX10_place_41 : decode cX10_place 41 = .ok (.iconst 0, 1) := by decide +kernel
theorem dX10_place_42 : decode cX10_place 42 = .ok (.ireturn, 1) := by decide +kernel
theorem dX10_place_43 : decode cX10_place 43 = .ok (.aload_n 0, 1) := by decide +kernel
theorem dX10_place_44 : decode cX10_place 44 = .ok (.getfield 32, 3) := by decide +kernel
theorem dX10_place_47 : decode cX10_place 47 = .ok (.aload_n 0, 1) := by decide +kernel
theorem dX10_place_48 : decode cX10_place 48 = .ok (.getfield 26, 3) := by decide +kernel
theorem dX10_place_51 : decode cX10_place 51 = .ok (.invokevirtual 169, 3) := by decide +kernel
theorem dX10_place_54 : decode cX10_place 54 = .ok (.iconst 1, 1) := by decide +kernel
theorem dX10_place_55 : decode cX10_place 55 = .ok (.ireturn, 1) := by decide +kernel
theorem dX10_remove_0 : decode cX10_remove 0 = .ok (.aload_n 0, 1) := by decide +kernel
theorem dX10_remove_1 : decode cX10_remove 1 = .ok (.iload_n 1, 1) := by decide +kernel
theorem dX10_remove_2 : decode cX10_remove 2 = .ok (.invokevirtual 149, 3) := by decide +kernel
theorem dX10_remove_5 : decode cX10_remove 5 = .ok (.ifCond .eq 11, 3) := by decide +kernel
theorem dX10_remove_8 : decode cX10_remove 8 = .ok (.aload_n 0, 1) := by decide +kernel
theorem dX10_remove_9 : decode cX10_remove 9 = .ok (.iload_n 2, 1) := by decide +kernel
theorem dX10_remove_10 : decode cX10_remove 10 = .ok (.invokevirtual 207, 3) := by decide +kernel
theorem dX10_remove_13 : decode cX10_remove 13 = .ok (.ifCond .ne 5, 3) := by decide +kernel
theorem dX10_remove_16 : decode cX10_remove 16 = .ok (.iconst (-1), 1) := by decide +kernel
theorem dX10_remove_17 : decode cX10_remove 17 = .ok (.ireturn, 1) := by decide +kernel
theorem dX10_remove_18 : decode cX10_remove 18 = .ok (.iload_n 1, 1) := by decide +kernel
theorem dX10_remove_19 : decode cX10_remove 19 = .ok (.iconst 4, 1) := by decide +kernel
theorem dX10_remove_20 : decode cX10_remove 20 = .ok (.imul, 1) := by decide +kernel
theorem dX10_remove_21 : decode cX10_remove 21 = .ok (.iload_n 2, 1) := by decide +kernel
theorem dX10_remove_22 : decode cX10_remove 22 = .ok (.iadd, 1) := by decide +kernel
theorem dX10_remove_23 : decode cX10_remove 23 = .ok (.istore_n 3, 1) := by decide +kernel
theorem dX10_remove_24 : decode cX10_remove 24 = .ok (.aload_n 0, 1) := by decide +kernel
theorem dX10_remove_25 : decode cX10_remove 25 = .ok (.getfield 22, 3) := by decide +kernel
theorem dX10_remove_28 : decode cX10_remove 28 = .ok (.getfield 213, 3) := by decide +kernel
theorem dX10_remove_31 : decode cX10_remove 31 = .ok (.iload_n 3, 1) := by decide +kernel
theorem dX10_remove_32 : decode cX10_remove 32 = .ok (.baload, 1) := by decide +kernel
theorem dX10_remove_33 : decode cX10_remove 33 = .ok (.ifCond .ne 6, 3) := by decide +kernel
theorem dX10_remove_36 : decode cX10_remove 36 = .ok (.bipush (-2), 2) := by decide +kernel
theorem dX10_remove_38 : decode cX10_remove 38 = .ok (.ireturn, 1) := by decide +kernel
theorem dX10_remove_39 : decode cX10_remove 39 = .ok (.aload_n 0, 1) := by decide +kernel
theorem dX10_remove_40 : decode cX10_remove 40 = .ok (.getfield 32, 3) := by decide +kernel
theorem dX10_remove_43 : decode cX10_remove 43 = .ok (.aload_n 0, 1) := by decide +kernel
theorem dX10_remove_44 : decode cX10_remove 44 = .ok (.getfield 22, 3) := by decide +kernel
theorem dX10_remove_47 : decode cX10_remove 47 = .ok (.invokevirtual 169, 3) := by decide +kernel
theorem dX10_remove_50 : decode cX10_remove 50 = .ok (.aload_n 0, 1) := by decide +kernel
theorem dX10_remove_51 : decode cX10_remove 51 = .ok (.getfield 22, 3) := by decide +kernel
theorem dX10_remove_54 : decode cX10_remove 54 = .ok (.getfield 213, 3) := by decide +kernel
theorem dX10_remove_57 : decode cX10_remove 57 = .ok (.iload_n 3, 1) := by decide +kernel
theorem dX10_remove_58 : decode cX10_remove 58 = .ok (.iconst 0, 1) := by decide +kernel
theorem dX10_remove_59 : decode cX10_remove 59 = .ok (.bastore, 1) := by decide +kernel
theorem dX10_remove_60 : decode cX10_remove 60 = .ok (.aload_n 0, 1) := by decide +kernel
theorem dX10_remove_61 : decode cX10_remove 61 = .ok (.getfield 82, 3) := by decide +kernel
theorem dX10_remove_64 : decode cX10_remove 64 = .ok (.invokevirtual 216, 3) := by decide +kernel
theorem dX10_remove_67 : decode cX10_remove 67 = .ok (.ireturn, 1) := by decide +kernel
theorem dX10_setCapacity_0 : decode cX10_setCapacity 0 = .ok (.aload_n 0, 1) := by decide +kernel
theorem dX10_setCapacity_1 : decode cX10_setCapacity 1 = .ok (.iload_n 1, 1) := by decide +kernel
theorem dX10_setCapacity_2 : decode cX10_setCapacity 2 = .ok (.invokevirtual 156, 3) := by decide +kernel
theorem dX10_setCapacity_5 : decode cX10_setCapacity 5 = .ok (.ifCond .eq 14, 3) := by decide +kernel
theorem dX10_setCapacity_8 : decode cX10_setCapacity 8 = .ok (.iload_n 2, 1) := by decide +kernel
theorem dX10_setCapacity_9 : decode cX10_setCapacity 9 = .ok (.ifCond .lt 10, 3) := by decide +kernel
theorem dX10_setCapacity_12 : decode cX10_setCapacity 12 = .ok (.iload_n 2, 1) := by decide +kernel
theorem dX10_setCapacity_13 : decode cX10_setCapacity 13 = .ok (.sipush 9999, 3) := by decide +kernel
theorem dX10_setCapacity_16 : decode cX10_setCapacity 16 = .ok (.if_icmp .le 5, 3) := by decide +kernel
theorem dX10_setCapacity_19 : decode cX10_setCapacity 19 = .ok (.iconst (-1), 1) := by decide +kernel
theorem dX10_setCapacity_20 : decode cX10_setCapacity 20 = .ok (.ireturn, 1) := by decide +kernel
theorem dX10_setCapacity_21 : decode cX10_setCapacity 21 = .ok (.aload_n 0, 1) := by decide +kernel
theorem dX10_setCapacity_22 : decode cX10_setCapacity 22 = .ok (.getfield 22, 3) := by decide +kernel
theorem dX10_setCapacity_25 : decode cX10_setCapacity 25 = .ok (.getfield 159, 3) := by decide +kernel
theorem dX10_setCapacity_28 : decode cX10_setCapacity 28 = .ok (.iload_n 1, 1) := by decide +kernel
theorem dX10_setCapacity_29 : decode cX10_setCapacity 29 = .ok (.iaload, 1) := by decide +kernel
theorem dX10_setCapacity_30 : decode cX10_setCapacity 30 = .ok (.iload_n 2, 1) := by decide +kernel
theorem dX10_setCapacity_31 : decode cX10_setCapacity 31 = .ok (.if_icmp .ne 6, 3) := by decide +kernel
theorem dX10_setCapacity_34 : decode cX10_setCapacity 34 = .ok (.bipush (-2), 2) := by decide +kernel
theorem dX10_setCapacity_36 : decode cX10_setCapacity 36 = .ok (.ireturn, 1) := by decide +kernel
theorem dX10_setCapacity_37 : decode cX10_setCapacity 37 = .ok (.aload_n 0, 1) := by decide +kernel
theorem dX10_setCapacity_38 : decode cX10_setCapacity 38 = .ok (.getfield 32, 3) := by decide +kernel
theorem dX10_setCapacity_41 : decode cX10_setCapacity 41 = .ok (.aload_n 0, 1) := by decide +kernel
theorem dX10_setCapacity_42 : decode cX10_setCapacity 42 = .ok (.getfield 22, 3) := by decide +kernel
theorem dX10_setCapacity_45 : decode cX10_setCapacity 45 = .ok (.invokevirtual 169, 3) := by decide +kernel
theorem dX10_setCapacity_48 : decode cX10_setCapacity 48 = .ok (.aload_n 0, 1) := by decide +kernel
theorem dX10_setCapacity_49 : decode cX10_setCapacity 49 = .ok (.getfield 22, 3) := by decide +kernel
theorem dX10_setCapacity_52 : decode cX10_setCapacity 52 = .ok (.getfield 159, 3) := by decide +kernel
theorem dX10_setCapacity_55 : decode cX10_setCapacity 55 = .ok (.iload_n 1, 1) := by decide +kernel
theorem dX10_setCapacity_56 : decode cX10_setCapacity 56 = .ok (.iload_n 2, 1) := by decide +kernel
theorem dX10_setCapacity_57 : decode cX10_setCapacity 57 = .ok (.iastore, 1) := by decide +kernel
theorem dX10_setCapacity_58 : decode cX10_setCapacity 58 = .ok (.aload_n 0, 1) := by decide +kernel
theorem dX10_setCapacity_59 : decode cX10_setCapacity 59 = .ok (.getfield 82, 3) := by decide +kernel
theorem dX10_setCapacity_62 : decode cX10_setCapacity 62 = .ok (.invokevirtual 216, 3) := by decide +kernel
theorem dX10_setCapacity_65 : decode cX10_setCapacity 65 = .ok (.ireturn, 1) := by decide +kernel
theorem dX10_setOpen_0 : decode cX10_setOpen 0 = .ok (.aload_n 0, 1) := by decide +kernel
theorem dX10_setOpen_1 : decode cX10_setOpen 1 = .ok (.iload_n 1, 1) := by decide +kernel
theorem dX10_setOpen_2 : decode cX10_setOpen 2 = .ok (.invokevirtual 156, 3) := by decide +kernel
theorem dX10_setOpen_5 : decode cX10_setOpen 5 = .ok (.ifCond .ne 5, 3) := by decide +kernel
theorem dX10_setOpen_8 : decode cX10_setOpen 8 = .ok (.iconst (-1), 1) := by decide +kernel
theorem dX10_setOpen_9 : decode cX10_setOpen 9 = .ok (.ireturn, 1) := by decide +kernel
theorem dX10_setOpen_10 : decode cX10_setOpen 10 = .ok (.aload_n 0, 1) := by decide +kernel
theorem dX10_setOpen_11 : decode cX10_setOpen 11 = .ok (.getfield 22, 3) := by decide +kernel
theorem dX10_setOpen_14 : decode cX10_setOpen 14 = .ok (.getfield 162, 3) := by decide +kernel
theorem dX10_setOpen_17 : decode cX10_setOpen 17 = .ok (.iload_n 1, 1) := by decide +kernel
theorem dX10_setOpen_18 : decode cX10_setOpen 18 = .ok (.baload, 1) := by decide +kernel
theorem dX10_setOpen_19 : decode cX10_setOpen 19 = .ok (.iload_n 2, 1) := by decide +kernel
theorem dX10_setOpen_20 : decode cX10_setOpen 20 = .ok (.if_icmp .ne 6, 3) := by decide +kernel
theorem dX10_setOpen_23 : decode cX10_setOpen 23 = .ok (.bipush (-2), 2) := by decide +kernel
theorem dX10_setOpen_25 : decode cX10_setOpen 25 = .ok (.ireturn, 1) := by decide +kernel
theorem dX10_setOpen_26 : decode cX10_setOpen 26 = .ok (.aload_n 0, 1) := by decide +kernel
theorem dX10_setOpen_27 : decode cX10_setOpen 27 = .ok (.getfield 32, 3) := by decide +kernel
theorem dX10_setOpen_30 : decode cX10_setOpen 30 = .ok (.aload_n 0, 1) := by decide +kernel
theorem dX10_setOpen_31 : decode cX10_setOpen 31 = .ok (.getfield 22, 3) := by decide +kernel
theorem dX10_setOpen_34 : decode cX10_setOpen 34 = .ok (.invokevirtual 169, 3) := by decide +kernel
theorem dX10_setOpen_37 : decode cX10_setOpen 37 = .ok (.iload_n 2, 1) := by decide +kernel
theorem dX10_setOpen_38 : decode cX10_setOpen 38 = .ok (.ifCond .eq 15, 3) := by decide +kernel
theorem dX10_setOpen_41 : decode cX10_setOpen 41 = .ok (.aload_n 0, 1) := by decide +kernel
theorem dX10_setOpen_42 : decode cX10_setOpen 42 = .ok (.getfield 22, 3) := by decide +kernel
theorem dX10_setOpen_45 : decode cX10_setOpen 45 = .ok (.getfield 162, 3) := by decide +kernel
theorem dX10_setOpen_48 : decode cX10_setOpen 48 = .ok (.iload_n 1, 1) := by decide +kernel
theorem dX10_setOpen_49 : decode cX10_setOpen 49 = .ok (.iconst 1, 1) := by decide +kernel
theorem dX10_setOpen_50 : decode cX10_setOpen 50 = .ok (.bastore, 1) := by decide +kernel
theorem dX10_setOpen_51 : decode cX10_setOpen 51 = .ok (.iconst 0, 1) := by decide +kernel
theorem dX10_setOpen_52 : decode cX10_setOpen 52 = .ok (.ireturn, 1) := by decide +kernel
theorem dX10_setOpen_53 : decode cX10_setOpen 53 = .ok (.aload_n 0, 1) := by decide +kernel
theorem dX10_setOpen_54 : decode cX10_setOpen 54 = .ok (.getfield 82, 3) := by decide +kernel
theorem dX10_setOpen_57 : decode cX10_setOpen 57 = .ok (.iload_n 1, 1) := by decide +kernel
theorem dX10_setOpen_58 : decode cX10_setOpen 58 = .ok (.invokevirtual 220, 3) := by decide +kernel
theorem dX10_setOpen_61 : decode cX10_setOpen 61 = .ok (.ireturn, 1) := by decide +kernel
theorem dX10_improve_0 : decode cX10_improve 0 = .ok (.aload_n 0, 1) := by decide +kernel
theorem dX10_improve_1 : decode cX10_improve 1 = .ok (.getfield 26, 3) := by decide +kernel
theorem dX10_improve_4 : decode cX10_improve 4 = .ok (.aload_n 0, 1) := by decide +kernel
theorem dX10_improve_5 : decode cX10_improve 5 = .ok (.getfield 22, 3) := by decide +kernel
theorem dX10_improve_8 : decode cX10_improve 8 = .ok (.invokevirtual 201, 3) := by decide +kernel
theorem dX10_improve_11 : decode cX10_improve 11 = .ok (.aload_n 0, 1) := by decide +kernel
theorem dX10_improve_12 : decode cX10_improve 12 = .ok (.getfield 82, 3) := by decide +kernel
theorem dX10_improve_15 : decode cX10_improve 15 = .ok (.invokevirtual 223, 3) := by decide +kernel
theorem dX10_improve_18 : decode cX10_improve 18 = .ok (.istore_n 1, 1) := by decide +kernel
theorem dX10_improve_19 : decode cX10_improve 19 = .ok (.iload_n 1, 1) := by decide +kernel
theorem dX10_improve_20 : decode cX10_improve 20 = .ok (.ifCond .ne 6, 3) := by decide +kernel
theorem dX10_improve_23 : decode cX10_improve 23 = .ok (.bipush (-2), 2) := by decide +kernel
theorem dX10_improve_25 : decode cX10_improve 25 = .ok (.ireturn, 1) := by decide +kernel
theorem dX10_improve_26 : decode cX10_improve 26 = .ok (.aload_n 0, 1) := by decide +kernel
theorem dX10_improve_27 : decode cX10_improve 27 = .ok (.getfield 32, 3) := by decide +kernel
theorem dX10_improve_30 : decode cX10_improve 30 = .ok (.aload_n 0, 1) := by decide +kernel
theorem dX10_improve_31 : decode cX10_improve 31 = .ok (.getfield 26, 3) := by decide +kernel
theorem dX10_improve_34 : decode cX10_improve 34 = .ok (.invokevirtual 169, 3) := by decide +kernel
theorem dX10_improve_37 : decode cX10_improve 37 = .ok (.iload_n 1, 1) := by decide +kernel
theorem dX10_improve_38 : decode cX10_improve 38 = .ok (.ireturn, 1) := by decide +kernel
theorem dX10_rebuild_0 : decode cX10_rebuild 0 = .ok (.aload_n 0, 1) := by decide +kernel
theorem dX10_rebuild_1 : decode cX10_rebuild 1 = .ok (.getfield 26, 3) := by decide +kernel
theorem dX10_rebuild_4 : decode cX10_rebuild 4 = .ok (.aload_n 0, 1) := by decide +kernel
theorem dX10_rebuild_5 : decode cX10_rebuild 5 = .ok (.getfield 22, 3) := by decide +kernel
theorem dX10_rebuild_8 : decode cX10_rebuild 8 = .ok (.invokevirtual 201, 3) := by decide +kernel
theorem dX10_rebuild_11 : decode cX10_rebuild 11 = .ok (.aload_n 0, 1) := by decide +kernel
theorem dX10_rebuild_12 : decode cX10_rebuild 12 = .ok (.getfield 82, 3) := by decide +kernel
theorem dX10_rebuild_15 : decode cX10_rebuild 15 = .ok (.invokevirtual 226, 3) := by decide +kernel
theorem dX10_rebuild_18 : decode cX10_rebuild 18 = .ok (.istore_n 1, 1) := by decide +kernel
theorem dX10_rebuild_19 : decode cX10_rebuild 19 = .ok (.iload_n 1, 1) := by decide +kernel
theorem dX10_rebuild_20 : decode cX10_rebuild 20 = .ok (.ifCond .gt 17, 3) := by decide +kernel
theorem dX10_rebuild_23 : decode cX10_rebuild 23 = .ok (.aload_n 0, 1) := by decide +kernel
theorem dX10_rebuild_24 : decode cX10_rebuild 24 = .ok (.getfield 22, 3) := by decide +kernel
theorem dX10_rebuild_27 : decode cX10_rebuild 27 = .ok (.aload_n 0, 1) := by decide +kernel
theorem dX10_rebuild_28 : decode cX10_rebuild 28 = .ok (.getfield 26, 3) := by decide +kernel
theorem dX10_rebuild_31 : decode cX10_rebuild 31 = .ok (.invokevirtual 201, 3) := by decide +kernel
theorem dX10_rebuild_34 : decode cX10_rebuild 34 = .ok (.bipush (-2), 2) := by decide +kernel
theorem dX10_rebuild_36 : decode cX10_rebuild 36 = .ok (.ireturn, 1) := by decide +kernel
theorem dX10_rebuild_37 : decode cX10_rebuild 37 = .ok (.aload_n 0, 1) := by decide +kernel
theorem dX10_rebuild_38 : decode cX10_rebuild 38 = .ok (.getfield 32, 3) := by decide +kernel
theorem dX10_rebuild_41 : decode cX10_rebuild 41 = .ok (.aload_n 0, 1) := by decide +kernel
theorem dX10_rebuild_42 : decode cX10_rebuild 42 = .ok (.getfield 26, 3) := by decide +kernel
theorem dX10_rebuild_45 : decode cX10_rebuild 45 = .ok (.invokevirtual 169, 3) := by decide +kernel
theorem dX10_rebuild_48 : decode cX10_rebuild 48 = .ok (.iload_n 1, 1) := by decide +kernel
theorem dX10_rebuild_49 : decode cX10_rebuild 49 = .ok (.ireturn, 1) := by decide +kernel
theorem dX10_undo_0 : decode cX10_undo 0 = .ok (.aload_n 0, 1) := by decide +kernel
theorem dX10_undo_1 : decode cX10_undo 1 = .ok (.getfield 32, 3) := by decide +kernel
theorem dX10_undo_4 : decode cX10_undo 4 = .ok (.getfield 229, 3) := by decide +kernel
theorem dX10_undo_7 : decode cX10_undo 7 = .ok (.ifCond .ne 5, 3) := by decide +kernel
theorem dX10_undo_10 : decode cX10_undo 10 = .ok (.iconst (-1), 1) := by decide +kernel
theorem dX10_undo_11 : decode cX10_undo 11 = .ok (.ireturn, 1) := by decide +kernel
theorem dX10_undo_12 : decode cX10_undo 12 = .ok (.aload_n 0, 1) := by decide +kernel
theorem dX10_undo_13 : decode cX10_undo 13 = .ok (.getfield 32, 3) := by decide +kernel
theorem dX10_undo_16 : decode cX10_undo 16 = .ok (.aload_n 0, 1) := by decide +kernel
theorem dX10_undo_17 : decode cX10_undo 17 = .ok (.getfield 22, 3) := by decide +kernel
theorem dX10_undo_20 : decode cX10_undo 20 = .ok (.invokevirtual 232, 3) := by decide +kernel
theorem dX10_undo_23 : decode cX10_undo 23 = .ok (.aload_n 0, 1) := by decide +kernel
theorem dX10_undo_24 : decode cX10_undo 24 = .ok (.getfield 32, 3) := by decide +kernel
theorem dX10_undo_27 : decode cX10_undo 27 = .ok (.getfield 229, 3) := by decide +kernel
theorem dX10_undo_30 : decode cX10_undo 30 = .ok (.ireturn, 1) := by decide +kernel
theorem dX10_receivers_0 : decode cX10_receivers 0 = .ok (.aload_n 0, 1) := by decide +kernel
theorem dX10_receivers_1 : decode cX10_receivers 1 = .ok (.getfield 22, 3) := by decide +kernel
theorem dX10_receivers_4 : decode cX10_receivers 4 = .ok (.getfield 166, 3) := by decide +kernel
theorem dX10_receivers_7 : decode cX10_receivers 7 = .ok (.ireturn, 1) := by decide +kernel
theorem dX10_hasLeft_0 : decode cX10_hasLeft 0 = .ok (.aload_n 0, 1) := by decide +kernel
theorem dX10_hasLeft_1 : decode cX10_hasLeft 1 = .ok (.iload_n 1, 1) := by decide +kernel
theorem dX10_hasLeft_2 : decode cX10_hasLeft 2 = .ok (.invokevirtual 235, 3) := by decide +kernel
theorem dX10_hasLeft_5 : decode cX10_hasLeft 5 = .ok (.ifCond .eq 19, 3) := by decide +kernel
theorem dX10_hasLeft_8 : decode cX10_hasLeft 8 = .ok (.aload_n 0, 1) := by decide +kernel
theorem dX10_hasLeft_9 : decode cX10_hasLeft 9 = .ok (.getfield 22, 3) := by decide +kernel
theorem dX10_hasLeft_12 : decode cX10_hasLeft 12 = .ok (.getfield 187, 3) := by decide +kernel
theorem dX10_hasLeft_15 : decode cX10_hasLeft 15 = .ok (.iload_n 1, 1) := by decide +kernel
theorem dX10_hasLeft_16 : decode cX10_hasLeft 16 = .ok (.baload, 1) := by decide +kernel
theorem dX10_hasLeft_17 : decode cX10_hasLeft 17 = .ok (.ifCond .eq 7, 3) := by decide +kernel
theorem dX10_hasLeft_20 : decode cX10_hasLeft 20 = .ok (.iconst 1, 1) := by decide +kernel
theorem dX10_hasLeft_21 : decode cX10_hasLeft 21 = .ok (.goto 4, 3) := by decide +kernel
theorem dX10_hasLeft_24 : decode cX10_hasLeft 24 = .ok (.iconst 0, 1) := by decide +kernel
theorem dX10_hasLeft_25 : decode cX10_hasLeft 25 = .ok (.ireturn, 1) := by decide +kernel
theorem dX10_level_0 : decode cX10_level 0 = .ok (.aload_n 0, 1) := by decide +kernel
theorem dX10_level_1 : decode cX10_level 1 = .ok (.iload_n 1, 1) := by decide +kernel
theorem dX10_level_2 : decode cX10_level 2 = .ok (.invokevirtual 235, 3) := by decide +kernel
theorem dX10_level_5 : decode cX10_level 5 = .ok (.ifCond .eq 15, 3) := by decide +kernel
theorem dX10_level_8 : decode cX10_level 8 = .ok (.aload_n 0, 1) := by decide +kernel
theorem dX10_level_9 : decode cX10_level 9 = .ok (.getfield 22, 3) := by decide +kernel
theorem dX10_level_12 : decode cX10_level 12 = .ok (.getfield 184, 3) := by decide +kernel
theorem dX10_level_15 : decode cX10_level 15 = .ok (.iload_n 1, 1) := by decide +kernel
theorem dX10_level_16 : decode cX10_level 16 = .ok (.iaload, 1) := by decide +kernel
theorem dX10_level_17 : decode cX10_level 17 = .ok (.goto 4, 3) := by decide +kernel
theorem dX10_level_20 : decode cX10_level 20 = .ok (.iconst (-1), 1) := by decide +kernel
theorem dX10_level_21 : decode cX10_level 21 = .ok (.ireturn, 1) := by decide +kernel
theorem dX10_wanted_0 : decode cX10_wanted 0 = .ok (.aload_n 0, 1) := by decide +kernel
theorem dX10_wanted_1 : decode cX10_wanted 1 = .ok (.iload_n 1, 1) := by decide +kernel
theorem dX10_wanted_2 : decode cX10_wanted 2 = .ok (.invokevirtual 181, 3) := by decide +kernel
theorem dX10_wanted_5 : decode cX10_wanted 5 = .ok (.ifCond .eq 15, 3) := by decide +kernel
theorem dX10_wanted_8 : decode cX10_wanted 8 = .ok (.aload_n 0, 1) := by decide +kernel
theorem dX10_wanted_9 : decode cX10_wanted 9 = .ok (.getfield 22, 3) := by decide +kernel
theorem dX10_wanted_12 : decode cX10_wanted 12 = .ok (.getfield 193, 3) := by decide +kernel
theorem dX10_wanted_15 : decode cX10_wanted 15 = .ok (.iload_n 1, 1) := by decide +kernel
theorem dX10_wanted_16 : decode cX10_wanted 16 = .ok (.iaload, 1) := by decide +kernel
theorem dX10_wanted_17 : decode cX10_wanted 17 = .ok (.goto 4, 3) := by decide +kernel
theorem dX10_wanted_20 : decode cX10_wanted 20 = .ok (.iconst (-1), 1) := by decide +kernel
theorem dX10_wanted_21 : decode cX10_wanted 21 = .ok (.ireturn, 1) := by decide +kernel
theorem dX10_servedAt_0 : decode cX10_servedAt 0 = .ok (.aload_n 0, 1) := by decide +kernel
theorem dX10_servedAt_1 : decode cX10_servedAt 1 = .ok (.iload_n 1, 1) := by decide +kernel
theorem dX10_servedAt_2 : decode cX10_servedAt 2 = .ok (.invokevirtual 181, 3) := by decide +kernel
theorem dX10_servedAt_5 : decode cX10_servedAt 5 = .ok (.ifCond .ne 5, 3) := by decide +kernel
theorem dX10_servedAt_8 : decode cX10_servedAt 8 = .ok (.iconst (-1), 1) := by decide +kernel
theorem dX10_servedAt_9 : decode cX10_servedAt 9 = .ok (.ireturn, 1) := by decide +kernel
theorem dX10_servedAt_10 : decode cX10_servedAt 10 = .ok (.aload_n 0, 1) := by decide +kernel
theorem dX10_servedAt_11 : decode cX10_servedAt 11 = .ok (.getfield 57, 3) := by decide +kernel
theorem dX10_servedAt_14 : decode cX10_servedAt 14 = .ok (.iload_n 1, 1) := by decide +kernel
theorem dX10_servedAt_15 : decode cX10_servedAt 15 = .ok (.invokevirtual 238, 3) := by decide +kernel
theorem dX10_servedAt_18 : decode cX10_servedAt 18 = .ok (.istore_n 2, 1) := by decide +kernel
theorem dX10_servedAt_19 : decode cX10_servedAt 19 = .ok (.iload_n 2, 1) := by decide +kernel
theorem dX10_servedAt_20 : decode cX10_servedAt 20 = .ok (.iconst (-1), 1) := by decide +kernel
theorem dX10_servedAt_21 : decode cX10_servedAt 21 = .ok (.if_icmp .ne 8, 3) := by decide +kernel
theorem dX10_servedAt_24 : decode cX10_servedAt 24 = .ok (.bipush (-2), 2) := by decide +kernel
theorem dX10_servedAt_26 : decode cX10_servedAt 26 = .ok (.goto 4, 3) := by decide +kernel
theorem dX10_servedAt_29 : decode cX10_servedAt 29 = .ok (.iload_n 2, 1) := by decide +kernel
theorem dX10_servedAt_30 : decode cX10_servedAt 30 = .ok (.ireturn, 1) := by decide +kernel
theorem dX10_pathNode_0 : decode cX10_pathNode 0 = .ok (.aload_n 0, 1) := by decide +kernel
theorem dX10_pathNode_1 : decode cX10_pathNode 1 = .ok (.iload_n 1, 1) := by decide +kernel
theorem dX10_pathNode_2 : decode cX10_pathNode 2 = .ok (.invokevirtual 181, 3) := by decide +kernel
theorem dX10_pathNode_5 : decode cX10_pathNode 5 = .ok (.ifCond .eq 7, 3) := by decide +kernel
theorem dX10_pathNode_8 : decode cX10_pathNode 8 = .ok (.iload_n 2, 1) := by decide +kernel
theorem dX10_pathNode_9 : decode cX10_pathNode 9 = .ok (.ifCond .ge 5, 3) := by decide +kernel
theorem dX10_pathNode_12 : decode cX10_pathNode 12 = .ok (.iconst (-1), 1) := by decide +kernel
theorem dX10_pathNode_13 : decode cX10_pathNode 13 = .ok (.ireturn, 1) := by decide +kernel
theorem dX10_pathNode_14 : decode cX10_pathNode 14 = .ok (.aload_n 0, 1) := by decide +kernel
theorem dX10_pathNode_15 : decode cX10_pathNode 15 = .ok (.getfield 57, 3) := by decide +kernel
theorem dX10_pathNode_18 : decode cX10_pathNode 18 = .ok (.iload_n 1, 1) := by decide +kernel
theorem dX10_pathNode_19 : decode cX10_pathNode 19 = .ok (.invokevirtual 241, 3) := by decide +kernel
theorem dX10_pathNode_22 : decode cX10_pathNode 22 = .ok (.istore_n 3, 1) := by decide +kernel
theorem dX10_pathNode_23 : decode cX10_pathNode 23 = .ok (.iconst 0, 1) := by decide +kernel
theorem dX10_pathNode_24 : decode cX10_pathNode 24 = .ok (.istore 4, 2) := by decide +kernel
theorem dX10_pathNode_26 : decode cX10_pathNode 26 = .ok (.iload 4, 2) := by decide +kernel
theorem dX10_pathNode_28 : decode cX10_pathNode 28 = .ok (.iload_n 2, 1) := by decide +kernel
theorem dX10_pathNode_29 : decode cX10_pathNode 29 = .ok (.if_icmp .ge 31, 3) := by decide +kernel
theorem dX10_pathNode_32 : decode cX10_pathNode 32 = .ok (.iload 4, 2) := by decide +kernel
theorem dX10_pathNode_34 : decode cX10_pathNode 34 = .ok (.bipush 16, 2) := by decide +kernel
theorem dX10_pathNode_36 : decode cX10_pathNode 36 = .ok (.if_icmp .ge 24, 3) := by decide +kernel
theorem dX10_pathNode_39 : decode cX10_pathNode 39 = .ok (.iload_n 3, 1) := by decide +kernel
theorem dX10_pathNode_40 : decode cX10_pathNode 40 = .ok (.iconst (-1), 1) := by decide +kernel
theorem dX10_pathNode_41 : decode cX10_pathNode 41 = .ok (.if_icmp .eq 19, 3) := by decide +kernel
theorem dX10_pathNode_44 : decode cX10_pathNode 44 = .ok (.aload_n 0, 1) := by decide +kernel
theorem dX10_pathNode_45 : decode cX10_pathNode 45 = .ok (.getfield 22, 3) := by decide +kernel
theorem dX10_pathNode_48 : decode cX10_pathNode 48 = .ok (.getfield 244, 3) := by decide +kernel
theorem dX10_pathNode_51 : decode cX10_pathNode 51 = .ok (.iload_n 3, 1) := by decide +kernel
theorem dX10_pathNode_52 : decode cX10_pathNode 52 = .ok (.iaload, 1) := by decide +kernel
theorem dX10_pathNode_53 : decode cX10_pathNode 53 = .ok (.istore_n 3, 1) := by decide +kernel
theorem dX10_pathNode_54 : decode cX10_pathNode 54 = .ok (.iinc 4 1, 3) := by decide +kernel
theorem dX10_pathNode_57 : decode cX10_pathNode 57 = .ok (.goto (-31), 3) := by decide +kernel
theorem dX10_pathNode_60 : decode cX10_pathNode 60 = .ok (.iload_n 3, 1) := by decide +kernel
theorem dX10_pathNode_61 : decode cX10_pathNode 61 = .ok (.iconst (-1), 1) := by decide +kernel
theorem dX10_pathNode_62 : decode cX10_pathNode 62 = .ok (.if_icmp .ne 8, 3) := by decide +kernel
theorem dX10_pathNode_65 : decode cX10_pathNode 65 = .ok (.bipush (-2), 2) := by decide +kernel
theorem dX10_pathNode_67 : decode cX10_pathNode 67 = .ok (.goto 4, 3) := by decide +kernel
theorem dX10_pathNode_70 : decode cX10_pathNode 70 = .ok (.iload_n 3, 1) := by decide +kernel
theorem dX10_pathNode_71 : decode cX10_pathNode 71 = .ok (.ireturn, 1) := by decide +kernel
theorem dX10_bottleneck_0 : decode cX10_bottleneck 0 = .ok (.aload_n 0, 1) := by decide +kernel
theorem dX10_bottleneck_1 : decode cX10_bottleneck 1 = .ok (.iload_n 1, 1) := by decide +kernel
theorem dX10_bottleneck_2 : decode cX10_bottleneck 2 = .ok (.invokevirtual 181, 3) := by decide +kernel
theorem dX10_bottleneck_5 : decode cX10_bottleneck 5 = .ok (.ifCond .ne 5, 3) := by decide +kernel
theorem dX10_bottleneck_8 : decode cX10_bottleneck 8 = .ok (.iconst (-1), 1) := by decide +kernel
theorem dX10_bottleneck_9 : decode cX10_bottleneck 9 = .ok (.ireturn, 1) := by decide +kernel
theorem dX10_bottleneck_10 : decode cX10_bottleneck 10 = .ok (.aload_n 0, 1) := by decide +kernel
theorem dX10_bottleneck_11 : decode cX10_bottleneck 11 = .ok (.getfield 66, 3) := by decide +kernel
theorem dX10_bottleneck_14 : decode cX10_bottleneck 14 = .ok (.invokevirtual 247, 3) := by decide +kernel
theorem dX10_bottleneck_17 : decode cX10_bottleneck 17 = .ok (.bipush (-2), 2) := by decide +kernel
theorem dX10_bottleneck_19 : decode cX10_bottleneck 19 = .ok (.istore_n 2, 1) := by decide +kernel
theorem dX10_bottleneck_20 : decode cX10_bottleneck 20 = .ok (.iconst 0, 1) := by decide +kernel
theorem dX10_bottleneck_21 : decode cX10_bottleneck 21 = .ok (.istore_n 3, 1) := by decide +kernel
theorem dX10_bottleneck_22 : decode cX10_bottleneck 22 = .ok (.aload_n 0, 1) := by decide +kernel
theorem dX10_bottleneck_23 : decode cX10_bottleneck 23 = .ok (.getfield 57, 3) := by decide +kernel
theorem dX10_bottleneck_26 : decode cX10_bottleneck 26 = .ok (.iload_n 1, 1) := by decide +kernel
theorem dX10_bottleneck_27 : decode cX10_bottleneck 27 = .ok (.invokevirtual 241, 3) := by decide +kernel
theorem dX10_bottleneck_30 : decode cX10_bottleneck 30 = .ok (.istore 4, 2) := by decide +kernel
theorem dX10_bottleneck_32 : decode cX10_bottleneck 32 = .ok (.iconst 0, 1) := by decide +kernel
theorem dX10_bottleneck_33 : decode cX10_bottleneck 33 = .ok (.istore 5, 2) := by decide +kernel
theorem dX10_bottleneck_35 : decode cX10_bottleneck 35 = .ok (.iload 5, 2) := by decide +kernel
theorem dX10_bottleneck_37 : decode cX10_bottleneck 37 = .ok (.bipush 16, 2) := by decide +kernel
theorem dX10_bottleneck_39 : decode cX10_bottleneck 39 = .ok (.if_icmp .ge 96, 3) := by decide +kernel
theorem dX10_bottleneck_42 : decode cX10_bottleneck 42 = .ok (.iload 4, 2) := by decide +kernel
theorem dX10_bottleneck_44 : decode cX10_bottleneck 44 = .ok (.ifCond .le 91, 3) := by decide +kernel
theorem dX10_bottleneck_47 : decode cX10_bottleneck 47 = .ok (.aload_n 0, 1) := by decide +kernel
theorem dX10_bottleneck_48 : decode cX10_bottleneck 48 = .ok (.getfield 57, 3) := by decide +kernel
theorem dX10_bottleneck_51 : decode cX10_bottleneck 51 = .ok (.iload 4, 2) := by decide +kernel
theorem dX10_bottleneck_53 : decode cX10_bottleneck 53 = .ok (.invokevirtual 250, 3) := by decide +kernel
theorem dX10_bottleneck_56 : decode cX10_bottleneck 56 = .ok (.istore 6, 2) := by decide +kernel
theorem dX10_bottleneck_58 : decode cX10_bottleneck 58 = .ok (.iload 6, 2) := by decide +kernel
theorem dX10_bottleneck_60 : decode cX10_bottleneck 60 = .ok (.iconst (-1), 1) := by decide +kernel
theorem dX10_bottleneck_61 : decode cX10_bottleneck 61 = .ok (.if_icmp .eq 56, 3) := by decide +kernel
theorem dX10_bottleneck_64 : decode cX10_bottleneck 64 = .ok (.aload_n 0, 1) := by decide +kernel
theorem dX10_bottleneck_65 : decode cX10_bottleneck 65 = .ok (.getfield 22, 3) := by decide +kernel
theorem dX10_bottleneck_68 : decode cX10_bottleneck 68 = .ok (.getfield 159, 3) := by decide +kernel
theorem dX10_bottleneck_71 : decode cX10_bottleneck 71 = .ok (.iload 6, 2) := by decide +kernel
theorem dX10_bottleneck_73 : decode cX10_bottleneck 73 = .ok (.iaload, 1) := by decide +kernel
theorem dX10_bottleneck_74 : decode cX10_bottleneck 74 = .ok (.aload_n 0, 1) := by decide +kernel
theorem dX10_bottleneck_75 : decode cX10_bottleneck 75 = .ok (.getfield 66, 3) := by decide +kernel
theorem dX10_bottleneck_78 : decode cX10_bottleneck 78 = .ok (.getfield 253, 3) := by decide +kernel
theorem dX10_bottleneck_81 : decode cX10_bottleneck 81 = .ok (.iload 6, 2) := by decide +kernel
theorem dX10_bottleneck_83 : decode cX10_bottleneck 83 = .ok (.iaload, 1) := by decide +kernel
theorem dX10_bottleneck_84 : decode cX10_bottleneck 84 = .ok (.isub, 1) := by decide +kernel
theorem dX10_bottleneck_85 : decode cX10_bottleneck 85 = .ok (.istore 7, 2) := by decide +kernel
theorem dX10_bottleneck_87 : decode cX10_bottleneck 87 = .ok (.iload_n 2, 1) := by decide +kernel
theorem dX10_bottleneck_88 : decode cX10_bottleneck 88 = .ok (.bipush (-2), 2) := by decide +kernel
theorem dX10_bottleneck_90 : decode cX10_bottleneck 90 = .ok (.if_icmp .eq 21, 3) := by decide +kernel
theorem dX10_bottleneck_93 : decode cX10_bottleneck 93 = .ok (.iload 7, 2) := by decide +kernel
theorem dX10_bottleneck_95 : decode cX10_bottleneck 95 = .ok (.iload_n 3, 1) := by decide +kernel
theorem dX10_bottleneck_96 : decode cX10_bottleneck 96 = .ok (.if_icmp .lt 15, 3) := by decide +kernel
theorem dX10_bottleneck_99 : decode cX10_bottleneck 99 = .ok (.iload 7, 2) := by decide +kernel
theorem dX10_bottleneck_101 : decode cX10_bottleneck 101 = .ok (.iload_n 3, 1) := by decide +kernel
theorem dX10_bottleneck_102 : decode cX10_bottleneck 102 = .ok (.if_icmp .ne 15, 3) := by decide +kernel
theorem dX10_bottleneck_105 : decode cX10_bottleneck 105 = .ok (.iload 6, 2) := by decide +kernel
theorem dX10_bottleneck_107 : decode cX10_bottleneck 107 = .ok (.iload_n 2, 1) := by decide +kernel
theorem dX10_bottleneck_108 : decode cX10_bottleneck 108 = .ok (.if_icmp .ge 9, 3) := by decide +kernel
theorem dX10_bottleneck_111 : decode cX10_bottleneck 111 = .ok (.iload 6, 2) := by decide +kernel
theorem dX10_bottleneck_113 : decode cX10_bottleneck 113 = .ok (.istore_n 2, 1) := by decide +kernel
theorem dX10_bottleneck_114 : decode cX10_bottleneck 114 = .ok (.iload 7, 2) := by decide +kernel
theorem dX10_bottleneck_116 : decode cX10_bottleneck 116 = .ok (.istore_n 3, 1) := by decide +kernel
theorem dX10_bottleneck_117 : decode cX10_bottleneck 117 = .ok (.aload_n 0, 1) := by decide +kernel
theorem dX10_bottleneck_118 : decode cX10_bottleneck 118 = .ok (.getfield 22, 3) := by decide +kernel
theorem dX10_bottleneck_121 : decode cX10_bottleneck 121 = .ok (.getfield 244, 3) := by decide +kernel
theorem dX10_bottleneck_124 : decode cX10_bottleneck 124 = .ok (.iload 4, 2) := by decide +kernel
theorem dX10_bottleneck_126 : decode cX10_bottleneck 126 = .ok (.iaload, 1) := by decide +kernel
theorem dX10_bottleneck_127 : decode cX10_bottleneck 127 = .ok (.istore 4, 2) := by decide +kernel
theorem dX10_bottleneck_129 : decode cX10_bottleneck 129 = .ok (.iinc 5 1, 3) := by decide +kernel
theorem dX10_bottleneck_132 : decode cX10_bottleneck 132 = .ok (.goto (-97), 3) := by decide +kernel
theorem dX10_bottleneck_135 : decode cX10_bottleneck 135 = .ok (.iload_n 2, 1) := by decide +kernel
theorem dX10_bottleneck_136 : decode cX10_bottleneck 136 = .ok (.ireturn, 1) := by decide +kernel
theorem dX10_shared_0 : decode cX10_shared 0 = .ok (.aload_n 0, 1) := by decide +kernel
theorem dX10_shared_1 : decode cX10_shared 1 = .ok (.iload_n 1, 1) := by decide +kernel
theorem dX10_shared_2 : decode cX10_shared 2 = .ok (.invokevirtual 181, 3) := by decide +kernel
theorem dX10_shared_5 : decode cX10_shared 5 = .ok (.ifCond .eq 11, 3) := by decide +kernel
theorem dX10_shared_8 : decode cX10_shared 8 = .ok (.aload_n 0, 1) := by decide +kernel
theorem dX10_shared_9 : decode cX10_shared 9 = .ok (.iload_n 2, 1) := by decide +kernel
theorem dX10_shared_10 : decode cX10_shared 10 = .ok (.invokevirtual 181, 3) := by decide +kernel
theorem dX10_shared_13 : decode cX10_shared 13 = .ok (.ifCond .ne 5, 3) := by decide +kernel
theorem dX10_shared_16 : decode cX10_shared 16 = .ok (.iconst (-1), 1) := by decide +kernel
theorem dX10_shared_17 : decode cX10_shared 17 = .ok (.ireturn, 1) := by decide +kernel
theorem dX10_shared_18 : decode cX10_shared 18 = .ok (.aload_n 0, 1) := by decide +kernel
theorem dX10_shared_19 : decode cX10_shared 19 = .ok (.getfield 57, 3) := by decide +kernel
theorem dX10_shared_22 : decode cX10_shared 22 = .ok (.iload_n 1, 1) := by decide +kernel
theorem dX10_shared_23 : decode cX10_shared 23 = .ok (.invokevirtual 256, 3) := by decide +kernel
theorem dX10_shared_26 : decode cX10_shared 26 = .ok (.aload_n 0, 1) := by decide +kernel
theorem dX10_shared_27 : decode cX10_shared 27 = .ok (.getfield 57, 3) := by decide +kernel
theorem dX10_shared_30 : decode cX10_shared 30 = .ok (.iload_n 2, 1) := by decide +kernel
theorem dX10_shared_31 : decode cX10_shared 31 = .ok (.invokevirtual 256, 3) := by decide +kernel
theorem dX10_shared_34 : decode cX10_shared 34 = .ok (.iand, 1) := by decide +kernel
theorem dX10_shared_35 : decode cX10_shared 35 = .ok (.istore_n 3, 1) := by decide +kernel
theorem dX10_shared_36 : decode cX10_shared 36 = .ok (.iload_n 3, 1) := by decide +kernel
theorem dX10_shared_37 : decode cX10_shared 37 = .ok (.bipush (-2), 2) := by decide +kernel
theorem dX10_shared_39 : decode cX10_shared 39 = .ok (.iand, 1) := by decide +kernel
theorem dX10_shared_40 : decode cX10_shared 40 = .ok (.invokestatic 259, 3) := by decide +kernel
theorem dX10_shared_43 : decode cX10_shared 43 = .ok (.ireturn, 1) := by decide +kernel
theorem dX10_neediest_0 : decode cX10_neediest 0 = .ok (.bipush (-2), 2) := by decide +kernel
theorem dX10_neediest_2 : decode cX10_neediest 2 = .ok (.istore_n 1, 1) := by decide +kernel
theorem dX10_neediest_3 : decode cX10_neediest 3 = .ok (.iconst 0, 1) := by decide +kernel
theorem dX10_neediest_4 : decode cX10_neediest 4 = .ok (.istore_n 2, 1) := by decide +kernel
theorem dX10_neediest_5 : decode cX10_neediest 5 = .ok (.iconst 0, 1) := by decide +kernel
theorem dX10_neediest_6 : decode cX10_neediest 6 = .ok (.istore_n 3, 1) := by decide +kernel
theorem dX10_neediest_7 : decode cX10_neediest 7 = .ok (.iload_n 3, 1) := by decide +kernel
theorem dX10_neediest_8 : decode cX10_neediest 8 = .ok (.aload_n 0, 1) := by decide +kernel
theorem dX10_neediest_9 : decode cX10_neediest 9 = .ok (.getfield 22, 3) := by decide +kernel
theorem dX10_neediest_12 : decode cX10_neediest 12 = .ok (.getfield 166, 3) := by decide +kernel
theorem dX10_neediest_15 : decode cX10_neediest 15 = .ok (.if_icmp .ge 57, 3) := by decide +kernel
theorem dX10_neediest_18 : decode cX10_neediest 18 = .ok (.aload_n 0, 1) := by decide +kernel
theorem dX10_neediest_19 : decode cX10_neediest 19 = .ok (.getfield 22, 3) := by decide +kernel
theorem dX10_neediest_22 : decode cX10_neediest 22 = .ok (.getfield 187, 3) := by decide +kernel
theorem dX10_neediest_25 : decode cX10_neediest 25 = .ok (.iload_n 3, 1) := by decide +kernel
theorem dX10_neediest_26 : decode cX10_neediest 26 = .ok (.baload, 1) := by decide +kernel
theorem dX10_neediest_27 : decode cX10_neediest 27 = .ok (.ifCond .eq 7, 3) := by decide +kernel
theorem dX10_neediest_30 : decode cX10_neediest 30 = .ok (.iconst 0, 1) := by decide +kernel
theorem dX10_neediest_31 : decode cX10_neediest 31 = .ok (.goto 22, 3) := by decide +kernel
theorem dX10_neediest_34 : decode cX10_neediest 34 = .ok (.aload_n 0, 1) := by decide +kernel
theorem dX10_neediest_35 : decode cX10_neediest 35 = .ok (.getfield 22, 3) := by decide +kernel
theorem dX10_neediest_38 : decode cX10_neediest 38 = .ok (.getfield 193, 3) := by decide +kernel
theorem dX10_neediest_41 : decode cX10_neediest 41 = .ok (.iload_n 3, 1) := by decide +kernel
theorem dX10_neediest_42 : decode cX10_neediest 42 = .ok (.iaload, 1) := by decide +kernel
theorem dX10_neediest_43 : decode cX10_neediest 43 = .ok (.aload_n 0, 1) := by decide +kernel
theorem dX10_neediest_44 : decode cX10_neediest 44 = .ok (.getfield 22, 3) := by decide +kernel
theorem dX10_neediest_47 : decode cX10_neediest 47 = .ok (.getfield 184, 3) := by decide +kernel
theorem dX10_neediest_50 : decode cX10_neediest 50 = .ok (.iload_n 3, 1) := by decide +kernel
theorem dX10_neediest_51 : decode cX10_neediest 51 = .ok (.iaload, 1) := by decide +kernel
theorem dX10_neediest_52 : decode cX10_neediest 52 = .ok (.isub, 1) := by decide +kernel
theorem dX10_neediest_53 : decode cX10_neediest 53 = .ok (.istore 4, 2) := by decide +kernel
theorem dX10_neediest_55 : decode cX10_neediest 55 = .ok (.iload 4, 2) := by decide +kernel
theorem dX10_neediest_57 : decode cX10_neediest 57 = .ok (.iload_n 2, 1) := by decide +kernel
theorem dX10_neediest_58 : decode cX10_neediest 58 = .ok (.if_icmp .le 8, 3) := by decide +kernel
theorem dX10_neediest_61 : decode cX10_neediest 61 = .ok (.iload_n 3, 1) := by decide +kernel
theorem dX10_neediest_62 : decode cX10_neediest 62 = .ok (.istore_n 1, 1) := by decide +kernel
theorem dX10_neediest_63 : decode cX10_neediest 63 = .ok (.iload 4, 2) := by decide +kernel
theorem dX10_neediest_65 : decode cX10_neediest 65 = .ok (.istore_n 2, 1) := by decide +kernel
theorem dX10_neediest_66 : decode cX10_neediest 66 = .ok (.iinc 3 1, 3) := by decide +kernel
theorem dX10_neediest_69 : decode cX10_neediest 69 = .ok (.goto (-62), 3) := by decide +kernel
theorem dX10_neediest_72 : decode cX10_neediest 72 = .ok (.iload_n 1, 1) := by decide +kernel
theorem dX10_neediest_73 : decode cX10_neediest 73 = .ok (.ireturn, 1) := by decide +kernel
theorem dX10_isInTree_0 : decode cX10_isInTree 0 = .ok (.aload_n 0, 1) := by decide +kernel
theorem dX10_isInTree_1 : decode cX10_isInTree 1 = .ok (.iload_n 1, 1) := by decide +kernel
theorem dX10_isInTree_2 : decode cX10_isInTree 2 = .ok (.invokevirtual 149, 3) := by decide +kernel
theorem dX10_isInTree_5 : decode cX10_isInTree 5 = .ok (.ifCond .eq 19, 3) := by decide +kernel
theorem dX10_isInTree_8 : decode cX10_isInTree 8 = .ok (.aload_n 0, 1) := by decide +kernel
theorem dX10_isInTree_9 : decode cX10_isInTree 9 = .ok (.getfield 22, 3) := by decide +kernel
theorem dX10_isInTree_12 : decode cX10_isInTree 12 = .ok (.getfield 264, 3) := by decide +kernel
theorem dX10_isInTree_15 : decode cX10_isInTree 15 = .ok (.iload_n 1, 1) := by decide +kernel
theorem dX10_isInTree_16 : decode cX10_isInTree 16 = .ok (.baload, 1) := by decide +kernel
theorem dX10_isInTree_17 : decode cX10_isInTree 17 = .ok (.ifCond .eq 7, 3) := by decide +kernel
theorem dX10_isInTree_20 : decode cX10_isInTree 20 = .ok (.iconst 1, 1) := by decide +kernel
theorem dX10_isInTree_21 : decode cX10_isInTree 21 = .ok (.goto 4, 3) := by decide +kernel
theorem dX10_isInTree_24 : decode cX10_isInTree 24 = .ok (.iconst 0, 1) := by decide +kernel
theorem dX10_isInTree_25 : decode cX10_isInTree 25 = .ok (.ireturn, 1) := by decide +kernel
theorem dX10_parent_0 : decode cX10_parent 0 = .ok (.aload_n 0, 1) := by decide +kernel
theorem dX10_parent_1 : decode cX10_parent 1 = .ok (.iload_n 1, 1) := by decide +kernel
theorem dX10_parent_2 : decode cX10_parent 2 = .ok (.invokevirtual 149, 3) := by decide +kernel
theorem dX10_parent_5 : decode cX10_parent 5 = .ok (.ifCond .ne 5, 3) := by decide +kernel
theorem dX10_parent_8 : decode cX10_parent 8 = .ok (.iconst (-1), 1) := by decide +kernel
theorem dX10_parent_9 : decode cX10_parent 9 = .ok (.ireturn, 1) := by decide +kernel
theorem dX10_parent_10 : decode cX10_parent 10 = .ok (.aload_n 0, 1) := by decide +kernel
theorem dX10_parent_11 : decode cX10_parent 11 = .ok (.getfield 22, 3) := by decide +kernel
theorem dX10_parent_14 : decode cX10_parent 14 = .ok (.getfield 244, 3) := by decide +kernel
theorem dX10_parent_17 : decode cX10_parent 17 = .ok (.iload_n 1, 1) := by decide +kernel
theorem dX10_parent_18 : decode cX10_parent 18 = .ok (.iaload, 1) := by decide +kernel
theorem dX10_parent_19 : decode cX10_parent 19 = .ok (.istore_n 2, 1) := by decide +kernel
theorem dX10_parent_20 : decode cX10_parent 20 = .ok (.iload_n 2, 1) := by decide +kernel
theorem dX10_parent_21 : decode cX10_parent 21 = .ok (.iconst (-1), 1) := by decide +kernel
theorem dX10_parent_22 : decode cX10_parent 22 = .ok (.if_icmp .ne 8, 3) := by decide +kernel
theorem dX10_parent_25 : decode cX10_parent 25 = .ok (.bipush (-2), 2) := by decide +kernel
theorem dX10_parent_27 : decode cX10_parent 27 = .ok (.goto 4, 3) := by decide +kernel
theorem dX10_parent_30 : decode cX10_parent 30 = .ok (.iload_n 2, 1) := by decide +kernel
theorem dX10_parent_31 : decode cX10_parent 31 = .ok (.ireturn, 1) := by decide +kernel
theorem dX10_delay_0 : decode cX10_delay 0 = .ok (.aload_n 0, 1) := by decide +kernel
theorem dX10_delay_1 : decode cX10_delay 1 = .ok (.iload_n 1, 1) := by decide +kernel
theorem dX10_delay_2 : decode cX10_delay 2 = .ok (.invokevirtual 149, 3) := by decide +kernel
theorem dX10_delay_5 : decode cX10_delay 5 = .ok (.ifCond .ne 5, 3) := by decide +kernel
theorem dX10_delay_8 : decode cX10_delay 8 = .ok (.iconst (-1), 1) := by decide +kernel
theorem dX10_delay_9 : decode cX10_delay 9 = .ok (.ireturn, 1) := by decide +kernel
theorem dX10_delay_10 : decode cX10_delay 10 = .ok (.aload_n 0, 1) := by decide +kernel
theorem dX10_delay_11 : decode cX10_delay 11 = .ok (.getfield 22, 3) := by decide +kernel
theorem dX10_delay_14 : decode cX10_delay 14 = .ok (.getfield 264, 3) := by decide +kernel
theorem dX10_delay_17 : decode cX10_delay 17 = .ok (.iload_n 1, 1) := by decide +kernel
theorem dX10_delay_18 : decode cX10_delay 18 = .ok (.baload, 1) := by decide +kernel
theorem dX10_delay_19 : decode cX10_delay 19 = .ok (.ifCond .eq 14, 3) := by decide +kernel
theorem dX10_delay_22 : decode cX10_delay 22 = .ok (.aload_n 0, 1) := by decide +kernel
theorem dX10_delay_23 : decode cX10_delay 23 = .ok (.getfield 57, 3) := by decide +kernel
theorem dX10_delay_26 : decode cX10_delay 26 = .ok (.iload_n 1, 1) := by decide +kernel
theorem dX10_delay_27 : decode cX10_delay 27 = .ok (.invokevirtual 267, 3) := by decide +kernel
theorem dX10_delay_30 : decode cX10_delay 30 = .ok (.goto 5, 3) := by decide +kernel
theorem dX10_delay_33 : decode cX10_delay 33 = .ok (.bipush (-2), 2) := by decide +kernel
theorem dX10_delay_35 : decode cX10_delay 35 = .ok (.ireturn, 1) := by decide +kernel
theorem dX10_below_0 : decode cX10_below 0 = .ok (.aload_n 0, 1) := by decide +kernel
theorem dX10_below_1 : decode cX10_below 1 = .ok (.iload_n 1, 1) := by decide +kernel
theorem dX10_below_2 : decode cX10_below 2 = .ok (.invokevirtual 149, 3) := by decide +kernel
theorem dX10_below_5 : decode cX10_below 5 = .ok (.ifCond .ne 5, 3) := by decide +kernel
theorem dX10_below_8 : decode cX10_below 8 = .ok (.iconst (-1), 1) := by decide +kernel
theorem dX10_below_9 : decode cX10_below 9 = .ok (.ireturn, 1) := by decide +kernel
theorem dX10_below_10 : decode cX10_below 10 = .ok (.aload_n 0, 1) := by decide +kernel
theorem dX10_below_11 : decode cX10_below 11 = .ok (.getfield 22, 3) := by decide +kernel
theorem dX10_below_14 : decode cX10_below 14 = .ok (.getfield 264, 3) := by decide +kernel
theorem dX10_below_17 : decode cX10_below 17 = .ok (.iload_n 1, 1) := by decide +kernel
theorem dX10_below_18 : decode cX10_below 18 = .ok (.baload, 1) := by decide +kernel
theorem dX10_below_19 : decode cX10_below 19 = .ok (.ifCond .eq 19, 3) := by decide +kernel
theorem dX10_below_22 : decode cX10_below 22 = .ok (.aload_n 0, 1) := by decide +kernel
theorem dX10_below_23 : decode cX10_below 23 = .ok (.getfield 57, 3) := by decide +kernel
theorem dX10_below_26 : decode cX10_below 26 = .ok (.iload_n 1, 1) := by decide +kernel
theorem dX10_below_27 : decode cX10_below 27 = .ok (.invokevirtual 270, 3) := by decide +kernel
theorem dX10_below_30 : decode cX10_below 30 = .ok (.invokestatic 259, 3) := by decide +kernel
theorem dX10_below_33 : decode cX10_below 33 = .ok (.iconst 1, 1) := by decide +kernel
theorem dX10_below_34 : decode cX10_below 34 = .ok (.isub, 1) := by decide +kernel
theorem dX10_below_35 : decode cX10_below 35 = .ok (.goto 5, 3) := by decide +kernel
theorem dX10_below_38 : decode cX10_below 38 = .ok (.bipush (-2), 2) := by decide +kernel
theorem dX10_below_40 : decode cX10_below 40 = .ok (.ireturn, 1) := by decide +kernel
theorem dX10_demand_0 : decode cX10_demand 0 = .ok (.aload_n 0, 1) := by decide +kernel
theorem dX10_demand_1 : decode cX10_demand 1 = .ok (.iload_n 1, 1) := by decide +kernel
theorem dX10_demand_2 : decode cX10_demand 2 = .ok (.invokevirtual 149, 3) := by decide +kernel
theorem dX10_demand_5 : decode cX10_demand 5 = .ok (.ifCond .eq 11, 3) := by decide +kernel
theorem dX10_demand_8 : decode cX10_demand 8 = .ok (.aload_n 0, 1) := by decide +kernel
theorem dX10_demand_9 : decode cX10_demand 9 = .ok (.iload_n 2, 1) := by decide +kernel
theorem dX10_demand_10 : decode cX10_demand 10 = .ok (.invokevirtual 138, 3) := by decide +kernel
theorem dX10_demand_13 : decode cX10_demand 13 = .ok (.ifCond .ne 5, 3) := by decide +kernel
theorem dX10_demand_16 : decode cX10_demand 16 = .ok (.iconst (-1), 1) := by decide +kernel
theorem dX10_demand_17 : decode cX10_demand 17 = .ok (.ireturn, 1) := by decide +kernel
theorem dX10_demand_18 : decode cX10_demand 18 = .ok (.aload_n 0, 1) := by decide +kernel
theorem dX10_demand_19 : decode cX10_demand 19 = .ok (.getfield 66, 3) := by decide +kernel
theorem dX10_demand_22 : decode cX10_demand 22 = .ok (.invokevirtual 247, 3) := by decide +kernel
theorem dX10_demand_25 : decode cX10_demand 25 = .ok (.aload_n 0, 1) := by decide +kernel
theorem dX10_demand_26 : decode cX10_demand 26 = .ok (.getfield 66, 3) := by decide +kernel
theorem dX10_demand_29 : decode cX10_demand 29 = .ok (.getfield 273, 3) := by decide +kernel
theorem dX10_demand_32 : decode cX10_demand 32 = .ok (.iload_n 1, 1) := by decide +kernel
theorem dX10_demand_33 : decode cX10_demand 33 = .ok (.iconst 4, 1) := by decide +kernel
theorem dX10_demand_34 : decode cX10_demand 34 = .ok (.imul, 1) := by decide +kernel
theorem dX10_demand_35 : decode cX10_demand 35 = .ok (.iload_n 2, 1) := by decide +kernel
theorem dX10_demand_36 : decode cX10_demand 36 = .ok (.iadd, 1) := by decide +kernel
theorem dX10_demand_37 : decode cX10_demand 37 = .ok (.iaload, 1) := by decide +kernel
theorem dX10_demand_38 : decode cX10_demand 38 = .ok (.ireturn, 1) := by decide +kernel
theorem dX10_linkLoad_0 : decode cX10_linkLoad 0 = .ok (.aload_n 0, 1) := by decide +kernel
theorem dX10_linkLoad_1 : decode cX10_linkLoad 1 = .ok (.iload_n 1, 1) := by decide +kernel
theorem dX10_linkLoad_2 : decode cX10_linkLoad 2 = .ok (.invokevirtual 156, 3) := by decide +kernel
theorem dX10_linkLoad_5 : decode cX10_linkLoad 5 = .ok (.ifCond .ne 5, 3) := by decide +kernel
theorem dX10_linkLoad_8 : decode cX10_linkLoad 8 = .ok (.iconst (-1), 1) := by decide +kernel
theorem dX10_linkLoad_9 : decode cX10_linkLoad 9 = .ok (.ireturn, 1) := by decide +kernel
theorem dX10_linkLoad_10 : decode cX10_linkLoad 10 = .ok (.aload_n 0, 1) := by decide +kernel
theorem dX10_linkLoad_11 : decode cX10_linkLoad 11 = .ok (.getfield 66, 3) := by decide +kernel
theorem dX10_linkLoad_14 : decode cX10_linkLoad 14 = .ok (.invokevirtual 247, 3) := by decide +kernel
theorem dX10_linkLoad_17 : decode cX10_linkLoad 17 = .ok (.aload_n 0, 1) := by decide +kernel
theorem dX10_linkLoad_18 : decode cX10_linkLoad 18 = .ok (.getfield 66, 3) := by decide +kernel
theorem dX10_linkLoad_21 : decode cX10_linkLoad 21 = .ok (.getfield 253, 3) := by decide +kernel
theorem dX10_linkLoad_24 : decode cX10_linkLoad 24 = .ok (.iload_n 1, 1) := by decide +kernel
theorem dX10_linkLoad_25 : decode cX10_linkLoad 25 = .ok (.iaload, 1) := by decide +kernel
theorem dX10_linkLoad_26 : decode cX10_linkLoad 26 = .ok (.ireturn, 1) := by decide +kernel
theorem dX10_cpuLoad_0 : decode cX10_cpuLoad 0 = .ok (.aload_n 0, 1) := by decide +kernel
theorem dX10_cpuLoad_1 : decode cX10_cpuLoad 1 = .ok (.iload_n 1, 1) := by decide +kernel
theorem dX10_cpuLoad_2 : decode cX10_cpuLoad 2 = .ok (.invokevirtual 149, 3) := by decide +kernel
theorem dX10_cpuLoad_5 : decode cX10_cpuLoad 5 = .ok (.ifCond .ne 5, 3) := by decide +kernel
theorem dX10_cpuLoad_8 : decode cX10_cpuLoad 8 = .ok (.iconst (-1), 1) := by decide +kernel
theorem dX10_cpuLoad_9 : decode cX10_cpuLoad 9 = .ok (.ireturn, 1) := by decide +kernel
theorem dX10_cpuLoad_10 : decode cX10_cpuLoad 10 = .ok (.aload_n 0, 1) := by decide +kernel
theorem dX10_cpuLoad_11 : decode cX10_cpuLoad 11 = .ok (.getfield 66, 3) := by decide +kernel
theorem dX10_cpuLoad_14 : decode cX10_cpuLoad 14 = .ok (.invokevirtual 247, 3) := by decide +kernel
theorem dX10_cpuLoad_17 : decode cX10_cpuLoad 17 = .ok (.aload_n 0, 1) := by decide +kernel
theorem dX10_cpuLoad_18 : decode cX10_cpuLoad 18 = .ok (.getfield 66, 3) := by decide +kernel
theorem dX10_cpuLoad_21 : decode cX10_cpuLoad 21 = .ok (.getfield 276, 3) := by decide +kernel
theorem dX10_cpuLoad_24 : decode cX10_cpuLoad 24 = .ok (.iload_n 1, 1) := by decide +kernel
theorem dX10_cpuLoad_25 : decode cX10_cpuLoad 25 = .ok (.iaload, 1) := by decide +kernel
theorem dX10_cpuLoad_26 : decode cX10_cpuLoad 26 = .ok (.ireturn, 1) := by decide +kernel
theorem dX10_isPlaced_0 : decode cX10_isPlaced 0 = .ok (.aload_n 0, 1) := by decide +kernel
theorem dX10_isPlaced_1 : decode cX10_isPlaced 1 = .ok (.iload_n 1, 1) := by decide +kernel
theorem dX10_isPlaced_2 : decode cX10_isPlaced 2 = .ok (.invokevirtual 149, 3) := by decide +kernel
theorem dX10_isPlaced_5 : decode cX10_isPlaced 5 = .ok (.ifCond .eq 31, 3) := by decide +kernel
theorem dX10_isPlaced_8 : decode cX10_isPlaced 8 = .ok (.aload_n 0, 1) := by decide +kernel
theorem dX10_isPlaced_9 : decode cX10_isPlaced 9 = .ok (.iload_n 2, 1) := by decide +kernel
theorem dX10_isPlaced_10 : decode cX10_isPlaced 10 = .ok (.invokevirtual 138, 3) := by decide +kernel
theorem dX10_isPlaced_13 : decode cX10_isPlaced 13 = .ok (.ifCond .eq 23, 3) := by decide +kernel
theorem dX10_isPlaced_16 : decode cX10_isPlaced 16 = .ok (.aload_n 0, 1) := by decide +kernel
theorem dX10_isPlaced_17 : decode cX10_isPlaced 17 = .ok (.getfield 22, 3) := by decide +kernel
theorem dX10_isPlaced_20 : decode cX10_isPlaced 20 = .ok (.getfield 213, 3) := by decide +kernel
theorem dX10_isPlaced_23 : decode cX10_isPlaced 23 = .ok (.iload_n 1, 1) := by decide +kernel
theorem dX10_isPlaced_24 : decode cX10_isPlaced 24 = .ok (.iconst 4, 1) := by decide +kernel
theorem dX10_isPlaced_25 : decode cX10_isPlaced 25 = .ok (.imul, 1) := by decide +kernel
theorem dX10_isPlaced_26 : decode cX10_isPlaced 26 = .ok (.iload_n 2, 1) := by decide +kernel
theorem dX10_isPlaced_27 : decode cX10_isPlaced 27 = .ok (.iadd, 1) := by decide +kernel
theorem dX10_isPlaced_28 : decode cX10_isPlaced 28 = .ok (.baload, 1) := by decide +kernel
theorem dX10_isPlaced_29 : decode cX10_isPlaced 29 = .ok (.ifCond .eq 7, 3) := by decide +kernel
theorem dX10_isPlaced_32 : decode cX10_isPlaced 32 = .ok (.iconst 1, 1) := by decide +kernel
theorem dX10_isPlaced_33 : decode cX10_isPlaced 33 = .ok (.goto 4, 3) := by decide +kernel
theorem dX10_isPlaced_36 : decode cX10_isPlaced 36 = .ok (.iconst 0, 1) := by decide +kernel
theorem dX10_isPlaced_37 : decode cX10_isPlaced 37 = .ok (.ireturn, 1) := by decide +kernel
theorem dX10_total_0 : decode cX10_total 0 = .ok (.iload_n 1, 1) := by decide +kernel
theorem dX10_total_1 : decode cX10_total 1 = .ok (.tableswitch 106 0 7 #[47, 55, 60, 68, 80, 88, 96, 101], 47) := by decide +kernel
theorem dX10_total_48 : decode cX10_total 48 = .ok (.aload_n 0, 1) := by decide +kernel
theorem dX10_total_49 : decode cX10_total 49 = .ok (.getfield 22, 3) := by decide +kernel
theorem dX10_total_52 : decode cX10_total 52 = .ok (.invokevirtual 279, 3) := by decide +kernel
theorem dX10_total_55 : decode cX10_total 55 = .ok (.ireturn, 1) := by decide +kernel
theorem dX10_total_56 : decode cX10_total 56 = .ok (.aload_n 0, 1) := by decide +kernel
theorem dX10_total_57 : decode cX10_total 57 = .ok (.invokevirtual 282, 3) := by decide +kernel
theorem dX10_total_60 : decode cX10_total 60 = .ok (.ireturn, 1) := by decide +kernel
theorem dX10_total_61 : decode cX10_total 61 = .ok (.aload_n 0, 1) := by decide +kernel
theorem dX10_total_62 : decode cX10_total 62 = .ok (.getfield 66, 3) := by decide +kernel
theorem dX10_total_65 : decode cX10_total 65 = .ok (.invokevirtual 285, 3) := by decide +kernel
theorem dX10_total_68 : decode cX10_total 68 = .ok (.ireturn, 1) := by decide +kernel
theorem dX10_total_69 : decode cX10_total 69 = .ok (.aload_n 0, 1) := by decide +kernel
theorem dX10_total_70 : decode cX10_total 70 = .ok (.getfield 57, 3) := by decide +kernel
theorem dX10_total_73 : decode cX10_total 73 = .ok (.iconst 0, 1) := by decide +kernel
theorem dX10_total_74 : decode cX10_total 74 = .ok (.invokevirtual 270, 3) := by decide +kernel
theorem dX10_total_77 : decode cX10_total 77 = .ok (.invokestatic 259, 3) := by decide +kernel
theorem dX10_total_80 : decode cX10_total 80 = .ok (.ireturn, 1) := by decide +kernel
theorem dX10_total_81 : decode cX10_total 81 = .ok (.aload_n 0, 1) := by decide +kernel
theorem dX10_total_82 : decode cX10_total 82 = .ok (.getfield 22, 3) := by decide +kernel
theorem dX10_total_85 : decode cX10_total 85 = .ok (.invokevirtual 288, 3) := by decide +kernel
theorem dX10_total_88 : decode cX10_total 88 = .ok (.ireturn, 1) := by decide +kernel
theorem dX10_total_89 : decode cX10_total 89 = .ok (.aload_n 0, 1) := by decide +kernel
theorem dX10_total_90 : decode cX10_total 90 = .ok (.getfield 57, 3) := by decide +kernel
theorem dX10_total_93 : decode cX10_total 93 = .ok (.invokevirtual 291, 3) := by decide +kernel
theorem dX10_total_96 : decode cX10_total 96 = .ok (.ireturn, 1) := by decide +kernel
theorem dX10_total_97 : decode cX10_total 97 = .ok (.aload_n 0, 1) := by decide +kernel
theorem dX10_total_98 : decode cX10_total 98 = .ok (.invokevirtual 294, 3) := by decide +kernel
theorem dX10_total_101 : decode cX10_total 101 = .ok (.ireturn, 1) := by decide +kernel
theorem dX10_total_102 : decode cX10_total 102 = .ok (.aload_n 0, 1) := by decide +kernel
theorem dX10_total_103 : decode cX10_total 103 = .ok (.invokevirtual 297, 3) := by decide +kernel
theorem dX10_total_106 : decode cX10_total 106 = .ok (.ireturn, 1) := by decide +kernel
theorem dX10_total_107 : decode cX10_total 107 = .ok (.iconst (-1), 1) := by decide +kernel
theorem dX10_total_108 : decode cX10_total 108 = .ok (.ireturn, 1) := by decide +kernel
theorem dX10_busiest_0 : decode cX10_busiest 0 = .ok (.iload_n 1, 1) := by decide +kernel
theorem dX10_busiest_1 : decode cX10_busiest 1 = .ok (.ifCond .ge 5, 3) := by decide +kernel
theorem dX10_busiest_4 : decode cX10_busiest 4 = .ok (.iconst (-1), 1) := by decide +kernel
theorem dX10_busiest_5 : decode cX10_busiest 5 = .ok (.ireturn, 1) := by decide +kernel
theorem dX10_busiest_6 : decode cX10_busiest 6 = .ok (.aload_n 0, 1) := by decide +kernel
theorem dX10_busiest_7 : decode cX10_busiest 7 = .ok (.getfield 66, 3) := by decide +kernel
theorem dX10_busiest_10 : decode cX10_busiest 10 = .ok (.invokevirtual 247, 3) := by decide +kernel
theorem dX10_busiest_13 : decode cX10_busiest 13 = .ok (.iconst 0, 1) := by decide +kernel
theorem dX10_busiest_14 : decode cX10_busiest 14 = .ok (.istore_n 2, 1) := by decide +kernel
theorem dX10_busiest_15 : decode cX10_busiest 15 = .ok (.iload_n 2, 1) := by decide +kernel
theorem dX10_busiest_16 : decode cX10_busiest 16 = .ok (.aload_n 0, 1) := by decide +kernel
theorem dX10_busiest_17 : decode cX10_busiest 17 = .ok (.getfield 12, 3) := by decide +kernel
theorem dX10_busiest_20 : decode cX10_busiest 20 = .ok (.getfield 129, 3) := by decide +kernel
theorem dX10_busiest_23 : decode cX10_busiest 23 = .ok (.if_icmp .ge 23, 3) := by decide +kernel
theorem dX10_busiest_26 : decode cX10_busiest 26 = .ok (.aload_n 0, 1) := by decide +kernel
theorem dX10_busiest_27 : decode cX10_busiest 27 = .ok (.getfield 66, 3) := by decide +kernel
theorem dX10_busiest_30 : decode cX10_busiest 30 = .ok (.iload_n 2, 1) := by decide +kernel
theorem dX10_busiest_31 : decode cX10_busiest 31 = .ok (.invokevirtual 300, 3) := by decide +kernel
theorem dX10_busiest_34 : decode cX10_busiest 34 = .ok (.iload_n 1, 1) := by decide +kernel
theorem dX10_busiest_35 : decode cX10_busiest 35 = .ok (.if_icmp .ne 5, 3) := by decide +kernel
theorem dX10_busiest_38 : decode cX10_busiest 38 = .ok (.iload_n 2, 1) := by decide +kernel
theorem dX10_busiest_39 : decode cX10_busiest 39 = .ok (.ireturn, 1) := by decide +kernel
theorem dX10_busiest_40 : decode cX10_busiest 40 = .ok (.iinc 2 1, 3) := by decide +kernel
theorem dX10_busiest_43 : decode cX10_busiest 43 = .ok (.goto (-28), 3) := by decide +kernel
theorem dX10_busiest_46 : decode cX10_busiest 46 = .ok (.bipush (-2), 2) := by decide +kernel
theorem dX10_busiest_48 : decode cX10_busiest 48 = .ok (.ireturn, 1) := by decide +kernel
theorem dX10_offer_0 : decode cX10_offer 0 = .ok (.aload_n 0, 1) := by decide +kernel
theorem dX10_offer_1 : decode cX10_offer 1 = .ok (.iload_n 1, 1) := by decide +kernel
theorem dX10_offer_2 : decode cX10_offer 2 = .ok (.invokevirtual 149, 3) := by decide +kernel
theorem dX10_offer_5 : decode cX10_offer 5 = .ok (.ifCond .eq 11, 3) := by decide +kernel
theorem dX10_offer_8 : decode cX10_offer 8 = .ok (.aload_n 0, 1) := by decide +kernel
theorem dX10_offer_9 : decode cX10_offer 9 = .ok (.iload_n 2, 1) := by decide +kernel
theorem dX10_offer_10 : decode cX10_offer 10 = .ok (.invokevirtual 138, 3) := by decide +kernel
theorem dX10_offer_13 : decode cX10_offer 13 = .ok (.ifCond .ne 5, 3) := by decide +kernel
theorem dX10_offer_16 : decode cX10_offer 16 = .ok (.iconst (-1), 1) := by decide +kernel
theorem dX10_offer_17 : decode cX10_offer 17 = .ok (.ireturn, 1) := by decide +kernel
theorem dX10_offer_18 : decode cX10_offer 18 = .ok (.aload_n 0, 1) := by decide +kernel
theorem dX10_offer_19 : decode cX10_offer 19 = .ok (.getfield 26, 3) := by decide +kernel
theorem dX10_offer_22 : decode cX10_offer 22 = .ok (.aload_n 0, 1) := by decide +kernel
theorem dX10_offer_23 : decode cX10_offer 23 = .ok (.getfield 22, 3) := by decide +kernel
theorem dX10_offer_26 : decode cX10_offer 26 = .ok (.invokevirtual 201, 3) := by decide +kernel
theorem dX10_offer_29 : decode cX10_offer 29 = .ok (.aload_n 0, 1) := by decide +kernel
theorem dX10_offer_30 : decode cX10_offer 30 = .ok (.getfield 22, 3) := by decide +kernel
theorem dX10_offer_33 : decode cX10_offer 33 = .ok (.iload_n 1, 1) := by decide +kernel
theorem dX10_offer_34 : decode cX10_offer 34 = .ok (.iload_n 2, 1) := by decide +kernel
theorem dX10_offer_35 : decode cX10_offer 35 = .ok (.aload_n 0, 1) := by decide +kernel
theorem dX10_offer_36 : decode cX10_offer 36 = .ok (.getfield 12, 3) := by decide +kernel
theorem dX10_offer_39 : decode cX10_offer 39 = .ok (.getfield 135, 3) := by decide +kernel
theorem dX10_offer_42 : decode cX10_offer 42 = .ok (.invokevirtual 173, 3) := by decide +kernel
theorem dX10_offer_45 : decode cX10_offer 45 = .ok (.istore_n 3, 1) := by decide +kernel
theorem dX10_offer_46 : decode cX10_offer 46 = .ok (.aload_n 0, 1) := by decide +kernel
theorem dX10_offer_47 : decode cX10_offer 47 = .ok (.getfield 82, 3) := by decide +kernel
theorem dX10_offer_50 : decode cX10_offer 50 = .ok (.iload_n 3, 1) := by decide +kernel
theorem dX10_offer_51 : decode cX10_offer 51 = .ok (.invokevirtual 177, 3) := by decide +kernel
theorem dX10_offer_54 : decode cX10_offer 54 = .ok (.istore 4, 2) := by decide +kernel
theorem dX10_offer_56 : decode cX10_offer 56 = .ok (.aload_n 0, 1) := by decide +kernel
theorem dX10_offer_57 : decode cX10_offer 57 = .ok (.getfield 22, 3) := by decide +kernel
theorem dX10_offer_60 : decode cX10_offer 60 = .ok (.aload_n 0, 1) := by decide +kernel
theorem dX10_offer_61 : decode cX10_offer 61 = .ok (.getfield 26, 3) := by decide +kernel
theorem dX10_offer_64 : decode cX10_offer 64 = .ok (.invokevirtual 201, 3) := by decide +kernel
theorem dX10_offer_67 : decode cX10_offer 67 = .ok (.iload 4, 2) := by decide +kernel
theorem dX10_offer_69 : decode cX10_offer 69 = .ok (.ireturn, 1) := by decide +kernel
theorem dX10_graftNode_0 : decode cX10_graftNode 0 = .ok (.aload_n 0, 1) := by decide +kernel
theorem dX10_graftNode_1 : decode cX10_graftNode 1 = .ok (.iload_n 1, 1) := by decide +kernel
theorem dX10_graftNode_2 : decode cX10_graftNode 2 = .ok (.invokevirtual 149, 3) := by decide +kernel
theorem dX10_graftNode_5 : decode cX10_graftNode 5 = .ok (.ifCond .eq 24, 3) := by decide +kernel
theorem dX10_graftNode_8 : decode cX10_graftNode 8 = .ok (.aload_n 0, 1) := by decide +kernel
theorem dX10_graftNode_9 : decode cX10_graftNode 9 = .ok (.iload_n 2, 1) := by decide +kernel
theorem dX10_graftNode_10 : decode cX10_graftNode 10 = .ok (.invokevirtual 138, 3) := by decide +kernel
theorem dX10_graftNode_13 : decode cX10_graftNode 13 = .ok (.ifCond .eq 16, 3) := by decide +kernel
theorem dX10_graftNode_16 : decode cX10_graftNode 16 = .ok (.aload_n 0, 1) := by decide +kernel
theorem dX10_graftNode_17 : decode cX10_graftNode 17 = .ok (.iload_n 3, 1) := by decide +kernel
theorem dX10_graftNode_18 : decode cX10_graftNode 18 = .ok (.invokevirtual 142, 3) := by decide +kernel
theorem dX10_graftNode_21 : decode cX10_graftNode 21 = .ok (.ifCond .eq 8, 3) := by decide +kernel
theorem dX10_graftNode_24 : decode cX10_graftNode 24 = .ok (.iload 4, 2) := by decide +kernel
theorem dX10_graftNode_26 : decode cX10_graftNode 26 = .ok (.ifCond .ge 5, 3) := by decide +kernel
theorem dX10_graftNode_29 : decode cX10_graftNode 29 = .ok (.iconst (-1), 1) := by decide +kernel
theorem dX10_graftNode_30 : decode cX10_graftNode 30 = .ok (.ireturn, 1) := by decide +kernel
theorem dX10_graftNode_31 : decode cX10_graftNode 31 = .ok (.aload_n 0, 1) := by decide +kernel
theorem dX10_graftNode_32 : decode cX10_graftNode 32 = .ok (.getfield 22, 3) := by decide +kernel
theorem dX10_graftNode_35 : decode cX10_graftNode 35 = .ok (.getfield 264, 3) := by decide +kernel
theorem dX10_graftNode_38 : decode cX10_graftNode 38 = .ok (.iload_n 1, 1) := by decide +kernel
theorem dX10_graftNode_39 : decode cX10_graftNode 39 = .ok (.baload, 1) := by decide +kernel
theorem dX10_graftNode_40 : decode cX10_graftNode 40 = .ok (.ifCond .ne 23, 3) := by decide +kernel
theorem dX10_graftNode_43 : decode cX10_graftNode 43 = .ok (.aload_n 0, 1) := by decide +kernel
theorem dX10_graftNode_44 : decode cX10_graftNode 44 = .ok (.getfield 73, 3) := by decide +kernel
theorem dX10_graftNode_47 : decode cX10_graftNode 47 = .ok (.iload_n 1, 1) := by decide +kernel
theorem dX10_graftNode_48 : decode cX10_graftNode 48 = .ok (.aload_n 0, 1) := by decide +kernel
theorem dX10_graftNode_49 : decode cX10_graftNode 49 = .ok (.getfield 12, 3) := by decide +kernel
theorem dX10_graftNode_52 : decode cX10_graftNode 52 = .ok (.iload_n 2, 1) := by decide +kernel
theorem dX10_graftNode_53 : decode cX10_graftNode 53 = .ok (.iload_n 3, 1) := by decide +kernel
theorem dX10_graftNode_54 : decode cX10_graftNode 54 = .ok (.invokevirtual 145, 3) := by decide +kernel
theorem dX10_graftNode_57 : decode cX10_graftNode 57 = .ok (.invokevirtual 303, 3) := by decide +kernel
theorem dX10_graftNode_60 : decode cX10_graftNode 60 = .ok (.ifCond .ne 6, 3) := by decide +kernel
theorem dX10_graftNode_63 : decode cX10_graftNode 63 = .ok (.bipush (-2), 2) := by decide +kernel
theorem dX10_graftNode_65 : decode cX10_graftNode 65 = .ok (.ireturn, 1) := by decide +kernel
theorem dX10_graftNode_66 : decode cX10_graftNode 66 = .ok (.iload 4, 2) := by decide +kernel
theorem dX10_graftNode_68 : decode cX10_graftNode 68 = .ok (.aload_n 0, 1) := by decide +kernel
theorem dX10_graftNode_69 : decode cX10_graftNode 69 = .ok (.getfield 73, 3) := by decide +kernel
theorem dX10_graftNode_72 : decode cX10_graftNode 72 = .ok (.getfield 306, 3) := by decide +kernel
theorem dX10_graftNode_75 : decode cX10_graftNode 75 = .ok (.if_icmp .ge 16, 3) := by decide +kernel
theorem dX10_graftNode_78 : decode cX10_graftNode 78 = .ok (.aload_n 0, 1) := by decide +kernel
theorem dX10_graftNode_79 : decode cX10_graftNode 79 = .ok (.getfield 73, 3) := by decide +kernel
theorem dX10_graftNode_82 : decode cX10_graftNode 82 = .ok (.getfield 307, 3) := by decide +kernel
theorem dX10_graftNode_85 : decode cX10_graftNode 85 = .ok (.iload 4, 2) := by decide +kernel
theorem dX10_graftNode_87 : decode cX10_graftNode 87 = .ok (.iaload, 1) := by decide +kernel
theorem dX10_graftNode_88 : decode cX10_graftNode 88 = .ok (.goto 5, 3) := by decide +kernel
theorem dX10_graftNode_91 : decode cX10_graftNode 91 = .ok (.bipush (-2), 2) := by decide +kernel
theorem dX10_graftNode_93 : decode cX10_graftNode 93 = .ok (.ireturn, 1) := by decide +kernel
theorem dX10_gain_0 : decode cX10_gain 0 = .ok (.aload_n 0, 1) := by decide +kernel
theorem dX10_gain_1 : decode cX10_gain 1 = .ok (.iload_n 1, 1) := by decide +kernel
theorem dX10_gain_2 : decode cX10_gain 2 = .ok (.invokevirtual 149, 3) := by decide +kernel
theorem dX10_gain_5 : decode cX10_gain 5 = .ok (.ifCond .eq 11, 3) := by decide +kernel
theorem dX10_gain_8 : decode cX10_gain 8 = .ok (.aload_n 0, 1) := by decide +kernel
theorem dX10_gain_9 : decode cX10_gain 9 = .ok (.iload_n 2, 1) := by decide +kernel
theorem dX10_gain_10 : decode cX10_gain 10 = .ok (.invokevirtual 207, 3) := by decide +kernel
theorem dX10_gain_13 : decode cX10_gain 13 = .ok (.ifCond .ne 5, 3) := by decide +kernel
theorem dX10_gain_16 : decode cX10_gain 16 = .ok (.iconst (-1), 1) := by decide +kernel
theorem dX10_gain_17 : decode cX10_gain 17 = .ok (.ireturn, 1) := by decide +kernel
theorem dX10_gain_18 : decode cX10_gain 18 = .ok (.aload_n 0, 1) := by decide +kernel
theorem dX10_gain_19 : decode cX10_gain 19 = .ok (.getfield 26, 3) := by decide +kernel
theorem dX10_gain_22 : decode cX10_gain 22 = .ok (.aload_n 0, 1) := by decide +kernel
theorem dX10_gain_23 : decode cX10_gain 23 = .ok (.getfield 22, 3) := by decide +kernel
theorem dX10_gain_26 : decode cX10_gain 26 = .ok (.invokevirtual 201, 3) := by decide +kernel
theorem dX10_gain_29 : decode cX10_gain 29 = .ok (.aload_n 0, 1) := by decide +kernel
theorem dX10_gain_30 : decode cX10_gain 30 = .ok (.getfield 82, 3) := by decide +kernel
theorem dX10_gain_33 : decode cX10_gain 33 = .ok (.iload_n 1, 1) := by decide +kernel
theorem dX10_gain_34 : decode cX10_gain 34 = .ok (.iload_n 2, 1) := by decide +kernel
theorem dX10_gain_35 : decode cX10_gain 35 = .ok (.invokevirtual 210, 3) := by decide +kernel
theorem dX10_gain_38 : decode cX10_gain 38 = .ok (.ifCond .ne 6, 3) := by decide +kernel
theorem dX10_gain_41 : decode cX10_gain 41 = .ok (.bipush (-2), 2) := by decide +kernel
theorem dX10_gain_43 : decode cX10_gain 43 = .ok (.ireturn, 1) := by decide +kernel
theorem dX10_gain_44 : decode cX10_gain 44 = .ok (.aload_n 0, 1) := by decide +kernel
theorem dX10_gain_45 : decode cX10_gain 45 = .ok (.getfield 82, 3) := by decide +kernel
theorem dX10_gain_48 : decode cX10_gain 48 = .ok (.invokevirtual 223, 3) := by decide +kernel
theorem dX10_gain_51 : decode cX10_gain 51 = .ok (.istore_n 3, 1) := by decide +kernel
theorem dX10_gain_52 : decode cX10_gain 52 = .ok (.aload_n 0, 1) := by decide +kernel
theorem dX10_gain_53 : decode cX10_gain 53 = .ok (.getfield 22, 3) := by decide +kernel
theorem dX10_gain_56 : decode cX10_gain 56 = .ok (.aload_n 0, 1) := by decide +kernel
theorem dX10_gain_57 : decode cX10_gain 57 = .ok (.getfield 26, 3) := by decide +kernel
theorem dX10_gain_60 : decode cX10_gain 60 = .ok (.invokevirtual 201, 3) := by decide +kernel
theorem dX10_gain_63 : decode cX10_gain 63 = .ok (.iload_n 3, 1) := by decide +kernel
theorem dX10_gain_64 : decode cX10_gain 64 = .ok (.ireturn, 1) := by decide +kernel
theorem dX10_bestPlace_0 : decode cX10_bestPlace 0 = .ok (.aload_n 0, 1) := by decide +kernel
theorem dX10_bestPlace_1 : decode cX10_bestPlace 1 = .ok (.iload_n 1, 1) := by decide +kernel
theorem dX10_bestPlace_2 : decode cX10_bestPlace 2 = .ok (.invokevirtual 207, 3) := by decide +kernel
theorem dX10_bestPlace_5 : decode cX10_bestPlace 5 = .ok (.ifCond .ne 5, 3) := by decide +kernel
theorem dX10_bestPlace_8 : decode cX10_bestPlace 8 = .ok (.iconst (-1), 1) := by decide +kernel
theorem dX10_bestPlace_9 : decode cX10_bestPlace 9 = .ok (.ireturn, 1) := by decide +kernel
theorem dX10_bestPlace_10 : decode cX10_bestPlace 10 = .ok (.bipush (-2), 2) := by decide +kernel
theorem dX10_bestPlace_12 : decode cX10_bestPlace 12 = .ok (.istore_n 2, 1) := by decide +kernel
theorem dX10_bestPlace_13 : decode cX10_bestPlace 13 = .ok (.bipush (-2), 2) := by decide +kernel
theorem dX10_bestPlace_15 : decode cX10_bestPlace 15 = .ok (.istore_n 3, 1) := by decide +kernel
theorem dX10_bestPlace_16 : decode cX10_bestPlace 16 = .ok (.iconst 0, 1) := by decide +kernel
theorem dX10_bestPlace_17 : decode cX10_bestPlace 17 = .ok (.istore 4, 2) := by decide +kernel
theorem dX10_bestPlace_19 : decode cX10_bestPlace 19 = .ok (.iload 4, 2) := by decide +kernel
theorem dX10_bestPlace_21 : decode cX10_bestPlace 21 = .ok (.aload_n 0, 1) := by decide +kernel
theorem dX10_bestPlace_22 : decode cX10_bestPlace 22 = .ok (.getfield 12, 3) := by decide +kernel
theorem dX10_bestPlace_25 : decode cX10_bestPlace 25 = .ok (.getfield 126, 3) := by decide +kernel
theorem dX10_bestPlace_28 : decode cX10_bestPlace 28 = .ok (.if_icmp .ge 30, 3) := by decide +kernel
theorem dX10_bestPlace_31 : decode cX10_bestPlace 31 = .ok (.aload_n 0, 1) := by decide +kernel
theorem dX10_bestPlace_32 : decode cX10_bestPlace 32 = .ok (.iload 4, 2) := by decide +kernel
theorem dX10_bestPlace_34 : decode cX10_bestPlace 34 = .ok (.iload_n 1, 1) := by decide +kernel
theorem dX10_bestPlace_35 : decode cX10_bestPlace 35 = .ok (.invokevirtual 310, 3) := by decide +kernel
theorem dX10_bestPlace_38 : decode cX10_bestPlace 38 = .ok (.istore 5, 2) := by decide +kernel
theorem dX10_bestPlace_40 : decode cX10_bestPlace 40 = .ok (.iload 5, 2) := by decide +kernel
theorem dX10_bestPlace_42 : decode cX10_bestPlace 42 = .ok (.iload_n 3, 1) := by decide +kernel
theorem dX10_bestPlace_43 : decode cX10_bestPlace 43 = .ok (.if_icmp .le 9, 3) := by decide +kernel
theorem dX10_bestPlace_46 : decode cX10_bestPlace 46 = .ok (.iload 4, 2) := by decide +kernel
theorem dX10_bestPlace_48 : decode cX10_bestPlace 48 = .ok (.istore_n 2, 1) := by decide +kernel
theorem dX10_bestPlace_49 : decode cX10_bestPlace 49 = .ok (.iload 5, 2) := by decide +kernel
theorem dX10_bestPlace_51 : decode cX10_bestPlace 51 = .ok (.istore_n 3, 1) := by decide +kernel
theorem dX10_bestPlace_52 : decode cX10_bestPlace 52 = .ok (.iinc 4 1, 3) := by decide +kernel
theorem dX10_bestPlace_55 : decode cX10_bestPlace 55 = .ok (.goto (-36), 3) := by decide +kernel
theorem dX10_bestPlace_58 : decode cX10_bestPlace 58 = .ok (.iload_n 2, 1) := by decide +kernel
theorem dX10_bestPlace_59 : decode cX10_bestPlace 59 = .ok (.ireturn, 1) := by decide +kernel
theorem dX10_loss_0 : decode cX10_loss 0 = .ok (.aload_n 0, 1) := by decide +kernel
theorem dX10_loss_1 : decode cX10_loss 1 = .ok (.iload_n 1, 1) := by decide +kernel
theorem dX10_loss_2 : decode cX10_loss 2 = .ok (.invokevirtual 156, 3) := by decide +kernel
theorem dX10_loss_5 : decode cX10_loss 5 = .ok (.ifCond .ne 5, 3) := by decide +kernel
theorem dX10_loss_8 : decode cX10_loss 8 = .ok (.iconst (-1), 1) := by decide +kernel
theorem dX10_loss_9 : decode cX10_loss 9 = .ok (.ireturn, 1) := by decide +kernel
theorem dX10_loss_10 : decode cX10_loss 10 = .ok (.aload_n 0, 1) := by decide +kernel
theorem dX10_loss_11 : decode cX10_loss 11 = .ok (.getfield 22, 3) := by decide +kernel
theorem dX10_loss_14 : decode cX10_loss 14 = .ok (.getfield 162, 3) := by decide +kernel
theorem dX10_loss_17 : decode cX10_loss 17 = .ok (.iload_n 1, 1) := by decide +kernel
theorem dX10_loss_18 : decode cX10_loss 18 = .ok (.baload, 1) := by decide +kernel
theorem dX10_loss_19 : decode cX10_loss 19 = .ok (.ifCond .ne 5, 3) := by decide +kernel
theorem dX10_loss_22 : decode cX10_loss 22 = .ok (.iconst 0, 1) := by decide +kernel
theorem dX10_loss_23 : decode cX10_loss 23 = .ok (.ireturn, 1) := by decide +kernel
theorem dX10_loss_24 : decode cX10_loss 24 = .ok (.aload_n 0, 1) := by decide +kernel
theorem dX10_loss_25 : decode cX10_loss 25 = .ok (.getfield 26, 3) := by decide +kernel
theorem dX10_loss_28 : decode cX10_loss 28 = .ok (.aload_n 0, 1) := by decide +kernel
theorem dX10_loss_29 : decode cX10_loss 29 = .ok (.getfield 22, 3) := by decide +kernel
theorem dX10_loss_32 : decode cX10_loss 32 = .ok (.invokevirtual 201, 3) := by decide +kernel
theorem dX10_loss_35 : decode cX10_loss 35 = .ok (.aload_n 0, 1) := by decide +kernel
theorem dX10_loss_36 : decode cX10_loss 36 = .ok (.getfield 82, 3) := by decide +kernel
theorem dX10_loss_39 : decode cX10_loss 39 = .ok (.iload_n 1, 1) := by decide +kernel
theorem dX10_loss_40 : decode cX10_loss 40 = .ok (.invokevirtual 220, 3) := by decide +kernel
theorem dX10_loss_43 : decode cX10_loss 43 = .ok (.istore_n 2, 1) := by decide +kernel
theorem dX10_loss_44 : decode cX10_loss 44 = .ok (.aload_n 0, 1) := by decide +kernel
theorem dX10_loss_45 : decode cX10_loss 45 = .ok (.getfield 22, 3) := by decide +kernel
theorem dX10_loss_48 : decode cX10_loss 48 = .ok (.aload_n 0, 1) := by decide +kernel
theorem dX10_loss_49 : decode cX10_loss 49 = .ok (.getfield 26, 3) := by decide +kernel
theorem dX10_loss_52 : decode cX10_loss 52 = .ok (.invokevirtual 201, 3) := by decide +kernel
theorem dX10_loss_55 : decode cX10_loss 55 = .ok (.iload_n 2, 1) := by decide +kernel
theorem dX10_loss_56 : decode cX10_loss 56 = .ok (.ireturn, 1) := by decide +kernel
theorem dX10_criticalLink_0 : decode cX10_criticalLink 0 = .ok (.bipush (-2), 2) := by decide +kernel
theorem dX10_criticalLink_2 : decode cX10_criticalLink 2 = .ok (.istore_n 1, 1) := by decide +kernel
theorem dX10_criticalLink_3 : decode cX10_criticalLink 3 = .ok (.iconst 0, 1) := by decide +kernel
theorem dX10_criticalLink_4 : decode cX10_criticalLink 4 = .ok (.istore_n 2, 1) := by decide +kernel
theorem dX10_criticalLink_5 : decode cX10_criticalLink 5 = .ok (.aload_n 0, 1) := by decide +kernel
theorem dX10_criticalLink_6 : decode cX10_criticalLink 6 = .ok (.getfield 26, 3) := by decide +kernel
theorem dX10_criticalLink_9 : decode cX10_criticalLink 9 = .ok (.aload_n 0, 1) := by decide +kernel
theorem dX10_criticalLink_10 : decode cX10_criticalLink 10 = .ok (.getfield 22, 3) := by decide +kernel
theorem dX10_criticalLink_13 : decode cX10_criticalLink 13 = .ok (.invokevirtual 201, 3) := by decide +kernel
theorem dX10_criticalLink_16 : decode cX10_criticalLink 16 = .ok (.iconst 0, 1) := by decide +kernel
theorem dX10_criticalLink_17 : decode cX10_criticalLink 17 = .ok (.istore_n 3, 1) := by decide +kernel
theorem dX10_criticalLink_18 : decode cX10_criticalLink 18 = .ok (.iload_n 3, 1) := by decide +kernel
theorem dX10_criticalLink_19 : decode cX10_criticalLink 19 = .ok (.aload_n 0, 1) := by decide +kernel
theorem dX10_criticalLink_20 : decode cX10_criticalLink 20 = .ok (.getfield 12, 3) := by decide +kernel
theorem dX10_criticalLink_23 : decode cX10_criticalLink 23 = .ok (.getfield 129, 3) := by decide +kernel
theorem dX10_criticalLink_26 : decode cX10_criticalLink 26 = .ok (.if_icmp .ge 59, 3) := by decide +kernel
theorem dX10_criticalLink_29 : decode cX10_criticalLink 29 = .ok (.aload_n 0, 1) := by decide +kernel
theorem dX10_criticalLink_30 : decode cX10_criticalLink 30 = .ok (.getfield 22, 3) := by decide +kernel
theorem dX10_criticalLink_33 : decode cX10_criticalLink 33 = .ok (.getfield 162, 3) := by decide +kernel
theorem dX10_criticalLink_36 : decode cX10_criticalLink 36 = .ok (.iload_n 3, 1) := by decide +kernel
theorem dX10_criticalLink_37 : decode cX10_criticalLink 37 = .ok (.baload, 1) := by decide +kernel
theorem dX10_criticalLink_38 : decode cX10_criticalLink 38 = .ok (.ifCond .eq 41, 3) := by decide +kernel
theorem dX10_criticalLink_41 : decode cX10_criticalLink 41 = .ok (.aload_n 0, 1) := by decide +kernel
theorem dX10_criticalLink_42 : decode cX10_criticalLink 42 = .ok (.getfield 82, 3) := by decide +kernel
theorem dX10_criticalLink_45 : decode cX10_criticalLink 45 = .ok (.iload_n 3, 1) := by decide +kernel
theorem dX10_criticalLink_46 : decode cX10_criticalLink 46 = .ok (.invokevirtual 220, 3) := by decide +kernel
theorem dX10_criticalLink_49 : decode cX10_criticalLink 49 = .ok (.istore 4, 2) := by decide +kernel
theorem dX10_criticalLink_51 : decode cX10_criticalLink 51 = .ok (.aload_n 0, 1) := by decide +kernel
theorem dX10_criticalLink_52 : decode cX10_criticalLink 52 = .ok (.getfield 22, 3) := by decide +kernel
theorem dX10_criticalLink_55 : decode cX10_criticalLink 55 = .ok (.aload_n 0, 1) := by decide +kernel
theorem dX10_criticalLink_56 : decode cX10_criticalLink 56 = .ok (.getfield 26, 3) := by decide +kernel
theorem dX10_criticalLink_59 : decode cX10_criticalLink 59 = .ok (.invokevirtual 201, 3) := by decide +kernel
theorem dX10_criticalLink_62 : decode cX10_criticalLink 62 = .ok (.iload_n 1, 1) := by decide +kernel
theorem dX10_criticalLink_63 : decode cX10_criticalLink 63 = .ok (.bipush (-2), 2) := by decide +kernel
theorem dX10_criticalLink_65 : decode cX10_criticalLink 65 = .ok (.if_icmp .eq 9, 3) := by decide +kernel
theorem dX10_criticalLink_68 : decode cX10_criticalLink 68 = .ok (.iload 4, 2) := by decide +kernel
theorem dX10_criticalLink_70 : decode cX10_criticalLink 70 = .ok (.iload_n 2, 1) := by decide +kernel
theorem dX10_criticalLink_71 : decode cX10_criticalLink 71 = .ok (.if_icmp .le 8, 3) := by decide +kernel
theorem dX10_criticalLink_74 : decode cX10_criticalLink 74 = .ok (.iload_n 3, 1) := by decide +kernel
theorem dX10_criticalLink_75 : decode cX10_criticalLink 75 = .ok (.istore_n 1, 1) := by decide +kernel
theorem dX10_criticalLink_76 : decode cX10_criticalLink 76 = .ok (.iload 4, 2) := by decide +kernel
theorem dX10_criticalLink_78 : decode cX10_criticalLink 78 = .ok (.istore_n 2, 1) := by decide +kernel
theorem dX10_criticalLink_79 : decode cX10_criticalLink 79 = .ok (.iinc 3 1, 3) := by decide +kernel
theorem dX10_criticalLink_82 : decode cX10_criticalLink 82 = .ok (.goto (-64), 3) := by decide +kernel
theorem dX10_criticalLink_85 : decode cX10_criticalLink 85 = .ok (.iload_n 1, 1) := by decide +kernel
theorem dX10_criticalLink_86 : decode cX10_criticalLink 86 = .ok (.ireturn, 1) := by decide +kernel
theorem dX10_reportLength_0 : decode cX10_reportLength 0 = .ok (.aload_n 0, 1) := by decide +kernel
theorem dX10_reportLength_1 : decode cX10_reportLength 1 = .ok (.getfield 91, 3) := by decide +kernel
theorem dX10_reportLength_4 : decode cX10_reportLength 4 = .ok (.invokevirtual 313, 3) := by decide +kernel
theorem dX10_reportLength_7 : decode cX10_reportLength 7 = .ok (.aload_n 0, 1) := by decide +kernel
theorem dX10_reportLength_8 : decode cX10_reportLength 8 = .ok (.getfield 91, 3) := by decide +kernel
theorem dX10_reportLength_11 : decode cX10_reportLength 11 = .ok (.getfield 316, 3) := by decide +kernel
theorem dX10_reportLength_14 : decode cX10_reportLength 14 = .ok (.ireturn, 1) := by decide +kernel
theorem dX10_reportByte_0 : decode cX10_reportByte 0 = .ok (.iload_n 1, 1) := by decide +kernel
theorem dX10_reportByte_1 : decode cX10_reportByte 1 = .ok (.ifCond .ge 5, 3) := by decide +kernel
theorem dX10_reportByte_4 : decode cX10_reportByte 4 = .ok (.iconst (-1), 1) := by decide +kernel
theorem dX10_reportByte_5 : decode cX10_reportByte 5 = .ok (.ireturn, 1) := by decide +kernel
theorem dX10_reportByte_6 : decode cX10_reportByte 6 = .ok (.aload_n 0, 1) := by decide +kernel
theorem dX10_reportByte_7 : decode cX10_reportByte 7 = .ok (.getfield 91, 3) := by decide +kernel
theorem dX10_reportByte_10 : decode cX10_reportByte 10 = .ok (.invokevirtual 313, 3) := by decide +kernel
theorem dX10_reportByte_13 : decode cX10_reportByte 13 = .ok (.iload_n 1, 1) := by decide +kernel
theorem dX10_reportByte_14 : decode cX10_reportByte 14 = .ok (.aload_n 0, 1) := by decide +kernel
theorem dX10_reportByte_15 : decode cX10_reportByte 15 = .ok (.getfield 91, 3) := by decide +kernel
theorem dX10_reportByte_18 : decode cX10_reportByte 18 = .ok (.getfield 316, 3) := by decide +kernel
theorem dX10_reportByte_21 : decode cX10_reportByte 21 = .ok (.if_icmp .ge 15, 3) := by decide +kernel
theorem dX10_reportByte_24 : decode cX10_reportByte 24 = .ok (.aload_n 0, 1) := by decide +kernel
theorem dX10_reportByte_25 : decode cX10_reportByte 25 = .ok (.getfield 91, 3) := by decide +kernel
theorem dX10_reportByte_28 : decode cX10_reportByte 28 = .ok (.getfield 317, 3) := by decide +kernel
theorem dX10_reportByte_31 : decode cX10_reportByte 31 = .ok (.iload_n 1, 1) := by decide +kernel
theorem dX10_reportByte_32 : decode cX10_reportByte 32 = .ok (.iaload, 1) := by decide +kernel
theorem dX10_reportByte_33 : decode cX10_reportByte 33 = .ok (.goto 5, 3) := by decide +kernel
theorem dX10_reportByte_36 : decode cX10_reportByte 36 = .ok (.bipush (-2), 2) := by decide +kernel
theorem dX10_reportByte_38 : decode cX10_reportByte 38 = .ok (.ireturn, 1) := by decide +kernel
theorem dX10_tapeLength_0 : decode cX10_tapeLength 0 = .ok (.aload_n 0, 1) := by decide +kernel
theorem dX10_tapeLength_1 : decode cX10_tapeLength 1 = .ok (.getfield 39, 3) := by decide +kernel
theorem dX10_tapeLength_4 : decode cX10_tapeLength 4 = .ok (.getfield 106, 3) := by decide +kernel
theorem dX10_tapeLength_7 : decode cX10_tapeLength 7 = .ok (.ireturn, 1) := by decide +kernel
theorem dX10_isNode_0 : decode cX10_isNode 0 = .ok (.iload_n 1, 1) := by decide +kernel
theorem dX10_isNode_1 : decode cX10_isNode 1 = .ok (.ifCond .lt 18, 3) := by decide +kernel
theorem dX10_isNode_4 : decode cX10_isNode 4 = .ok (.iload_n 1, 1) := by decide +kernel
theorem dX10_isNode_5 : decode cX10_isNode 5 = .ok (.aload_n 0, 1) := by decide +kernel
theorem dX10_isNode_6 : decode cX10_isNode 6 = .ok (.getfield 12, 3) := by decide +kernel
theorem dX10_isNode_9 : decode cX10_isNode 9 = .ok (.getfield 126, 3) := by decide +kernel
theorem dX10_isNode_12 : decode cX10_isNode 12 = .ok (.if_icmp .ge 7, 3) := by decide +kernel
theorem dX10_isNode_15 : decode cX10_isNode 15 = .ok (.iconst 1, 1) := by decide +kernel
theorem dX10_isNode_16 : decode cX10_isNode 16 = .ok (.goto 4, 3) := by decide +kernel
theorem dX10_isNode_19 : decode cX10_isNode 19 = .ok (.iconst 0, 1) := by decide +kernel
theorem dX10_isNode_20 : decode cX10_isNode 20 = .ok (.ireturn, 1) := by decide +kernel
theorem dX10_isLink_0 : decode cX10_isLink 0 = .ok (.iload_n 1, 1) := by decide +kernel
theorem dX10_isLink_1 : decode cX10_isLink 1 = .ok (.ifCond .lt 18, 3) := by decide +kernel
theorem dX10_isLink_4 : decode cX10_isLink 4 = .ok (.iload_n 1, 1) := by decide +kernel
theorem dX10_isLink_5 : decode cX10_isLink 5 = .ok (.aload_n 0, 1) := by decide +kernel
theorem dX10_isLink_6 : decode cX10_isLink 6 = .ok (.getfield 12, 3) := by decide +kernel
theorem dX10_isLink_9 : decode cX10_isLink 9 = .ok (.getfield 129, 3) := by decide +kernel
theorem dX10_isLink_12 : decode cX10_isLink 12 = .ok (.if_icmp .ge 7, 3) := by decide +kernel
theorem dX10_isLink_15 : decode cX10_isLink 15 = .ok (.iconst 1, 1) := by decide +kernel
theorem dX10_isLink_16 : decode cX10_isLink 16 = .ok (.goto 4, 3) := by decide +kernel
theorem dX10_isLink_19 : decode cX10_isLink 19 = .ok (.iconst 0, 1) := by decide +kernel
theorem dX10_isLink_20 : decode cX10_isLink 20 = .ok (.ireturn, 1) := by decide +kernel
theorem dX10_isFormat_0 : decode cX10_isFormat 0 = .ok (.iload_n 1, 1) := by decide +kernel
theorem dX10_isFormat_1 : decode cX10_isFormat 1 = .ok (.ifCond .lt 18, 3) := by decide +kernel
theorem dX10_isFormat_4 : decode cX10_isFormat 4 = .ok (.iload_n 1, 1) := by decide +kernel
theorem dX10_isFormat_5 : decode cX10_isFormat 5 = .ok (.aload_n 0, 1) := by decide +kernel
theorem dX10_isFormat_6 : decode cX10_isFormat 6 = .ok (.getfield 12, 3) := by decide +kernel
theorem dX10_isFormat_9 : decode cX10_isFormat 9 = .ok (.getfield 132, 3) := by decide +kernel
theorem dX10_isFormat_12 : decode cX10_isFormat 12 = .ok (.if_icmp .ge 7, 3) := by decide +kernel
theorem dX10_isFormat_15 : decode cX10_isFormat 15 = .ok (.iconst 1, 1) := by decide +kernel
theorem dX10_isFormat_16 : decode cX10_isFormat 16 = .ok (.goto 4, 3) := by decide +kernel
theorem dX10_isFormat_19 : decode cX10_isFormat 19 = .ok (.iconst 0, 1) := by decide +kernel
theorem dX10_isFormat_20 : decode cX10_isFormat 20 = .ok (.ireturn, 1) := by decide +kernel
theorem dX10_isMadeFormat_0 : decode cX10_isMadeFormat 0 = .ok (.iload_n 1, 1) := by decide +kernel
theorem dX10_isMadeFormat_1 : decode cX10_isMadeFormat 1 = .ok (.ifCond .eq 15, 3) := by decide +kernel
theorem dX10_isMadeFormat_4 : decode cX10_isMadeFormat 4 = .ok (.aload_n 0, 1) := by decide +kernel
theorem dX10_isMadeFormat_5 : decode cX10_isMadeFormat 5 = .ok (.iload_n 1, 1) := by decide +kernel
theorem dX10_isMadeFormat_6 : decode cX10_isMadeFormat 6 = .ok (.invokevirtual 138, 3) := by decide +kernel
theorem dX10_isMadeFormat_9 : decode cX10_isMadeFormat 9 = .ok (.ifCond .eq 7, 3) := by decide +kernel
theorem dX10_isMadeFormat_12 : decode cX10_isMadeFormat 12 = .ok (.iconst 1, 1) := by decide +kernel
theorem dX10_isMadeFormat_13 : decode cX10_isMadeFormat 13 = .ok (.goto 4, 3) := by decide +kernel
theorem dX10_isMadeFormat_16 : decode cX10_isMadeFormat 16 = .ok (.iconst 0, 1) := by decide +kernel
theorem dX10_isMadeFormat_17 : decode cX10_isMadeFormat 17 = .ok (.ireturn, 1) := by decide +kernel
theorem dX10_isLevel_0 : decode cX10_isLevel 0 = .ok (.iload_n 1, 1) := by decide +kernel
theorem dX10_isLevel_1 : decode cX10_isLevel 1 = .ok (.iconst 1, 1) := by decide +kernel
theorem dX10_isLevel_2 : decode cX10_isLevel 2 = .ok (.if_icmp .lt 18, 3) := by decide +kernel
theorem dX10_isLevel_5 : decode cX10_isLevel 5 = .ok (.iload_n 1, 1) := by decide +kernel
theorem dX10_isLevel_6 : decode cX10_isLevel 6 = .ok (.aload_n 0, 1) := by decide +kernel
theorem dX10_isLevel_7 : decode cX10_isLevel 7 = .ok (.getfield 12, 3) := by decide +kernel
theorem dX10_isLevel_10 : decode cX10_isLevel 10 = .ok (.getfield 135, 3) := by decide +kernel
theorem dX10_isLevel_13 : decode cX10_isLevel 13 = .ok (.if_icmp .gt 7, 3) := by decide +kernel
theorem dX10_isLevel_16 : decode cX10_isLevel 16 = .ok (.iconst 1, 1) := by decide +kernel
theorem dX10_isLevel_17 : decode cX10_isLevel 17 = .ok (.goto 4, 3) := by decide +kernel
theorem dX10_isLevel_20 : decode cX10_isLevel 20 = .ok (.iconst 0, 1) := by decide +kernel
theorem dX10_isLevel_21 : decode cX10_isLevel 21 = .ok (.ireturn, 1) := by decide +kernel
theorem dX10_isAdded_0 : decode cX10_isAdded 0 = .ok (.iload_n 1, 1) := by decide +kernel
theorem dX10_isAdded_1 : decode cX10_isAdded 1 = .ok (.ifCond .lt 18, 3) := by decide +kernel
theorem dX10_isAdded_4 : decode cX10_isAdded 4 = .ok (.iload_n 1, 1) := by decide +kernel
theorem dX10_isAdded_5 : decode cX10_isAdded 5 = .ok (.aload_n 0, 1) := by decide +kernel
theorem dX10_isAdded_6 : decode cX10_isAdded 6 = .ok (.getfield 22, 3) := by decide +kernel
theorem dX10_isAdded_9 : decode cX10_isAdded 9 = .ok (.getfield 166, 3) := by decide +kernel
theorem dX10_isAdded_12 : decode cX10_isAdded 12 = .ok (.if_icmp .ge 7, 3) := by decide +kernel
theorem dX10_isAdded_15 : decode cX10_isAdded 15 = .ok (.iconst 1, 1) := by decide +kernel
theorem dX10_isAdded_16 : decode cX10_isAdded 16 = .ok (.goto 4, 3) := by decide +kernel
theorem dX10_isAdded_19 : decode cX10_isAdded 19 = .ok (.iconst 0, 1) := by decide +kernel
theorem dX10_isAdded_20 : decode cX10_isAdded 20 = .ok (.ireturn, 1) := by decide +kernel
theorem dX10_isPresent_0 : decode cX10_isPresent 0 = .ok (.aload_n 0, 1) := by decide +kernel
theorem dX10_isPresent_1 : decode cX10_isPresent 1 = .ok (.iload_n 1, 1) := by decide +kernel
theorem dX10_isPresent_2 : decode cX10_isPresent 2 = .ok (.invokevirtual 235, 3) := by decide +kernel
theorem dX10_isPresent_5 : decode cX10_isPresent 5 = .ok (.ifCond .eq 19, 3) := by decide +kernel
theorem dX10_isPresent_8 : decode cX10_isPresent 8 = .ok (.aload_n 0, 1) := by decide +kernel
theorem dX10_isPresent_9 : decode cX10_isPresent 9 = .ok (.getfield 22, 3) := by decide +kernel
theorem dX10_isPresent_12 : decode cX10_isPresent 12 = .ok (.getfield 187, 3) := by decide +kernel
theorem dX10_isPresent_15 : decode cX10_isPresent 15 = .ok (.iload_n 1, 1) := by decide +kernel
theorem dX10_isPresent_16 : decode cX10_isPresent 16 = .ok (.baload, 1) := by decide +kernel
theorem dX10_isPresent_17 : decode cX10_isPresent 17 = .ok (.ifCond .ne 7, 3) := by decide +kernel
theorem dX10_isPresent_20 : decode cX10_isPresent 20 = .ok (.iconst 1, 1) := by decide +kernel
theorem dX10_isPresent_21 : decode cX10_isPresent 21 = .ok (.goto 4, 3) := by decide +kernel
theorem dX10_isPresent_24 : decode cX10_isPresent 24 = .ok (.iconst 0, 1) := by decide +kernel
theorem dX10_isPresent_25 : decode cX10_isPresent 25 = .ok (.ireturn, 1) := by decide +kernel
theorem dX10_wantedSum_0 : decode cX10_wantedSum 0 = .ok (.iconst 0, 1) := by decide +kernel
theorem dX10_wantedSum_1 : decode cX10_wantedSum 1 = .ok (.istore_n 1, 1) := by decide +kernel
theorem dX10_wantedSum_2 : decode cX10_wantedSum 2 = .ok (.iconst 0, 1) := by decide +kernel
theorem dX10_wantedSum_3 : decode cX10_wantedSum 3 = .ok (.istore_n 2, 1) := by decide +kernel
theorem dX10_wantedSum_4 : decode cX10_wantedSum 4 = .ok (.iload_n 2, 1) := by decide +kernel
theorem dX10_wantedSum_5 : decode cX10_wantedSum 5 = .ok (.aload_n 0, 1) := by decide +kernel
theorem dX10_wantedSum_6 : decode cX10_wantedSum 6 = .ok (.getfield 22, 3) := by decide +kernel
theorem dX10_wantedSum_9 : decode cX10_wantedSum 9 = .ok (.getfield 166, 3) := by decide +kernel
theorem dX10_wantedSum_12 : decode cX10_wantedSum 12 = .ok (.if_icmp .ge 37, 3) := by decide +kernel
theorem dX10_wantedSum_15 : decode cX10_wantedSum 15 = .ok (.iload_n 1, 1) := by decide +kernel
theorem dX10_wantedSum_16 : decode cX10_wantedSum 16 = .ok (.aload_n 0, 1) := by decide +kernel
theorem dX10_wantedSum_17 : decode cX10_wantedSum 17 = .ok (.getfield 22, 3) := by decide +kernel
theorem dX10_wantedSum_20 : decode cX10_wantedSum 20 = .ok (.getfield 187, 3) := by decide +kernel
theorem dX10_wantedSum_23 : decode cX10_wantedSum 23 = .ok (.iload_n 2, 1) := by decide +kernel
theorem dX10_wantedSum_24 : decode cX10_wantedSum 24 = .ok (.baload, 1) := by decide +kernel
theorem dX10_wantedSum_25 : decode cX10_wantedSum 25 = .ok (.ifCond .eq 7, 3) := by decide +kernel
theorem dX10_wantedSum_28 : decode cX10_wantedSum 28 = .ok (.iconst 0, 1) := by decide +kernel
theorem dX10_wantedSum_29 : decode cX10_wantedSum 29 = .ok (.goto 12, 3) := by decide +kernel
theorem dX10_wantedSum_32 : decode cX10_wantedSum 32 = .ok (.aload_n 0, 1) := by decide +kernel
theorem dX10_wantedSum_33 : decode cX10_wantedSum 33 = .ok (.getfield 22, 3) := by decide +kernel
theorem dX10_wantedSum_36 : decode cX10_wantedSum 36 = .ok (.getfield 193, 3) := by decide +kernel
theorem dX10_wantedSum_39 : decode cX10_wantedSum 39 = .ok (.iload_n 2, 1) := by decide +kernel
theorem dX10_wantedSum_40 : decode cX10_wantedSum 40 = .ok (.iaload, 1) := by decide +kernel
theorem dX10_wantedSum_41 : decode cX10_wantedSum 41 = .ok (.iadd, 1) := by decide +kernel
theorem dX10_wantedSum_42 : decode cX10_wantedSum 42 = .ok (.istore_n 1, 1) := by decide +kernel
theorem dX10_wantedSum_43 : decode cX10_wantedSum 43 = .ok (.iinc 2 1, 3) := by decide +kernel
theorem dX10_wantedSum_46 : decode cX10_wantedSum 46 = .ok (.goto (-42), 3) := by decide +kernel
theorem dX10_wantedSum_49 : decode cX10_wantedSum 49 = .ok (.iload_n 1, 1) := by decide +kernel
theorem dX10_wantedSum_50 : decode cX10_wantedSum 50 = .ok (.ireturn, 1) := by decide +kernel
theorem dX10_contentCount_0 : decode cX10_contentCount 0 = .ok (.iconst 0, 1) := by decide +kernel
theorem dX10_contentCount_1 : decode cX10_contentCount 1 = .ok (.istore_n 1, 1) := by decide +kernel
theorem dX10_contentCount_2 : decode cX10_contentCount 2 = .ok (.iconst 0, 1) := by decide +kernel
theorem dX10_contentCount_3 : decode cX10_contentCount 3 = .ok (.istore_n 2, 1) := by decide +kernel
theorem dX10_contentCount_4 : decode cX10_contentCount 4 = .ok (.iload_n 2, 1) := by decide +kernel
theorem dX10_contentCount_5 : decode cX10_contentCount 5 = .ok (.aload_n 0, 1) := by decide +kernel
theorem dX10_contentCount_6 : decode cX10_contentCount 6 = .ok (.getfield 22, 3) := by decide +kernel
theorem dX10_contentCount_9 : decode cX10_contentCount 9 = .ok (.getfield 166, 3) := by decide +kernel
theorem dX10_contentCount_12 : decode cX10_contentCount 12 = .ok (.if_icmp .ge 50, 3) := by decide +kernel
theorem dX10_contentCount_15 : decode cX10_contentCount 15 = .ok (.iload_n 1, 1) := by decide +kernel
theorem dX10_contentCount_16 : decode cX10_contentCount 16 = .ok (.aload_n 0, 1) := by decide +kernel
theorem dX10_contentCount_17 : decode cX10_contentCount 17 = .ok (.getfield 22, 3) := by decide +kernel
theorem dX10_contentCount_20 : decode cX10_contentCount 20 = .ok (.getfield 187, 3) := by decide +kernel
theorem dX10_contentCount_23 : decode cX10_contentCount 23 = .ok (.iload_n 2, 1) := by decide +kernel
theorem dX10_contentCount_24 : decode cX10_contentCount 24 = .ok (.baload, 1) := by decide +kernel
theorem dX10_contentCount_25 : decode cX10_contentCount 25 = .ok (.ifCond .ne 28, 3) := by decide +kernel
theorem dX10_contentCount_28 : decode cX10_contentCount 28 = .ok (.aload_n 0, 1) := by decide +kernel
theorem dX10_contentCount_29 : decode cX10_contentCount 29 = .ok (.getfield 22, 3) := by decide +kernel
theorem dX10_contentCount_32 : decode cX10_contentCount 32 = .ok (.getfield 184, 3) := by decide +kernel
theorem dX10_contentCount_35 : decode cX10_contentCount 35 = .ok (.iload_n 2, 1) := by decide +kernel
theorem dX10_contentCount_36 : decode cX10_contentCount 36 = .ok (.iaload, 1) := by decide +kernel
theorem dX10_contentCount_37 : decode cX10_contentCount 37 = .ok (.aload_n 0, 1) := by decide +kernel
theorem dX10_contentCount_38 : decode cX10_contentCount 38 = .ok (.getfield 22, 3) := by decide +kernel
theorem dX10_contentCount_41 : decode cX10_contentCount 41 = .ok (.getfield 193, 3) := by decide +kernel
theorem dX10_contentCount_44 : decode cX10_contentCount 44 = .ok (.iload_n 2, 1) := by decide +kernel
theorem dX10_contentCount_45 : decode cX10_contentCount 45 = .ok (.iaload, 1) := by decide +kernel
theorem dX10_contentCount_46 : decode cX10_contentCount 46 = .ok (.if_icmp .ne 7, 3) := by decide +kernel
theorem dX10_contentCount_49 : decode cX10_contentCount 49 = .ok (.iconst 1, 1) := by decide +kernel
theorem dX10_contentCount_50 : decode cX10_contentCount 50 = .ok (.goto 4, 3) := by decide +kernel
theorem dX10_contentCount_53 : decode cX10_contentCount 53 = .ok (.iconst 0, 1) := by decide +kernel
theorem dX10_contentCount_54 : decode cX10_contentCount 54 = .ok (.iadd, 1) := by decide +kernel
theorem dX10_contentCount_55 : decode cX10_contentCount 55 = .ok (.istore_n 1, 1) := by decide +kernel
theorem dX10_contentCount_56 : decode cX10_contentCount 56 = .ok (.iinc 2 1, 3) := by decide +kernel
theorem dX10_contentCount_59 : decode cX10_contentCount 59 = .ok (.goto (-55), 3) := by decide +kernel
theorem dX10_contentCount_62 : decode cX10_contentCount 62 = .ok (.iload_n 1, 1) := by decide +kernel
theorem dX10_contentCount_63 : decode cX10_contentCount 63 = .ok (.ireturn, 1) := by decide +kernel
theorem dX10_presentCount_0 : decode cX10_presentCount 0 = .ok (.iconst 0, 1) := by decide +kernel
theorem dX10_presentCount_1 : decode cX10_presentCount 1 = .ok (.istore_n 1, 1) := by decide +kernel
theorem dX10_presentCount_2 : decode cX10_presentCount 2 = .ok (.iconst 0, 1) := by decide +kernel
theorem dX10_presentCount_3 : decode cX10_presentCount 3 = .ok (.istore_n 2, 1) := by decide +kernel
theorem dX10_presentCount_4 : decode cX10_presentCount 4 = .ok (.iload_n 2, 1) := by decide +kernel
theorem dX10_presentCount_5 : decode cX10_presentCount 5 = .ok (.aload_n 0, 1) := by decide +kernel
theorem dX10_presentCount_6 : decode cX10_presentCount 6 = .ok (.getfield 22, 3) := by decide +kernel
theorem dX10_presentCount_9 : decode cX10_presentCount 9 = .ok (.getfield 166, 3) := by decide +kernel
theorem dX10_presentCount_12 : decode cX10_presentCount 12 = .ok (.if_icmp .ge 29, 3) := by decide +kernel
theorem dX10_presentCount_15 : decode cX10_presentCount 15 = .ok (.iload_n 1, 1) := by decide +kernel
theorem dX10_presentCount_16 : decode cX10_presentCount 16 = .ok (.aload_n 0, 1) := by decide +kernel
theorem dX10_presentCount_17 : decode cX10_presentCount 17 = .ok (.getfield 22, 3) := by decide +kernel
theorem dX10_presentCount_20 : decode cX10_presentCount 20 = .ok (.getfield 187, 3) := by decide +kernel
theorem dX10_presentCount_23 : decode cX10_presentCount 23 = .ok (.iload_n 2, 1) := by decide +kernel
theorem dX10_presentCount_24 : decode cX10_presentCount 24 = .ok (.baload, 1) := by decide +kernel
theorem dX10_presentCount_25 : decode cX10_presentCount 25 = .ok (.ifCond .eq 7, 3) := by decide +kernel
theorem dX10_presentCount_28 : decode cX10_presentCount 28 = .ok (.iconst 0, 1) := by decide +kernel
theorem dX10_presentCount_29 : decode cX10_presentCount 29 = .ok (.goto 4, 3) := by decide +kernel
theorem dX10_presentCount_32 : decode cX10_presentCount 32 = .ok (.iconst 1, 1) := by decide +kernel
theorem dX10_presentCount_33 : decode cX10_presentCount 33 = .ok (.iadd, 1) := by decide +kernel
theorem dX10_presentCount_34 : decode cX10_presentCount 34 = .ok (.istore_n 1, 1) := by decide +kernel
theorem dX10_presentCount_35 : decode cX10_presentCount 35 = .ok (.iinc 2 1, 3) := by decide +kernel
theorem dX10_presentCount_38 : decode cX10_presentCount 38 = .ok (.goto (-34), 3) := by decide +kernel
theorem dX10_presentCount_41 : decode cX10_presentCount 41 = .ok (.iload_n 1, 1) := by decide +kernel
theorem dX10_presentCount_42 : decode cX10_presentCount 42 = .ok (.ireturn, 1) := by decide +kernel
