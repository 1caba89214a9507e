theorem dX9_init_0 : decode cX9_init 0 = .ok (.aload_n 0, 1) := by decide +kernel
theorem dX9_init_1 : decode cX9_init 1 = .ok (.invokespecial 1, 3) := by decide +kernel
theorem dX9_init_4 : decode cX9_init 4 = .ok (.aload_n 0, 1) := by decide +kernel
theorem dX9_init_5 : decode cX9_init 5 = .ok (.iconst 2, 1) := by decide +kernel
theorem dX9_init_6 : decode cX9_init 6 = .ok (.newarray .int, 2) := by decide +kernel
theorem dX9_init_8 : decode cX9_init 8 = .ok (.putfield 7, 3) := by decide +kernel
theorem dX9_init_11 : decode cX9_init 11 = .ok (.aload_n 0, 1) := by decide +kernel
theorem dX9_init_12 : decode cX9_init 12 = .ok (.bipush 94, 2) := by decide +kernel
theorem dX9_init_14 : decode cX9_init 14 = .ok (.newarray .int, 2) := by decide +kernel
theorem dX9_init_16 : decode cX9_init 16 = .ok (.putfield 13, 3) := by decide +kernel
theorem dX9_init_19 : decode cX9_init 19 = .ok (.aload_n 0, 1) := by decide +kernel
theorem dX9_init_20 : decode cX9_init 20 = .ok (.bipush 9, 2) := by decide +kernel
theorem dX9_init_22 : decode cX9_init 22 = .ok (.newarray .int, 2) := by decide +kernel
theorem dX9_init_24 : decode cX9_init 24 = .ok (.putfield 16, 3) := by decide +kernel
theorem dX9_init_27 : decode cX9_init 27 = .ok (.aload_n 0, 1) := by decide +kernel
theorem dX9_init_28 : decode cX9_init 28 = .ok (.bipush 9, 2) := by decide +kernel
theorem dX9_init_30 : decode cX9_init 30 = .ok (.newarray .int, 2) := by decide +kernel
theorem dX9_init_32 : decode cX9_init 32 = .ok (.putfield 19, 3) := by decide +kernel
theorem dX9_init_35 : decode cX9_init 35 = .ok (.aload_n 0, 1) := by decide +kernel
theorem dX9_init_36 : decode cX9_init 36 = .ok (.bipush 9, 2) := by decide +kernel
theorem dX9_init_38 : decode cX9_init 38 = .ok (.newarray .int, 2) := by decide +kernel
theorem dX9_init_40 : decode cX9_init 40 = .ok (.putfield 22, 3) := by decide +kernel
theorem dX9_init_43 : decode cX9_init 43 = .ok (.aload_n 0, 1) := by decide +kernel
theorem dX9_init_44 : decode cX9_init 44 = .ok (.bipush 9, 2) := by decide +kernel
theorem dX9_init_46 : decode cX9_init 46 = .ok (.newarray .int, 2) := by decide +kernel
theorem dX9_init_48 : decode cX9_init 48 = .ok (.putfield 25, 3) := by decide +kernel
theorem dX9_init_51 : decode cX9_init 51 = .ok (.aload_n 0, 1) := by decide +kernel
theorem dX9_init_52 : decode cX9_init 52 = .ok (.bipush 8, 2) := by decide +kernel
theorem dX9_init_54 : decode cX9_init 54 = .ok (.newarray .int, 2) := by decide +kernel
theorem dX9_init_56 : decode cX9_init 56 = .ok (.putfield 28, 3) := by decide +kernel
theorem dX9_init_59 : decode cX9_init 59 = .ok (.aload_n 0, 1) := by decide +kernel
theorem dX9_init_60 : decode cX9_init 60 = .ok (.bipush 8, 2) := by decide +kernel
theorem dX9_init_62 : decode cX9_init 62 = .ok (.newarray .int, 2) := by decide +kernel
theorem dX9_init_64 : decode cX9_init 64 = .ok (.putfield 31, 3) := by decide +kernel
theorem dX9_init_67 : decode cX9_init 67 = .ok (.aload_n 0, 1) := by decide +kernel
theorem dX9_init_68 : decode cX9_init 68 = .ok (.bipush 16, 2) := by decide +kernel
theorem dX9_init_70 : decode cX9_init 70 = .ok (.newarray .int, 2) := by decide +kernel
theorem dX9_init_72 : decode cX9_init 72 = .ok (.putfield 34, 3) := by decide +kernel
theorem dX9_init_75 : decode cX9_init 75 = .ok (.aload_n 0, 1) := by decide +kernel
theorem dX9_init_76 : decode cX9_init 76 = .ok (.bipush 16, 2) := by decide +kernel
theorem dX9_init_78 : decode cX9_init 78 = .ok (.newarray .int, 2) := by decide +kernel
theorem dX9_init_80 : decode cX9_init 80 = .ok (.putfield 37, 3) := by decide +kernel
theorem dX9_init_83 : decode cX9_init 83 = .ok (.aload_n 0, 1) := by decide +kernel
theorem dX9_init_84 : decode cX9_init 84 = .ok (.bipush 16, 2) := by decide +kernel
theorem dX9_init_86 : decode cX9_init 86 = .ok (.newarray .int, 2) := by decide +kernel
theorem dX9_init_88 : decode cX9_init 88 = .ok (.putfield 40, 3) := by decide +kernel
theorem dX9_init_91 : decode cX9_init 91 = .ok (.aload_n 0, 1) := by decide +kernel
theorem dX9_init_92 : decode cX9_init 92 = .ok (.bipush 16, 2) := by decide +kernel
theorem dX9_init_94 : decode cX9_init 94 = .ok (.newarray .int, 2) := by decide +kernel
theorem dX9_init_96 : decode cX9_init 96 = .ok (.putfield 43, 3) := by decide +kernel
theorem dX9_init_99 : decode cX9_init 99 = .ok (.aload_n 0, 1) := by decide +kernel
theorem dX9_init_100 : decode cX9_init 100 = .ok (.iconst 3, 1) := by decide +kernel
theorem dX9_init_101 : decode cX9_init 101 = .ok (.newarray .int, 2) := by decide +kernel
theorem dX9_init_103 : decode cX9_init 103 = .ok (.putfield 46, 3) := by decide +kernel
theorem dX9_init_106 : decode cX9_init 106 = .ok (.aload_n 0, 1) := by decide +kernel
theorem dX9_init_107 : decode cX9_init 107 = .ok (.bipush 40, 2) := by decide +kernel
theorem dX9_init_109 : decode cX9_init 109 = .ok (.newarray .int, 2) := by decide +kernel
theorem dX9_init_111 : decode cX9_init 111 = .ok (.putfield 49, 3) := by decide +kernel
theorem dX9_init_114 : decode cX9_init 114 = .ok (.aload_n 0, 1) := by decide +kernel
theorem dX9_init_115 : decode cX9_init 115 = .ok (.bipush 40, 2) := by decide +kernel
theorem dX9_init_117 : decode cX9_init 117 = .ok (.newarray .int, 2) := by decide +kernel
theorem dX9_init_119 : decode cX9_init 119 = .ok (.putfield 52, 3) := by decide +kernel
theorem dX9_init_122 : decode cX9_init 122 = .ok (.aload_n 0, 1) := by decide +kernel
theorem dX9_init_123 : decode cX9_init 123 = .ok (.bipush 64, 2) := by decide +kernel
theorem dX9_init_125 : decode cX9_init 125 = .ok (.newarray .int, 2) := by decide +kernel
theorem dX9_init_127 : decode cX9_init 127 = .ok (.putfield 55, 3) := by decide +kernel
theorem dX9_init_130 : decode cX9_init 130 = .ok (.aload_n 0, 1) := by decide +kernel
theorem dX9_init_131 : decode cX9_init 131 = .ok (.bipush 8, 2) := by decide +kernel
theorem dX9_init_133 : decode cX9_init 133 = .ok (.newarray .int, 2) := by decide +kernel
theorem dX9_init_135 : decode cX9_init 135 = .ok (.putfield 58, 3) := by decide +kernel
theorem dX9_init_138 : decode cX9_init 138 = .ok (.aload_n 0, 1) := by decide +kernel
theorem dX9_init_139 : decode cX9_init 139 = .ok (.bipush 8, 2) := by decide +kernel
theorem dX9_init_141 : decode cX9_init 141 = .ok (.newarray .int, 2) := by decide +kernel
theorem dX9_init_143 : decode cX9_init 143 = .ok (.putfield 61, 3) := by decide +kernel
theorem dX9_init_146 : decode cX9_init 146 = .ok (.aload_n 0, 1) := by decide +kernel
theorem dX9_init_147 : decode cX9_init 147 = .ok (.bipush 8, 2) := by decide +kernel
theorem dX9_init_149 : decode cX9_init 149 = .ok (.newarray .boolean, 2) := by decide +kernel
theorem dX9_init_151 : decode cX9_init 151 = .ok (.putfield 64, 3) := by decide +kernel
theorem dX9_init_154 : decode cX9_init 154 = .ok (.aload_n 0, 1) := by decide +kernel
theorem dX9_init_155 : decode cX9_init 155 = .ok (.bipush 40, 2) := by decide +kernel
theorem dX9_init_157 : decode cX9_init 157 = .ok (.newarray .boolean, 2) := by decide +kernel
theorem dX9_init_159 : decode cX9_init 159 = .ok (.putfield 68, 3) := by decide +kernel
theorem dX9_init_162 : decode cX9_init 162 = .ok (.aload_n 0, 1) := by decide +kernel
theorem dX9_init_163 : decode cX9_init 163 = .ok (.bipush 16, 2) := by decide +kernel
theorem dX9_init_165 : decode cX9_init 165 = .ok (.newarray .boolean, 2) := by decide +kernel
theorem dX9_init_167 : decode cX9_init 167 = .ok (.putfield 71, 3) := by decide +kernel
theorem dX9_init_170 : decode cX9_init 170 = .ok (.aload_n 0, 1) := by decide +kernel
theorem dX9_init_171 : decode cX9_init 171 = .ok (.bipush 8, 2) := by decide +kernel
theorem dX9_init_173 : decode cX9_init 173 = .ok (.newarray .int, 2) := by decide +kernel
theorem dX9_init_175 : decode cX9_init 175 = .ok (.putfield 74, 3) := by decide +kernel
theorem dX9_init_178 : decode cX9_init 178 = .ok (.aload_n 0, 1) := by decide +kernel
theorem dX9_init_179 : decode cX9_init 179 = .ok (.bipush 8, 2) := by decide +kernel
theorem dX9_init_181 : decode cX9_init 181 = .ok (.newarray .int, 2) := by decide +kernel
theorem dX9_init_183 : decode cX9_init 183 = .ok (.putfield 77, 3) := by decide +kernel
theorem dX9_init_186 : decode cX9_init 186 = .ok (.aload_n 0, 1) := by decide +kernel
theorem dX9_init_187 : decode cX9_init 187 = .ok (.sipush 2304, 3) := by decide +kernel
theorem dX9_init_190 : decode cX9_init 190 = .ok (.newarray .int, 2) := by decide +kernel
theorem dX9_init_192 : decode cX9_init 192 = .ok (.putfield 80, 3) := by decide +kernel
theorem dX9_init_195 : decode cX9_init 195 = .ok (.aload_n 0, 1) := by decide +kernel
theorem dX9_init_196 : decode cX9_init 196 = .ok (.bipush 8, 2) := by decide +kernel
theorem dX9_init_198 : decode cX9_init 198 = .ok (.newarray .int, 2) := by decide +kernel
theorem dX9_init_200 : decode cX9_init 200 = .ok (.putfield 83, 3) := by decide +kernel
theorem dX9_init_203 : decode cX9_init 203 = .ok (.aload_n 0, 1) := by decide +kernel
theorem dX9_init_204 : decode cX9_init 204 = .ok (.bipush 8, 2) := by decide +kernel
theorem dX9_init_206 : decode cX9_init 206 = .ok (.newarray .int, 2) := by decide +kernel
theorem dX9_init_208 : decode cX9_init 208 = .ok (.putfield 86, 3) := by decide +kernel
theorem dX9_init_211 : decode cX9_init 211 = .ok (.aload_n 0, 1) := by decide +kernel
theorem dX9_init_212 : decode cX9_init 212 = .ok (.bipush 8, 2) := by decide +kernel
theorem dX9_init_214 : decode cX9_init 214 = .ok (.newarray .int, 2) := by decide +kernel
theorem dX9_init_216 : decode cX9_init 216 = .ok (.putfield 89, 3) := by decide +kernel
theorem dX9_init_219 : decode cX9_init 219 = .ok (.aload_n 0, 1) := by decide +kernel
theorem dX9_init_220 : decode cX9_init 220 = .ok (.sipush 128, 3) := by decide +kernel
theorem dX9_init_223 : decode cX9_init 223 = .ok (.newarray .int, 2) := by decide +kernel
theorem dX9_init_225 : decode cX9_init 225 = .ok (.putfield 92, 3) := by decide +kernel
theorem dX9_init_228 : decode cX9_init 228 = .ok (.aload_n 0, 1) := by decide +kernel
theorem dX9_init_229 : decode cX9_init 229 = .ok (.iconst 4, 1) := by decide +kernel
theorem dX9_init_230 : decode cX9_init 230 = .ok (.newarray .boolean, 2) := by decide +kernel
theorem dX9_init_232 : decode cX9_init 232 = .ok (.putfield 95, 3) := by decide +kernel
theorem dX9_init_235 : decode cX9_init 235 = .ok (.aload_n 0, 1) := by decide +kernel
theorem dX9_init_236 : decode cX9_init 236 = .ok (.iconst 4, 1) := by decide +kernel
theorem dX9_init_237 : decode cX9_init 237 = .ok (.newarray .int, 2) := by decide +kernel
theorem dX9_init_239 : decode cX9_init 239 = .ok (.putfield 98, 3) := by decide +kernel
theorem dX9_init_242 : decode cX9_init 242 = .ok (.aload_n 0, 1) := by decide +kernel
theorem dX9_init_243 : decode cX9_init 243 = .ok (.iconst 4, 1) := by decide +kernel
theorem dX9_init_244 : decode cX9_init 244 = .ok (.newarray .int, 2) := by decide +kernel
theorem dX9_init_246 : decode cX9_init 246 = .ok (.putfield 101, 3) := by decide +kernel
theorem dX9_init_249 : decode cX9_init 249 = .ok (.aload_n 0, 1) := by decide +kernel
theorem dX9_init_250 : decode cX9_init 250 = .ok (.sipush 240, 3) := by decide +kernel
theorem dX9_init_253 : decode cX9_init 253 = .ok (.newarray .int, 2) := by decide +kernel
theorem dX9_init_255 : decode cX9_init 255 = .ok (.putfield 104, 3) := by decide +kernel
theorem dX9_init_258 : decode cX9_init 258 = .ok (.aload_n 0, 1) := by decide +kernel
theorem dX9_init_259 : decode cX9_init 259 = .ok (.bipush 60, 2) := by decide +kernel
theorem dX9_init_261 : decode cX9_init 261 = .ok (.newarray .int, 2) := by decide +kernel
theorem dX9_init_263 : decode cX9_init 263 = .ok (.putfield 107, 3) := by decide +kernel
theorem dX9_init_266 : decode cX9_init 266 = .ok (.aload_n 0, 1) := by decide +kernel
theorem dX9_init_267 : decode cX9_init 267 = .ok (.bipush 60, 2) := by decide +kernel
theorem dX9_init_269 : decode cX9_init 269 = .ok (.putfield 110, 3) := by decide +kernel
theorem dX9_init_272 : decode cX9_init 272 = .ok (.return_, 1) := by decide +kernel
theorem dX9_in_0 : decode cX9_in 0 = .ok (.iload_n 0, 1) := by decide +kernel
theorem dX9_in_1 : decode cX9_in 1 = .ok (.iload_n 1, 1) := by decide +kernel
theorem dX9_in_2 : decode cX9_in 2 = .ok (.if_icmp .lt 12, 3) := by decide +kernel
theorem dX9_in_5 : decode cX9_in 5 = .ok (.iload_n 0, 1) := by decide +kernel
theorem dX9_in_6 : decode cX9_in 6 = .ok (.iload_n 2, 1) := by decide +kernel
theorem dX9_in_7 : decode cX9_in 7 = .ok (.if_icmp .gt 7, 3) := by decide +kernel
theorem dX9_in_10 : decode cX9_in 10 = .ok (.iconst 1, 1) := by decide +kernel
theorem dX9_in_11 : decode cX9_in 11 = .ok (.goto 4, 3) := by decide +kernel
theorem dX9_in_14 : decode cX9_in 14 = .ok (.iconst 0, 1) := by decide +kernel
theorem dX9_in_15 : decode cX9_in 15 = .ok (.ireturn, 1) := by decide +kernel
theorem dX9_isIn_0 : decode cX9_isIn 0 = .ok (.iload_n 0, 1) := by decide +kernel
theorem dX9_isIn_1 : decode cX9_isIn 1 = .ok (.iload_n 1, 1) := by decide +kernel
theorem dX9_isIn_2 : decode cX9_isIn 2 = .ok (.ishr, 1) := by decide +kernel
theorem dX9_isIn_3 : decode cX9_isIn 3 = .ok (.iconst 1, 1) := by decide +kernel
theorem dX9_isIn_4 : decode cX9_isIn 4 = .ok (.iand, 1) := by decide +kernel
theorem dX9_isIn_5 : decode cX9_isIn 5 = .ok (.iconst 1, 1) := by decide +kernel
theorem dX9_isIn_6 : decode cX9_isIn 6 = .ok (.if_icmp .ne 7, 3) := by decide +kernel
theorem dX9_isIn_9 : decode cX9_isIn 9 = .ok (.iconst 1, 1) := by decide +kernel
theorem dX9_isIn_10 : decode cX9_isIn 10 = .ok (.goto 4, 3) := by decide +kernel
theorem dX9_isIn_13 : decode cX9_isIn 13 = .ok (.iconst 0, 1) := by decide +kernel
theorem dX9_isIn_14 : decode cX9_isIn 14 = .ok (.ireturn, 1) := by decide +kernel
theorem dX9_no_0 : decode cX9_no 0 = .ok (.ldc2_w 114, 3) := by decide +kernel
theorem dX9_no_3 : decode cX9_no 3 = .ok (.iload_n 0, 1) := by decide +kernel
theorem dX9_no_4 : decode cX9_no 4 = .ok (.i2l, 1) := by decide +kernel
theorem dX9_no_5 : decode cX9_no 5 = .ok (.lsub, 1) := by decide +kernel
theorem dX9_no_6 : decode cX9_no 6 = .ok (.lreturn, 1) := by decide +kernel
theorem dX9_lowest_0 : decode cX9_lowest 0 = .ok (.lload_n 0, 1) := by decide +kernel
theorem dX9_lowest_1 : decode cX9_lowest 1 = .ok (.lstore 5, 2) := by decide +kernel
theorem dX9_lowest_3 : decode cX9_lowest 3 = .ok (.lload_n 2, 1) := by decide +kernel
theorem dX9_lowest_4 : decode cX9_lowest 4 = .ok (.lstore 7, 2) := by decide +kernel
theorem dX9_lowest_6 : decode cX9_lowest 6 = .ok (.lload 7, 2) := by decide +kernel
theorem dX9_lowest_8 : decode cX9_lowest 8 = .ok (.lconst 0, 1) := by decide +kernel
theorem dX9_lowest_9 : decode cX9_lowest 9 = .ok (.lcmp, 1) := by decide +kernel
theorem dX9_lowest_10 : decode cX9_lowest 10 = .ok (.ifCond .eq 21, 3) := by decide +kernel
theorem dX9_lowest_13 : decode cX9_lowest 13 = .ok (.lload 5, 2) := by decide +kernel
theorem dX9_lowest_15 : decode cX9_lowest 15 = .ok (.lload 7, 2) := by decide +kernel
theorem dX9_lowest_17 : decode cX9_lowest 17 = .ok (.lrem, 1) := by decide +kernel
theorem dX9_lowest_18 : decode cX9_lowest 18 = .ok (.lstore 9, 2) := by decide +kernel
theorem dX9_lowest_20 : decode cX9_lowest 20 = .ok (.lload 7, 2) := by decide +kernel
theorem dX9_lowest_22 : decode cX9_lowest 22 = .ok (.lstore 5, 2) := by decide +kernel
theorem dX9_lowest_24 : decode cX9_lowest 24 = .ok (.lload 9, 2) := by decide +kernel
theorem dX9_lowest_26 : decode cX9_lowest 26 = .ok (.lstore 7, 2) := by decide +kernel
theorem dX9_lowest_28 : decode cX9_lowest 28 = .ok (.goto (-22), 3) := by decide +kernel
theorem dX9_lowest_31 : decode cX9_lowest 31 = .ok (.iload 4, 2) := by decide +kernel
theorem dX9_lowest_33 : decode cX9_lowest 33 = .ok (.ifCond .ne 10, 3) := by decide +kernel
theorem dX9_lowest_36 : decode cX9_lowest 36 = .ok (.lload_n 0, 1) := by decide +kernel
theorem dX9_lowest_37 : decode cX9_lowest 37 = .ok (.lload 5, 2) := by decide +kernel
theorem dX9_lowest_39 : decode cX9_lowest 39 = .ok (.ldiv, 1) := by decide +kernel
theorem dX9_lowest_40 : decode cX9_lowest 40 = .ok (.goto 7, 3) := by decide +kernel
theorem dX9_lowest_43 : decode cX9_lowest 43 = .ok (.lload_n 2, 1) := by decide +kernel
theorem dX9_lowest_44 : decode cX9_lowest 44 = .ok (.lload 5, 2) := by decide +kernel
theorem dX9_lowest_46 : decode cX9_lowest 46 = .ok (.ldiv, 1) := by decide +kernel
theorem dX9_lowest_47 : decode cX9_lowest 47 = .ok (.lreturn, 1) := by decide +kernel
theorem dX9_isText_0 : decode cX9_isText 0 = .ok (.iload_n 0, 1) := by decide +kernel
theorem dX9_isText_1 : decode cX9_isText 1 = .ok (.iconst 0, 1) := by decide +kernel
theorem dX9_isText_2 : decode cX9_isText 2 = .ok (.iconst 1, 1) := by decide +kernel
theorem dX9_isText_3 : decode cX9_isText 3 = .ok (.invokestatic 116, 3) := by decide +kernel
theorem dX9_isText_6 : decode cX9_isText 6 = .ok (.ireturn, 1) := by decide +kernel
theorem dX9_isEight_0 : decode cX9_isEight 0 = .ok (.iload_n 0, 1) := by decide +kernel
theorem dX9_isEight_1 : decode cX9_isEight 1 = .ok (.iconst 0, 1) := by decide +kernel
theorem dX9_isEight_2 : decode cX9_isEight 2 = .ok (.bipush 7, 2) := by decide +kernel
theorem dX9_isEight_4 : decode cX9_isEight 4 = .ok (.invokestatic 116, 3) := by decide +kernel
theorem dX9_isEight_7 : decode cX9_isEight 7 = .ok (.ireturn, 1) := by decide +kernel
theorem dX9_isDay_0 : decode cX9_isDay 0 = .ok (.iload_n 0, 1) := by decide +kernel
theorem dX9_isDay_1 : decode cX9_isDay 1 = .ok (.iconst 0, 1) := by decide +kernel
theorem dX9_isDay_2 : decode cX9_isDay 2 = .ok (.bipush 39, 2) := by decide +kernel
theorem dX9_isDay_4 : decode cX9_isDay 4 = .ok (.invokestatic 116, 3) := by decide +kernel
theorem dX9_isDay_7 : decode cX9_isDay 7 = .ok (.ireturn, 1) := by decide +kernel
theorem dX9_type_0 : decode cX9_type 0 = .ok (.iload_n 1, 1) := by decide +kernel
theorem dX9_type_1 : decode cX9_type 1 = .ok (.invokestatic 120, 3) := by decide +kernel
theorem dX9_type_4 : decode cX9_type 4 = .ok (.ifCond .eq 14, 3) := by decide +kernel
theorem dX9_type_7 : decode cX9_type 7 = .ok (.iload_n 2, 1) := by decide +kernel
theorem dX9_type_8 : decode cX9_type 8 = .ok (.iconst 0, 1) := by decide +kernel
theorem dX9_type_9 : decode cX9_type 9 = .ok (.sipush 255, 3) := by decide +kernel
theorem dX9_type_12 : decode cX9_type 12 = .ok (.invokestatic 116, 3) := by decide +kernel
theorem dX9_type_15 : decode cX9_type 15 = .ok (.ifCond .ne 6, 3) := by decide +kernel
theorem dX9_type_18 : decode cX9_type 18 = .ok (.bipush (-2), 2) := by decide +kernel
theorem dX9_type_20 : decode cX9_type 20 = .ok (.ireturn, 1) := by decide +kernel
theorem dX9_type_21 : decode cX9_type 21 = .ok (.aload_n 0, 1) := by decide +kernel
theorem dX9_type_22 : decode cX9_type 22 = .ok (.getfield 7, 3) := by decide +kernel
theorem dX9_type_25 : decode cX9_type 25 = .ok (.iload_n 1, 1) := by decide +kernel
theorem dX9_type_26 : decode cX9_type 26 = .ok (.iaload, 1) := by decide +kernel
theorem dX9_type_27 : decode cX9_type 27 = .ok (.iload_n 1, 1) := by decide +kernel
theorem dX9_type_28 : decode cX9_type 28 = .ok (.ifCond .ne 8, 3) := by decide +kernel
theorem dX9_type_31 : decode cX9_type 31 = .ok (.bipush 47, 2) := by decide +kernel
theorem dX9_type_33 : decode cX9_type 33 = .ok (.goto 5, 3) := by decide +kernel
theorem dX9_type_36 : decode cX9_type 36 = .ok (.bipush 8, 2) := by decide +kernel
theorem dX9_type_38 : decode cX9_type 38 = .ok (.if_icmp .ne 6, 3) := by decide +kernel
theorem dX9_type_41 : decode cX9_type 41 = .ok (.bipush (-4), 2) := by decide +kernel
theorem dX9_type_43 : decode cX9_type 43 = .ok (.ireturn, 1) := by decide +kernel
theorem dX9_type_44 : decode cX9_type 44 = .ok (.aload_n 0, 1) := by decide +kernel
theorem dX9_type_45 : decode cX9_type 45 = .ok (.getfield 13, 3) := by decide +kernel
theorem dX9_type_48 : decode cX9_type 48 = .ok (.bipush 47, 2) := by decide +kernel
theorem dX9_type_50 : decode cX9_type 50 = .ok (.iload_n 1, 1) := by decide +kernel
theorem dX9_type_51 : decode cX9_type 51 = .ok (.imul, 1) := by decide +kernel
theorem dX9_type_52 : decode cX9_type 52 = .ok (.aload_n 0, 1) := by decide +kernel
theorem dX9_type_53 : decode cX9_type 53 = .ok (.getfield 7, 3) := by decide +kernel
theorem dX9_type_56 : decode cX9_type 56 = .ok (.iload_n 1, 1) := by decide +kernel
theorem dX9_type_57 : decode cX9_type 57 = .ok (.iaload, 1) := by decide +kernel
theorem dX9_type_58 : decode cX9_type 58 = .ok (.iadd, 1) := by decide +kernel
theorem dX9_type_59 : decode cX9_type 59 = .ok (.iload_n 2, 1) := by decide +kernel
theorem dX9_type_60 : decode cX9_type 60 = .ok (.iastore, 1) := by decide +kernel
theorem dX9_type_61 : decode cX9_type 61 = .ok (.aload_n 0, 1) := by decide +kernel
theorem dX9_type_62 : decode cX9_type 62 = .ok (.getfield 7, 3) := by decide +kernel
theorem dX9_type_65 : decode cX9_type 65 = .ok (.iload_n 1, 1) := by decide +kernel
theorem dX9_type_66 : decode cX9_type 66 = .ok (.dup2, 1) := by decide +kernel
theorem dX9_type_67 : decode cX9_type 67 = .ok (.iaload, 1) := by decide +kernel
theorem dX9_type_68 : decode cX9_type 68 = .ok (.iconst 1, 1) := by decide +kernel
theorem dX9_type_69 : decode cX9_type 69 = .ok (.iadd, 1) := by decide +kernel
theorem dX9_type_70 : decode cX9_type 70 = .ok (.iastore, 1) := by decide +kernel
theorem dX9_type_71 : decode cX9_type 71 = .ok (.aload_n 0, 1) := by decide +kernel
theorem dX9_type_72 : decode cX9_type 72 = .ok (.getfield 7, 3) := by decide +kernel
theorem dX9_type_75 : decode cX9_type 75 = .ok (.iload_n 1, 1) := by decide +kernel
theorem dX9_type_76 : decode cX9_type 76 = .ok (.iaload, 1) := by decide +kernel
theorem dX9_type_77 : decode cX9_type 77 = .ok (.ireturn, 1) := by decide +kernel
theorem dX9_wipe_0 : decode cX9_wipe 0 = .ok (.iload_n 1, 1) := by decide +kernel
theorem dX9_wipe_1 : decode cX9_wipe 1 = .ok (.invokestatic 120, 3) := by decide +kernel
theorem dX9_wipe_4 : decode cX9_wipe 4 = .ok (.ifCond .ne 6, 3) := by decide +kernel
theorem dX9_wipe_7 : decode cX9_wipe 7 = .ok (.bipush (-2), 2) := by decide +kernel
theorem dX9_wipe_9 : decode cX9_wipe 9 = .ok (.ireturn, 1) := by decide +kernel
theorem dX9_wipe_10 : decode cX9_wipe 10 = .ok (.aload_n 0, 1) := by decide +kernel
theorem dX9_wipe_11 : decode cX9_wipe 11 = .ok (.getfield 7, 3) := by decide +kernel
theorem dX9_wipe_14 : decode cX9_wipe 14 = .ok (.iload_n 1, 1) := by decide +kernel
theorem dX9_wipe_15 : decode cX9_wipe 15 = .ok (.iaload, 1) := by decide +kernel
theorem dX9_wipe_16 : decode cX9_wipe 16 = .ok (.istore_n 2, 1) := by decide +kernel
theorem dX9_wipe_17 : decode cX9_wipe 17 = .ok (.aload_n 0, 1) := by decide +kernel
theorem dX9_wipe_18 : decode cX9_wipe 18 = .ok (.getfield 7, 3) := by decide +kernel
theorem dX9_wipe_21 : decode cX9_wipe 21 = .ok (.iload_n 1, 1) := by decide +kernel
theorem dX9_wipe_22 : decode cX9_wipe 22 = .ok (.iconst 0, 1) := by decide +kernel
theorem dX9_wipe_23 : decode cX9_wipe 23 = .ok (.iastore, 1) := by decide +kernel
theorem dX9_wipe_24 : decode cX9_wipe 24 = .ok (.iload_n 2, 1) := by decide +kernel
theorem dX9_wipe_25 : decode cX9_wipe 25 = .ok (.ireturn, 1) := by decide +kernel
theorem dX9_undo_0 : decode cX9_undo 0 = .ok (.iload_n 1, 1) := by decide +kernel
theorem dX9_undo_1 : decode cX9_undo 1 = .ok (.invokestatic 120, 3) := by decide +kernel
theorem dX9_undo_4 : decode cX9_undo 4 = .ok (.ifCond .ne 6, 3) := by decide +kernel
theorem dX9_undo_7 : decode cX9_undo 7 = .ok (.bipush (-2), 2) := by decide +kernel
theorem dX9_undo_9 : decode cX9_undo 9 = .ok (.ireturn, 1) := by decide +kernel
theorem dX9_undo_10 : decode cX9_undo 10 = .ok (.aload_n 0, 1) := by decide +kernel
theorem dX9_undo_11 : decode cX9_undo 11 = .ok (.getfield 7, 3) := by decide +kernel
theorem dX9_undo_14 : decode cX9_undo 14 = .ok (.iload_n 1, 1) := by decide +kernel
theorem dX9_undo_15 : decode cX9_undo 15 = .ok (.iaload, 1) := by decide +kernel
theorem dX9_undo_16 : decode cX9_undo 16 = .ok (.ifCond .ne 6, 3) := by decide +kernel
theorem dX9_undo_19 : decode cX9_undo 19 = .ok (.bipush (-3), 2) := by decide +kernel
theorem dX9_undo_21 : decode cX9_undo 21 = .ok (.ireturn, 1) := by decide +kernel
theorem dX9_undo_22 : decode cX9_undo 22 = .ok (.aload_n 0, 1) := by decide +kernel
theorem dX9_undo_23 : decode cX9_undo 23 = .ok (.getfield 7, 3) := by decide +kernel
theorem dX9_undo_26 : decode cX9_undo 26 = .ok (.iload_n 1, 1) := by decide +kernel
theorem dX9_undo_27 : decode cX9_undo 27 = .ok (.dup2, 1) := by decide +kernel
theorem dX9_undo_28 : decode cX9_undo 28 = .ok (.iaload, 1) := by decide +kernel
theorem dX9_undo_29 : decode cX9_undo 29 = .ok (.iconst 1, 1) := by decide +kernel
theorem dX9_undo_30 : decode cX9_undo 30 = .ok (.isub, 1) := by decide +kernel
theorem dX9_undo_31 : decode cX9_undo 31 = .ok (.iastore, 1) := by decide +kernel
theorem dX9_undo_32 : decode cX9_undo 32 = .ok (.aload_n 0, 1) := by decide +kernel
theorem dX9_undo_33 : decode cX9_undo 33 = .ok (.getfield 7, 3) := by decide +kernel
theorem dX9_undo_36 : decode cX9_undo 36 = .ok (.iload_n 1, 1) := by decide +kernel
theorem dX9_undo_37 : decode cX9_undo 37 = .ok (.iaload, 1) := by decide +kernel
theorem dX9_undo_38 : decode cX9_undo 38 = .ok (.ireturn, 1) := by decide +kernel
theorem dX9_byteAt_0 : decode cX9_byteAt 0 = .ok (.iload_n 2, 1) := by decide +kernel
theorem dX9_byteAt_1 : decode cX9_byteAt 1 = .ok (.aload_n 0, 1) := by decide +kernel
theorem dX9_byteAt_2 : decode cX9_byteAt 2 = .ok (.getfield 7, 3) := by decide +kernel
theorem dX9_byteAt_5 : decode cX9_byteAt 5 = .ok (.iload_n 1, 1) := by decide +kernel
theorem dX9_byteAt_6 : decode cX9_byteAt 6 = .ok (.iaload, 1) := by decide +kernel
theorem dX9_byteAt_7 : decode cX9_byteAt 7 = .ok (.if_icmp .ge 17, 3) := by decide +kernel
theorem dX9_byteAt_10 : decode cX9_byteAt 10 = .ok (.aload_n 0, 1) := by decide +kernel
theorem dX9_byteAt_11 : decode cX9_byteAt 11 = .ok (.getfield 13, 3) := by decide +kernel
theorem dX9_byteAt_14 : decode cX9_byteAt 14 = .ok (.bipush 47, 2) := by decide +kernel
theorem dX9_byteAt_16 : decode cX9_byteAt 16 = .ok (.iload_n 1, 1) := by decide +kernel
theorem dX9_byteAt_17 : decode cX9_byteAt 17 = .ok (.imul, 1) := by decide +kernel
theorem dX9_byteAt_18 : decode cX9_byteAt 18 = .ok (.iload_n 2, 1) := by decide +kernel
theorem dX9_byteAt_19 : decode cX9_byteAt 19 = .ok (.iadd, 1) := by decide +kernel
theorem dX9_byteAt_20 : decode cX9_byteAt 20 = .ok (.iaload, 1) := by decide +kernel
theorem dX9_byteAt_21 : decode cX9_byteAt 21 = .ok (.goto 4, 3) := by decide +kernel
theorem dX9_byteAt_24 : decode cX9_byteAt 24 = .ok (.iconst (-1), 1) := by decide +kernel
theorem dX9_byteAt_25 : decode cX9_byteAt 25 = .ok (.ireturn, 1) := by decide +kernel
theorem dX9_readsBottle_0 : decode cX9_readsBottle 0 = .ok (.aload_n 0, 1) := by decide +kernel
theorem dX9_readsBottle_1 : decode cX9_readsBottle 1 = .ok (.iconst 0, 1) := by decide +kernel
theorem dX9_readsBottle_2 : decode cX9_readsBottle 2 = .ok (.iload_n 2, 1) := by decide +kernel
theorem dX9_readsBottle_3 : decode cX9_readsBottle 3 = .ok (.invokevirtual 124, 3) := by decide +kernel
theorem dX9_readsBottle_6 : decode cX9_readsBottle 6 = .ok (.istore_n 3, 1) := by decide +kernel
theorem dX9_readsBottle_7 : decode cX9_readsBottle 7 = .ok (.aload_n 0, 1) := by decide +kernel
theorem dX9_readsBottle_8 : decode cX9_readsBottle 8 = .ok (.iconst 0, 1) := by decide +kernel
theorem dX9_readsBottle_9 : decode cX9_readsBottle 9 = .ok (.iload_n 2, 1) := by decide +kernel
theorem dX9_readsBottle_10 : decode cX9_readsBottle 10 = .ok (.iconst 1, 1) := by decide +kernel
theorem dX9_readsBottle_11 : decode cX9_readsBottle 11 = .ok (.iadd, 1) := by decide +kernel
theorem dX9_readsBottle_12 : decode cX9_readsBottle 12 = .ok (.invokevirtual 124, 3) := by decide +kernel
theorem dX9_readsBottle_15 : decode cX9_readsBottle 15 = .ok (.istore 4, 2) := by decide +kernel
theorem dX9_readsBottle_17 : decode cX9_readsBottle 17 = .ok (.aload_n 0, 1) := by decide +kernel
theorem dX9_readsBottle_18 : decode cX9_readsBottle 18 = .ok (.iconst 0, 1) := by decide +kernel
theorem dX9_readsBottle_19 : decode cX9_readsBottle 19 = .ok (.iload_n 2, 1) := by decide +kernel
theorem dX9_readsBottle_20 : decode cX9_readsBottle 20 = .ok (.iconst 2, 1) := by decide +kernel
theorem dX9_readsBottle_21 : decode cX9_readsBottle 21 = .ok (.iadd, 1) := by decide +kernel
theorem dX9_readsBottle_22 : decode cX9_readsBottle 22 = .ok (.invokevirtual 124, 3) := by decide +kernel
theorem dX9_readsBottle_25 : decode cX9_readsBottle 25 = .ok (.istore 5, 2) := by decide +kernel
theorem dX9_readsBottle_27 : decode cX9_readsBottle 27 = .ok (.aload_n 0, 1) := by decide +kernel
theorem dX9_readsBottle_28 : decode cX9_readsBottle 28 = .ok (.iconst 0, 1) := by decide +kernel
theorem dX9_readsBottle_29 : decode cX9_readsBottle 29 = .ok (.iload_n 2, 1) := by decide +kernel
theorem dX9_readsBottle_30 : decode cX9_readsBottle 30 = .ok (.iconst 3, 1) := by decide +kernel
theorem dX9_readsBottle_31 : decode cX9_readsBottle 31 = .ok (.iadd, 1) := by decide +kernel
theorem dX9_readsBottle_32 : decode cX9_readsBottle 32 = .ok (.invokevirtual 124, 3) := by decide +kernel
theorem dX9_readsBottle_35 : decode cX9_readsBottle 35 = .ok (.istore 6, 2) := by decide +kernel
theorem dX9_readsBottle_37 : decode cX9_readsBottle 37 = .ok (.aload_n 0, 1) := by decide +kernel
theorem dX9_readsBottle_38 : decode cX9_readsBottle 38 = .ok (.iconst 0, 1) := by decide +kernel
theorem dX9_readsBottle_39 : decode cX9_readsBottle 39 = .ok (.iload_n 2, 1) := by decide +kernel
theorem dX9_readsBottle_40 : decode cX9_readsBottle 40 = .ok (.iconst 4, 1) := by decide +kernel
theorem dX9_readsBottle_41 : decode cX9_readsBottle 41 = .ok (.iadd, 1) := by decide +kernel
theorem dX9_readsBottle_42 : decode cX9_readsBottle 42 = .ok (.invokevirtual 124, 3) := by decide +kernel
theorem dX9_readsBottle_45 : decode cX9_readsBottle 45 = .ok (.istore 7, 2) := by decide +kernel
theorem dX9_readsBottle_47 : decode cX9_readsBottle 47 = .ok (.iload_n 3, 1) := by decide +kernel
theorem dX9_readsBottle_48 : decode cX9_readsBottle 48 = .ok (.bipush 97, 2) := by decide +kernel
theorem dX9_readsBottle_50 : decode cX9_readsBottle 50 = .ok (.bipush 104, 2) := by decide +kernel
theorem dX9_readsBottle_52 : decode cX9_readsBottle 52 = .ok (.invokestatic 116, 3) := by decide +kernel
theorem dX9_readsBottle_55 : decode cX9_readsBottle 55 = .ok (.ifCond .ne 5, 3) := by decide +kernel
theorem dX9_readsBottle_58 : decode cX9_readsBottle 58 = .ok (.iconst 0, 1) := by decide +kernel
theorem dX9_readsBottle_59 : decode cX9_readsBottle 59 = .ok (.ireturn, 1) := by decide +kernel
theorem dX9_readsBottle_60 : decode cX9_readsBottle 60 = .ok (.iload 4, 2) := by decide +kernel
theorem dX9_readsBottle_62 : decode cX9_readsBottle 62 = .ok (.bipush 48, 2) := by decide +kernel
theorem dX9_readsBottle_64 : decode cX9_readsBottle 64 = .ok (.bipush 57, 2) := by decide +kernel
theorem dX9_readsBottle_66 : decode cX9_readsBottle 66 = .ok (.invokestatic 116, 3) := by decide +kernel
theorem dX9_readsBottle_69 : decode cX9_readsBottle 69 = .ok (.ifCond .ne 5, 3) := by decide +kernel
theorem dX9_readsBottle_72 : decode cX9_readsBottle 72 = .ok (.iconst 1, 1) := by decide +kernel
theorem dX9_readsBottle_73 : decode cX9_readsBottle 73 = .ok (.ireturn, 1) := by decide +kernel
theorem dX9_readsBottle_74 : decode cX9_readsBottle 74 = .ok (.iload 5, 2) := by decide +kernel
theorem dX9_readsBottle_76 : decode cX9_readsBottle 76 = .ok (.bipush 48, 2) := by decide +kernel
theorem dX9_readsBottle_78 : decode cX9_readsBottle 78 = .ok (.bipush 57, 2) := by decide +kernel
theorem dX9_readsBottle_80 : decode cX9_readsBottle 80 = .ok (.invokestatic 116, 3) := by decide +kernel
theorem dX9_readsBottle_83 : decode cX9_readsBottle 83 = .ok (.ifCond .eq 17, 3) := by decide +kernel
theorem dX9_readsBottle_86 : decode cX9_readsBottle 86 = .ok (.iload 4, 2) := by decide +kernel
theorem dX9_readsBottle_88 : decode cX9_readsBottle 88 = .ok (.bipush 48, 2) := by decide +kernel
theorem dX9_readsBottle_90 : decode cX9_readsBottle 90 = .ok (.if_icmp .ne 12, 3) := by decide +kernel
theorem dX9_readsBottle_93 : decode cX9_readsBottle 93 = .ok (.iload 5, 2) := by decide +kernel
theorem dX9_readsBottle_95 : decode cX9_readsBottle 95 = .ok (.bipush 48, 2) := by decide +kernel
theorem dX9_readsBottle_97 : decode cX9_readsBottle 97 = .ok (.if_icmp .ne 5, 3) := by decide +kernel
theorem dX9_readsBottle_100 : decode cX9_readsBottle 100 = .ok (.iconst 2, 1) := by decide +kernel
theorem dX9_readsBottle_101 : decode cX9_readsBottle 101 = .ok (.ireturn, 1) := by decide +kernel
theorem dX9_readsBottle_102 : decode cX9_readsBottle 102 = .ok (.iload 6, 2) := by decide +kernel
theorem dX9_readsBottle_104 : decode cX9_readsBottle 104 = .ok (.bipush 48, 2) := by decide +kernel
theorem dX9_readsBottle_106 : decode cX9_readsBottle 106 = .ok (.bipush 57, 2) := by decide +kernel
theorem dX9_readsBottle_108 : decode cX9_readsBottle 108 = .ok (.invokestatic 116, 3) := by decide +kernel
theorem dX9_readsBottle_111 : decode cX9_readsBottle 111 = .ok (.ifCond .ne 5, 3) := by decide +kernel
theorem dX9_readsBottle_114 : decode cX9_readsBottle 114 = .ok (.iconst 3, 1) := by decide +kernel
theorem dX9_readsBottle_115 : decode cX9_readsBottle 115 = .ok (.ireturn, 1) := by decide +kernel
theorem dX9_readsBottle_116 : decode cX9_readsBottle 116 = .ok (.iload 7, 2) := by decide +kernel
theorem dX9_readsBottle_118 : decode cX9_readsBottle 118 = .ok (.bipush 110, 2) := by decide +kernel
theorem dX9_readsBottle_120 : decode cX9_readsBottle 120 = .ok (.if_icmp .eq 12, 3) := by decide +kernel
theorem dX9_readsBottle_123 : decode cX9_readsBottle 123 = .ok (.iload 7, 2) := by decide +kernel
theorem dX9_readsBottle_125 : decode cX9_readsBottle 125 = .ok (.bipush 115, 2) := by decide +kernel
theorem dX9_readsBottle_127 : decode cX9_readsBottle 127 = .ok (.if_icmp .eq 5, 3) := by decide +kernel
theorem dX9_readsBottle_130 : decode cX9_readsBottle 130 = .ok (.iconst 4, 1) := by decide +kernel
theorem dX9_readsBottle_131 : decode cX9_readsBottle 131 = .ok (.ireturn, 1) := by decide +kernel
theorem dX9_readsBottle_132 : decode cX9_readsBottle 132 = .ok (.aload_n 0, 1) := by decide +kernel
theorem dX9_readsBottle_133 : decode cX9_readsBottle 133 = .ok (.getfield 16, 3) := by decide +kernel
theorem dX9_readsBottle_136 : decode cX9_readsBottle 136 = .ok (.iload_n 1, 1) := by decide +kernel
theorem dX9_readsBottle_137 : decode cX9_readsBottle 137 = .ok (.iload_n 3, 1) := by decide +kernel
theorem dX9_readsBottle_138 : decode cX9_readsBottle 138 = .ok (.bipush 97, 2) := by decide +kernel
theorem dX9_readsBottle_140 : decode cX9_readsBottle 140 = .ok (.isub, 1) := by decide +kernel
theorem dX9_readsBottle_141 : decode cX9_readsBottle 141 = .ok (.iastore, 1) := by decide +kernel
theorem dX9_readsBottle_142 : decode cX9_readsBottle 142 = .ok (.aload_n 0, 1) := by decide +kernel
theorem dX9_readsBottle_143 : decode cX9_readsBottle 143 = .ok (.getfield 19, 3) := by decide +kernel
theorem dX9_readsBottle_146 : decode cX9_readsBottle 146 = .ok (.iload_n 1, 1) := by decide +kernel
theorem dX9_readsBottle_147 : decode cX9_readsBottle 147 = .ok (.bipush 10, 2) := by decide +kernel
theorem dX9_readsBottle_149 : decode cX9_readsBottle 149 = .ok (.iload 4, 2) := by decide +kernel
theorem dX9_readsBottle_151 : decode cX9_readsBottle 151 = .ok (.bipush 48, 2) := by decide +kernel
theorem dX9_readsBottle_153 : decode cX9_readsBottle 153 = .ok (.isub, 1) := by decide +kernel
theorem dX9_readsBottle_154 : decode cX9_readsBottle 154 = .ok (.imul, 1) := by decide +kernel
theorem dX9_readsBottle_155 : decode cX9_readsBottle 155 = .ok (.iload 5, 2) := by decide +kernel
theorem dX9_readsBottle_157 : decode cX9_readsBottle 157 = .ok (.iadd, 1) := by decide +kernel
theorem dX9_readsBottle_158 : decode cX9_readsBottle 158 = .ok (.bipush 48, 2) := by decide +kernel
theorem dX9_readsBottle_160 : decode cX9_readsBottle 160 = .ok (.isub, 1) := by decide +kernel
theorem dX9_readsBottle_161 : decode cX9_readsBottle 161 = .ok (.iastore, 1) := by decide +kernel
theorem dX9_readsBottle_162 : decode cX9_readsBottle 162 = .ok (.aload_n 0, 1) := by decide +kernel
theorem dX9_readsBottle_163 : decode cX9_readsBottle 163 = .ok (.getfield 22, 3) := by decide +kernel
theorem dX9_readsBottle_166 : decode cX9_readsBottle 166 = .ok (.iload_n 1, 1) := by decide +kernel
theorem dX9_readsBottle_167 : decode cX9_readsBottle 167 = .ok (.iload 6, 2) := by decide +kernel
theorem dX9_readsBottle_169 : decode cX9_readsBottle 169 = .ok (.bipush 48, 2) := by decide +kernel
theorem dX9_readsBottle_171 : decode cX9_readsBottle 171 = .ok (.isub, 1) := by decide +kernel
theorem dX9_readsBottle_172 : decode cX9_readsBottle 172 = .ok (.iastore, 1) := by decide +kernel
theorem dX9_readsBottle_173 : decode cX9_readsBottle 173 = .ok (.aload_n 0, 1) := by decide +kernel
theorem dX9_readsBottle_174 : decode cX9_readsBottle 174 = .ok (.getfield 25, 3) := by decide +kernel
theorem dX9_readsBottle_177 : decode cX9_readsBottle 177 = .ok (.iload_n 1, 1) := by decide +kernel
theorem dX9_readsBottle_178 : decode cX9_readsBottle 178 = .ok (.iload 7, 2) := by decide +kernel
theorem dX9_readsBottle_180 : decode cX9_readsBottle 180 = .ok (.bipush 115, 2) := by decide +kernel
theorem dX9_readsBottle_182 : decode cX9_readsBottle 182 = .ok (.if_icmp .ne 7, 3) := by decide +kernel
theorem dX9_readsBottle_185 : decode cX9_readsBottle 185 = .ok (.iconst 1, 1) := by decide +kernel
theorem dX9_readsBottle_186 : decode cX9_readsBottle 186 = .ok (.goto 4, 3) := by decide +kernel
theorem dX9_readsBottle_189 : decode cX9_readsBottle 189 = .ok (.iconst 0, 1) := by decide +kernel
theorem dX9_readsBottle_190 : decode cX9_readsBottle 190 = .ok (.iastore, 1) := by decide +kernel
theorem dX9_readsBottle_191 : decode cX9_readsBottle 191 = .ok (.iconst 5, 1) := by decide +kernel
theorem dX9_readsBottle_192 : decode cX9_readsBottle 192 = .ok (.ireturn, 1) := by decide +kernel
theorem dX9_readsBottles_0 : decode cX9_readsBottles 0 = .ok (.iconst 0, 1) := by decide +kernel
theorem dX9_readsBottles_1 : decode cX9_readsBottles 1 = .ok (.istore_n 1, 1) := by decide +kernel
theorem dX9_readsBottles_2 : decode cX9_readsBottles 2 = .ok (.iconst 0, 1) := by decide +kernel
theorem dX9_readsBottles_3 : decode cX9_readsBottles 3 = .ok (.istore_n 2, 1) := by decide +kernel
theorem dX9_readsBottles_4 : decode cX9_readsBottles 4 = .ok (.aload_n 0, 1) := by decide +kernel
theorem dX9_readsBottles_5 : decode cX9_readsBottles 5 = .ok (.iconst 0, 1) := by decide +kernel
theorem dX9_readsBottles_6 : decode cX9_readsBottles 6 = .ok (.putfield 128, 3) := by decide +kernel
theorem dX9_readsBottles_9 : decode cX9_readsBottles 9 = .ok (.iload_n 2, 1) := by decide +kernel
theorem dX9_readsBottles_10 : decode cX9_readsBottles 10 = .ok (.aload_n 0, 1) := by decide +kernel
theorem dX9_readsBottles_11 : decode cX9_readsBottles 11 = .ok (.getfield 7, 3) := by decide +kernel
theorem dX9_readsBottles_14 : decode cX9_readsBottles 14 = .ok (.iconst 0, 1) := by decide +kernel
theorem dX9_readsBottles_15 : decode cX9_readsBottles 15 = .ok (.iaload, 1) := by decide +kernel
theorem dX9_readsBottles_16 : decode cX9_readsBottles 16 = .ok (.if_icmp .lt 7, 3) := by decide +kernel
theorem dX9_readsBottles_19 : decode cX9_readsBottles 19 = .ok (.iload_n 2, 1) := by decide +kernel
theorem dX9_readsBottles_20 : decode cX9_readsBottles 20 = .ok (.ifCond .le 71, 3) := by decide +kernel
theorem dX9_readsBottles_23 : decode cX9_readsBottles 23 = .ok (.iload_n 1, 1) := by decide +kernel
theorem dX9_readsBottles_24 : decode cX9_readsBottles 24 = .ok (.bipush 8, 2) := by decide +kernel
theorem dX9_readsBottles_26 : decode cX9_readsBottles 26 = .ok (.if_icmp .ne 7, 3) := by decide +kernel
theorem dX9_readsBottles_29 : decode cX9_readsBottles 29 = .ok (.iconst 0, 1) := by decide +kernel
theorem dX9_readsBottles_30 : decode cX9_readsBottles 30 = .ok (.goto 9, 3) := by decide +kernel
theorem dX9_readsBottles_33 : decode cX9_readsBottles 33 = .ok (.aload_n 0, 1) := by decide +kernel
theorem dX9_readsBottles_34 : decode cX9_readsBottles 34 = .ok (.iload_n 1, 1) := by decide +kernel
theorem dX9_readsBottles_35 : decode cX9_readsBottles 35 = .ok (.iload_n 2, 1) := by decide +kernel
theorem dX9_readsBottles_36 : decode cX9_readsBottles 36 = .ok (.invokevirtual 131, 3) := by decide +kernel
theorem dX9_readsBottles_39 : decode cX9_readsBottles 39 = .ok (.istore_n 3, 1) := by decide +kernel
theorem dX9_readsBottles_40 : decode cX9_readsBottles 40 = .ok (.iload_n 3, 1) := by decide +kernel
theorem dX9_readsBottles_41 : decode cX9_readsBottles 41 = .ok (.iconst 5, 1) := by decide +kernel
theorem dX9_readsBottles_42 : decode cX9_readsBottles 42 = .ok (.if_icmp .ge 7, 3) := by decide +kernel
theorem dX9_readsBottles_45 : decode cX9_readsBottles 45 = .ok (.iload_n 2, 1) := by decide +kernel
theorem dX9_readsBottles_46 : decode cX9_readsBottles 46 = .ok (.iload_n 3, 1) := by decide +kernel
theorem dX9_readsBottles_47 : decode cX9_readsBottles 47 = .ok (.iadd, 1) := by decide +kernel
theorem dX9_readsBottles_48 : decode cX9_readsBottles 48 = .ok (.ireturn, 1) := by decide +kernel
theorem dX9_readsBottles_49 : decode cX9_readsBottles 49 = .ok (.iinc 1 1, 3) := by decide +kernel
theorem dX9_readsBottles_52 : decode cX9_readsBottles 52 = .ok (.iinc 2 5, 3) := by decide +kernel
theorem dX9_readsBottles_55 : decode cX9_readsBottles 55 = .ok (.iload_n 2, 1) := by decide +kernel
theorem dX9_readsBottles_56 : decode cX9_readsBottles 56 = .ok (.aload_n 0, 1) := by decide +kernel
theorem dX9_readsBottles_57 : decode cX9_readsBottles 57 = .ok (.getfield 7, 3) := by decide +kernel
theorem dX9_readsBottles_60 : decode cX9_readsBottles 60 = .ok (.iconst 0, 1) := by decide +kernel
theorem dX9_readsBottles_61 : decode cX9_readsBottles 61 = .ok (.iaload, 1) := by decide +kernel
theorem dX9_readsBottles_62 : decode cX9_readsBottles 62 = .ok (.if_icmp .ne 10, 3) := by decide +kernel
theorem dX9_readsBottles_65 : decode cX9_readsBottles 65 = .ok (.aload_n 0, 1) := by decide +kernel
theorem dX9_readsBottles_66 : decode cX9_readsBottles 66 = .ok (.iload_n 1, 1) := by decide +kernel
theorem dX9_readsBottles_67 : decode cX9_readsBottles 67 = .ok (.putfield 128, 3) := by decide +kernel
theorem dX9_readsBottles_70 : decode cX9_readsBottles 70 = .ok (.iconst (-1), 1) := by decide +kernel
theorem dX9_readsBottles_71 : decode cX9_readsBottles 71 = .ok (.ireturn, 1) := by decide +kernel
theorem dX9_readsBottles_72 : decode cX9_readsBottles 72 = .ok (.aload_n 0, 1) := by decide +kernel
theorem dX9_readsBottles_73 : decode cX9_readsBottles 73 = .ok (.getfield 13, 3) := by decide +kernel
theorem dX9_readsBottles_76 : decode cX9_readsBottles 76 = .ok (.iload_n 2, 1) := by decide +kernel
theorem dX9_readsBottles_77 : decode cX9_readsBottles 77 = .ok (.iaload, 1) := by decide +kernel
theorem dX9_readsBottles_78 : decode cX9_readsBottles 78 = .ok (.bipush 59, 2) := by decide +kernel
theorem dX9_readsBottles_80 : decode cX9_readsBottles 80 = .ok (.if_icmp .eq 5, 3) := by decide +kernel
theorem dX9_readsBottles_83 : decode cX9_readsBottles 83 = .ok (.iload_n 2, 1) := by decide +kernel
theorem dX9_readsBottles_84 : decode cX9_readsBottles 84 = .ok (.ireturn, 1) := by decide +kernel
theorem dX9_readsBottles_85 : decode cX9_readsBottles 85 = .ok (.iinc 2 1, 3) := by decide +kernel
theorem dX9_readsBottles_88 : decode cX9_readsBottles 88 = .ok (.goto (-79), 3) := by decide +kernel
theorem dX9_readsBottles_91 : decode cX9_readsBottles 91 = .ok (.iconst (-1), 1) := by decide +kernel
theorem dX9_readsBottles_92 : decode cX9_readsBottles 92 = .ok (.ireturn, 1) := by decide +kernel
theorem dX9_readsSong_0 : decode cX9_readsSong 0 = .ok (.aload_n 0, 1) := by decide +kernel
theorem dX9_readsSong_1 : decode cX9_readsSong 1 = .ok (.iconst 0, 1) := by decide +kernel
theorem dX9_readsSong_2 : decode cX9_readsSong 2 = .ok (.putfield 134, 3) := by decide +kernel
theorem dX9_readsSong_5 : decode cX9_readsSong 5 = .ok (.iconst 0, 1) := by decide +kernel
theorem dX9_readsSong_6 : decode cX9_readsSong 6 = .ok (.istore_n 1, 1) := by decide +kernel
theorem dX9_readsSong_7 : decode cX9_readsSong 7 = .ok (.iload_n 1, 1) := by decide +kernel
theorem dX9_readsSong_8 : decode cX9_readsSong 8 = .ok (.aload_n 0, 1) := by decide +kernel
theorem dX9_readsSong_9 : decode cX9_readsSong 9 = .ok (.getfield 7, 3) := by decide +kernel
theorem dX9_readsSong_12 : decode cX9_readsSong 12 = .ok (.iconst 1, 1) := by decide +kernel
theorem dX9_readsSong_13 : decode cX9_readsSong 13 = .ok (.iaload, 1) := by decide +kernel
theorem dX9_readsSong_14 : decode cX9_readsSong 14 = .ok (.if_icmp .ge 39, 3) := by decide +kernel
theorem dX9_readsSong_17 : decode cX9_readsSong 17 = .ok (.aload_n 0, 1) := by decide +kernel
theorem dX9_readsSong_18 : decode cX9_readsSong 18 = .ok (.iconst 1, 1) := by decide +kernel
theorem dX9_readsSong_19 : decode cX9_readsSong 19 = .ok (.iload_n 1, 1) := by decide +kernel
theorem dX9_readsSong_20 : decode cX9_readsSong 20 = .ok (.invokevirtual 124, 3) := by decide +kernel
theorem dX9_readsSong_23 : decode cX9_readsSong 23 = .ok (.istore_n 2, 1) := by decide +kernel
theorem dX9_readsSong_24 : decode cX9_readsSong 24 = .ok (.iload_n 2, 1) := by decide +kernel
theorem dX9_readsSong_25 : decode cX9_readsSong 25 = .ok (.bipush 97, 2) := by decide +kernel
theorem dX9_readsSong_27 : decode cX9_readsSong 27 = .ok (.bipush 104, 2) := by decide +kernel
theorem dX9_readsSong_29 : decode cX9_readsSong 29 = .ok (.invokestatic 116, 3) := by decide +kernel
theorem dX9_readsSong_32 : decode cX9_readsSong 32 = .ok (.ifCond .ne 5, 3) := by decide +kernel
theorem dX9_readsSong_35 : decode cX9_readsSong 35 = .ok (.iload_n 1, 1) := by decide +kernel
theorem dX9_readsSong_36 : decode cX9_readsSong 36 = .ok (.ireturn, 1) := by decide +kernel
theorem dX9_readsSong_37 : decode cX9_readsSong 37 = .ok (.aload_n 0, 1) := by decide +kernel
theorem dX9_readsSong_38 : decode cX9_readsSong 38 = .ok (.getfield 28, 3) := by decide +kernel
theorem dX9_readsSong_41 : decode cX9_readsSong 41 = .ok (.iload_n 1, 1) := by decide +kernel
theorem dX9_readsSong_42 : decode cX9_readsSong 42 = .ok (.iload_n 2, 1) := by decide +kernel
theorem dX9_readsSong_43 : decode cX9_readsSong 43 = .ok (.bipush 97, 2) := by decide +kernel
theorem dX9_readsSong_45 : decode cX9_readsSong 45 = .ok (.isub, 1) := by decide +kernel
theorem dX9_readsSong_46 : decode cX9_readsSong 46 = .ok (.iastore, 1) := by decide +kernel
theorem dX9_readsSong_47 : decode cX9_readsSong 47 = .ok (.iinc 1 1, 3) := by decide +kernel
theorem dX9_readsSong_50 : decode cX9_readsSong 50 = .ok (.goto (-43), 3) := by decide +kernel
theorem dX9_readsSong_53 : decode cX9_readsSong 53 = .ok (.aload_n 0, 1) := by decide +kernel
theorem dX9_readsSong_54 : decode cX9_readsSong 54 = .ok (.aload_n 0, 1) := by decide +kernel
theorem dX9_readsSong_55 : decode cX9_readsSong 55 = .ok (.getfield 7, 3) := by decide +kernel
theorem dX9_readsSong_58 : decode cX9_readsSong 58 = .ok (.iconst 1, 1) := by decide +kernel
theorem dX9_readsSong_59 : decode cX9_readsSong 59 = .ok (.iaload, 1) := by decide +kernel
theorem dX9_readsSong_60 : decode cX9_readsSong 60 = .ok (.putfield 134, 3) := by decide +kernel
theorem dX9_readsSong_63 : decode cX9_readsSong 63 = .ok (.iconst (-1), 1) := by decide +kernel
theorem dX9_readsSong_64 : decode cX9_readsSong 64 = .ok (.ireturn, 1) := by decide +kernel
theorem dX9_faultOf_0 : decode cX9_faultOf 0 = .ok (.aload_n 0, 1) := by decide +kernel
theorem dX9_faultOf_1 : decode cX9_faultOf 1 = .ok (.invokevirtual 137, 3) := by decide +kernel
theorem dX9_faultOf_4 : decode cX9_faultOf 4 = .ok (.istore_n 2, 1) := by decide +kernel
theorem dX9_faultOf_5 : decode cX9_faultOf 5 = .ok (.aload_n 0, 1) := by decide +kernel
theorem dX9_faultOf_6 : decode cX9_faultOf 6 = .ok (.invokevirtual 141, 3) := by decide +kernel
theorem dX9_faultOf_9 : decode cX9_faultOf 9 = .ok (.istore_n 3, 1) := by decide +kernel
theorem dX9_faultOf_10 : decode cX9_faultOf 10 = .ok (.iload_n 1, 1) := by decide +kernel
theorem dX9_faultOf_11 : decode cX9_faultOf 11 = .ok (.ifCond .ne 7, 3) := by decide +kernel
theorem dX9_faultOf_14 : decode cX9_faultOf 14 = .ok (.iload_n 2, 1) := by decide +kernel
theorem dX9_faultOf_15 : decode cX9_faultOf 15 = .ok (.goto 4, 3) := by decide +kernel
theorem dX9_faultOf_18 : decode cX9_faultOf 18 = .ok (.iload_n 3, 1) := by decide +kernel
theorem dX9_faultOf_19 : decode cX9_faultOf 19 = .ok (.ireturn, 1) := by decide +kernel
theorem dX9_reads_0 : decode cX9_reads 0 = .ok (.aload_n 0, 1) := by decide +kernel
theorem dX9_reads_1 : decode cX9_reads 1 = .ok (.iconst 0, 1) := by decide +kernel
theorem dX9_reads_2 : decode cX9_reads 2 = .ok (.invokevirtual 144, 3) := by decide +kernel
theorem dX9_reads_5 : decode cX9_reads 5 = .ok (.istore_n 1, 1) := by decide +kernel
theorem dX9_reads_6 : decode cX9_reads 6 = .ok (.return_, 1) := by decide +kernel
theorem dX9_fault_0 : decode cX9_fault 0 = .ok (.iload_n 1, 1) := by decide +kernel
theorem dX9_fault_1 : decode cX9_fault 1 = .ok (.invokestatic 120, 3) := by decide +kernel
theorem dX9_fault_4 : decode cX9_fault 4 = .ok (.ifCond .eq 11, 3) := by decide +kernel
theorem dX9_fault_7 : decode cX9_fault 7 = .ok (.aload_n 0, 1) := by decide +kernel
theorem dX9_fault_8 : decode cX9_fault 8 = .ok (.iload_n 1, 1) := by decide +kernel
theorem dX9_fault_9 : decode cX9_fault 9 = .ok (.invokevirtual 144, 3) := by decide +kernel
theorem dX9_fault_12 : decode cX9_fault 12 = .ok (.goto 5, 3) := by decide +kernel
theorem dX9_fault_15 : decode cX9_fault 15 = .ok (.bipush (-2), 2) := by decide +kernel
theorem dX9_fault_17 : decode cX9_fault 17 = .ok (.ireturn, 1) := by decide +kernel
theorem dX9_isBottle_0 : decode cX9_isBottle 0 = .ok (.aload_n 0, 1) := by decide +kernel
theorem dX9_isBottle_1 : decode cX9_isBottle 1 = .ok (.invokevirtual 148, 3) := by decide +kernel
theorem dX9_isBottle_4 : decode cX9_isBottle 4 = .ok (.iload_n 1, 1) := by decide +kernel
theorem dX9_isBottle_5 : decode cX9_isBottle 5 = .ok (.iconst 0, 1) := by decide +kernel
theorem dX9_isBottle_6 : decode cX9_isBottle 6 = .ok (.aload_n 0, 1) := by decide +kernel
theorem dX9_isBottle_7 : decode cX9_isBottle 7 = .ok (.getfield 128, 3) := by decide +kernel
theorem dX9_isBottle_10 : decode cX9_isBottle 10 = .ok (.iconst 1, 1) := by decide +kernel
theorem dX9_isBottle_11 : decode cX9_isBottle 11 = .ok (.isub, 1) := by decide +kernel
theorem dX9_isBottle_12 : decode cX9_isBottle 12 = .ok (.invokestatic 116, 3) := by decide +kernel
theorem dX9_isBottle_15 : decode cX9_isBottle 15 = .ok (.ireturn, 1) := by decide +kernel
theorem dX9_bottleOf_0 : decode cX9_bottleOf 0 = .ok (.iload_n 2, 1) := by decide +kernel
theorem dX9_bottleOf_1 : decode cX9_bottleOf 1 = .ok (.ifCond .ne 12, 3) := by decide +kernel
theorem dX9_bottleOf_4 : decode cX9_bottleOf 4 = .ok (.aload_n 0, 1) := by decide +kernel
theorem dX9_bottleOf_5 : decode cX9_bottleOf 5 = .ok (.getfield 16, 3) := by decide +kernel
theorem dX9_bottleOf_8 : decode cX9_bottleOf 8 = .ok (.iload_n 1, 1) := by decide +kernel
theorem dX9_bottleOf_9 : decode cX9_bottleOf 9 = .ok (.iaload, 1) := by decide +kernel
theorem dX9_bottleOf_10 : decode cX9_bottleOf 10 = .ok (.goto 37, 3) := by decide +kernel
theorem dX9_bottleOf_13 : decode cX9_bottleOf 13 = .ok (.iload_n 2, 1) := by decide +kernel
theorem dX9_bottleOf_14 : decode cX9_bottleOf 14 = .ok (.iconst 1, 1) := by decide +kernel
theorem dX9_bottleOf_15 : decode cX9_bottleOf 15 = .ok (.if_icmp .ne 12, 3) := by decide +kernel
theorem dX9_bottleOf_18 : decode cX9_bottleOf 18 = .ok (.aload_n 0, 1) := by decide +kernel
theorem dX9_bottleOf_19 : decode cX9_bottleOf 19 = .ok (.getfield 19, 3) := by decide +kernel
theorem dX9_bottleOf_22 : decode cX9_bottleOf 22 = .ok (.iload_n 1, 1) := by decide +kernel
theorem dX9_bottleOf_23 : decode cX9_bottleOf 23 = .ok (.iaload, 1) := by decide +kernel
theorem dX9_bottleOf_24 : decode cX9_bottleOf 24 = .ok (.goto 23, 3) := by decide +kernel
theorem dX9_bottleOf_27 : decode cX9_bottleOf 27 = .ok (.iload_n 2, 1) := by decide +kernel
theorem dX9_bottleOf_28 : decode cX9_bottleOf 28 = .ok (.iconst 2, 1) := by decide +kernel
theorem dX9_bottleOf_29 : decode cX9_bottleOf 29 = .ok (.if_icmp .ne 12, 3) := by decide +kernel
theorem dX9_bottleOf_32 : decode cX9_bottleOf 32 = .ok (.aload_n 0, 1) := by decide +kernel
theorem dX9_bottleOf_33 : decode cX9_bottleOf 33 = .ok (.getfield 22, 3) := by decide +kernel
theorem dX9_bottleOf_36 : decode cX9_bottleOf 36 = .ok (.iload_n 1, 1) := by decide +kernel
theorem dX9_bottleOf_37 : decode cX9_bottleOf 37 = .ok (.iaload, 1) := by decide +kernel
theorem dX9_bottleOf_38 : decode cX9_bottleOf 38 = .ok (.goto 9, 3) := by decide +kernel
theorem dX9_bottleOf_41 : decode cX9_bottleOf 41 = .ok (.aload_n 0, 1) := by decide +kernel
theorem dX9_bottleOf_42 : decode cX9_bottleOf 42 = .ok (.getfield 25, 3) := by decide +kernel
theorem dX9_bottleOf_45 : decode cX9_bottleOf 45 = .ok (.iload_n 1, 1) := by decide +kernel
theorem dX9_bottleOf_46 : decode cX9_bottleOf 46 = .ok (.iaload, 1) := by decide +kernel
theorem dX9_bottleOf_47 : decode cX9_bottleOf 47 = .ok (.ireturn, 1) := by decide +kernel
theorem dX9_bottle_0 : decode cX9_bottle 0 = .ok (.aload_n 0, 1) := by decide +kernel
theorem dX9_bottle_1 : decode cX9_bottle 1 = .ok (.iload_n 1, 1) := by decide +kernel
theorem dX9_bottle_2 : decode cX9_bottle 2 = .ok (.invokevirtual 151, 3) := by decide +kernel
theorem dX9_bottle_5 : decode cX9_bottle 5 = .ok (.ifCond .eq 21, 3) := by decide +kernel
theorem dX9_bottle_8 : decode cX9_bottle 8 = .ok (.iload_n 2, 1) := by decide +kernel
theorem dX9_bottle_9 : decode cX9_bottle 9 = .ok (.iconst 0, 1) := by decide +kernel
theorem dX9_bottle_10 : decode cX9_bottle 10 = .ok (.iconst 3, 1) := by decide +kernel
theorem dX9_bottle_11 : decode cX9_bottle 11 = .ok (.invokestatic 116, 3) := by decide +kernel
theorem dX9_bottle_14 : decode cX9_bottle 14 = .ok (.ifCond .eq 12, 3) := by decide +kernel
theorem dX9_bottle_17 : decode cX9_bottle 17 = .ok (.aload_n 0, 1) := by decide +kernel
theorem dX9_bottle_18 : decode cX9_bottle 18 = .ok (.iload_n 1, 1) := by decide +kernel
theorem dX9_bottle_19 : decode cX9_bottle 19 = .ok (.iload_n 2, 1) := by decide +kernel
theorem dX9_bottle_20 : decode cX9_bottle 20 = .ok (.invokevirtual 154, 3) := by decide +kernel
theorem dX9_bottle_23 : decode cX9_bottle 23 = .ok (.goto 5, 3) := by decide +kernel
theorem dX9_bottle_26 : decode cX9_bottle 26 = .ok (.bipush (-2), 2) := by decide +kernel
theorem dX9_bottle_28 : decode cX9_bottle 28 = .ok (.ireturn, 1) := by decide +kernel
theorem dX9_noteOf_0 : decode cX9_noteOf 0 = .ok (.aload_n 0, 1) := by decide +kernel
theorem dX9_noteOf_1 : decode cX9_noteOf 1 = .ok (.invokevirtual 148, 3) := by decide +kernel
theorem dX9_noteOf_4 : decode cX9_noteOf 4 = .ok (.iload_n 1, 1) := by decide +kernel
theorem dX9_noteOf_5 : decode cX9_noteOf 5 = .ok (.aload_n 0, 1) := by decide +kernel
theorem dX9_noteOf_6 : decode cX9_noteOf 6 = .ok (.getfield 134, 3) := by decide +kernel
theorem dX9_noteOf_9 : decode cX9_noteOf 9 = .ok (.if_icmp .ge 12, 3) := by decide +kernel
theorem dX9_noteOf_12 : decode cX9_noteOf 12 = .ok (.aload_n 0, 1) := by decide +kernel
theorem dX9_noteOf_13 : decode cX9_noteOf 13 = .ok (.getfield 28, 3) := by decide +kernel
theorem dX9_noteOf_16 : decode cX9_noteOf 16 = .ok (.iload_n 1, 1) := by decide +kernel
theorem dX9_noteOf_17 : decode cX9_noteOf 17 = .ok (.iaload, 1) := by decide +kernel
theorem dX9_noteOf_18 : decode cX9_noteOf 18 = .ok (.goto 4, 3) := by decide +kernel
theorem dX9_noteOf_21 : decode cX9_noteOf 21 = .ok (.iconst (-1), 1) := by decide +kernel
theorem dX9_noteOf_22 : decode cX9_noteOf 22 = .ok (.ireturn, 1) := by decide +kernel
theorem dX9_note_0 : decode cX9_note 0 = .ok (.iload_n 1, 1) := by decide +kernel
theorem dX9_note_1 : decode cX9_note 1 = .ok (.invokestatic 157, 3) := by decide +kernel
theorem dX9_note_4 : decode cX9_note 4 = .ok (.ifCond .eq 11, 3) := by decide +kernel
theorem dX9_note_7 : decode cX9_note 7 = .ok (.aload_n 0, 1) := by decide +kernel
theorem dX9_note_8 : decode cX9_note 8 = .ok (.iload_n 1, 1) := by decide +kernel
theorem dX9_note_9 : decode cX9_note 9 = .ok (.invokevirtual 160, 3) := by decide +kernel
theorem dX9_note_12 : decode cX9_note 12 = .ok (.goto 5, 3) := by decide +kernel
theorem dX9_note_15 : decode cX9_note 15 = .ok (.bipush (-2), 2) := by decide +kernel
theorem dX9_note_17 : decode cX9_note 17 = .ok (.ireturn, 1) := by decide +kernel
theorem dX9_burst_0 : decode cX9_burst 0 = .ok (.iload_n 1, 1) := by decide +kernel
theorem dX9_burst_1 : decode cX9_burst 1 = .ok (.iconst 1, 1) := by decide +kernel
theorem dX9_burst_2 : decode cX9_burst 2 = .ok (.sipush 200, 3) := by decide +kernel
theorem dX9_burst_5 : decode cX9_burst 5 = .ok (.invokestatic 116, 3) := by decide +kernel
theorem dX9_burst_8 : decode cX9_burst 8 = .ok (.ifCond .ne 6, 3) := by decide +kernel
theorem dX9_burst_11 : decode cX9_burst 11 = .ok (.bipush (-2), 2) := by decide +kernel
theorem dX9_burst_13 : decode cX9_burst 13 = .ok (.ireturn, 1) := by decide +kernel
theorem dX9_burst_14 : decode cX9_burst 14 = .ok (.aload_n 0, 1) := by decide +kernel
theorem dX9_burst_15 : decode cX9_burst 15 = .ok (.getfield 110, 3) := by decide +kernel
theorem dX9_burst_18 : decode cX9_burst 18 = .ok (.istore_n 2, 1) := by decide +kernel
theorem dX9_burst_19 : decode cX9_burst 19 = .ok (.aload_n 0, 1) := by decide +kernel
theorem dX9_burst_20 : decode cX9_burst 20 = .ok (.iload_n 1, 1) := by decide +kernel
theorem dX9_burst_21 : decode cX9_burst 21 = .ok (.putfield 110, 3) := by decide +kernel
theorem dX9_burst_24 : decode cX9_burst 24 = .ok (.iload_n 2, 1) := by decide +kernel
theorem dX9_burst_25 : decode cX9_burst 25 = .ok (.ireturn, 1) := by decide +kernel
theorem dX9_hot_0 : decode cX9_hot 0 = .ok (.iload_n 1, 1) := by decide +kernel
theorem dX9_hot_1 : decode cX9_hot 1 = .ok (.invokestatic 163, 3) := by decide +kernel
theorem dX9_hot_4 : decode cX9_hot 4 = .ok (.ifCond .ne 6, 3) := by decide +kernel
theorem dX9_hot_7 : decode cX9_hot 7 = .ok (.bipush (-2), 2) := by decide +kernel
theorem dX9_hot_9 : decode cX9_hot 9 = .ok (.ireturn, 1) := by decide +kernel
theorem dX9_hot_10 : decode cX9_hot 10 = .ok (.aload_n 0, 1) := by decide +kernel
theorem dX9_hot_11 : decode cX9_hot 11 = .ok (.getfield 166, 3) := by decide +kernel
theorem dX9_hot_14 : decode cX9_hot 14 = .ok (.bipush 8, 2) := by decide +kernel
theorem dX9_hot_16 : decode cX9_hot 16 = .ok (.if_icmp .ne 6, 3) := by decide +kernel
theorem dX9_hot_19 : decode cX9_hot 19 = .ok (.bipush (-4), 2) := by decide +kernel
theorem dX9_hot_21 : decode cX9_hot 21 = .ok (.ireturn, 1) := by decide +kernel
theorem dX9_hot_22 : decode cX9_hot 22 = .ok (.aload_n 0, 1) := by decide +kernel
theorem dX9_hot_23 : decode cX9_hot 23 = .ok (.getfield 31, 3) := by decide +kernel
theorem dX9_hot_26 : decode cX9_hot 26 = .ok (.aload_n 0, 1) := by decide +kernel
theorem dX9_hot_27 : decode cX9_hot 27 = .ok (.getfield 166, 3) := by decide +kernel
theorem dX9_hot_30 : decode cX9_hot 30 = .ok (.iload_n 1, 1) := by decide +kernel
theorem dX9_hot_31 : decode cX9_hot 31 = .ok (.iastore, 1) := by decide +kernel
theorem dX9_hot_32 : decode cX9_hot 32 = .ok (.aload_n 0, 1) := by decide +kernel
theorem dX9_hot_33 : decode cX9_hot 33 = .ok (.dup, 1) := by decide +kernel
theorem dX9_hot_34 : decode cX9_hot 34 = .ok (.getfield 166, 3) := by decide +kernel
theorem dX9_hot_37 : decode cX9_hot 37 = .ok (.iconst 1, 1) := by decide +kernel
theorem dX9_hot_38 : decode cX9_hot 38 = .ok (.iadd, 1) := by decide +kernel
theorem dX9_hot_39 : decode cX9_hot 39 = .ok (.putfield 166, 3) := by decide +kernel
theorem dX9_hot_42 : decode cX9_hot 42 = .ok (.aload_n 0, 1) := by decide +kernel
theorem dX9_hot_43 : decode cX9_hot 43 = .ok (.getfield 166, 3) := by decide +kernel
theorem dX9_hot_46 : decode cX9_hot 46 = .ok (.ireturn, 1) := by decide +kernel
theorem dX9_act_0 : decode cX9_act 0 = .ok (.iload_n 2, 1) := by decide +kernel
theorem dX9_act_1 : decode cX9_act 1 = .ok (.ifCond .ne 7, 3) := by decide +kernel
theorem dX9_act_4 : decode cX9_act 4 = .ok (.iconst 5, 1) := by decide +kernel
theorem dX9_act_5 : decode cX9_act 5 = .ok (.goto 14, 3) := by decide +kernel
theorem dX9_act_8 : decode cX9_act 8 = .ok (.iload_n 2, 1) := by decide +kernel
theorem dX9_act_9 : decode cX9_act 9 = .ok (.iconst 1, 1) := by decide +kernel
theorem dX9_act_10 : decode cX9_act 10 = .ok (.if_icmp .ne 8, 3) := by decide +kernel
theorem dX9_act_13 : decode cX9_act 13 = .ok (.bipush 7, 2) := by decide +kernel
theorem dX9_act_15 : decode cX9_act 15 = .ok (.goto 4, 3) := by decide +kernel
theorem dX9_act_18 : decode cX9_act 18 = .ok (.iconst 0, 1) := by decide +kernel
theorem dX9_act_19 : decode cX9_act 19 = .ok (.istore 5, 2) := by decide +kernel
theorem dX9_act_21 : decode cX9_act 21 = .ok (.iload_n 1, 1) := by decide +kernel
theorem dX9_act_22 : decode cX9_act 22 = .ok (.invokestatic 163, 3) := by decide +kernel
theorem dX9_act_25 : decode cX9_act 25 = .ok (.ifCond .eq 30, 3) := by decide +kernel
theorem dX9_act_28 : decode cX9_act 28 = .ok (.iload_n 2, 1) := by decide +kernel
theorem dX9_act_29 : decode cX9_act 29 = .ok (.iconst 0, 1) := by decide +kernel
theorem dX9_act_30 : decode cX9_act 30 = .ok (.iconst 3, 1) := by decide +kernel
theorem dX9_act_31 : decode cX9_act 31 = .ok (.invokestatic 116, 3) := by decide +kernel
theorem dX9_act_34 : decode cX9_act 34 = .ok (.ifCond .eq 21, 3) := by decide +kernel
theorem dX9_act_37 : decode cX9_act 37 = .ok (.iload_n 3, 1) := by decide +kernel
theorem dX9_act_38 : decode cX9_act 38 = .ok (.invokestatic 157, 3) := by decide +kernel
theorem dX9_act_41 : decode cX9_act 41 = .ok (.ifCond .eq 14, 3) := by decide +kernel
theorem dX9_act_44 : decode cX9_act 44 = .ok (.iload 4, 2) := by decide +kernel
theorem dX9_act_46 : decode cX9_act 46 = .ok (.iconst 0, 1) := by decide +kernel
theorem dX9_act_47 : decode cX9_act 47 = .ok (.iload 5, 2) := by decide +kernel
theorem dX9_act_49 : decode cX9_act 49 = .ok (.invokestatic 116, 3) := by decide +kernel
theorem dX9_act_52 : decode cX9_act 52 = .ok (.ifCond .ne 6, 3) := by decide +kernel
theorem dX9_act_55 : decode cX9_act 55 = .ok (.bipush (-2), 2) := by decide +kernel
theorem dX9_act_57 : decode cX9_act 57 = .ok (.ireturn, 1) := by decide +kernel
theorem dX9_act_58 : decode cX9_act 58 = .ok (.aload_n 0, 1) := by decide +kernel
theorem dX9_act_59 : decode cX9_act 59 = .ok (.getfield 169, 3) := by decide +kernel
theorem dX9_act_62 : decode cX9_act 62 = .ok (.bipush 16, 2) := by decide +kernel
theorem dX9_act_64 : decode cX9_act 64 = .ok (.if_icmp .ne 6, 3) := by decide +kernel
theorem dX9_act_67 : decode cX9_act 67 = .ok (.bipush (-4), 2) := by decide +kernel
theorem dX9_act_69 : decode cX9_act 69 = .ok (.ireturn, 1) := by decide +kernel
theorem dX9_act_70 : decode cX9_act 70 = .ok (.aload_n 0, 1) := by decide +kernel
theorem dX9_act_71 : decode cX9_act 71 = .ok (.getfield 34, 3) := by decide +kernel
theorem dX9_act_74 : decode cX9_act 74 = .ok (.aload_n 0, 1) := by decide +kernel
theorem dX9_act_75 : decode cX9_act 75 = .ok (.getfield 169, 3) := by decide +kernel
theorem dX9_act_78 : decode cX9_act 78 = .ok (.iload_n 1, 1) := by decide +kernel
theorem dX9_act_79 : decode cX9_act 79 = .ok (.iastore, 1) := by decide +kernel
theorem dX9_act_80 : decode cX9_act 80 = .ok (.aload_n 0, 1) := by decide +kernel
theorem dX9_act_81 : decode cX9_act 81 = .ok (.getfield 37, 3) := by decide +kernel
theorem dX9_act_84 : decode cX9_act 84 = .ok (.aload_n 0, 1) := by decide +kernel
theorem dX9_act_85 : decode cX9_act 85 = .ok (.getfield 169, 3) := by decide +kernel
theorem dX9_act_88 : decode cX9_act 88 = .ok (.iload_n 2, 1) := by decide +kernel
theorem dX9_act_89 : decode cX9_act 89 = .ok (.iastore, 1) := by decide +kernel
theorem dX9_act_90 : decode cX9_act 90 = .ok (.aload_n 0, 1) := by decide +kernel
theorem dX9_act_91 : decode cX9_act 91 = .ok (.getfield 40, 3) := by decide +kernel
theorem dX9_act_94 : decode cX9_act 94 = .ok (.aload_n 0, 1) := by decide +kernel
theorem dX9_act_95 : decode cX9_act 95 = .ok (.getfield 169, 3) := by decide +kernel
theorem dX9_act_98 : decode cX9_act 98 = .ok (.iload_n 3, 1) := by decide +kernel
theorem dX9_act_99 : decode cX9_act 99 = .ok (.iastore, 1) := by decide +kernel
theorem dX9_act_100 : decode cX9_act 100 = .ok (.aload_n 0, 1) := by decide +kernel
theorem dX9_act_101 : decode cX9_act 101 = .ok (.getfield 43, 3) := by decide +kernel
theorem dX9_act_104 : decode cX9_act 104 = .ok (.aload_n 0, 1) := by decide +kernel
theorem dX9_act_105 : decode cX9_act 105 = .ok (.getfield 169, 3) := by decide +kernel
theorem dX9_act_108 : decode cX9_act 108 = .ok (.iload 4, 2) := by decide +kernel
theorem dX9_act_110 : decode cX9_act 110 = .ok (.iastore, 1) := by decide +kernel
theorem dX9_act_111 : decode cX9_act 111 = .ok (.aload_n 0, 1) := by decide +kernel
theorem dX9_act_112 : decode cX9_act 112 = .ok (.dup, 1) := by decide +kernel
theorem dX9_act_113 : decode cX9_act 113 = .ok (.getfield 169, 3) := by decide +kernel
theorem dX9_act_116 : decode cX9_act 116 = .ok (.iconst 1, 1) := by decide +kernel
theorem dX9_act_117 : decode cX9_act 117 = .ok (.iadd, 1) := by decide +kernel
theorem dX9_act_118 : decode cX9_act 118 = .ok (.putfield 169, 3) := by decide +kernel
theorem dX9_act_121 : decode cX9_act 121 = .ok (.aload_n 0, 1) := by decide +kernel
theorem dX9_act_122 : decode cX9_act 122 = .ok (.getfield 169, 3) := by decide +kernel
theorem dX9_act_125 : decode cX9_act 125 = .ok (.ireturn, 1) := by decide +kernel
theorem dX9_back_0 : decode cX9_back 0 = .ok (.iload_n 1, 1) := by decide +kernel
theorem dX9_back_1 : decode cX9_back 1 = .ok (.iconst 0, 1) := by decide +kernel
theorem dX9_back_2 : decode cX9_back 2 = .ok (.iconst 1, 1) := by decide +kernel
theorem dX9_back_3 : decode cX9_back 3 = .ok (.invokestatic 116, 3) := by decide +kernel
theorem dX9_back_6 : decode cX9_back 6 = .ok (.ifCond .ne 6, 3) := by decide +kernel
theorem dX9_back_9 : decode cX9_back 9 = .ok (.bipush (-2), 2) := by decide +kernel
theorem dX9_back_11 : decode cX9_back 11 = .ok (.ireturn, 1) := by decide +kernel
theorem dX9_back_12 : decode cX9_back 12 = .ok (.iload_n 1, 1) := by decide +kernel
theorem dX9_back_13 : decode cX9_back 13 = .ok (.ifCond .ne 10, 3) := by decide +kernel
theorem dX9_back_16 : decode cX9_back 16 = .ok (.aload_n 0, 1) := by decide +kernel
theorem dX9_back_17 : decode cX9_back 17 = .ok (.getfield 169, 3) := by decide +kernel
theorem dX9_back_20 : decode cX9_back 20 = .ok (.goto 7, 3) := by decide +kernel
theorem dX9_back_23 : decode cX9_back 23 = .ok (.aload_n 0, 1) := by decide +kernel
theorem dX9_back_24 : decode cX9_back 24 = .ok (.getfield 166, 3) := by decide +kernel
theorem dX9_back_27 : decode cX9_back 27 = .ok (.istore_n 2, 1) := by decide +kernel
theorem dX9_back_28 : decode cX9_back 28 = .ok (.iload_n 2, 1) := by decide +kernel
theorem dX9_back_29 : decode cX9_back 29 = .ok (.ifCond .ne 6, 3) := by decide +kernel
theorem dX9_back_32 : decode cX9_back 32 = .ok (.bipush (-3), 2) := by decide +kernel
theorem dX9_back_34 : decode cX9_back 34 = .ok (.ireturn, 1) := by decide +kernel
theorem dX9_back_35 : decode cX9_back 35 = .ok (.aload_n 0, 1) := by decide +kernel
theorem dX9_back_36 : decode cX9_back 36 = .ok (.dup, 1) := by decide +kernel
theorem dX9_back_37 : decode cX9_back 37 = .ok (.getfield 169, 3) := by decide +kernel
theorem dX9_back_40 : decode cX9_back 40 = .ok (.iload_n 1, 1) := by decide +kernel
theorem dX9_back_41 : decode cX9_back 41 = .ok (.ifCond .ne 7, 3) := by decide +kernel
theorem dX9_back_44 : decode cX9_back 44 = .ok (.iconst 1, 1) := by decide +kernel
theorem dX9_back_45 : decode cX9_back 45 = .ok (.goto 4, 3) := by decide +kernel
theorem dX9_back_48 : decode cX9_back 48 = .ok (.iconst 0, 1) := by decide +kernel
theorem dX9_back_49 : decode cX9_back 49 = .ok (.isub, 1) := by decide +kernel
theorem dX9_back_50 : decode cX9_back 50 = .ok (.putfield 169, 3) := by decide +kernel
theorem dX9_back_53 : decode cX9_back 53 = .ok (.aload_n 0, 1) := by decide +kernel
theorem dX9_back_54 : decode cX9_back 54 = .ok (.dup, 1) := by decide +kernel
theorem dX9_back_55 : decode cX9_back 55 = .ok (.getfield 166, 3) := by decide +kernel
theorem dX9_back_58 : decode cX9_back 58 = .ok (.iload_n 1, 1) := by decide +kernel
theorem dX9_back_59 : decode cX9_back 59 = .ok (.iconst 1, 1) := by decide +kernel
theorem dX9_back_60 : decode cX9_back 60 = .ok (.if_icmp .ne 7, 3) := by decide +kernel
theorem dX9_back_63 : decode cX9_back 63 = .ok (.iconst 1, 1) := by decide +kernel
theorem dX9_back_64 : decode cX9_back 64 = .ok (.goto 4, 3) := by decide +kernel
theorem dX9_back_67 : decode cX9_back 67 = .ok (.iconst 0, 1) := by decide +kernel
theorem dX9_back_68 : decode cX9_back 68 = .ok (.isub, 1) := by decide +kernel
theorem dX9_back_69 : decode cX9_back 69 = .ok (.putfield 166, 3) := by decide +kernel
theorem dX9_back_72 : decode cX9_back 72 = .ok (.iload_n 2, 1) := by decide +kernel
theorem dX9_back_73 : decode cX9_back 73 = .ok (.iconst 1, 1) := by decide +kernel
theorem dX9_back_74 : decode cX9_back 74 = .ok (.isub, 1) := by decide +kernel
theorem dX9_back_75 : decode cX9_back 75 = .ok (.ireturn, 1) := by decide +kernel
theorem dX9_read_0 : decode cX9_read 0 = .ok (.iload_n 1, 1) := by decide +kernel
theorem dX9_read_1 : decode cX9_read 1 = .ok (.invokestatic 172, 3) := by decide +kernel
theorem dX9_read_4 : decode cX9_read 4 = .ok (.ifCond .ne 6, 3) := by decide +kernel
theorem dX9_read_7 : decode cX9_read 7 = .ok (.bipush (-2), 2) := by decide +kernel
theorem dX9_read_9 : decode cX9_read 9 = .ok (.ireturn, 1) := by decide +kernel
theorem dX9_read_10 : decode cX9_read 10 = .ok (.aload_n 0, 1) := by decide +kernel
theorem dX9_read_11 : decode cX9_read 11 = .ok (.getfield 95, 3) := by decide +kernel
theorem dX9_read_14 : decode cX9_read 14 = .ok (.iload_n 1, 1) := by decide +kernel
theorem dX9_read_15 : decode cX9_read 15 = .ok (.baload, 1) := by decide +kernel
theorem dX9_read_16 : decode cX9_read 16 = .ok (.ifCond .ne 9, 3) := by decide +kernel
theorem dX9_read_19 : decode cX9_read 19 = .ok (.aload_n 0, 1) := by decide +kernel
theorem dX9_read_20 : decode cX9_read 20 = .ok (.iconst 1, 1) := by decide +kernel
theorem dX9_read_21 : decode cX9_read 21 = .ok (.invokevirtual 175, 3) := by decide +kernel
theorem dX9_read_24 : decode cX9_read 24 = .ok (.ireturn, 1) := by decide +kernel
theorem dX9_read_25 : decode cX9_read 25 = .ok (.iconst 0, 1) := by decide +kernel
theorem dX9_read_26 : decode cX9_read 26 = .ok (.istore_n 2, 1) := by decide +kernel
theorem dX9_read_27 : decode cX9_read 27 = .ok (.iconst 4, 1) := by decide +kernel
theorem dX9_read_28 : decode cX9_read 28 = .ok (.iload_n 2, 1) := by decide +kernel
theorem dX9_read_29 : decode cX9_read 29 = .ok (.imul, 1) := by decide +kernel
theorem dX9_read_30 : decode cX9_read 30 = .ok (.iconst 3, 1) := by decide +kernel
theorem dX9_read_31 : decode cX9_read 31 = .ok (.iadd, 1) := by decide +kernel
theorem dX9_read_32 : decode cX9_read 32 = .ok (.aload_n 0, 1) := by decide +kernel
theorem dX9_read_33 : decode cX9_read 33 = .ok (.getfield 101, 3) := by decide +kernel
theorem dX9_read_36 : decode cX9_read 36 = .ok (.iload_n 1, 1) := by decide +kernel
theorem dX9_read_37 : decode cX9_read 37 = .ok (.iaload, 1) := by decide +kernel
theorem dX9_read_38 : decode cX9_read 38 = .ok (.if_icmp .ge 74, 3) := by decide +kernel
theorem dX9_read_41 : decode cX9_read 41 = .ok (.aload_n 0, 1) := by decide +kernel
theorem dX9_read_42 : decode cX9_read 42 = .ok (.aload_n 0, 1) := by decide +kernel
theorem dX9_read_43 : decode cX9_read 43 = .ok (.getfield 104, 3) := by decide +kernel
theorem dX9_read_46 : decode cX9_read 46 = .ok (.bipush 60, 2) := by decide +kernel
theorem dX9_read_48 : decode cX9_read 48 = .ok (.iload_n 1, 1) := by decide +kernel
theorem dX9_read_49 : decode cX9_read 49 = .ok (.imul, 1) := by decide +kernel
theorem dX9_read_50 : decode cX9_read 50 = .ok (.iconst 4, 1) := by decide +kernel
theorem dX9_read_51 : decode cX9_read 51 = .ok (.iload_n 2, 1) := by decide +kernel
theorem dX9_read_52 : decode cX9_read 52 = .ok (.imul, 1) := by decide +kernel
theorem dX9_read_53 : decode cX9_read 53 = .ok (.iadd, 1) := by decide +kernel
theorem dX9_read_54 : decode cX9_read 54 = .ok (.iaload, 1) := by decide +kernel
theorem dX9_read_55 : decode cX9_read 55 = .ok (.aload_n 0, 1) := by decide +kernel
theorem dX9_read_56 : decode cX9_read 56 = .ok (.getfield 104, 3) := by decide +kernel
theorem dX9_read_59 : decode cX9_read 59 = .ok (.bipush 60, 2) := by decide +kernel
theorem dX9_read_61 : decode cX9_read 61 = .ok (.iload_n 1, 1) := by decide +kernel
theorem dX9_read_62 : decode cX9_read 62 = .ok (.imul, 1) := by decide +kernel
theorem dX9_read_63 : decode cX9_read 63 = .ok (.iconst 4, 1) := by decide +kernel
theorem dX9_read_64 : decode cX9_read 64 = .ok (.iload_n 2, 1) := by decide +kernel
theorem dX9_read_65 : decode cX9_read 65 = .ok (.imul, 1) := by decide +kernel
theorem dX9_read_66 : decode cX9_read 66 = .ok (.iadd, 1) := by decide +kernel
theorem dX9_read_67 : decode cX9_read 67 = .ok (.iconst 1, 1) := by decide +kernel
theorem dX9_read_68 : decode cX9_read 68 = .ok (.iadd, 1) := by decide +kernel
theorem dX9_read_69 : decode cX9_read 69 = .ok (.iaload, 1) := by decide +kernel
theorem dX9_read_70 : decode cX9_read 70 = .ok (.aload_n 0, 1) := by decide +kernel
theorem dX9_read_71 : decode cX9_read 71 = .ok (.getfield 104, 3) := by decide +kernel
theorem dX9_read_74 : decode cX9_read 74 = .ok (.bipush 60, 2) := by decide +kernel
theorem dX9_read_76 : decode cX9_read 76 = .ok (.iload_n 1, 1) := by decide +kernel
theorem dX9_read_77 : decode cX9_read 77 = .ok (.imul, 1) := by decide +kernel
theorem dX9_read_78 : decode cX9_read 78 = .ok (.iconst 4, 1) := by decide +kernel
theorem dX9_read_79 : decode cX9_read 79 = .ok (.iload_n 2, 1) := by decide +kernel
theorem dX9_read_80 : decode cX9_read 80 = .ok (.imul, 1) := by decide +kernel
theorem dX9_read_81 : decode cX9_read 81 = .ok (.iadd, 1) := by decide +kernel
theorem dX9_read_82 : decode cX9_read 82 = .ok (.iconst 2, 1) := by decide +kernel
theorem dX9_read_83 : decode cX9_read 83 = .ok (.iadd, 1) := by decide +kernel
theorem dX9_read_84 : decode cX9_read 84 = .ok (.iaload, 1) := by decide +kernel
theorem dX9_read_85 : decode cX9_read 85 = .ok (.aload_n 0, 1) := by decide +kernel
theorem dX9_read_86 : decode cX9_read 86 = .ok (.getfield 104, 3) := by decide +kernel
theorem dX9_read_89 : decode cX9_read 89 = .ok (.bipush 60, 2) := by decide +kernel
theorem dX9_read_91 : decode cX9_read 91 = .ok (.iload_n 1, 1) := by decide +kernel
theorem dX9_read_92 : decode cX9_read 92 = .ok (.imul, 1) := by decide +kernel
theorem dX9_read_93 : decode cX9_read 93 = .ok (.iconst 4, 1) := by decide +kernel
theorem dX9_read_94 : decode cX9_read 94 = .ok (.iload_n 2, 1) := by decide +kernel
theorem dX9_read_95 : decode cX9_read 95 = .ok (.imul, 1) := by decide +kernel
theorem dX9_read_96 : decode cX9_read 96 = .ok (.iadd, 1) := by decide +kernel
theorem dX9_read_97 : decode cX9_read 97 = .ok (.iconst 3, 1) := by decide +kernel
theorem dX9_read_98 : decode cX9_read 98 = .ok (.iadd, 1) := by decide +kernel
theorem dX9_read_99 : decode cX9_read 99 = .ok (.iaload, 1) := by decide +kernel
theorem dX9_read_100 : decode cX9_read 100 = .ok (.invokevirtual 178, 3) := by decide +kernel
theorem dX9_read_103 : decode cX9_read 103 = .ok (.ifCond .le 9, 3) := by decide +kernel
theorem dX9_read_106 : decode cX9_read 106 = .ok (.iinc 2 1, 3) := by decide +kernel
theorem dX9_read_109 : decode cX9_read 109 = .ok (.goto (-82), 3) := by decide +kernel
theorem dX9_read_112 : decode cX9_read 112 = .ok (.iload_n 2, 1) := by decide +kernel
theorem dX9_read_113 : decode cX9_read 113 = .ok (.ireturn, 1) := by decide +kernel
theorem dX9_asTold_0 : decode cX9_asTold 0 = .ok (.aload_n 0, 1) := by decide +kernel
theorem dX9_asTold_1 : decode cX9_asTold 1 = .ok (.invokevirtual 148, 3) := by decide +kernel
theorem dX9_asTold_4 : decode cX9_asTold 4 = .ok (.aload_n 0, 1) := by decide +kernel
theorem dX9_asTold_5 : decode cX9_asTold 5 = .ok (.iconst (-1), 1) := by decide +kernel
theorem dX9_asTold_6 : decode cX9_asTold 6 = .ok (.putfield 182, 3) := by decide +kernel
theorem dX9_asTold_9 : decode cX9_asTold 9 = .ok (.aload_n 0, 1) := by decide +kernel
theorem dX9_asTold_10 : decode cX9_asTold 10 = .ok (.iconst (-1), 1) := by decide +kernel
theorem dX9_asTold_11 : decode cX9_asTold 11 = .ok (.putfield 185, 3) := by decide +kernel
theorem dX9_asTold_14 : decode cX9_asTold 14 = .ok (.aload_n 0, 1) := by decide +kernel
theorem dX9_asTold_15 : decode cX9_asTold 15 = .ok (.iconst (-1), 1) := by decide +kernel
theorem dX9_asTold_16 : decode cX9_asTold 16 = .ok (.putfield 188, 3) := by decide +kernel
theorem dX9_asTold_19 : decode cX9_asTold 19 = .ok (.aload_n 0, 1) := by decide +kernel
theorem dX9_asTold_20 : decode cX9_asTold 20 = .ok (.iconst 0, 1) := by decide +kernel
theorem dX9_asTold_21 : decode cX9_asTold 21 = .ok (.putfield 191, 3) := by decide +kernel
theorem dX9_asTold_24 : decode cX9_asTold 24 = .ok (.aload_n 0, 1) := by decide +kernel
theorem dX9_asTold_25 : decode cX9_asTold 25 = .ok (.iconst 0, 1) := by decide +kernel
theorem dX9_asTold_26 : decode cX9_asTold 26 = .ok (.putfield 194, 3) := by decide +kernel
theorem dX9_asTold_29 : decode cX9_asTold 29 = .ok (.iconst 0, 1) := by decide +kernel
theorem dX9_asTold_30 : decode cX9_asTold 30 = .ok (.istore_n 1, 1) := by decide +kernel
theorem dX9_asTold_31 : decode cX9_asTold 31 = .ok (.iload_n 1, 1) := by decide +kernel
theorem dX9_asTold_32 : decode cX9_asTold 32 = .ok (.bipush 40, 2) := by decide +kernel
theorem dX9_asTold_34 : decode cX9_asTold 34 = .ok (.if_icmp .ge 16, 3) := by decide +kernel
theorem dX9_asTold_37 : decode cX9_asTold 37 = .ok (.aload_n 0, 1) := by decide +kernel
theorem dX9_asTold_38 : decode cX9_asTold 38 = .ok (.getfield 68, 3) := by decide +kernel
theorem dX9_asTold_41 : decode cX9_asTold 41 = .ok (.iload_n 1, 1) := by decide +kernel
theorem dX9_asTold_42 : decode cX9_asTold 42 = .ok (.iconst 0, 1) := by decide +kernel
theorem dX9_asTold_43 : decode cX9_asTold 43 = .ok (.bastore, 1) := by decide +kernel
theorem dX9_asTold_44 : decode cX9_asTold 44 = .ok (.iinc 1 1, 3) := by decide +kernel
theorem dX9_asTold_47 : decode cX9_asTold 47 = .ok (.goto (-16), 3) := by decide +kernel
theorem dX9_asTold_50 : decode cX9_asTold 50 = .ok (.iconst 0, 1) := by decide +kernel
theorem dX9_asTold_51 : decode cX9_asTold 51 = .ok (.istore_n 1, 1) := by decide +kernel
theorem dX9_asTold_52 : decode cX9_asTold 52 = .ok (.iload_n 1, 1) := by decide +kernel
theorem dX9_asTold_53 : decode cX9_asTold 53 = .ok (.aload_n 0, 1) := by decide +kernel
theorem dX9_asTold_54 : decode cX9_asTold 54 = .ok (.getfield 166, 3) := by decide +kernel
theorem dX9_asTold_57 : decode cX9_asTold 57 = .ok (.if_icmp .ge 21, 3) := by decide +kernel
theorem dX9_asTold_60 : decode cX9_asTold 60 = .ok (.aload_n 0, 1) := by decide +kernel
theorem dX9_asTold_61 : decode cX9_asTold 61 = .ok (.getfield 68, 3) := by decide +kernel
theorem dX9_asTold_64 : decode cX9_asTold 64 = .ok (.aload_n 0, 1) := by decide +kernel
theorem dX9_asTold_65 : decode cX9_asTold 65 = .ok (.getfield 31, 3) := by decide +kernel
theorem dX9_asTold_68 : decode cX9_asTold 68 = .ok (.iload_n 1, 1) := by decide +kernel
theorem dX9_asTold_69 : decode cX9_asTold 69 = .ok (.iaload, 1) := by decide +kernel
theorem dX9_asTold_70 : decode cX9_asTold 70 = .ok (.iconst 1, 1) := by decide +kernel
theorem dX9_asTold_71 : decode cX9_asTold 71 = .ok (.bastore, 1) := by decide +kernel
theorem dX9_asTold_72 : decode cX9_asTold 72 = .ok (.iinc 1 1, 3) := by decide +kernel
theorem dX9_asTold_75 : decode cX9_asTold 75 = .ok (.goto (-23), 3) := by decide +kernel
theorem dX9_asTold_78 : decode cX9_asTold 78 = .ok (.return_, 1) := by decide +kernel
theorem dX9_as_0 : decode cX9_as 0 = .ok (.iload_n 1, 1) := by decide +kernel
theorem dX9_as_1 : decode cX9_as 1 = .ok (.aload_n 0, 1) := by decide +kernel
theorem dX9_as_2 : decode cX9_as 2 = .ok (.getfield 185, 3) := by decide +kernel
theorem dX9_as_5 : decode cX9_as 5 = .ok (.if_icmp .ne 10, 3) := by decide +kernel
theorem dX9_as_8 : decode cX9_as 8 = .ok (.aload_n 0, 1) := by decide +kernel
theorem dX9_as_9 : decode cX9_as 9 = .ok (.getfield 188, 3) := by decide +kernel
theorem dX9_as_12 : decode cX9_as 12 = .ok (.goto 19, 3) := by decide +kernel
theorem dX9_as_15 : decode cX9_as 15 = .ok (.iload_n 1, 1) := by decide +kernel
theorem dX9_as_16 : decode cX9_as 16 = .ok (.aload_n 0, 1) := by decide +kernel
theorem dX9_as_17 : decode cX9_as 17 = .ok (.getfield 188, 3) := by decide +kernel
theorem dX9_as_20 : decode cX9_as 20 = .ok (.if_icmp .ne 10, 3) := by decide +kernel
theorem dX9_as_23 : decode cX9_as 23 = .ok (.aload_n 0, 1) := by decide +kernel
theorem dX9_as_24 : decode cX9_as 24 = .ok (.getfield 185, 3) := by decide +kernel
theorem dX9_as_27 : decode cX9_as 27 = .ok (.goto 4, 3) := by decide +kernel
theorem dX9_as_30 : decode cX9_as 30 = .ok (.iload_n 1, 1) := by decide +kernel
theorem dX9_as_31 : decode cX9_as 31 = .ok (.ireturn, 1) := by decide +kernel
theorem dX9_begins_0 : decode cX9_begins 0 = .ok (.aload_n 0, 1) := by decide +kernel
theorem dX9_begins_1 : decode cX9_begins 1 = .ok (.iconst 0, 1) := by decide +kernel
theorem dX9_begins_2 : decode cX9_begins 2 = .ok (.putfield 197, 3) := by decide +kernel
theorem dX9_begins_5 : decode cX9_begins 5 = .ok (.aload_n 0, 1) := by decide +kernel
theorem dX9_begins_6 : decode cX9_begins 6 = .ok (.iconst 0, 1) := by decide +kernel
theorem dX9_begins_7 : decode cX9_begins 7 = .ok (.putfield 200, 3) := by decide +kernel
theorem dX9_begins_10 : decode cX9_begins 10 = .ok (.iconst 0, 1) := by decide +kernel
theorem dX9_begins_11 : decode cX9_begins 11 = .ok (.istore_n 1, 1) := by decide +kernel
theorem dX9_begins_12 : decode cX9_begins 12 = .ok (.iload_n 1, 1) := by decide +kernel
theorem dX9_begins_13 : decode cX9_begins 13 = .ok (.bipush 64, 2) := by decide +kernel
theorem dX9_begins_15 : decode cX9_begins 15 = .ok (.if_icmp .ge 16, 3) := by decide +kernel
theorem dX9_begins_18 : decode cX9_begins 18 = .ok (.aload_n 0, 1) := by decide +kernel
theorem dX9_begins_19 : decode cX9_begins 19 = .ok (.getfield 55, 3) := by decide +kernel
theorem dX9_begins_22 : decode cX9_begins 22 = .ok (.iload_n 1, 1) := by decide +kernel
theorem dX9_begins_23 : decode cX9_begins 23 = .ok (.iconst 0, 1) := by decide +kernel
theorem dX9_begins_24 : decode cX9_begins 24 = .ok (.iastore, 1) := by decide +kernel
theorem dX9_begins_25 : decode cX9_begins 25 = .ok (.iinc 1 1, 3) := by decide +kernel
theorem dX9_begins_28 : decode cX9_begins 28 = .ok (.goto (-16), 3) := by decide +kernel
theorem dX9_begins_31 : decode cX9_begins 31 = .ok (.iconst 0, 1) := by decide +kernel
theorem dX9_begins_32 : decode cX9_begins 32 = .ok (.istore_n 1, 1) := by decide +kernel
theorem dX9_begins_33 : decode cX9_begins 33 = .ok (.iload_n 1, 1) := by decide +kernel
theorem dX9_begins_34 : decode cX9_begins 34 = .ok (.bipush 8, 2) := by decide +kernel
theorem dX9_begins_36 : decode cX9_begins 36 = .ok (.if_icmp .ge 77, 3) := by decide +kernel
theorem dX9_begins_39 : decode cX9_begins 39 = .ok (.aload_n 0, 1) := by decide +kernel
theorem dX9_begins_40 : decode cX9_begins 40 = .ok (.getfield 58, 3) := by decide +kernel
theorem dX9_begins_43 : decode cX9_begins 43 = .ok (.iload_n 1, 1) := by decide +kernel
theorem dX9_begins_44 : decode cX9_begins 44 = .ok (.iconst 0, 1) := by decide +kernel
theorem dX9_begins_45 : decode cX9_begins 45 = .ok (.iastore, 1) := by decide +kernel
theorem dX9_begins_46 : decode cX9_begins 46 = .ok (.aload_n 0, 1) := by decide +kernel
theorem dX9_begins_47 : decode cX9_begins 47 = .ok (.getfield 64, 3) := by decide +kernel
theorem dX9_begins_50 : decode cX9_begins 50 = .ok (.iload_n 1, 1) := by decide +kernel
theorem dX9_begins_51 : decode cX9_begins 51 = .ok (.iload_n 1, 1) := by decide +kernel
theorem dX9_begins_52 : decode cX9_begins 52 = .ok (.aload_n 0, 1) := by decide +kernel
theorem dX9_begins_53 : decode cX9_begins 53 = .ok (.getfield 128, 3) := by decide +kernel
theorem dX9_begins_56 : decode cX9_begins 56 = .ok (.if_icmp .ge 7, 3) := by decide +kernel
theorem dX9_begins_59 : decode cX9_begins 59 = .ok (.iconst 1, 1) := by decide +kernel
theorem dX9_begins_60 : decode cX9_begins 60 = .ok (.goto 4, 3) := by decide +kernel
theorem dX9_begins_63 : decode cX9_begins 63 = .ok (.iconst 0, 1) := by decide +kernel
theorem dX9_begins_64 : decode cX9_begins 64 = .ok (.bastore, 1) := by decide +kernel
theorem dX9_begins_65 : decode cX9_begins 65 = .ok (.aload_n 0, 1) := by decide +kernel
theorem dX9_begins_66 : decode cX9_begins 66 = .ok (.getfield 61, 3) := by decide +kernel
theorem dX9_begins_69 : decode cX9_begins 69 = .ok (.iload_n 1, 1) := by decide +kernel
theorem dX9_begins_70 : decode cX9_begins 70 = .ok (.iload_n 1, 1) := by decide +kernel
theorem dX9_begins_71 : decode cX9_begins 71 = .ok (.aload_n 0, 1) := by decide +kernel
theorem dX9_begins_72 : decode cX9_begins 72 = .ok (.getfield 128, 3) := by decide +kernel
theorem dX9_begins_75 : decode cX9_begins 75 = .ok (.if_icmp .ge 16, 3) := by decide +kernel
theorem dX9_begins_78 : decode cX9_begins 78 = .ok (.aload_n 0, 1) := by decide +kernel
theorem dX9_begins_79 : decode cX9_begins 79 = .ok (.getfield 22, 3) := by decide +kernel
theorem dX9_begins_82 : decode cX9_begins 82 = .ok (.aload_n 0, 1) := by decide +kernel
theorem dX9_begins_83 : decode cX9_begins 83 = .ok (.iload_n 1, 1) := by decide +kernel
theorem dX9_begins_84 : decode cX9_begins 84 = .ok (.invokevirtual 203, 3) := by decide +kernel
theorem dX9_begins_87 : decode cX9_begins 87 = .ok (.iaload, 1) := by decide +kernel
theorem dX9_begins_88 : decode cX9_begins 88 = .ok (.goto 4, 3) := by decide +kernel
theorem dX9_begins_91 : decode cX9_begins 91 = .ok (.iconst 0, 1) := by decide +kernel
theorem dX9_begins_92 : decode cX9_begins 92 = .ok (.iastore, 1) := by decide +kernel
theorem dX9_begins_93 : decode cX9_begins 93 = .ok (.aload_n 0, 1) := by decide +kernel
theorem dX9_begins_94 : decode cX9_begins 94 = .ok (.getfield 74, 3) := by decide +kernel
theorem dX9_begins_97 : decode cX9_begins 97 = .ok (.iload_n 1, 1) := by decide +kernel
theorem dX9_begins_98 : decode cX9_begins 98 = .ok (.iconst 0, 1) := by decide +kernel
theorem dX9_begins_99 : decode cX9_begins 99 = .ok (.iastore, 1) := by decide +kernel
theorem dX9_begins_100 : decode cX9_begins 100 = .ok (.aload_n 0, 1) := by decide +kernel
theorem dX9_begins_101 : decode cX9_begins 101 = .ok (.getfield 77, 3) := by decide +kernel
theorem dX9_begins_104 : decode cX9_begins 104 = .ok (.iload_n 1, 1) := by decide +kernel
theorem dX9_begins_105 : decode cX9_begins 105 = .ok (.iconst 0, 1) := by decide +kernel
theorem dX9_begins_106 : decode cX9_begins 106 = .ok (.iastore, 1) := by decide +kernel
theorem dX9_begins_107 : decode cX9_begins 107 = .ok (.iinc 1 1, 3) := by decide +kernel
theorem dX9_begins_110 : decode cX9_begins 110 = .ok (.goto (-77), 3) := by decide +kernel
theorem dX9_begins_113 : decode cX9_begins 113 = .ok (.iconst 0, 1) := by decide +kernel
theorem dX9_begins_114 : decode cX9_begins 114 = .ok (.istore_n 1, 1) := by decide +kernel
theorem dX9_begins_115 : decode cX9_begins 115 = .ok (.iload_n 1, 1) := by decide +kernel
theorem dX9_begins_116 : decode cX9_begins 116 = .ok (.aload_n 0, 1) := by decide +kernel
theorem dX9_begins_117 : decode cX9_begins 117 = .ok (.getfield 128, 3) := by decide +kernel
theorem dX9_begins_120 : decode cX9_begins 120 = .ok (.if_icmp .ge 39, 3) := by decide +kernel
theorem dX9_begins_123 : decode cX9_begins 123 = .ok (.aload_n 0, 1) := by decide +kernel
theorem dX9_begins_124 : decode cX9_begins 124 = .ok (.getfield 55, 3) := by decide +kernel
theorem dX9_begins_127 : decode cX9_begins 127 = .ok (.bipush 8, 2) := by decide +kernel
theorem dX9_begins_129 : decode cX9_begins 129 = .ok (.iload_n 1, 1) := by decide +kernel
theorem dX9_begins_130 : decode cX9_begins 130 = .ok (.imul, 1) := by decide +kernel
theorem dX9_begins_131 : decode cX9_begins 131 = .ok (.aload_n 0, 1) := by decide +kernel
theorem dX9_begins_132 : decode cX9_begins 132 = .ok (.getfield 16, 3) := by decide +kernel
theorem dX9_begins_135 : decode cX9_begins 135 = .ok (.aload_n 0, 1) := by decide +kernel
theorem dX9_begins_136 : decode cX9_begins 136 = .ok (.iload_n 1, 1) := by decide +kernel
theorem dX9_begins_137 : decode cX9_begins 137 = .ok (.invokevirtual 203, 3) := by decide +kernel
theorem dX9_begins_140 : decode cX9_begins 140 = .ok (.iaload, 1) := by decide +kernel
theorem dX9_begins_141 : decode cX9_begins 141 = .ok (.iadd, 1) := by decide +kernel
theorem dX9_begins_142 : decode cX9_begins 142 = .ok (.aload_n 0, 1) := by decide +kernel
theorem dX9_begins_143 : decode cX9_begins 143 = .ok (.getfield 19, 3) := by decide +kernel
theorem dX9_begins_146 : decode cX9_begins 146 = .ok (.aload_n 0, 1) := by decide +kernel
theorem dX9_begins_147 : decode cX9_begins 147 = .ok (.iload_n 1, 1) := by decide +kernel
theorem dX9_begins_148 : decode cX9_begins 148 = .ok (.invokevirtual 203, 3) := by decide +kernel
theorem dX9_begins_151 : decode cX9_begins 151 = .ok (.iaload, 1) := by decide +kernel
theorem dX9_begins_152 : decode cX9_begins 152 = .ok (.iastore, 1) := by decide +kernel
theorem dX9_begins_153 : decode cX9_begins 153 = .ok (.iinc 1 1, 3) := by decide +kernel
theorem dX9_begins_156 : decode cX9_begins 156 = .ok (.goto (-41), 3) := by decide +kernel
theorem dX9_begins_159 : decode cX9_begins 159 = .ok (.iconst 0, 1) := by decide +kernel
theorem dX9_begins_160 : decode cX9_begins 160 = .ok (.istore_n 1, 1) := by decide +kernel
theorem dX9_begins_161 : decode cX9_begins 161 = .ok (.iload_n 1, 1) := by decide +kernel
theorem dX9_begins_162 : decode cX9_begins 162 = .ok (.bipush 16, 2) := by decide +kernel
theorem dX9_begins_164 : decode cX9_begins 164 = .ok (.if_icmp .ge 16, 3) := by decide +kernel
theorem dX9_begins_167 : decode cX9_begins 167 = .ok (.aload_n 0, 1) := by decide +kernel
theorem dX9_begins_168 : decode cX9_begins 168 = .ok (.getfield 71, 3) := by decide +kernel
theorem dX9_begins_171 : decode cX9_begins 171 = .ok (.iload_n 1, 1) := by decide +kernel
theorem dX9_begins_172 : decode cX9_begins 172 = .ok (.iconst 0, 1) := by decide +kernel
theorem dX9_begins_173 : decode cX9_begins 173 = .ok (.bastore, 1) := by decide +kernel
theorem dX9_begins_174 : decode cX9_begins 174 = .ok (.iinc 1 1, 3) := by decide +kernel
theorem dX9_begins_177 : decode cX9_begins 177 = .ok (.goto (-16), 3) := by decide +kernel
theorem dX9_begins_180 : decode cX9_begins 180 = .ok (.return_, 1) := by decide +kernel
theorem dX9_sells_0 : decode cX9_sells 0 = .ok (.iload_n 1, 1) := by decide +kernel
theorem dX9_sells_1 : decode cX9_sells 1 = .ok (.aload_n 0, 1) := by decide +kernel
theorem dX9_sells_2 : decode cX9_sells 2 = .ok (.getfield 128, 3) := by decide +kernel
theorem dX9_sells_5 : decode cX9_sells 5 = .ok (.if_icmp .ge 17, 3) := by decide +kernel
theorem dX9_sells_8 : decode cX9_sells 8 = .ok (.aload_n 0, 1) := by decide +kernel
theorem dX9_sells_9 : decode cX9_sells 9 = .ok (.getfield 58, 3) := by decide +kernel
theorem dX9_sells_12 : decode cX9_sells 12 = .ok (.iload_n 1, 1) := by decide +kernel
theorem dX9_sells_13 : decode cX9_sells 13 = .ok (.iaload, 1) := by decide +kernel
theorem dX9_sells_14 : decode cX9_sells 14 = .ok (.iload_n 2, 1) := by decide +kernel
theorem dX9_sells_15 : decode cX9_sells 15 = .ok (.if_icmp .eq 7, 3) := by decide +kernel
theorem dX9_sells_18 : decode cX9_sells 18 = .ok (.iconst 1, 1) := by decide +kernel
theorem dX9_sells_19 : decode cX9_sells 19 = .ok (.goto 4, 3) := by decide +kernel
theorem dX9_sells_22 : decode cX9_sells 22 = .ok (.iconst 0, 1) := by decide +kernel
theorem dX9_sells_23 : decode cX9_sells 23 = .ok (.istore_n 3, 1) := by decide +kernel
theorem dX9_sells_24 : decode cX9_sells 24 = .ok (.iload_n 3, 1) := by decide +kernel
theorem dX9_sells_25 : decode cX9_sells 25 = .ok (.ifCond .eq 10, 3) := by decide +kernel
theorem dX9_sells_28 : decode cX9_sells 28 = .ok (.aload_n 0, 1) := by decide +kernel
theorem dX9_sells_29 : decode cX9_sells 29 = .ok (.getfield 58, 3) := by decide +kernel
theorem dX9_sells_32 : decode cX9_sells 32 = .ok (.iload_n 1, 1) := by decide +kernel
theorem dX9_sells_33 : decode cX9_sells 33 = .ok (.iload_n 2, 1) := by decide +kernel
theorem dX9_sells_34 : decode cX9_sells 34 = .ok (.iastore, 1) := by decide +kernel
theorem dX9_sells_35 : decode cX9_sells 35 = .ok (.iload_n 3, 1) := by decide +kernel
theorem dX9_sells_36 : decode cX9_sells 36 = .ok (.ireturn, 1) := by decide +kernel
theorem dX9_corksOne_0 : decode cX9_corksOne 0 = .ok (.iload_n 1, 1) := by decide +kernel
theorem dX9_corksOne_1 : decode cX9_corksOne 1 = .ok (.aload_n 0, 1) := by decide +kernel
theorem dX9_corksOne_2 : decode cX9_corksOne 2 = .ok (.getfield 128, 3) := by decide +kernel
theorem dX9_corksOne_5 : decode cX9_corksOne 5 = .ok (.if_icmp .ge 18, 3) := by decide +kernel
theorem dX9_corksOne_8 : decode cX9_corksOne 8 = .ok (.aload_n 0, 1) := by decide +kernel
theorem dX9_corksOne_9 : decode cX9_corksOne 9 = .ok (.getfield 61, 3) := by decide +kernel
theorem dX9_corksOne_12 : decode cX9_corksOne 12 = .ok (.iload_n 1, 1) := by decide +kernel
theorem dX9_corksOne_13 : decode cX9_corksOne 13 = .ok (.iaload, 1) := by decide +kernel
theorem dX9_corksOne_14 : decode cX9_corksOne 14 = .ok (.bipush 9, 2) := by decide +kernel
theorem dX9_corksOne_16 : decode cX9_corksOne 16 = .ok (.if_icmp .eq 7, 3) := by decide +kernel
theorem dX9_corksOne_19 : decode cX9_corksOne 19 = .ok (.iconst 1, 1) := by decide +kernel
theorem dX9_corksOne_20 : decode cX9_corksOne 20 = .ok (.goto 4, 3) := by decide +kernel
theorem dX9_corksOne_23 : decode cX9_corksOne 23 = .ok (.iconst 0, 1) := by decide +kernel
theorem dX9_corksOne_24 : decode cX9_corksOne 24 = .ok (.istore_n 2, 1) := by decide +kernel
theorem dX9_corksOne_25 : decode cX9_corksOne 25 = .ok (.iload_n 2, 1) := by decide +kernel
theorem dX9_corksOne_26 : decode cX9_corksOne 26 = .ok (.ifCond .eq 11, 3) := by decide +kernel
theorem dX9_corksOne_29 : decode cX9_corksOne 29 = .ok (.aload_n 0, 1) := by decide +kernel
theorem dX9_corksOne_30 : decode cX9_corksOne 30 = .ok (.getfield 61, 3) := by decide +kernel
theorem dX9_corksOne_33 : decode cX9_corksOne 33 = .ok (.iload_n 1, 1) := by decide +kernel
theorem dX9_corksOne_34 : decode cX9_corksOne 34 = .ok (.bipush 9, 2) := by decide +kernel
theorem dX9_corksOne_36 : decode cX9_corksOne 36 = .ok (.iastore, 1) := by decide +kernel
theorem dX9_corksOne_37 : decode cX9_corksOne 37 = .ok (.iload_n 2, 1) := by decide +kernel
theorem dX9_corksOne_38 : decode cX9_corksOne 38 = .ok (.ireturn, 1) := by decide +kernel
theorem dX9_joins_0 : decode cX9_joins 0 = .ok (.iload_n 1, 1) := by decide +kernel
theorem dX9_joins_1 : decode cX9_joins 1 = .ok (.aload_n 0, 1) := by decide +kernel
theorem dX9_joins_2 : decode cX9_joins 2 = .ok (.getfield 128, 3) := by decide +kernel
theorem dX9_joins_5 : decode cX9_joins 5 = .ok (.if_icmp .ge 34, 3) := by decide +kernel
theorem dX9_joins_8 : decode cX9_joins 8 = .ok (.iload_n 2, 1) := by decide +kernel
theorem dX9_joins_9 : decode cX9_joins 9 = .ok (.aload_n 0, 1) := by decide +kernel
theorem dX9_joins_10 : decode cX9_joins 10 = .ok (.getfield 128, 3) := by decide +kernel
theorem dX9_joins_13 : decode cX9_joins 13 = .ok (.if_icmp .ge 26, 3) := by decide +kernel
theorem dX9_joins_16 : decode cX9_joins 16 = .ok (.iload_n 1, 1) := by decide +kernel
theorem dX9_joins_17 : decode cX9_joins 17 = .ok (.iload_n 2, 1) := by decide +kernel
theorem dX9_joins_18 : decode cX9_joins 18 = .ok (.if_icmp .eq 21, 3) := by decide +kernel
theorem dX9_joins_21 : decode cX9_joins 21 = .ok (.aload_n 0, 1) := by decide +kernel
theorem dX9_joins_22 : decode cX9_joins 22 = .ok (.getfield 64, 3) := by decide +kernel
theorem dX9_joins_25 : decode cX9_joins 25 = .ok (.iload_n 1, 1) := by decide +kernel
theorem dX9_joins_26 : decode cX9_joins 26 = .ok (.baload, 1) := by decide +kernel
theorem dX9_joins_27 : decode cX9_joins 27 = .ok (.ifCond .eq 12, 3) := by decide +kernel
theorem dX9_joins_30 : decode cX9_joins 30 = .ok (.aload_n 0, 1) := by decide +kernel
theorem dX9_joins_31 : decode cX9_joins 31 = .ok (.getfield 64, 3) := by decide +kernel
theorem dX9_joins_34 : decode cX9_joins 34 = .ok (.iload_n 2, 1) := by decide +kernel
theorem dX9_joins_35 : decode cX9_joins 35 = .ok (.baload, 1) := by decide +kernel
theorem dX9_joins_36 : decode cX9_joins 36 = .ok (.ifCond .ne 5, 3) := by decide +kernel
theorem dX9_joins_39 : decode cX9_joins 39 = .ok (.iconst 0, 1) := by decide +kernel
theorem dX9_joins_40 : decode cX9_joins 40 = .ok (.ireturn, 1) := by decide +kernel
theorem dX9_joins_41 : decode cX9_joins 41 = .ok (.iconst 0, 1) := by decide +kernel
theorem dX9_joins_42 : decode cX9_joins 42 = .ok (.istore_n 3, 1) := by decide +kernel
theorem dX9_joins_43 : decode cX9_joins 43 = .ok (.iload_n 3, 1) := by decide +kernel
theorem dX9_joins_44 : decode cX9_joins 44 = .ok (.bipush 8, 2) := by decide +kernel
theorem dX9_joins_46 : decode cX9_joins 46 = .ok (.if_icmp .ge 46, 3) := by decide +kernel
theorem dX9_joins_49 : decode cX9_joins 49 = .ok (.aload_n 0, 1) := by decide +kernel
theorem dX9_joins_50 : decode cX9_joins 50 = .ok (.getfield 55, 3) := by decide +kernel
theorem dX9_joins_53 : decode cX9_joins 53 = .ok (.bipush 8, 2) := by decide +kernel
theorem dX9_joins_55 : decode cX9_joins 55 = .ok (.iload_n 2, 1) := by decide +kernel
theorem dX9_joins_56 : decode cX9_joins 56 = .ok (.imul, 1) := by decide +kernel
theorem dX9_joins_57 : decode cX9_joins 57 = .ok (.iload_n 3, 1) := by decide +kernel
theorem dX9_joins_58 : decode cX9_joins 58 = .ok (.iadd, 1) := by decide +kernel
theorem dX9_joins_59 : decode cX9_joins 59 = .ok (.dup2, 1) := by decide +kernel
theorem dX9_joins_60 : decode cX9_joins 60 = .ok (.iaload, 1) := by decide +kernel
theorem dX9_joins_61 : decode cX9_joins 61 = .ok (.aload_n 0, 1) := by decide +kernel
theorem dX9_joins_62 : decode cX9_joins 62 = .ok (.getfield 55, 3) := by decide +kernel
theorem dX9_joins_65 : decode cX9_joins 65 = .ok (.bipush 8, 2) := by decide +kernel
theorem dX9_joins_67 : decode cX9_joins 67 = .ok (.iload_n 1, 1) := by decide +kernel
theorem dX9_joins_68 : decode cX9_joins 68 = .ok (.imul, 1) := by decide +kernel
theorem dX9_joins_69 : decode cX9_joins 69 = .ok (.iload_n 3, 1) := by decide +kernel
theorem dX9_joins_70 : decode cX9_joins 70 = .ok (.iadd, 1) := by decide +kernel
theorem dX9_joins_71 : decode cX9_joins 71 = .ok (.iaload, 1) := by decide +kernel
theorem dX9_joins_72 : decode cX9_joins 72 = .ok (.iadd, 1) := by decide +kernel
theorem dX9_joins_73 : decode cX9_joins 73 = .ok (.iastore, 1) := by decide +kernel
theorem dX9_joins_74 : decode cX9_joins 74 = .ok (.aload_n 0, 1) := by decide +kernel
theorem dX9_joins_75 : decode cX9_joins 75 = .ok (.getfield 55, 3) := by decide +kernel
theorem dX9_joins_78 : decode cX9_joins 78 = .ok (.bipush 8, 2) := by decide +kernel
theorem dX9_joins_80 : decode cX9_joins 80 = .ok (.iload_n 1, 1) := by decide +kernel
theorem dX9_joins_81 : decode cX9_joins 81 = .ok (.imul, 1) := by decide +kernel
theorem dX9_joins_82 : decode cX9_joins 82 = .ok (.iload_n 3, 1) := by decide +kernel
theorem dX9_joins_83 : decode cX9_joins 83 = .ok (.iadd, 1) := by decide +kernel
theorem dX9_joins_84 : decode cX9_joins 84 = .ok (.iconst 0, 1) := by decide +kernel
theorem dX9_joins_85 : decode cX9_joins 85 = .ok (.iastore, 1) := by decide +kernel
theorem dX9_joins_86 : decode cX9_joins 86 = .ok (.iinc 3 1, 3) := by decide +kernel
theorem dX9_joins_89 : decode cX9_joins 89 = .ok (.goto (-46), 3) := by decide +kernel
theorem dX9_joins_92 : decode cX9_joins 92 = .ok (.iconst 1, 1) := by decide +kernel
theorem dX9_joins_93 : decode cX9_joins 93 = .ok (.ireturn, 1) := by decide +kernel
theorem dX9_breaks_0 : decode cX9_breaks 0 = .ok (.iload_n 1, 1) := by decide +kernel
theorem dX9_breaks_1 : decode cX9_breaks 1 = .ok (.aload_n 0, 1) := by decide +kernel
theorem dX9_breaks_2 : decode cX9_breaks 2 = .ok (.getfield 128, 3) := by decide +kernel
theorem dX9_breaks_5 : decode cX9_breaks 5 = .ok (.if_icmp .ge 12, 3) := by decide +kernel
theorem dX9_breaks_8 : decode cX9_breaks 8 = .ok (.aload_n 0, 1) := by decide +kernel
theorem dX9_breaks_9 : decode cX9_breaks 9 = .ok (.getfield 64, 3) := by decide +kernel
theorem dX9_breaks_12 : decode cX9_breaks 12 = .ok (.iload_n 1, 1) := by decide +kernel
theorem dX9_breaks_13 : decode cX9_breaks 13 = .ok (.baload, 1) := by decide +kernel
theorem dX9_breaks_14 : decode cX9_breaks 14 = .ok (.ifCond .ne 5, 3) := by decide +kernel
theorem dX9_breaks_17 : decode cX9_breaks 17 = .ok (.iconst 0, 1) := by decide +kernel
theorem dX9_breaks_18 : decode cX9_breaks 18 = .ok (.ireturn, 1) := by decide +kernel
theorem dX9_breaks_19 : decode cX9_breaks 19 = .ok (.aload_n 0, 1) := by decide +kernel
theorem dX9_breaks_20 : decode cX9_breaks 20 = .ok (.getfield 64, 3) := by decide +kernel
theorem dX9_breaks_23 : decode cX9_breaks 23 = .ok (.iload_n 1, 1) := by decide +kernel
theorem dX9_breaks_24 : decode cX9_breaks 24 = .ok (.iconst 0, 1) := by decide +kernel
theorem dX9_breaks_25 : decode cX9_breaks 25 = .ok (.bastore, 1) := by decide +kernel
theorem dX9_breaks_26 : decode cX9_breaks 26 = .ok (.iconst 0, 1) := by decide +kernel
theorem dX9_breaks_27 : decode cX9_breaks 27 = .ok (.istore_n 2, 1) := by decide +kernel
theorem dX9_breaks_28 : decode cX9_breaks 28 = .ok (.iload_n 2, 1) := by decide +kernel
theorem dX9_breaks_29 : decode cX9_breaks 29 = .ok (.bipush 8, 2) := by decide +kernel
theorem dX9_breaks_31 : decode cX9_breaks 31 = .ok (.if_icmp .ge 41, 3) := by decide +kernel
theorem dX9_breaks_34 : decode cX9_breaks 34 = .ok (.aload_n 0, 1) := by decide +kernel
theorem dX9_breaks_35 : decode cX9_breaks 35 = .ok (.getfield 74, 3) := by decide +kernel
theorem dX9_breaks_38 : decode cX9_breaks 38 = .ok (.iload_n 2, 1) := by decide +kernel
theorem dX9_breaks_39 : decode cX9_breaks 39 = .ok (.dup2, 1) := by decide +kernel
theorem dX9_breaks_40 : decode cX9_breaks 40 = .ok (.iaload, 1) := by decide +kernel
theorem dX9_breaks_41 : decode cX9_breaks 41 = .ok (.aload_n 0, 1) := by decide +kernel
theorem dX9_breaks_42 : decode cX9_breaks 42 = .ok (.getfield 55, 3) := by decide +kernel
theorem dX9_breaks_45 : decode cX9_breaks 45 = .ok (.bipush 8, 2) := by decide +kernel
theorem dX9_breaks_47 : decode cX9_breaks 47 = .ok (.iload_n 1, 1) := by decide +kernel
theorem dX9_breaks_48 : decode cX9_breaks 48 = .ok (.imul, 1) := by decide +kernel
theorem dX9_breaks_49 : decode cX9_breaks 49 = .ok (.iload_n 2, 1) := by decide +kernel
theorem dX9_breaks_50 : decode cX9_breaks 50 = .ok (.iadd, 1) := by decide +kernel
theorem dX9_breaks_51 : decode cX9_breaks 51 = .ok (.iaload, 1) := by decide +kernel
theorem dX9_breaks_52 : decode cX9_breaks 52 = .ok (.iadd, 1) := by decide +kernel
theorem dX9_breaks_53 : decode cX9_breaks 53 = .ok (.iastore, 1) := by decide +kernel
theorem dX9_breaks_54 : decode cX9_breaks 54 = .ok (.aload_n 0, 1) := by decide +kernel
theorem dX9_breaks_55 : decode cX9_breaks 55 = .ok (.getfield 55, 3) := by decide +kernel
theorem dX9_breaks_58 : decode cX9_breaks 58 = .ok (.bipush 8, 2) := by decide +kernel
theorem dX9_breaks_60 : decode cX9_breaks 60 = .ok (.iload_n 1, 1) := by decide +kernel
theorem dX9_breaks_61 : decode cX9_breaks 61 = .ok (.imul, 1) := by decide +kernel
theorem dX9_breaks_62 : decode cX9_breaks 62 = .ok (.iload_n 2, 1) := by decide +kernel
theorem dX9_breaks_63 : decode cX9_breaks 63 = .ok (.iadd, 1) := by decide +kernel
theorem dX9_breaks_64 : decode cX9_breaks 64 = .ok (.iconst 0, 1) := by decide +kernel
theorem dX9_breaks_65 : decode cX9_breaks 65 = .ok (.iastore, 1) := by decide +kernel
theorem dX9_breaks_66 : decode cX9_breaks 66 = .ok (.iinc 2 1, 3) := by decide +kernel
theorem dX9_breaks_69 : decode cX9_breaks 69 = .ok (.goto (-41), 3) := by decide +kernel
theorem dX9_breaks_72 : decode cX9_breaks 72 = .ok (.iconst 1, 1) := by decide +kernel
theorem dX9_breaks_73 : decode cX9_breaks 73 = .ok (.ireturn, 1) := by decide +kernel
theorem dX9_does_0 : decode cX9_does 0 = .ok (.aload_n 0, 1) := by decide +kernel
theorem dX9_does_1 : decode cX9_does 1 = .ok (.getfield 40, 3) := by decide +kernel
theorem dX9_does_4 : decode cX9_does 4 = .ok (.iload_n 1, 1) := by decide +kernel
theorem dX9_does_5 : decode cX9_does 5 = .ok (.iaload, 1) := by decide +kernel
theorem dX9_does_6 : decode cX9_does 6 = .ok (.istore_n 2, 1) := by decide +kernel
theorem dX9_does_7 : decode cX9_does 7 = .ok (.aload_n 0, 1) := by decide +kernel
theorem dX9_does_8 : decode cX9_does 8 = .ok (.getfield 37, 3) := by decide +kernel
theorem dX9_does_11 : decode cX9_does 11 = .ok (.iload_n 1, 1) := by decide +kernel
theorem dX9_does_12 : decode cX9_does 12 = .ok (.iaload, 1) := by decide +kernel
theorem dX9_does_13 : decode cX9_does 13 = .ok (.ifCond .ne 17, 3) := by decide +kernel
theorem dX9_does_16 : decode cX9_does 16 = .ok (.aload_n 0, 1) := by decide +kernel
theorem dX9_does_17 : decode cX9_does 17 = .ok (.iload_n 2, 1) := by decide +kernel
theorem dX9_does_18 : decode cX9_does 18 = .ok (.aload_n 0, 1) := by decide +kernel
theorem dX9_does_19 : decode cX9_does 19 = .ok (.getfield 43, 3) := by decide +kernel
theorem dX9_does_22 : decode cX9_does 22 = .ok (.iload_n 1, 1) := by decide +kernel
theorem dX9_does_23 : decode cX9_does 23 = .ok (.iaload, 1) := by decide +kernel
theorem dX9_does_24 : decode cX9_does 24 = .ok (.invokevirtual 206, 3) := by decide +kernel
theorem dX9_does_27 : decode cX9_does 27 = .ok (.goto 50, 3) := by decide +kernel
theorem dX9_does_30 : decode cX9_does 30 = .ok (.aload_n 0, 1) := by decide +kernel
theorem dX9_does_31 : decode cX9_does 31 = .ok (.getfield 37, 3) := by decide +kernel
theorem dX9_does_34 : decode cX9_does 34 = .ok (.iload_n 1, 1) := by decide +kernel
theorem dX9_does_35 : decode cX9_does 35 = .ok (.iaload, 1) := by decide +kernel
theorem dX9_does_36 : decode cX9_does 36 = .ok (.iconst 1, 1) := by decide +kernel
theorem dX9_does_37 : decode cX9_does 37 = .ok (.if_icmp .ne 17, 3) := by decide +kernel
theorem dX9_does_40 : decode cX9_does 40 = .ok (.aload_n 0, 1) := by decide +kernel
theorem dX9_does_41 : decode cX9_does 41 = .ok (.iload_n 2, 1) := by decide +kernel
theorem dX9_does_42 : decode cX9_does 42 = .ok (.aload_n 0, 1) := by decide +kernel
theorem dX9_does_43 : decode cX9_does 43 = .ok (.getfield 43, 3) := by decide +kernel
theorem dX9_does_46 : decode cX9_does 46 = .ok (.iload_n 1, 1) := by decide +kernel
theorem dX9_does_47 : decode cX9_does 47 = .ok (.iaload, 1) := by decide +kernel
theorem dX9_does_48 : decode cX9_does 48 = .ok (.invokevirtual 210, 3) := by decide +kernel
theorem dX9_does_51 : decode cX9_does 51 = .ok (.goto 26, 3) := by decide +kernel
theorem dX9_does_54 : decode cX9_does 54 = .ok (.aload_n 0, 1) := by decide +kernel
theorem dX9_does_55 : decode cX9_does 55 = .ok (.getfield 37, 3) := by decide +kernel
theorem dX9_does_58 : decode cX9_does 58 = .ok (.iload_n 1, 1) := by decide +kernel
theorem dX9_does_59 : decode cX9_does 59 = .ok (.iaload, 1) := by decide +kernel
theorem dX9_does_60 : decode cX9_does 60 = .ok (.iconst 2, 1) := by decide +kernel
theorem dX9_does_61 : decode cX9_does 61 = .ok (.if_icmp .ne 11, 3) := by decide +kernel
theorem dX9_does_64 : decode cX9_does 64 = .ok (.aload_n 0, 1) := by decide +kernel
theorem dX9_does_65 : decode cX9_does 65 = .ok (.iload_n 2, 1) := by decide +kernel
theorem dX9_does_66 : decode cX9_does 66 = .ok (.invokevirtual 213, 3) := by decide +kernel
theorem dX9_does_69 : decode cX9_does 69 = .ok (.goto 8, 3) := by decide +kernel
theorem dX9_does_72 : decode cX9_does 72 = .ok (.aload_n 0, 1) := by decide +kernel
theorem dX9_does_73 : decode cX9_does 73 = .ok (.iload_n 2, 1) := by decide +kernel
theorem dX9_does_74 : decode cX9_does 74 = .ok (.invokevirtual 216, 3) := by decide +kernel
theorem dX9_does_77 : decode cX9_does 77 = .ok (.ireturn, 1) := by decide +kernel
theorem dX9_allIn_0 : decode cX9_allIn 0 = .ok (.iconst 0, 1) := by decide +kernel
theorem dX9_allIn_1 : decode cX9_allIn 1 = .ok (.istore_n 2, 1) := by decide +kernel
theorem dX9_allIn_2 : decode cX9_allIn 2 = .ok (.iconst 0, 1) := by decide +kernel
theorem dX9_allIn_3 : decode cX9_allIn 3 = .ok (.istore_n 3, 1) := by decide +kernel
theorem dX9_allIn_4 : decode cX9_allIn 4 = .ok (.iload_n 3, 1) := by decide +kernel
theorem dX9_allIn_5 : decode cX9_allIn 5 = .ok (.bipush 8, 2) := by decide +kernel
theorem dX9_allIn_7 : decode cX9_allIn 7 = .ok (.if_icmp .ge 23, 3) := by decide +kernel
theorem dX9_allIn_10 : decode cX9_allIn 10 = .ok (.iload_n 2, 1) := by decide +kernel
theorem dX9_allIn_11 : decode cX9_allIn 11 = .ok (.aload_n 0, 1) := by decide +kernel
theorem dX9_allIn_12 : decode cX9_allIn 12 = .ok (.getfield 55, 3) := by decide +kernel
theorem dX9_allIn_15 : decode cX9_allIn 15 = .ok (.bipush 8, 2) := by decide +kernel
theorem dX9_allIn_17 : decode cX9_allIn 17 = .ok (.iload_n 1, 1) := by decide +kernel
theorem dX9_allIn_18 : decode cX9_allIn 18 = .ok (.imul, 1) := by decide +kernel
theorem dX9_allIn_19 : decode cX9_allIn 19 = .ok (.iload_n 3, 1) := by decide +kernel
theorem dX9_allIn_20 : decode cX9_allIn 20 = .ok (.iadd, 1) := by decide +kernel
theorem dX9_allIn_21 : decode cX9_allIn 21 = .ok (.iaload, 1) := by decide +kernel
theorem dX9_allIn_22 : decode cX9_allIn 22 = .ok (.iadd, 1) := by decide +kernel
theorem dX9_allIn_23 : decode cX9_allIn 23 = .ok (.istore_n 2, 1) := by decide +kernel
theorem dX9_allIn_24 : decode cX9_allIn 24 = .ok (.iinc 3 1, 3) := by decide +kernel
theorem dX9_allIn_27 : decode cX9_allIn 27 = .ok (.goto (-23), 3) := by decide +kernel
theorem dX9_allIn_30 : decode cX9_allIn 30 = .ok (.iload_n 2, 1) := by decide +kernel
theorem dX9_allIn_31 : decode cX9_allIn 31 = .ok (.ireturn, 1) := by decide +kernel
theorem dX9_ends_0 : decode cX9_ends 0 = .ok (.iconst 0, 1) := by decide +kernel
theorem dX9_ends_1 : decode cX9_ends 1 = .ok (.istore_n 3, 1) := by decide +kernel
theorem dX9_ends_2 : decode cX9_ends 2 = .ok (.iload_n 3, 1) := by decide +kernel
theorem dX9_ends_3 : decode cX9_ends 3 = .ok (.bipush 8, 2) := by decide +kernel
theorem dX9_ends_5 : decode cX9_ends 5 = .ok (.if_icmp .ge 90, 3) := by decide +kernel
theorem dX9_ends_8 : decode cX9_ends 8 = .ok (.aload_n 0, 1) := by decide +kernel
theorem dX9_ends_9 : decode cX9_ends 9 = .ok (.getfield 55, 3) := by decide +kernel
theorem dX9_ends_12 : decode cX9_ends 12 = .ok (.bipush 8, 2) := by decide +kernel
theorem dX9_ends_14 : decode cX9_ends 14 = .ok (.iload_n 1, 1) := by decide +kernel
theorem dX9_ends_15 : decode cX9_ends 15 = .ok (.imul, 1) := by decide +kernel
theorem dX9_ends_16 : decode cX9_ends 16 = .ok (.iload_n 3, 1) := by decide +kernel
theorem dX9_ends_17 : decode cX9_ends 17 = .ok (.iadd, 1) := by decide +kernel
theorem dX9_ends_18 : decode cX9_ends 18 = .ok (.iaload, 1) := by decide +kernel
theorem dX9_ends_19 : decode cX9_ends 19 = .ok (.istore 4, 2) := by decide +kernel
theorem dX9_ends_21 : decode cX9_ends 21 = .ok (.iload 4, 2) := by decide +kernel
theorem dX9_ends_23 : decode cX9_ends 23 = .ok (.ifCond .ne 7, 3) := by decide +kernel
theorem dX9_ends_26 : decode cX9_ends 26 = .ok (.iconst 0, 1) := by decide +kernel
theorem dX9_ends_27 : decode cX9_ends 27 = .ok (.goto 33, 3) := by decide +kernel
theorem dX9_ends_30 : decode cX9_ends 30 = .ok (.iload 4, 2) := by decide +kernel
theorem dX9_ends_32 : decode cX9_ends 32 = .ok (.bipush 10, 2) := by decide +kernel
theorem dX9_ends_34 : decode cX9_ends 34 = .ok (.aload_n 0, 1) := by decide +kernel
theorem dX9_ends_35 : decode cX9_ends 35 = .ok (.getfield 61, 3) := by decide +kernel
theorem dX9_ends_38 : decode cX9_ends 38 = .ok (.iload_n 1, 1) := by decide +kernel
theorem dX9_ends_39 : decode cX9_ends 39 = .ok (.iaload, 1) := by decide +kernel
theorem dX9_ends_40 : decode cX9_ends 40 = .ok (.isub, 1) := by decide +kernel
theorem dX9_ends_41 : decode cX9_ends 41 = .ok (.imul, 1) := by decide +kernel
theorem dX9_ends_42 : decode cX9_ends 42 = .ok (.bipush 100, 2) := by decide +kernel
theorem dX9_ends_44 : decode cX9_ends 44 = .ok (.idiv, 1) := by decide +kernel
theorem dX9_ends_45 : decode cX9_ends 45 = .ok (.aload_n 0, 1) := by decide +kernel
theorem dX9_ends_46 : decode cX9_ends 46 = .ok (.getfield 61, 3) := by decide +kernel
theorem dX9_ends_49 : decode cX9_ends 49 = .ok (.iload_n 1, 1) := by decide +kernel
theorem dX9_ends_50 : decode cX9_ends 50 = .ok (.iaload, 1) := by decide +kernel
theorem dX9_ends_51 : decode cX9_ends 51 = .ok (.ifCond .ne 7, 3) := by decide +kernel
theorem dX9_ends_54 : decode cX9_ends 54 = .ok (.iconst 1, 1) := by decide +kernel
theorem dX9_ends_55 : decode cX9_ends 55 = .ok (.goto 4, 3) := by decide +kernel
theorem dX9_ends_58 : decode cX9_ends 58 = .ok (.iconst 0, 1) := by decide +kernel
theorem dX9_ends_59 : decode cX9_ends 59 = .ok (.iadd, 1) := by decide +kernel
theorem dX9_ends_60 : decode cX9_ends 60 = .ok (.istore 5, 2) := by decide +kernel
theorem dX9_ends_62 : decode cX9_ends 62 = .ok (.aload_n 0, 1) := by decide +kernel
theorem dX9_ends_63 : decode cX9_ends 63 = .ok (.getfield 55, 3) := by decide +kernel
theorem dX9_ends_66 : decode cX9_ends 66 = .ok (.bipush 8, 2) := by decide +kernel
theorem dX9_ends_68 : decode cX9_ends 68 = .ok (.iload_n 1, 1) := by decide +kernel
theorem dX9_ends_69 : decode cX9_ends 69 = .ok (.imul, 1) := by decide +kernel
theorem dX9_ends_70 : decode cX9_ends 70 = .ok (.iload_n 3, 1) := by decide +kernel
theorem dX9_ends_71 : decode cX9_ends 71 = .ok (.iadd, 1) := by decide +kernel
theorem dX9_ends_72 : decode cX9_ends 72 = .ok (.iload 4, 2) := by decide +kernel
theorem dX9_ends_74 : decode cX9_ends 74 = .ok (.iload 5, 2) := by decide +kernel
theorem dX9_ends_76 : decode cX9_ends 76 = .ok (.isub, 1) := by decide +kernel
theorem dX9_ends_77 : decode cX9_ends 77 = .ok (.iastore, 1) := by decide +kernel
theorem dX9_ends_78 : decode cX9_ends 78 = .ok (.aload_n 0, 1) := by decide +kernel
theorem dX9_ends_79 : decode cX9_ends 79 = .ok (.dup, 1) := by decide +kernel
theorem dX9_ends_80 : decode cX9_ends 80 = .ok (.getfield 197, 3) := by decide +kernel
theorem dX9_ends_83 : decode cX9_ends 83 = .ok (.iload 5, 2) := by decide +kernel
theorem dX9_ends_85 : decode cX9_ends 85 = .ok (.iadd, 1) := by decide +kernel
theorem dX9_ends_86 : decode cX9_ends 86 = .ok (.putfield 197, 3) := by decide +kernel
theorem dX9_ends_89 : decode cX9_ends 89 = .ok (.iinc 3 1, 3) := by decide +kernel
theorem dX9_ends_92 : decode cX9_ends 92 = .ok (.goto (-90), 3) := by decide +kernel
theorem dX9_ends_95 : decode cX9_ends 95 = .ok (.iload_n 2, 1) := by decide +kernel
theorem dX9_ends_96 : decode cX9_ends 96 = .ok (.ifCond .eq 82, 3) := by decide +kernel
theorem dX9_ends_99 : decode cX9_ends 99 = .ok (.aload_n 0, 1) := by decide +kernel
theorem dX9_ends_100 : decode cX9_ends 100 = .ok (.getfield 25, 3) := by decide +kernel
theorem dX9_ends_103 : decode cX9_ends 103 = .ok (.aload_n 0, 1) := by decide +kernel
theorem dX9_ends_104 : decode cX9_ends 104 = .ok (.iload_n 1, 1) := by decide +kernel
theorem dX9_ends_105 : decode cX9_ends 105 = .ok (.invokevirtual 203, 3) := by decide +kernel
theorem dX9_ends_108 : decode cX9_ends 108 = .ok (.iaload, 1) := by decide +kernel
theorem dX9_ends_109 : decode cX9_ends 109 = .ok (.iconst 1, 1) := by decide +kernel
theorem dX9_ends_110 : decode cX9_ends 110 = .ok (.if_icmp .ne 68, 3) := by decide +kernel
theorem dX9_ends_113 : decode cX9_ends 113 = .ok (.aload_n 0, 1) := by decide +kernel
theorem dX9_ends_114 : decode cX9_ends 114 = .ok (.iload_n 1, 1) := by decide +kernel
theorem dX9_ends_115 : decode cX9_ends 115 = .ok (.invokevirtual 219, 3) := by decide +kernel
theorem dX9_ends_118 : decode cX9_ends 118 = .ok (.aload_n 0, 1) := by decide +kernel
theorem dX9_ends_119 : decode cX9_ends 119 = .ok (.getfield 110, 3) := by decide +kernel
theorem dX9_ends_122 : decode cX9_ends 122 = .ok (.if_icmp .lt 56, 3) := by decide +kernel
theorem dX9_ends_125 : decode cX9_ends 125 = .ok (.aload_n 0, 1) := by decide +kernel
theorem dX9_ends_126 : decode cX9_ends 126 = .ok (.getfield 64, 3) := by decide +kernel
theorem dX9_ends_129 : decode cX9_ends 129 = .ok (.iload_n 1, 1) := by decide +kernel
theorem dX9_ends_130 : decode cX9_ends 130 = .ok (.iconst 0, 1) := by decide +kernel
theorem dX9_ends_131 : decode cX9_ends 131 = .ok (.bastore, 1) := by decide +kernel
theorem dX9_ends_132 : decode cX9_ends 132 = .ok (.iconst 0, 1) := by decide +kernel
theorem dX9_ends_133 : decode cX9_ends 133 = .ok (.istore_n 3, 1) := by decide +kernel
theorem dX9_ends_134 : decode cX9_ends 134 = .ok (.iload_n 3, 1) := by decide +kernel
theorem dX9_ends_135 : decode cX9_ends 135 = .ok (.bipush 8, 2) := by decide +kernel
theorem dX9_ends_137 : decode cX9_ends 137 = .ok (.if_icmp .ge 41, 3) := by decide +kernel
theorem dX9_ends_140 : decode cX9_ends 140 = .ok (.aload_n 0, 1) := by decide +kernel
theorem dX9_ends_141 : decode cX9_ends 141 = .ok (.getfield 77, 3) := by decide +kernel
theorem dX9_ends_144 : decode cX9_ends 144 = .ok (.iload_n 3, 1) := by decide +kernel
theorem dX9_ends_145 : decode cX9_ends 145 = .ok (.dup2, 1) := by decide +kernel
theorem dX9_ends_146 : decode cX9_ends 146 = .ok (.iaload, 1) := by decide +kernel
theorem dX9_ends_147 : decode cX9_ends 147 = .ok (.aload_n 0, 1) := by decide +kernel
theorem dX9_ends_148 : decode cX9_ends 148 = .ok (.getfield 55, 3) := by decide +kernel
theorem dX9_ends_151 : decode cX9_ends 151 = .ok (.bipush 8, 2) := by decide +kernel
theorem dX9_ends_153 : decode cX9_ends 153 = .ok (.iload_n 1, 1) := by decide +kernel
theorem dX9_ends_154 : decode cX9_ends 154 = .ok (.imul, 1) := by decide +kernel
theorem dX9_ends_155 : decode cX9_ends 155 = .ok (.iload_n 3, 1) := by decide +kernel
theorem dX9_ends_156 : decode cX9_ends 156 = .ok (.iadd, 1) := by decide +kernel
theorem dX9_ends_157 : decode cX9_ends 157 = .ok (.iaload, 1) := by decide +kernel
theorem dX9_ends_158 : decode cX9_ends 158 = .ok (.iadd, 1) := by decide +kernel
theorem dX9_ends_159 : decode cX9_ends 159 = .ok (.iastore, 1) := by decide +kernel
theorem dX9_ends_160 : decode cX9_ends 160 = .ok (.aload_n 0, 1) := by decide +kernel
theorem dX9_ends_161 : decode cX9_ends 161 = .ok (.getfield 55, 3) := by decide +kernel
theorem dX9_ends_164 : decode cX9_ends 164 = .ok (.bipush 8, 2) := by decide +kernel
theorem dX9_ends_166 : decode cX9_ends 166 = .ok (.iload_n 1, 1) := by decide +kernel
theorem dX9_ends_167 : decode cX9_ends 167 = .ok (.imul, 1) := by decide +kernel
theorem dX9_ends_168 : decode cX9_ends 168 = .ok (.iload_n 3, 1) := by decide +kernel
theorem dX9_ends_169 : decode cX9_ends 169 = .ok (.iadd, 1) := by decide +kernel
theorem dX9_ends_170 : decode cX9_ends 170 = .ok (.iconst 0, 1) := by decide +kernel
theorem dX9_ends_171 : decode cX9_ends 171 = .ok (.iastore, 1) := by decide +kernel
theorem dX9_ends_172 : decode cX9_ends 172 = .ok (.iinc 3 1, 3) := by decide +kernel
theorem dX9_ends_175 : decode cX9_ends 175 = .ok (.goto (-41), 3) := by decide +kernel
theorem dX9_ends_178 : decode cX9_ends 178 = .ok (.return_, 1) := by decide +kernel
theorem dX9_goesBy_0 : decode cX9_goesBy 0 = .ok (.iconst 0, 1) := by decide +kernel
theorem dX9_goesBy_1 : decode cX9_goesBy 1 = .ok (.istore_n 2, 1) := by decide +kernel
theorem dX9_goesBy_2 : decode cX9_goesBy 2 = .ok (.iload_n 2, 1) := by decide +kernel
theorem dX9_goesBy_3 : decode cX9_goesBy 3 = .ok (.aload_n 0, 1) := by decide +kernel
theorem dX9_goesBy_4 : decode cX9_goesBy 4 = .ok (.getfield 191, 3) := by decide +kernel
theorem dX9_goesBy_7 : decode cX9_goesBy 7 = .ok (.if_icmp .ge 24, 3) := by decide +kernel
theorem dX9_goesBy_10 : decode cX9_goesBy 10 = .ok (.iload_n 1, 1) := by decide +kernel
theorem dX9_goesBy_11 : decode cX9_goesBy 11 = .ok (.ifCond .ne 20, 3) := by decide +kernel
theorem dX9_goesBy_14 : decode cX9_goesBy 14 = .ok (.aload_n 0, 1) := by decide +kernel
theorem dX9_goesBy_15 : decode cX9_goesBy 15 = .ok (.aload_n 0, 1) := by decide +kernel
theorem dX9_goesBy_16 : decode cX9_goesBy 16 = .ok (.getfield 46, 3) := by decide +kernel
theorem dX9_goesBy_19 : decode cX9_goesBy 19 = .ok (.iload_n 2, 1) := by decide +kernel
theorem dX9_goesBy_20 : decode cX9_goesBy 20 = .ok (.iaload, 1) := by decide +kernel
theorem dX9_goesBy_21 : decode cX9_goesBy 21 = .ok (.invokevirtual 216, 3) := by decide +kernel
theorem dX9_goesBy_24 : decode cX9_goesBy 24 = .ok (.istore_n 3, 1) := by decide +kernel
theorem dX9_goesBy_25 : decode cX9_goesBy 25 = .ok (.iinc 2 1, 3) := by decide +kernel
theorem dX9_goesBy_28 : decode cX9_goesBy 28 = .ok (.goto (-26), 3) := by decide +kernel
theorem dX9_goesBy_31 : decode cX9_goesBy 31 = .ok (.iconst 0, 1) := by decide +kernel
theorem dX9_goesBy_32 : decode cX9_goesBy 32 = .ok (.istore_n 2, 1) := by decide +kernel
theorem dX9_goesBy_33 : decode cX9_goesBy 33 = .ok (.iload_n 2, 1) := by decide +kernel
theorem dX9_goesBy_34 : decode cX9_goesBy 34 = .ok (.aload_n 0, 1) := by decide +kernel
theorem dX9_goesBy_35 : decode cX9_goesBy 35 = .ok (.getfield 169, 3) := by decide +kernel
theorem dX9_goesBy_38 : decode cX9_goesBy 38 = .ok (.if_icmp .ge 38, 3) := by decide +kernel
theorem dX9_goesBy_41 : decode cX9_goesBy 41 = .ok (.aload_n 0, 1) := by decide +kernel
theorem dX9_goesBy_42 : decode cX9_goesBy 42 = .ok (.getfield 34, 3) := by decide +kernel
theorem dX9_goesBy_45 : decode cX9_goesBy 45 = .ok (.iload_n 2, 1) := by decide +kernel
theorem dX9_goesBy_46 : decode cX9_goesBy 46 = .ok (.iaload, 1) := by decide +kernel
theorem dX9_goesBy_47 : decode cX9_goesBy 47 = .ok (.iload_n 1, 1) := by decide +kernel
theorem dX9_goesBy_48 : decode cX9_goesBy 48 = .ok (.if_icmp .ne 22, 3) := by decide +kernel
theorem dX9_goesBy_51 : decode cX9_goesBy 51 = .ok (.iload_n 2, 1) := by decide +kernel
theorem dX9_goesBy_52 : decode cX9_goesBy 52 = .ok (.aload_n 0, 1) := by decide +kernel
theorem dX9_goesBy_53 : decode cX9_goesBy 53 = .ok (.getfield 182, 3) := by decide +kernel
theorem dX9_goesBy_56 : decode cX9_goesBy 56 = .ok (.if_icmp .eq 14, 3) := by decide +kernel
theorem dX9_goesBy_59 : decode cX9_goesBy 59 = .ok (.aload_n 0, 1) := by decide +kernel
theorem dX9_goesBy_60 : decode cX9_goesBy 60 = .ok (.getfield 71, 3) := by decide +kernel
theorem dX9_goesBy_63 : decode cX9_goesBy 63 = .ok (.iload_n 2, 1) := by decide +kernel
theorem dX9_goesBy_64 : decode cX9_goesBy 64 = .ok (.aload_n 0, 1) := by decide +kernel
theorem dX9_goesBy_65 : decode cX9_goesBy 65 = .ok (.iload_n 2, 1) := by decide +kernel
theorem dX9_goesBy_66 : decode cX9_goesBy 66 = .ok (.invokevirtual 222, 3) := by decide +kernel
theorem dX9_goesBy_69 : decode cX9_goesBy 69 = .ok (.bastore, 1) := by decide +kernel
theorem dX9_goesBy_70 : decode cX9_goesBy 70 = .ok (.iinc 2 1, 3) := by decide +kernel
theorem dX9_goesBy_73 : decode cX9_goesBy 73 = .ok (.goto (-40), 3) := by decide +kernel
theorem dX9_goesBy_76 : decode cX9_goesBy 76 = .ok (.iload_n 1, 1) := by decide +kernel
theorem dX9_goesBy_77 : decode cX9_goesBy 77 = .ok (.aload_n 0, 1) := by decide +kernel
theorem dX9_goesBy_78 : decode cX9_goesBy 78 = .ok (.getfield 194, 3) := by decide +kernel
theorem dX9_goesBy_81 : decode cX9_goesBy 81 = .ok (.if_icmp .ge 36, 3) := by decide +kernel
theorem dX9_goesBy_84 : decode cX9_goesBy 84 = .ok (.aload_n 0, 1) := by decide +kernel
theorem dX9_goesBy_85 : decode cX9_goesBy 85 = .ok (.dup, 1) := by decide +kernel
theorem dX9_goesBy_86 : decode cX9_goesBy 86 = .ok (.getfield 200, 3) := by decide +kernel
theorem dX9_goesBy_89 : decode cX9_goesBy 89 = .ok (.aload_n 0, 1) := by decide +kernel
theorem dX9_goesBy_90 : decode cX9_goesBy 90 = .ok (.aload_n 0, 1) := by decide +kernel
theorem dX9_goesBy_91 : decode cX9_goesBy 91 = .ok (.getfield 49, 3) := by decide +kernel
theorem dX9_goesBy_94 : decode cX9_goesBy 94 = .ok (.iload_n 1, 1) := by decide +kernel
theorem dX9_goesBy_95 : decode cX9_goesBy 95 = .ok (.iaload, 1) := by decide +kernel
theorem dX9_goesBy_96 : decode cX9_goesBy 96 = .ok (.aload_n 0, 1) := by decide +kernel
theorem dX9_goesBy_97 : decode cX9_goesBy 97 = .ok (.getfield 52, 3) := by decide +kernel
theorem dX9_goesBy_100 : decode cX9_goesBy 100 = .ok (.iload_n 1, 1) := by decide +kernel
theorem dX9_goesBy_101 : decode cX9_goesBy 101 = .ok (.iaload, 1) := by decide +kernel
theorem dX9_goesBy_102 : decode cX9_goesBy 102 = .ok (.invokevirtual 206, 3) := by decide +kernel
theorem dX9_goesBy_105 : decode cX9_goesBy 105 = .ok (.ifCond .eq 7, 3) := by decide +kernel
theorem dX9_goesBy_108 : decode cX9_goesBy 108 = .ok (.iconst 1, 1) := by decide +kernel
theorem dX9_goesBy_109 : decode cX9_goesBy 109 = .ok (.goto 4, 3) := by decide +kernel
theorem dX9_goesBy_112 : decode cX9_goesBy 112 = .ok (.iconst 0, 1) := by decide +kernel
theorem dX9_goesBy_113 : decode cX9_goesBy 113 = .ok (.iadd, 1) := by decide +kernel
theorem dX9_goesBy_114 : decode cX9_goesBy 114 = .ok (.putfield 200, 3) := by decide +kernel
theorem dX9_goesBy_117 : decode cX9_goesBy 117 = .ok (.iconst 0, 1) := by decide +kernel
theorem dX9_goesBy_118 : decode cX9_goesBy 118 = .ok (.istore_n 2, 1) := by decide +kernel
theorem dX9_goesBy_119 : decode cX9_goesBy 119 = .ok (.iload_n 2, 1) := by decide +kernel
theorem dX9_goesBy_120 : decode cX9_goesBy 120 = .ok (.aload_n 0, 1) := by decide +kernel
theorem dX9_goesBy_121 : decode cX9_goesBy 121 = .ok (.getfield 128, 3) := by decide +kernel
theorem dX9_goesBy_124 : decode cX9_goesBy 124 = .ok (.if_icmp .ge 29, 3) := by decide +kernel
theorem dX9_goesBy_127 : decode cX9_goesBy 127 = .ok (.aload_n 0, 1) := by decide +kernel
theorem dX9_goesBy_128 : decode cX9_goesBy 128 = .ok (.getfield 64, 3) := by decide +kernel
theorem dX9_goesBy_131 : decode cX9_goesBy 131 = .ok (.iload_n 2, 1) := by decide +kernel
theorem dX9_goesBy_132 : decode cX9_goesBy 132 = .ok (.baload, 1) := by decide +kernel
theorem dX9_goesBy_133 : decode cX9_goesBy 133 = .ok (.ifCond .eq 14, 3) := by decide +kernel
theorem dX9_goesBy_136 : decode cX9_goesBy 136 = .ok (.aload_n 0, 1) := by decide +kernel
theorem dX9_goesBy_137 : decode cX9_goesBy 137 = .ok (.iload_n 2, 1) := by decide +kernel
theorem dX9_goesBy_138 : decode cX9_goesBy 138 = .ok (.aload_n 0, 1) := by decide +kernel
theorem dX9_goesBy_139 : decode cX9_goesBy 139 = .ok (.getfield 68, 3) := by decide +kernel
theorem dX9_goesBy_142 : decode cX9_goesBy 142 = .ok (.iload_n 1, 1) := by decide +kernel
theorem dX9_goesBy_143 : decode cX9_goesBy 143 = .ok (.baload, 1) := by decide +kernel
theorem dX9_goesBy_144 : decode cX9_goesBy 144 = .ok (.invokevirtual 225, 3) := by decide +kernel
theorem dX9_goesBy_147 : decode cX9_goesBy 147 = .ok (.iinc 2 1, 3) := by decide +kernel
theorem dX9_goesBy_150 : decode cX9_goesBy 150 = .ok (.goto (-31), 3) := by decide +kernel
theorem dX9_goesBy_153 : decode cX9_goesBy 153 = .ok (.return_, 1) := by decide +kernel
theorem dX9_runs_0 : decode cX9_runs 0 = .ok (.aload_n 0, 1) := by decide +kernel
theorem dX9_runs_1 : decode cX9_runs 1 = .ok (.invokevirtual 229, 3) := by decide +kernel
theorem dX9_runs_4 : decode cX9_runs 4 = .ok (.iconst 0, 1) := by decide +kernel
theorem dX9_runs_5 : decode cX9_runs 5 = .ok (.istore_n 2, 1) := by decide +kernel
theorem dX9_runs_6 : decode cX9_runs 6 = .ok (.iload_n 2, 1) := by decide +kernel
theorem dX9_runs_7 : decode cX9_runs 7 = .ok (.iload_n 1, 1) := by decide +kernel
theorem dX9_runs_8 : decode cX9_runs 8 = .ok (.if_icmp .gt 14, 3) := by decide +kernel
theorem dX9_runs_11 : decode cX9_runs 11 = .ok (.aload_n 0, 1) := by decide +kernel
theorem dX9_runs_12 : decode cX9_runs 12 = .ok (.iload_n 2, 1) := by decide +kernel
theorem dX9_runs_13 : decode cX9_runs 13 = .ok (.invokevirtual 232, 3) := by decide +kernel
theorem dX9_runs_16 : decode cX9_runs 16 = .ok (.iinc 2 1, 3) := by decide +kernel
theorem dX9_runs_19 : decode cX9_runs 19 = .ok (.goto (-13), 3) := by decide +kernel
theorem dX9_runs_22 : decode cX9_runs 22 = .ok (.return_, 1) := by decide +kernel
theorem dX9_runsTold_0 : decode cX9_runsTold 0 = .ok (.aload_n 0, 1) := by decide +kernel
theorem dX9_runsTold_1 : decode cX9_runsTold 1 = .ok (.invokevirtual 236, 3) := by decide +kernel
theorem dX9_runsTold_4 : decode cX9_runsTold 4 = .ok (.aload_n 0, 1) := by decide +kernel
theorem dX9_runsTold_5 : decode cX9_runsTold 5 = .ok (.iload_n 1, 1) := by decide +kernel
theorem dX9_runsTold_6 : decode cX9_runsTold 6 = .ok (.invokevirtual 239, 3) := by decide +kernel
theorem dX9_runsTold_9 : decode cX9_runsTold 9 = .ok (.return_, 1) := by decide +kernel
theorem dX9_holdsOf_0 : decode cX9_holdsOf 0 = .ok (.aload_n 0, 1) := by decide +kernel
theorem dX9_holdsOf_1 : decode cX9_holdsOf 1 = .ok (.iload_n 1, 1) := by decide +kernel
theorem dX9_holdsOf_2 : decode cX9_holdsOf 2 = .ok (.invokevirtual 242, 3) := by decide +kernel
theorem dX9_holdsOf_5 : decode cX9_holdsOf 5 = .ok (.iload_n 3, 1) := by decide +kernel
theorem dX9_holdsOf_6 : decode cX9_holdsOf 6 = .ok (.iconst (-1), 1) := by decide +kernel
theorem dX9_holdsOf_7 : decode cX9_holdsOf 7 = .ok (.if_icmp .ne 11, 3) := by decide +kernel
theorem dX9_holdsOf_10 : decode cX9_holdsOf 10 = .ok (.aload_n 0, 1) := by decide +kernel
theorem dX9_holdsOf_11 : decode cX9_holdsOf 11 = .ok (.iload_n 2, 1) := by decide +kernel
theorem dX9_holdsOf_12 : decode cX9_holdsOf 12 = .ok (.invokevirtual 219, 3) := by decide +kernel
theorem dX9_holdsOf_15 : decode cX9_holdsOf 15 = .ok (.goto 14, 3) := by decide +kernel
theorem dX9_holdsOf_18 : decode cX9_holdsOf 18 = .ok (.aload_n 0, 1) := by decide +kernel
theorem dX9_holdsOf_19 : decode cX9_holdsOf 19 = .ok (.getfield 55, 3) := by decide +kernel
theorem dX9_holdsOf_22 : decode cX9_holdsOf 22 = .ok (.bipush 8, 2) := by decide +kernel
theorem dX9_holdsOf_24 : decode cX9_holdsOf 24 = .ok (.iload_n 2, 1) := by decide +kernel
theorem dX9_holdsOf_25 : decode cX9_holdsOf 25 = .ok (.imul, 1) := by decide +kernel
theorem dX9_holdsOf_26 : decode cX9_holdsOf 26 = .ok (.iload_n 3, 1) := by decide +kernel
theorem dX9_holdsOf_27 : decode cX9_holdsOf 27 = .ok (.iadd, 1) := by decide +kernel
theorem dX9_holdsOf_28 : decode cX9_holdsOf 28 = .ok (.iaload, 1) := by decide +kernel
theorem dX9_holdsOf_29 : decode cX9_holdsOf 29 = .ok (.ireturn, 1) := by decide +kernel
theorem dX9_holds_0 : decode cX9_holds 0 = .ok (.iload_n 1, 1) := by decide +kernel
theorem dX9_holds_1 : decode cX9_holds 1 = .ok (.invokestatic 163, 3) := by decide +kernel
theorem dX9_holds_4 : decode cX9_holds 4 = .ok (.ifCond .eq 31, 3) := by decide +kernel
theorem dX9_holds_7 : decode cX9_holds 7 = .ok (.aload_n 0, 1) := by decide +kernel
theorem dX9_holds_8 : decode cX9_holds 8 = .ok (.iload_n 2, 1) := by decide +kernel
theorem dX9_holds_9 : decode cX9_holds 9 = .ok (.invokevirtual 151, 3) := by decide +kernel
theorem dX9_holds_12 : decode cX9_holds 12 = .ok (.ifCond .eq 23, 3) := by decide +kernel
theorem dX9_holds_15 : decode cX9_holds 15 = .ok (.iload_n 3, 1) := by decide +kernel
theorem dX9_holds_16 : decode cX9_holds 16 = .ok (.iconst (-1), 1) := by decide +kernel
theorem dX9_holds_17 : decode cX9_holds 17 = .ok (.bipush 7, 2) := by decide +kernel
theorem dX9_holds_19 : decode cX9_holds 19 = .ok (.invokestatic 116, 3) := by decide +kernel
theorem dX9_holds_22 : decode cX9_holds 22 = .ok (.ifCond .eq 13, 3) := by decide +kernel
theorem dX9_holds_25 : decode cX9_holds 25 = .ok (.aload_n 0, 1) := by decide +kernel
theorem dX9_holds_26 : decode cX9_holds 26 = .ok (.iload_n 1, 1) := by decide +kernel
theorem dX9_holds_27 : decode cX9_holds 27 = .ok (.iload_n 2, 1) := by decide +kernel
theorem dX9_holds_28 : decode cX9_holds 28 = .ok (.iload_n 3, 1) := by decide +kernel
theorem dX9_holds_29 : decode cX9_holds 29 = .ok (.invokevirtual 245, 3) := by decide +kernel
theorem dX9_holds_32 : decode cX9_holds 32 = .ok (.goto 5, 3) := by decide +kernel
theorem dX9_holds_35 : decode cX9_holds 35 = .ok (.bipush (-2), 2) := by decide +kernel
theorem dX9_holds_37 : decode cX9_holds 37 = .ok (.ireturn, 1) := by decide +kernel
theorem dX9_whoOf_0 : decode cX9_whoOf 0 = .ok (.aload_n 0, 1) := by decide +kernel
theorem dX9_whoOf_1 : decode cX9_whoOf 1 = .ok (.iload_n 1, 1) := by decide +kernel
theorem dX9_whoOf_2 : decode cX9_whoOf 2 = .ok (.invokevirtual 242, 3) := by decide +kernel
theorem dX9_whoOf_5 : decode cX9_whoOf 5 = .ok (.aload_n 0, 1) := by decide +kernel
theorem dX9_whoOf_6 : decode cX9_whoOf 6 = .ok (.getfield 58, 3) := by decide +kernel
theorem dX9_whoOf_9 : decode cX9_whoOf 9 = .ok (.iload_n 2, 1) := by decide +kernel
theorem dX9_whoOf_10 : decode cX9_whoOf 10 = .ok (.iaload, 1) := by decide +kernel
theorem dX9_whoOf_11 : decode cX9_whoOf 11 = .ok (.ireturn, 1) := by decide +kernel
theorem dX9_who_0 : decode cX9_who 0 = .ok (.iload_n 1, 1) := by decide +kernel
theorem dX9_who_1 : decode cX9_who 1 = .ok (.invokestatic 163, 3) := by decide +kernel
theorem dX9_who_4 : decode cX9_who 4 = .ok (.ifCond .eq 20, 3) := by decide +kernel
theorem dX9_who_7 : decode cX9_who 7 = .ok (.aload_n 0, 1) := by decide +kernel
theorem dX9_who_8 : decode cX9_who 8 = .ok (.iload_n 2, 1) := by decide +kernel
theorem dX9_who_9 : decode cX9_who 9 = .ok (.invokevirtual 151, 3) := by decide +kernel
theorem dX9_who_12 : decode cX9_who 12 = .ok (.ifCond .eq 12, 3) := by decide +kernel
theorem dX9_who_15 : decode cX9_who 15 = .ok (.aload_n 0, 1) := by decide +kernel
theorem dX9_who_16 : decode cX9_who 16 = .ok (.iload_n 1, 1) := by decide +kernel
theorem dX9_who_17 : decode cX9_who 17 = .ok (.iload_n 2, 1) := by decide +kernel
theorem dX9_who_18 : decode cX9_who 18 = .ok (.invokevirtual 249, 3) := by decide +kernel
theorem dX9_who_21 : decode cX9_who 21 = .ok (.goto 5, 3) := by decide +kernel
theorem dX9_who_24 : decode cX9_who 24 = .ok (.bipush (-2), 2) := by decide +kernel
theorem dX9_who_26 : decode cX9_who 26 = .ok (.ireturn, 1) := by decide +kernel
theorem dX9_wholeOf_0 : decode cX9_wholeOf 0 = .ok (.aload_n 0, 1) := by decide +kernel
theorem dX9_wholeOf_1 : decode cX9_wholeOf 1 = .ok (.iload_n 1, 1) := by decide +kernel
theorem dX9_wholeOf_2 : decode cX9_wholeOf 2 = .ok (.invokevirtual 242, 3) := by decide +kernel
theorem dX9_wholeOf_5 : decode cX9_wholeOf 5 = .ok (.aload_n 0, 1) := by decide +kernel
theorem dX9_wholeOf_6 : decode cX9_wholeOf 6 = .ok (.getfield 64, 3) := by decide +kernel
theorem dX9_wholeOf_9 : decode cX9_wholeOf 9 = .ok (.iload_n 2, 1) := by decide +kernel
theorem dX9_wholeOf_10 : decode cX9_wholeOf 10 = .ok (.baload, 1) := by decide +kernel
theorem dX9_wholeOf_11 : decode cX9_wholeOf 11 = .ok (.ifCond .eq 7, 3) := by decide +kernel
theorem dX9_wholeOf_14 : decode cX9_wholeOf 14 = .ok (.iconst 1, 1) := by decide +kernel
theorem dX9_wholeOf_15 : decode cX9_wholeOf 15 = .ok (.goto 4, 3) := by decide +kernel
theorem dX9_wholeOf_18 : decode cX9_wholeOf 18 = .ok (.iconst 0, 1) := by decide +kernel
theorem dX9_wholeOf_19 : decode cX9_wholeOf 19 = .ok (.ireturn, 1) := by decide +kernel
theorem dX9_whole_0 : decode cX9_whole 0 = .ok (.iload_n 1, 1) := by decide +kernel
theorem dX9_whole_1 : decode cX9_whole 1 = .ok (.invokestatic 163, 3) := by decide +kernel
theorem dX9_whole_4 : decode cX9_whole 4 = .ok (.ifCond .eq 20, 3) := by decide +kernel
theorem dX9_whole_7 : decode cX9_whole 7 = .ok (.aload_n 0, 1) := by decide +kernel
theorem dX9_whole_8 : decode cX9_whole 8 = .ok (.iload_n 2, 1) := by decide +kernel
theorem dX9_whole_9 : decode cX9_whole 9 = .ok (.invokevirtual 151, 3) := by decide +kernel
theorem dX9_whole_12 : decode cX9_whole 12 = .ok (.ifCond .eq 12, 3) := by decide +kernel
theorem dX9_whole_15 : decode cX9_whole 15 = .ok (.aload_n 0, 1) := by decide +kernel
theorem dX9_whole_16 : decode cX9_whole 16 = .ok (.iload_n 1, 1) := by decide +kernel
theorem dX9_whole_17 : decode cX9_whole 17 = .ok (.iload_n 2, 1) := by decide +kernel
theorem dX9_whole_18 : decode cX9_whole 18 = .ok (.invokevirtual 252, 3) := by decide +kernel
theorem dX9_whole_21 : decode cX9_whole 21 = .ok (.goto 5, 3) := by decide +kernel
theorem dX9_whole_24 : decode cX9_whole 24 = .ok (.bipush (-2), 2) := by decide +kernel
theorem dX9_whole_26 : decode cX9_whole 26 = .ok (.ireturn, 1) := by decide +kernel
theorem dX9_hasOf_0 : decode cX9_hasOf 0 = .ok (.aload_n 0, 1) := by decide +kernel
theorem dX9_hasOf_1 : decode cX9_hasOf 1 = .ok (.iload_n 1, 1) := by decide +kernel
theorem dX9_hasOf_2 : decode cX9_hasOf 2 = .ok (.invokevirtual 242, 3) := by decide +kernel
theorem dX9_hasOf_5 : decode cX9_hasOf 5 = .ok (.iconst 0, 1) := by decide +kernel
theorem dX9_hasOf_6 : decode cX9_hasOf 6 = .ok (.istore_n 3, 1) := by decide +kernel
theorem dX9_hasOf_7 : decode cX9_hasOf 7 = .ok (.iconst 0, 1) := by decide +kernel
theorem dX9_hasOf_8 : decode cX9_hasOf 8 = .ok (.istore 4, 2) := by decide +kernel
theorem dX9_hasOf_10 : decode cX9_hasOf 10 = .ok (.iload 4, 2) := by decide +kernel
theorem dX9_hasOf_12 : decode cX9_hasOf 12 = .ok (.aload_n 0, 1) := by decide +kernel
theorem dX9_hasOf_13 : decode cX9_hasOf 13 = .ok (.getfield 128, 3) := by decide +kernel
theorem dX9_hasOf_16 : decode cX9_hasOf 16 = .ok (.if_icmp .ge 63, 3) := by decide +kernel
theorem dX9_hasOf_19 : decode cX9_hasOf 19 = .ok (.iconst 0, 1) := by decide +kernel
theorem dX9_hasOf_20 : decode cX9_hasOf 20 = .ok (.istore 5, 2) := by decide +kernel
theorem dX9_hasOf_22 : decode cX9_hasOf 22 = .ok (.iload 5, 2) := by decide +kernel
theorem dX9_hasOf_24 : decode cX9_hasOf 24 = .ok (.bipush 8, 2) := by decide +kernel
theorem dX9_hasOf_26 : decode cX9_hasOf 26 = .ok (.if_icmp .ge 47, 3) := by decide +kernel
theorem dX9_hasOf_29 : decode cX9_hasOf 29 = .ok (.iload_n 3, 1) := by decide +kernel
theorem dX9_hasOf_30 : decode cX9_hasOf 30 = .ok (.aload_n 0, 1) := by decide +kernel
theorem dX9_hasOf_31 : decode cX9_hasOf 31 = .ok (.getfield 58, 3) := by decide +kernel
theorem dX9_hasOf_34 : decode cX9_hasOf 34 = .ok (.iload 4, 2) := by decide +kernel
theorem dX9_hasOf_36 : decode cX9_hasOf 36 = .ok (.iaload, 1) := by decide +kernel
theorem dX9_hasOf_37 : decode cX9_hasOf 37 = .ok (.iload_n 2, 1) := by decide +kernel
theorem dX9_hasOf_38 : decode cX9_hasOf 38 = .ok (.if_icmp .ne 26, 3) := by decide +kernel
theorem dX9_hasOf_41 : decode cX9_hasOf 41 = .ok (.aload_n 0, 1) := by decide +kernel
theorem dX9_hasOf_42 : decode cX9_hasOf 42 = .ok (.getfield 55, 3) := by decide +kernel
theorem dX9_hasOf_45 : decode cX9_hasOf 45 = .ok (.bipush 8, 2) := by decide +kernel
theorem dX9_hasOf_47 : decode cX9_hasOf 47 = .ok (.iload 4, 2) := by decide +kernel
theorem dX9_hasOf_49 : decode cX9_hasOf 49 = .ok (.imul, 1) := by decide +kernel
theorem dX9_hasOf_50 : decode cX9_hasOf 50 = .ok (.iload 5, 2) := by decide +kernel
theorem dX9_hasOf_52 : decode cX9_hasOf 52 = .ok (.iadd, 1) := by decide +kernel
theorem dX9_hasOf_53 : decode cX9_hasOf 53 = .ok (.iaload, 1) := by decide +kernel
theorem dX9_hasOf_54 : decode cX9_hasOf 54 = .ok (.ifCond .le 10, 3) := by decide +kernel
theorem dX9_hasOf_57 : decode cX9_hasOf 57 = .ok (.iconst 1, 1) := by decide +kernel
theorem dX9_hasOf_58 : decode cX9_hasOf 58 = .ok (.iload 5, 2) := by decide +kernel
theorem dX9_hasOf_60 : decode cX9_hasOf 60 = .ok (.ishl, 1) := by decide +kernel
theorem dX9_hasOf_61 : decode cX9_hasOf 61 = .ok (.goto 4, 3) := by decide +kernel
theorem dX9_hasOf_64 : decode cX9_hasOf 64 = .ok (.iconst 0, 1) := by decide +kernel
theorem dX9_hasOf_65 : decode cX9_hasOf 65 = .ok (.ior, 1) := by decide +kernel
theorem dX9_hasOf_66 : decode cX9_hasOf 66 = .ok (.istore_n 3, 1) := by decide +kernel
theorem dX9_hasOf_67 : decode cX9_hasOf 67 = .ok (.iinc 5 1, 3) := by decide +kernel
theorem dX9_hasOf_70 : decode cX9_hasOf 70 = .ok (.goto (-48), 3) := by decide +kernel
theorem dX9_hasOf_73 : decode cX9_hasOf 73 = .ok (.iinc 4 1, 3) := by decide +kernel
theorem dX9_hasOf_76 : decode cX9_hasOf 76 = .ok (.goto (-66), 3) := by decide +kernel
theorem dX9_hasOf_79 : decode cX9_hasOf 79 = .ok (.iload_n 3, 1) := by decide +kernel
theorem dX9_hasOf_80 : decode cX9_hasOf 80 = .ok (.ireturn, 1) := by decide +kernel
theorem dX9_has_0 : decode cX9_has 0 = .ok (.iload_n 1, 1) := by decide +kernel
theorem dX9_has_1 : decode cX9_has 1 = .ok (.invokestatic 163, 3) := by decide +kernel
theorem dX9_has_4 : decode cX9_has 4 = .ok (.ifCond .eq 21, 3) := by decide +kernel
theorem dX9_has_7 : decode cX9_has 7 = .ok (.iload_n 2, 1) := by decide +kernel
theorem dX9_has_8 : decode cX9_has 8 = .ok (.iconst 0, 1) := by decide +kernel
theorem dX9_has_9 : decode cX9_has 9 = .ok (.iconst 5, 1) := by decide +kernel
theorem dX9_has_10 : decode cX9_has 10 = .ok (.invokestatic 116, 3) := by decide +kernel
theorem dX9_has_13 : decode cX9_has 13 = .ok (.ifCond .eq 12, 3) := by decide +kernel
theorem dX9_has_16 : decode cX9_has 16 = .ok (.aload_n 0, 1) := by decide +kernel
theorem dX9_has_17 : decode cX9_has 17 = .ok (.iload_n 1, 1) := by decide +kernel
theorem dX9_has_18 : decode cX9_has 18 = .ok (.iload_n 2, 1) := by decide +kernel
theorem dX9_has_19 : decode cX9_has 19 = .ok (.invokevirtual 255, 3) := by decide +kernel
theorem dX9_has_22 : decode cX9_has 22 = .ok (.goto 5, 3) := by decide +kernel
theorem dX9_has_25 : decode cX9_has 25 = .ok (.bipush (-2), 2) := by decide +kernel
theorem dX9_has_27 : decode cX9_has 27 = .ok (.ireturn, 1) := by decide +kernel
theorem dX9_heardOf_0 : decode cX9_heardOf 0 = .ok (.aload_n 0, 1) := by decide +kernel
theorem dX9_heardOf_1 : decode cX9_heardOf 1 = .ok (.iload_n 1, 1) := by decide +kernel
theorem dX9_heardOf_2 : decode cX9_heardOf 2 = .ok (.invokevirtual 242, 3) := by decide +kernel
theorem dX9_heardOf_5 : decode cX9_heardOf 5 = .ok (.aload_n 0, 1) := by decide +kernel
theorem dX9_heardOf_6 : decode cX9_heardOf 6 = .ok (.getfield 74, 3) := by decide +kernel
theorem dX9_heardOf_9 : decode cX9_heardOf 9 = .ok (.iload_n 2, 1) := by decide +kernel
theorem dX9_heardOf_10 : decode cX9_heardOf 10 = .ok (.iaload, 1) := by decide +kernel
theorem dX9_heardOf_11 : decode cX9_heardOf 11 = .ok (.ireturn, 1) := by decide +kernel
theorem dX9_heard_0 : decode cX9_heard 0 = .ok (.iload_n 1, 1) := by decide +kernel
theorem dX9_heard_1 : decode cX9_heard 1 = .ok (.invokestatic 163, 3) := by decide +kernel
theorem dX9_heard_4 : decode cX9_heard 4 = .ok (.ifCond .eq 19, 3) := by decide +kernel
theorem dX9_heard_7 : decode cX9_heard 7 = .ok (.iload_n 2, 1) := by decide +kernel
theorem dX9_heard_8 : decode cX9_heard 8 = .ok (.invokestatic 157, 3) := by decide +kernel
theorem dX9_heard_11 : decode cX9_heard 11 = .ok (.ifCond .eq 12, 3) := by decide +kernel
theorem dX9_heard_14 : decode cX9_heard 14 = .ok (.aload_n 0, 1) := by decide +kernel
theorem dX9_heard_15 : decode cX9_heard 15 = .ok (.iload_n 1, 1) := by decide +kernel
theorem dX9_heard_16 : decode cX9_heard 16 = .ok (.iload_n 2, 1) := by decide +kernel
theorem dX9_heard_17 : decode cX9_heard 17 = .ok (.invokevirtual 258, 3) := by decide +kernel
theorem dX9_heard_20 : decode cX9_heard 20 = .ok (.goto 5, 3) := by decide +kernel
theorem dX9_heard_23 : decode cX9_heard 23 = .ok (.bipush (-2), 2) := by decide +kernel
theorem dX9_heard_25 : decode cX9_heard 25 = .ok (.ireturn, 1) := by decide +kernel
theorem dX9_spilledOf_0 : decode cX9_spilledOf 0 = .ok (.aload_n 0, 1) := by decide +kernel
theorem dX9_spilledOf_1 : decode cX9_spilledOf 1 = .ok (.iload_n 1, 1) := by decide +kernel
theorem dX9_spilledOf_2 : decode cX9_spilledOf 2 = .ok (.invokevirtual 242, 3) := by decide +kernel
theorem dX9_spilledOf_5 : decode cX9_spilledOf 5 = .ok (.aload_n 0, 1) := by decide +kernel
theorem dX9_spilledOf_6 : decode cX9_spilledOf 6 = .ok (.getfield 77, 3) := by decide +kernel
theorem dX9_spilledOf_9 : decode cX9_spilledOf 9 = .ok (.iload_n 2, 1) := by decide +kernel
theorem dX9_spilledOf_10 : decode cX9_spilledOf 10 = .ok (.iaload, 1) := by decide +kernel
theorem dX9_spilledOf_11 : decode cX9_spilledOf 11 = .ok (.ireturn, 1) := by decide +kernel
theorem dX9_spilled_0 : decode cX9_spilled 0 = .ok (.iload_n 1, 1) := by decide +kernel
theorem dX9_spilled_1 : decode cX9_spilled 1 = .ok (.invokestatic 163, 3) := by decide +kernel
theorem dX9_spilled_4 : decode cX9_spilled 4 = .ok (.ifCond .eq 19, 3) := by decide +kernel
theorem dX9_spilled_7 : decode cX9_spilled 7 = .ok (.iload_n 2, 1) := by decide +kernel
theorem dX9_spilled_8 : decode cX9_spilled 8 = .ok (.invokestatic 157, 3) := by decide +kernel
theorem dX9_spilled_11 : decode cX9_spilled 11 = .ok (.ifCond .eq 12, 3) := by decide +kernel
theorem dX9_spilled_14 : decode cX9_spilled 14 = .ok (.aload_n 0, 1) := by decide +kernel
theorem dX9_spilled_15 : decode cX9_spilled 15 = .ok (.iload_n 1, 1) := by decide +kernel
theorem dX9_spilled_16 : decode cX9_spilled 16 = .ok (.iload_n 2, 1) := by decide +kernel
theorem dX9_spilled_17 : decode cX9_spilled 17 = .ok (.invokevirtual 261, 3) := by decide +kernel
theorem dX9_spilled_20 : decode cX9_spilled 20 = .ok (.goto 5, 3) := by decide +kernel
theorem dX9_spilled_23 : decode cX9_spilled 23 = .ok (.bipush (-2), 2) := by decide +kernel
theorem dX9_spilled_25 : decode cX9_spilled 25 = .ok (.ireturn, 1) := by decide +kernel
theorem dX9_leakedOf_0 : decode cX9_leakedOf 0 = .ok (.aload_n 0, 1) := by decide +kernel
theorem dX9_leakedOf_1 : decode cX9_leakedOf 1 = .ok (.iload_n 1, 1) := by decide +kernel
theorem dX9_leakedOf_2 : decode cX9_leakedOf 2 = .ok (.invokevirtual 242, 3) := by decide +kernel
theorem dX9_leakedOf_5 : decode cX9_leakedOf 5 = .ok (.aload_n 0, 1) := by decide +kernel
theorem dX9_leakedOf_6 : decode cX9_leakedOf 6 = .ok (.getfield 197, 3) := by decide +kernel
theorem dX9_leakedOf_9 : decode cX9_leakedOf 9 = .ok (.ireturn, 1) := by decide +kernel
theorem dX9_leaked_0 : decode cX9_leaked 0 = .ok (.iload_n 1, 1) := by decide +kernel
theorem dX9_leaked_1 : decode cX9_leaked 1 = .ok (.invokestatic 163, 3) := by decide +kernel
theorem dX9_leaked_4 : decode cX9_leaked 4 = .ok (.ifCond .eq 11, 3) := by decide +kernel
theorem dX9_leaked_7 : decode cX9_leaked 7 = .ok (.aload_n 0, 1) := by decide +kernel
theorem dX9_leaked_8 : decode cX9_leaked 8 = .ok (.iload_n 1, 1) := by decide +kernel
theorem dX9_leaked_9 : decode cX9_leaked 9 = .ok (.invokevirtual 264, 3) := by decide +kernel
theorem dX9_leaked_12 : decode cX9_leaked 12 = .ok (.goto 5, 3) := by decide +kernel
theorem dX9_leaked_15 : decode cX9_leaked 15 = .ok (.bipush (-2), 2) := by decide +kernel
theorem dX9_leaked_17 : decode cX9_leaked 17 = .ok (.ireturn, 1) := by decide +kernel
theorem dX9_lostOf_0 : decode cX9_lostOf 0 = .ok (.aload_n 0, 1) := by decide +kernel
theorem dX9_lostOf_1 : decode cX9_lostOf 1 = .ok (.iload_n 1, 1) := by decide +kernel
theorem dX9_lostOf_2 : decode cX9_lostOf 2 = .ok (.invokevirtual 242, 3) := by decide +kernel
theorem dX9_lostOf_5 : decode cX9_lostOf 5 = .ok (.iconst 0, 1) := by decide +kernel
theorem dX9_lostOf_6 : decode cX9_lostOf 6 = .ok (.istore_n 2, 1) := by decide +kernel
theorem dX9_lostOf_7 : decode cX9_lostOf 7 = .ok (.iconst 0, 1) := by decide +kernel
theorem dX9_lostOf_8 : decode cX9_lostOf 8 = .ok (.istore_n 3, 1) := by decide +kernel
theorem dX9_lostOf_9 : decode cX9_lostOf 9 = .ok (.iconst 0, 1) := by decide +kernel
theorem dX9_lostOf_10 : decode cX9_lostOf 10 = .ok (.istore 4, 2) := by decide +kernel
theorem dX9_lostOf_12 : decode cX9_lostOf 12 = .ok (.iload 4, 2) := by decide +kernel
theorem dX9_lostOf_14 : decode cX9_lostOf 14 = .ok (.aload_n 0, 1) := by decide +kernel
theorem dX9_lostOf_15 : decode cX9_lostOf 15 = .ok (.getfield 128, 3) := by decide +kernel
theorem dX9_lostOf_18 : decode cX9_lostOf 18 = .ok (.if_icmp .ge 64, 3) := by decide +kernel
theorem dX9_lostOf_21 : decode cX9_lostOf 21 = .ok (.iload_n 2, 1) := by decide +kernel
theorem dX9_lostOf_22 : decode cX9_lostOf 22 = .ok (.iconst 1, 1) := by decide +kernel
theorem dX9_lostOf_23 : decode cX9_lostOf 23 = .ok (.aload_n 0, 1) := by decide +kernel
theorem dX9_lostOf_24 : decode cX9_lostOf 24 = .ok (.getfield 16, 3) := by decide +kernel
theorem dX9_lostOf_27 : decode cX9_lostOf 27 = .ok (.iload 4, 2) := by decide +kernel
theorem dX9_lostOf_29 : decode cX9_lostOf 29 = .ok (.iaload, 1) := by decide +kernel
theorem dX9_lostOf_30 : decode cX9_lostOf 30 = .ok (.ishl, 1) := by decide +kernel
theorem dX9_lostOf_31 : decode cX9_lostOf 31 = .ok (.ior, 1) := by decide +kernel
theorem dX9_lostOf_32 : decode cX9_lostOf 32 = .ok (.istore_n 2, 1) := by decide +kernel
theorem dX9_lostOf_33 : decode cX9_lostOf 33 = .ok (.iconst 0, 1) := by decide +kernel
theorem dX9_lostOf_34 : decode cX9_lostOf 34 = .ok (.istore 5, 2) := by decide +kernel
theorem dX9_lostOf_36 : decode cX9_lostOf 36 = .ok (.iload 5, 2) := by decide +kernel
theorem dX9_lostOf_38 : decode cX9_lostOf 38 = .ok (.bipush 8, 2) := by decide +kernel
theorem dX9_lostOf_40 : decode cX9_lostOf 40 = .ok (.if_icmp .ge 36, 3) := by decide +kernel
theorem dX9_lostOf_43 : decode cX9_lostOf 43 = .ok (.iload_n 3, 1) := by decide +kernel
theorem dX9_lostOf_44 : decode cX9_lostOf 44 = .ok (.aload_n 0, 1) := by decide +kernel
theorem dX9_lostOf_45 : decode cX9_lostOf 45 = .ok (.getfield 55, 3) := by decide +kernel
theorem dX9_lostOf_48 : decode cX9_lostOf 48 = .ok (.bipush 8, 2) := by decide +kernel
theorem dX9_lostOf_50 : decode cX9_lostOf 50 = .ok (.iload 4, 2) := by decide +kernel
theorem dX9_lostOf_52 : decode cX9_lostOf 52 = .ok (.imul, 1) := by decide +kernel
theorem dX9_lostOf_53 : decode cX9_lostOf 53 = .ok (.iload 5, 2) := by decide +kernel
theorem dX9_lostOf_55 : decode cX9_lostOf 55 = .ok (.iadd, 1) := by decide +kernel
theorem dX9_lostOf_56 : decode cX9_lostOf 56 = .ok (.iaload, 1) := by decide +kernel
theorem dX9_lostOf_57 : decode cX9_lostOf 57 = .ok (.ifCond .le 10, 3) := by decide +kernel
theorem dX9_lostOf_60 : decode cX9_lostOf 60 = .ok (.iconst 1, 1) := by decide +kernel
theorem dX9_lostOf_61 : decode cX9_lostOf 61 = .ok (.iload 5, 2) := by decide +kernel
theorem dX9_lostOf_63 : decode cX9_lostOf 63 = .ok (.ishl, 1) := by decide +kernel
theorem dX9_lostOf_64 : decode cX9_lostOf 64 = .ok (.goto 4, 3) := by decide +kernel
theorem dX9_lostOf_67 : decode cX9_lostOf 67 = .ok (.iconst 0, 1) := by decide +kernel
theorem dX9_lostOf_68 : decode cX9_lostOf 68 = .ok (.ior, 1) := by decide +kernel
theorem dX9_lostOf_69 : decode cX9_lostOf 69 = .ok (.istore_n 3, 1) := by decide +kernel
theorem dX9_lostOf_70 : decode cX9_lostOf 70 = .ok (.iinc 5 1, 3) := by decide +kernel
theorem dX9_lostOf_73 : decode cX9_lostOf 73 = .ok (.goto (-37), 3) := by decide +kernel
theorem dX9_lostOf_76 : decode cX9_lostOf 76 = .ok (.iinc 4 1, 3) := by decide +kernel
theorem dX9_lostOf_79 : decode cX9_lostOf 79 = .ok (.goto (-67), 3) := by decide +kernel
theorem dX9_lostOf_82 : decode cX9_lostOf 82 = .ok (.iload_n 2, 1) := by decide +kernel
theorem dX9_lostOf_83 : decode cX9_lostOf 83 = .ok (.iload_n 3, 1) := by decide +kernel
theorem dX9_lostOf_84 : decode cX9_lostOf 84 = .ok (.iconst (-1), 1) := by decide +kernel
theorem dX9_lostOf_85 : decode cX9_lostOf 85 = .ok (.ixor, 1) := by decide +kernel
theorem dX9_lostOf_86 : decode cX9_lostOf 86 = .ok (.iand, 1) := by decide +kernel
theorem dX9_lostOf_87 : decode cX9_lostOf 87 = .ok (.ireturn, 1) := by decide +kernel
theorem dX9_lost_0 : decode cX9_lost 0 = .ok (.iload_n 1, 1) := by decide +kernel
theorem dX9_lost_1 : decode cX9_lost 1 = .ok (.invokestatic 163, 3) := by decide +kernel
theorem dX9_lost_4 : decode cX9_lost 4 = .ok (.ifCond .eq 11, 3) := by decide +kernel
theorem dX9_lost_7 : decode cX9_lost 7 = .ok (.aload_n 0, 1) := by decide +kernel
theorem dX9_lost_8 : decode cX9_lost 8 = .ok (.iload_n 1, 1) := by decide +kernel
theorem dX9_lost_9 : decode cX9_lost 9 = .ok (.invokevirtual 267, 3) := by decide +kernel
theorem dX9_lost_12 : decode cX9_lost 12 = .ok (.goto 5, 3) := by decide +kernel
theorem dX9_lost_15 : decode cX9_lost 15 = .ok (.bipush (-2), 2) := by decide +kernel
theorem dX9_lost_17 : decode cX9_lost 17 = .ok (.ireturn, 1) := by decide +kernel
theorem dX9_worksOf_0 : decode cX9_worksOf 0 = .ok (.aload_n 0, 1) := by decide +kernel
theorem dX9_worksOf_1 : decode cX9_worksOf 1 = .ok (.bipush 39, 2) := by decide +kernel
theorem dX9_worksOf_3 : decode cX9_worksOf 3 = .ok (.invokevirtual 242, 3) := by decide +kernel
theorem dX9_worksOf_6 : decode cX9_worksOf 6 = .ok (.aload_n 0, 1) := by decide +kernel
theorem dX9_worksOf_7 : decode cX9_worksOf 7 = .ok (.getfield 71, 3) := by decide +kernel
theorem dX9_worksOf_10 : decode cX9_worksOf 10 = .ok (.iload_n 1, 1) := by decide +kernel
theorem dX9_worksOf_11 : decode cX9_worksOf 11 = .ok (.baload, 1) := by decide +kernel
theorem dX9_worksOf_12 : decode cX9_worksOf 12 = .ok (.ifCond .eq 7, 3) := by decide +kernel
theorem dX9_worksOf_15 : decode cX9_worksOf 15 = .ok (.iconst 1, 1) := by decide +kernel
theorem dX9_worksOf_16 : decode cX9_worksOf 16 = .ok (.goto 4, 3) := by decide +kernel
theorem dX9_worksOf_19 : decode cX9_worksOf 19 = .ok (.iconst 0, 1) := by decide +kernel
theorem dX9_worksOf_20 : decode cX9_worksOf 20 = .ok (.ireturn, 1) := by decide +kernel
theorem dX9_works_0 : decode cX9_works 0 = .ok (.iload_n 1, 1) := by decide +kernel
theorem dX9_works_1 : decode cX9_works 1 = .ok (.iconst 0, 1) := by decide +kernel
theorem dX9_works_2 : decode cX9_works 2 = .ok (.aload_n 0, 1) := by decide +kernel
theorem dX9_works_3 : decode cX9_works 3 = .ok (.getfield 169, 3) := by decide +kernel
theorem dX9_works_6 : decode cX9_works 6 = .ok (.iconst 1, 1) := by decide +kernel
theorem dX9_works_7 : decode cX9_works 7 = .ok (.isub, 1) := by decide +kernel
theorem dX9_works_8 : decode cX9_works 8 = .ok (.invokestatic 116, 3) := by decide +kernel
theorem dX9_works_11 : decode cX9_works 11 = .ok (.ifCond .eq 11, 3) := by decide +kernel
theorem dX9_works_14 : decode cX9_works 14 = .ok (.aload_n 0, 1) := by decide +kernel
theorem dX9_works_15 : decode cX9_works 15 = .ok (.iload_n 1, 1) := by decide +kernel
theorem dX9_works_16 : decode cX9_works 16 = .ok (.invokevirtual 270, 3) := by decide +kernel
theorem dX9_works_19 : decode cX9_works 19 = .ok (.goto 5, 3) := by decide +kernel
theorem dX9_works_22 : decode cX9_works 22 = .ok (.bipush (-2), 2) := by decide +kernel
theorem dX9_works_24 : decode cX9_works 24 = .ok (.ireturn, 1) := by decide +kernel
theorem dX9_spill_0 : decode cX9_spill 0 = .ok (.aload_n 0, 1) := by decide +kernel
theorem dX9_spill_1 : decode cX9_spill 1 = .ok (.getfield 55, 3) := by decide +kernel
theorem dX9_spill_4 : decode cX9_spill 4 = .ok (.bipush 8, 2) := by decide +kernel
theorem dX9_spill_6 : decode cX9_spill 6 = .ok (.iload_n 2, 1) := by decide +kernel
theorem dX9_spill_7 : decode cX9_spill 7 = .ok (.imul, 1) := by decide +kernel
theorem dX9_spill_8 : decode cX9_spill 8 = .ok (.aload_n 0, 1) := by decide +kernel
theorem dX9_spill_9 : decode cX9_spill 9 = .ok (.getfield 28, 3) := by decide +kernel
theorem dX9_spill_12 : decode cX9_spill 12 = .ok (.iload_n 1, 1) := by decide +kernel
theorem dX9_spill_13 : decode cX9_spill 13 = .ok (.iaload, 1) := by decide +kernel
theorem dX9_spill_14 : decode cX9_spill 14 = .ok (.iadd, 1) := by decide +kernel
theorem dX9_spill_15 : decode cX9_spill 15 = .ok (.iaload, 1) := by decide +kernel
theorem dX9_spill_16 : decode cX9_spill 16 = .ok (.istore_n 3, 1) := by decide +kernel
theorem dX9_spill_17 : decode cX9_spill 17 = .ok (.iload_n 3, 1) := by decide +kernel
theorem dX9_spill_18 : decode cX9_spill 18 = .ok (.ifCond .le 13, 3) := by decide +kernel
theorem dX9_spill_21 : decode cX9_spill 21 = .ok (.aload_n 0, 1) := by decide +kernel
theorem dX9_spill_22 : decode cX9_spill 22 = .ok (.iload_n 2, 1) := by decide +kernel
theorem dX9_spill_23 : decode cX9_spill 23 = .ok (.invokevirtual 219, 3) := by decide +kernel
theorem dX9_spill_26 : decode cX9_spill 26 = .ok (.iload_n 3, 1) := by decide +kernel
theorem dX9_spill_27 : decode cX9_spill 27 = .ok (.isub, 1) := by decide +kernel
theorem dX9_spill_28 : decode cX9_spill 28 = .ok (.goto 6, 3) := by decide +kernel
theorem dX9_spill_31 : decode cX9_spill 31 = .ok (.ldc_w 273, 3) := by decide +kernel
theorem dX9_spill_34 : decode cX9_spill 34 = .ok (.ireturn, 1) := by decide +kernel
theorem dX9_laysSpills_0 : decode cX9_laysSpills 0 = .ok (.iconst 0, 1) := by decide +kernel
theorem dX9_laysSpills_1 : decode cX9_laysSpills 1 = .ok (.istore_n 1, 1) := by decide +kernel
theorem dX9_laysSpills_2 : decode cX9_laysSpills 2 = .ok (.iload_n 1, 1) := by decide +kernel
theorem dX9_laysSpills_3 : decode cX9_laysSpills 3 = .ok (.iconst 1, 1) := by decide +kernel
theorem dX9_laysSpills_4 : decode cX9_laysSpills 4 = .ok (.aload_n 0, 1) := by decide +kernel
theorem dX9_laysSpills_5 : decode cX9_laysSpills 5 = .ok (.getfield 128, 3) := by decide +kernel
theorem dX9_laysSpills_8 : decode cX9_laysSpills 8 = .ok (.ishl, 1) := by decide +kernel
theorem dX9_laysSpills_9 : decode cX9_laysSpills 9 = .ok (.if_icmp .ge 25, 3) := by decide +kernel
theorem dX9_laysSpills_12 : decode cX9_laysSpills 12 = .ok (.aload_n 0, 1) := by decide +kernel
theorem dX9_laysSpills_13 : decode cX9_laysSpills 13 = .ok (.getfield 80, 3) := by decide +kernel
theorem dX9_laysSpills_16 : decode cX9_laysSpills 16 = .ok (.sipush 256, 3) := by decide +kernel
theorem dX9_laysSpills_19 : decode cX9_laysSpills 19 = .ok (.aload_n 0, 1) := by decide +kernel
theorem dX9_laysSpills_20 : decode cX9_laysSpills 20 = .ok (.getfield 134, 3) := by decide +kernel
theorem dX9_laysSpills_23 : decode cX9_laysSpills 23 = .ok (.imul, 1) := by decide +kernel
theorem dX9_laysSpills_24 : decode cX9_laysSpills 24 = .ok (.iload_n 1, 1) := by decide +kernel
theorem dX9_laysSpills_25 : decode cX9_laysSpills 25 = .ok (.iadd, 1) := by decide +kernel
theorem dX9_laysSpills_26 : decode cX9_laysSpills 26 = .ok (.iconst 0, 1) := by decide +kernel
theorem dX9_laysSpills_27 : decode cX9_laysSpills 27 = .ok (.iastore, 1) := by decide +kernel
theorem dX9_laysSpills_28 : decode cX9_laysSpills 28 = .ok (.iinc 1 1, 3) := by decide +kernel
theorem dX9_laysSpills_31 : decode cX9_laysSpills 31 = .ok (.goto (-29), 3) := by decide +kernel
theorem dX9_laysSpills_34 : decode cX9_laysSpills 34 = .ok (.aload_n 0, 1) := by decide +kernel
theorem dX9_laysSpills_35 : decode cX9_laysSpills 35 = .ok (.getfield 134, 3) := by decide +kernel
theorem dX9_laysSpills_38 : decode cX9_laysSpills 38 = .ok (.iconst 1, 1) := by decide +kernel
theorem dX9_laysSpills_39 : decode cX9_laysSpills 39 = .ok (.isub, 1) := by decide +kernel
theorem dX9_laysSpills_40 : decode cX9_laysSpills 40 = .ok (.istore_n 1, 1) := by decide +kernel
theorem dX9_laysSpills_41 : decode cX9_laysSpills 41 = .ok (.iload_n 1, 1) := by decide +kernel
theorem dX9_laysSpills_42 : decode cX9_laysSpills 42 = .ok (.ifCond .lt 119, 3) := by decide +kernel
theorem dX9_laysSpills_45 : decode cX9_laysSpills 45 = .ok (.iconst 0, 1) := by decide +kernel
theorem dX9_laysSpills_46 : decode cX9_laysSpills 46 = .ok (.istore_n 2, 1) := by decide +kernel
theorem dX9_laysSpills_47 : decode cX9_laysSpills 47 = .ok (.iload_n 2, 1) := by decide +kernel
theorem dX9_laysSpills_48 : decode cX9_laysSpills 48 = .ok (.iconst 1, 1) := by decide +kernel
theorem dX9_laysSpills_49 : decode cX9_laysSpills 49 = .ok (.aload_n 0, 1) := by decide +kernel
theorem dX9_laysSpills_50 : decode cX9_laysSpills 50 = .ok (.getfield 128, 3) := by decide +kernel
theorem dX9_laysSpills_53 : decode cX9_laysSpills 53 = .ok (.ishl, 1) := by decide +kernel
theorem dX9_laysSpills_54 : decode cX9_laysSpills 54 = .ok (.if_icmp .ge 101, 3) := by decide +kernel
theorem dX9_laysSpills_57 : decode cX9_laysSpills 57 = .ok (.ldc_w 273, 3) := by decide +kernel
theorem dX9_laysSpills_60 : decode cX9_laysSpills 60 = .ok (.istore_n 3, 1) := by decide +kernel
theorem dX9_laysSpills_61 : decode cX9_laysSpills 61 = .ok (.iconst 0, 1) := by decide +kernel
theorem dX9_laysSpills_62 : decode cX9_laysSpills 62 = .ok (.istore 4, 2) := by decide +kernel
theorem dX9_laysSpills_64 : decode cX9_laysSpills 64 = .ok (.iload 4, 2) := by decide +kernel
theorem dX9_laysSpills_66 : decode cX9_laysSpills 66 = .ok (.aload_n 0, 1) := by decide +kernel
theorem dX9_laysSpills_67 : decode cX9_laysSpills 67 = .ok (.getfield 128, 3) := by decide +kernel
theorem dX9_laysSpills_70 : decode cX9_laysSpills 70 = .ok (.if_icmp .ge 66, 3) := by decide +kernel
theorem dX9_laysSpills_73 : decode cX9_laysSpills 73 = .ok (.iload_n 2, 1) := by decide +kernel
theorem dX9_laysSpills_74 : decode cX9_laysSpills 74 = .ok (.iload 4, 2) := by decide +kernel
theorem dX9_laysSpills_76 : decode cX9_laysSpills 76 = .ok (.invokestatic 274, 3) := by decide +kernel
theorem dX9_laysSpills_79 : decode cX9_laysSpills 79 = .ok (.ifCond .eq 9, 3) := by decide +kernel
theorem dX9_laysSpills_82 : decode cX9_laysSpills 82 = .ok (.ldc_w 273, 3) := by decide +kernel
theorem dX9_laysSpills_85 : decode cX9_laysSpills 85 = .ok (.goto 30, 3) := by decide +kernel
theorem dX9_laysSpills_88 : decode cX9_laysSpills 88 = .ok (.aload_n 0, 1) := by decide +kernel
theorem dX9_laysSpills_89 : decode cX9_laysSpills 89 = .ok (.iload_n 1, 1) := by decide +kernel
theorem dX9_laysSpills_90 : decode cX9_laysSpills 90 = .ok (.iload 4, 2) := by decide +kernel
theorem dX9_laysSpills_92 : decode cX9_laysSpills 92 = .ok (.invokevirtual 277, 3) := by decide +kernel
theorem dX9_laysSpills_95 : decode cX9_laysSpills 95 = .ok (.aload_n 0, 1) := by decide +kernel
theorem dX9_laysSpills_96 : decode cX9_laysSpills 96 = .ok (.getfield 80, 3) := by decide +kernel
theorem dX9_laysSpills_99 : decode cX9_laysSpills 99 = .ok (.sipush 256, 3) := by decide +kernel
theorem dX9_laysSpills_102 : decode cX9_laysSpills 102 = .ok (.iload_n 1, 1) := by decide +kernel
theorem dX9_laysSpills_103 : decode cX9_laysSpills 103 = .ok (.iconst 1, 1) := by decide +kernel
theorem dX9_laysSpills_104 : decode cX9_laysSpills 104 = .ok (.iadd, 1) := by decide +kernel
theorem dX9_laysSpills_105 : decode cX9_laysSpills 105 = .ok (.imul, 1) := by decide +kernel
theorem dX9_laysSpills_106 : decode cX9_laysSpills 106 = .ok (.iload_n 2, 1) := by decide +kernel
theorem dX9_laysSpills_107 : decode cX9_laysSpills 107 = .ok (.iconst 1, 1) := by decide +kernel
theorem dX9_laysSpills_108 : decode cX9_laysSpills 108 = .ok (.iload 4, 2) := by decide +kernel
theorem dX9_laysSpills_110 : decode cX9_laysSpills 110 = .ok (.ishl, 1) := by decide +kernel
theorem dX9_laysSpills_111 : decode cX9_laysSpills 111 = .ok (.ior, 1) := by decide +kernel
theorem dX9_laysSpills_112 : decode cX9_laysSpills 112 = .ok (.iadd, 1) := by decide +kernel
theorem dX9_laysSpills_113 : decode cX9_laysSpills 113 = .ok (.iaload, 1) := by decide +kernel
theorem dX9_laysSpills_114 : decode cX9_laysSpills 114 = .ok (.iadd, 1) := by decide +kernel
theorem dX9_laysSpills_115 : decode cX9_laysSpills 115 = .ok (.istore 5, 2) := by decide +kernel
theorem dX9_laysSpills_117 : decode cX9_laysSpills 117 = .ok (.iload 5, 2) := by decide +kernel
theorem dX9_laysSpills_119 : decode cX9_laysSpills 119 = .ok (.iload_n 3, 1) := by decide +kernel
theorem dX9_laysSpills_120 : decode cX9_laysSpills 120 = .ok (.if_icmp .ge 8, 3) := by decide +kernel
theorem dX9_laysSpills_123 : decode cX9_laysSpills 123 = .ok (.iload 5, 2) := by decide +kernel
theorem dX9_laysSpills_125 : decode cX9_laysSpills 125 = .ok (.goto 4, 3) := by decide +kernel
theorem dX9_laysSpills_128 : decode cX9_laysSpills 128 = .ok (.iload_n 3, 1) := by decide +kernel
theorem dX9_laysSpills_129 : decode cX9_laysSpills 129 = .ok (.istore_n 3, 1) := by decide +kernel
theorem dX9_laysSpills_130 : decode cX9_laysSpills 130 = .ok (.iinc 4 1, 3) := by decide +kernel
theorem dX9_laysSpills_133 : decode cX9_laysSpills 133 = .ok (.goto (-69), 3) := by decide +kernel
theorem dX9_laysSpills_136 : decode cX9_laysSpills 136 = .ok (.aload_n 0, 1) := by decide +kernel
theorem dX9_laysSpills_137 : decode cX9_laysSpills 137 = .ok (.getfield 80, 3) := by decide +kernel
theorem dX9_laysSpills_140 : decode cX9_laysSpills 140 = .ok (.sipush 256, 3) := by decide +kernel
theorem dX9_laysSpills_143 : decode cX9_laysSpills 143 = .ok (.iload_n 1, 1) := by decide +kernel
theorem dX9_laysSpills_144 : decode cX9_laysSpills 144 = .ok (.imul, 1) := by decide +kernel
theorem dX9_laysSpills_145 : decode cX9_laysSpills 145 = .ok (.iload_n 2, 1) := by decide +kernel
theorem dX9_laysSpills_146 : decode cX9_laysSpills 146 = .ok (.iadd, 1) := by decide +kernel
theorem dX9_laysSpills_147 : decode cX9_laysSpills 147 = .ok (.iload_n 3, 1) := by decide +kernel
theorem dX9_laysSpills_148 : decode cX9_laysSpills 148 = .ok (.iastore, 1) := by decide +kernel
theorem dX9_laysSpills_149 : decode cX9_laysSpills 149 = .ok (.iinc 2 1, 3) := by decide +kernel
theorem dX9_laysSpills_152 : decode cX9_laysSpills 152 = .ok (.goto (-105), 3) := by decide +kernel
theorem dX9_laysSpills_155 : decode cX9_laysSpills 155 = .ok (.iinc 1 (-1), 3) := by decide +kernel
theorem dX9_laysSpills_158 : decode cX9_laysSpills 158 = .ok (.goto (-117), 3) := by decide +kernel
theorem dX9_laysSpills_161 : decode cX9_laysSpills 161 = .ok (.aload_n 0, 1) := by decide +kernel
theorem dX9_laysSpills_162 : decode cX9_laysSpills 162 = .ok (.getfield 80, 3) := by decide +kernel
theorem dX9_laysSpills_165 : decode cX9_laysSpills 165 = .ok (.iconst 0, 1) := by decide +kernel
theorem dX9_laysSpills_166 : decode cX9_laysSpills 166 = .ok (.iaload, 1) := by decide +kernel
theorem dX9_laysSpills_167 : decode cX9_laysSpills 167 = .ok (.ldc_w 273, 3) := by decide +kernel
theorem dX9_laysSpills_170 : decode cX9_laysSpills 170 = .ok (.if_icmp .ge 12, 3) := by decide +kernel
theorem dX9_laysSpills_173 : decode cX9_laysSpills 173 = .ok (.aload_n 0, 1) := by decide +kernel
theorem dX9_laysSpills_174 : decode cX9_laysSpills 174 = .ok (.getfield 80, 3) := by decide +kernel
theorem dX9_laysSpills_177 : decode cX9_laysSpills 177 = .ok (.iconst 0, 1) := by decide +kernel
theorem dX9_laysSpills_178 : decode cX9_laysSpills 178 = .ok (.iaload, 1) := by decide +kernel
theorem dX9_laysSpills_179 : decode cX9_laysSpills 179 = .ok (.goto 4, 3) := by decide +kernel
theorem dX9_laysSpills_182 : decode cX9_laysSpills 182 = .ok (.iconst (-1), 1) := by decide +kernel
theorem dX9_laysSpills_183 : decode cX9_laysSpills 183 = .ok (.ireturn, 1) := by decide +kernel
theorem dX9_singOf_0 : decode cX9_singOf 0 = .ok (.aload_n 0, 1) := by decide +kernel
theorem dX9_singOf_1 : decode cX9_singOf 1 = .ok (.iload_n 1, 1) := by decide +kernel
theorem dX9_singOf_2 : decode cX9_singOf 2 = .ok (.invokevirtual 242, 3) := by decide +kernel
theorem dX9_singOf_5 : decode cX9_singOf 5 = .ok (.aload_n 0, 1) := by decide +kernel
theorem dX9_singOf_6 : decode cX9_singOf 6 = .ok (.invokevirtual 280, 3) := by decide +kernel
theorem dX9_singOf_9 : decode cX9_singOf 9 = .ok (.istore_n 3, 1) := by decide +kernel
theorem dX9_singOf_10 : decode cX9_singOf 10 = .ok (.iload_n 2, 1) := by decide +kernel
theorem dX9_singOf_11 : decode cX9_singOf 11 = .ok (.iconst (-1), 1) := by decide +kernel
theorem dX9_singOf_12 : decode cX9_singOf 12 = .ok (.if_icmp .eq 8, 3) := by decide +kernel
theorem dX9_singOf_15 : decode cX9_singOf 15 = .ok (.iload_n 3, 1) := by decide +kernel
theorem dX9_singOf_16 : decode cX9_singOf 16 = .ok (.iconst (-1), 1) := by decide +kernel
theorem dX9_singOf_17 : decode cX9_singOf 17 = .ok (.if_icmp .ne 5, 3) := by decide +kernel
theorem dX9_singOf_20 : decode cX9_singOf 20 = .ok (.iload_n 3, 1) := by decide +kernel
theorem dX9_singOf_21 : decode cX9_singOf 21 = .ok (.ireturn, 1) := by decide +kernel
theorem dX9_singOf_22 : decode cX9_singOf 22 = .ok (.iconst 0, 1) := by decide +kernel
theorem dX9_singOf_23 : decode cX9_singOf 23 = .ok (.istore 4, 2) := by decide +kernel
theorem dX9_singOf_25 : decode cX9_singOf 25 = .ok (.iconst (-1), 1) := by decide +kernel
theorem dX9_singOf_26 : decode cX9_singOf 26 = .ok (.istore 5, 2) := by decide +kernel
theorem dX9_singOf_28 : decode cX9_singOf 28 = .ok (.iconst 0, 1) := by decide +kernel
theorem dX9_singOf_29 : decode cX9_singOf 29 = .ok (.istore 6, 2) := by decide +kernel
theorem dX9_singOf_31 : decode cX9_singOf 31 = .ok (.iload 6, 2) := by decide +kernel
theorem dX9_singOf_33 : decode cX9_singOf 33 = .ok (.iload_n 2, 1) := by decide +kernel
theorem dX9_singOf_34 : decode cX9_singOf 34 = .ok (.if_icmp .gt 141, 3) := by decide +kernel
theorem dX9_singOf_37 : decode cX9_singOf 37 = .ok (.iload 6, 2) := by decide +kernel
theorem dX9_singOf_39 : decode cX9_singOf 39 = .ok (.aload_n 0, 1) := by decide +kernel
theorem dX9_singOf_40 : decode cX9_singOf 40 = .ok (.getfield 134, 3) := by decide +kernel
theorem dX9_singOf_43 : decode cX9_singOf 43 = .ok (.if_icmp .ge 132, 3) := by decide +kernel
theorem dX9_singOf_46 : decode cX9_singOf 46 = .ok (.iconst (-1), 1) := by decide +kernel
theorem dX9_singOf_47 : decode cX9_singOf 47 = .ok (.istore 5, 2) := by decide +kernel
theorem dX9_singOf_49 : decode cX9_singOf 49 = .ok (.aload_n 0, 1) := by decide +kernel
theorem dX9_singOf_50 : decode cX9_singOf 50 = .ok (.getfield 128, 3) := by decide +kernel
theorem dX9_singOf_53 : decode cX9_singOf 53 = .ok (.iconst 1, 1) := by decide +kernel
theorem dX9_singOf_54 : decode cX9_singOf 54 = .ok (.isub, 1) := by decide +kernel
theorem dX9_singOf_55 : decode cX9_singOf 55 = .ok (.istore 7, 2) := by decide +kernel
theorem dX9_singOf_57 : decode cX9_singOf 57 = .ok (.iload 7, 2) := by decide +kernel
theorem dX9_singOf_59 : decode cX9_singOf 59 = .ok (.ifCond .lt 101, 3) := by decide +kernel
theorem dX9_singOf_62 : decode cX9_singOf 62 = .ok (.iload 4, 2) := by decide +kernel
theorem dX9_singOf_64 : decode cX9_singOf 64 = .ok (.iload 7, 2) := by decide +kernel
theorem dX9_singOf_66 : decode cX9_singOf 66 = .ok (.invokestatic 274, 3) := by decide +kernel
theorem dX9_singOf_69 : decode cX9_singOf 69 = .ok (.ifCond .ne 68, 3) := by decide +kernel
theorem dX9_singOf_72 : decode cX9_singOf 72 = .ok (.aload_n 0, 1) := by decide +kernel
theorem dX9_singOf_73 : decode cX9_singOf 73 = .ok (.iload 6, 2) := by decide +kernel
theorem dX9_singOf_75 : decode cX9_singOf 75 = .ok (.iload 7, 2) := by decide +kernel
theorem dX9_singOf_77 : decode cX9_singOf 77 = .ok (.invokevirtual 277, 3) := by decide +kernel
theorem dX9_singOf_80 : decode cX9_singOf 80 = .ok (.ldc_w 273, 3) := by decide +kernel
theorem dX9_singOf_83 : decode cX9_singOf 83 = .ok (.if_icmp .ge 54, 3) := by decide +kernel
theorem dX9_singOf_86 : decode cX9_singOf 86 = .ok (.aload_n 0, 1) := by decide +kernel
theorem dX9_singOf_87 : decode cX9_singOf 87 = .ok (.iload 6, 2) := by decide +kernel
theorem dX9_singOf_89 : decode cX9_singOf 89 = .ok (.iload 7, 2) := by decide +kernel
theorem dX9_singOf_91 : decode cX9_singOf 91 = .ok (.invokevirtual 277, 3) := by decide +kernel
theorem dX9_singOf_94 : decode cX9_singOf 94 = .ok (.aload_n 0, 1) := by decide +kernel
theorem dX9_singOf_95 : decode cX9_singOf 95 = .ok (.getfield 80, 3) := by decide +kernel
theorem dX9_singOf_98 : decode cX9_singOf 98 = .ok (.sipush 256, 3) := by decide +kernel
theorem dX9_singOf_101 : decode cX9_singOf 101 = .ok (.iload 6, 2) := by decide +kernel
theorem dX9_singOf_103 : decode cX9_singOf 103 = .ok (.iconst 1, 1) := by decide +kernel
theorem dX9_singOf_104 : decode cX9_singOf 104 = .ok (.iadd, 1) := by decide +kernel
theorem dX9_singOf_105 : decode cX9_singOf 105 = .ok (.imul, 1) := by decide +kernel
theorem dX9_singOf_106 : decode cX9_singOf 106 = .ok (.iload 4, 2) := by decide +kernel
theorem dX9_singOf_108 : decode cX9_singOf 108 = .ok (.iconst 1, 1) := by decide +kernel
theorem dX9_singOf_109 : decode cX9_singOf 109 = .ok (.iload 7, 2) := by decide +kernel
theorem dX9_singOf_111 : decode cX9_singOf 111 = .ok (.ishl, 1) := by decide +kernel
theorem dX9_singOf_112 : decode cX9_singOf 112 = .ok (.ior, 1) := by decide +kernel
theorem dX9_singOf_113 : decode cX9_singOf 113 = .ok (.iadd, 1) := by decide +kernel
theorem dX9_singOf_114 : decode cX9_singOf 114 = .ok (.iaload, 1) := by decide +kernel
theorem dX9_singOf_115 : decode cX9_singOf 115 = .ok (.iadd, 1) := by decide +kernel
theorem dX9_singOf_116 : decode cX9_singOf 116 = .ok (.aload_n 0, 1) := by decide +kernel
theorem dX9_singOf_117 : decode cX9_singOf 117 = .ok (.getfield 80, 3) := by decide +kernel
theorem dX9_singOf_120 : decode cX9_singOf 120 = .ok (.sipush 256, 3) := by decide +kernel
theorem dX9_singOf_123 : decode cX9_singOf 123 = .ok (.iload 6, 2) := by decide +kernel
theorem dX9_singOf_125 : decode cX9_singOf 125 = .ok (.imul, 1) := by decide +kernel
theorem dX9_singOf_126 : decode cX9_singOf 126 = .ok (.iload 4, 2) := by decide +kernel
theorem dX9_singOf_128 : decode cX9_singOf 128 = .ok (.iadd, 1) := by decide +kernel
theorem dX9_singOf_129 : decode cX9_singOf 129 = .ok (.iaload, 1) := by decide +kernel
theorem dX9_singOf_130 : decode cX9_singOf 130 = .ok (.if_icmp .ne 7, 3) := by decide +kernel
theorem dX9_singOf_133 : decode cX9_singOf 133 = .ok (.iconst 1, 1) := by decide +kernel
theorem dX9_singOf_134 : decode cX9_singOf 134 = .ok (.goto 4, 3) := by decide +kernel
theorem dX9_singOf_137 : decode cX9_singOf 137 = .ok (.iconst 0, 1) := by decide +kernel
theorem dX9_singOf_138 : decode cX9_singOf 138 = .ok (.istore 8, 2) := by decide +kernel
theorem dX9_singOf_140 : decode cX9_singOf 140 = .ok (.iload 8, 2) := by decide +kernel
theorem dX9_singOf_142 : decode cX9_singOf 142 = .ok (.ifCond .eq 8, 3) := by decide +kernel
theorem dX9_singOf_145 : decode cX9_singOf 145 = .ok (.iload 7, 2) := by decide +kernel
theorem dX9_singOf_147 : decode cX9_singOf 147 = .ok (.goto 5, 3) := by decide +kernel
theorem dX9_singOf_150 : decode cX9_singOf 150 = .ok (.iload 5, 2) := by decide +kernel
theorem dX9_singOf_152 : decode cX9_singOf 152 = .ok (.istore 5, 2) := by decide +kernel
theorem dX9_singOf_154 : decode cX9_singOf 154 = .ok (.iinc 7 (-1), 3) := by decide +kernel
theorem dX9_singOf_157 : decode cX9_singOf 157 = .ok (.goto (-100), 3) := by decide +kernel
theorem dX9_singOf_160 : decode cX9_singOf 160 = .ok (.iload 4, 2) := by decide +kernel
theorem dX9_singOf_162 : decode cX9_singOf 162 = .ok (.iconst 1, 1) := by decide +kernel
theorem dX9_singOf_163 : decode cX9_singOf 163 = .ok (.iload 5, 2) := by decide +kernel
theorem dX9_singOf_165 : decode cX9_singOf 165 = .ok (.ishl, 1) := by decide +kernel
theorem dX9_singOf_166 : decode cX9_singOf 166 = .ok (.ior, 1) := by decide +kernel
theorem dX9_singOf_167 : decode cX9_singOf 167 = .ok (.istore 4, 2) := by decide +kernel
theorem dX9_singOf_169 : decode cX9_singOf 169 = .ok (.iinc 6 1, 3) := by decide +kernel
theorem dX9_singOf_172 : decode cX9_singOf 172 = .ok (.goto (-141), 3) := by decide +kernel
theorem dX9_singOf_175 : decode cX9_singOf 175 = .ok (.iload_n 2, 1) := by decide +kernel
theorem dX9_singOf_176 : decode cX9_singOf 176 = .ok (.aload_n 0, 1) := by decide +kernel
theorem dX9_singOf_177 : decode cX9_singOf 177 = .ok (.getfield 134, 3) := by decide +kernel
theorem dX9_singOf_180 : decode cX9_singOf 180 = .ok (.if_icmp .ge 8, 3) := by decide +kernel
theorem dX9_singOf_183 : decode cX9_singOf 183 = .ok (.iload 5, 2) := by decide +kernel
theorem dX9_singOf_185 : decode cX9_singOf 185 = .ok (.goto 4, 3) := by decide +kernel
theorem dX9_singOf_188 : decode cX9_singOf 188 = .ok (.iconst (-1), 1) := by decide +kernel
theorem dX9_singOf_189 : decode cX9_singOf 189 = .ok (.ireturn, 1) := by decide +kernel
theorem dX9_sing_0 : decode cX9_sing 0 = .ok (.iload_n 1, 1) := by decide +kernel
theorem dX9_sing_1 : decode cX9_sing 1 = .ok (.invokestatic 163, 3) := by decide +kernel
theorem dX9_sing_4 : decode cX9_sing 4 = .ok (.ifCond .eq 22, 3) := by decide +kernel
theorem dX9_sing_7 : decode cX9_sing 7 = .ok (.iload_n 2, 1) := by decide +kernel
theorem dX9_sing_8 : decode cX9_sing 8 = .ok (.iconst (-1), 1) := by decide +kernel
theorem dX9_sing_9 : decode cX9_sing 9 = .ok (.bipush 7, 2) := by decide +kernel
theorem dX9_sing_11 : decode cX9_sing 11 = .ok (.invokestatic 116, 3) := by decide +kernel
theorem dX9_sing_14 : decode cX9_sing 14 = .ok (.ifCond .eq 12, 3) := by decide +kernel
theorem dX9_sing_17 : decode cX9_sing 17 = .ok (.aload_n 0, 1) := by decide +kernel
theorem dX9_sing_18 : decode cX9_sing 18 = .ok (.iload_n 1, 1) := by decide +kernel
theorem dX9_sing_19 : decode cX9_sing 19 = .ok (.iload_n 2, 1) := by decide +kernel
theorem dX9_sing_20 : decode cX9_sing 20 = .ok (.invokevirtual 283, 3) := by decide +kernel
theorem dX9_sing_23 : decode cX9_sing 23 = .ok (.goto 5, 3) := by decide +kernel
theorem dX9_sing_26 : decode cX9_sing 26 = .ok (.bipush (-2), 2) := by decide +kernel
theorem dX9_sing_28 : decode cX9_sing 28 = .ok (.ireturn, 1) := by decide +kernel
theorem dX9_sings_0 : decode cX9_sings 0 = .ok (.aload_n 0, 1) := by decide +kernel
theorem dX9_sings_1 : decode cX9_sings 1 = .ok (.iload_n 2, 1) := by decide +kernel
theorem dX9_sings_2 : decode cX9_sings 2 = .ok (.putfield 191, 3) := by decide +kernel
theorem dX9_sings_5 : decode cX9_sings 5 = .ok (.aload_n 0, 1) := by decide +kernel
theorem dX9_sings_6 : decode cX9_sings 6 = .ok (.getfield 46, 3) := by decide +kernel
theorem dX9_sings_9 : decode cX9_sings 9 = .ok (.iconst 0, 1) := by decide +kernel
theorem dX9_sings_10 : decode cX9_sings 10 = .ok (.iload_n 3, 1) := by decide +kernel
theorem dX9_sings_11 : decode cX9_sings 11 = .ok (.iastore, 1) := by decide +kernel
theorem dX9_sings_12 : decode cX9_sings 12 = .ok (.aload_n 0, 1) := by decide +kernel
theorem dX9_sings_13 : decode cX9_sings 13 = .ok (.getfield 46, 3) := by decide +kernel
theorem dX9_sings_16 : decode cX9_sings 16 = .ok (.iconst 1, 1) := by decide +kernel
theorem dX9_sings_17 : decode cX9_sings 17 = .ok (.iload 4, 2) := by decide +kernel
theorem dX9_sings_19 : decode cX9_sings 19 = .ok (.iastore, 1) := by decide +kernel
theorem dX9_sings_20 : decode cX9_sings 20 = .ok (.aload_n 0, 1) := by decide +kernel
theorem dX9_sings_21 : decode cX9_sings 21 = .ok (.getfield 46, 3) := by decide +kernel
theorem dX9_sings_24 : decode cX9_sings 24 = .ok (.iconst 2, 1) := by decide +kernel
theorem dX9_sings_25 : decode cX9_sings 25 = .ok (.iload 5, 2) := by decide +kernel
theorem dX9_sings_27 : decode cX9_sings 27 = .ok (.iastore, 1) := by decide +kernel
theorem dX9_sings_28 : decode cX9_sings 28 = .ok (.aload_n 0, 1) := by decide +kernel
theorem dX9_sings_29 : decode cX9_sings 29 = .ok (.iload_n 1, 1) := by decide +kernel
theorem dX9_sings_30 : decode cX9_sings 30 = .ok (.invokevirtual 239, 3) := by decide +kernel
theorem dX9_sings_33 : decode cX9_sings 33 = .ok (.aload_n 0, 1) := by decide +kernel
theorem dX9_sings_34 : decode cX9_sings 34 = .ok (.invokevirtual 280, 3) := by decide +kernel
theorem dX9_sings_37 : decode cX9_sings 37 = .ok (.iconst (-1), 1) := by decide +kernel
theorem dX9_sings_38 : decode cX9_sings 38 = .ok (.if_icmp .eq 7, 3) := by decide +kernel
theorem dX9_sings_41 : decode cX9_sings 41 = .ok (.iconst 1, 1) := by decide +kernel
theorem dX9_sings_42 : decode cX9_sings 42 = .ok (.goto 4, 3) := by decide +kernel
theorem dX9_sings_45 : decode cX9_sings 45 = .ok (.iconst 0, 1) := by decide +kernel
theorem dX9_sings_46 : decode cX9_sings 46 = .ok (.ireturn, 1) := by decide +kernel
theorem dX9_corksBy_0 : decode cX9_corksBy 0 = .ok (.aload_n 0, 1) := by decide +kernel
theorem dX9_corksBy_1 : decode cX9_corksBy 1 = .ok (.invokevirtual 236, 3) := by decide +kernel
theorem dX9_corksBy_4 : decode cX9_corksBy 4 = .ok (.aload_n 0, 1) := by decide +kernel
theorem dX9_corksBy_5 : decode cX9_corksBy 5 = .ok (.iload_n 1, 1) := by decide +kernel
theorem dX9_corksBy_6 : decode cX9_corksBy 6 = .ok (.iconst 0, 1) := by decide +kernel
theorem dX9_corksBy_7 : decode cX9_corksBy 7 = .ok (.iconst (-1), 1) := by decide +kernel
theorem dX9_corksBy_8 : decode cX9_corksBy 8 = .ok (.iconst (-1), 1) := by decide +kernel
theorem dX9_corksBy_9 : decode cX9_corksBy 9 = .ok (.iconst (-1), 1) := by decide +kernel
theorem dX9_corksBy_10 : decode cX9_corksBy 10 = .ok (.invokevirtual 286, 3) := by decide +kernel
theorem dX9_corksBy_13 : decode cX9_corksBy 13 = .ok (.ifCond .eq 5, 3) := by decide +kernel
theorem dX9_corksBy_16 : decode cX9_corksBy 16 = .ok (.iconst 0, 1) := by decide +kernel
theorem dX9_corksBy_17 : decode cX9_corksBy 17 = .ok (.ireturn, 1) := by decide +kernel
theorem dX9_corksBy_18 : decode cX9_corksBy 18 = .ok (.iconst 0, 1) := by decide +kernel
theorem dX9_corksBy_19 : decode cX9_corksBy 19 = .ok (.istore_n 2, 1) := by decide +kernel
theorem dX9_corksBy_20 : decode cX9_corksBy 20 = .ok (.iload_n 2, 1) := by decide +kernel
theorem dX9_corksBy_21 : decode cX9_corksBy 21 = .ok (.aload_n 0, 1) := by decide +kernel
theorem dX9_corksBy_22 : decode cX9_corksBy 22 = .ok (.getfield 128, 3) := by decide +kernel
theorem dX9_corksBy_25 : decode cX9_corksBy 25 = .ok (.if_icmp .ge 23, 3) := by decide +kernel
theorem dX9_corksBy_28 : decode cX9_corksBy 28 = .ok (.aload_n 0, 1) := by decide +kernel
theorem dX9_corksBy_29 : decode cX9_corksBy 29 = .ok (.iload_n 1, 1) := by decide +kernel
theorem dX9_corksBy_30 : decode cX9_corksBy 30 = .ok (.iconst 1, 1) := by decide +kernel
theorem dX9_corksBy_31 : decode cX9_corksBy 31 = .ok (.iload_n 2, 1) := by decide +kernel
theorem dX9_corksBy_32 : decode cX9_corksBy 32 = .ok (.iconst (-1), 1) := by decide +kernel
theorem dX9_corksBy_33 : decode cX9_corksBy 33 = .ok (.iconst (-1), 1) := by decide +kernel
theorem dX9_corksBy_34 : decode cX9_corksBy 34 = .ok (.invokevirtual 286, 3) := by decide +kernel
theorem dX9_corksBy_37 : decode cX9_corksBy 37 = .ok (.ifCond .eq 5, 3) := by decide +kernel
theorem dX9_corksBy_40 : decode cX9_corksBy 40 = .ok (.iconst 1, 1) := by decide +kernel
theorem dX9_corksBy_41 : decode cX9_corksBy 41 = .ok (.ireturn, 1) := by decide +kernel
theorem dX9_corksBy_42 : decode cX9_corksBy 42 = .ok (.iinc 2 1, 3) := by decide +kernel
theorem dX9_corksBy_45 : decode cX9_corksBy 45 = .ok (.goto (-25), 3) := by decide +kernel
theorem dX9_corksBy_48 : decode cX9_corksBy 48 = .ok (.iconst 0, 1) := by decide +kernel
theorem dX9_corksBy_49 : decode cX9_corksBy 49 = .ok (.istore_n 2, 1) := by decide +kernel
theorem dX9_corksBy_50 : decode cX9_corksBy 50 = .ok (.iload_n 2, 1) := by decide +kernel
theorem dX9_corksBy_51 : decode cX9_corksBy 51 = .ok (.aload_n 0, 1) := by decide +kernel
theorem dX9_corksBy_52 : decode cX9_corksBy 52 = .ok (.getfield 128, 3) := by decide +kernel
theorem dX9_corksBy_55 : decode cX9_corksBy 55 = .ok (.if_icmp .ge 41, 3) := by decide +kernel
theorem dX9_corksBy_58 : decode cX9_corksBy 58 = .ok (.iload_n 2, 1) := by decide +kernel
theorem dX9_corksBy_59 : decode cX9_corksBy 59 = .ok (.iconst 1, 1) := by decide +kernel
theorem dX9_corksBy_60 : decode cX9_corksBy 60 = .ok (.iadd, 1) := by decide +kernel
theorem dX9_corksBy_61 : decode cX9_corksBy 61 = .ok (.istore_n 3, 1) := by decide +kernel
theorem dX9_corksBy_62 : decode cX9_corksBy 62 = .ok (.iload_n 3, 1) := by decide +kernel
theorem dX9_corksBy_63 : decode cX9_corksBy 63 = .ok (.aload_n 0, 1) := by decide +kernel
theorem dX9_corksBy_64 : decode cX9_corksBy 64 = .ok (.getfield 128, 3) := by decide +kernel
theorem dX9_corksBy_67 : decode cX9_corksBy 67 = .ok (.if_icmp .ge 23, 3) := by decide +kernel
theorem dX9_corksBy_70 : decode cX9_corksBy 70 = .ok (.aload_n 0, 1) := by decide +kernel
theorem dX9_corksBy_71 : decode cX9_corksBy 71 = .ok (.iload_n 1, 1) := by decide +kernel
theorem dX9_corksBy_72 : decode cX9_corksBy 72 = .ok (.iconst 2, 1) := by decide +kernel
theorem dX9_corksBy_73 : decode cX9_corksBy 73 = .ok (.iload_n 2, 1) := by decide +kernel
theorem dX9_corksBy_74 : decode cX9_corksBy 74 = .ok (.iload_n 3, 1) := by decide +kernel
theorem dX9_corksBy_75 : decode cX9_corksBy 75 = .ok (.iconst (-1), 1) := by decide +kernel
theorem dX9_corksBy_76 : decode cX9_corksBy 76 = .ok (.invokevirtual 286, 3) := by decide +kernel
theorem dX9_corksBy_79 : decode cX9_corksBy 79 = .ok (.ifCond .eq 5, 3) := by decide +kernel
theorem dX9_corksBy_82 : decode cX9_corksBy 82 = .ok (.iconst 2, 1) := by decide +kernel
theorem dX9_corksBy_83 : decode cX9_corksBy 83 = .ok (.ireturn, 1) := by decide +kernel
theorem dX9_corksBy_84 : decode cX9_corksBy 84 = .ok (.iinc 3 1, 3) := by decide +kernel
theorem dX9_corksBy_87 : decode cX9_corksBy 87 = .ok (.goto (-25), 3) := by decide +kernel
theorem dX9_corksBy_90 : decode cX9_corksBy 90 = .ok (.iinc 2 1, 3) := by decide +kernel
theorem dX9_corksBy_93 : decode cX9_corksBy 93 = .ok (.goto (-43), 3) := by decide +kernel
theorem dX9_corksBy_96 : decode cX9_corksBy 96 = .ok (.iconst 0, 1) := by decide +kernel
theorem dX9_corksBy_97 : decode cX9_corksBy 97 = .ok (.istore_n 2, 1) := by decide +kernel
theorem dX9_corksBy_98 : decode cX9_corksBy 98 = .ok (.iload_n 2, 1) := by decide +kernel
theorem dX9_corksBy_99 : decode cX9_corksBy 99 = .ok (.aload_n 0, 1) := by decide +kernel
theorem dX9_corksBy_100 : decode cX9_corksBy 100 = .ok (.getfield 128, 3) := by decide +kernel
theorem dX9_corksBy_103 : decode cX9_corksBy 103 = .ok (.if_icmp .ge 62, 3) := by decide +kernel
theorem dX9_corksBy_106 : decode cX9_corksBy 106 = .ok (.iload_n 2, 1) := by decide +kernel
theorem dX9_corksBy_107 : decode cX9_corksBy 107 = .ok (.iconst 1, 1) := by decide +kernel
theorem dX9_corksBy_108 : decode cX9_corksBy 108 = .ok (.iadd, 1) := by decide +kernel
theorem dX9_corksBy_109 : decode cX9_corksBy 109 = .ok (.istore_n 3, 1) := by decide +kernel
theorem dX9_corksBy_110 : decode cX9_corksBy 110 = .ok (.iload_n 3, 1) := by decide +kernel
theorem dX9_corksBy_111 : decode cX9_corksBy 111 = .ok (.aload_n 0, 1) := by decide +kernel
theorem dX9_corksBy_112 : decode cX9_corksBy 112 = .ok (.getfield 128, 3) := by decide +kernel
theorem dX9_corksBy_115 : decode cX9_corksBy 115 = .ok (.if_icmp .ge 44, 3) := by decide +kernel
theorem dX9_corksBy_118 : decode cX9_corksBy 118 = .ok (.iload_n 3, 1) := by decide +kernel
theorem dX9_corksBy_119 : decode cX9_corksBy 119 = .ok (.iconst 1, 1) := by decide +kernel
theorem dX9_corksBy_120 : decode cX9_corksBy 120 = .ok (.iadd, 1) := by decide +kernel
theorem dX9_corksBy_121 : decode cX9_corksBy 121 = .ok (.istore 4, 2) := by decide +kernel
theorem dX9_corksBy_123 : decode cX9_corksBy 123 = .ok (.iload 4, 2) := by decide +kernel
theorem dX9_corksBy_125 : decode cX9_corksBy 125 = .ok (.aload_n 0, 1) := by decide +kernel
theorem dX9_corksBy_126 : decode cX9_corksBy 126 = .ok (.getfield 128, 3) := by decide +kernel
theorem dX9_corksBy_129 : decode cX9_corksBy 129 = .ok (.if_icmp .ge 24, 3) := by decide +kernel
theorem dX9_corksBy_132 : decode cX9_corksBy 132 = .ok (.aload_n 0, 1) := by decide +kernel
theorem dX9_corksBy_133 : decode cX9_corksBy 133 = .ok (.iload_n 1, 1) := by decide +kernel
theorem dX9_corksBy_134 : decode cX9_corksBy 134 = .ok (.iconst 3, 1) := by decide +kernel
theorem dX9_corksBy_135 : decode cX9_corksBy 135 = .ok (.iload_n 2, 1) := by decide +kernel
theorem dX9_corksBy_136 : decode cX9_corksBy 136 = .ok (.iload_n 3, 1) := by decide +kernel
theorem dX9_corksBy_137 : decode cX9_corksBy 137 = .ok (.iload 4, 2) := by decide +kernel
theorem dX9_corksBy_139 : decode cX9_corksBy 139 = .ok (.invokevirtual 286, 3) := by decide +kernel
theorem dX9_corksBy_142 : decode cX9_corksBy 142 = .ok (.ifCond .eq 5, 3) := by decide +kernel
theorem dX9_corksBy_145 : decode cX9_corksBy 145 = .ok (.iconst 3, 1) := by decide +kernel
theorem dX9_corksBy_146 : decode cX9_corksBy 146 = .ok (.ireturn, 1) := by decide +kernel
theorem dX9_corksBy_147 : decode cX9_corksBy 147 = .ok (.iinc 4 1, 3) := by decide +kernel
theorem dX9_corksBy_150 : decode cX9_corksBy 150 = .ok (.goto (-27), 3) := by decide +kernel
theorem dX9_corksBy_153 : decode cX9_corksBy 153 = .ok (.iinc 3 1, 3) := by decide +kernel
theorem dX9_corksBy_156 : decode cX9_corksBy 156 = .ok (.goto (-46), 3) := by decide +kernel
theorem dX9_corksBy_159 : decode cX9_corksBy 159 = .ok (.iinc 2 1, 3) := by decide +kernel
theorem dX9_corksBy_162 : decode cX9_corksBy 162 = .ok (.goto (-64), 3) := by decide +kernel
theorem dX9_corksBy_165 : decode cX9_corksBy 165 = .ok (.iconst (-1), 1) := by decide +kernel
theorem dX9_corksBy_166 : decode cX9_corksBy 166 = .ok (.ireturn, 1) := by decide +kernel
theorem dX9_ofCorks_0 : decode cX9_ofCorks 0 = .ok (.iload_n 2, 1) := by decide +kernel
theorem dX9_ofCorks_1 : decode cX9_ofCorks 1 = .ok (.iconst (-1), 1) := by decide +kernel
theorem dX9_ofCorks_2 : decode cX9_ofCorks 2 = .ok (.if_icmp .ne 7, 3) := by decide +kernel
theorem dX9_ofCorks_5 : decode cX9_ofCorks 5 = .ok (.iload_n 1, 1) := by decide +kernel
theorem dX9_ofCorks_6 : decode cX9_ofCorks 6 = .ok (.goto 18, 3) := by decide +kernel
theorem dX9_ofCorks_9 : decode cX9_ofCorks 9 = .ok (.iload_n 2, 1) := by decide +kernel
theorem dX9_ofCorks_10 : decode cX9_ofCorks 10 = .ok (.iload_n 1, 1) := by decide +kernel
theorem dX9_ofCorks_11 : decode cX9_ofCorks 11 = .ok (.if_icmp .ge 12, 3) := by decide +kernel
theorem dX9_ofCorks_14 : decode cX9_ofCorks 14 = .ok (.aload_n 0, 1) := by decide +kernel
theorem dX9_ofCorks_15 : decode cX9_ofCorks 15 = .ok (.getfield 46, 3) := by decide +kernel
theorem dX9_ofCorks_18 : decode cX9_ofCorks 18 = .ok (.iload_n 2, 1) := by decide +kernel
theorem dX9_ofCorks_19 : decode cX9_ofCorks 19 = .ok (.iaload, 1) := by decide +kernel
theorem dX9_ofCorks_20 : decode cX9_ofCorks 20 = .ok (.goto 4, 3) := by decide +kernel
theorem dX9_ofCorks_23 : decode cX9_ofCorks 23 = .ok (.iconst (-1), 1) := by decide +kernel
theorem dX9_ofCorks_24 : decode cX9_ofCorks 24 = .ok (.ireturn, 1) := by decide +kernel
theorem dX9_corks_0 : decode cX9_corks 0 = .ok (.iload_n 1, 1) := by decide +kernel
theorem dX9_corks_1 : decode cX9_corks 1 = .ok (.invokestatic 163, 3) := by decide +kernel
theorem dX9_corks_4 : decode cX9_corks 4 = .ok (.ifCond .eq 25, 3) := by decide +kernel
theorem dX9_corks_7 : decode cX9_corks 7 = .ok (.iload_n 2, 1) := by decide +kernel
theorem dX9_corks_8 : decode cX9_corks 8 = .ok (.iconst (-1), 1) := by decide +kernel
theorem dX9_corks_9 : decode cX9_corks 9 = .ok (.iconst 2, 1) := by decide +kernel
theorem dX9_corks_10 : decode cX9_corks 10 = .ok (.invokestatic 116, 3) := by decide +kernel
theorem dX9_corks_13 : decode cX9_corks 13 = .ok (.ifCond .eq 16, 3) := by decide +kernel
theorem dX9_corks_16 : decode cX9_corks 16 = .ok (.aload_n 0, 1) := by decide +kernel
theorem dX9_corks_17 : decode cX9_corks 17 = .ok (.aload_n 0, 1) := by decide +kernel
theorem dX9_corks_18 : decode cX9_corks 18 = .ok (.iload_n 1, 1) := by decide +kernel
theorem dX9_corks_19 : decode cX9_corks 19 = .ok (.invokevirtual 290, 3) := by decide +kernel
theorem dX9_corks_22 : decode cX9_corks 22 = .ok (.iload_n 2, 1) := by decide +kernel
theorem dX9_corks_23 : decode cX9_corks 23 = .ok (.invokevirtual 293, 3) := by decide +kernel
theorem dX9_corks_26 : decode cX9_corks 26 = .ok (.goto 5, 3) := by decide +kernel
theorem dX9_corks_29 : decode cX9_corks 29 = .ok (.bipush (-2), 2) := by decide +kernel
theorem dX9_corks_31 : decode cX9_corks 31 = .ok (.ireturn, 1) := by decide +kernel
theorem dX9_mostOf_0 : decode cX9_mostOf 0 = .ok (.aload_n 0, 1) := by decide +kernel
theorem dX9_mostOf_1 : decode cX9_mostOf 1 = .ok (.iload_n 1, 1) := by decide +kernel
theorem dX9_mostOf_2 : decode cX9_mostOf 2 = .ok (.invokevirtual 242, 3) := by decide +kernel
theorem dX9_mostOf_5 : decode cX9_mostOf 5 = .ok (.iconst (-1), 1) := by decide +kernel
theorem dX9_mostOf_6 : decode cX9_mostOf 6 = .ok (.istore_n 3, 1) := by decide +kernel
theorem dX9_mostOf_7 : decode cX9_mostOf 7 = .ok (.iconst 0, 1) := by decide +kernel
theorem dX9_mostOf_8 : decode cX9_mostOf 8 = .ok (.istore 4, 2) := by decide +kernel
theorem dX9_mostOf_10 : decode cX9_mostOf 10 = .ok (.iload 4, 2) := by decide +kernel
theorem dX9_mostOf_12 : decode cX9_mostOf 12 = .ok (.aload_n 0, 1) := by decide +kernel
theorem dX9_mostOf_13 : decode cX9_mostOf 13 = .ok (.getfield 128, 3) := by decide +kernel
theorem dX9_mostOf_16 : decode cX9_mostOf 16 = .ok (.if_icmp .ge 56, 3) := by decide +kernel
theorem dX9_mostOf_19 : decode cX9_mostOf 19 = .ok (.aload_n 0, 1) := by decide +kernel
theorem dX9_mostOf_20 : decode cX9_mostOf 20 = .ok (.getfield 55, 3) := by decide +kernel
theorem dX9_mostOf_23 : decode cX9_mostOf 23 = .ok (.bipush 8, 2) := by decide +kernel
theorem dX9_mostOf_25 : decode cX9_mostOf 25 = .ok (.iload 4, 2) := by decide +kernel
theorem dX9_mostOf_27 : decode cX9_mostOf 27 = .ok (.imul, 1) := by decide +kernel
theorem dX9_mostOf_28 : decode cX9_mostOf 28 = .ok (.iload_n 2, 1) := by decide +kernel
theorem dX9_mostOf_29 : decode cX9_mostOf 29 = .ok (.iadd, 1) := by decide +kernel
theorem dX9_mostOf_30 : decode cX9_mostOf 30 = .ok (.iaload, 1) := by decide +kernel
theorem dX9_mostOf_31 : decode cX9_mostOf 31 = .ok (.istore 5, 2) := by decide +kernel
theorem dX9_mostOf_33 : decode cX9_mostOf 33 = .ok (.iload 5, 2) := by decide +kernel
theorem dX9_mostOf_35 : decode cX9_mostOf 35 = .ok (.ifCond .le 29, 3) := by decide +kernel
theorem dX9_mostOf_38 : decode cX9_mostOf 38 = .ok (.iload_n 3, 1) := by decide +kernel
theorem dX9_mostOf_39 : decode cX9_mostOf 39 = .ok (.iconst (-1), 1) := by decide +kernel
theorem dX9_mostOf_40 : decode cX9_mostOf 40 = .ok (.if_icmp .eq 19, 3) := by decide +kernel
theorem dX9_mostOf_43 : decode cX9_mostOf 43 = .ok (.iload 5, 2) := by decide +kernel
theorem dX9_mostOf_45 : decode cX9_mostOf 45 = .ok (.aload_n 0, 1) := by decide +kernel
theorem dX9_mostOf_46 : decode cX9_mostOf 46 = .ok (.getfield 55, 3) := by decide +kernel
theorem dX9_mostOf_49 : decode cX9_mostOf 49 = .ok (.bipush 8, 2) := by decide +kernel
theorem dX9_mostOf_51 : decode cX9_mostOf 51 = .ok (.iload_n 3, 1) := by decide +kernel
theorem dX9_mostOf_52 : decode cX9_mostOf 52 = .ok (.imul, 1) := by decide +kernel
theorem dX9_mostOf_53 : decode cX9_mostOf 53 = .ok (.iload_n 2, 1) := by decide +kernel
theorem dX9_mostOf_54 : decode cX9_mostOf 54 = .ok (.iadd, 1) := by decide +kernel
theorem dX9_mostOf_55 : decode cX9_mostOf 55 = .ok (.iaload, 1) := by decide +kernel
theorem dX9_mostOf_56 : decode cX9_mostOf 56 = .ok (.if_icmp .le 8, 3) := by decide +kernel
theorem dX9_mostOf_59 : decode cX9_mostOf 59 = .ok (.iload 4, 2) := by decide +kernel
theorem dX9_mostOf_61 : decode cX9_mostOf 61 = .ok (.goto 4, 3) := by decide +kernel
theorem dX9_mostOf_64 : decode cX9_mostOf 64 = .ok (.iload_n 3, 1) := by decide +kernel
theorem dX9_mostOf_65 : decode cX9_mostOf 65 = .ok (.istore_n 3, 1) := by decide +kernel
theorem dX9_mostOf_66 : decode cX9_mostOf 66 = .ok (.iinc 4 1, 3) := by decide +kernel
theorem dX9_mostOf_69 : decode cX9_mostOf 69 = .ok (.goto (-59), 3) := by decide +kernel
theorem dX9_mostOf_72 : decode cX9_mostOf 72 = .ok (.iload_n 3, 1) := by decide +kernel
theorem dX9_mostOf_73 : decode cX9_mostOf 73 = .ok (.ireturn, 1) := by decide +kernel
theorem dX9_most_0 : decode cX9_most 0 = .ok (.iload_n 1, 1) := by decide +kernel
theorem dX9_most_1 : decode cX9_most 1 = .ok (.invokestatic 163, 3) := by decide +kernel
theorem dX9_most_4 : decode cX9_most 4 = .ok (.ifCond .eq 19, 3) := by decide +kernel
theorem dX9_most_7 : decode cX9_most 7 = .ok (.iload_n 2, 1) := by decide +kernel
theorem dX9_most_8 : decode cX9_most 8 = .ok (.invokestatic 157, 3) := by decide +kernel
theorem dX9_most_11 : decode cX9_most 11 = .ok (.ifCond .eq 12, 3) := by decide +kernel
theorem dX9_most_14 : decode cX9_most 14 = .ok (.aload_n 0, 1) := by decide +kernel
theorem dX9_most_15 : decode cX9_most 15 = .ok (.iload_n 1, 1) := by decide +kernel
theorem dX9_most_16 : decode cX9_most 16 = .ok (.iload_n 2, 1) := by decide +kernel
theorem dX9_most_17 : decode cX9_most 17 = .ok (.invokevirtual 296, 3) := by decide +kernel
theorem dX9_most_20 : decode cX9_most 20 = .ok (.goto 5, 3) := by decide +kernel
theorem dX9_most_23 : decode cX9_most 23 = .ok (.bipush (-2), 2) := by decide +kernel
theorem dX9_most_25 : decode cX9_most 25 = .ok (.ireturn, 1) := by decide +kernel
theorem dX9_weighed_0 : decode cX9_weighed 0 = .ok (.iload_n 1, 1) := by decide +kernel
theorem dX9_weighed_1 : decode cX9_weighed 1 = .ok (.invokestatic 163, 3) := by decide +kernel
theorem dX9_weighed_4 : decode cX9_weighed 4 = .ok (.ifCond .eq 21, 3) := by decide +kernel
theorem dX9_weighed_7 : decode cX9_weighed 7 = .ok (.iload_n 2, 1) := by decide +kernel
theorem dX9_weighed_8 : decode cX9_weighed 8 = .ok (.invokestatic 157, 3) := by decide +kernel
theorem dX9_weighed_11 : decode cX9_weighed 11 = .ok (.ifCond .eq 14, 3) := by decide +kernel
theorem dX9_weighed_14 : decode cX9_weighed 14 = .ok (.iload_n 3, 1) := by decide +kernel
theorem dX9_weighed_15 : decode cX9_weighed 15 = .ok (.iconst 0, 1) := by decide +kernel
theorem dX9_weighed_16 : decode cX9_weighed 16 = .ok (.sipush 999, 3) := by decide +kernel
theorem dX9_weighed_19 : decode cX9_weighed 19 = .ok (.invokestatic 116, 3) := by decide +kernel
theorem dX9_weighed_22 : decode cX9_weighed 22 = .ok (.ifCond .ne 6, 3) := by decide +kernel
theorem dX9_weighed_25 : decode cX9_weighed 25 = .ok (.bipush (-2), 2) := by decide +kernel
theorem dX9_weighed_27 : decode cX9_weighed 27 = .ok (.ireturn, 1) := by decide +kernel
theorem dX9_weighed_28 : decode cX9_weighed 28 = .ok (.aload_n 0, 1) := by decide +kernel
theorem dX9_weighed_29 : decode cX9_weighed 29 = .ok (.getfield 299, 3) := by decide +kernel
theorem dX9_weighed_32 : decode cX9_weighed 32 = .ok (.bipush 8, 2) := by decide +kernel
theorem dX9_weighed_34 : decode cX9_weighed 34 = .ok (.if_icmp .ne 6, 3) := by decide +kernel
theorem dX9_weighed_37 : decode cX9_weighed 37 = .ok (.bipush (-4), 2) := by decide +kernel
theorem dX9_weighed_39 : decode cX9_weighed 39 = .ok (.ireturn, 1) := by decide +kernel
theorem dX9_weighed_40 : decode cX9_weighed 40 = .ok (.aload_n 0, 1) := by decide +kernel
theorem dX9_weighed_41 : decode cX9_weighed 41 = .ok (.getfield 83, 3) := by decide +kernel
theorem dX9_weighed_44 : decode cX9_weighed 44 = .ok (.aload_n 0, 1) := by decide +kernel
theorem dX9_weighed_45 : decode cX9_weighed 45 = .ok (.getfield 299, 3) := by decide +kernel
theorem dX9_weighed_48 : decode cX9_weighed 48 = .ok (.iload_n 1, 1) := by decide +kernel
theorem dX9_weighed_49 : decode cX9_weighed 49 = .ok (.iastore, 1) := by decide +kernel
theorem dX9_weighed_50 : decode cX9_weighed 50 = .ok (.aload_n 0, 1) := by decide +kernel
theorem dX9_weighed_51 : decode cX9_weighed 51 = .ok (.getfield 86, 3) := by decide +kernel
theorem dX9_weighed_54 : decode cX9_weighed 54 = .ok (.aload_n 0, 1) := by decide +kernel
theorem dX9_weighed_55 : decode cX9_weighed 55 = .ok (.getfield 299, 3) := by decide +kernel
theorem dX9_weighed_58 : decode cX9_weighed 58 = .ok (.iload_n 2, 1) := by decide +kernel
theorem dX9_weighed_59 : decode cX9_weighed 59 = .ok (.iastore, 1) := by decide +kernel
theorem dX9_weighed_60 : decode cX9_weighed 60 = .ok (.aload_n 0, 1) := by decide +kernel
theorem dX9_weighed_61 : decode cX9_weighed 61 = .ok (.getfield 89, 3) := by decide +kernel
theorem dX9_weighed_64 : decode cX9_weighed 64 = .ok (.aload_n 0, 1) := by decide +kernel
theorem dX9_weighed_65 : decode cX9_weighed 65 = .ok (.getfield 299, 3) := by decide +kernel
theorem dX9_weighed_68 : decode cX9_weighed 68 = .ok (.iload_n 3, 1) := by decide +kernel
theorem dX9_weighed_69 : decode cX9_weighed 69 = .ok (.iastore, 1) := by decide +kernel
theorem dX9_weighed_70 : decode cX9_weighed 70 = .ok (.aload_n 0, 1) := by decide +kernel
theorem dX9_weighed_71 : decode cX9_weighed 71 = .ok (.dup, 1) := by decide +kernel
theorem dX9_weighed_72 : decode cX9_weighed 72 = .ok (.getfield 299, 3) := by decide +kernel
theorem dX9_weighed_75 : decode cX9_weighed 75 = .ok (.iconst 1, 1) := by decide +kernel
theorem dX9_weighed_76 : decode cX9_weighed 76 = .ok (.iadd, 1) := by decide +kernel
theorem dX9_weighed_77 : decode cX9_weighed 77 = .ok (.putfield 299, 3) := by decide +kernel
theorem dX9_weighed_80 : decode cX9_weighed 80 = .ok (.aload_n 0, 1) := by decide +kernel
theorem dX9_weighed_81 : decode cX9_weighed 81 = .ok (.getfield 299, 3) := by decide +kernel
theorem dX9_weighed_84 : decode cX9_weighed 84 = .ok (.ireturn, 1) := by decide +kernel
theorem dX9_forget_0 : decode cX9_forget 0 = .ok (.aload_n 0, 1) := by decide +kernel
theorem dX9_forget_1 : decode cX9_forget 1 = .ok (.getfield 299, 3) := by decide +kernel
theorem dX9_forget_4 : decode cX9_forget 4 = .ok (.istore_n 1, 1) := by decide +kernel
theorem dX9_forget_5 : decode cX9_forget 5 = .ok (.aload_n 0, 1) := by decide +kernel
theorem dX9_forget_6 : decode cX9_forget 6 = .ok (.iconst 0, 1) := by decide +kernel
theorem dX9_forget_7 : decode cX9_forget 7 = .ok (.putfield 299, 3) := by decide +kernel
theorem dX9_forget_10 : decode cX9_forget 10 = .ok (.iload_n 1, 1) := by decide +kernel
theorem dX9_forget_11 : decode cX9_forget 11 = .ok (.ireturn, 1) := by decide +kernel
theorem dX9_isWeighed_0 : decode cX9_isWeighed 0 = .ok (.iconst 1, 1) := by decide +kernel
theorem dX9_isWeighed_1 : decode cX9_isWeighed 1 = .ok (.istore_n 1, 1) := by decide +kernel
theorem dX9_isWeighed_2 : decode cX9_isWeighed 2 = .ok (.aload_n 0, 1) := by decide +kernel
theorem dX9_isWeighed_3 : decode cX9_isWeighed 3 = .ok (.invokevirtual 229, 3) := by decide +kernel
theorem dX9_isWeighed_6 : decode cX9_isWeighed 6 = .ok (.iconst 0, 1) := by decide +kernel
theorem dX9_isWeighed_7 : decode cX9_isWeighed 7 = .ok (.istore_n 2, 1) := by decide +kernel
theorem dX9_isWeighed_8 : decode cX9_isWeighed 8 = .ok (.iload_n 2, 1) := by decide +kernel
theorem dX9_isWeighed_9 : decode cX9_isWeighed 9 = .ok (.bipush 40, 2) := by decide +kernel
theorem dX9_isWeighed_11 : decode cX9_isWeighed 11 = .ok (.if_icmp .ge 86, 3) := by decide +kernel
theorem dX9_isWeighed_14 : decode cX9_isWeighed 14 = .ok (.iload_n 1, 1) := by decide +kernel
theorem dX9_isWeighed_15 : decode cX9_isWeighed 15 = .ok (.ifCond .eq 82, 3) := by decide +kernel
theorem dX9_isWeighed_18 : decode cX9_isWeighed 18 = .ok (.aload_n 0, 1) := by decide +kernel
theorem dX9_isWeighed_19 : decode cX9_isWeighed 19 = .ok (.iload_n 2, 1) := by decide +kernel
theorem dX9_isWeighed_20 : decode cX9_isWeighed 20 = .ok (.invokevirtual 232, 3) := by decide +kernel
theorem dX9_isWeighed_23 : decode cX9_isWeighed 23 = .ok (.iconst 0, 1) := by decide +kernel
theorem dX9_isWeighed_24 : decode cX9_isWeighed 24 = .ok (.istore_n 3, 1) := by decide +kernel
theorem dX9_isWeighed_25 : decode cX9_isWeighed 25 = .ok (.iload_n 3, 1) := by decide +kernel
theorem dX9_isWeighed_26 : decode cX9_isWeighed 26 = .ok (.aload_n 0, 1) := by decide +kernel
theorem dX9_isWeighed_27 : decode cX9_isWeighed 27 = .ok (.getfield 299, 3) := by decide +kernel
theorem dX9_isWeighed_30 : decode cX9_isWeighed 30 = .ok (.if_icmp .ge 61, 3) := by decide +kernel
theorem dX9_isWeighed_33 : decode cX9_isWeighed 33 = .ok (.iload_n 1, 1) := by decide +kernel
theorem dX9_isWeighed_34 : decode cX9_isWeighed 34 = .ok (.ifCond .eq 49, 3) := by decide +kernel
theorem dX9_isWeighed_37 : decode cX9_isWeighed 37 = .ok (.aload_n 0, 1) := by decide +kernel
theorem dX9_isWeighed_38 : decode cX9_isWeighed 38 = .ok (.getfield 86, 3) := by decide +kernel
theorem dX9_isWeighed_41 : decode cX9_isWeighed 41 = .ok (.iload_n 3, 1) := by decide +kernel
theorem dX9_isWeighed_42 : decode cX9_isWeighed 42 = .ok (.iaload, 1) := by decide +kernel
theorem dX9_isWeighed_43 : decode cX9_isWeighed 43 = .ok (.aload_n 0, 1) := by decide +kernel
theorem dX9_isWeighed_44 : decode cX9_isWeighed 44 = .ok (.getfield 128, 3) := by decide +kernel
theorem dX9_isWeighed_47 : decode cX9_isWeighed 47 = .ok (.if_icmp .ge 36, 3) := by decide +kernel
theorem dX9_isWeighed_50 : decode cX9_isWeighed 50 = .ok (.aload_n 0, 1) := by decide +kernel
theorem dX9_isWeighed_51 : decode cX9_isWeighed 51 = .ok (.getfield 83, 3) := by decide +kernel
theorem dX9_isWeighed_54 : decode cX9_isWeighed 54 = .ok (.iload_n 3, 1) := by decide +kernel
theorem dX9_isWeighed_55 : decode cX9_isWeighed 55 = .ok (.iaload, 1) := by decide +kernel
theorem dX9_isWeighed_56 : decode cX9_isWeighed 56 = .ok (.iload_n 2, 1) := by decide +kernel
theorem dX9_isWeighed_57 : decode cX9_isWeighed 57 = .ok (.if_icmp .ne 22, 3) := by decide +kernel
theorem dX9_isWeighed_60 : decode cX9_isWeighed 60 = .ok (.aload_n 0, 1) := by decide +kernel
theorem dX9_isWeighed_61 : decode cX9_isWeighed 61 = .ok (.aload_n 0, 1) := by decide +kernel
theorem dX9_isWeighed_62 : decode cX9_isWeighed 62 = .ok (.getfield 86, 3) := by decide +kernel
theorem dX9_isWeighed_65 : decode cX9_isWeighed 65 = .ok (.iload_n 3, 1) := by decide +kernel
theorem dX9_isWeighed_66 : decode cX9_isWeighed 66 = .ok (.iaload, 1) := by decide +kernel
theorem dX9_isWeighed_67 : decode cX9_isWeighed 67 = .ok (.invokevirtual 219, 3) := by decide +kernel
theorem dX9_isWeighed_70 : decode cX9_isWeighed 70 = .ok (.aload_n 0, 1) := by decide +kernel
theorem dX9_isWeighed_71 : decode cX9_isWeighed 71 = .ok (.getfield 89, 3) := by decide +kernel
theorem dX9_isWeighed_74 : decode cX9_isWeighed 74 = .ok (.iload_n 3, 1) := by decide +kernel
theorem dX9_isWeighed_75 : decode cX9_isWeighed 75 = .ok (.iaload, 1) := by decide +kernel
theorem dX9_isWeighed_76 : decode cX9_isWeighed 76 = .ok (.if_icmp .ne 7, 3) := by decide +kernel
theorem dX9_isWeighed_79 : decode cX9_isWeighed 79 = .ok (.iconst 1, 1) := by decide +kernel
theorem dX9_isWeighed_80 : decode cX9_isWeighed 80 = .ok (.goto 4, 3) := by decide +kernel
theorem dX9_isWeighed_83 : decode cX9_isWeighed 83 = .ok (.iconst 0, 1) := by decide +kernel
theorem dX9_isWeighed_84 : decode cX9_isWeighed 84 = .ok (.istore_n 1, 1) := by decide +kernel
theorem dX9_isWeighed_85 : decode cX9_isWeighed 85 = .ok (.iinc 3 1, 3) := by decide +kernel
theorem dX9_isWeighed_88 : decode cX9_isWeighed 88 = .ok (.goto (-63), 3) := by decide +kernel
theorem dX9_isWeighed_91 : decode cX9_isWeighed 91 = .ok (.iinc 2 1, 3) := by decide +kernel
theorem dX9_isWeighed_94 : decode cX9_isWeighed 94 = .ok (.goto (-86), 3) := by decide +kernel
theorem dX9_isWeighed_97 : decode cX9_isWeighed 97 = .ok (.iload_n 1, 1) := by decide +kernel
theorem dX9_isWeighed_98 : decode cX9_isWeighed 98 = .ok (.ireturn, 1) := by decide +kernel
theorem dX9_hidNow_0 : decode cX9_hidNow 0 = .ok (.aload_n 0, 1) := by decide +kernel
theorem dX9_hidNow_1 : decode cX9_hidNow 1 = .ok (.invokevirtual 236, 3) := by decide +kernel
theorem dX9_hidNow_4 : decode cX9_hidNow 4 = .ok (.iconst 0, 1) := by decide +kernel
theorem dX9_hidNow_5 : decode cX9_hidNow 5 = .ok (.istore_n 1, 1) := by decide +kernel
theorem dX9_hidNow_6 : decode cX9_hidNow 6 = .ok (.iconst 0, 1) := by decide +kernel
theorem dX9_hidNow_7 : decode cX9_hidNow 7 = .ok (.istore_n 2, 1) := by decide +kernel
theorem dX9_hidNow_8 : decode cX9_hidNow 8 = .ok (.iload_n 2, 1) := by decide +kernel
theorem dX9_hidNow_9 : decode cX9_hidNow 9 = .ok (.aload_n 0, 1) := by decide +kernel
theorem dX9_hidNow_10 : decode cX9_hidNow 10 = .ok (.getfield 169, 3) := by decide +kernel
theorem dX9_hidNow_13 : decode cX9_hidNow 13 = .ok (.if_icmp .ge 31, 3) := by decide +kernel
theorem dX9_hidNow_16 : decode cX9_hidNow 16 = .ok (.aload_n 0, 1) := by decide +kernel
theorem dX9_hidNow_17 : decode cX9_hidNow 17 = .ok (.iload_n 2, 1) := by decide +kernel
theorem dX9_hidNow_18 : decode cX9_hidNow 18 = .ok (.putfield 182, 3) := by decide +kernel
theorem dX9_hidNow_21 : decode cX9_hidNow 21 = .ok (.iload_n 1, 1) := by decide +kernel
theorem dX9_hidNow_22 : decode cX9_hidNow 22 = .ok (.aload_n 0, 1) := by decide +kernel
theorem dX9_hidNow_23 : decode cX9_hidNow 23 = .ok (.invokevirtual 302, 3) := by decide +kernel
theorem dX9_hidNow_26 : decode cX9_hidNow 26 = .ok (.ifCond .eq 9, 3) := by decide +kernel
theorem dX9_hidNow_29 : decode cX9_hidNow 29 = .ok (.iconst 1, 1) := by decide +kernel
theorem dX9_hidNow_30 : decode cX9_hidNow 30 = .ok (.iload_n 2, 1) := by decide +kernel
theorem dX9_hidNow_31 : decode cX9_hidNow 31 = .ok (.ishl, 1) := by decide +kernel
theorem dX9_hidNow_32 : decode cX9_hidNow 32 = .ok (.goto 4, 3) := by decide +kernel
theorem dX9_hidNow_35 : decode cX9_hidNow 35 = .ok (.iconst 0, 1) := by decide +kernel
theorem dX9_hidNow_36 : decode cX9_hidNow 36 = .ok (.ior, 1) := by decide +kernel
theorem dX9_hidNow_37 : decode cX9_hidNow 37 = .ok (.istore_n 1, 1) := by decide +kernel
theorem dX9_hidNow_38 : decode cX9_hidNow 38 = .ok (.iinc 2 1, 3) := by decide +kernel
theorem dX9_hidNow_41 : decode cX9_hidNow 41 = .ok (.goto (-33), 3) := by decide +kernel
theorem dX9_hidNow_44 : decode cX9_hidNow 44 = .ok (.iload_n 1, 1) := by decide +kernel
theorem dX9_hidNow_45 : decode cX9_hidNow 45 = .ok (.ireturn, 1) := by decide +kernel
theorem dX9_hid_0 : decode cX9_hid 0 = .ok (.aload_n 0, 1) := by decide +kernel
theorem dX9_hid_1 : decode cX9_hid 1 = .ok (.invokevirtual 306, 3) := by decide +kernel
theorem dX9_hid_4 : decode cX9_hid 4 = .ok (.ireturn, 1) := by decide +kernel
theorem dX9_swappedOf_0 : decode cX9_swappedOf 0 = .ok (.aload_n 0, 1) := by decide +kernel
theorem dX9_swappedOf_1 : decode cX9_swappedOf 1 = .ok (.invokevirtual 236, 3) := by decide +kernel
theorem dX9_swappedOf_4 : decode cX9_swappedOf 4 = .ok (.iconst 0, 1) := by decide +kernel
theorem dX9_swappedOf_5 : decode cX9_swappedOf 5 = .ok (.istore_n 2, 1) := by decide +kernel
theorem dX9_swappedOf_6 : decode cX9_swappedOf 6 = .ok (.iconst (-1), 1) := by decide +kernel
theorem dX9_swappedOf_7 : decode cX9_swappedOf 7 = .ok (.istore_n 3, 1) := by decide +kernel
theorem dX9_swappedOf_8 : decode cX9_swappedOf 8 = .ok (.iconst 0, 1) := by decide +kernel
theorem dX9_swappedOf_9 : decode cX9_swappedOf 9 = .ok (.istore 4, 2) := by decide +kernel
theorem dX9_swappedOf_11 : decode cX9_swappedOf 11 = .ok (.iload 4, 2) := by decide +kernel
theorem dX9_swappedOf_13 : decode cX9_swappedOf 13 = .ok (.aload_n 0, 1) := by decide +kernel
theorem dX9_swappedOf_14 : decode cX9_swappedOf 14 = .ok (.getfield 128, 3) := by decide +kernel
theorem dX9_swappedOf_17 : decode cX9_swappedOf 17 = .ok (.if_icmp .ge 84, 3) := by decide +kernel
theorem dX9_swappedOf_20 : decode cX9_swappedOf 20 = .ok (.iload 4, 2) := by decide +kernel
theorem dX9_swappedOf_22 : decode cX9_swappedOf 22 = .ok (.iconst 1, 1) := by decide +kernel
theorem dX9_swappedOf_23 : decode cX9_swappedOf 23 = .ok (.iadd, 1) := by decide +kernel
theorem dX9_swappedOf_24 : decode cX9_swappedOf 24 = .ok (.istore 5, 2) := by decide +kernel
theorem dX9_swappedOf_26 : decode cX9_swappedOf 26 = .ok (.iload 5, 2) := by decide +kernel
theorem dX9_swappedOf_28 : decode cX9_swappedOf 28 = .ok (.aload_n 0, 1) := by decide +kernel
theorem dX9_swappedOf_29 : decode cX9_swappedOf 29 = .ok (.getfield 128, 3) := by decide +kernel
theorem dX9_swappedOf_32 : decode cX9_swappedOf 32 = .ok (.if_icmp .ge 63, 3) := by decide +kernel
theorem dX9_swappedOf_35 : decode cX9_swappedOf 35 = .ok (.aload_n 0, 1) := by decide +kernel
theorem dX9_swappedOf_36 : decode cX9_swappedOf 36 = .ok (.iload 4, 2) := by decide +kernel
theorem dX9_swappedOf_38 : decode cX9_swappedOf 38 = .ok (.putfield 185, 3) := by decide +kernel
theorem dX9_swappedOf_41 : decode cX9_swappedOf 41 = .ok (.aload_n 0, 1) := by decide +kernel
theorem dX9_swappedOf_42 : decode cX9_swappedOf 42 = .ok (.iload 5, 2) := by decide +kernel
theorem dX9_swappedOf_44 : decode cX9_swappedOf 44 = .ok (.putfield 188, 3) := by decide +kernel
theorem dX9_swappedOf_47 : decode cX9_swappedOf 47 = .ok (.aload_n 0, 1) := by decide +kernel
theorem dX9_swappedOf_48 : decode cX9_swappedOf 48 = .ok (.invokevirtual 302, 3) := by decide +kernel
theorem dX9_swappedOf_51 : decode cX9_swappedOf 51 = .ok (.istore 6, 2) := by decide +kernel
theorem dX9_swappedOf_53 : decode cX9_swappedOf 53 = .ok (.iload_n 2, 1) := by decide +kernel
theorem dX9_swappedOf_54 : decode cX9_swappedOf 54 = .ok (.iload 6, 2) := by decide +kernel
theorem dX9_swappedOf_56 : decode cX9_swappedOf 56 = .ok (.ifCond .eq 7, 3) := by decide +kernel
theorem dX9_swappedOf_59 : decode cX9_swappedOf 59 = .ok (.iconst 1, 1) := by decide +kernel
theorem dX9_swappedOf_60 : decode cX9_swappedOf 60 = .ok (.goto 4, 3) := by decide +kernel
theorem dX9_swappedOf_63 : decode cX9_swappedOf 63 = .ok (.iconst 0, 1) := by decide +kernel
theorem dX9_swappedOf_64 : decode cX9_swappedOf 64 = .ok (.iadd, 1) := by decide +kernel
theorem dX9_swappedOf_65 : decode cX9_swappedOf 65 = .ok (.istore_n 2, 1) := by decide +kernel
theorem dX9_swappedOf_66 : decode cX9_swappedOf 66 = .ok (.iload 6, 2) := by decide +kernel
theorem dX9_swappedOf_68 : decode cX9_swappedOf 68 = .ok (.ifCond .eq 19, 3) := by decide +kernel
theorem dX9_swappedOf_71 : decode cX9_swappedOf 71 = .ok (.iload_n 3, 1) := by decide +kernel
theorem dX9_swappedOf_72 : decode cX9_swappedOf 72 = .ok (.iconst (-1), 1) := by decide +kernel
theorem dX9_swappedOf_73 : decode cX9_swappedOf 73 = .ok (.if_icmp .ne 14, 3) := by decide +kernel
theorem dX9_swappedOf_76 : decode cX9_swappedOf 76 = .ok (.bipush 8, 2) := by decide +kernel
theorem dX9_swappedOf_78 : decode cX9_swappedOf 78 = .ok (.iload 4, 2) := by decide +kernel
theorem dX9_swappedOf_80 : decode cX9_swappedOf 80 = .ok (.imul, 1) := by decide +kernel
theorem dX9_swappedOf_81 : decode cX9_swappedOf 81 = .ok (.iload 5, 2) := by decide +kernel
theorem dX9_swappedOf_83 : decode cX9_swappedOf 83 = .ok (.iadd, 1) := by decide +kernel
theorem dX9_swappedOf_84 : decode cX9_swappedOf 84 = .ok (.goto 4, 3) := by decide +kernel
theorem dX9_swappedOf_87 : decode cX9_swappedOf 87 = .ok (.iload_n 3, 1) := by decide +kernel
theorem dX9_swappedOf_88 : decode cX9_swappedOf 88 = .ok (.istore_n 3, 1) := by decide +kernel
theorem dX9_swappedOf_89 : decode cX9_swappedOf 89 = .ok (.iinc 5 1, 3) := by decide +kernel
theorem dX9_swappedOf_92 : decode cX9_swappedOf 92 = .ok (.goto (-66), 3) := by decide +kernel
theorem dX9_swappedOf_95 : decode cX9_swappedOf 95 = .ok (.iinc 4 1, 3) := by decide +kernel
theorem dX9_swappedOf_98 : decode cX9_swappedOf 98 = .ok (.goto (-87), 3) := by decide +kernel
theorem dX9_swappedOf_101 : decode cX9_swappedOf 101 = .ok (.iload_n 1, 1) := by decide +kernel
theorem dX9_swappedOf_102 : decode cX9_swappedOf 102 = .ok (.ifCond .ne 7, 3) := by decide +kernel
theorem dX9_swappedOf_105 : decode cX9_swappedOf 105 = .ok (.iload_n 2, 1) := by decide +kernel
theorem dX9_swappedOf_106 : decode cX9_swappedOf 106 = .ok (.goto 4, 3) := by decide +kernel
theorem dX9_swappedOf_109 : decode cX9_swappedOf 109 = .ok (.iload_n 3, 1) := by decide +kernel
theorem dX9_swappedOf_110 : decode cX9_swappedOf 110 = .ok (.ireturn, 1) := by decide +kernel
theorem dX9_swapped_0 : decode cX9_swapped 0 = .ok (.iload_n 1, 1) := by decide +kernel
theorem dX9_swapped_1 : decode cX9_swapped 1 = .ok (.iconst 0, 1) := by decide +kernel
theorem dX9_swapped_2 : decode cX9_swapped 2 = .ok (.iconst 1, 1) := by decide +kernel
theorem dX9_swapped_3 : decode cX9_swapped 3 = .ok (.invokestatic 116, 3) := by decide +kernel
theorem dX9_swapped_6 : decode cX9_swapped 6 = .ok (.ifCond .eq 11, 3) := by decide +kernel
theorem dX9_swapped_9 : decode cX9_swapped 9 = .ok (.aload_n 0, 1) := by decide +kernel
theorem dX9_swapped_10 : decode cX9_swapped 10 = .ok (.iload_n 1, 1) := by decide +kernel
theorem dX9_swapped_11 : decode cX9_swapped 11 = .ok (.invokevirtual 309, 3) := by decide +kernel
theorem dX9_swapped_14 : decode cX9_swapped 14 = .ok (.goto 5, 3) := by decide +kernel
theorem dX9_swapped_17 : decode cX9_swapped 17 = .ok (.bipush (-2), 2) := by decide +kernel
theorem dX9_swapped_19 : decode cX9_swapped 19 = .ok (.ireturn, 1) := by decide +kernel
theorem dX9_weighOf_0 : decode cX9_weighOf 0 = .ok (.aload_n 0, 1) := by decide +kernel
theorem dX9_weighOf_1 : decode cX9_weighOf 1 = .ok (.invokevirtual 306, 3) := by decide +kernel
theorem dX9_weighOf_4 : decode cX9_weighOf 4 = .ok (.istore_n 2, 1) := by decide +kernel
theorem dX9_weighOf_5 : decode cX9_weighOf 5 = .ok (.aload_n 0, 1) := by decide +kernel
theorem dX9_weighOf_6 : decode cX9_weighOf 6 = .ok (.invokevirtual 236, 3) := by decide +kernel
theorem dX9_weighOf_9 : decode cX9_weighOf 9 = .ok (.iconst 0, 1) := by decide +kernel
theorem dX9_weighOf_10 : decode cX9_weighOf 10 = .ok (.istore_n 3, 1) := by decide +kernel
theorem dX9_weighOf_11 : decode cX9_weighOf 11 = .ok (.iload_n 3, 1) := by decide +kernel
theorem dX9_weighOf_12 : decode cX9_weighOf 12 = .ok (.aload_n 0, 1) := by decide +kernel
theorem dX9_weighOf_13 : decode cX9_weighOf 13 = .ok (.getfield 169, 3) := by decide +kernel
theorem dX9_weighOf_16 : decode cX9_weighOf 16 = .ok (.if_icmp .ge 55, 3) := by decide +kernel
theorem dX9_weighOf_19 : decode cX9_weighOf 19 = .ok (.aload_n 0, 1) := by decide +kernel
theorem dX9_weighOf_20 : decode cX9_weighOf 20 = .ok (.iload_n 3, 1) := by decide +kernel
theorem dX9_weighOf_21 : decode cX9_weighOf 21 = .ok (.putfield 182, 3) := by decide +kernel
theorem dX9_weighOf_24 : decode cX9_weighOf 24 = .ok (.aload_n 0, 1) := by decide +kernel
theorem dX9_weighOf_25 : decode cX9_weighOf 25 = .ok (.iload_n 1, 1) := by decide +kernel
theorem dX9_weighOf_26 : decode cX9_weighOf 26 = .ok (.invokevirtual 239, 3) := by decide +kernel
theorem dX9_weighOf_29 : decode cX9_weighOf 29 = .ok (.iconst 0, 1) := by decide +kernel
theorem dX9_weighOf_30 : decode cX9_weighOf 30 = .ok (.istore 4, 2) := by decide +kernel
theorem dX9_weighOf_32 : decode cX9_weighOf 32 = .ok (.iload 4, 2) := by decide +kernel
theorem dX9_weighOf_34 : decode cX9_weighOf 34 = .ok (.aload_n 0, 1) := by decide +kernel
theorem dX9_weighOf_35 : decode cX9_weighOf 35 = .ok (.getfield 128, 3) := by decide +kernel
theorem dX9_weighOf_38 : decode cX9_weighOf 38 = .ok (.if_icmp .ge 27, 3) := by decide +kernel
theorem dX9_weighOf_41 : decode cX9_weighOf 41 = .ok (.aload_n 0, 1) := by decide +kernel
theorem dX9_weighOf_42 : decode cX9_weighOf 42 = .ok (.getfield 92, 3) := by decide +kernel
theorem dX9_weighOf_45 : decode cX9_weighOf 45 = .ok (.bipush 8, 2) := by decide +kernel
theorem dX9_weighOf_47 : decode cX9_weighOf 47 = .ok (.iload_n 3, 1) := by decide +kernel
theorem dX9_weighOf_48 : decode cX9_weighOf 48 = .ok (.imul, 1) := by decide +kernel
theorem dX9_weighOf_49 : decode cX9_weighOf 49 = .ok (.iload 4, 2) := by decide +kernel
theorem dX9_weighOf_51 : decode cX9_weighOf 51 = .ok (.iadd, 1) := by decide +kernel
theorem dX9_weighOf_52 : decode cX9_weighOf 52 = .ok (.aload_n 0, 1) := by decide +kernel
theorem dX9_weighOf_53 : decode cX9_weighOf 53 = .ok (.iload 4, 2) := by decide +kernel
theorem dX9_weighOf_55 : decode cX9_weighOf 55 = .ok (.invokevirtual 219, 3) := by decide +kernel
theorem dX9_weighOf_58 : decode cX9_weighOf 58 = .ok (.iastore, 1) := by decide +kernel
theorem dX9_weighOf_59 : decode cX9_weighOf 59 = .ok (.iinc 4 1, 3) := by decide +kernel
theorem dX9_weighOf_62 : decode cX9_weighOf 62 = .ok (.goto (-30), 3) := by decide +kernel
theorem dX9_weighOf_65 : decode cX9_weighOf 65 = .ok (.iinc 3 1, 3) := by decide +kernel
theorem dX9_weighOf_68 : decode cX9_weighOf 68 = .ok (.goto (-57), 3) := by decide +kernel
theorem dX9_weighOf_71 : decode cX9_weighOf 71 = .ok (.iconst (-1), 1) := by decide +kernel
theorem dX9_weighOf_72 : decode cX9_weighOf 72 = .ok (.istore_n 3, 1) := by decide +kernel
theorem dX9_weighOf_73 : decode cX9_weighOf 73 = .ok (.iconst 0, 1) := by decide +kernel
theorem dX9_weighOf_74 : decode cX9_weighOf 74 = .ok (.istore 4, 2) := by decide +kernel
theorem dX9_weighOf_76 : decode cX9_weighOf 76 = .ok (.iconst 0, 1) := by decide +kernel
theorem dX9_weighOf_77 : decode cX9_weighOf 77 = .ok (.istore 5, 2) := by decide +kernel
theorem dX9_weighOf_79 : decode cX9_weighOf 79 = .ok (.iload 5, 2) := by decide +kernel
theorem dX9_weighOf_81 : decode cX9_weighOf 81 = .ok (.aload_n 0, 1) := by decide +kernel
theorem dX9_weighOf_82 : decode cX9_weighOf 82 = .ok (.getfield 128, 3) := by decide +kernel
theorem dX9_weighOf_85 : decode cX9_weighOf 85 = .ok (.if_icmp .ge 169, 3) := by decide +kernel
theorem dX9_weighOf_88 : decode cX9_weighOf 88 = .ok (.iconst 0, 1) := by decide +kernel
theorem dX9_weighOf_89 : decode cX9_weighOf 89 = .ok (.istore 6, 2) := by decide +kernel
theorem dX9_weighOf_91 : decode cX9_weighOf 91 = .ok (.iconst 0, 1) := by decide +kernel
theorem dX9_weighOf_92 : decode cX9_weighOf 92 = .ok (.istore 7, 2) := by decide +kernel
theorem dX9_weighOf_94 : decode cX9_weighOf 94 = .ok (.iload 7, 2) := by decide +kernel
theorem dX9_weighOf_96 : decode cX9_weighOf 96 = .ok (.aload_n 0, 1) := by decide +kernel
theorem dX9_weighOf_97 : decode cX9_weighOf 97 = .ok (.getfield 169, 3) := by decide +kernel
theorem dX9_weighOf_100 : decode cX9_weighOf 100 = .ok (.if_icmp .ge 103, 3) := by decide +kernel
theorem dX9_weighOf_103 : decode cX9_weighOf 103 = .ok (.iconst 0, 1) := by decide +kernel
theorem dX9_weighOf_104 : decode cX9_weighOf 104 = .ok (.istore 8, 2) := by decide +kernel
theorem dX9_weighOf_106 : decode cX9_weighOf 106 = .ok (.iconst 0, 1) := by decide +kernel
theorem dX9_weighOf_107 : decode cX9_weighOf 107 = .ok (.istore 9, 2) := by decide +kernel
theorem dX9_weighOf_109 : decode cX9_weighOf 109 = .ok (.iload 9, 2) := by decide +kernel
theorem dX9_weighOf_111 : decode cX9_weighOf 111 = .ok (.aload_n 0, 1) := by decide +kernel
theorem dX9_weighOf_112 : decode cX9_weighOf 112 = .ok (.getfield 169, 3) := by decide +kernel
theorem dX9_weighOf_115 : decode cX9_weighOf 115 = .ok (.if_icmp .ge 66, 3) := by decide +kernel
theorem dX9_weighOf_118 : decode cX9_weighOf 118 = .ok (.iload 8, 2) := by decide +kernel
theorem dX9_weighOf_120 : decode cX9_weighOf 120 = .ok (.iload_n 2, 1) := by decide +kernel
theorem dX9_weighOf_121 : decode cX9_weighOf 121 = .ok (.iload 7, 2) := by decide +kernel
theorem dX9_weighOf_123 : decode cX9_weighOf 123 = .ok (.invokestatic 274, 3) := by decide +kernel
theorem dX9_weighOf_126 : decode cX9_weighOf 126 = .ok (.ifCond .eq 45, 3) := by decide +kernel
theorem dX9_weighOf_129 : decode cX9_weighOf 129 = .ok (.iload_n 2, 1) := by decide +kernel
theorem dX9_weighOf_130 : decode cX9_weighOf 130 = .ok (.iload 9, 2) := by decide +kernel
theorem dX9_weighOf_132 : decode cX9_weighOf 132 = .ok (.invokestatic 274, 3) := by decide +kernel
theorem dX9_weighOf_135 : decode cX9_weighOf 135 = .ok (.ifCond .eq 36, 3) := by decide +kernel
theorem dX9_weighOf_138 : decode cX9_weighOf 138 = .ok (.aload_n 0, 1) := by decide +kernel
theorem dX9_weighOf_139 : decode cX9_weighOf 139 = .ok (.getfield 92, 3) := by decide +kernel
theorem dX9_weighOf_142 : decode cX9_weighOf 142 = .ok (.bipush 8, 2) := by decide +kernel
theorem dX9_weighOf_144 : decode cX9_weighOf 144 = .ok (.iload 7, 2) := by decide +kernel
theorem dX9_weighOf_146 : decode cX9_weighOf 146 = .ok (.imul, 1) := by decide +kernel
theorem dX9_weighOf_147 : decode cX9_weighOf 147 = .ok (.iload 5, 2) := by decide +kernel
theorem dX9_weighOf_149 : decode cX9_weighOf 149 = .ok (.iadd, 1) := by decide +kernel
theorem dX9_weighOf_150 : decode cX9_weighOf 150 = .ok (.iaload, 1) := by decide +kernel
theorem dX9_weighOf_151 : decode cX9_weighOf 151 = .ok (.aload_n 0, 1) := by decide +kernel
theorem dX9_weighOf_152 : decode cX9_weighOf 152 = .ok (.getfield 92, 3) := by decide +kernel
theorem dX9_weighOf_155 : decode cX9_weighOf 155 = .ok (.bipush 8, 2) := by decide +kernel
theorem dX9_weighOf_157 : decode cX9_weighOf 157 = .ok (.iload 9, 2) := by decide +kernel
theorem dX9_weighOf_159 : decode cX9_weighOf 159 = .ok (.imul, 1) := by decide +kernel
theorem dX9_weighOf_160 : decode cX9_weighOf 160 = .ok (.iload 5, 2) := by decide +kernel
theorem dX9_weighOf_162 : decode cX9_weighOf 162 = .ok (.iadd, 1) := by decide +kernel
theorem dX9_weighOf_163 : decode cX9_weighOf 163 = .ok (.iaload, 1) := by decide +kernel
theorem dX9_weighOf_164 : decode cX9_weighOf 164 = .ok (.if_icmp .ne 7, 3) := by decide +kernel
theorem dX9_weighOf_167 : decode cX9_weighOf 167 = .ok (.iconst 1, 1) := by decide +kernel
theorem dX9_weighOf_168 : decode cX9_weighOf 168 = .ok (.goto 4, 3) := by decide +kernel
theorem dX9_weighOf_171 : decode cX9_weighOf 171 = .ok (.iconst 0, 1) := by decide +kernel
theorem dX9_weighOf_172 : decode cX9_weighOf 172 = .ok (.iadd, 1) := by decide +kernel
theorem dX9_weighOf_173 : decode cX9_weighOf 173 = .ok (.istore 8, 2) := by decide +kernel
theorem dX9_weighOf_175 : decode cX9_weighOf 175 = .ok (.iinc 9 1, 3) := by decide +kernel
theorem dX9_weighOf_178 : decode cX9_weighOf 178 = .ok (.goto (-69), 3) := by decide +kernel
theorem dX9_weighOf_181 : decode cX9_weighOf 181 = .ok (.iload 8, 2) := by decide +kernel
theorem dX9_weighOf_183 : decode cX9_weighOf 183 = .ok (.iload 6, 2) := by decide +kernel
theorem dX9_weighOf_185 : decode cX9_weighOf 185 = .ok (.if_icmp .le 8, 3) := by decide +kernel
theorem dX9_weighOf_188 : decode cX9_weighOf 188 = .ok (.iload 8, 2) := by decide +kernel
theorem dX9_weighOf_190 : decode cX9_weighOf 190 = .ok (.goto 5, 3) := by decide +kernel
theorem dX9_weighOf_193 : decode cX9_weighOf 193 = .ok (.iload 6, 2) := by decide +kernel
theorem dX9_weighOf_195 : decode cX9_weighOf 195 = .ok (.istore 6, 2) := by decide +kernel
theorem dX9_weighOf_197 : decode cX9_weighOf 197 = .ok (.iinc 7 1, 3) := by decide +kernel
theorem dX9_weighOf_200 : decode cX9_weighOf 200 = .ok (.goto (-106), 3) := by decide +kernel
theorem dX9_weighOf_203 : decode cX9_weighOf 203 = .ok (.iload_n 3, 1) := by decide +kernel
theorem dX9_weighOf_204 : decode cX9_weighOf 204 = .ok (.iconst (-1), 1) := by decide +kernel
theorem dX9_weighOf_205 : decode cX9_weighOf 205 = .ok (.if_icmp .eq 10, 3) := by decide +kernel
theorem dX9_weighOf_208 : decode cX9_weighOf 208 = .ok (.iload 6, 2) := by decide +kernel
theorem dX9_weighOf_210 : decode cX9_weighOf 210 = .ok (.iload 4, 2) := by decide +kernel
theorem dX9_weighOf_212 : decode cX9_weighOf 212 = .ok (.if_icmp .ge 7, 3) := by decide +kernel
theorem dX9_weighOf_215 : decode cX9_weighOf 215 = .ok (.iconst 1, 1) := by decide +kernel
theorem dX9_weighOf_216 : decode cX9_weighOf 216 = .ok (.goto 4, 3) := by decide +kernel
theorem dX9_weighOf_219 : decode cX9_weighOf 219 = .ok (.iconst 0, 1) := by decide +kernel
theorem dX9_weighOf_220 : decode cX9_weighOf 220 = .ok (.istore 7, 2) := by decide +kernel
theorem dX9_weighOf_222 : decode cX9_weighOf 222 = .ok (.iload 7, 2) := by decide +kernel
theorem dX9_weighOf_224 : decode cX9_weighOf 224 = .ok (.ifCond .eq 8, 3) := by decide +kernel
theorem dX9_weighOf_227 : decode cX9_weighOf 227 = .ok (.iload 5, 2) := by decide +kernel
theorem dX9_weighOf_229 : decode cX9_weighOf 229 = .ok (.goto 4, 3) := by decide +kernel
theorem dX9_weighOf_232 : decode cX9_weighOf 232 = .ok (.iload_n 3, 1) := by decide +kernel
theorem dX9_weighOf_233 : decode cX9_weighOf 233 = .ok (.istore_n 3, 1) := by decide +kernel
theorem dX9_weighOf_234 : decode cX9_weighOf 234 = .ok (.iload 7, 2) := by decide +kernel
theorem dX9_weighOf_236 : decode cX9_weighOf 236 = .ok (.ifCond .eq 8, 3) := by decide +kernel
theorem dX9_weighOf_239 : decode cX9_weighOf 239 = .ok (.iload 6, 2) := by decide +kernel
theorem dX9_weighOf_241 : decode cX9_weighOf 241 = .ok (.goto 5, 3) := by decide +kernel
theorem dX9_weighOf_244 : decode cX9_weighOf 244 = .ok (.iload 4, 2) := by decide +kernel
theorem dX9_weighOf_246 : decode cX9_weighOf 246 = .ok (.istore 4, 2) := by decide +kernel
theorem dX9_weighOf_248 : decode cX9_weighOf 248 = .ok (.iinc 5 1, 3) := by decide +kernel
theorem dX9_weighOf_251 : decode cX9_weighOf 251 = .ok (.goto (-172), 3) := by decide +kernel
theorem dX9_weighOf_254 : decode cX9_weighOf 254 = .ok (.iload_n 3, 1) := by decide +kernel
theorem dX9_weighOf_255 : decode cX9_weighOf 255 = .ok (.ireturn, 1) := by decide +kernel
theorem dX9_weigh_0 : decode cX9_weigh 0 = .ok (.iload_n 1, 1) := by decide +kernel
theorem dX9_weigh_1 : decode cX9_weigh 1 = .ok (.invokestatic 163, 3) := by decide +kernel
theorem dX9_weigh_4 : decode cX9_weigh 4 = .ok (.ifCond .eq 11, 3) := by decide +kernel
theorem dX9_weigh_7 : decode cX9_weigh 7 = .ok (.aload_n 0, 1) := by decide +kernel
theorem dX9_weigh_8 : decode cX9_weigh 8 = .ok (.iload_n 1, 1) := by decide +kernel
theorem dX9_weigh_9 : decode cX9_weigh 9 = .ok (.invokevirtual 312, 3) := by decide +kernel
theorem dX9_weigh_12 : decode cX9_weigh 12 = .ok (.goto 5, 3) := by decide +kernel
theorem dX9_weigh_15 : decode cX9_weigh 15 = .ok (.bipush (-2), 2) := by decide +kernel
theorem dX9_weigh_17 : decode cX9_weigh 17 = .ok (.ireturn, 1) := by decide +kernel
theorem dX9_heatOf_0 : decode cX9_heatOf 0 = .ok (.aload_n 0, 1) := by decide +kernel
theorem dX9_heatOf_1 : decode cX9_heatOf 1 = .ok (.invokevirtual 236, 3) := by decide +kernel
theorem dX9_heatOf_4 : decode cX9_heatOf 4 = .ok (.lconst 0, 1) := by decide +kernel
theorem dX9_heatOf_5 : decode cX9_heatOf 5 = .ok (.lstore 5, 2) := by decide +kernel
theorem dX9_heatOf_7 : decode cX9_heatOf 7 = .ok (.iconst 0, 1) := by decide +kernel
theorem dX9_heatOf_8 : decode cX9_heatOf 8 = .ok (.istore 7, 2) := by decide +kernel
theorem dX9_heatOf_10 : decode cX9_heatOf 10 = .ok (.iload 7, 2) := by decide +kernel
theorem dX9_heatOf_12 : decode cX9_heatOf 12 = .ok (.iconst 1, 1) := by decide +kernel
theorem dX9_heatOf_13 : decode cX9_heatOf 13 = .ok (.iload_n 3, 1) := by decide +kernel
theorem dX9_heatOf_14 : decode cX9_heatOf 14 = .ok (.iconst 1, 1) := by decide +kernel
theorem dX9_heatOf_15 : decode cX9_heatOf 15 = .ok (.iadd, 1) := by decide +kernel
theorem dX9_heatOf_16 : decode cX9_heatOf 16 = .ok (.ishl, 1) := by decide +kernel
theorem dX9_heatOf_17 : decode cX9_heatOf 17 = .ok (.if_icmp .ge 91, 3) := by decide +kernel
theorem dX9_heatOf_20 : decode cX9_heatOf 20 = .ok (.lconst 1, 1) := by decide +kernel
theorem dX9_heatOf_21 : decode cX9_heatOf 21 = .ok (.lstore 8, 2) := by decide +kernel
theorem dX9_heatOf_23 : decode cX9_heatOf 23 = .ok (.iconst 0, 1) := by decide +kernel
theorem dX9_heatOf_24 : decode cX9_heatOf 24 = .ok (.istore 10, 2) := by decide +kernel
theorem dX9_heatOf_26 : decode cX9_heatOf 26 = .ok (.iload 10, 2) := by decide +kernel
theorem dX9_heatOf_28 : decode cX9_heatOf 28 = .ok (.iload_n 3, 1) := by decide +kernel
theorem dX9_heatOf_29 : decode cX9_heatOf 29 = .ok (.if_icmp .gt 48, 3) := by decide +kernel
theorem dX9_heatOf_32 : decode cX9_heatOf 32 = .ok (.aload_n 0, 1) := by decide +kernel
theorem dX9_heatOf_33 : decode cX9_heatOf 33 = .ok (.getfield 68, 3) := by decide +kernel
theorem dX9_heatOf_36 : decode cX9_heatOf 36 = .ok (.iload 10, 2) := by decide +kernel
theorem dX9_heatOf_38 : decode cX9_heatOf 38 = .ok (.iload 7, 2) := by decide +kernel
theorem dX9_heatOf_40 : decode cX9_heatOf 40 = .ok (.iload 10, 2) := by decide +kernel
theorem dX9_heatOf_42 : decode cX9_heatOf 42 = .ok (.invokestatic 274, 3) := by decide +kernel
theorem dX9_heatOf_45 : decode cX9_heatOf 45 = .ok (.bastore, 1) := by decide +kernel
theorem dX9_heatOf_46 : decode cX9_heatOf 46 = .ok (.lload 8, 2) := by decide +kernel
theorem dX9_heatOf_48 : decode cX9_heatOf 48 = .ok (.aload_n 0, 1) := by decide +kernel
theorem dX9_heatOf_49 : decode cX9_heatOf 49 = .ok (.getfield 68, 3) := by decide +kernel
theorem dX9_heatOf_52 : decode cX9_heatOf 52 = .ok (.iload 10, 2) := by decide +kernel
theorem dX9_heatOf_54 : decode cX9_heatOf 54 = .ok (.baload, 1) := by decide +kernel
theorem dX9_heatOf_55 : decode cX9_heatOf 55 = .ok (.ifCond .eq 8, 3) := by decide +kernel
theorem dX9_heatOf_58 : decode cX9_heatOf 58 = .ok (.iload_n 1, 1) := by decide +kernel
theorem dX9_heatOf_59 : decode cX9_heatOf 59 = .ok (.i2l, 1) := by decide +kernel
theorem dX9_heatOf_60 : decode cX9_heatOf 60 = .ok (.goto 8, 3) := by decide +kernel
theorem dX9_heatOf_63 : decode cX9_heatOf 63 = .ok (.bipush 16, 2) := by decide +kernel
theorem dX9_heatOf_65 : decode cX9_heatOf 65 = .ok (.iload_n 1, 1) := by decide +kernel
theorem dX9_heatOf_66 : decode cX9_heatOf 66 = .ok (.isub, 1) := by decide +kernel
theorem dX9_heatOf_67 : decode cX9_heatOf 67 = .ok (.i2l, 1) := by decide +kernel
theorem dX9_heatOf_68 : decode cX9_heatOf 68 = .ok (.lmul, 1) := by decide +kernel
theorem dX9_heatOf_69 : decode cX9_heatOf 69 = .ok (.lstore 8, 2) := by decide +kernel
theorem dX9_heatOf_71 : decode cX9_heatOf 71 = .ok (.iinc 10 1, 3) := by decide +kernel
theorem dX9_heatOf_74 : decode cX9_heatOf 74 = .ok (.goto (-48), 3) := by decide +kernel
theorem dX9_heatOf_77 : decode cX9_heatOf 77 = .ok (.aload_n 0, 1) := by decide +kernel
theorem dX9_heatOf_78 : decode cX9_heatOf 78 = .ok (.iload_n 3, 1) := by decide +kernel
theorem dX9_heatOf_79 : decode cX9_heatOf 79 = .ok (.invokevirtual 239, 3) := by decide +kernel
theorem dX9_heatOf_82 : decode cX9_heatOf 82 = .ok (.lload 5, 2) := by decide +kernel
theorem dX9_heatOf_84 : decode cX9_heatOf 84 = .ok (.aload_n 0, 1) := by decide +kernel
theorem dX9_heatOf_85 : decode cX9_heatOf 85 = .ok (.getfield 64, 3) := by decide +kernel
theorem dX9_heatOf_88 : decode cX9_heatOf 88 = .ok (.iload_n 2, 1) := by decide +kernel
theorem dX9_heatOf_89 : decode cX9_heatOf 89 = .ok (.baload, 1) := by decide +kernel
theorem dX9_heatOf_90 : decode cX9_heatOf 90 = .ok (.ifCond .eq 8, 3) := by decide +kernel
theorem dX9_heatOf_93 : decode cX9_heatOf 93 = .ok (.lload 8, 2) := by decide +kernel
theorem dX9_heatOf_95 : decode cX9_heatOf 95 = .ok (.goto 4, 3) := by decide +kernel
theorem dX9_heatOf_98 : decode cX9_heatOf 98 = .ok (.lconst 0, 1) := by decide +kernel
theorem dX9_heatOf_99 : decode cX9_heatOf 99 = .ok (.ladd, 1) := by decide +kernel
theorem dX9_heatOf_100 : decode cX9_heatOf 100 = .ok (.lstore 5, 2) := by decide +kernel
theorem dX9_heatOf_102 : decode cX9_heatOf 102 = .ok (.iinc 7 1, 3) := by decide +kernel
theorem dX9_heatOf_105 : decode cX9_heatOf 105 = .ok (.goto (-95), 3) := by decide +kernel
theorem dX9_heatOf_108 : decode cX9_heatOf 108 = .ok (.lload 5, 2) := by decide +kernel
theorem dX9_heatOf_110 : decode cX9_heatOf 110 = .ok (.lconst 1, 1) := by decide +kernel
theorem dX9_heatOf_111 : decode cX9_heatOf 111 = .ok (.iconst 4, 1) := by decide +kernel
theorem dX9_heatOf_112 : decode cX9_heatOf 112 = .ok (.iload_n 3, 1) := by decide +kernel
theorem dX9_heatOf_113 : decode cX9_heatOf 113 = .ok (.iconst 1, 1) := by decide +kernel
theorem dX9_heatOf_114 : decode cX9_heatOf 114 = .ok (.iadd, 1) := by decide +kernel
theorem dX9_heatOf_115 : decode cX9_heatOf 115 = .ok (.imul, 1) := by decide +kernel
theorem dX9_heatOf_116 : decode cX9_heatOf 116 = .ok (.lshl, 1) := by decide +kernel
theorem dX9_heatOf_117 : decode cX9_heatOf 117 = .ok (.iload 4, 2) := by decide +kernel
theorem dX9_heatOf_119 : decode cX9_heatOf 119 = .ok (.invokestatic 315, 3) := by decide +kernel
theorem dX9_heatOf_122 : decode cX9_heatOf 122 = .ok (.lreturn, 1) := by decide +kernel
theorem dX9_heat_0 : decode cX9_heat 0 = .ok (.iload_n 1, 1) := by decide +kernel
theorem dX9_heat_1 : decode cX9_heat 1 = .ok (.iconst 0, 1) := by decide +kernel
theorem dX9_heat_2 : decode cX9_heat 2 = .ok (.bipush 16, 2) := by decide +kernel
theorem dX9_heat_4 : decode cX9_heat 4 = .ok (.invokestatic 116, 3) := by decide +kernel
theorem dX9_heat_7 : decode cX9_heat 7 = .ok (.ifCond .eq 43, 3) := by decide +kernel
theorem dX9_heat_10 : decode cX9_heat 10 = .ok (.aload_n 0, 1) := by decide +kernel
theorem dX9_heat_11 : decode cX9_heat 11 = .ok (.iload_n 2, 1) := by decide +kernel
theorem dX9_heat_12 : decode cX9_heat 12 = .ok (.invokevirtual 151, 3) := by decide +kernel
theorem dX9_heat_15 : decode cX9_heat 15 = .ok (.ifCond .eq 35, 3) := by decide +kernel
theorem dX9_heat_18 : decode cX9_heat 18 = .ok (.iload_n 3, 1) := by decide +kernel
theorem dX9_heat_19 : decode cX9_heat 19 = .ok (.iconst 0, 1) := by decide +kernel
theorem dX9_heat_20 : decode cX9_heat 20 = .ok (.bipush 9, 2) := by decide +kernel
theorem dX9_heat_22 : decode cX9_heat 22 = .ok (.invokestatic 116, 3) := by decide +kernel
theorem dX9_heat_25 : decode cX9_heat 25 = .ok (.ifCond .eq 25, 3) := by decide +kernel
theorem dX9_heat_28 : decode cX9_heat 28 = .ok (.iload 4, 2) := by decide +kernel
theorem dX9_heat_30 : decode cX9_heat 30 = .ok (.iconst 0, 1) := by decide +kernel
theorem dX9_heat_31 : decode cX9_heat 31 = .ok (.iconst 1, 1) := by decide +kernel
theorem dX9_heat_32 : decode cX9_heat 32 = .ok (.invokestatic 116, 3) := by decide +kernel
theorem dX9_heat_35 : decode cX9_heat 35 = .ok (.ifCond .eq 15, 3) := by decide +kernel
theorem dX9_heat_38 : decode cX9_heat 38 = .ok (.aload_n 0, 1) := by decide +kernel
theorem dX9_heat_39 : decode cX9_heat 39 = .ok (.iload_n 1, 1) := by decide +kernel
theorem dX9_heat_40 : decode cX9_heat 40 = .ok (.iload_n 2, 1) := by decide +kernel
theorem dX9_heat_41 : decode cX9_heat 41 = .ok (.iload_n 3, 1) := by decide +kernel
theorem dX9_heat_42 : decode cX9_heat 42 = .ok (.iload 4, 2) := by decide +kernel
theorem dX9_heat_44 : decode cX9_heat 44 = .ok (.invokevirtual 319, 3) := by decide +kernel
theorem dX9_heat_47 : decode cX9_heat 47 = .ok (.goto 8, 3) := by decide +kernel
theorem dX9_heat_50 : decode cX9_heat 50 = .ok (.bipush (-2), 2) := by decide +kernel
theorem dX9_heat_52 : decode cX9_heat 52 = .ok (.invokestatic 323, 3) := by decide +kernel
theorem dX9_heat_55 : decode cX9_heat 55 = .ok (.lreturn, 1) := by decide +kernel
theorem dX9_marketOf_0 : decode cX9_marketOf 0 = .ok (.aload_n 0, 1) := by decide +kernel
theorem dX9_marketOf_1 : decode cX9_marketOf 1 = .ok (.invokevirtual 236, 3) := by decide +kernel
theorem dX9_marketOf_4 : decode cX9_marketOf 4 = .ok (.iload_n 1, 1) := by decide +kernel
theorem dX9_marketOf_5 : decode cX9_marketOf 5 = .ok (.istore 4, 2) := by decide +kernel
theorem dX9_marketOf_7 : decode cX9_marketOf 7 = .ok (.iconst 0, 1) := by decide +kernel
theorem dX9_marketOf_8 : decode cX9_marketOf 8 = .ok (.istore 5, 2) := by decide +kernel
theorem dX9_marketOf_10 : decode cX9_marketOf 10 = .ok (.iload 5, 2) := by decide +kernel
theorem dX9_marketOf_12 : decode cX9_marketOf 12 = .ok (.iload_n 2, 1) := by decide +kernel
theorem dX9_marketOf_13 : decode cX9_marketOf 13 = .ok (.if_icmp .gt 82, 3) := by decide +kernel
theorem dX9_marketOf_16 : decode cX9_marketOf 16 = .ok (.aload_n 0, 1) := by decide +kernel
theorem dX9_marketOf_17 : decode cX9_marketOf 17 = .ok (.getfield 128, 3) := by decide +kernel
theorem dX9_marketOf_20 : decode cX9_marketOf 20 = .ok (.ifCond .le 75, 3) := by decide +kernel
theorem dX9_marketOf_23 : decode cX9_marketOf 23 = .ok (.ldc_w 327, 3) := by decide +kernel
theorem dX9_marketOf_26 : decode cX9_marketOf 26 = .ok (.iload 4, 2) := by decide +kernel
theorem dX9_marketOf_28 : decode cX9_marketOf 28 = .ok (.imul, 1) := by decide +kernel
theorem dX9_marketOf_29 : decode cX9_marketOf 29 = .ok (.sipush 12345, 3) := by decide +kernel
theorem dX9_marketOf_32 : decode cX9_marketOf 32 = .ok (.iadd, 1) := by decide +kernel
theorem dX9_marketOf_33 : decode cX9_marketOf 33 = .ok (.istore 4, 2) := by decide +kernel
theorem dX9_marketOf_35 : decode cX9_marketOf 35 = .ok (.aload_n 0, 1) := by decide +kernel
theorem dX9_marketOf_36 : decode cX9_marketOf 36 = .ok (.getfield 49, 3) := by decide +kernel
theorem dX9_marketOf_39 : decode cX9_marketOf 39 = .ok (.iload 5, 2) := by decide +kernel
theorem dX9_marketOf_41 : decode cX9_marketOf 41 = .ok (.iload 4, 2) := by decide +kernel
theorem dX9_marketOf_43 : decode cX9_marketOf 43 = .ok (.bipush 16, 2) := by decide +kernel
theorem dX9_marketOf_45 : decode cX9_marketOf 45 = .ok (.iushr, 1) := by decide +kernel
theorem dX9_marketOf_46 : decode cX9_marketOf 46 = .ok (.aload_n 0, 1) := by decide +kernel
theorem dX9_marketOf_47 : decode cX9_marketOf 47 = .ok (.getfield 128, 3) := by decide +kernel
theorem dX9_marketOf_50 : decode cX9_marketOf 50 = .ok (.irem, 1) := by decide +kernel
theorem dX9_marketOf_51 : decode cX9_marketOf 51 = .ok (.iastore, 1) := by decide +kernel
theorem dX9_marketOf_52 : decode cX9_marketOf 52 = .ok (.ldc_w 327, 3) := by decide +kernel
theorem dX9_marketOf_55 : decode cX9_marketOf 55 = .ok (.iload 4, 2) := by decide +kernel
theorem dX9_marketOf_57 : decode cX9_marketOf 57 = .ok (.imul, 1) := by decide +kernel
theorem dX9_marketOf_58 : decode cX9_marketOf 58 = .ok (.sipush 12345, 3) := by decide +kernel
theorem dX9_marketOf_61 : decode cX9_marketOf 61 = .ok (.iadd, 1) := by decide +kernel
theorem dX9_marketOf_62 : decode cX9_marketOf 62 = .ok (.istore 4, 2) := by decide +kernel
theorem dX9_marketOf_64 : decode cX9_marketOf 64 = .ok (.aload_n 0, 1) := by decide +kernel
theorem dX9_marketOf_65 : decode cX9_marketOf 65 = .ok (.getfield 52, 3) := by decide +kernel
theorem dX9_marketOf_68 : decode cX9_marketOf 68 = .ok (.iload 5, 2) := by decide +kernel
theorem dX9_marketOf_70 : decode cX9_marketOf 70 = .ok (.iload 4, 2) := by decide +kernel
theorem dX9_marketOf_72 : decode cX9_marketOf 72 = .ok (.bipush 16, 2) := by decide +kernel
theorem dX9_marketOf_74 : decode cX9_marketOf 74 = .ok (.iushr, 1) := by decide +kernel
theorem dX9_marketOf_75 : decode cX9_marketOf 75 = .ok (.bipush 6, 2) := by decide +kernel
theorem dX9_marketOf_77 : decode cX9_marketOf 77 = .ok (.irem, 1) := by decide +kernel
theorem dX9_marketOf_78 : decode cX9_marketOf 78 = .ok (.iastore, 1) := by decide +kernel
theorem dX9_marketOf_79 : decode cX9_marketOf 79 = .ok (.aload_n 0, 1) := by decide +kernel
theorem dX9_marketOf_80 : decode cX9_marketOf 80 = .ok (.dup, 1) := by decide +kernel
theorem dX9_marketOf_81 : decode cX9_marketOf 81 = .ok (.getfield 194, 3) := by decide +kernel
theorem dX9_marketOf_84 : decode cX9_marketOf 84 = .ok (.iconst 1, 1) := by decide +kernel
theorem dX9_marketOf_85 : decode cX9_marketOf 85 = .ok (.iadd, 1) := by decide +kernel
theorem dX9_marketOf_86 : decode cX9_marketOf 86 = .ok (.putfield 194, 3) := by decide +kernel
theorem dX9_marketOf_89 : decode cX9_marketOf 89 = .ok (.iinc 5 1, 3) := by decide +kernel
theorem dX9_marketOf_92 : decode cX9_marketOf 92 = .ok (.goto (-82), 3) := by decide +kernel
theorem dX9_marketOf_95 : decode cX9_marketOf 95 = .ok (.aload_n 0, 1) := by decide +kernel
theorem dX9_marketOf_96 : decode cX9_marketOf 96 = .ok (.iload_n 2, 1) := by decide +kernel
theorem dX9_marketOf_97 : decode cX9_marketOf 97 = .ok (.invokevirtual 239, 3) := by decide +kernel
theorem dX9_marketOf_100 : decode cX9_marketOf 100 = .ok (.iload_n 3, 1) := by decide +kernel
theorem dX9_marketOf_101 : decode cX9_marketOf 101 = .ok (.iconst (-1), 1) := by decide +kernel
theorem dX9_marketOf_102 : decode cX9_marketOf 102 = .ok (.if_icmp .ne 10, 3) := by decide +kernel
theorem dX9_marketOf_105 : decode cX9_marketOf 105 = .ok (.aload_n 0, 1) := by decide +kernel
theorem dX9_marketOf_106 : decode cX9_marketOf 106 = .ok (.getfield 200, 3) := by decide +kernel
theorem dX9_marketOf_109 : decode cX9_marketOf 109 = .ok (.goto 9, 3) := by decide +kernel
theorem dX9_marketOf_112 : decode cX9_marketOf 112 = .ok (.aload_n 0, 1) := by decide +kernel
theorem dX9_marketOf_113 : decode cX9_marketOf 113 = .ok (.getfield 58, 3) := by decide +kernel
theorem dX9_marketOf_116 : decode cX9_marketOf 116 = .ok (.iload_n 3, 1) := by decide +kernel
theorem dX9_marketOf_117 : decode cX9_marketOf 117 = .ok (.iaload, 1) := by decide +kernel
theorem dX9_marketOf_118 : decode cX9_marketOf 118 = .ok (.ireturn, 1) := by decide +kernel
theorem dX9_market_0 : decode cX9_market 0 = .ok (.iload_n 2, 1) := by decide +kernel
theorem dX9_market_1 : decode cX9_market 1 = .ok (.invokestatic 163, 3) := by decide +kernel
theorem dX9_market_4 : decode cX9_market 4 = .ok (.ifCond .eq 26, 3) := by decide +kernel
theorem dX9_market_7 : decode cX9_market 7 = .ok (.iload_n 3, 1) := by decide +kernel
theorem dX9_market_8 : decode cX9_market 8 = .ok (.iconst (-1), 1) := by decide +kernel
theorem dX9_market_9 : decode cX9_market 9 = .ok (.if_icmp .eq 11, 3) := by decide +kernel
theorem dX9_market_12 : decode cX9_market 12 = .ok (.aload_n 0, 1) := by decide +kernel
theorem dX9_market_13 : decode cX9_market 13 = .ok (.iload_n 3, 1) := by decide +kernel
theorem dX9_market_14 : decode cX9_market 14 = .ok (.invokevirtual 151, 3) := by decide +kernel
theorem dX9_market_17 : decode cX9_market 17 = .ok (.ifCond .eq 13, 3) := by decide +kernel
theorem dX9_market_20 : decode cX9_market 20 = .ok (.aload_n 0, 1) := by decide +kernel
theorem dX9_market_21 : decode cX9_market 21 = .ok (.iload_n 1, 1) := by decide +kernel
theorem dX9_market_22 : decode cX9_market 22 = .ok (.iload_n 2, 1) := by decide +kernel
theorem dX9_market_23 : decode cX9_market 23 = .ok (.iload_n 3, 1) := by decide +kernel
theorem dX9_market_24 : decode cX9_market 24 = .ok (.invokevirtual 328, 3) := by decide +kernel
theorem dX9_market_27 : decode cX9_market 27 = .ok (.goto 5, 3) := by decide +kernel
theorem dX9_market_30 : decode cX9_market 30 = .ok (.bipush (-2), 2) := by decide +kernel
theorem dX9_market_32 : decode cX9_market 32 = .ok (.ireturn, 1) := by decide +kernel
theorem dX9_meets_0 : decode cX9_meets 0 = .ok (.aload_n 0, 1) := by decide +kernel
theorem dX9_meets_1 : decode cX9_meets 1 = .ok (.iload_n 1, 1) := by decide +kernel
theorem dX9_meets_2 : decode cX9_meets 2 = .ok (.putfield 331, 3) := by decide +kernel
theorem dX9_meets_5 : decode cX9_meets 5 = .ok (.bipush (-10), 2) := by decide +kernel
theorem dX9_meets_7 : decode cX9_meets 7 = .ok (.iload_n 1, 1) := by decide +kernel
theorem dX9_meets_8 : decode cX9_meets 8 = .ok (.isub, 1) := by decide +kernel
theorem dX9_meets_9 : decode cX9_meets 9 = .ok (.ireturn, 1) := by decide +kernel
theorem dX9_isSheet_0 : decode cX9_isSheet 0 = .ok (.iload_n 0, 1) := by decide +kernel
theorem dX9_isSheet_1 : decode cX9_isSheet 1 = .ok (.iconst 0, 1) := by decide +kernel
theorem dX9_isSheet_2 : decode cX9_isSheet 2 = .ok (.iconst 3, 1) := by decide +kernel
theorem dX9_isSheet_3 : decode cX9_isSheet 3 = .ok (.invokestatic 116, 3) := by decide +kernel
theorem dX9_isSheet_6 : decode cX9_isSheet 6 = .ok (.ireturn, 1) := by decide +kernel
theorem dX9_sheet_0 : decode cX9_sheet 0 = .ok (.iload_n 1, 1) := by decide +kernel
theorem dX9_sheet_1 : decode cX9_sheet 1 = .ok (.invokestatic 172, 3) := by decide +kernel
theorem dX9_sheet_4 : decode cX9_sheet 4 = .ok (.ifCond .eq 18, 3) := by decide +kernel
theorem dX9_sheet_7 : decode cX9_sheet 7 = .ok (.iload_n 2, 1) := by decide +kernel
theorem dX9_sheet_8 : decode cX9_sheet 8 = .ok (.iconst 0, 1) := by decide +kernel
theorem dX9_sheet_9 : decode cX9_sheet 9 = .ok (.iconst 2, 1) := by decide +kernel
theorem dX9_sheet_10 : decode cX9_sheet 10 = .ok (.invokestatic 116, 3) := by decide +kernel
theorem dX9_sheet_13 : decode cX9_sheet 13 = .ok (.ifCond .eq 9, 3) := by decide +kernel
theorem dX9_sheet_16 : decode cX9_sheet 16 = .ok (.iload_n 3, 1) := by decide +kernel
theorem dX9_sheet_17 : decode cX9_sheet 17 = .ok (.bipush 60, 2) := by decide +kernel
theorem dX9_sheet_19 : decode cX9_sheet 19 = .ok (.if_icmp .le 6, 3) := by decide +kernel
theorem dX9_sheet_22 : decode cX9_sheet 22 = .ok (.bipush (-2), 2) := by decide +kernel
theorem dX9_sheet_24 : decode cX9_sheet 24 = .ok (.ireturn, 1) := by decide +kernel
theorem dX9_sheet_25 : decode cX9_sheet 25 = .ok (.iload_n 3, 1) := by decide +kernel
theorem dX9_sheet_26 : decode cX9_sheet 26 = .ok (.ifCond .ge 9, 3) := by decide +kernel
theorem dX9_sheet_29 : decode cX9_sheet 29 = .ok (.aload_n 0, 1) := by decide +kernel
theorem dX9_sheet_30 : decode cX9_sheet 30 = .ok (.iconst 5, 1) := by decide +kernel
theorem dX9_sheet_31 : decode cX9_sheet 31 = .ok (.invokevirtual 175, 3) := by decide +kernel
theorem dX9_sheet_34 : decode cX9_sheet 34 = .ok (.ireturn, 1) := by decide +kernel
theorem dX9_sheet_35 : decode cX9_sheet 35 = .ok (.aload_n 0, 1) := by decide +kernel
theorem dX9_sheet_36 : decode cX9_sheet 36 = .ok (.getfield 95, 3) := by decide +kernel
theorem dX9_sheet_39 : decode cX9_sheet 39 = .ok (.iload_n 1, 1) := by decide +kernel
theorem dX9_sheet_40 : decode cX9_sheet 40 = .ok (.iconst 1, 1) := by decide +kernel
theorem dX9_sheet_41 : decode cX9_sheet 41 = .ok (.bastore, 1) := by decide +kernel
theorem dX9_sheet_42 : decode cX9_sheet 42 = .ok (.aload_n 0, 1) := by decide +kernel
theorem dX9_sheet_43 : decode cX9_sheet 43 = .ok (.getfield 98, 3) := by decide +kernel
theorem dX9_sheet_46 : decode cX9_sheet 46 = .ok (.iload_n 1, 1) := by decide +kernel
theorem dX9_sheet_47 : decode cX9_sheet 47 = .ok (.iload_n 2, 1) := by decide +kernel
theorem dX9_sheet_48 : decode cX9_sheet 48 = .ok (.iastore, 1) := by decide +kernel
theorem dX9_sheet_49 : decode cX9_sheet 49 = .ok (.aload_n 0, 1) := by decide +kernel
theorem dX9_sheet_50 : decode cX9_sheet 50 = .ok (.getfield 101, 3) := by decide +kernel
theorem dX9_sheet_53 : decode cX9_sheet 53 = .ok (.iload_n 1, 1) := by decide +kernel
theorem dX9_sheet_54 : decode cX9_sheet 54 = .ok (.iload_n 3, 1) := by decide +kernel
theorem dX9_sheet_55 : decode cX9_sheet 55 = .ok (.iastore, 1) := by decide +kernel
theorem dX9_sheet_56 : decode cX9_sheet 56 = .ok (.iconst 0, 1) := by decide +kernel
theorem dX9_sheet_57 : decode cX9_sheet 57 = .ok (.istore 4, 2) := by decide +kernel
theorem dX9_sheet_59 : decode cX9_sheet 59 = .ok (.iload 4, 2) := by decide +kernel
theorem dX9_sheet_61 : decode cX9_sheet 61 = .ok (.bipush 60, 2) := by decide +kernel
theorem dX9_sheet_63 : decode cX9_sheet 63 = .ok (.if_icmp .ge 22, 3) := by decide +kernel
theorem dX9_sheet_66 : decode cX9_sheet 66 = .ok (.aload_n 0, 1) := by decide +kernel
theorem dX9_sheet_67 : decode cX9_sheet 67 = .ok (.getfield 104, 3) := by decide +kernel
theorem dX9_sheet_70 : decode cX9_sheet 70 = .ok (.bipush 60, 2) := by decide +kernel
theorem dX9_sheet_72 : decode cX9_sheet 72 = .ok (.iload_n 1, 1) := by decide +kernel
theorem dX9_sheet_73 : decode cX9_sheet 73 = .ok (.imul, 1) := by decide +kernel
theorem dX9_sheet_74 : decode cX9_sheet 74 = .ok (.iload 4, 2) := by decide +kernel
theorem dX9_sheet_76 : decode cX9_sheet 76 = .ok (.iadd, 1) := by decide +kernel
theorem dX9_sheet_77 : decode cX9_sheet 77 = .ok (.iconst 0, 1) := by decide +kernel
theorem dX9_sheet_78 : decode cX9_sheet 78 = .ok (.iastore, 1) := by decide +kernel
theorem dX9_sheet_79 : decode cX9_sheet 79 = .ok (.iinc 4 1, 3) := by decide +kernel
theorem dX9_sheet_82 : decode cX9_sheet 82 = .ok (.goto (-23), 3) := by decide +kernel
theorem dX9_sheet_85 : decode cX9_sheet 85 = .ok (.iload_n 3, 1) := by decide +kernel
theorem dX9_sheet_86 : decode cX9_sheet 86 = .ok (.ireturn, 1) := by decide +kernel
theorem dX9_lose_0 : decode cX9_lose 0 = .ok (.iload_n 1, 1) := by decide +kernel
theorem dX9_lose_1 : decode cX9_lose 1 = .ok (.invokestatic 172, 3) := by decide +kernel
theorem dX9_lose_4 : decode cX9_lose 4 = .ok (.ifCond .ne 6, 3) := by decide +kernel
theorem dX9_lose_7 : decode cX9_lose 7 = .ok (.bipush (-2), 2) := by decide +kernel
theorem dX9_lose_9 : decode cX9_lose 9 = .ok (.ireturn, 1) := by decide +kernel
theorem dX9_lose_10 : decode cX9_lose 10 = .ok (.aload_n 0, 1) := by decide +kernel
theorem dX9_lose_11 : decode cX9_lose 11 = .ok (.getfield 95, 3) := by decide +kernel
theorem dX9_lose_14 : decode cX9_lose 14 = .ok (.iload_n 1, 1) := by decide +kernel
theorem dX9_lose_15 : decode cX9_lose 15 = .ok (.baload, 1) := by decide +kernel
theorem dX9_lose_16 : decode cX9_lose 16 = .ok (.ifCond .ne 9, 3) := by decide +kernel
theorem dX9_lose_19 : decode cX9_lose 19 = .ok (.aload_n 0, 1) := by decide +kernel
theorem dX9_lose_20 : decode cX9_lose 20 = .ok (.iconst 1, 1) := by decide +kernel
theorem dX9_lose_21 : decode cX9_lose 21 = .ok (.invokevirtual 175, 3) := by decide +kernel
theorem dX9_lose_24 : decode cX9_lose 24 = .ok (.ireturn, 1) := by decide +kernel
theorem dX9_lose_25 : decode cX9_lose 25 = .ok (.aload_n 0, 1) := by decide +kernel
theorem dX9_lose_26 : decode cX9_lose 26 = .ok (.getfield 95, 3) := by decide +kernel
theorem dX9_lose_29 : decode cX9_lose 29 = .ok (.iload_n 1, 1) := by decide +kernel
theorem dX9_lose_30 : decode cX9_lose 30 = .ok (.iconst 0, 1) := by decide +kernel
theorem dX9_lose_31 : decode cX9_lose 31 = .ok (.bastore, 1) := by decide +kernel
theorem dX9_lose_32 : decode cX9_lose 32 = .ok (.aload_n 0, 1) := by decide +kernel
theorem dX9_lose_33 : decode cX9_lose 33 = .ok (.getfield 101, 3) := by decide +kernel
theorem dX9_lose_36 : decode cX9_lose 36 = .ok (.iload_n 1, 1) := by decide +kernel
theorem dX9_lose_37 : decode cX9_lose 37 = .ok (.iaload, 1) := by decide +kernel
theorem dX9_lose_38 : decode cX9_lose 38 = .ok (.ireturn, 1) := by decide +kernel
theorem dX9_lacks_0 : decode cX9_lacks 0 = .ok (.aload_n 0, 1) := by decide +kernel
theorem dX9_lacks_1 : decode cX9_lacks 1 = .ok (.getfield 95, 3) := by decide +kernel
theorem dX9_lacks_4 : decode cX9_lacks 4 = .ok (.iload_n 1, 1) := by decide +kernel
theorem dX9_lacks_5 : decode cX9_lacks 5 = .ok (.baload, 1) := by decide +kernel
theorem dX9_lacks_6 : decode cX9_lacks 6 = .ok (.ifCond .ne 7, 3) := by decide +kernel
theorem dX9_lacks_9 : decode cX9_lacks 9 = .ok (.iconst 1, 1) := by decide +kernel
theorem dX9_lacks_10 : decode cX9_lacks 10 = .ok (.goto 38, 3) := by decide +kernel
theorem dX9_lacks_13 : decode cX9_lacks 13 = .ok (.aload_n 0, 1) := by decide +kernel
theorem dX9_lacks_14 : decode cX9_lacks 14 = .ok (.getfield 98, 3) := by decide +kernel
theorem dX9_lacks_17 : decode cX9_lacks 17 = .ok (.iload_n 1, 1) := by decide +kernel
theorem dX9_lacks_18 : decode cX9_lacks 18 = .ok (.iaload, 1) := by decide +kernel
theorem dX9_lacks_19 : decode cX9_lacks 19 = .ok (.iload_n 2, 1) := by decide +kernel
theorem dX9_lacks_20 : decode cX9_lacks 20 = .ok (.if_icmp .eq 7, 3) := by decide +kernel
theorem dX9_lacks_23 : decode cX9_lacks 23 = .ok (.iconst 3, 1) := by decide +kernel
theorem dX9_lacks_24 : decode cX9_lacks 24 = .ok (.goto 24, 3) := by decide +kernel
theorem dX9_lacks_27 : decode cX9_lacks 27 = .ok (.iload_n 3, 1) := by decide +kernel
theorem dX9_lacks_28 : decode cX9_lacks 28 = .ok (.iconst 0, 1) := by decide +kernel
theorem dX9_lacks_29 : decode cX9_lacks 29 = .ok (.aload_n 0, 1) := by decide +kernel
theorem dX9_lacks_30 : decode cX9_lacks 30 = .ok (.getfield 101, 3) := by decide +kernel
theorem dX9_lacks_33 : decode cX9_lacks 33 = .ok (.iload_n 1, 1) := by decide +kernel
theorem dX9_lacks_34 : decode cX9_lacks 34 = .ok (.iaload, 1) := by decide +kernel
theorem dX9_lacks_35 : decode cX9_lacks 35 = .ok (.iconst 1, 1) := by decide +kernel
theorem dX9_lacks_36 : decode cX9_lacks 36 = .ok (.isub, 1) := by decide +kernel
theorem dX9_lacks_37 : decode cX9_lacks 37 = .ok (.invokestatic 116, 3) := by decide +kernel
theorem dX9_lacks_40 : decode cX9_lacks 40 = .ok (.ifCond .eq 7, 3) := by decide +kernel
theorem dX9_lacks_43 : decode cX9_lacks 43 = .ok (.iconst 0, 1) := by decide +kernel
theorem dX9_lacks_44 : decode cX9_lacks 44 = .ok (.goto 4, 3) := by decide +kernel
theorem dX9_lacks_47 : decode cX9_lacks 47 = .ok (.iconst 2, 1) := by decide +kernel
theorem dX9_lacks_48 : decode cX9_lacks 48 = .ok (.ireturn, 1) := by decide +kernel
theorem dX9_keep_0 : decode cX9_keep 0 = .ok (.aload_n 0, 1) := by decide +kernel
theorem dX9_keep_1 : decode cX9_keep 1 = .ok (.getfield 104, 3) := by decide +kernel
theorem dX9_keep_4 : decode cX9_keep 4 = .ok (.bipush 60, 2) := by decide +kernel
theorem dX9_keep_6 : decode cX9_keep 6 = .ok (.iload_n 1, 1) := by decide +kernel
theorem dX9_keep_7 : decode cX9_keep 7 = .ok (.imul, 1) := by decide +kernel
theorem dX9_keep_8 : decode cX9_keep 8 = .ok (.iload_n 2, 1) := by decide +kernel
theorem dX9_keep_9 : decode cX9_keep 9 = .ok (.iadd, 1) := by decide +kernel
theorem dX9_keep_10 : decode cX9_keep 10 = .ok (.aload_n 0, 1) := by decide +kernel
theorem dX9_keep_11 : decode cX9_keep 11 = .ok (.getfield 98, 3) := by decide +kernel
theorem dX9_keep_14 : decode cX9_keep 14 = .ok (.iload_n 1, 1) := by decide +kernel
theorem dX9_keep_15 : decode cX9_keep 15 = .ok (.iaload, 1) := by decide +kernel
theorem dX9_keep_16 : decode cX9_keep 16 = .ok (.ifCond .ne 8, 3) := by decide +kernel
theorem dX9_keep_19 : decode cX9_keep 19 = .ok (.iload_n 3, 1) := by decide +kernel
theorem dX9_keep_20 : decode cX9_keep 20 = .ok (.i2b, 1) := by decide +kernel
theorem dX9_keep_21 : decode cX9_keep 21 = .ok (.goto 19, 3) := by decide +kernel
theorem dX9_keep_24 : decode cX9_keep 24 = .ok (.aload_n 0, 1) := by decide +kernel
theorem dX9_keep_25 : decode cX9_keep 25 = .ok (.getfield 98, 3) := by decide +kernel
theorem dX9_keep_28 : decode cX9_keep 28 = .ok (.iload_n 1, 1) := by decide +kernel
theorem dX9_keep_29 : decode cX9_keep 29 = .ok (.iaload, 1) := by decide +kernel
theorem dX9_keep_30 : decode cX9_keep 30 = .ok (.iconst 1, 1) := by decide +kernel
theorem dX9_keep_31 : decode cX9_keep 31 = .ok (.if_icmp .ne 8, 3) := by decide +kernel
theorem dX9_keep_34 : decode cX9_keep 34 = .ok (.iload_n 3, 1) := by decide +kernel
theorem dX9_keep_35 : decode cX9_keep 35 = .ok (.i2s, 1) := by decide +kernel
theorem dX9_keep_36 : decode cX9_keep 36 = .ok (.goto 4, 3) := by decide +kernel
theorem dX9_keep_39 : decode cX9_keep 39 = .ok (.iload_n 3, 1) := by decide +kernel
theorem dX9_keep_40 : decode cX9_keep 40 = .ok (.iastore, 1) := by decide +kernel
theorem dX9_keep_41 : decode cX9_keep 41 = .ok (.return_, 1) := by decide +kernel
theorem dX9_put_0 : decode cX9_put 0 = .ok (.iload_n 1, 1) := by decide +kernel
theorem dX9_put_1 : decode cX9_put 1 = .ok (.invokestatic 172, 3) := by decide +kernel
theorem dX9_put_4 : decode cX9_put 4 = .ok (.ifCond .eq 12, 3) := by decide +kernel
theorem dX9_put_7 : decode cX9_put 7 = .ok (.iload_n 2, 1) := by decide +kernel
theorem dX9_put_8 : decode cX9_put 8 = .ok (.iconst 0, 1) := by decide +kernel
theorem dX9_put_9 : decode cX9_put 9 = .ok (.iconst 2, 1) := by decide +kernel
theorem dX9_put_10 : decode cX9_put 10 = .ok (.invokestatic 116, 3) := by decide +kernel
theorem dX9_put_13 : decode cX9_put 13 = .ok (.ifCond .ne 6, 3) := by decide +kernel
theorem dX9_put_16 : decode cX9_put 16 = .ok (.bipush (-2), 2) := by decide +kernel
theorem dX9_put_18 : decode cX9_put 18 = .ok (.ireturn, 1) := by decide +kernel
theorem dX9_put_19 : decode cX9_put 19 = .ok (.aload_n 0, 1) := by decide +kernel
theorem dX9_put_20 : decode cX9_put 20 = .ok (.iload_n 1, 1) := by decide +kernel
theorem dX9_put_21 : decode cX9_put 21 = .ok (.iload_n 2, 1) := by decide +kernel
theorem dX9_put_22 : decode cX9_put 22 = .ok (.iload_n 3, 1) := by decide +kernel
theorem dX9_put_23 : decode cX9_put 23 = .ok (.invokevirtual 334, 3) := by decide +kernel
theorem dX9_put_26 : decode cX9_put 26 = .ok (.istore 5, 2) := by decide +kernel
theorem dX9_put_28 : decode cX9_put 28 = .ok (.iload 5, 2) := by decide +kernel
theorem dX9_put_30 : decode cX9_put 30 = .ok (.ifCond .le 10, 3) := by decide +kernel
theorem dX9_put_33 : decode cX9_put 33 = .ok (.aload_n 0, 1) := by decide +kernel
theorem dX9_put_34 : decode cX9_put 34 = .ok (.iload 5, 2) := by decide +kernel
theorem dX9_put_36 : decode cX9_put 36 = .ok (.invokevirtual 175, 3) := by decide +kernel
theorem dX9_put_39 : decode cX9_put 39 = .ok (.ireturn, 1) := by decide +kernel
theorem dX9_put_40 : decode cX9_put 40 = .ok (.aload_n 0, 1) := by decide +kernel
theorem dX9_put_41 : decode cX9_put 41 = .ok (.iload_n 1, 1) := by decide +kernel
theorem dX9_put_42 : decode cX9_put 42 = .ok (.iload_n 3, 1) := by decide +kernel
theorem dX9_put_43 : decode cX9_put 43 = .ok (.iload 4, 2) := by decide +kernel
theorem dX9_put_45 : decode cX9_put 45 = .ok (.invokevirtual 337, 3) := by decide +kernel
theorem dX9_put_48 : decode cX9_put 48 = .ok (.iconst 1, 1) := by decide +kernel
theorem dX9_put_49 : decode cX9_put 49 = .ok (.ireturn, 1) := by decide +kernel
theorem dX9_get_0 : decode cX9_get 0 = .ok (.iload_n 1, 1) := by decide +kernel
theorem dX9_get_1 : decode cX9_get 1 = .ok (.invokestatic 172, 3) := by decide +kernel
theorem dX9_get_4 : decode cX9_get 4 = .ok (.ifCond .eq 12, 3) := by decide +kernel
theorem dX9_get_7 : decode cX9_get 7 = .ok (.iload_n 2, 1) := by decide +kernel
theorem dX9_get_8 : decode cX9_get 8 = .ok (.iconst 0, 1) := by decide +kernel
theorem dX9_get_9 : decode cX9_get 9 = .ok (.iconst 2, 1) := by decide +kernel
theorem dX9_get_10 : decode cX9_get 10 = .ok (.invokestatic 116, 3) := by decide +kernel
theorem dX9_get_13 : decode cX9_get 13 = .ok (.ifCond .ne 7, 3) := by decide +kernel
theorem dX9_get_16 : decode cX9_get 16 = .ok (.ldc_w 341, 3) := by decide +kernel
theorem dX9_get_19 : decode cX9_get 19 = .ok (.ireturn, 1) := by decide +kernel
theorem dX9_get_20 : decode cX9_get 20 = .ok (.aload_n 0, 1) := by decide +kernel
theorem dX9_get_21 : decode cX9_get 21 = .ok (.iload_n 1, 1) := by decide +kernel
theorem dX9_get_22 : decode cX9_get 22 = .ok (.iload_n 2, 1) := by decide +kernel
theorem dX9_get_23 : decode cX9_get 23 = .ok (.iload_n 3, 1) := by decide +kernel
theorem dX9_get_24 : decode cX9_get 24 = .ok (.invokevirtual 334, 3) := by decide +kernel
theorem dX9_get_27 : decode cX9_get 27 = .ok (.istore 4, 2) := by decide +kernel
theorem dX9_get_29 : decode cX9_get 29 = .ok (.iload 4, 2) := by decide +kernel
theorem dX9_get_31 : decode cX9_get 31 = .ok (.ifCond .le 13, 3) := by decide +kernel
theorem dX9_get_34 : decode cX9_get 34 = .ok (.aload_n 0, 1) := by decide +kernel
theorem dX9_get_35 : decode cX9_get 35 = .ok (.iload 4, 2) := by decide +kernel
theorem dX9_get_37 : decode cX9_get 37 = .ok (.putfield 331, 3) := by decide +kernel
theorem dX9_get_40 : decode cX9_get 40 = .ok (.ldc_w 341, 3) := by decide +kernel
theorem dX9_get_43 : decode cX9_get 43 = .ok (.ireturn, 1) := by decide +kernel
theorem dX9_get_44 : decode cX9_get 44 = .ok (.aload_n 0, 1) := by decide +kernel
theorem dX9_get_45 : decode cX9_get 45 = .ok (.getfield 104, 3) := by decide +kernel
theorem dX9_get_48 : decode cX9_get 48 = .ok (.bipush 60, 2) := by decide +kernel
theorem dX9_get_50 : decode cX9_get 50 = .ok (.iload_n 1, 1) := by decide +kernel
theorem dX9_get_51 : decode cX9_get 51 = .ok (.imul, 1) := by decide +kernel
theorem dX9_get_52 : decode cX9_get 52 = .ok (.iload_n 3, 1) := by decide +kernel
theorem dX9_get_53 : decode cX9_get 53 = .ok (.iadd, 1) := by decide +kernel
theorem dX9_get_54 : decode cX9_get 54 = .ok (.iaload, 1) := by decide +kernel
theorem dX9_get_55 : decode cX9_get 55 = .ok (.ireturn, 1) := by decide +kernel
theorem dX9_copy_0 : decode cX9_copy 0 = .ok (.iload_n 1, 1) := by decide +kernel
theorem dX9_copy_1 : decode cX9_copy 1 = .ok (.invokestatic 172, 3) := by decide +kernel
theorem dX9_copy_4 : decode cX9_copy 4 = .ok (.ifCond .eq 10, 3) := by decide +kernel
theorem dX9_copy_7 : decode cX9_copy 7 = .ok (.iload_n 3, 1) := by decide +kernel
theorem dX9_copy_8 : decode cX9_copy 8 = .ok (.invokestatic 172, 3) := by decide +kernel
theorem dX9_copy_11 : decode cX9_copy 11 = .ok (.ifCond .ne 6, 3) := by decide +kernel
theorem dX9_copy_14 : decode cX9_copy 14 = .ok (.bipush (-2), 2) := by decide +kernel
theorem dX9_copy_16 : decode cX9_copy 16 = .ok (.ireturn, 1) := by decide +kernel
theorem dX9_copy_17 : decode cX9_copy 17 = .ok (.aload_n 0, 1) := by decide +kernel
theorem dX9_copy_18 : decode cX9_copy 18 = .ok (.getfield 95, 3) := by decide +kernel
theorem dX9_copy_21 : decode cX9_copy 21 = .ok (.iload_n 1, 1) := by decide +kernel
theorem dX9_copy_22 : decode cX9_copy 22 = .ok (.baload, 1) := by decide +kernel
theorem dX9_copy_23 : decode cX9_copy 23 = .ok (.ifCond .eq 12, 3) := by decide +kernel
theorem dX9_copy_26 : decode cX9_copy 26 = .ok (.aload_n 0, 1) := by decide +kernel
theorem dX9_copy_27 : decode cX9_copy 27 = .ok (.getfield 95, 3) := by decide +kernel
theorem dX9_copy_30 : decode cX9_copy 30 = .ok (.iload_n 3, 1) := by decide +kernel
theorem dX9_copy_31 : decode cX9_copy 31 = .ok (.baload, 1) := by decide +kernel
theorem dX9_copy_32 : decode cX9_copy 32 = .ok (.ifCond .ne 9, 3) := by decide +kernel
theorem dX9_copy_35 : decode cX9_copy 35 = .ok (.aload_n 0, 1) := by decide +kernel
theorem dX9_copy_36 : decode cX9_copy 36 = .ok (.iconst 1, 1) := by decide +kernel
theorem dX9_copy_37 : decode cX9_copy 37 = .ok (.invokevirtual 175, 3) := by decide +kernel
theorem dX9_copy_40 : decode cX9_copy 40 = .ok (.ireturn, 1) := by decide +kernel
theorem dX9_copy_41 : decode cX9_copy 41 = .ok (.aload_n 0, 1) := by decide +kernel
theorem dX9_copy_42 : decode cX9_copy 42 = .ok (.getfield 98, 3) := by decide +kernel
theorem dX9_copy_45 : decode cX9_copy 45 = .ok (.iload_n 1, 1) := by decide +kernel
theorem dX9_copy_46 : decode cX9_copy 46 = .ok (.iaload, 1) := by decide +kernel
theorem dX9_copy_47 : decode cX9_copy 47 = .ok (.aload_n 0, 1) := by decide +kernel
theorem dX9_copy_48 : decode cX9_copy 48 = .ok (.getfield 98, 3) := by decide +kernel
theorem dX9_copy_51 : decode cX9_copy 51 = .ok (.iload_n 3, 1) := by decide +kernel
theorem dX9_copy_52 : decode cX9_copy 52 = .ok (.iaload, 1) := by decide +kernel
theorem dX9_copy_53 : decode cX9_copy 53 = .ok (.if_icmp .eq 9, 3) := by decide +kernel
theorem dX9_copy_56 : decode cX9_copy 56 = .ok (.aload_n 0, 1) := by decide +kernel
theorem dX9_copy_57 : decode cX9_copy 57 = .ok (.iconst 4, 1) := by decide +kernel
theorem dX9_copy_58 : decode cX9_copy 58 = .ok (.invokevirtual 175, 3) := by decide +kernel
theorem dX9_copy_61 : decode cX9_copy 61 = .ok (.ireturn, 1) := by decide +kernel
theorem dX9_copy_62 : decode cX9_copy 62 = .ok (.iload_n 2, 1) := by decide +kernel
theorem dX9_copy_63 : decode cX9_copy 63 = .ok (.ifCond .lt 48, 3) := by decide +kernel
theorem dX9_copy_66 : decode cX9_copy 66 = .ok (.iload 4, 2) := by decide +kernel
theorem dX9_copy_68 : decode cX9_copy 68 = .ok (.ifCond .lt 43, 3) := by decide +kernel
theorem dX9_copy_71 : decode cX9_copy 71 = .ok (.iload 5, 2) := by decide +kernel
theorem dX9_copy_73 : decode cX9_copy 73 = .ok (.ifCond .lt 38, 3) := by decide +kernel
theorem dX9_copy_76 : decode cX9_copy 76 = .ok (.iload_n 2, 1) := by decide +kernel
theorem dX9_copy_77 : decode cX9_copy 77 = .ok (.i2l, 1) := by decide +kernel
theorem dX9_copy_78 : decode cX9_copy 78 = .ok (.iload 5, 2) := by decide +kernel
theorem dX9_copy_80 : decode cX9_copy 80 = .ok (.i2l, 1) := by decide +kernel
theorem dX9_copy_81 : decode cX9_copy 81 = .ok (.ladd, 1) := by decide +kernel
theorem dX9_copy_82 : decode cX9_copy 82 = .ok (.aload_n 0, 1) := by decide +kernel
theorem dX9_copy_83 : decode cX9_copy 83 = .ok (.getfield 101, 3) := by decide +kernel
theorem dX9_copy_86 : decode cX9_copy 86 = .ok (.iload_n 1, 1) := by decide +kernel
theorem dX9_copy_87 : decode cX9_copy 87 = .ok (.iaload, 1) := by decide +kernel
theorem dX9_copy_88 : decode cX9_copy 88 = .ok (.i2l, 1) := by decide +kernel
theorem dX9_copy_89 : decode cX9_copy 89 = .ok (.lcmp, 1) := by decide +kernel
theorem dX9_copy_90 : decode cX9_copy 90 = .ok (.ifCond .gt 21, 3) := by decide +kernel
theorem dX9_copy_93 : decode cX9_copy 93 = .ok (.iload 4, 2) := by decide +kernel
theorem dX9_copy_95 : decode cX9_copy 95 = .ok (.i2l, 1) := by decide +kernel
theorem dX9_copy_96 : decode cX9_copy 96 = .ok (.iload 5, 2) := by decide +kernel
theorem dX9_copy_98 : decode cX9_copy 98 = .ok (.i2l, 1) := by decide +kernel
theorem dX9_copy_99 : decode cX9_copy 99 = .ok (.ladd, 1) := by decide +kernel
theorem dX9_copy_100 : decode cX9_copy 100 = .ok (.aload_n 0, 1) := by decide +kernel
theorem dX9_copy_101 : decode cX9_copy 101 = .ok (.getfield 101, 3) := by decide +kernel
theorem dX9_copy_104 : decode cX9_copy 104 = .ok (.iload_n 3, 1) := by decide +kernel
theorem dX9_copy_105 : decode cX9_copy 105 = .ok (.iaload, 1) := by decide +kernel
theorem dX9_copy_106 : decode cX9_copy 106 = .ok (.i2l, 1) := by decide +kernel
theorem dX9_copy_107 : decode cX9_copy 107 = .ok (.lcmp, 1) := by decide +kernel
theorem dX9_copy_108 : decode cX9_copy 108 = .ok (.ifCond .le 9, 3) := by decide +kernel
theorem dX9_copy_111 : decode cX9_copy 111 = .ok (.aload_n 0, 1) := by decide +kernel
theorem dX9_copy_112 : decode cX9_copy 112 = .ok (.iconst 2, 1) := by decide +kernel
theorem dX9_copy_113 : decode cX9_copy 113 = .ok (.invokevirtual 175, 3) := by decide +kernel
theorem dX9_copy_116 : decode cX9_copy 116 = .ok (.ireturn, 1) := by decide +kernel
theorem dX9_copy_117 : decode cX9_copy 117 = .ok (.iconst 0, 1) := by decide +kernel
theorem dX9_copy_118 : decode cX9_copy 118 = .ok (.istore 6, 2) := by decide +kernel
theorem dX9_copy_120 : decode cX9_copy 120 = .ok (.iload 6, 2) := by decide +kernel
theorem dX9_copy_122 : decode cX9_copy 122 = .ok (.iload 5, 2) := by decide +kernel
theorem dX9_copy_124 : decode cX9_copy 124 = .ok (.if_icmp .ge 30, 3) := by decide +kernel
theorem dX9_copy_127 : decode cX9_copy 127 = .ok (.aload_n 0, 1) := by decide +kernel
theorem dX9_copy_128 : decode cX9_copy 128 = .ok (.getfield 107, 3) := by decide +kernel
theorem dX9_copy_131 : decode cX9_copy 131 = .ok (.iload 6, 2) := by decide +kernel
theorem dX9_copy_133 : decode cX9_copy 133 = .ok (.aload_n 0, 1) := by decide +kernel
theorem dX9_copy_134 : decode cX9_copy 134 = .ok (.getfield 104, 3) := by decide +kernel
theorem dX9_copy_137 : decode cX9_copy 137 = .ok (.bipush 60, 2) := by decide +kernel
theorem dX9_copy_139 : decode cX9_copy 139 = .ok (.iload_n 1, 1) := by decide +kernel
theorem dX9_copy_140 : decode cX9_copy 140 = .ok (.imul, 1) := by decide +kernel
theorem dX9_copy_141 : decode cX9_copy 141 = .ok (.iload_n 2, 1) := by decide +kernel
theorem dX9_copy_142 : decode cX9_copy 142 = .ok (.iadd, 1) := by decide +kernel
theorem dX9_copy_143 : decode cX9_copy 143 = .ok (.iload 6, 2) := by decide +kernel
theorem dX9_copy_145 : decode cX9_copy 145 = .ok (.iadd, 1) := by decide +kernel
theorem dX9_copy_146 : decode cX9_copy 146 = .ok (.iaload, 1) := by decide +kernel
theorem dX9_copy_147 : decode cX9_copy 147 = .ok (.iastore, 1) := by decide +kernel
theorem dX9_copy_148 : decode cX9_copy 148 = .ok (.iinc 6 1, 3) := by decide +kernel
theorem dX9_copy_151 : decode cX9_copy 151 = .ok (.goto (-31), 3) := by decide +kernel
theorem dX9_copy_154 : decode cX9_copy 154 = .ok (.iconst 0, 1) := by decide +kernel
theorem dX9_copy_155 : decode cX9_copy 155 = .ok (.istore 6, 2) := by decide +kernel
theorem dX9_copy_157 : decode cX9_copy 157 = .ok (.iload 6, 2) := by decide +kernel
theorem dX9_copy_159 : decode cX9_copy 159 = .ok (.iload 5, 2) := by decide +kernel
theorem dX9_copy_161 : decode cX9_copy 161 = .ok (.if_icmp .ge 31, 3) := by decide +kernel
theorem dX9_copy_164 : decode cX9_copy 164 = .ok (.aload_n 0, 1) := by decide +kernel
theorem dX9_copy_165 : decode cX9_copy 165 = .ok (.getfield 104, 3) := by decide +kernel
theorem dX9_copy_168 : decode cX9_copy 168 = .ok (.bipush 60, 2) := by decide +kernel
theorem dX9_copy_170 : decode cX9_copy 170 = .ok (.iload_n 3, 1) := by decide +kernel
theorem dX9_copy_171 : decode cX9_copy 171 = .ok (.imul, 1) := by decide +kernel
theorem dX9_copy_172 : decode cX9_copy 172 = .ok (.iload 4, 2) := by decide +kernel
theorem dX9_copy_174 : decode cX9_copy 174 = .ok (.iadd, 1) := by decide +kernel
theorem dX9_copy_175 : decode cX9_copy 175 = .ok (.iload 6, 2) := by decide +kernel
theorem dX9_copy_177 : decode cX9_copy 177 = .ok (.iadd, 1) := by decide +kernel
theorem dX9_copy_178 : decode cX9_copy 178 = .ok (.aload_n 0, 1) := by decide +kernel
theorem dX9_copy_179 : decode cX9_copy 179 = .ok (.getfield 107, 3) := by decide +kernel
theorem dX9_copy_182 : decode cX9_copy 182 = .ok (.iload 6, 2) := by decide +kernel
theorem dX9_copy_184 : decode cX9_copy 184 = .ok (.iaload, 1) := by decide +kernel
theorem dX9_copy_185 : decode cX9_copy 185 = .ok (.iastore, 1) := by decide +kernel
theorem dX9_copy_186 : decode cX9_copy 186 = .ok (.iinc 6 1, 3) := by decide +kernel
theorem dX9_copy_189 : decode cX9_copy 189 = .ok (.goto (-32), 3) := by decide +kernel
theorem dX9_copy_192 : decode cX9_copy 192 = .ok (.iconst 1, 1) := by decide +kernel
theorem dX9_copy_193 : decode cX9_copy 193 = .ok (.ireturn, 1) := by decide +kernel
theorem dX9_write_0 : decode cX9_write 0 = .ok (.aload_n 0, 1) := by decide +kernel
theorem dX9_write_1 : decode cX9_write 1 = .ok (.iload_n 1, 1) := by decide +kernel
theorem dX9_write_2 : decode cX9_write 2 = .ok (.invokevirtual 151, 3) := by decide +kernel
theorem dX9_write_5 : decode cX9_write 5 = .ok (.ifCond .eq 10, 3) := by decide +kernel
theorem dX9_write_8 : decode cX9_write 8 = .ok (.iload_n 2, 1) := by decide +kernel
theorem dX9_write_9 : decode cX9_write 9 = .ok (.invokestatic 172, 3) := by decide +kernel
theorem dX9_write_12 : decode cX9_write 12 = .ok (.ifCond .ne 6, 3) := by decide +kernel
theorem dX9_write_15 : decode cX9_write 15 = .ok (.bipush (-2), 2) := by decide +kernel
theorem dX9_write_17 : decode cX9_write 17 = .ok (.ireturn, 1) := by decide +kernel
theorem dX9_write_18 : decode cX9_write 18 = .ok (.aload_n 0, 1) := by decide +kernel
theorem dX9_write_19 : decode cX9_write 19 = .ok (.getfield 95, 3) := by decide +kernel
theorem dX9_write_22 : decode cX9_write 22 = .ok (.iload_n 2, 1) := by decide +kernel
theorem dX9_write_23 : decode cX9_write 23 = .ok (.baload, 1) := by decide +kernel
theorem dX9_write_24 : decode cX9_write 24 = .ok (.ifCond .ne 9, 3) := by decide +kernel
theorem dX9_write_27 : decode cX9_write 27 = .ok (.aload_n 0, 1) := by decide +kernel
theorem dX9_write_28 : decode cX9_write 28 = .ok (.iconst 1, 1) := by decide +kernel
theorem dX9_write_29 : decode cX9_write 29 = .ok (.invokevirtual 175, 3) := by decide +kernel
theorem dX9_write_32 : decode cX9_write 32 = .ok (.ireturn, 1) := by decide +kernel
theorem dX9_write_33 : decode cX9_write 33 = .ok (.iconst 0, 1) := by decide +kernel
theorem dX9_write_34 : decode cX9_write 34 = .ok (.istore_n 3, 1) := by decide +kernel
theorem dX9_write_35 : decode cX9_write 35 = .ok (.iload_n 3, 1) := by decide +kernel
theorem dX9_write_36 : decode cX9_write 36 = .ok (.aload_n 0, 1) := by decide +kernel
theorem dX9_write_37 : decode cX9_write 37 = .ok (.getfield 101, 3) := by decide +kernel
theorem dX9_write_40 : decode cX9_write 40 = .ok (.iload_n 2, 1) := by decide +kernel
theorem dX9_write_41 : decode cX9_write 41 = .ok (.iaload, 1) := by decide +kernel
theorem dX9_write_42 : decode cX9_write 42 = .ok (.if_icmp .ge 28, 3) := by decide +kernel
theorem dX9_write_45 : decode cX9_write 45 = .ok (.iload_n 3, 1) := by decide +kernel
theorem dX9_write_46 : decode cX9_write 46 = .ok (.bipush 40, 2) := by decide +kernel
theorem dX9_write_48 : decode cX9_write 48 = .ok (.if_icmp .ge 22, 3) := by decide +kernel
theorem dX9_write_51 : decode cX9_write 51 = .ok (.aload_n 0, 1) := by decide +kernel
theorem dX9_write_52 : decode cX9_write 52 = .ok (.iload_n 2, 1) := by decide +kernel
theorem dX9_write_53 : decode cX9_write 53 = .ok (.iload_n 3, 1) := by decide +kernel
theorem dX9_write_54 : decode cX9_write 54 = .ok (.aload_n 0, 1) := by decide +kernel
theorem dX9_write_55 : decode cX9_write 55 = .ok (.iload_n 3, 1) := by decide +kernel
theorem dX9_write_56 : decode cX9_write 56 = .ok (.iload_n 1, 1) := by decide +kernel
theorem dX9_write_57 : decode cX9_write 57 = .ok (.iconst (-1), 1) := by decide +kernel
theorem dX9_write_58 : decode cX9_write 58 = .ok (.invokevirtual 245, 3) := by decide +kernel
theorem dX9_write_61 : decode cX9_write 61 = .ok (.invokevirtual 337, 3) := by decide +kernel
theorem dX9_write_64 : decode cX9_write 64 = .ok (.iinc 3 1, 3) := by decide +kernel
theorem dX9_write_67 : decode cX9_write 67 = .ok (.goto (-32), 3) := by decide +kernel
theorem dX9_write_70 : decode cX9_write 70 = .ok (.iload_n 3, 1) := by decide +kernel
theorem dX9_write_71 : decode cX9_write 71 = .ok (.ireturn, 1) := by decide +kernel
theorem dX9_sumOf_0 : decode cX9_sumOf 0 = .ok (.aload_n 0, 1) := by decide +kernel
theorem dX9_sumOf_1 : decode cX9_sumOf 1 = .ok (.bipush 39, 2) := by decide +kernel
theorem dX9_sumOf_3 : decode cX9_sumOf 3 = .ok (.invokevirtual 242, 3) := by decide +kernel
theorem dX9_sumOf_6 : decode cX9_sumOf 6 = .ok (.iconst 0, 1) := by decide +kernel
theorem dX9_sumOf_7 : decode cX9_sumOf 7 = .ok (.istore_n 2, 1) := by decide +kernel
theorem dX9_sumOf_8 : decode cX9_sumOf 8 = .ok (.iconst 0, 1) := by decide +kernel
theorem dX9_sumOf_9 : decode cX9_sumOf 9 = .ok (.istore_n 3, 1) := by decide +kernel
theorem dX9_sumOf_10 : decode cX9_sumOf 10 = .ok (.iload_n 3, 1) := by decide +kernel
theorem dX9_sumOf_11 : decode cX9_sumOf 11 = .ok (.aload_n 0, 1) := by decide +kernel
theorem dX9_sumOf_12 : decode cX9_sumOf 12 = .ok (.getfield 169, 3) := by decide +kernel
theorem dX9_sumOf_15 : decode cX9_sumOf 15 = .ok (.if_icmp .ge 26, 3) := by decide +kernel
theorem dX9_sumOf_18 : decode cX9_sumOf 18 = .ok (.iload_n 2, 1) := by decide +kernel
theorem dX9_sumOf_19 : decode cX9_sumOf 19 = .ok (.aload_n 0, 1) := by decide +kernel
theorem dX9_sumOf_20 : decode cX9_sumOf 20 = .ok (.getfield 71, 3) := by decide +kernel
theorem dX9_sumOf_23 : decode cX9_sumOf 23 = .ok (.iload_n 3, 1) := by decide +kernel
theorem dX9_sumOf_24 : decode cX9_sumOf 24 = .ok (.baload, 1) := by decide +kernel
theorem dX9_sumOf_25 : decode cX9_sumOf 25 = .ok (.ifCond .eq 7, 3) := by decide +kernel
theorem dX9_sumOf_28 : decode cX9_sumOf 28 = .ok (.iconst 1, 1) := by decide +kernel
theorem dX9_sumOf_29 : decode cX9_sumOf 29 = .ok (.goto 4, 3) := by decide +kernel
theorem dX9_sumOf_32 : decode cX9_sumOf 32 = .ok (.iconst 0, 1) := by decide +kernel
theorem dX9_sumOf_33 : decode cX9_sumOf 33 = .ok (.iadd, 1) := by decide +kernel
theorem dX9_sumOf_34 : decode cX9_sumOf 34 = .ok (.istore_n 2, 1) := by decide +kernel
theorem dX9_sumOf_35 : decode cX9_sumOf 35 = .ok (.iinc 3 1, 3) := by decide +kernel
theorem dX9_sumOf_38 : decode cX9_sumOf 38 = .ok (.goto (-28), 3) := by decide +kernel
theorem dX9_sumOf_41 : decode cX9_sumOf 41 = .ok (.iload_n 1, 1) := by decide +kernel
theorem dX9_sumOf_42 : decode cX9_sumOf 42 = .ok (.ifCond .ne 10, 3) := by decide +kernel
theorem dX9_sumOf_45 : decode cX9_sumOf 45 = .ok (.aload_n 0, 1) := by decide +kernel
theorem dX9_sumOf_46 : decode cX9_sumOf 46 = .ok (.getfield 128, 3) := by decide +kernel
theorem dX9_sumOf_49 : decode cX9_sumOf 49 = .ok (.goto 16, 3) := by decide +kernel
theorem dX9_sumOf_52 : decode cX9_sumOf 52 = .ok (.iload_n 1, 1) := by decide +kernel
theorem dX9_sumOf_53 : decode cX9_sumOf 53 = .ok (.iconst 1, 1) := by decide +kernel
theorem dX9_sumOf_54 : decode cX9_sumOf 54 = .ok (.if_icmp .ne 10, 3) := by decide +kernel
theorem dX9_sumOf_57 : decode cX9_sumOf 57 = .ok (.aload_n 0, 1) := by decide +kernel
theorem dX9_sumOf_58 : decode cX9_sumOf 58 = .ok (.getfield 134, 3) := by decide +kernel
theorem dX9_sumOf_61 : decode cX9_sumOf 61 = .ok (.goto 4, 3) := by decide +kernel
theorem dX9_sumOf_64 : decode cX9_sumOf 64 = .ok (.iload_n 2, 1) := by decide +kernel
theorem dX9_sumOf_65 : decode cX9_sumOf 65 = .ok (.ireturn, 1) := by decide +kernel
theorem dX9_count_0 : decode cX9_count 0 = .ok (.iload_n 1, 1) := by decide +kernel
theorem dX9_count_1 : decode cX9_count 1 = .ok (.tableswitch 86 0 8 #[51, 51, 57, 57, 66, 51, 71, 76, 81], 51) := by decide +kernel
theorem dX9_count_52 : decode cX9_count 52 = .ok (.aload_n 0, 1) := by decide +kernel
theorem dX9_count_53 : decode cX9_count 53 = .ok (.iload_n 1, 1) := by decide +kernel
theorem dX9_count_54 : decode cX9_count 54 = .ok (.invokevirtual 342, 3) := by decide +kernel
theorem dX9_count_57 : decode cX9_count 57 = .ok (.ireturn, 1) := by decide +kernel
theorem dX9_count_58 : decode cX9_count 58 = .ok (.aload_n 0, 1) := by decide +kernel
theorem dX9_count_59 : decode cX9_count 59 = .ok (.getfield 7, 3) := by decide +kernel
theorem dX9_count_62 : decode cX9_count 62 = .ok (.iload_n 1, 1) := by decide +kernel
theorem dX9_count_63 : decode cX9_count 63 = .ok (.iconst 2, 1) := by decide +kernel
theorem dX9_count_64 : decode cX9_count 64 = .ok (.isub, 1) := by decide +kernel
theorem dX9_count_65 : decode cX9_count 65 = .ok (.iaload, 1) := by decide +kernel
theorem dX9_count_66 : decode cX9_count 66 = .ok (.ireturn, 1) := by decide +kernel
theorem dX9_count_67 : decode cX9_count 67 = .ok (.aload_n 0, 1) := by decide +kernel
theorem dX9_count_68 : decode cX9_count 68 = .ok (.getfield 169, 3) := by decide +kernel
theorem dX9_count_71 : decode cX9_count 71 = .ok (.ireturn, 1) := by decide +kernel
theorem dX9_count_72 : decode cX9_count 72 = .ok (.aload_n 0, 1) := by decide +kernel
theorem dX9_count_73 : decode cX9_count 73 = .ok (.getfield 166, 3) := by decide +kernel
theorem dX9_count_76 : decode cX9_count 76 = .ok (.ireturn, 1) := by decide +kernel
theorem dX9_count_77 : decode cX9_count 77 = .ok (.aload_n 0, 1) := by decide +kernel
theorem dX9_count_78 : decode cX9_count 78 = .ok (.getfield 299, 3) := by decide +kernel
theorem dX9_count_81 : decode cX9_count 81 = .ok (.ireturn, 1) := by decide +kernel
theorem dX9_count_82 : decode cX9_count 82 = .ok (.aload_n 0, 1) := by decide +kernel
theorem dX9_count_83 : decode cX9_count 83 = .ok (.getfield 331, 3) := by decide +kernel
theorem dX9_count_86 : decode cX9_count 86 = .ok (.ireturn, 1) := by decide +kernel
theorem dX9_count_87 : decode cX9_count 87 = .ok (.bipush (-2), 2) := by decide +kernel
theorem dX9_count_89 : decode cX9_count 89 = .ok (.ireturn, 1) := by decide +kernel
theorem dX9_bottleDigest_0 : decode cX9_bottleDigest 0 = .ok (.lload_n 1, 1) := by decide +kernel
theorem dX9_bottleDigest_1 : decode cX9_bottleDigest 1 = .ok (.lstore 4, 2) := by decide +kernel
theorem dX9_bottleDigest_3 : decode cX9_bottleDigest 3 = .ok (.iconst 0, 1) := by decide +kernel
theorem dX9_bottleDigest_4 : decode cX9_bottleDigest 4 = .ok (.istore 6, 2) := by decide +kernel
theorem dX9_bottleDigest_6 : decode cX9_bottleDigest 6 = .ok (.iload 6, 2) := by decide +kernel
theorem dX9_bottleDigest_8 : decode cX9_bottleDigest 8 = .ok (.iconst 4, 1) := by decide +kernel
theorem dX9_bottleDigest_9 : decode cX9_bottleDigest 9 = .ok (.if_icmp .ge 26, 3) := by decide +kernel
theorem dX9_bottleDigest_12 : decode cX9_bottleDigest 12 = .ok (.ldc2_w 345, 3) := by decide +kernel
theorem dX9_bottleDigest_15 : decode cX9_bottleDigest 15 = .ok (.lload 4, 2) := by decide +kernel
theorem dX9_bottleDigest_17 : decode cX9_bottleDigest 17 = .ok (.lmul, 1) := by decide +kernel
theorem dX9_bottleDigest_18 : decode cX9_bottleDigest 18 = .ok (.aload_n 0, 1) := by decide +kernel
theorem dX9_bottleDigest_19 : decode cX9_bottleDigest 19 = .ok (.iload_n 3, 1) := by decide +kernel
theorem dX9_bottleDigest_20 : decode cX9_bottleDigest 20 = .ok (.iload 6, 2) := by decide +kernel
theorem dX9_bottleDigest_22 : decode cX9_bottleDigest 22 = .ok (.invokevirtual 154, 3) := by decide +kernel
theorem dX9_bottleDigest_25 : decode cX9_bottleDigest 25 = .ok (.i2l, 1) := by decide +kernel
theorem dX9_bottleDigest_26 : decode cX9_bottleDigest 26 = .ok (.ladd, 1) := by decide +kernel
theorem dX9_bottleDigest_27 : decode cX9_bottleDigest 27 = .ok (.lstore 4, 2) := by decide +kernel
theorem dX9_bottleDigest_29 : decode cX9_bottleDigest 29 = .ok (.iinc 6 1, 3) := by decide +kernel
theorem dX9_bottleDigest_32 : decode cX9_bottleDigest 32 = .ok (.goto (-26), 3) := by decide +kernel
theorem dX9_bottleDigest_35 : decode cX9_bottleDigest 35 = .ok (.ldc2_w 345, 3) := by decide +kernel
theorem dX9_bottleDigest_38 : decode cX9_bottleDigest 38 = .ok (.lload 4, 2) := by decide +kernel
theorem dX9_bottleDigest_40 : decode cX9_bottleDigest 40 = .ok (.lmul, 1) := by decide +kernel
theorem dX9_bottleDigest_41 : decode cX9_bottleDigest 41 = .ok (.aload_n 0, 1) := by decide +kernel
theorem dX9_bottleDigest_42 : decode cX9_bottleDigest 42 = .ok (.iconst 5, 1) := by decide +kernel
theorem dX9_bottleDigest_43 : decode cX9_bottleDigest 43 = .ok (.iload_n 3, 1) := by decide +kernel
theorem dX9_bottleDigest_44 : decode cX9_bottleDigest 44 = .ok (.iconst (-1), 1) := by decide +kernel
theorem dX9_bottleDigest_45 : decode cX9_bottleDigest 45 = .ok (.invokevirtual 245, 3) := by decide +kernel
theorem dX9_bottleDigest_48 : decode cX9_bottleDigest 48 = .ok (.i2l, 1) := by decide +kernel
theorem dX9_bottleDigest_49 : decode cX9_bottleDigest 49 = .ok (.ladd, 1) := by decide +kernel
theorem dX9_bottleDigest_50 : decode cX9_bottleDigest 50 = .ok (.lstore 4, 2) := by decide +kernel
theorem dX9_bottleDigest_52 : decode cX9_bottleDigest 52 = .ok (.ldc2_w 345, 3) := by decide +kernel
theorem dX9_bottleDigest_55 : decode cX9_bottleDigest 55 = .ok (.lload 4, 2) := by decide +kernel
theorem dX9_bottleDigest_57 : decode cX9_bottleDigest 57 = .ok (.lmul, 1) := by decide +kernel
theorem dX9_bottleDigest_58 : decode cX9_bottleDigest 58 = .ok (.aload_n 0, 1) := by decide +kernel
theorem dX9_bottleDigest_59 : decode cX9_bottleDigest 59 = .ok (.bipush 39, 2) := by decide +kernel
theorem dX9_bottleDigest_61 : decode cX9_bottleDigest 61 = .ok (.iload_n 3, 1) := by decide +kernel
theorem dX9_bottleDigest_62 : decode cX9_bottleDigest 62 = .ok (.iconst (-1), 1) := by decide +kernel
theorem dX9_bottleDigest_63 : decode cX9_bottleDigest 63 = .ok (.invokevirtual 245, 3) := by decide +kernel
theorem dX9_bottleDigest_66 : decode cX9_bottleDigest 66 = .ok (.i2l, 1) := by decide +kernel
theorem dX9_bottleDigest_67 : decode cX9_bottleDigest 67 = .ok (.ladd, 1) := by decide +kernel
theorem dX9_bottleDigest_68 : decode cX9_bottleDigest 68 = .ok (.lstore 4, 2) := by decide +kernel
theorem dX9_bottleDigest_70 : decode cX9_bottleDigest 70 = .ok (.ldc2_w 345, 3) := by decide +kernel
theorem dX9_bottleDigest_73 : decode cX9_bottleDigest 73 = .ok (.lload 4, 2) := by decide +kernel
theorem dX9_bottleDigest_75 : decode cX9_bottleDigest 75 = .ok (.lmul, 1) := by decide +kernel
theorem dX9_bottleDigest_76 : decode cX9_bottleDigest 76 = .ok (.aload_n 0, 1) := by decide +kernel
theorem dX9_bottleDigest_77 : decode cX9_bottleDigest 77 = .ok (.bipush 9, 2) := by decide +kernel
theorem dX9_bottleDigest_79 : decode cX9_bottleDigest 79 = .ok (.iload_n 3, 1) := by decide +kernel
theorem dX9_bottleDigest_80 : decode cX9_bottleDigest 80 = .ok (.invokevirtual 249, 3) := by decide +kernel
theorem dX9_bottleDigest_83 : decode cX9_bottleDigest 83 = .ok (.i2l, 1) := by decide +kernel
theorem dX9_bottleDigest_84 : decode cX9_bottleDigest 84 = .ok (.ladd, 1) := by decide +kernel
theorem dX9_bottleDigest_85 : decode cX9_bottleDigest 85 = .ok (.lstore 4, 2) := by decide +kernel
theorem dX9_bottleDigest_87 : decode cX9_bottleDigest 87 = .ok (.ldc2_w 345, 3) := by decide +kernel
theorem dX9_bottleDigest_90 : decode cX9_bottleDigest 90 = .ok (.lload 4, 2) := by decide +kernel
theorem dX9_bottleDigest_92 : decode cX9_bottleDigest 92 = .ok (.lmul, 1) := by decide +kernel
theorem dX9_bottleDigest_93 : decode cX9_bottleDigest 93 = .ok (.aload_n 0, 1) := by decide +kernel
theorem dX9_bottleDigest_94 : decode cX9_bottleDigest 94 = .ok (.bipush 39, 2) := by decide +kernel
theorem dX9_bottleDigest_96 : decode cX9_bottleDigest 96 = .ok (.iload_n 3, 1) := by decide +kernel
theorem dX9_bottleDigest_97 : decode cX9_bottleDigest 97 = .ok (.invokevirtual 252, 3) := by decide +kernel
theorem dX9_bottleDigest_100 : decode cX9_bottleDigest 100 = .ok (.i2l, 1) := by decide +kernel
theorem dX9_bottleDigest_101 : decode cX9_bottleDigest 101 = .ok (.ladd, 1) := by decide +kernel
theorem dX9_bottleDigest_102 : decode cX9_bottleDigest 102 = .ok (.lstore 4, 2) := by decide +kernel
theorem dX9_bottleDigest_104 : decode cX9_bottleDigest 104 = .ok (.ldc2_w 345, 3) := by decide +kernel
theorem dX9_bottleDigest_107 : decode cX9_bottleDigest 107 = .ok (.lload 4, 2) := by decide +kernel
theorem dX9_bottleDigest_109 : decode cX9_bottleDigest 109 = .ok (.lmul, 1) := by decide +kernel
theorem dX9_bottleDigest_110 : decode cX9_bottleDigest 110 = .ok (.aload_n 0, 1) := by decide +kernel
theorem dX9_bottleDigest_111 : decode cX9_bottleDigest 111 = .ok (.iconst 5, 1) := by decide +kernel
theorem dX9_bottleDigest_112 : decode cX9_bottleDigest 112 = .ok (.iload_n 3, 1) := by decide +kernel
theorem dX9_bottleDigest_113 : decode cX9_bottleDigest 113 = .ok (.bipush 6, 2) := by decide +kernel
theorem dX9_bottleDigest_115 : decode cX9_bottleDigest 115 = .ok (.iconst 0, 1) := by decide +kernel
theorem dX9_bottleDigest_116 : decode cX9_bottleDigest 116 = .ok (.invokevirtual 319, 3) := by decide +kernel
theorem dX9_bottleDigest_119 : decode cX9_bottleDigest 119 = .ok (.ladd, 1) := by decide +kernel
theorem dX9_bottleDigest_120 : decode cX9_bottleDigest 120 = .ok (.lstore 4, 2) := by decide +kernel
theorem dX9_bottleDigest_122 : decode cX9_bottleDigest 122 = .ok (.ldc2_w 345, 3) := by decide +kernel
theorem dX9_bottleDigest_125 : decode cX9_bottleDigest 125 = .ok (.lload 4, 2) := by decide +kernel
theorem dX9_bottleDigest_127 : decode cX9_bottleDigest 127 = .ok (.lmul, 1) := by decide +kernel
theorem dX9_bottleDigest_128 : decode cX9_bottleDigest 128 = .ok (.aload_n 0, 1) := by decide +kernel
theorem dX9_bottleDigest_129 : decode cX9_bottleDigest 129 = .ok (.iconst 5, 1) := by decide +kernel
theorem dX9_bottleDigest_130 : decode cX9_bottleDigest 130 = .ok (.iload_n 3, 1) := by decide +kernel
theorem dX9_bottleDigest_131 : decode cX9_bottleDigest 131 = .ok (.bipush 6, 2) := by decide +kernel
theorem dX9_bottleDigest_133 : decode cX9_bottleDigest 133 = .ok (.iconst 1, 1) := by decide +kernel
theorem dX9_bottleDigest_134 : decode cX9_bottleDigest 134 = .ok (.invokevirtual 319, 3) := by decide +kernel
theorem dX9_bottleDigest_137 : decode cX9_bottleDigest 137 = .ok (.ladd, 1) := by decide +kernel
theorem dX9_bottleDigest_138 : decode cX9_bottleDigest 138 = .ok (.lstore 4, 2) := by decide +kernel
theorem dX9_bottleDigest_140 : decode cX9_bottleDigest 140 = .ok (.ldc2_w 345, 3) := by decide +kernel
theorem dX9_bottleDigest_143 : decode cX9_bottleDigest 143 = .ok (.lload 4, 2) := by decide +kernel
theorem dX9_bottleDigest_145 : decode cX9_bottleDigest 145 = .ok (.lmul, 1) := by decide +kernel
theorem dX9_bottleDigest_146 : decode cX9_bottleDigest 146 = .ok (.aload_n 0, 1) := by decide +kernel
theorem dX9_bottleDigest_147 : decode cX9_bottleDigest 147 = .ok (.bipush 7, 2) := by decide +kernel
theorem dX9_bottleDigest_149 : decode cX9_bottleDigest 149 = .ok (.bipush 20, 2) := by decide +kernel
theorem dX9_bottleDigest_151 : decode cX9_bottleDigest 151 = .ok (.iload_n 3, 1) := by decide +kernel
theorem dX9_bottleDigest_152 : decode cX9_bottleDigest 152 = .ok (.invokevirtual 328, 3) := by decide +kernel
theorem dX9_bottleDigest_155 : decode cX9_bottleDigest 155 = .ok (.i2l, 1) := by decide +kernel
theorem dX9_bottleDigest_156 : decode cX9_bottleDigest 156 = .ok (.ladd, 1) := by decide +kernel
theorem dX9_bottleDigest_157 : decode cX9_bottleDigest 157 = .ok (.lreturn, 1) := by decide +kernel
theorem dX9_dayDigest_0 : decode cX9_dayDigest 0 = .ok (.ldc2_w 345, 3) := by decide +kernel
theorem dX9_dayDigest_3 : decode cX9_dayDigest 3 = .ok (.lload_n 1, 1) := by decide +kernel
theorem dX9_dayDigest_4 : decode cX9_dayDigest 4 = .ok (.lmul, 1) := by decide +kernel
theorem dX9_dayDigest_5 : decode cX9_dayDigest 5 = .ok (.aload_n 0, 1) := by decide +kernel
theorem dX9_dayDigest_6 : decode cX9_dayDigest 6 = .ok (.iload_n 3, 1) := by decide +kernel
theorem dX9_dayDigest_7 : decode cX9_dayDigest 7 = .ok (.invokevirtual 264, 3) := by decide +kernel
theorem dX9_dayDigest_10 : decode cX9_dayDigest 10 = .ok (.i2l, 1) := by decide +kernel
theorem dX9_dayDigest_11 : decode cX9_dayDigest 11 = .ok (.ladd, 1) := by decide +kernel
theorem dX9_dayDigest_12 : decode cX9_dayDigest 12 = .ok (.lstore 4, 2) := by decide +kernel
theorem dX9_dayDigest_14 : decode cX9_dayDigest 14 = .ok (.ldc2_w 345, 3) := by decide +kernel
theorem dX9_dayDigest_17 : decode cX9_dayDigest 17 = .ok (.lload 4, 2) := by decide +kernel
theorem dX9_dayDigest_19 : decode cX9_dayDigest 19 = .ok (.lmul, 1) := by decide +kernel
theorem dX9_dayDigest_20 : decode cX9_dayDigest 20 = .ok (.aload_n 0, 1) := by decide +kernel
theorem dX9_dayDigest_21 : decode cX9_dayDigest 21 = .ok (.iload_n 3, 1) := by decide +kernel
theorem dX9_dayDigest_22 : decode cX9_dayDigest 22 = .ok (.invokevirtual 267, 3) := by decide +kernel
theorem dX9_dayDigest_25 : decode cX9_dayDigest 25 = .ok (.i2l, 1) := by decide +kernel
theorem dX9_dayDigest_26 : decode cX9_dayDigest 26 = .ok (.ladd, 1) := by decide +kernel
theorem dX9_dayDigest_27 : decode cX9_dayDigest 27 = .ok (.lstore 4, 2) := by decide +kernel
theorem dX9_dayDigest_29 : decode cX9_dayDigest 29 = .ok (.ldc2_w 345, 3) := by decide +kernel
theorem dX9_dayDigest_32 : decode cX9_dayDigest 32 = .ok (.lload 4, 2) := by decide +kernel
theorem dX9_dayDigest_34 : decode cX9_dayDigest 34 = .ok (.lmul, 1) := by decide +kernel
theorem dX9_dayDigest_35 : decode cX9_dayDigest 35 = .ok (.aload_n 0, 1) := by decide +kernel
theorem dX9_dayDigest_36 : decode cX9_dayDigest 36 = .ok (.iload_n 3, 1) := by decide +kernel
theorem dX9_dayDigest_37 : decode cX9_dayDigest 37 = .ok (.iconst (-1), 1) := by decide +kernel
theorem dX9_dayDigest_38 : decode cX9_dayDigest 38 = .ok (.invokevirtual 283, 3) := by decide +kernel
theorem dX9_dayDigest_41 : decode cX9_dayDigest 41 = .ok (.i2l, 1) := by decide +kernel
theorem dX9_dayDigest_42 : decode cX9_dayDigest 42 = .ok (.ladd, 1) := by decide +kernel
theorem dX9_dayDigest_43 : decode cX9_dayDigest 43 = .ok (.lstore 4, 2) := by decide +kernel
theorem dX9_dayDigest_45 : decode cX9_dayDigest 45 = .ok (.ldc2_w 345, 3) := by decide +kernel
theorem dX9_dayDigest_48 : decode cX9_dayDigest 48 = .ok (.lload 4, 2) := by decide +kernel
theorem dX9_dayDigest_50 : decode cX9_dayDigest 50 = .ok (.lmul, 1) := by decide +kernel
theorem dX9_dayDigest_51 : decode cX9_dayDigest 51 = .ok (.aload_n 0, 1) := by decide +kernel
theorem dX9_dayDigest_52 : decode cX9_dayDigest 52 = .ok (.iload_n 3, 1) := by decide +kernel
theorem dX9_dayDigest_53 : decode cX9_dayDigest 53 = .ok (.iconst 0, 1) := by decide +kernel
theorem dX9_dayDigest_54 : decode cX9_dayDigest 54 = .ok (.invokevirtual 283, 3) := by decide +kernel
theorem dX9_dayDigest_57 : decode cX9_dayDigest 57 = .ok (.i2l, 1) := by decide +kernel
theorem dX9_dayDigest_58 : decode cX9_dayDigest 58 = .ok (.ladd, 1) := by decide +kernel
theorem dX9_dayDigest_59 : decode cX9_dayDigest 59 = .ok (.lstore 4, 2) := by decide +kernel
theorem dX9_dayDigest_61 : decode cX9_dayDigest 61 = .ok (.aload_n 0, 1) := by decide +kernel
theorem dX9_dayDigest_62 : decode cX9_dayDigest 62 = .ok (.iload_n 3, 1) := by decide +kernel
theorem dX9_dayDigest_63 : decode cX9_dayDigest 63 = .ok (.invokevirtual 290, 3) := by decide +kernel
theorem dX9_dayDigest_66 : decode cX9_dayDigest 66 = .ok (.istore 6, 2) := by decide +kernel
theorem dX9_dayDigest_68 : decode cX9_dayDigest 68 = .ok (.ldc2_w 345, 3) := by decide +kernel
theorem dX9_dayDigest_71 : decode cX9_dayDigest 71 = .ok (.lload 4, 2) := by decide +kernel
theorem dX9_dayDigest_73 : decode cX9_dayDigest 73 = .ok (.lmul, 1) := by decide +kernel
theorem dX9_dayDigest_74 : decode cX9_dayDigest 74 = .ok (.iload 6, 2) := by decide +kernel
theorem dX9_dayDigest_76 : decode cX9_dayDigest 76 = .ok (.i2l, 1) := by decide +kernel
theorem dX9_dayDigest_77 : decode cX9_dayDigest 77 = .ok (.ladd, 1) := by decide +kernel
theorem dX9_dayDigest_78 : decode cX9_dayDigest 78 = .ok (.lstore 4, 2) := by decide +kernel
theorem dX9_dayDigest_80 : decode cX9_dayDigest 80 = .ok (.ldc2_w 345, 3) := by decide +kernel
theorem dX9_dayDigest_83 : decode cX9_dayDigest 83 = .ok (.lload 4, 2) := by decide +kernel
theorem dX9_dayDigest_85 : decode cX9_dayDigest 85 = .ok (.lmul, 1) := by decide +kernel
theorem dX9_dayDigest_86 : decode cX9_dayDigest 86 = .ok (.aload_n 0, 1) := by decide +kernel
theorem dX9_dayDigest_87 : decode cX9_dayDigest 87 = .ok (.iload 6, 2) := by decide +kernel
theorem dX9_dayDigest_89 : decode cX9_dayDigest 89 = .ok (.iconst 0, 1) := by decide +kernel
theorem dX9_dayDigest_90 : decode cX9_dayDigest 90 = .ok (.invokevirtual 293, 3) := by decide +kernel
theorem dX9_dayDigest_93 : decode cX9_dayDigest 93 = .ok (.i2l, 1) := by decide +kernel
theorem dX9_dayDigest_94 : decode cX9_dayDigest 94 = .ok (.ladd, 1) := by decide +kernel
theorem dX9_dayDigest_95 : decode cX9_dayDigest 95 = .ok (.lstore 4, 2) := by decide +kernel
theorem dX9_dayDigest_97 : decode cX9_dayDigest 97 = .ok (.ldc2_w 345, 3) := by decide +kernel
theorem dX9_dayDigest_100 : decode cX9_dayDigest 100 = .ok (.lload 4, 2) := by decide +kernel
theorem dX9_dayDigest_102 : decode cX9_dayDigest 102 = .ok (.lmul, 1) := by decide +kernel
theorem dX9_dayDigest_103 : decode cX9_dayDigest 103 = .ok (.aload_n 0, 1) := by decide +kernel
theorem dX9_dayDigest_104 : decode cX9_dayDigest 104 = .ok (.iload_n 3, 1) := by decide +kernel
theorem dX9_dayDigest_105 : decode cX9_dayDigest 105 = .ok (.invokevirtual 312, 3) := by decide +kernel
theorem dX9_dayDigest_108 : decode cX9_dayDigest 108 = .ok (.i2l, 1) := by decide +kernel
theorem dX9_dayDigest_109 : decode cX9_dayDigest 109 = .ok (.ladd, 1) := by decide +kernel
theorem dX9_dayDigest_110 : decode cX9_dayDigest 110 = .ok (.lreturn, 1) := by decide +kernel
theorem dX9_digest_0 : decode cX9_digest 0 = .ok (.ldc2_w 347, 3) := by decide +kernel
theorem dX9_digest_3 : decode cX9_digest 3 = .ok (.lstore_n 1, 1) := by decide +kernel
theorem dX9_digest_4 : decode cX9_digest 4 = .ok (.iconst 0, 1) := by decide +kernel
theorem dX9_digest_5 : decode cX9_digest 5 = .ok (.istore_n 3, 1) := by decide +kernel
theorem dX9_digest_6 : decode cX9_digest 6 = .ok (.iload_n 3, 1) := by decide +kernel
theorem dX9_digest_7 : decode cX9_digest 7 = .ok (.bipush 8, 2) := by decide +kernel
theorem dX9_digest_9 : decode cX9_digest 9 = .ok (.if_icmp .ge 22, 3) := by decide +kernel
theorem dX9_digest_12 : decode cX9_digest 12 = .ok (.ldc2_w 345, 3) := by decide +kernel
theorem dX9_digest_15 : decode cX9_digest 15 = .ok (.lload_n 1, 1) := by decide +kernel
theorem dX9_digest_16 : decode cX9_digest 16 = .ok (.lmul, 1) := by decide +kernel
theorem dX9_digest_17 : decode cX9_digest 17 = .ok (.aload_n 0, 1) := by decide +kernel
theorem dX9_digest_18 : decode cX9_digest 18 = .ok (.iload_n 3, 1) := by decide +kernel
theorem dX9_digest_19 : decode cX9_digest 19 = .ok (.invokevirtual 349, 3) := by decide +kernel
theorem dX9_digest_22 : decode cX9_digest 22 = .ok (.i2l, 1) := by decide +kernel
theorem dX9_digest_23 : decode cX9_digest 23 = .ok (.ladd, 1) := by decide +kernel
theorem dX9_digest_24 : decode cX9_digest 24 = .ok (.lstore_n 1, 1) := by decide +kernel
theorem dX9_digest_25 : decode cX9_digest 25 = .ok (.iinc 3 1, 3) := by decide +kernel
theorem dX9_digest_28 : decode cX9_digest 28 = .ok (.goto (-22), 3) := by decide +kernel
theorem dX9_digest_31 : decode cX9_digest 31 = .ok (.ldc2_w 345, 3) := by decide +kernel
theorem dX9_digest_34 : decode cX9_digest 34 = .ok (.lload_n 1, 1) := by decide +kernel
theorem dX9_digest_35 : decode cX9_digest 35 = .ok (.lmul, 1) := by decide +kernel
theorem dX9_digest_36 : decode cX9_digest 36 = .ok (.aload_n 0, 1) := by decide +kernel
theorem dX9_digest_37 : decode cX9_digest 37 = .ok (.iconst 0, 1) := by decide +kernel
theorem dX9_digest_38 : decode cX9_digest 38 = .ok (.invokevirtual 144, 3) := by decide +kernel
theorem dX9_digest_41 : decode cX9_digest 41 = .ok (.i2l, 1) := by decide +kernel
theorem dX9_digest_42 : decode cX9_digest 42 = .ok (.ladd, 1) := by decide +kernel
theorem dX9_digest_43 : decode cX9_digest 43 = .ok (.lstore_n 1, 1) := by decide +kernel
theorem dX9_digest_44 : decode cX9_digest 44 = .ok (.ldc2_w 345, 3) := by decide +kernel
theorem dX9_digest_47 : decode cX9_digest 47 = .ok (.lload_n 1, 1) := by decide +kernel
theorem dX9_digest_48 : decode cX9_digest 48 = .ok (.lmul, 1) := by decide +kernel
theorem dX9_digest_49 : decode cX9_digest 49 = .ok (.aload_n 0, 1) := by decide +kernel
theorem dX9_digest_50 : decode cX9_digest 50 = .ok (.iconst 1, 1) := by decide +kernel
theorem dX9_digest_51 : decode cX9_digest 51 = .ok (.invokevirtual 144, 3) := by decide +kernel
theorem dX9_digest_54 : decode cX9_digest 54 = .ok (.i2l, 1) := by decide +kernel
theorem dX9_digest_55 : decode cX9_digest 55 = .ok (.ladd, 1) := by decide +kernel
theorem dX9_digest_56 : decode cX9_digest 56 = .ok (.lstore_n 1, 1) := by decide +kernel
theorem dX9_digest_57 : decode cX9_digest 57 = .ok (.iconst 0, 1) := by decide +kernel
theorem dX9_digest_58 : decode cX9_digest 58 = .ok (.istore_n 3, 1) := by decide +kernel
theorem dX9_digest_59 : decode cX9_digest 59 = .ok (.iload_n 3, 1) := by decide +kernel
theorem dX9_digest_60 : decode cX9_digest 60 = .ok (.aload_n 0, 1) := by decide +kernel
theorem dX9_digest_61 : decode cX9_digest 61 = .ok (.getfield 128, 3) := by decide +kernel
theorem dX9_digest_64 : decode cX9_digest 64 = .ok (.if_icmp .ge 16, 3) := by decide +kernel
theorem dX9_digest_67 : decode cX9_digest 67 = .ok (.aload_n 0, 1) := by decide +kernel
theorem dX9_digest_68 : decode cX9_digest 68 = .ok (.lload_n 1, 1) := by decide +kernel
theorem dX9_digest_69 : decode cX9_digest 69 = .ok (.iload_n 3, 1) := by decide +kernel
theorem dX9_digest_70 : decode cX9_digest 70 = .ok (.invokevirtual 352, 3) := by decide +kernel
theorem dX9_digest_73 : decode cX9_digest 73 = .ok (.lstore_n 1, 1) := by decide +kernel
theorem dX9_digest_74 : decode cX9_digest 74 = .ok (.iinc 3 1, 3) := by decide +kernel
theorem dX9_digest_77 : decode cX9_digest 77 = .ok (.goto (-18), 3) := by decide +kernel
theorem dX9_digest_80 : decode cX9_digest 80 = .ok (.iconst 0, 1) := by decide +kernel
theorem dX9_digest_81 : decode cX9_digest 81 = .ok (.istore_n 3, 1) := by decide +kernel
theorem dX9_digest_82 : decode cX9_digest 82 = .ok (.iload_n 3, 1) := by decide +kernel
theorem dX9_digest_83 : decode cX9_digest 83 = .ok (.aload_n 0, 1) := by decide +kernel
theorem dX9_digest_84 : decode cX9_digest 84 = .ok (.getfield 134, 3) := by decide +kernel
theorem dX9_digest_87 : decode cX9_digest 87 = .ok (.if_icmp .ge 23, 3) := by decide +kernel
theorem dX9_digest_90 : decode cX9_digest 90 = .ok (.ldc2_w 345, 3) := by decide +kernel
theorem dX9_digest_93 : decode cX9_digest 93 = .ok (.lload_n 1, 1) := by decide +kernel
theorem dX9_digest_94 : decode cX9_digest 94 = .ok (.lmul, 1) := by decide +kernel
theorem dX9_digest_95 : decode cX9_digest 95 = .ok (.aload_n 0, 1) := by decide +kernel
theorem dX9_digest_96 : decode cX9_digest 96 = .ok (.getfield 28, 3) := by decide +kernel
theorem dX9_digest_99 : decode cX9_digest 99 = .ok (.iload_n 3, 1) := by decide +kernel
theorem dX9_digest_100 : decode cX9_digest 100 = .ok (.iaload, 1) := by decide +kernel
theorem dX9_digest_101 : decode cX9_digest 101 = .ok (.i2l, 1) := by decide +kernel
theorem dX9_digest_102 : decode cX9_digest 102 = .ok (.ladd, 1) := by decide +kernel
theorem dX9_digest_103 : decode cX9_digest 103 = .ok (.lstore_n 1, 1) := by decide +kernel
theorem dX9_digest_104 : decode cX9_digest 104 = .ok (.iinc 3 1, 3) := by decide +kernel
theorem dX9_digest_107 : decode cX9_digest 107 = .ok (.goto (-25), 3) := by decide +kernel
theorem dX9_digest_110 : decode cX9_digest 110 = .ok (.iconst 0, 1) := by decide +kernel
theorem dX9_digest_111 : decode cX9_digest 111 = .ok (.istore_n 3, 1) := by decide +kernel
theorem dX9_digest_112 : decode cX9_digest 112 = .ok (.iload_n 3, 1) := by decide +kernel
theorem dX9_digest_113 : decode cX9_digest 113 = .ok (.bipush 8, 2) := by decide +kernel
theorem dX9_digest_115 : decode cX9_digest 115 = .ok (.if_icmp .ge 53, 3) := by decide +kernel
theorem dX9_digest_118 : decode cX9_digest 118 = .ok (.ldc2_w 345, 3) := by decide +kernel
theorem dX9_digest_121 : decode cX9_digest 121 = .ok (.lload_n 1, 1) := by decide +kernel
theorem dX9_digest_122 : decode cX9_digest 122 = .ok (.lmul, 1) := by decide +kernel
theorem dX9_digest_123 : decode cX9_digest 123 = .ok (.aload_n 0, 1) := by decide +kernel
theorem dX9_digest_124 : decode cX9_digest 124 = .ok (.bipush 39, 2) := by decide +kernel
theorem dX9_digest_126 : decode cX9_digest 126 = .ok (.iload_n 3, 1) := by decide +kernel
theorem dX9_digest_127 : decode cX9_digest 127 = .ok (.invokevirtual 258, 3) := by decide +kernel
theorem dX9_digest_130 : decode cX9_digest 130 = .ok (.i2l, 1) := by decide +kernel
theorem dX9_digest_131 : decode cX9_digest 131 = .ok (.ladd, 1) := by decide +kernel
theorem dX9_digest_132 : decode cX9_digest 132 = .ok (.lstore_n 1, 1) := by decide +kernel
theorem dX9_digest_133 : decode cX9_digest 133 = .ok (.ldc2_w 345, 3) := by decide +kernel
theorem dX9_digest_136 : decode cX9_digest 136 = .ok (.lload_n 1, 1) := by decide +kernel
theorem dX9_digest_137 : decode cX9_digest 137 = .ok (.lmul, 1) := by decide +kernel
theorem dX9_digest_138 : decode cX9_digest 138 = .ok (.aload_n 0, 1) := by decide +kernel
theorem dX9_digest_139 : decode cX9_digest 139 = .ok (.bipush 39, 2) := by decide +kernel
theorem dX9_digest_141 : decode cX9_digest 141 = .ok (.iload_n 3, 1) := by decide +kernel
theorem dX9_digest_142 : decode cX9_digest 142 = .ok (.invokevirtual 261, 3) := by decide +kernel
theorem dX9_digest_145 : decode cX9_digest 145 = .ok (.i2l, 1) := by decide +kernel
theorem dX9_digest_146 : decode cX9_digest 146 = .ok (.ladd, 1) := by decide +kernel
theorem dX9_digest_147 : decode cX9_digest 147 = .ok (.lstore_n 1, 1) := by decide +kernel
theorem dX9_digest_148 : decode cX9_digest 148 = .ok (.ldc2_w 345, 3) := by decide +kernel
theorem dX9_digest_151 : decode cX9_digest 151 = .ok (.lload_n 1, 1) := by decide +kernel
theorem dX9_digest_152 : decode cX9_digest 152 = .ok (.lmul, 1) := by decide +kernel
theorem dX9_digest_153 : decode cX9_digest 153 = .ok (.aload_n 0, 1) := by decide +kernel
theorem dX9_digest_154 : decode cX9_digest 154 = .ok (.iconst 5, 1) := by decide +kernel
theorem dX9_digest_155 : decode cX9_digest 155 = .ok (.iload_n 3, 1) := by decide +kernel
theorem dX9_digest_156 : decode cX9_digest 156 = .ok (.invokevirtual 296, 3) := by decide +kernel
theorem dX9_digest_159 : decode cX9_digest 159 = .ok (.i2l, 1) := by decide +kernel
theorem dX9_digest_160 : decode cX9_digest 160 = .ok (.ladd, 1) := by decide +kernel
theorem dX9_digest_161 : decode cX9_digest 161 = .ok (.lstore_n 1, 1) := by decide +kernel
theorem dX9_digest_162 : decode cX9_digest 162 = .ok (.iinc 3 1, 3) := by decide +kernel
theorem dX9_digest_165 : decode cX9_digest 165 = .ok (.goto (-53), 3) := by decide +kernel
theorem dX9_digest_168 : decode cX9_digest 168 = .ok (.iconst 0, 1) := by decide +kernel
theorem dX9_digest_169 : decode cX9_digest 169 = .ok (.istore_n 3, 1) := by decide +kernel
theorem dX9_digest_170 : decode cX9_digest 170 = .ok (.iload_n 3, 1) := by decide +kernel
theorem dX9_digest_171 : decode cX9_digest 171 = .ok (.bipush 6, 2) := by decide +kernel
theorem dX9_digest_173 : decode cX9_digest 173 = .ok (.if_icmp .ge 24, 3) := by decide +kernel
theorem dX9_digest_176 : decode cX9_digest 176 = .ok (.ldc2_w 345, 3) := by decide +kernel
theorem dX9_digest_179 : decode cX9_digest 179 = .ok (.lload_n 1, 1) := by decide +kernel
theorem dX9_digest_180 : decode cX9_digest 180 = .ok (.lmul, 1) := by decide +kernel
theorem dX9_digest_181 : decode cX9_digest 181 = .ok (.aload_n 0, 1) := by decide +kernel
theorem dX9_digest_182 : decode cX9_digest 182 = .ok (.bipush 9, 2) := by decide +kernel
theorem dX9_digest_184 : decode cX9_digest 184 = .ok (.iload_n 3, 1) := by decide +kernel
theorem dX9_digest_185 : decode cX9_digest 185 = .ok (.invokevirtual 255, 3) := by decide +kernel
theorem dX9_digest_188 : decode cX9_digest 188 = .ok (.i2l, 1) := by decide +kernel
theorem dX9_digest_189 : decode cX9_digest 189 = .ok (.ladd, 1) := by decide +kernel
theorem dX9_digest_190 : decode cX9_digest 190 = .ok (.lstore_n 1, 1) := by decide +kernel
theorem dX9_digest_191 : decode cX9_digest 191 = .ok (.iinc 3 1, 3) := by decide +kernel
theorem dX9_digest_194 : decode cX9_digest 194 = .ok (.goto (-24), 3) := by decide +kernel
theorem dX9_digest_197 : decode cX9_digest 197 = .ok (.aload_n 0, 1) := by decide +kernel
theorem dX9_digest_198 : decode cX9_digest 198 = .ok (.lload_n 1, 1) := by decide +kernel
theorem dX9_digest_199 : decode cX9_digest 199 = .ok (.iconst 0, 1) := by decide +kernel
theorem dX9_digest_200 : decode cX9_digest 200 = .ok (.invokevirtual 356, 3) := by decide +kernel
theorem dX9_digest_203 : decode cX9_digest 203 = .ok (.lstore_n 1, 1) := by decide +kernel
theorem dX9_digest_204 : decode cX9_digest 204 = .ok (.aload_n 0, 1) := by decide +kernel
theorem dX9_digest_205 : decode cX9_digest 205 = .ok (.lload_n 1, 1) := by decide +kernel
theorem dX9_digest_206 : decode cX9_digest 206 = .ok (.iconst 5, 1) := by decide +kernel
theorem dX9_digest_207 : decode cX9_digest 207 = .ok (.invokevirtual 356, 3) := by decide +kernel
theorem dX9_digest_210 : decode cX9_digest 210 = .ok (.lstore_n 1, 1) := by decide +kernel
theorem dX9_digest_211 : decode cX9_digest 211 = .ok (.aload_n 0, 1) := by decide +kernel
theorem dX9_digest_212 : decode cX9_digest 212 = .ok (.lload_n 1, 1) := by decide +kernel
theorem dX9_digest_213 : decode cX9_digest 213 = .ok (.bipush 39, 2) := by decide +kernel
theorem dX9_digest_215 : decode cX9_digest 215 = .ok (.invokevirtual 356, 3) := by decide +kernel
theorem dX9_digest_218 : decode cX9_digest 218 = .ok (.lstore_n 1, 1) := by decide +kernel
theorem dX9_digest_219 : decode cX9_digest 219 = .ok (.iconst 0, 1) := by decide +kernel
theorem dX9_digest_220 : decode cX9_digest 220 = .ok (.istore_n 3, 1) := by decide +kernel
theorem dX9_digest_221 : decode cX9_digest 221 = .ok (.iload_n 3, 1) := by decide +kernel
theorem dX9_digest_222 : decode cX9_digest 222 = .ok (.aload_n 0, 1) := by decide +kernel
theorem dX9_digest_223 : decode cX9_digest 223 = .ok (.getfield 169, 3) := by decide +kernel
theorem dX9_digest_226 : decode cX9_digest 226 = .ok (.if_icmp .ge 22, 3) := by decide +kernel
theorem dX9_digest_229 : decode cX9_digest 229 = .ok (.ldc2_w 345, 3) := by decide +kernel
theorem dX9_digest_232 : decode cX9_digest 232 = .ok (.lload_n 1, 1) := by decide +kernel
theorem dX9_digest_233 : decode cX9_digest 233 = .ok (.lmul, 1) := by decide +kernel
theorem dX9_digest_234 : decode cX9_digest 234 = .ok (.aload_n 0, 1) := by decide +kernel
theorem dX9_digest_235 : decode cX9_digest 235 = .ok (.iload_n 3, 1) := by decide +kernel
theorem dX9_digest_236 : decode cX9_digest 236 = .ok (.invokevirtual 270, 3) := by decide +kernel
theorem dX9_digest_239 : decode cX9_digest 239 = .ok (.i2l, 1) := by decide +kernel
theorem dX9_digest_240 : decode cX9_digest 240 = .ok (.ladd, 1) := by decide +kernel
theorem dX9_digest_241 : decode cX9_digest 241 = .ok (.lstore_n 1, 1) := by decide +kernel
theorem dX9_digest_242 : decode cX9_digest 242 = .ok (.iinc 3 1, 3) := by decide +kernel
theorem dX9_digest_245 : decode cX9_digest 245 = .ok (.goto (-24), 3) := by decide +kernel
theorem dX9_digest_248 : decode cX9_digest 248 = .ok (.ldc2_w 345, 3) := by decide +kernel
theorem dX9_digest_251 : decode cX9_digest 251 = .ok (.lload_n 1, 1) := by decide +kernel
theorem dX9_digest_252 : decode cX9_digest 252 = .ok (.lmul, 1) := by decide +kernel
theorem dX9_digest_253 : decode cX9_digest 253 = .ok (.aload_n 0, 1) := by decide +kernel
theorem dX9_digest_254 : decode cX9_digest 254 = .ok (.invokevirtual 306, 3) := by decide +kernel
theorem dX9_digest_257 : decode cX9_digest 257 = .ok (.i2l, 1) := by decide +kernel
theorem dX9_digest_258 : decode cX9_digest 258 = .ok (.ladd, 1) := by decide +kernel
theorem dX9_digest_259 : decode cX9_digest 259 = .ok (.lstore_n 1, 1) := by decide +kernel
theorem dX9_digest_260 : decode cX9_digest 260 = .ok (.ldc2_w 345, 3) := by decide +kernel
theorem dX9_digest_263 : decode cX9_digest 263 = .ok (.lload_n 1, 1) := by decide +kernel
theorem dX9_digest_264 : decode cX9_digest 264 = .ok (.lmul, 1) := by decide +kernel
theorem dX9_digest_265 : decode cX9_digest 265 = .ok (.aload_n 0, 1) := by decide +kernel
theorem dX9_digest_266 : decode cX9_digest 266 = .ok (.iconst 0, 1) := by decide +kernel
theorem dX9_digest_267 : decode cX9_digest 267 = .ok (.invokevirtual 309, 3) := by decide +kernel
theorem dX9_digest_270 : decode cX9_digest 270 = .ok (.i2l, 1) := by decide +kernel
theorem dX9_digest_271 : decode cX9_digest 271 = .ok (.ladd, 1) := by decide +kernel
theorem dX9_digest_272 : decode cX9_digest 272 = .ok (.lstore_n 1, 1) := by decide +kernel
theorem dX9_digest_273 : decode cX9_digest 273 = .ok (.ldc2_w 345, 3) := by decide +kernel
theorem dX9_digest_276 : decode cX9_digest 276 = .ok (.lload_n 1, 1) := by decide +kernel
theorem dX9_digest_277 : decode cX9_digest 277 = .ok (.lmul, 1) := by decide +kernel
theorem dX9_digest_278 : decode cX9_digest 278 = .ok (.aload_n 0, 1) := by decide +kernel
theorem dX9_digest_279 : decode cX9_digest 279 = .ok (.iconst 1, 1) := by decide +kernel
theorem dX9_digest_280 : decode cX9_digest 280 = .ok (.invokevirtual 309, 3) := by decide +kernel
theorem dX9_digest_283 : decode cX9_digest 283 = .ok (.i2l, 1) := by decide +kernel
theorem dX9_digest_284 : decode cX9_digest 284 = .ok (.ladd, 1) := by decide +kernel
theorem dX9_digest_285 : decode cX9_digest 285 = .ok (.lstore_n 1, 1) := by decide +kernel
theorem dX9_digest_286 : decode cX9_digest 286 = .ok (.ldc2_w 345, 3) := by decide +kernel
theorem dX9_digest_289 : decode cX9_digest 289 = .ok (.lload_n 1, 1) := by decide +kernel
theorem dX9_digest_290 : decode cX9_digest 290 = .ok (.lmul, 1) := by decide +kernel
theorem dX9_digest_291 : decode cX9_digest 291 = .ok (.aload_n 0, 1) := by decide +kernel
theorem dX9_digest_292 : decode cX9_digest 292 = .ok (.bipush 7, 2) := by decide +kernel
theorem dX9_digest_294 : decode cX9_digest 294 = .ok (.bipush 20, 2) := by decide +kernel
theorem dX9_digest_296 : decode cX9_digest 296 = .ok (.iconst (-1), 1) := by decide +kernel
theorem dX9_digest_297 : decode cX9_digest 297 = .ok (.invokevirtual 328, 3) := by decide +kernel
theorem dX9_digest_300 : decode cX9_digest 300 = .ok (.i2l, 1) := by decide +kernel
theorem dX9_digest_301 : decode cX9_digest 301 = .ok (.ladd, 1) := by decide +kernel
theorem dX9_digest_302 : decode cX9_digest 302 = .ok (.lreturn, 1) := by decide +kernel
