-- the instructions, decoded (X11)
theorem d_Mo_isIn_0 : decode prog_13_method_2_code 0 = .ok (.lload_n 0, 1) := by decide +kernel
theorem d_Mo_isIn_1 : decode prog_13_method_2_code 1 = .ok (.lload_n 2, 1) := by decide +kernel
theorem d_Mo_isIn_2 : decode prog_13_method_2_code 2 = .ok (.lcmp, 1) := by decide +kernel
theorem d_Mo_isIn_3 : decode prog_13_method_2_code 3 = .ok (.ifCond .lt 14, 3) := by decide +kernel
theorem d_Mo_isIn_6 : decode prog_13_method_2_code 6 = .ok (.lload_n 0, 1) := by decide +kernel
theorem d_Mo_isIn_7 : decode prog_13_method_2_code 7 = .ok (.lload 4, 2) := by decide +kernel
theorem d_Mo_isIn_9 : decode prog_13_method_2_code 9 = .ok (.lcmp, 1) := by decide +kernel
theorem d_Mo_isIn_10 : decode prog_13_method_2_code 10 = .ok (.ifCond .gt 7, 3) := by decide +kernel
theorem d_Mo_isIn_13 : decode prog_13_method_2_code 13 = .ok (.iconst 1, 1) := by decide +kernel
theorem d_Mo_isIn_14 : decode prog_13_method_2_code 14 = .ok (.goto 4, 3) := by decide +kernel
theorem d_Mo_isIn_17 : decode prog_13_method_2_code 17 = .ok (.iconst 0, 1) := by decide +kernel
theorem d_Mo_isIn_18 : decode prog_13_method_2_code 18 = .ok (.ireturn, 1) := by decide +kernel
theorem d_Mo_init_0 : decode prog_13_method_3_code 0 = .ok (.aload_n 0, 1) := by decide +kernel
theorem d_Mo_init_1 : decode prog_13_method_3_code 1 = .ok (.invokespecial 7, 3) := by decide +kernel
theorem d_Mo_init_4 : decode prog_13_method_3_code 4 = .ok (.aload_n 0, 1) := by decide +kernel
theorem d_Mo_init_5 : decode prog_13_method_3_code 5 = .ok (.iconst 5, 1) := by decide +kernel
theorem d_Mo_init_6 : decode prog_13_method_3_code 6 = .ok (.newarray .int, 2) := by decide +kernel
theorem d_Mo_init_8 : decode prog_13_method_3_code 8 = .ok (.dup, 1) := by decide +kernel
theorem d_Mo_init_9 : decode prog_13_method_3_code 9 = .ok (.iconst 0, 1) := by decide +kernel
theorem d_Mo_init_10 : decode prog_13_method_3_code 10 = .ok (.ldc 13, 2) := by decide +kernel
theorem d_Mo_init_12 : decode prog_13_method_3_code 12 = .ok (.iastore, 1) := by decide +kernel
theorem d_Mo_init_13 : decode prog_13_method_3_code 13 = .ok (.dup, 1) := by decide +kernel
theorem d_Mo_init_14 : decode prog_13_method_3_code 14 = .ok (.iconst 1, 1) := by decide +kernel
theorem d_Mo_init_15 : decode prog_13_method_3_code 15 = .ok (.bipush 50, 2) := by decide +kernel
theorem d_Mo_init_17 : decode prog_13_method_3_code 17 = .ok (.iastore, 1) := by decide +kernel
theorem d_Mo_init_18 : decode prog_13_method_3_code 18 = .ok (.dup, 1) := by decide +kernel
theorem d_Mo_init_19 : decode prog_13_method_3_code 19 = .ok (.iconst 2, 1) := by decide +kernel
theorem d_Mo_init_20 : decode prog_13_method_3_code 20 = .ok (.iconst 0, 1) := by decide +kernel
theorem d_Mo_init_21 : decode prog_13_method_3_code 21 = .ok (.iastore, 1) := by decide +kernel
theorem d_Mo_init_22 : decode prog_13_method_3_code 22 = .ok (.dup, 1) := by decide +kernel
theorem d_Mo_init_23 : decode prog_13_method_3_code 23 = .ok (.iconst 3, 1) := by decide +kernel
theorem d_Mo_init_24 : decode prog_13_method_3_code 24 = .ok (.iconst 0, 1) := by decide +kernel
theorem d_Mo_init_25 : decode prog_13_method_3_code 25 = .ok (.iastore, 1) := by decide +kernel
theorem d_Mo_init_26 : decode prog_13_method_3_code 26 = .ok (.dup, 1) := by decide +kernel
theorem d_Mo_init_27 : decode prog_13_method_3_code 27 = .ok (.iconst 4, 1) := by decide +kernel
theorem d_Mo_init_28 : decode prog_13_method_3_code 28 = .ok (.bipush 7, 2) := by decide +kernel
theorem d_Mo_init_30 : decode prog_13_method_3_code 30 = .ok (.iastore, 1) := by decide +kernel
theorem d_Mo_init_31 : decode prog_13_method_3_code 31 = .ok (.putfield 14, 3) := by decide +kernel
theorem d_Mo_init_34 : decode prog_13_method_3_code 34 = .ok (.aload_n 0, 1) := by decide +kernel
theorem d_Mo_init_35 : decode prog_13_method_3_code 35 = .ok (.iconst 5, 1) := by decide +kernel
theorem d_Mo_init_36 : decode prog_13_method_3_code 36 = .ok (.newarray .int, 2) := by decide +kernel
theorem d_Mo_init_38 : decode prog_13_method_3_code 38 = .ok (.dup, 1) := by decide +kernel
theorem d_Mo_init_39 : decode prog_13_method_3_code 39 = .ok (.iconst 0, 1) := by decide +kernel
theorem d_Mo_init_40 : decode prog_13_method_3_code 40 = .ok (.iconst 1, 1) := by decide +kernel
theorem d_Mo_init_41 : decode prog_13_method_3_code 41 = .ok (.iastore, 1) := by decide +kernel
theorem d_Mo_init_42 : decode prog_13_method_3_code 42 = .ok (.dup, 1) := by decide +kernel
theorem d_Mo_init_43 : decode prog_13_method_3_code 43 = .ok (.iconst 1, 1) := by decide +kernel
theorem d_Mo_init_44 : decode prog_13_method_3_code 44 = .ok (.iconst 1, 1) := by decide +kernel
theorem d_Mo_init_45 : decode prog_13_method_3_code 45 = .ok (.iastore, 1) := by decide +kernel
theorem d_Mo_init_46 : decode prog_13_method_3_code 46 = .ok (.dup, 1) := by decide +kernel
theorem d_Mo_init_47 : decode prog_13_method_3_code 47 = .ok (.iconst 2, 1) := by decide +kernel
theorem d_Mo_init_48 : decode prog_13_method_3_code 48 = .ok (.iconst 0, 1) := by decide +kernel
theorem d_Mo_init_49 : decode prog_13_method_3_code 49 = .ok (.iastore, 1) := by decide +kernel
theorem d_Mo_init_50 : decode prog_13_method_3_code 50 = .ok (.dup, 1) := by decide +kernel
theorem d_Mo_init_51 : decode prog_13_method_3_code 51 = .ok (.iconst 3, 1) := by decide +kernel
theorem d_Mo_init_52 : decode prog_13_method_3_code 52 = .ok (.iconst 0, 1) := by decide +kernel
theorem d_Mo_init_53 : decode prog_13_method_3_code 53 = .ok (.iastore, 1) := by decide +kernel
theorem d_Mo_init_54 : decode prog_13_method_3_code 54 = .ok (.dup, 1) := by decide +kernel
theorem d_Mo_init_55 : decode prog_13_method_3_code 55 = .ok (.iconst 4, 1) := by decide +kernel
theorem d_Mo_init_56 : decode prog_13_method_3_code 56 = .ok (.iconst 0, 1) := by decide +kernel
theorem d_Mo_init_57 : decode prog_13_method_3_code 57 = .ok (.iastore, 1) := by decide +kernel
theorem d_Mo_init_58 : decode prog_13_method_3_code 58 = .ok (.putfield 18, 3) := by decide +kernel
theorem d_Mo_init_61 : decode prog_13_method_3_code 61 = .ok (.aload_n 0, 1) := by decide +kernel
theorem d_Mo_init_62 : decode prog_13_method_3_code 62 = .ok (.iconst 5, 1) := by decide +kernel
theorem d_Mo_init_63 : decode prog_13_method_3_code 63 = .ok (.newarray .int, 2) := by decide +kernel
theorem d_Mo_init_65 : decode prog_13_method_3_code 65 = .ok (.dup, 1) := by decide +kernel
theorem d_Mo_init_66 : decode prog_13_method_3_code 66 = .ok (.iconst 0, 1) := by decide +kernel
theorem d_Mo_init_67 : decode prog_13_method_3_code 67 = .ok (.ldc 21, 2) := by decide +kernel
theorem d_Mo_init_69 : decode prog_13_method_3_code 69 = .ok (.iastore, 1) := by decide +kernel
theorem d_Mo_init_70 : decode prog_13_method_3_code 70 = .ok (.dup, 1) := by decide +kernel
theorem d_Mo_init_71 : decode prog_13_method_3_code 71 = .ok (.iconst 1, 1) := by decide +kernel
theorem d_Mo_init_72 : decode prog_13_method_3_code 72 = .ok (.sipush 500, 3) := by decide +kernel
theorem d_Mo_init_75 : decode prog_13_method_3_code 75 = .ok (.iastore, 1) := by decide +kernel
theorem d_Mo_init_76 : decode prog_13_method_3_code 76 = .ok (.dup, 1) := by decide +kernel
theorem d_Mo_init_77 : decode prog_13_method_3_code 77 = .ok (.iconst 2, 1) := by decide +kernel
theorem d_Mo_init_78 : decode prog_13_method_3_code 78 = .ok (.bipush 9, 2) := by decide +kernel
theorem d_Mo_init_80 : decode prog_13_method_3_code 80 = .ok (.iastore, 1) := by decide +kernel
theorem d_Mo_init_81 : decode prog_13_method_3_code 81 = .ok (.dup, 1) := by decide +kernel
theorem d_Mo_init_82 : decode prog_13_method_3_code 82 = .ok (.iconst 3, 1) := by decide +kernel
theorem d_Mo_init_83 : decode prog_13_method_3_code 83 = .ok (.iconst 1, 1) := by decide +kernel
theorem d_Mo_init_84 : decode prog_13_method_3_code 84 = .ok (.iastore, 1) := by decide +kernel
theorem d_Mo_init_85 : decode prog_13_method_3_code 85 = .ok (.dup, 1) := by decide +kernel
theorem d_Mo_init_86 : decode prog_13_method_3_code 86 = .ok (.iconst 4, 1) := by decide +kernel
theorem d_Mo_init_87 : decode prog_13_method_3_code 87 = .ok (.ldc 22, 2) := by decide +kernel
theorem d_Mo_init_89 : decode prog_13_method_3_code 89 = .ok (.iastore, 1) := by decide +kernel
theorem d_Mo_init_90 : decode prog_13_method_3_code 90 = .ok (.putfield 23, 3) := by decide +kernel
theorem d_Mo_init_93 : decode prog_13_method_3_code 93 = .ok (.aload_n 0, 1) := by decide +kernel
theorem d_Mo_init_94 : decode prog_13_method_3_code 94 = .ok (.sipush 192, 3) := by decide +kernel
theorem d_Mo_init_97 : decode prog_13_method_3_code 97 = .ok (.newarray .int, 2) := by decide +kernel
theorem d_Mo_init_99 : decode prog_13_method_3_code 99 = .ok (.putfield 26, 3) := by decide +kernel
theorem d_Mo_init_102 : decode prog_13_method_3_code 102 = .ok (.aload_n 0, 1) := by decide +kernel
theorem d_Mo_init_103 : decode prog_13_method_3_code 103 = .ok (.sipush 192, 3) := by decide +kernel
theorem d_Mo_init_106 : decode prog_13_method_3_code 106 = .ok (.newarray .int, 2) := by decide +kernel
theorem d_Mo_init_108 : decode prog_13_method_3_code 108 = .ok (.putfield 29, 3) := by decide +kernel
theorem d_Mo_init_111 : decode prog_13_method_3_code 111 = .ok (.aload_n 0, 1) := by decide +kernel
theorem d_Mo_init_112 : decode prog_13_method_3_code 112 = .ok (.iconst 5, 1) := by decide +kernel
theorem d_Mo_init_113 : decode prog_13_method_3_code 113 = .ok (.newarray .int, 2) := by decide +kernel
theorem d_Mo_init_115 : decode prog_13_method_3_code 115 = .ok (.putfield 32, 3) := by decide +kernel
theorem d_Mo_init_118 : decode prog_13_method_3_code 118 = .ok (.aload_n 0, 1) := by decide +kernel
theorem d_Mo_init_119 : decode prog_13_method_3_code 119 = .ok (.bipush 7, 2) := by decide +kernel
theorem d_Mo_init_121 : decode prog_13_method_3_code 121 = .ok (.putfield 35, 3) := by decide +kernel
theorem d_Mo_init_124 : decode prog_13_method_3_code 124 = .ok (.aload_n 0, 1) := by decide +kernel
theorem d_Mo_init_125 : decode prog_13_method_3_code 125 = .ok (.sipush 900, 3) := by decide +kernel
theorem d_Mo_init_128 : decode prog_13_method_3_code 128 = .ok (.newarray .byte, 2) := by decide +kernel
theorem d_Mo_init_130 : decode prog_13_method_3_code 130 = .ok (.putfield 38, 3) := by decide +kernel
theorem d_Mo_init_133 : decode prog_13_method_3_code 133 = .ok (.aload_n 0, 1) := by decide +kernel
theorem d_Mo_init_134 : decode prog_13_method_3_code 134 = .ok (.iconst (-1), 1) := by decide +kernel
theorem d_Mo_init_135 : decode prog_13_method_3_code 135 = .ok (.putfield 42, 3) := by decide +kernel
theorem d_Mo_init_138 : decode prog_13_method_3_code 138 = .ok (.aload_n 0, 1) := by decide +kernel
theorem d_Mo_init_139 : decode prog_13_method_3_code 139 = .ok (.bipush 9, 2) := by decide +kernel
theorem d_Mo_init_141 : decode prog_13_method_3_code 141 = .ok (.newarray .byte, 2) := by decide +kernel
theorem d_Mo_init_143 : decode prog_13_method_3_code 143 = .ok (.dup, 1) := by decide +kernel
theorem d_Mo_init_144 : decode prog_13_method_3_code 144 = .ok (.iconst 0, 1) := by decide +kernel
theorem d_Mo_init_145 : decode prog_13_method_3_code 145 = .ok (.bipush 105, 2) := by decide +kernel
theorem d_Mo_init_147 : decode prog_13_method_3_code 147 = .ok (.bastore, 1) := by decide +kernel
theorem d_Mo_init_148 : decode prog_13_method_3_code 148 = .ok (.dup, 1) := by decide +kernel
theorem d_Mo_init_149 : decode prog_13_method_3_code 149 = .ok (.iconst 1, 1) := by decide +kernel
theorem d_Mo_init_150 : decode prog_13_method_3_code 150 = .ok (.bipush 116, 2) := by decide +kernel
theorem d_Mo_init_152 : decode prog_13_method_3_code 152 = .ok (.bastore, 1) := by decide +kernel
theorem d_Mo_init_153 : decode prog_13_method_3_code 153 = .ok (.dup, 1) := by decide +kernel
theorem d_Mo_init_154 : decode prog_13_method_3_code 154 = .ok (.iconst 2, 1) := by decide +kernel
theorem d_Mo_init_155 : decode prog_13_method_3_code 155 = .ok (.bipush 101, 2) := by decide +kernel
theorem d_Mo_init_157 : decode prog_13_method_3_code 157 = .ok (.bastore, 1) := by decide +kernel
theorem d_Mo_init_158 : decode prog_13_method_3_code 158 = .ok (.dup, 1) := by decide +kernel
theorem d_Mo_init_159 : decode prog_13_method_3_code 159 = .ok (.iconst 3, 1) := by decide +kernel
theorem d_Mo_init_160 : decode prog_13_method_3_code 160 = .ok (.bipush 109, 2) := by decide +kernel
theorem d_Mo_init_162 : decode prog_13_method_3_code 162 = .ok (.bastore, 1) := by decide +kernel
theorem d_Mo_init_163 : decode prog_13_method_3_code 163 = .ok (.dup, 1) := by decide +kernel
theorem d_Mo_init_164 : decode prog_13_method_3_code 164 = .ok (.iconst 4, 1) := by decide +kernel
theorem d_Mo_init_165 : decode prog_13_method_3_code 165 = .ok (.bipush 97, 2) := by decide +kernel
theorem d_Mo_init_167 : decode prog_13_method_3_code 167 = .ok (.bastore, 1) := by decide +kernel
theorem d_Mo_init_168 : decode prog_13_method_3_code 168 = .ok (.dup, 1) := by decide +kernel
theorem d_Mo_init_169 : decode prog_13_method_3_code 169 = .ok (.iconst 5, 1) := by decide +kernel
theorem d_Mo_init_170 : decode prog_13_method_3_code 170 = .ok (.bipush 117, 2) := by decide +kernel
theorem d_Mo_init_172 : decode prog_13_method_3_code 172 = .ok (.bastore, 1) := by decide +kernel
theorem d_Mo_init_173 : decode prog_13_method_3_code 173 = .ok (.dup, 1) := by decide +kernel
theorem d_Mo_init_174 : decode prog_13_method_3_code 174 = .ok (.bipush 6, 2) := by decide +kernel
theorem d_Mo_init_176 : decode prog_13_method_3_code 176 = .ok (.bipush 100, 2) := by decide +kernel
theorem d_Mo_init_178 : decode prog_13_method_3_code 178 = .ok (.bastore, 1) := by decide +kernel
theorem d_Mo_init_179 : decode prog_13_method_3_code 179 = .ok (.dup, 1) := by decide +kernel
theorem d_Mo_init_180 : decode prog_13_method_3_code 180 = .ok (.bipush 7, 2) := by decide +kernel
theorem d_Mo_init_182 : decode prog_13_method_3_code 182 = .ok (.bipush 105, 2) := by decide +kernel
theorem d_Mo_init_184 : decode prog_13_method_3_code 184 = .ok (.bastore, 1) := by decide +kernel
theorem d_Mo_init_185 : decode prog_13_method_3_code 185 = .ok (.dup, 1) := by decide +kernel
theorem d_Mo_init_186 : decode prog_13_method_3_code 186 = .ok (.bipush 8, 2) := by decide +kernel
theorem d_Mo_init_188 : decode prog_13_method_3_code 188 = .ok (.bipush 116, 2) := by decide +kernel
theorem d_Mo_init_190 : decode prog_13_method_3_code 190 = .ok (.bastore, 1) := by decide +kernel
theorem d_Mo_init_191 : decode prog_13_method_3_code 191 = .ok (.putfield 45, 3) := by decide +kernel
theorem d_Mo_init_194 : decode prog_13_method_3_code 194 = .ok (.aload_n 0, 1) := by decide +kernel
theorem d_Mo_init_195 : decode prog_13_method_3_code 195 = .ok (.bipush 48, 2) := by decide +kernel
theorem d_Mo_init_197 : decode prog_13_method_3_code 197 = .ok (.newarray .int, 2) := by decide +kernel
theorem d_Mo_init_199 : decode prog_13_method_3_code 199 = .ok (.putfield 48, 3) := by decide +kernel
theorem d_Mo_init_202 : decode prog_13_method_3_code 202 = .ok (.aload_n 0, 1) := by decide +kernel
theorem d_Mo_init_203 : decode prog_13_method_3_code 203 = .ok (.sipush 240, 3) := by decide +kernel
theorem d_Mo_init_206 : decode prog_13_method_3_code 206 = .ok (.newarray .int, 2) := by decide +kernel
theorem d_Mo_init_208 : decode prog_13_method_3_code 208 = .ok (.putfield 51, 3) := by decide +kernel
theorem d_Mo_init_211 : decode prog_13_method_3_code 211 = .ok (.aload_n 0, 1) := by decide +kernel
theorem d_Mo_init_212 : decode prog_13_method_3_code 212 = .ok (.sipush 240, 3) := by decide +kernel
theorem d_Mo_init_215 : decode prog_13_method_3_code 215 = .ok (.newarray .int, 2) := by decide +kernel
theorem d_Mo_init_217 : decode prog_13_method_3_code 217 = .ok (.putfield 54, 3) := by decide +kernel
theorem d_Mo_init_220 : decode prog_13_method_3_code 220 = .ok (.aload_n 0, 1) := by decide +kernel
theorem d_Mo_init_221 : decode prog_13_method_3_code 221 = .ok (.sipush 240, 3) := by decide +kernel
theorem d_Mo_init_224 : decode prog_13_method_3_code 224 = .ok (.newarray .int, 2) := by decide +kernel
theorem d_Mo_init_226 : decode prog_13_method_3_code 226 = .ok (.putfield 57, 3) := by decide +kernel
theorem d_Mo_init_229 : decode prog_13_method_3_code 229 = .ok (.aload_n 0, 1) := by decide +kernel
theorem d_Mo_init_230 : decode prog_13_method_3_code 230 = .ok (.bipush 48, 2) := by decide +kernel
theorem d_Mo_init_232 : decode prog_13_method_3_code 232 = .ok (.newarray .int, 2) := by decide +kernel
theorem d_Mo_init_234 : decode prog_13_method_3_code 234 = .ok (.putfield 60, 3) := by decide +kernel
theorem d_Mo_init_237 : decode prog_13_method_3_code 237 = .ok (.aload_n 0, 1) := by decide +kernel
theorem d_Mo_init_238 : decode prog_13_method_3_code 238 = .ok (.sipush 401, 3) := by decide +kernel
theorem d_Mo_init_241 : decode prog_13_method_3_code 241 = .ok (.newarray .int, 2) := by decide +kernel
theorem d_Mo_init_243 : decode prog_13_method_3_code 243 = .ok (.putfield 63, 3) := by decide +kernel
theorem d_Mo_init_246 : decode prog_13_method_3_code 246 = .ok (.aload_n 0, 1) := by decide +kernel
theorem d_Mo_init_247 : decode prog_13_method_3_code 247 = .ok (.iconst (-1), 1) := by decide +kernel
theorem d_Mo_init_248 : decode prog_13_method_3_code 248 = .ok (.putfield 66, 3) := by decide +kernel
theorem d_Mo_init_251 : decode prog_13_method_3_code 251 = .ok (.aload_n 0, 1) := by decide +kernel
theorem d_Mo_init_252 : decode prog_13_method_3_code 252 = .ok (.bipush 60, 2) := by decide +kernel
theorem d_Mo_init_254 : decode prog_13_method_3_code 254 = .ok (.newarray .int, 2) := by decide +kernel
theorem d_Mo_init_256 : decode prog_13_method_3_code 256 = .ok (.putfield 69, 3) := by decide +kernel
theorem d_Mo_init_259 : decode prog_13_method_3_code 259 = .ok (.aload_n 0, 1) := by decide +kernel
theorem d_Mo_init_260 : decode prog_13_method_3_code 260 = .ok (.sipush 240, 3) := by decide +kernel
theorem d_Mo_init_263 : decode prog_13_method_3_code 263 = .ok (.newarray .int, 2) := by decide +kernel
theorem d_Mo_init_265 : decode prog_13_method_3_code 265 = .ok (.putfield 72, 3) := by decide +kernel
theorem d_Mo_init_268 : decode prog_13_method_3_code 268 = .ok (.aload_n 0, 1) := by decide +kernel
theorem d_Mo_init_269 : decode prog_13_method_3_code 269 = .ok (.bipush 98, 2) := by decide +kernel
theorem d_Mo_init_271 : decode prog_13_method_3_code 271 = .ok (.newarray .int, 2) := by decide +kernel
theorem d_Mo_init_273 : decode prog_13_method_3_code 273 = .ok (.putfield 75, 3) := by decide +kernel
theorem d_Mo_init_276 : decode prog_13_method_3_code 276 = .ok (.aload_n 0, 1) := by decide +kernel
theorem d_Mo_init_277 : decode prog_13_method_3_code 277 = .ok (.bipush 48, 2) := by decide +kernel
theorem d_Mo_init_279 : decode prog_13_method_3_code 279 = .ok (.newarray .boolean, 2) := by decide +kernel
theorem d_Mo_init_281 : decode prog_13_method_3_code 281 = .ok (.putfield 78, 3) := by decide +kernel
theorem d_Mo_init_284 : decode prog_13_method_3_code 284 = .ok (.return_, 1) := by decide +kernel
theorem d_Mo_book_0 : decode prog_13_method_4_code 0 = .ok (.aload_n 0, 1) := by decide +kernel
theorem d_Mo_book_1 : decode prog_13_method_4_code 1 = .ok (.getfield 26, 3) := by decide +kernel
theorem d_Mo_book_4 : decode prog_13_method_4_code 4 = .ok (.iconst 4, 1) := by decide +kernel
theorem d_Mo_book_5 : decode prog_13_method_4_code 5 = .ok (.iload_n 1, 1) := by decide +kernel
theorem d_Mo_book_6 : decode prog_13_method_4_code 6 = .ok (.imul, 1) := by decide +kernel
theorem d_Mo_book_7 : decode prog_13_method_4_code 7 = .ok (.iconst 2, 1) := by decide +kernel
theorem d_Mo_book_8 : decode prog_13_method_4_code 8 = .ok (.iadd, 1) := by decide +kernel
theorem d_Mo_book_9 : decode prog_13_method_4_code 9 = .ok (.iaload, 1) := by decide +kernel
theorem d_Mo_book_10 : decode prog_13_method_4_code 10 = .ok (.ireturn, 1) := by decide +kernel
theorem d_Mo_audited_0 : decode prog_13_method_5_code 0 = .ok (.aload_n 0, 1) := by decide +kernel
theorem d_Mo_audited_1 : decode prog_13_method_5_code 1 = .ok (.getfield 26, 3) := by decide +kernel
theorem d_Mo_audited_4 : decode prog_13_method_5_code 4 = .ok (.iconst 4, 1) := by decide +kernel
theorem d_Mo_audited_5 : decode prog_13_method_5_code 5 = .ok (.iload_n 1, 1) := by decide +kernel
theorem d_Mo_audited_6 : decode prog_13_method_5_code 6 = .ok (.imul, 1) := by decide +kernel
theorem d_Mo_audited_7 : decode prog_13_method_5_code 7 = .ok (.iconst 3, 1) := by decide +kernel
theorem d_Mo_audited_8 : decode prog_13_method_5_code 8 = .ok (.iadd, 1) := by decide +kernel
theorem d_Mo_audited_9 : decode prog_13_method_5_code 9 = .ok (.iaload, 1) := by decide +kernel
theorem d_Mo_audited_10 : decode prog_13_method_5_code 10 = .ok (.ireturn, 1) := by decide +kernel
theorem d_Mo_coinsOf_0 : decode prog_13_method_6_code 0 = .ok (.aload_n 0, 1) := by decide +kernel
theorem d_Mo_coinsOf_1 : decode prog_13_method_6_code 1 = .ok (.iload_n 1, 1) := by decide +kernel
theorem d_Mo_coinsOf_2 : decode prog_13_method_6_code 2 = .ok (.invokevirtual 82, 3) := by decide +kernel
theorem d_Mo_coinsOf_5 : decode prog_13_method_6_code 5 = .ok (.ifCond .le 11, 3) := by decide +kernel
theorem d_Mo_coinsOf_8 : decode prog_13_method_6_code 8 = .ok (.aload_n 0, 1) := by decide +kernel
theorem d_Mo_coinsOf_9 : decode prog_13_method_6_code 9 = .ok (.iload_n 1, 1) := by decide +kernel
theorem d_Mo_coinsOf_10 : decode prog_13_method_6_code 10 = .ok (.invokevirtual 82, 3) := by decide +kernel
theorem d_Mo_coinsOf_13 : decode prog_13_method_6_code 13 = .ok (.goto 4, 3) := by decide +kernel
theorem d_Mo_coinsOf_16 : decode prog_13_method_6_code 16 = .ok (.iconst 0, 1) := by decide +kernel
theorem d_Mo_coinsOf_17 : decode prog_13_method_6_code 17 = .ok (.ireturn, 1) := by decide +kernel
theorem d_Mo_allCoins_0 : decode prog_13_method_7_code 0 = .ok (.iconst 0, 1) := by decide +kernel
theorem d_Mo_allCoins_1 : decode prog_13_method_7_code 1 = .ok (.istore_n 1, 1) := by decide +kernel
theorem d_Mo_allCoins_2 : decode prog_13_method_7_code 2 = .ok (.iconst 0, 1) := by decide +kernel
theorem d_Mo_allCoins_3 : decode prog_13_method_7_code 3 = .ok (.istore_n 2, 1) := by decide +kernel
theorem d_Mo_allCoins_4 : decode prog_13_method_7_code 4 = .ok (.iload_n 2, 1) := by decide +kernel
theorem d_Mo_allCoins_5 : decode prog_13_method_7_code 5 = .ok (.aload_n 0, 1) := by decide +kernel
theorem d_Mo_allCoins_6 : decode prog_13_method_7_code 6 = .ok (.getfield 86, 3) := by decide +kernel
theorem d_Mo_allCoins_9 : decode prog_13_method_7_code 9 = .ok (.if_icmp .ge 17, 3) := by decide +kernel
theorem d_Mo_allCoins_12 : decode prog_13_method_7_code 12 = .ok (.iload_n 1, 1) := by decide +kernel
theorem d_Mo_allCoins_13 : decode prog_13_method_7_code 13 = .ok (.aload_n 0, 1) := by decide +kernel
theorem d_Mo_allCoins_14 : decode prog_13_method_7_code 14 = .ok (.iload_n 2, 1) := by decide +kernel
theorem d_Mo_allCoins_15 : decode prog_13_method_7_code 15 = .ok (.invokevirtual 89, 3) := by decide +kernel
theorem d_Mo_allCoins_18 : decode prog_13_method_7_code 18 = .ok (.iadd, 1) := by decide +kernel
theorem d_Mo_allCoins_19 : decode prog_13_method_7_code 19 = .ok (.istore_n 1, 1) := by decide +kernel
theorem d_Mo_allCoins_20 : decode prog_13_method_7_code 20 = .ok (.iinc 2 1, 3) := by decide +kernel
theorem d_Mo_allCoins_23 : decode prog_13_method_7_code 23 = .ok (.goto (-19), 3) := by decide +kernel
theorem d_Mo_allCoins_26 : decode prog_13_method_7_code 26 = .ok (.iload_n 1, 1) := by decide +kernel
theorem d_Mo_allCoins_27 : decode prog_13_method_7_code 27 = .ok (.ireturn, 1) := by decide +kernel
theorem d_Mo_isItem_0 : decode prog_13_method_8_code 0 = .ok (.iload_n 1, 1) := by decide +kernel
theorem d_Mo_isItem_1 : decode prog_13_method_8_code 1 = .ok (.i2l, 1) := by decide +kernel
theorem d_Mo_isItem_2 : decode prog_13_method_8_code 2 = .ok (.lconst 0, 1) := by decide +kernel
theorem d_Mo_isItem_3 : decode prog_13_method_8_code 3 = .ok (.aload_n 0, 1) := by decide +kernel
theorem d_Mo_isItem_4 : decode prog_13_method_8_code 4 = .ok (.getfield 86, 3) := by decide +kernel
theorem d_Mo_isItem_7 : decode prog_13_method_8_code 7 = .ok (.iconst 1, 1) := by decide +kernel
theorem d_Mo_isItem_8 : decode prog_13_method_8_code 8 = .ok (.isub, 1) := by decide +kernel
theorem d_Mo_isItem_9 : decode prog_13_method_8_code 9 = .ok (.i2l, 1) := by decide +kernel
theorem d_Mo_isItem_10 : decode prog_13_method_8_code 10 = .ok (.invokestatic 92, 3) := by decide +kernel
theorem d_Mo_isItem_13 : decode prog_13_method_8_code 13 = .ok (.ireturn, 1) := by decide +kernel
theorem d_Mo_errorOf_0 : decode prog_13_method_9_code 0 = .ok (.aload_n 0, 1) := by decide +kernel
theorem d_Mo_errorOf_1 : decode prog_13_method_9_code 1 = .ok (.iload_n 1, 1) := by decide +kernel
theorem d_Mo_errorOf_2 : decode prog_13_method_9_code 2 = .ok (.invokevirtual 96, 3) := by decide +kernel
theorem d_Mo_errorOf_5 : decode prog_13_method_9_code 5 = .ok (.iconst (-1), 1) := by decide +kernel
theorem d_Mo_errorOf_6 : decode prog_13_method_9_code 6 = .ok (.if_icmp .ne 7, 3) := by decide +kernel
theorem d_Mo_errorOf_9 : decode prog_13_method_9_code 9 = .ok (.iconst 0, 1) := by decide +kernel
theorem d_Mo_errorOf_10 : decode prog_13_method_9_code 10 = .ok (.goto 14, 3) := by decide +kernel
theorem d_Mo_errorOf_13 : decode prog_13_method_9_code 13 = .ok (.aload_n 0, 1) := by decide +kernel
theorem d_Mo_errorOf_14 : decode prog_13_method_9_code 14 = .ok (.iload_n 1, 1) := by decide +kernel
theorem d_Mo_errorOf_15 : decode prog_13_method_9_code 15 = .ok (.invokevirtual 82, 3) := by decide +kernel
theorem d_Mo_errorOf_18 : decode prog_13_method_9_code 18 = .ok (.aload_n 0, 1) := by decide +kernel
theorem d_Mo_errorOf_19 : decode prog_13_method_9_code 19 = .ok (.iload_n 1, 1) := by decide +kernel
theorem d_Mo_errorOf_20 : decode prog_13_method_9_code 20 = .ok (.invokevirtual 96, 3) := by decide +kernel
theorem d_Mo_errorOf_23 : decode prog_13_method_9_code 23 = .ok (.isub, 1) := by decide +kernel
theorem d_Mo_errorOf_24 : decode prog_13_method_9_code 24 = .ok (.ireturn, 1) := by decide +kernel
theorem d_Mo_taintOf_0 : decode prog_13_method_10_code 0 = .ok (.aload_n 0, 1) := by decide +kernel
theorem d_Mo_taintOf_1 : decode prog_13_method_10_code 1 = .ok (.iload_n 1, 1) := by decide +kernel
theorem d_Mo_taintOf_2 : decode prog_13_method_10_code 2 = .ok (.invokevirtual 96, 3) := by decide +kernel
theorem d_Mo_taintOf_5 : decode prog_13_method_10_code 5 = .ok (.iconst (-1), 1) := by decide +kernel
theorem d_Mo_taintOf_6 : decode prog_13_method_10_code 6 = .ok (.if_icmp .ne 7, 3) := by decide +kernel
theorem d_Mo_taintOf_9 : decode prog_13_method_10_code 9 = .ok (.iconst 0, 1) := by decide +kernel
theorem d_Mo_taintOf_10 : decode prog_13_method_10_code 10 = .ok (.goto 18, 3) := by decide +kernel
theorem d_Mo_taintOf_13 : decode prog_13_method_10_code 13 = .ok (.sipush 10000, 3) := by decide +kernel
theorem d_Mo_taintOf_16 : decode prog_13_method_10_code 16 = .ok (.aload_n 0, 1) := by decide +kernel
theorem d_Mo_taintOf_17 : decode prog_13_method_10_code 17 = .ok (.iload_n 1, 1) := by decide +kernel
theorem d_Mo_taintOf_18 : decode prog_13_method_10_code 18 = .ok (.invokevirtual 99, 3) := by decide +kernel
theorem d_Mo_taintOf_21 : decode prog_13_method_10_code 21 = .ok (.imul, 1) := by decide +kernel
theorem d_Mo_taintOf_22 : decode prog_13_method_10_code 22 = .ok (.aload_n 0, 1) := by decide +kernel
theorem d_Mo_taintOf_23 : decode prog_13_method_10_code 23 = .ok (.iload_n 1, 1) := by decide +kernel
theorem d_Mo_taintOf_24 : decode prog_13_method_10_code 24 = .ok (.invokevirtual 82, 3) := by decide +kernel
theorem d_Mo_taintOf_27 : decode prog_13_method_10_code 27 = .ok (.idiv, 1) := by decide +kernel
theorem d_Mo_taintOf_28 : decode prog_13_method_10_code 28 = .ok (.ireturn, 1) := by decide +kernel
theorem d_Mo_placeIn_0 : decode prog_13_method_11_code 0 = .ok (.iconst 0, 1) := by decide +kernel
theorem d_Mo_placeIn_1 : decode prog_13_method_11_code 1 = .ok (.istore 4, 2) := by decide +kernel
theorem d_Mo_placeIn_3 : decode prog_13_method_11_code 3 = .ok (.iload 4, 2) := by decide +kernel
theorem d_Mo_placeIn_5 : decode prog_13_method_11_code 5 = .ok (.iload_n 1, 1) := by decide +kernel
theorem d_Mo_placeIn_6 : decode prog_13_method_11_code 6 = .ok (.if_icmp .ge 36, 3) := by decide +kernel
theorem d_Mo_placeIn_9 : decode prog_13_method_11_code 9 = .ok (.aload_n 0, 1) := by decide +kernel
theorem d_Mo_placeIn_10 : decode prog_13_method_11_code 10 = .ok (.iconst 4, 1) := by decide +kernel
theorem d_Mo_placeIn_11 : decode prog_13_method_11_code 11 = .ok (.iload 4, 2) := by decide +kernel
theorem d_Mo_placeIn_13 : decode prog_13_method_11_code 13 = .ok (.imul, 1) := by decide +kernel
theorem d_Mo_placeIn_14 : decode prog_13_method_11_code 14 = .ok (.iconst 0, 1) := by decide +kernel
theorem d_Mo_placeIn_15 : decode prog_13_method_11_code 15 = .ok (.iadd, 1) := by decide +kernel
theorem d_Mo_placeIn_16 : decode prog_13_method_11_code 16 = .ok (.iaload, 1) := by decide +kernel
theorem d_Mo_placeIn_17 : decode prog_13_method_11_code 17 = .ok (.iload_n 2, 1) := by decide +kernel
theorem d_Mo_placeIn_18 : decode prog_13_method_11_code 18 = .ok (.if_icmp .ne 18, 3) := by decide +kernel
theorem d_Mo_placeIn_21 : decode prog_13_method_11_code 21 = .ok (.aload_n 0, 1) := by decide +kernel
theorem d_Mo_placeIn_22 : decode prog_13_method_11_code 22 = .ok (.iconst 4, 1) := by decide +kernel
theorem d_Mo_placeIn_23 : decode prog_13_method_11_code 23 = .ok (.iload 4, 2) := by decide +kernel
theorem d_Mo_placeIn_25 : decode prog_13_method_11_code 25 = .ok (.imul, 1) := by decide +kernel
theorem d_Mo_placeIn_26 : decode prog_13_method_11_code 26 = .ok (.iconst 1, 1) := by decide +kernel
theorem d_Mo_placeIn_27 : decode prog_13_method_11_code 27 = .ok (.iadd, 1) := by decide +kernel
theorem d_Mo_placeIn_28 : decode prog_13_method_11_code 28 = .ok (.iaload, 1) := by decide +kernel
theorem d_Mo_placeIn_29 : decode prog_13_method_11_code 29 = .ok (.iload_n 3, 1) := by decide +kernel
theorem d_Mo_placeIn_30 : decode prog_13_method_11_code 30 = .ok (.if_icmp .ne 6, 3) := by decide +kernel
theorem d_Mo_placeIn_33 : decode prog_13_method_11_code 33 = .ok (.iload 4, 2) := by decide +kernel
theorem d_Mo_placeIn_35 : decode prog_13_method_11_code 35 = .ok (.ireturn, 1) := by decide +kernel
theorem d_Mo_placeIn_36 : decode prog_13_method_11_code 36 = .ok (.iinc 4 1, 3) := by decide +kernel
theorem d_Mo_placeIn_39 : decode prog_13_method_11_code 39 = .ok (.goto (-36), 3) := by decide +kernel
theorem d_Mo_placeIn_42 : decode prog_13_method_11_code 42 = .ok (.iconst (-1), 1) := by decide +kernel
theorem d_Mo_placeIn_43 : decode prog_13_method_11_code 43 = .ok (.ireturn, 1) := by decide +kernel
theorem d_Mo_feed_0 : decode prog_13_method_12_code 0 = .ok (.aload_n 0, 1) := by decide +kernel
theorem d_Mo_feed_1 : decode prog_13_method_12_code 1 = .ok (.iconst 0, 1) := by decide +kernel
theorem d_Mo_feed_2 : decode prog_13_method_12_code 2 = .ok (.putfield 1, 3) := by decide +kernel
theorem d_Mo_feed_5 : decode prog_13_method_12_code 5 = .ok (.aload_n 0, 1) := by decide +kernel
theorem d_Mo_feed_6 : decode prog_13_method_12_code 6 = .ok (.getfield 102, 3) := by decide +kernel
theorem d_Mo_feed_9 : decode prog_13_method_12_code 9 = .ok (.bipush 20, 2) := by decide +kernel
theorem d_Mo_feed_11 : decode prog_13_method_12_code 11 = .ok (.iadd, 1) := by decide +kernel
theorem d_Mo_feed_12 : decode prog_13_method_12_code 12 = .ok (.sipush 900, 3) := by decide +kernel
theorem d_Mo_feed_15 : decode prog_13_method_12_code 15 = .ok (.if_icmp .le 6, 3) := by decide +kernel
theorem d_Mo_feed_18 : decode prog_13_method_12_code 18 = .ok (.bipush (-4), 2) := by decide +kernel
theorem d_Mo_feed_20 : decode prog_13_method_12_code 20 = .ok (.ireturn, 1) := by decide +kernel
theorem d_Mo_feed_21 : decode prog_13_method_12_code 21 = .ok (.iconst 0, 1) := by decide +kernel
theorem d_Mo_feed_22 : decode prog_13_method_12_code 22 = .ok (.istore 6, 2) := by decide +kernel
theorem d_Mo_feed_24 : decode prog_13_method_12_code 24 = .ok (.iload 6, 2) := by decide +kernel
theorem d_Mo_feed_26 : decode prog_13_method_12_code 26 = .ok (.bipush 20, 2) := by decide +kernel
theorem d_Mo_feed_28 : decode prog_13_method_12_code 28 = .ok (.if_icmp .ge 90, 3) := by decide +kernel
theorem d_Mo_feed_31 : decode prog_13_method_12_code 31 = .ok (.iload 6, 2) := by decide +kernel
theorem d_Mo_feed_33 : decode prog_13_method_12_code 33 = .ok (.iconst 4, 1) := by decide +kernel
theorem d_Mo_feed_34 : decode prog_13_method_12_code 34 = .ok (.if_icmp .ge 7, 3) := by decide +kernel
theorem d_Mo_feed_37 : decode prog_13_method_12_code 37 = .ok (.iload_n 1, 1) := by decide +kernel
theorem d_Mo_feed_38 : decode prog_13_method_12_code 38 = .ok (.goto 39, 3) := by decide +kernel
theorem d_Mo_feed_41 : decode prog_13_method_12_code 41 = .ok (.iload 6, 2) := by decide +kernel
theorem d_Mo_feed_43 : decode prog_13_method_12_code 43 = .ok (.bipush 8, 2) := by decide +kernel
theorem d_Mo_feed_45 : decode prog_13_method_12_code 45 = .ok (.if_icmp .ge 7, 3) := by decide +kernel
theorem d_Mo_feed_48 : decode prog_13_method_12_code 48 = .ok (.iload_n 2, 1) := by decide +kernel
theorem d_Mo_feed_49 : decode prog_13_method_12_code 49 = .ok (.goto 28, 3) := by decide +kernel
theorem d_Mo_feed_52 : decode prog_13_method_12_code 52 = .ok (.iload 6, 2) := by decide +kernel
theorem d_Mo_feed_54 : decode prog_13_method_12_code 54 = .ok (.bipush 12, 2) := by decide +kernel
theorem d_Mo_feed_56 : decode prog_13_method_12_code 56 = .ok (.if_icmp .ge 7, 3) := by decide +kernel
theorem d_Mo_feed_59 : decode prog_13_method_12_code 59 = .ok (.iload_n 3, 1) := by decide +kernel
theorem d_Mo_feed_60 : decode prog_13_method_12_code 60 = .ok (.goto 17, 3) := by decide +kernel
theorem d_Mo_feed_63 : decode prog_13_method_12_code 63 = .ok (.iload 6, 2) := by decide +kernel
theorem d_Mo_feed_65 : decode prog_13_method_12_code 65 = .ok (.bipush 16, 2) := by decide +kernel
theorem d_Mo_feed_67 : decode prog_13_method_12_code 67 = .ok (.if_icmp .ge 8, 3) := by decide +kernel
theorem d_Mo_feed_70 : decode prog_13_method_12_code 70 = .ok (.iload 4, 2) := by decide +kernel
theorem d_Mo_feed_72 : decode prog_13_method_12_code 72 = .ok (.goto 5, 3) := by decide +kernel
theorem d_Mo_feed_75 : decode prog_13_method_12_code 75 = .ok (.iload 5, 2) := by decide +kernel
theorem d_Mo_feed_77 : decode prog_13_method_12_code 77 = .ok (.istore 7, 2) := by decide +kernel
theorem d_Mo_feed_79 : decode prog_13_method_12_code 79 = .ok (.aload_n 0, 1) := by decide +kernel
theorem d_Mo_feed_80 : decode prog_13_method_12_code 80 = .ok (.getfield 38, 3) := by decide +kernel
theorem d_Mo_feed_83 : decode prog_13_method_12_code 83 = .ok (.aload_n 0, 1) := by decide +kernel
theorem d_Mo_feed_84 : decode prog_13_method_12_code 84 = .ok (.getfield 102, 3) := by decide +kernel
theorem d_Mo_feed_87 : decode prog_13_method_12_code 87 = .ok (.iload 7, 2) := by decide +kernel
theorem d_Mo_feed_89 : decode prog_13_method_12_code 89 = .ok (.bipush 24, 2) := by decide +kernel
theorem d_Mo_feed_91 : decode prog_13_method_12_code 91 = .ok (.bipush 8, 2) := by decide +kernel
theorem d_Mo_feed_93 : decode prog_13_method_12_code 93 = .ok (.iload 6, 2) := by decide +kernel
theorem d_Mo_feed_95 : decode prog_13_method_12_code 95 = .ok (.iconst 4, 1) := by decide +kernel
theorem d_Mo_feed_96 : decode prog_13_method_12_code 96 = .ok (.irem, 1) := by decide +kernel
theorem d_Mo_feed_97 : decode prog_13_method_12_code 97 = .ok (.imul, 1) := by decide +kernel
theorem d_Mo_feed_98 : decode prog_13_method_12_code 98 = .ok (.isub, 1) := by decide +kernel
theorem d_Mo_feed_99 : decode prog_13_method_12_code 99 = .ok (.ishr, 1) := by decide +kernel
theorem d_Mo_feed_100 : decode prog_13_method_12_code 100 = .ok (.i2b, 1) := by decide +kernel
theorem d_Mo_feed_101 : decode prog_13_method_12_code 101 = .ok (.bastore, 1) := by decide +kernel
theorem d_Mo_feed_102 : decode prog_13_method_12_code 102 = .ok (.aload_n 0, 1) := by decide +kernel
theorem d_Mo_feed_103 : decode prog_13_method_12_code 103 = .ok (.dup, 1) := by decide +kernel
theorem d_Mo_feed_104 : decode prog_13_method_12_code 104 = .ok (.getfield 102, 3) := by decide +kernel
theorem d_Mo_feed_107 : decode prog_13_method_12_code 107 = .ok (.iconst 1, 1) := by decide +kernel
theorem d_Mo_feed_108 : decode prog_13_method_12_code 108 = .ok (.iadd, 1) := by decide +kernel
theorem d_Mo_feed_109 : decode prog_13_method_12_code 109 = .ok (.putfield 102, 3) := by decide +kernel
theorem d_Mo_feed_112 : decode prog_13_method_12_code 112 = .ok (.iinc 6 1, 3) := by decide +kernel
theorem d_Mo_feed_115 : decode prog_13_method_12_code 115 = .ok (.goto (-91), 3) := by decide +kernel
theorem d_Mo_feed_118 : decode prog_13_method_12_code 118 = .ok (.aload_n 0, 1) := by decide +kernel
theorem d_Mo_feed_119 : decode prog_13_method_12_code 119 = .ok (.getfield 102, 3) := by decide +kernel
theorem d_Mo_feed_122 : decode prog_13_method_12_code 122 = .ok (.ireturn, 1) := by decide +kernel
theorem d_Mo_peek_0 : decode prog_13_method_13_code 0 = .ok (.aload_n 0, 1) := by decide +kernel
theorem d_Mo_peek_1 : decode prog_13_method_13_code 1 = .ok (.getfield 105, 3) := by decide +kernel
theorem d_Mo_peek_4 : decode prog_13_method_13_code 4 = .ok (.aload_n 0, 1) := by decide +kernel
theorem d_Mo_peek_5 : decode prog_13_method_13_code 5 = .ok (.getfield 108, 3) := by decide +kernel
theorem d_Mo_peek_8 : decode prog_13_method_13_code 8 = .ok (.if_icmp .ge 19, 3) := by decide +kernel
theorem d_Mo_peek_11 : decode prog_13_method_13_code 11 = .ok (.aload_n 0, 1) := by decide +kernel
theorem d_Mo_peek_12 : decode prog_13_method_13_code 12 = .ok (.getfield 38, 3) := by decide +kernel
theorem d_Mo_peek_15 : decode prog_13_method_13_code 15 = .ok (.aload_n 0, 1) := by decide +kernel
theorem d_Mo_peek_16 : decode prog_13_method_13_code 16 = .ok (.getfield 105, 3) := by decide +kernel
theorem d_Mo_peek_19 : decode prog_13_method_13_code 19 = .ok (.baload, 1) := by decide +kernel
theorem d_Mo_peek_20 : decode prog_13_method_13_code 20 = .ok (.sipush 255, 3) := by decide +kernel
theorem d_Mo_peek_23 : decode prog_13_method_13_code 23 = .ok (.iand, 1) := by decide +kernel
theorem d_Mo_peek_24 : decode prog_13_method_13_code 24 = .ok (.goto 4, 3) := by decide +kernel
theorem d_Mo_peek_27 : decode prog_13_method_13_code 27 = .ok (.iconst (-1), 1) := by decide +kernel
theorem d_Mo_peek_28 : decode prog_13_method_13_code 28 = .ok (.ireturn, 1) := by decide +kernel
theorem d_Mo_fails_0 : decode prog_13_method_14_code 0 = .ok (.aload_n 0, 1) := by decide +kernel
theorem d_Mo_fails_1 : decode prog_13_method_14_code 1 = .ok (.getfield 111, 3) := by decide +kernel
theorem d_Mo_fails_4 : decode prog_13_method_14_code 4 = .ok (.ifCond .eq 4, 3) := by decide +kernel
theorem d_Mo_fails_7 : decode prog_13_method_14_code 7 = .ok (.return_, 1) := by decide +kernel
theorem d_Mo_fails_8 : decode prog_13_method_14_code 8 = .ok (.aload_n 0, 1) := by decide +kernel
theorem d_Mo_fails_9 : decode prog_13_method_14_code 9 = .ok (.iload_n 1, 1) := by decide +kernel
theorem d_Mo_fails_10 : decode prog_13_method_14_code 10 = .ok (.putfield 111, 3) := by decide +kernel
theorem d_Mo_fails_13 : decode prog_13_method_14_code 13 = .ok (.aload_n 0, 1) := by decide +kernel
theorem d_Mo_fails_14 : decode prog_13_method_14_code 14 = .ok (.iload_n 2, 1) := by decide +kernel
theorem d_Mo_fails_15 : decode prog_13_method_14_code 15 = .ok (.putfield 42, 3) := by decide +kernel
theorem d_Mo_fails_18 : decode prog_13_method_14_code 18 = .ok (.return_, 1) := by decide +kernel
theorem d_Mo_isLetter_0 : decode prog_13_method_15_code 0 = .ok (.aload_n 0, 1) := by decide +kernel
theorem d_Mo_isLetter_1 : decode prog_13_method_15_code 1 = .ok (.invokevirtual 114, 3) := by decide +kernel
theorem d_Mo_isLetter_4 : decode prog_13_method_15_code 4 = .ok (.i2l, 1) := by decide +kernel
theorem d_Mo_isLetter_5 : decode prog_13_method_15_code 5 = .ok (.ldc2_w 118, 3) := by decide +kernel
theorem d_Mo_isLetter_8 : decode prog_13_method_15_code 8 = .ok (.ldc2_w 120, 3) := by decide +kernel
theorem d_Mo_isLetter_11 : decode prog_13_method_15_code 11 = .ok (.invokestatic 92, 3) := by decide +kernel
theorem d_Mo_isLetter_14 : decode prog_13_method_15_code 14 = .ok (.ireturn, 1) := by decide +kernel
theorem d_Mo_isDigit_0 : decode prog_13_method_16_code 0 = .ok (.aload_n 0, 1) := by decide +kernel
theorem d_Mo_isDigit_1 : decode prog_13_method_16_code 1 = .ok (.invokevirtual 114, 3) := by decide +kernel
theorem d_Mo_isDigit_4 : decode prog_13_method_16_code 4 = .ok (.i2l, 1) := by decide +kernel
theorem d_Mo_isDigit_5 : decode prog_13_method_16_code 5 = .ok (.ldc2_w 122, 3) := by decide +kernel
theorem d_Mo_isDigit_8 : decode prog_13_method_16_code 8 = .ok (.ldc2_w 124, 3) := by decide +kernel
theorem d_Mo_isDigit_11 : decode prog_13_method_16_code 11 = .ok (.invokestatic 92, 3) := by decide +kernel
theorem d_Mo_isDigit_14 : decode prog_13_method_16_code 14 = .ok (.ireturn, 1) := by decide +kernel
theorem d_Mo_blanks_0 : decode prog_13_method_17_code 0 = .ok (.aload_n 0, 1) := by decide +kernel
theorem d_Mo_blanks_1 : decode prog_13_method_17_code 1 = .ok (.invokevirtual 114, 3) := by decide +kernel
theorem d_Mo_blanks_4 : decode prog_13_method_17_code 4 = .ok (.bipush 32, 2) := by decide +kernel
theorem d_Mo_blanks_6 : decode prog_13_method_17_code 6 = .ok (.if_icmp .ne 16, 3) := by decide +kernel
theorem d_Mo_blanks_9 : decode prog_13_method_17_code 9 = .ok (.aload_n 0, 1) := by decide +kernel
theorem d_Mo_blanks_10 : decode prog_13_method_17_code 10 = .ok (.dup, 1) := by decide +kernel
theorem d_Mo_blanks_11 : decode prog_13_method_17_code 11 = .ok (.getfield 105, 3) := by decide +kernel
theorem d_Mo_blanks_14 : decode prog_13_method_17_code 14 = .ok (.iconst 1, 1) := by decide +kernel
theorem d_Mo_blanks_15 : decode prog_13_method_17_code 15 = .ok (.iadd, 1) := by decide +kernel
theorem d_Mo_blanks_16 : decode prog_13_method_17_code 16 = .ok (.putfield 105, 3) := by decide +kernel
theorem d_Mo_blanks_19 : decode prog_13_method_17_code 19 = .ok (.goto (-19), 3) := by decide +kernel
theorem d_Mo_blanks_22 : decode prog_13_method_17_code 22 = .ok (.return_, 1) := by decide +kernel
theorem d_Mo_passesSign_0 : decode prog_13_method_18_code 0 = .ok (.aload_n 0, 1) := by decide +kernel
theorem d_Mo_passesSign_1 : decode prog_13_method_18_code 1 = .ok (.invokevirtual 126, 3) := by decide +kernel
theorem d_Mo_passesSign_4 : decode prog_13_method_18_code 4 = .ok (.aload_n 0, 1) := by decide +kernel
theorem d_Mo_passesSign_5 : decode prog_13_method_18_code 5 = .ok (.getfield 111, 3) := by decide +kernel
theorem d_Mo_passesSign_8 : decode prog_13_method_18_code 8 = .ok (.ifCond .ne 11, 3) := by decide +kernel
theorem d_Mo_passesSign_11 : decode prog_13_method_18_code 11 = .ok (.aload_n 0, 1) := by decide +kernel
theorem d_Mo_passesSign_12 : decode prog_13_method_18_code 12 = .ok (.invokevirtual 114, 3) := by decide +kernel
theorem d_Mo_passesSign_15 : decode prog_13_method_18_code 15 = .ok (.iload_n 1, 1) := by decide +kernel
theorem d_Mo_passesSign_16 : decode prog_13_method_18_code 16 = .ok (.if_icmp .eq 5, 3) := by decide +kernel
theorem d_Mo_passesSign_19 : decode prog_13_method_18_code 19 = .ok (.iconst 0, 1) := by decide +kernel
theorem d_Mo_passesSign_20 : decode prog_13_method_18_code 20 = .ok (.ireturn, 1) := by decide +kernel
theorem d_Mo_passesSign_21 : decode prog_13_method_18_code 21 = .ok (.aload_n 0, 1) := by decide +kernel
theorem d_Mo_passesSign_22 : decode prog_13_method_18_code 22 = .ok (.dup, 1) := by decide +kernel
theorem d_Mo_passesSign_23 : decode prog_13_method_18_code 23 = .ok (.getfield 105, 3) := by decide +kernel
theorem d_Mo_passesSign_26 : decode prog_13_method_18_code 26 = .ok (.iconst 1, 1) := by decide +kernel
theorem d_Mo_passesSign_27 : decode prog_13_method_18_code 27 = .ok (.iadd, 1) := by decide +kernel
theorem d_Mo_passesSign_28 : decode prog_13_method_18_code 28 = .ok (.putfield 105, 3) := by decide +kernel
theorem d_Mo_passesSign_31 : decode prog_13_method_18_code 31 = .ok (.iconst 1, 1) := by decide +kernel
theorem d_Mo_passesSign_32 : decode prog_13_method_18_code 32 = .ok (.ireturn, 1) := by decide +kernel
theorem d_Mo_isWord_0 : decode prog_13_method_19_code 0 = .ok (.aload_n 0, 1) := by decide +kernel
theorem d_Mo_isWord_1 : decode prog_13_method_19_code 1 = .ok (.getfield 105, 3) := by decide +kernel
theorem d_Mo_isWord_4 : decode prog_13_method_19_code 4 = .ok (.iload_n 1, 1) := by decide +kernel
theorem d_Mo_isWord_5 : decode prog_13_method_19_code 5 = .ok (.isub, 1) := by decide +kernel
theorem d_Mo_isWord_6 : decode prog_13_method_19_code 6 = .ok (.iload_n 3, 1) := by decide +kernel
theorem d_Mo_isWord_7 : decode prog_13_method_19_code 7 = .ok (.iload_n 2, 1) := by decide +kernel
theorem d_Mo_isWord_8 : decode prog_13_method_19_code 8 = .ok (.isub, 1) := by decide +kernel
theorem d_Mo_isWord_9 : decode prog_13_method_19_code 9 = .ok (.if_icmp .eq 5, 3) := by decide +kernel
theorem d_Mo_isWord_12 : decode prog_13_method_19_code 12 = .ok (.iconst 0, 1) := by decide +kernel
theorem d_Mo_isWord_13 : decode prog_13_method_19_code 13 = .ok (.ireturn, 1) := by decide +kernel
theorem d_Mo_isWord_14 : decode prog_13_method_19_code 14 = .ok (.iload_n 2, 1) := by decide +kernel
theorem d_Mo_isWord_15 : decode prog_13_method_19_code 15 = .ok (.istore 4, 2) := by decide +kernel
theorem d_Mo_isWord_17 : decode prog_13_method_19_code 17 = .ok (.iload 4, 2) := by decide +kernel
theorem d_Mo_isWord_19 : decode prog_13_method_19_code 19 = .ok (.iload_n 3, 1) := by decide +kernel
theorem d_Mo_isWord_20 : decode prog_13_method_19_code 20 = .ok (.if_icmp .ge 32, 3) := by decide +kernel
theorem d_Mo_isWord_23 : decode prog_13_method_19_code 23 = .ok (.aload_n 0, 1) := by decide +kernel
theorem d_Mo_isWord_24 : decode prog_13_method_19_code 24 = .ok (.getfield 38, 3) := by decide +kernel
theorem d_Mo_isWord_27 : decode prog_13_method_19_code 27 = .ok (.iload_n 1, 1) := by decide +kernel
theorem d_Mo_isWord_28 : decode prog_13_method_19_code 28 = .ok (.iload 4, 2) := by decide +kernel
theorem d_Mo_isWord_30 : decode prog_13_method_19_code 30 = .ok (.iadd, 1) := by decide +kernel
theorem d_Mo_isWord_31 : decode prog_13_method_19_code 31 = .ok (.iload_n 2, 1) := by decide +kernel
theorem d_Mo_isWord_32 : decode prog_13_method_19_code 32 = .ok (.isub, 1) := by decide +kernel
theorem d_Mo_isWord_33 : decode prog_13_method_19_code 33 = .ok (.baload, 1) := by decide +kernel
theorem d_Mo_isWord_34 : decode prog_13_method_19_code 34 = .ok (.aload_n 0, 1) := by decide +kernel
theorem d_Mo_isWord_35 : decode prog_13_method_19_code 35 = .ok (.getfield 45, 3) := by decide +kernel
theorem d_Mo_isWord_38 : decode prog_13_method_19_code 38 = .ok (.iload 4, 2) := by decide +kernel
theorem d_Mo_isWord_40 : decode prog_13_method_19_code 40 = .ok (.baload, 1) := by decide +kernel
theorem d_Mo_isWord_41 : decode prog_13_method_19_code 41 = .ok (.if_icmp .eq 5, 3) := by decide +kernel
theorem d_Mo_isWord_44 : decode prog_13_method_19_code 44 = .ok (.iconst 0, 1) := by decide +kernel
theorem d_Mo_isWord_45 : decode prog_13_method_19_code 45 = .ok (.ireturn, 1) := by decide +kernel
theorem d_Mo_isWord_46 : decode prog_13_method_19_code 46 = .ok (.iinc 4 1, 3) := by decide +kernel
theorem d_Mo_isWord_49 : decode prog_13_method_19_code 49 = .ok (.goto (-32), 3) := by decide +kernel
theorem d_Mo_isWord_52 : decode prog_13_method_19_code 52 = .ok (.iconst 1, 1) := by decide +kernel
theorem d_Mo_isWord_53 : decode prog_13_method_19_code 53 = .ok (.ireturn, 1) := by decide +kernel
theorem d_Mo_number_0 : decode prog_13_method_20_code 0 = .ok (.aload_n 0, 1) := by decide +kernel
theorem d_Mo_number_1 : decode prog_13_method_20_code 1 = .ok (.invokevirtual 126, 3) := by decide +kernel
theorem d_Mo_number_4 : decode prog_13_method_20_code 4 = .ok (.aload_n 0, 1) := by decide +kernel
theorem d_Mo_number_5 : decode prog_13_method_20_code 5 = .ok (.getfield 105, 3) := by decide +kernel
theorem d_Mo_number_8 : decode prog_13_method_20_code 8 = .ok (.istore_n 2, 1) := by decide +kernel
theorem d_Mo_number_9 : decode prog_13_method_20_code 9 = .ok (.iconst 0, 1) := by decide +kernel
theorem d_Mo_number_10 : decode prog_13_method_20_code 10 = .ok (.istore_n 3, 1) := by decide +kernel
theorem d_Mo_number_11 : decode prog_13_method_20_code 11 = .ok (.aload_n 0, 1) := by decide +kernel
theorem d_Mo_number_12 : decode prog_13_method_20_code 12 = .ok (.invokevirtual 129, 3) := by decide +kernel
theorem d_Mo_number_15 : decode prog_13_method_20_code 15 = .ok (.ifCond .eq 39, 3) := by decide +kernel
theorem d_Mo_number_18 : decode prog_13_method_20_code 18 = .ok (.aload_n 0, 1) := by decide +kernel
theorem d_Mo_number_19 : decode prog_13_method_20_code 19 = .ok (.getfield 105, 3) := by decide +kernel
theorem d_Mo_number_22 : decode prog_13_method_20_code 22 = .ok (.iload_n 2, 1) := by decide +kernel
theorem d_Mo_number_23 : decode prog_13_method_20_code 23 = .ok (.isub, 1) := by decide +kernel
theorem d_Mo_number_24 : decode prog_13_method_20_code 24 = .ok (.iconst 5, 1) := by decide +kernel
theorem d_Mo_number_25 : decode prog_13_method_20_code 25 = .ok (.if_icmp .ge 16, 3) := by decide +kernel
theorem d_Mo_number_28 : decode prog_13_method_20_code 28 = .ok (.bipush 10, 2) := by decide +kernel
theorem d_Mo_number_30 : decode prog_13_method_20_code 30 = .ok (.iload_n 3, 1) := by decide +kernel
theorem d_Mo_number_31 : decode prog_13_method_20_code 31 = .ok (.imul, 1) := by decide +kernel
theorem d_Mo_number_32 : decode prog_13_method_20_code 32 = .ok (.aload_n 0, 1) := by decide +kernel
theorem d_Mo_number_33 : decode prog_13_method_20_code 33 = .ok (.invokevirtual 114, 3) := by decide +kernel
theorem d_Mo_number_36 : decode prog_13_method_20_code 36 = .ok (.iadd, 1) := by decide +kernel
theorem d_Mo_number_37 : decode prog_13_method_20_code 37 = .ok (.bipush 48, 2) := by decide +kernel
theorem d_Mo_number_39 : decode prog_13_method_20_code 39 = .ok (.isub, 1) := by decide +kernel
theorem d_Mo_number_40 : decode prog_13_method_20_code 40 = .ok (.istore_n 3, 1) := by decide +kernel
theorem d_Mo_number_41 : decode prog_13_method_20_code 41 = .ok (.aload_n 0, 1) := by decide +kernel
theorem d_Mo_number_42 : decode prog_13_method_20_code 42 = .ok (.dup, 1) := by decide +kernel
theorem d_Mo_number_43 : decode prog_13_method_20_code 43 = .ok (.getfield 105, 3) := by decide +kernel
theorem d_Mo_number_46 : decode prog_13_method_20_code 46 = .ok (.iconst 1, 1) := by decide +kernel
theorem d_Mo_number_47 : decode prog_13_method_20_code 47 = .ok (.iadd, 1) := by decide +kernel
theorem d_Mo_number_48 : decode prog_13_method_20_code 48 = .ok (.putfield 105, 3) := by decide +kernel
theorem d_Mo_number_51 : decode prog_13_method_20_code 51 = .ok (.goto (-40), 3) := by decide +kernel
theorem d_Mo_number_54 : decode prog_13_method_20_code 54 = .ok (.aload_n 0, 1) := by decide +kernel
theorem d_Mo_number_55 : decode prog_13_method_20_code 55 = .ok (.getfield 105, 3) := by decide +kernel
theorem d_Mo_number_58 : decode prog_13_method_20_code 58 = .ok (.iload_n 2, 1) := by decide +kernel
theorem d_Mo_number_59 : decode prog_13_method_20_code 59 = .ok (.if_icmp .ne 12, 3) := by decide +kernel
theorem d_Mo_number_62 : decode prog_13_method_20_code 62 = .ok (.aload_n 0, 1) := by decide +kernel
theorem d_Mo_number_63 : decode prog_13_method_20_code 63 = .ok (.iconst 1, 1) := by decide +kernel
theorem d_Mo_number_64 : decode prog_13_method_20_code 64 = .ok (.iload_n 2, 1) := by decide +kernel
theorem d_Mo_number_65 : decode prog_13_method_20_code 65 = .ok (.invokevirtual 133, 3) := by decide +kernel
theorem d_Mo_number_68 : decode prog_13_method_20_code 68 = .ok (.goto 24, 3) := by decide +kernel
theorem d_Mo_number_71 : decode prog_13_method_20_code 71 = .ok (.aload_n 0, 1) := by decide +kernel
theorem d_Mo_number_72 : decode prog_13_method_20_code 72 = .ok (.getfield 105, 3) := by decide +kernel
theorem d_Mo_number_75 : decode prog_13_method_20_code 75 = .ok (.iload_n 2, 1) := by decide +kernel
theorem d_Mo_number_76 : decode prog_13_method_20_code 76 = .ok (.isub, 1) := by decide +kernel
theorem d_Mo_number_77 : decode prog_13_method_20_code 77 = .ok (.iconst 5, 1) := by decide +kernel
theorem d_Mo_number_78 : decode prog_13_method_20_code 78 = .ok (.if_icmp .gt 8, 3) := by decide +kernel
theorem d_Mo_number_81 : decode prog_13_method_20_code 81 = .ok (.iload_n 3, 1) := by decide +kernel
theorem d_Mo_number_82 : decode prog_13_method_20_code 82 = .ok (.iload_n 1, 1) := by decide +kernel
theorem d_Mo_number_83 : decode prog_13_method_20_code 83 = .ok (.if_icmp .le 9, 3) := by decide +kernel
theorem d_Mo_number_86 : decode prog_13_method_20_code 86 = .ok (.aload_n 0, 1) := by decide +kernel
theorem d_Mo_number_87 : decode prog_13_method_20_code 87 = .ok (.iconst 2, 1) := by decide +kernel
theorem d_Mo_number_88 : decode prog_13_method_20_code 88 = .ok (.iload_n 2, 1) := by decide +kernel
theorem d_Mo_number_89 : decode prog_13_method_20_code 89 = .ok (.invokevirtual 133, 3) := by decide +kernel
theorem d_Mo_number_92 : decode prog_13_method_20_code 92 = .ok (.iload_n 3, 1) := by decide +kernel
theorem d_Mo_number_93 : decode prog_13_method_20_code 93 = .ok (.ireturn, 1) := by decide +kernel
theorem d_Mo_itemLine_0 : decode prog_13_method_21_code 0 = .ok (.aload_n 0, 1) := by decide +kernel
theorem d_Mo_itemLine_1 : decode prog_13_method_21_code 1 = .ok (.bipush 99, 2) := by decide +kernel
theorem d_Mo_itemLine_3 : decode prog_13_method_21_code 3 = .ok (.invokevirtual 137, 3) := by decide +kernel
theorem d_Mo_itemLine_6 : decode prog_13_method_21_code 6 = .ok (.istore_n 2, 1) := by decide +kernel
theorem d_Mo_itemLine_7 : decode prog_13_method_21_code 7 = .ok (.aload_n 0, 1) := by decide +kernel
theorem d_Mo_itemLine_8 : decode prog_13_method_21_code 8 = .ok (.getfield 111, 3) := by decide +kernel
theorem d_Mo_itemLine_11 : decode prog_13_method_21_code 11 = .ok (.ifCond .ne 13, 3) := by decide +kernel
theorem d_Mo_itemLine_14 : decode prog_13_method_21_code 14 = .ok (.aload_n 0, 1) := by decide +kernel
theorem d_Mo_itemLine_15 : decode prog_13_method_21_code 15 = .ok (.sipush 9999, 3) := by decide +kernel
theorem d_Mo_itemLine_18 : decode prog_13_method_21_code 18 = .ok (.invokevirtual 137, 3) := by decide +kernel
theorem d_Mo_itemLine_21 : decode prog_13_method_21_code 21 = .ok (.goto 4, 3) := by decide +kernel
theorem d_Mo_itemLine_24 : decode prog_13_method_21_code 24 = .ok (.iconst 0, 1) := by decide +kernel
theorem d_Mo_itemLine_25 : decode prog_13_method_21_code 25 = .ok (.istore_n 3, 1) := by decide +kernel
theorem d_Mo_itemLine_26 : decode prog_13_method_21_code 26 = .ok (.aload_n 0, 1) := by decide +kernel
theorem d_Mo_itemLine_27 : decode prog_13_method_21_code 27 = .ok (.bipush 45, 2) := by decide +kernel
theorem d_Mo_itemLine_29 : decode prog_13_method_21_code 29 = .ok (.invokevirtual 140, 3) := by decide +kernel
theorem d_Mo_itemLine_32 : decode prog_13_method_21_code 32 = .ok (.istore 4, 2) := by decide +kernel
theorem d_Mo_itemLine_34 : decode prog_13_method_21_code 34 = .ok (.aload_n 0, 1) := by decide +kernel
theorem d_Mo_itemLine_35 : decode prog_13_method_21_code 35 = .ok (.getfield 111, 3) := by decide +kernel
theorem d_Mo_itemLine_38 : decode prog_13_method_21_code 38 = .ok (.ifCond .ne 12, 3) := by decide +kernel
theorem d_Mo_itemLine_41 : decode prog_13_method_21_code 41 = .ok (.aload_n 0, 1) := by decide +kernel
theorem d_Mo_itemLine_42 : decode prog_13_method_21_code 42 = .ok (.ldc 144, 2) := by decide +kernel
theorem d_Mo_itemLine_44 : decode prog_13_method_21_code 44 = .ok (.invokevirtual 137, 3) := by decide +kernel
theorem d_Mo_itemLine_47 : decode prog_13_method_21_code 47 = .ok (.goto 4, 3) := by decide +kernel
theorem d_Mo_itemLine_50 : decode prog_13_method_21_code 50 = .ok (.iconst 0, 1) := by decide +kernel
theorem d_Mo_itemLine_51 : decode prog_13_method_21_code 51 = .ok (.istore 5, 2) := by decide +kernel
theorem d_Mo_itemLine_53 : decode prog_13_method_21_code 53 = .ok (.aload_n 0, 1) := by decide +kernel
theorem d_Mo_itemLine_54 : decode prog_13_method_21_code 54 = .ok (.getfield 111, 3) := by decide +kernel
theorem d_Mo_itemLine_57 : decode prog_13_method_21_code 57 = .ok (.ifCond .eq 4, 3) := by decide +kernel
theorem d_Mo_itemLine_60 : decode prog_13_method_21_code 60 = .ok (.return_, 1) := by decide +kernel
theorem d_Mo_itemLine_61 : decode prog_13_method_21_code 61 = .ok (.aload_n 0, 1) := by decide +kernel
theorem d_Mo_itemLine_62 : decode prog_13_method_21_code 62 = .ok (.getfield 145, 3) := by decide +kernel
theorem d_Mo_itemLine_65 : decode prog_13_method_21_code 65 = .ok (.bipush 48, 2) := by decide +kernel
theorem d_Mo_itemLine_67 : decode prog_13_method_21_code 67 = .ok (.if_icmp .eq 20, 3) := by decide +kernel
theorem d_Mo_itemLine_70 : decode prog_13_method_21_code 70 = .ok (.aload_n 0, 1) := by decide +kernel
theorem d_Mo_itemLine_71 : decode prog_13_method_21_code 71 = .ok (.getfield 29, 3) := by decide +kernel
theorem d_Mo_itemLine_74 : decode prog_13_method_21_code 74 = .ok (.aload_n 0, 1) := by decide +kernel
theorem d_Mo_itemLine_75 : decode prog_13_method_21_code 75 = .ok (.getfield 145, 3) := by decide +kernel
theorem d_Mo_itemLine_78 : decode prog_13_method_21_code 78 = .ok (.iload_n 2, 1) := by decide +kernel
theorem d_Mo_itemLine_79 : decode prog_13_method_21_code 79 = .ok (.iload_n 3, 1) := by decide +kernel
theorem d_Mo_itemLine_80 : decode prog_13_method_21_code 80 = .ok (.invokestatic 148, 3) := by decide +kernel
theorem d_Mo_itemLine_83 : decode prog_13_method_21_code 83 = .ok (.iconst (-1), 1) := by decide +kernel
theorem d_Mo_itemLine_84 : decode prog_13_method_21_code 84 = .ok (.if_icmp .eq 10, 3) := by decide +kernel
theorem d_Mo_itemLine_87 : decode prog_13_method_21_code 87 = .ok (.aload_n 0, 1) := by decide +kernel
theorem d_Mo_itemLine_88 : decode prog_13_method_21_code 88 = .ok (.iconst 3, 1) := by decide +kernel
theorem d_Mo_itemLine_89 : decode prog_13_method_21_code 89 = .ok (.iload_n 1, 1) := by decide +kernel
theorem d_Mo_itemLine_90 : decode prog_13_method_21_code 90 = .ok (.invokevirtual 133, 3) := by decide +kernel
theorem d_Mo_itemLine_93 : decode prog_13_method_21_code 93 = .ok (.return_, 1) := by decide +kernel
theorem d_Mo_itemLine_94 : decode prog_13_method_21_code 94 = .ok (.iconst 4, 1) := by decide +kernel
theorem d_Mo_itemLine_95 : decode prog_13_method_21_code 95 = .ok (.aload_n 0, 1) := by decide +kernel
theorem d_Mo_itemLine_96 : decode prog_13_method_21_code 96 = .ok (.getfield 145, 3) := by decide +kernel
theorem d_Mo_itemLine_99 : decode prog_13_method_21_code 99 = .ok (.imul, 1) := by decide +kernel
theorem d_Mo_itemLine_100 : decode prog_13_method_21_code 100 = .ok (.istore 6, 2) := by decide +kernel
theorem d_Mo_itemLine_102 : decode prog_13_method_21_code 102 = .ok (.aload_n 0, 1) := by decide +kernel
theorem d_Mo_itemLine_103 : decode prog_13_method_21_code 103 = .ok (.getfield 29, 3) := by decide +kernel
theorem d_Mo_itemLine_106 : decode prog_13_method_21_code 106 = .ok (.iload 6, 2) := by decide +kernel
theorem d_Mo_itemLine_108 : decode prog_13_method_21_code 108 = .ok (.iconst 0, 1) := by decide +kernel
theorem d_Mo_itemLine_109 : decode prog_13_method_21_code 109 = .ok (.iadd, 1) := by decide +kernel
theorem d_Mo_itemLine_110 : decode prog_13_method_21_code 110 = .ok (.iload_n 2, 1) := by decide +kernel
theorem d_Mo_itemLine_111 : decode prog_13_method_21_code 111 = .ok (.iastore, 1) := by decide +kernel
theorem d_Mo_itemLine_112 : decode prog_13_method_21_code 112 = .ok (.aload_n 0, 1) := by decide +kernel
theorem d_Mo_itemLine_113 : decode prog_13_method_21_code 113 = .ok (.getfield 29, 3) := by decide +kernel
theorem d_Mo_itemLine_116 : decode prog_13_method_21_code 116 = .ok (.iload 6, 2) := by decide +kernel
theorem d_Mo_itemLine_118 : decode prog_13_method_21_code 118 = .ok (.iconst 1, 1) := by decide +kernel
theorem d_Mo_itemLine_119 : decode prog_13_method_21_code 119 = .ok (.iadd, 1) := by decide +kernel
theorem d_Mo_itemLine_120 : decode prog_13_method_21_code 120 = .ok (.iload_n 3, 1) := by decide +kernel
theorem d_Mo_itemLine_121 : decode prog_13_method_21_code 121 = .ok (.iastore, 1) := by decide +kernel
theorem d_Mo_itemLine_122 : decode prog_13_method_21_code 122 = .ok (.aload_n 0, 1) := by decide +kernel
theorem d_Mo_itemLine_123 : decode prog_13_method_21_code 123 = .ok (.getfield 29, 3) := by decide +kernel
theorem d_Mo_itemLine_126 : decode prog_13_method_21_code 126 = .ok (.iload 6, 2) := by decide +kernel
theorem d_Mo_itemLine_128 : decode prog_13_method_21_code 128 = .ok (.iconst 2, 1) := by decide +kernel
theorem d_Mo_itemLine_129 : decode prog_13_method_21_code 129 = .ok (.iadd, 1) := by decide +kernel
theorem d_Mo_itemLine_130 : decode prog_13_method_21_code 130 = .ok (.iload 4, 2) := by decide +kernel
theorem d_Mo_itemLine_132 : decode prog_13_method_21_code 132 = .ok (.ifCond .eq 9, 3) := by decide +kernel
theorem d_Mo_itemLine_135 : decode prog_13_method_21_code 135 = .ok (.iload 5, 2) := by decide +kernel
theorem d_Mo_itemLine_137 : decode prog_13_method_21_code 137 = .ok (.ineg, 1) := by decide +kernel
theorem d_Mo_itemLine_138 : decode prog_13_method_21_code 138 = .ok (.goto 5, 3) := by decide +kernel
theorem d_Mo_itemLine_141 : decode prog_13_method_21_code 141 = .ok (.iload 5, 2) := by decide +kernel
theorem d_Mo_itemLine_143 : decode prog_13_method_21_code 143 = .ok (.iastore, 1) := by decide +kernel
theorem d_Mo_itemLine_144 : decode prog_13_method_21_code 144 = .ok (.aload_n 0, 1) := by decide +kernel
theorem d_Mo_itemLine_145 : decode prog_13_method_21_code 145 = .ok (.getfield 29, 3) := by decide +kernel
theorem d_Mo_itemLine_148 : decode prog_13_method_21_code 148 = .ok (.iload 6, 2) := by decide +kernel
theorem d_Mo_itemLine_150 : decode prog_13_method_21_code 150 = .ok (.iconst 3, 1) := by decide +kernel
theorem d_Mo_itemLine_151 : decode prog_13_method_21_code 151 = .ok (.iadd, 1) := by decide +kernel
theorem d_Mo_itemLine_152 : decode prog_13_method_21_code 152 = .ok (.iconst (-1), 1) := by decide +kernel
theorem d_Mo_itemLine_153 : decode prog_13_method_21_code 153 = .ok (.iastore, 1) := by decide +kernel
theorem d_Mo_itemLine_154 : decode prog_13_method_21_code 154 = .ok (.aload_n 0, 1) := by decide +kernel
theorem d_Mo_itemLine_155 : decode prog_13_method_21_code 155 = .ok (.dup, 1) := by decide +kernel
theorem d_Mo_itemLine_156 : decode prog_13_method_21_code 156 = .ok (.getfield 145, 3) := by decide +kernel
theorem d_Mo_itemLine_159 : decode prog_13_method_21_code 159 = .ok (.iconst 1, 1) := by decide +kernel
theorem d_Mo_itemLine_160 : decode prog_13_method_21_code 160 = .ok (.iadd, 1) := by decide +kernel
theorem d_Mo_itemLine_161 : decode prog_13_method_21_code 161 = .ok (.putfield 145, 3) := by decide +kernel
theorem d_Mo_itemLine_164 : decode prog_13_method_21_code 164 = .ok (.return_, 1) := by decide +kernel
theorem d_Mo_auditLine_0 : decode prog_13_method_22_code 0 = .ok (.aload_n 0, 1) := by decide +kernel
theorem d_Mo_auditLine_1 : decode prog_13_method_22_code 1 = .ok (.bipush 99, 2) := by decide +kernel
theorem d_Mo_auditLine_3 : decode prog_13_method_22_code 3 = .ok (.invokevirtual 137, 3) := by decide +kernel
theorem d_Mo_auditLine_6 : decode prog_13_method_22_code 6 = .ok (.istore_n 2, 1) := by decide +kernel
theorem d_Mo_auditLine_7 : decode prog_13_method_22_code 7 = .ok (.aload_n 0, 1) := by decide +kernel
theorem d_Mo_auditLine_8 : decode prog_13_method_22_code 8 = .ok (.getfield 111, 3) := by decide +kernel
theorem d_Mo_auditLine_11 : decode prog_13_method_22_code 11 = .ok (.ifCond .ne 13, 3) := by decide +kernel
theorem d_Mo_auditLine_14 : decode prog_13_method_22_code 14 = .ok (.aload_n 0, 1) := by decide +kernel
theorem d_Mo_auditLine_15 : decode prog_13_method_22_code 15 = .ok (.sipush 9999, 3) := by decide +kernel
theorem d_Mo_auditLine_18 : decode prog_13_method_22_code 18 = .ok (.invokevirtual 137, 3) := by decide +kernel
theorem d_Mo_auditLine_21 : decode prog_13_method_22_code 21 = .ok (.goto 4, 3) := by decide +kernel
theorem d_Mo_auditLine_24 : decode prog_13_method_22_code 24 = .ok (.iconst 0, 1) := by decide +kernel
theorem d_Mo_auditLine_25 : decode prog_13_method_22_code 25 = .ok (.istore_n 3, 1) := by decide +kernel
theorem d_Mo_auditLine_26 : decode prog_13_method_22_code 26 = .ok (.aload_n 0, 1) := by decide +kernel
theorem d_Mo_auditLine_27 : decode prog_13_method_22_code 27 = .ok (.getfield 111, 3) := by decide +kernel
theorem d_Mo_auditLine_30 : decode prog_13_method_22_code 30 = .ok (.ifCond .ne 12, 3) := by decide +kernel
theorem d_Mo_auditLine_33 : decode prog_13_method_22_code 33 = .ok (.aload_n 0, 1) := by decide +kernel
theorem d_Mo_auditLine_34 : decode prog_13_method_22_code 34 = .ok (.ldc 144, 2) := by decide +kernel
theorem d_Mo_auditLine_36 : decode prog_13_method_22_code 36 = .ok (.invokevirtual 137, 3) := by decide +kernel
theorem d_Mo_auditLine_39 : decode prog_13_method_22_code 39 = .ok (.goto 4, 3) := by decide +kernel
theorem d_Mo_auditLine_42 : decode prog_13_method_22_code 42 = .ok (.iconst 0, 1) := by decide +kernel
theorem d_Mo_auditLine_43 : decode prog_13_method_22_code 43 = .ok (.istore 4, 2) := by decide +kernel
theorem d_Mo_auditLine_45 : decode prog_13_method_22_code 45 = .ok (.aload_n 0, 1) := by decide +kernel
theorem d_Mo_auditLine_46 : decode prog_13_method_22_code 46 = .ok (.getfield 111, 3) := by decide +kernel
theorem d_Mo_auditLine_49 : decode prog_13_method_22_code 49 = .ok (.ifCond .eq 4, 3) := by decide +kernel
theorem d_Mo_auditLine_52 : decode prog_13_method_22_code 52 = .ok (.return_, 1) := by decide +kernel
theorem d_Mo_auditLine_53 : decode prog_13_method_22_code 53 = .ok (.aload_n 0, 1) := by decide +kernel
theorem d_Mo_auditLine_54 : decode prog_13_method_22_code 54 = .ok (.getfield 29, 3) := by decide +kernel
theorem d_Mo_auditLine_57 : decode prog_13_method_22_code 57 = .ok (.aload_n 0, 1) := by decide +kernel
theorem d_Mo_auditLine_58 : decode prog_13_method_22_code 58 = .ok (.getfield 145, 3) := by decide +kernel
theorem d_Mo_auditLine_61 : decode prog_13_method_22_code 61 = .ok (.iload_n 2, 1) := by decide +kernel
theorem d_Mo_auditLine_62 : decode prog_13_method_22_code 62 = .ok (.iload_n 3, 1) := by decide +kernel
theorem d_Mo_auditLine_63 : decode prog_13_method_22_code 63 = .ok (.invokestatic 148, 3) := by decide +kernel
theorem d_Mo_auditLine_66 : decode prog_13_method_22_code 66 = .ok (.istore 5, 2) := by decide +kernel
theorem d_Mo_auditLine_68 : decode prog_13_method_22_code 68 = .ok (.iload 5, 2) := by decide +kernel
theorem d_Mo_auditLine_70 : decode prog_13_method_22_code 70 = .ok (.iconst (-1), 1) := by decide +kernel
theorem d_Mo_auditLine_71 : decode prog_13_method_22_code 71 = .ok (.if_icmp .eq 36, 3) := by decide +kernel
theorem d_Mo_auditLine_74 : decode prog_13_method_22_code 74 = .ok (.aload_n 0, 1) := by decide +kernel
theorem d_Mo_auditLine_75 : decode prog_13_method_22_code 75 = .ok (.getfield 29, 3) := by decide +kernel
theorem d_Mo_auditLine_78 : decode prog_13_method_22_code 78 = .ok (.iconst 4, 1) := by decide +kernel
theorem d_Mo_auditLine_79 : decode prog_13_method_22_code 79 = .ok (.iload 5, 2) := by decide +kernel
theorem d_Mo_auditLine_81 : decode prog_13_method_22_code 81 = .ok (.imul, 1) := by decide +kernel
theorem d_Mo_auditLine_82 : decode prog_13_method_22_code 82 = .ok (.iconst 2, 1) := by decide +kernel
theorem d_Mo_auditLine_83 : decode prog_13_method_22_code 83 = .ok (.iadd, 1) := by decide +kernel
theorem d_Mo_auditLine_84 : decode prog_13_method_22_code 84 = .ok (.iaload, 1) := by decide +kernel
theorem d_Mo_auditLine_85 : decode prog_13_method_22_code 85 = .ok (.iconst 1, 1) := by decide +kernel
theorem d_Mo_auditLine_86 : decode prog_13_method_22_code 86 = .ok (.if_icmp .lt 21, 3) := by decide +kernel
theorem d_Mo_auditLine_89 : decode prog_13_method_22_code 89 = .ok (.iload 4, 2) := by decide +kernel
theorem d_Mo_auditLine_91 : decode prog_13_method_22_code 91 = .ok (.iconst 2, 1) := by decide +kernel
theorem d_Mo_auditLine_92 : decode prog_13_method_22_code 92 = .ok (.aload_n 0, 1) := by decide +kernel
theorem d_Mo_auditLine_93 : decode prog_13_method_22_code 93 = .ok (.getfield 29, 3) := by decide +kernel
theorem d_Mo_auditLine_96 : decode prog_13_method_22_code 96 = .ok (.iconst 4, 1) := by decide +kernel
theorem d_Mo_auditLine_97 : decode prog_13_method_22_code 97 = .ok (.iload 5, 2) := by decide +kernel
theorem d_Mo_auditLine_99 : decode prog_13_method_22_code 99 = .ok (.imul, 1) := by decide +kernel
theorem d_Mo_auditLine_100 : decode prog_13_method_22_code 100 = .ok (.iconst 2, 1) := by decide +kernel
theorem d_Mo_auditLine_101 : decode prog_13_method_22_code 101 = .ok (.iadd, 1) := by decide +kernel
theorem d_Mo_auditLine_102 : decode prog_13_method_22_code 102 = .ok (.iaload, 1) := by decide +kernel
theorem d_Mo_auditLine_103 : decode prog_13_method_22_code 103 = .ok (.imul, 1) := by decide +kernel
theorem d_Mo_auditLine_104 : decode prog_13_method_22_code 104 = .ok (.if_icmp .le 12, 3) := by decide +kernel
theorem d_Mo_auditLine_107 : decode prog_13_method_22_code 107 = .ok (.aload_n 0, 1) := by decide +kernel
theorem d_Mo_auditLine_108 : decode prog_13_method_22_code 108 = .ok (.iconst 3, 1) := by decide +kernel
theorem d_Mo_auditLine_109 : decode prog_13_method_22_code 109 = .ok (.iload_n 1, 1) := by decide +kernel
theorem d_Mo_auditLine_110 : decode prog_13_method_22_code 110 = .ok (.invokevirtual 133, 3) := by decide +kernel
theorem d_Mo_auditLine_113 : decode prog_13_method_22_code 113 = .ok (.goto 16, 3) := by decide +kernel
theorem d_Mo_auditLine_116 : decode prog_13_method_22_code 116 = .ok (.aload_n 0, 1) := by decide +kernel
theorem d_Mo_auditLine_117 : decode prog_13_method_22_code 117 = .ok (.getfield 29, 3) := by decide +kernel
theorem d_Mo_auditLine_120 : decode prog_13_method_22_code 120 = .ok (.iconst 4, 1) := by decide +kernel
theorem d_Mo_auditLine_121 : decode prog_13_method_22_code 121 = .ok (.iload 5, 2) := by decide +kernel
theorem d_Mo_auditLine_123 : decode prog_13_method_22_code 123 = .ok (.imul, 1) := by decide +kernel
theorem d_Mo_auditLine_124 : decode prog_13_method_22_code 124 = .ok (.iconst 3, 1) := by decide +kernel
theorem d_Mo_auditLine_125 : decode prog_13_method_22_code 125 = .ok (.iadd, 1) := by decide +kernel
theorem d_Mo_auditLine_126 : decode prog_13_method_22_code 126 = .ok (.iload 4, 2) := by decide +kernel
theorem d_Mo_auditLine_128 : decode prog_13_method_22_code 128 = .ok (.iastore, 1) := by decide +kernel
theorem d_Mo_auditLine_129 : decode prog_13_method_22_code 129 = .ok (.return_, 1) := by decide +kernel
theorem d_Mo_line_0 : decode prog_13_method_23_code 0 = .ok (.aload_n 0, 1) := by decide +kernel
theorem d_Mo_line_1 : decode prog_13_method_23_code 1 = .ok (.getfield 105, 3) := by decide +kernel
theorem d_Mo_line_4 : decode prog_13_method_23_code 4 = .ok (.istore_n 1, 1) := by decide +kernel
theorem d_Mo_line_5 : decode prog_13_method_23_code 5 = .ok (.aload_n 0, 1) := by decide +kernel
theorem d_Mo_line_6 : decode prog_13_method_23_code 6 = .ok (.invokevirtual 152, 3) := by decide +kernel
theorem d_Mo_line_9 : decode prog_13_method_23_code 9 = .ok (.ifCond .eq 16, 3) := by decide +kernel
theorem d_Mo_line_12 : decode prog_13_method_23_code 12 = .ok (.aload_n 0, 1) := by decide +kernel
theorem d_Mo_line_13 : decode prog_13_method_23_code 13 = .ok (.dup, 1) := by decide +kernel
theorem d_Mo_line_14 : decode prog_13_method_23_code 14 = .ok (.getfield 105, 3) := by decide +kernel
theorem d_Mo_line_17 : decode prog_13_method_23_code 17 = .ok (.iconst 1, 1) := by decide +kernel
theorem d_Mo_line_18 : decode prog_13_method_23_code 18 = .ok (.iadd, 1) := by decide +kernel
theorem d_Mo_line_19 : decode prog_13_method_23_code 19 = .ok (.putfield 105, 3) := by decide +kernel
theorem d_Mo_line_22 : decode prog_13_method_23_code 22 = .ok (.goto (-17), 3) := by decide +kernel
theorem d_Mo_line_25 : decode prog_13_method_23_code 25 = .ok (.aload_n 0, 1) := by decide +kernel
theorem d_Mo_line_26 : decode prog_13_method_23_code 26 = .ok (.iload_n 1, 1) := by decide +kernel
theorem d_Mo_line_27 : decode prog_13_method_23_code 27 = .ok (.iconst 0, 1) := by decide +kernel
theorem d_Mo_line_28 : decode prog_13_method_23_code 28 = .ok (.iconst 4, 1) := by decide +kernel
theorem d_Mo_line_29 : decode prog_13_method_23_code 29 = .ok (.invokevirtual 155, 3) := by decide +kernel
theorem d_Mo_line_32 : decode prog_13_method_23_code 32 = .ok (.ifCond .eq 11, 3) := by decide +kernel
theorem d_Mo_line_35 : decode prog_13_method_23_code 35 = .ok (.aload_n 0, 1) := by decide +kernel
theorem d_Mo_line_36 : decode prog_13_method_23_code 36 = .ok (.iload_n 1, 1) := by decide +kernel
theorem d_Mo_line_37 : decode prog_13_method_23_code 37 = .ok (.invokevirtual 159, 3) := by decide +kernel
theorem d_Mo_line_40 : decode prog_13_method_23_code 40 = .ok (.goto 28, 3) := by decide +kernel
theorem d_Mo_line_43 : decode prog_13_method_23_code 43 = .ok (.aload_n 0, 1) := by decide +kernel
theorem d_Mo_line_44 : decode prog_13_method_23_code 44 = .ok (.iload_n 1, 1) := by decide +kernel
theorem d_Mo_line_45 : decode prog_13_method_23_code 45 = .ok (.iconst 4, 1) := by decide +kernel
theorem d_Mo_line_46 : decode prog_13_method_23_code 46 = .ok (.bipush 9, 2) := by decide +kernel
theorem d_Mo_line_48 : decode prog_13_method_23_code 48 = .ok (.invokevirtual 155, 3) := by decide +kernel
theorem d_Mo_line_51 : decode prog_13_method_23_code 51 = .ok (.ifCond .eq 11, 3) := by decide +kernel
theorem d_Mo_line_54 : decode prog_13_method_23_code 54 = .ok (.aload_n 0, 1) := by decide +kernel
theorem d_Mo_line_55 : decode prog_13_method_23_code 55 = .ok (.iload_n 1, 1) := by decide +kernel
theorem d_Mo_line_56 : decode prog_13_method_23_code 56 = .ok (.invokevirtual 163, 3) := by decide +kernel
theorem d_Mo_line_59 : decode prog_13_method_23_code 59 = .ok (.goto 9, 3) := by decide +kernel
theorem d_Mo_line_62 : decode prog_13_method_23_code 62 = .ok (.aload_n 0, 1) := by decide +kernel
theorem d_Mo_line_63 : decode prog_13_method_23_code 63 = .ok (.iconst 1, 1) := by decide +kernel
theorem d_Mo_line_64 : decode prog_13_method_23_code 64 = .ok (.iload_n 1, 1) := by decide +kernel
theorem d_Mo_line_65 : decode prog_13_method_23_code 65 = .ok (.invokevirtual 133, 3) := by decide +kernel
theorem d_Mo_line_68 : decode prog_13_method_23_code 68 = .ok (.aload_n 0, 1) := by decide +kernel
theorem d_Mo_line_69 : decode prog_13_method_23_code 69 = .ok (.getfield 111, 3) := by decide +kernel
theorem d_Mo_line_72 : decode prog_13_method_23_code 72 = .ok (.ifCond .ne 21, 3) := by decide +kernel
theorem d_Mo_line_75 : decode prog_13_method_23_code 75 = .ok (.aload_n 0, 1) := by decide +kernel
theorem d_Mo_line_76 : decode prog_13_method_23_code 76 = .ok (.bipush 59, 2) := by decide +kernel
theorem d_Mo_line_78 : decode prog_13_method_23_code 78 = .ok (.invokevirtual 140, 3) := by decide +kernel
theorem d_Mo_line_81 : decode prog_13_method_23_code 81 = .ok (.ifCond .ne 12, 3) := by decide +kernel
theorem d_Mo_line_84 : decode prog_13_method_23_code 84 = .ok (.aload_n 0, 1) := by decide +kernel
theorem d_Mo_line_85 : decode prog_13_method_23_code 85 = .ok (.iconst 1, 1) := by decide +kernel
theorem d_Mo_line_86 : decode prog_13_method_23_code 86 = .ok (.aload_n 0, 1) := by decide +kernel
theorem d_Mo_line_87 : decode prog_13_method_23_code 87 = .ok (.getfield 105, 3) := by decide +kernel
theorem d_Mo_line_90 : decode prog_13_method_23_code 90 = .ok (.invokevirtual 133, 3) := by decide +kernel
theorem d_Mo_line_93 : decode prog_13_method_23_code 93 = .ok (.return_, 1) := by decide +kernel
theorem d_Mo_text_0 : decode prog_13_method_24_code 0 = .ok (.aload_n 0, 1) := by decide +kernel
theorem d_Mo_text_1 : decode prog_13_method_24_code 1 = .ok (.iconst 0, 1) := by decide +kernel
theorem d_Mo_text_2 : decode prog_13_method_24_code 2 = .ok (.putfield 1, 3) := by decide +kernel
theorem d_Mo_text_5 : decode prog_13_method_24_code 5 = .ok (.iload_n 1, 1) := by decide +kernel
theorem d_Mo_text_6 : decode prog_13_method_24_code 6 = .ok (.i2l, 1) := by decide +kernel
theorem d_Mo_text_7 : decode prog_13_method_24_code 7 = .ok (.lconst 0, 1) := by decide +kernel
theorem d_Mo_text_8 : decode prog_13_method_24_code 8 = .ok (.aload_n 0, 1) := by decide +kernel
theorem d_Mo_text_9 : decode prog_13_method_24_code 9 = .ok (.getfield 102, 3) := by decide +kernel
theorem d_Mo_text_12 : decode prog_13_method_24_code 12 = .ok (.i2l, 1) := by decide +kernel
theorem d_Mo_text_13 : decode prog_13_method_24_code 13 = .ok (.invokestatic 92, 3) := by decide +kernel
theorem d_Mo_text_16 : decode prog_13_method_24_code 16 = .ok (.ifCond .ne 6, 3) := by decide +kernel
theorem d_Mo_text_19 : decode prog_13_method_24_code 19 = .ok (.bipush (-3), 2) := by decide +kernel
theorem d_Mo_text_21 : decode prog_13_method_24_code 21 = .ok (.ireturn, 1) := by decide +kernel
theorem d_Mo_text_22 : decode prog_13_method_24_code 22 = .ok (.aload_n 0, 1) := by decide +kernel
theorem d_Mo_text_23 : decode prog_13_method_24_code 23 = .ok (.iconst 0, 1) := by decide +kernel
theorem d_Mo_text_24 : decode prog_13_method_24_code 24 = .ok (.putfield 102, 3) := by decide +kernel
theorem d_Mo_text_27 : decode prog_13_method_24_code 27 = .ok (.aload_n 0, 1) := by decide +kernel
theorem d_Mo_text_28 : decode prog_13_method_24_code 28 = .ok (.iload_n 1, 1) := by decide +kernel
theorem d_Mo_text_29 : decode prog_13_method_24_code 29 = .ok (.putfield 108, 3) := by decide +kernel
theorem d_Mo_text_32 : decode prog_13_method_24_code 32 = .ok (.aload_n 0, 1) := by decide +kernel
theorem d_Mo_text_33 : decode prog_13_method_24_code 33 = .ok (.iconst 0, 1) := by decide +kernel
theorem d_Mo_text_34 : decode prog_13_method_24_code 34 = .ok (.putfield 105, 3) := by decide +kernel
theorem d_Mo_text_37 : decode prog_13_method_24_code 37 = .ok (.aload_n 0, 1) := by decide +kernel
theorem d_Mo_text_38 : decode prog_13_method_24_code 38 = .ok (.iconst 0, 1) := by decide +kernel
theorem d_Mo_text_39 : decode prog_13_method_24_code 39 = .ok (.putfield 111, 3) := by decide +kernel
theorem d_Mo_text_42 : decode prog_13_method_24_code 42 = .ok (.aload_n 0, 1) := by decide +kernel
theorem d_Mo_text_43 : decode prog_13_method_24_code 43 = .ok (.iconst (-1), 1) := by decide +kernel
theorem d_Mo_text_44 : decode prog_13_method_24_code 44 = .ok (.putfield 42, 3) := by decide +kernel
theorem d_Mo_text_47 : decode prog_13_method_24_code 47 = .ok (.aload_n 0, 1) := by decide +kernel
theorem d_Mo_text_48 : decode prog_13_method_24_code 48 = .ok (.iconst 0, 1) := by decide +kernel
theorem d_Mo_text_49 : decode prog_13_method_24_code 49 = .ok (.putfield 145, 3) := by decide +kernel
theorem d_Mo_text_52 : decode prog_13_method_24_code 52 = .ok (.aload_n 0, 1) := by decide +kernel
theorem d_Mo_text_53 : decode prog_13_method_24_code 53 = .ok (.invokevirtual 126, 3) := by decide +kernel
theorem d_Mo_text_56 : decode prog_13_method_24_code 56 = .ok (.aload_n 0, 1) := by decide +kernel
theorem d_Mo_text_57 : decode prog_13_method_24_code 57 = .ok (.getfield 111, 3) := by decide +kernel
theorem d_Mo_text_60 : decode prog_13_method_24_code 60 = .ok (.ifCond .ne 22, 3) := by decide +kernel
theorem d_Mo_text_63 : decode prog_13_method_24_code 63 = .ok (.aload_n 0, 1) := by decide +kernel
theorem d_Mo_text_64 : decode prog_13_method_24_code 64 = .ok (.invokevirtual 114, 3) := by decide +kernel
theorem d_Mo_text_67 : decode prog_13_method_24_code 67 = .ok (.iconst (-1), 1) := by decide +kernel
theorem d_Mo_text_68 : decode prog_13_method_24_code 68 = .ok (.if_icmp .eq 14, 3) := by decide +kernel
theorem d_Mo_text_71 : decode prog_13_method_24_code 71 = .ok (.aload_n 0, 1) := by decide +kernel
theorem d_Mo_text_72 : decode prog_13_method_24_code 72 = .ok (.invokevirtual 166, 3) := by decide +kernel
theorem d_Mo_text_75 : decode prog_13_method_24_code 75 = .ok (.aload_n 0, 1) := by decide +kernel
theorem d_Mo_text_76 : decode prog_13_method_24_code 76 = .ok (.invokevirtual 126, 3) := by decide +kernel
theorem d_Mo_text_79 : decode prog_13_method_24_code 79 = .ok (.goto (-23), 3) := by decide +kernel
theorem d_Mo_text_82 : decode prog_13_method_24_code 82 = .ok (.aload_n 0, 1) := by decide +kernel
theorem d_Mo_text_83 : decode prog_13_method_24_code 83 = .ok (.getfield 111, 3) := by decide +kernel
theorem d_Mo_text_86 : decode prog_13_method_24_code 86 = .ok (.ifCond .eq 11, 3) := by decide +kernel
theorem d_Mo_text_89 : decode prog_13_method_24_code 89 = .ok (.bipush (-30), 2) := by decide +kernel
theorem d_Mo_text_91 : decode prog_13_method_24_code 91 = .ok (.aload_n 0, 1) := by decide +kernel
theorem d_Mo_text_92 : decode prog_13_method_24_code 92 = .ok (.getfield 111, 3) := by decide +kernel
theorem d_Mo_text_95 : decode prog_13_method_24_code 95 = .ok (.isub, 1) := by decide +kernel
theorem d_Mo_text_96 : decode prog_13_method_24_code 96 = .ok (.ireturn, 1) := by decide +kernel
theorem d_Mo_text_97 : decode prog_13_method_24_code 97 = .ok (.aload_n 0, 1) := by decide +kernel
theorem d_Mo_text_98 : decode prog_13_method_24_code 98 = .ok (.aload_n 0, 1) := by decide +kernel
theorem d_Mo_text_99 : decode prog_13_method_24_code 99 = .ok (.getfield 145, 3) := by decide +kernel
theorem d_Mo_text_102 : decode prog_13_method_24_code 102 = .ok (.putfield 86, 3) := by decide +kernel
theorem d_Mo_text_105 : decode prog_13_method_24_code 105 = .ok (.iconst 0, 1) := by decide +kernel
theorem d_Mo_text_106 : decode prog_13_method_24_code 106 = .ok (.istore_n 2, 1) := by decide +kernel
theorem d_Mo_text_107 : decode prog_13_method_24_code 107 = .ok (.iload_n 2, 1) := by decide +kernel
theorem d_Mo_text_108 : decode prog_13_method_24_code 108 = .ok (.iconst 4, 1) := by decide +kernel
theorem d_Mo_text_109 : decode prog_13_method_24_code 109 = .ok (.aload_n 0, 1) := by decide +kernel
theorem d_Mo_text_110 : decode prog_13_method_24_code 110 = .ok (.getfield 145, 3) := by decide +kernel
theorem d_Mo_text_113 : decode prog_13_method_24_code 113 = .ok (.imul, 1) := by decide +kernel
theorem d_Mo_text_114 : decode prog_13_method_24_code 114 = .ok (.if_icmp .ge 21, 3) := by decide +kernel
theorem d_Mo_text_117 : decode prog_13_method_24_code 117 = .ok (.aload_n 0, 1) := by decide +kernel
theorem d_Mo_text_118 : decode prog_13_method_24_code 118 = .ok (.getfield 26, 3) := by decide +kernel
theorem d_Mo_text_121 : decode prog_13_method_24_code 121 = .ok (.iload_n 2, 1) := by decide +kernel
theorem d_Mo_text_122 : decode prog_13_method_24_code 122 = .ok (.aload_n 0, 1) := by decide +kernel
theorem d_Mo_text_123 : decode prog_13_method_24_code 123 = .ok (.getfield 29, 3) := by decide +kernel
theorem d_Mo_text_126 : decode prog_13_method_24_code 126 = .ok (.iload_n 2, 1) := by decide +kernel
theorem d_Mo_text_127 : decode prog_13_method_24_code 127 = .ok (.iaload, 1) := by decide +kernel
theorem d_Mo_text_128 : decode prog_13_method_24_code 128 = .ok (.iastore, 1) := by decide +kernel
theorem d_Mo_text_129 : decode prog_13_method_24_code 129 = .ok (.iinc 2 1, 3) := by decide +kernel
theorem d_Mo_text_132 : decode prog_13_method_24_code 132 = .ok (.goto (-25), 3) := by decide +kernel
theorem d_Mo_text_135 : decode prog_13_method_24_code 135 = .ok (.aload_n 0, 1) := by decide +kernel
theorem d_Mo_text_136 : decode prog_13_method_24_code 136 = .ok (.iconst 0, 1) := by decide +kernel
theorem d_Mo_text_137 : decode prog_13_method_24_code 137 = .ok (.putfield 169, 3) := by decide +kernel
theorem d_Mo_text_140 : decode prog_13_method_24_code 140 = .ok (.aload_n 0, 1) := by decide +kernel
theorem d_Mo_text_141 : decode prog_13_method_24_code 141 = .ok (.iconst 0, 1) := by decide +kernel
theorem d_Mo_text_142 : decode prog_13_method_24_code 142 = .ok (.putfield 172, 3) := by decide +kernel
theorem d_Mo_text_145 : decode prog_13_method_24_code 145 = .ok (.aload_n 0, 1) := by decide +kernel
theorem d_Mo_text_146 : decode prog_13_method_24_code 146 = .ok (.aload_n 0, 1) := by decide +kernel
theorem d_Mo_text_147 : decode prog_13_method_24_code 147 = .ok (.getfield 14, 3) := by decide +kernel
theorem d_Mo_text_150 : decode prog_13_method_24_code 150 = .ok (.iconst 4, 1) := by decide +kernel
theorem d_Mo_text_151 : decode prog_13_method_24_code 151 = .ok (.iaload, 1) := by decide +kernel
theorem d_Mo_text_152 : decode prog_13_method_24_code 152 = .ok (.putfield 35, 3) := by decide +kernel
theorem d_Mo_text_155 : decode prog_13_method_24_code 155 = .ok (.aload_n 0, 1) := by decide +kernel
theorem d_Mo_text_156 : decode prog_13_method_24_code 156 = .ok (.getfield 86, 3) := by decide +kernel
theorem d_Mo_text_159 : decode prog_13_method_24_code 159 = .ok (.ireturn, 1) := by decide +kernel
theorem d_Mo_fault_0 : decode prog_13_method_25_code 0 = .ok (.aload_n 0, 1) := by decide +kernel
theorem d_Mo_fault_1 : decode prog_13_method_25_code 1 = .ok (.iconst 0, 1) := by decide +kernel
theorem d_Mo_fault_2 : decode prog_13_method_25_code 2 = .ok (.putfield 1, 3) := by decide +kernel
theorem d_Mo_fault_5 : decode prog_13_method_25_code 5 = .ok (.iload_n 1, 1) := by decide +kernel
theorem d_Mo_fault_6 : decode prog_13_method_25_code 6 = .ok (.ifCond .ne 10, 3) := by decide +kernel
theorem d_Mo_fault_9 : decode prog_13_method_25_code 9 = .ok (.aload_n 0, 1) := by decide +kernel
theorem d_Mo_fault_10 : decode prog_13_method_25_code 10 = .ok (.getfield 111, 3) := by decide +kernel
theorem d_Mo_fault_13 : decode prog_13_method_25_code 13 = .ok (.goto 16, 3) := by decide +kernel
theorem d_Mo_fault_16 : decode prog_13_method_25_code 16 = .ok (.iload_n 1, 1) := by decide +kernel
theorem d_Mo_fault_17 : decode prog_13_method_25_code 17 = .ok (.iconst 1, 1) := by decide +kernel
theorem d_Mo_fault_18 : decode prog_13_method_25_code 18 = .ok (.if_icmp .ne 10, 3) := by decide +kernel
theorem d_Mo_fault_21 : decode prog_13_method_25_code 21 = .ok (.aload_n 0, 1) := by decide +kernel
theorem d_Mo_fault_22 : decode prog_13_method_25_code 22 = .ok (.getfield 42, 3) := by decide +kernel
theorem d_Mo_fault_25 : decode prog_13_method_25_code 25 = .ok (.goto 4, 3) := by decide +kernel
theorem d_Mo_fault_28 : decode prog_13_method_25_code 28 = .ok (.iconst (-1), 1) := by decide +kernel
theorem d_Mo_fault_29 : decode prog_13_method_25_code 29 = .ok (.ireturn, 1) := by decide +kernel
theorem d_Mo_terms_0 : decode prog_13_method_26_code 0 = .ok (.aload_n 0, 1) := by decide +kernel
theorem d_Mo_terms_1 : decode prog_13_method_26_code 1 = .ok (.iconst 0, 1) := by decide +kernel
theorem d_Mo_terms_2 : decode prog_13_method_26_code 2 = .ok (.putfield 1, 3) := by decide +kernel
theorem d_Mo_terms_5 : decode prog_13_method_26_code 5 = .ok (.iload_n 1, 1) := by decide +kernel
theorem d_Mo_terms_6 : decode prog_13_method_26_code 6 = .ok (.i2l, 1) := by decide +kernel
theorem d_Mo_terms_7 : decode prog_13_method_26_code 7 = .ok (.lconst 0, 1) := by decide +kernel
theorem d_Mo_terms_8 : decode prog_13_method_26_code 8 = .ok (.ldc2_w 175, 3) := by decide +kernel
theorem d_Mo_terms_11 : decode prog_13_method_26_code 11 = .ok (.invokestatic 92, 3) := by decide +kernel
theorem d_Mo_terms_14 : decode prog_13_method_26_code 14 = .ok (.ifCond .ne 6, 3) := by decide +kernel
theorem d_Mo_terms_17 : decode prog_13_method_26_code 17 = .ok (.bipush (-2), 2) := by decide +kernel
theorem d_Mo_terms_19 : decode prog_13_method_26_code 19 = .ok (.ireturn, 1) := by decide +kernel
theorem d_Mo_terms_20 : decode prog_13_method_26_code 20 = .ok (.iload_n 2, 1) := by decide +kernel
theorem d_Mo_terms_21 : decode prog_13_method_26_code 21 = .ok (.i2l, 1) := by decide +kernel
theorem d_Mo_terms_22 : decode prog_13_method_26_code 22 = .ok (.aload_n 0, 1) := by decide +kernel
theorem d_Mo_terms_23 : decode prog_13_method_26_code 23 = .ok (.getfield 18, 3) := by decide +kernel
theorem d_Mo_terms_26 : decode prog_13_method_26_code 26 = .ok (.iload_n 1, 1) := by decide +kernel
theorem d_Mo_terms_27 : decode prog_13_method_26_code 27 = .ok (.iaload, 1) := by decide +kernel
theorem d_Mo_terms_28 : decode prog_13_method_26_code 28 = .ok (.i2l, 1) := by decide +kernel
theorem d_Mo_terms_29 : decode prog_13_method_26_code 29 = .ok (.aload_n 0, 1) := by decide +kernel
theorem d_Mo_terms_30 : decode prog_13_method_26_code 30 = .ok (.getfield 23, 3) := by decide +kernel
theorem d_Mo_terms_33 : decode prog_13_method_26_code 33 = .ok (.iload_n 1, 1) := by decide +kernel
theorem d_Mo_terms_34 : decode prog_13_method_26_code 34 = .ok (.iaload, 1) := by decide +kernel
theorem d_Mo_terms_35 : decode prog_13_method_26_code 35 = .ok (.i2l, 1) := by decide +kernel
theorem d_Mo_terms_36 : decode prog_13_method_26_code 36 = .ok (.invokestatic 92, 3) := by decide +kernel
theorem d_Mo_terms_39 : decode prog_13_method_26_code 39 = .ok (.ifCond .ne 6, 3) := by decide +kernel
theorem d_Mo_terms_42 : decode prog_13_method_26_code 42 = .ok (.bipush (-3), 2) := by decide +kernel
theorem d_Mo_terms_44 : decode prog_13_method_26_code 44 = .ok (.ireturn, 1) := by decide +kernel
theorem d_Mo_terms_45 : decode prog_13_method_26_code 45 = .ok (.aload_n 0, 1) := by decide +kernel
theorem d_Mo_terms_46 : decode prog_13_method_26_code 46 = .ok (.getfield 14, 3) := by decide +kernel
theorem d_Mo_terms_49 : decode prog_13_method_26_code 49 = .ok (.iload_n 1, 1) := by decide +kernel
theorem d_Mo_terms_50 : decode prog_13_method_26_code 50 = .ok (.iaload, 1) := by decide +kernel
theorem d_Mo_terms_51 : decode prog_13_method_26_code 51 = .ok (.istore_n 3, 1) := by decide +kernel
theorem d_Mo_terms_52 : decode prog_13_method_26_code 52 = .ok (.aload_n 0, 1) := by decide +kernel
theorem d_Mo_terms_53 : decode prog_13_method_26_code 53 = .ok (.getfield 14, 3) := by decide +kernel
theorem d_Mo_terms_56 : decode prog_13_method_26_code 56 = .ok (.iload_n 1, 1) := by decide +kernel
theorem d_Mo_terms_57 : decode prog_13_method_26_code 57 = .ok (.iload_n 2, 1) := by decide +kernel
theorem d_Mo_terms_58 : decode prog_13_method_26_code 58 = .ok (.iastore, 1) := by decide +kernel
theorem d_Mo_terms_59 : decode prog_13_method_26_code 59 = .ok (.iload_n 1, 1) := by decide +kernel
theorem d_Mo_terms_60 : decode prog_13_method_26_code 60 = .ok (.iconst 4, 1) := by decide +kernel
theorem d_Mo_terms_61 : decode prog_13_method_26_code 61 = .ok (.if_icmp .ne 8, 3) := by decide +kernel
theorem d_Mo_terms_64 : decode prog_13_method_26_code 64 = .ok (.aload_n 0, 1) := by decide +kernel
theorem d_Mo_terms_65 : decode prog_13_method_26_code 65 = .ok (.iload_n 2, 1) := by decide +kernel
theorem d_Mo_terms_66 : decode prog_13_method_26_code 66 = .ok (.putfield 35, 3) := by decide +kernel
theorem d_Mo_terms_69 : decode prog_13_method_26_code 69 = .ok (.iload_n 3, 1) := by decide +kernel
theorem d_Mo_terms_70 : decode prog_13_method_26_code 70 = .ok (.ireturn, 1) := by decide +kernel
theorem d_Mo_add_0 : decode prog_13_method_27_code 0 = .ok (.aload_n 0, 1) := by decide +kernel
theorem d_Mo_add_1 : decode prog_13_method_27_code 1 = .ok (.iconst 0, 1) := by decide +kernel
theorem d_Mo_add_2 : decode prog_13_method_27_code 2 = .ok (.putfield 1, 3) := by decide +kernel
theorem d_Mo_add_5 : decode prog_13_method_27_code 5 = .ok (.iload_n 1, 1) := by decide +kernel
theorem d_Mo_add_6 : decode prog_13_method_27_code 6 = .ok (.i2l, 1) := by decide +kernel
theorem d_Mo_add_7 : decode prog_13_method_27_code 7 = .ok (.lconst 0, 1) := by decide +kernel
theorem d_Mo_add_8 : decode prog_13_method_27_code 8 = .ok (.ldc2_w 177, 3) := by decide +kernel
theorem d_Mo_add_11 : decode prog_13_method_27_code 11 = .ok (.invokestatic 92, 3) := by decide +kernel
theorem d_Mo_add_14 : decode prog_13_method_27_code 14 = .ok (.ifCond .eq 29, 3) := by decide +kernel
theorem d_Mo_add_17 : decode prog_13_method_27_code 17 = .ok (.iload_n 2, 1) := by decide +kernel
theorem d_Mo_add_18 : decode prog_13_method_27_code 18 = .ok (.i2l, 1) := by decide +kernel
theorem d_Mo_add_19 : decode prog_13_method_27_code 19 = .ok (.lconst 0, 1) := by decide +kernel
theorem d_Mo_add_20 : decode prog_13_method_27_code 20 = .ok (.ldc2_w 179, 3) := by decide +kernel
theorem d_Mo_add_23 : decode prog_13_method_27_code 23 = .ok (.invokestatic 92, 3) := by decide +kernel
theorem d_Mo_add_26 : decode prog_13_method_27_code 26 = .ok (.ifCond .eq 17, 3) := by decide +kernel
theorem d_Mo_add_29 : decode prog_13_method_27_code 29 = .ok (.iload_n 3, 1) := by decide +kernel
theorem d_Mo_add_30 : decode prog_13_method_27_code 30 = .ok (.i2l, 1) := by decide +kernel
theorem d_Mo_add_31 : decode prog_13_method_27_code 31 = .ok (.ldc2_w 181, 3) := by decide +kernel
theorem d_Mo_add_34 : decode prog_13_method_27_code 34 = .ok (.ldc2_w 183, 3) := by decide +kernel
theorem d_Mo_add_37 : decode prog_13_method_27_code 37 = .ok (.invokestatic 92, 3) := by decide +kernel
theorem d_Mo_add_40 : decode prog_13_method_27_code 40 = .ok (.ifCond .ne 6, 3) := by decide +kernel
theorem d_Mo_add_43 : decode prog_13_method_27_code 43 = .ok (.bipush (-3), 2) := by decide +kernel
theorem d_Mo_add_45 : decode prog_13_method_27_code 45 = .ok (.ireturn, 1) := by decide +kernel
theorem d_Mo_add_46 : decode prog_13_method_27_code 46 = .ok (.aload_n 0, 1) := by decide +kernel
theorem d_Mo_add_47 : decode prog_13_method_27_code 47 = .ok (.getfield 86, 3) := by decide +kernel
theorem d_Mo_add_50 : decode prog_13_method_27_code 50 = .ok (.bipush 48, 2) := by decide +kernel
theorem d_Mo_add_52 : decode prog_13_method_27_code 52 = .ok (.if_icmp .ne 6, 3) := by decide +kernel
theorem d_Mo_add_55 : decode prog_13_method_27_code 55 = .ok (.bipush (-4), 2) := by decide +kernel
theorem d_Mo_add_57 : decode prog_13_method_27_code 57 = .ok (.ireturn, 1) := by decide +kernel
theorem d_Mo_add_58 : decode prog_13_method_27_code 58 = .ok (.aload_n 0, 1) := by decide +kernel
theorem d_Mo_add_59 : decode prog_13_method_27_code 59 = .ok (.getfield 172, 3) := by decide +kernel
theorem d_Mo_add_62 : decode prog_13_method_27_code 62 = .ok (.ifCond .gt 20, 3) := by decide +kernel
theorem d_Mo_add_65 : decode prog_13_method_27_code 65 = .ok (.aload_n 0, 1) := by decide +kernel
theorem d_Mo_add_66 : decode prog_13_method_27_code 66 = .ok (.getfield 26, 3) := by decide +kernel
theorem d_Mo_add_69 : decode prog_13_method_27_code 69 = .ok (.aload_n 0, 1) := by decide +kernel
theorem d_Mo_add_70 : decode prog_13_method_27_code 70 = .ok (.getfield 86, 3) := by decide +kernel
theorem d_Mo_add_73 : decode prog_13_method_27_code 73 = .ok (.iload_n 1, 1) := by decide +kernel
theorem d_Mo_add_74 : decode prog_13_method_27_code 74 = .ok (.iload_n 2, 1) := by decide +kernel
theorem d_Mo_add_75 : decode prog_13_method_27_code 75 = .ok (.invokestatic 148, 3) := by decide +kernel
theorem d_Mo_add_78 : decode prog_13_method_27_code 78 = .ok (.iconst (-1), 1) := by decide +kernel
theorem d_Mo_add_79 : decode prog_13_method_27_code 79 = .ok (.if_icmp .eq 6, 3) := by decide +kernel
theorem d_Mo_add_82 : decode prog_13_method_27_code 82 = .ok (.bipush (-5), 2) := by decide +kernel
theorem d_Mo_add_84 : decode prog_13_method_27_code 84 = .ok (.ireturn, 1) := by decide +kernel
theorem d_Mo_add_85 : decode prog_13_method_27_code 85 = .ok (.iconst 4, 1) := by decide +kernel
theorem d_Mo_add_86 : decode prog_13_method_27_code 86 = .ok (.aload_n 0, 1) := by decide +kernel
theorem d_Mo_add_87 : decode prog_13_method_27_code 87 = .ok (.getfield 86, 3) := by decide +kernel
theorem d_Mo_add_90 : decode prog_13_method_27_code 90 = .ok (.imul, 1) := by decide +kernel
theorem d_Mo_add_91 : decode prog_13_method_27_code 91 = .ok (.istore 4, 2) := by decide +kernel
theorem d_Mo_add_93 : decode prog_13_method_27_code 93 = .ok (.aload_n 0, 1) := by decide +kernel
theorem d_Mo_add_94 : decode prog_13_method_27_code 94 = .ok (.getfield 26, 3) := by decide +kernel
theorem d_Mo_add_97 : decode prog_13_method_27_code 97 = .ok (.iload 4, 2) := by decide +kernel
theorem d_Mo_add_99 : decode prog_13_method_27_code 99 = .ok (.iconst 0, 1) := by decide +kernel
theorem d_Mo_add_100 : decode prog_13_method_27_code 100 = .ok (.iadd, 1) := by decide +kernel
theorem d_Mo_add_101 : decode prog_13_method_27_code 101 = .ok (.iload_n 1, 1) := by decide +kernel
theorem d_Mo_add_102 : decode prog_13_method_27_code 102 = .ok (.iastore, 1) := by decide +kernel
theorem d_Mo_add_103 : decode prog_13_method_27_code 103 = .ok (.aload_n 0, 1) := by decide +kernel
theorem d_Mo_add_104 : decode prog_13_method_27_code 104 = .ok (.getfield 26, 3) := by decide +kernel
theorem d_Mo_add_107 : decode prog_13_method_27_code 107 = .ok (.iload 4, 2) := by decide +kernel
theorem d_Mo_add_109 : decode prog_13_method_27_code 109 = .ok (.iconst 1, 1) := by decide +kernel
theorem d_Mo_add_110 : decode prog_13_method_27_code 110 = .ok (.iadd, 1) := by decide +kernel
theorem d_Mo_add_111 : decode prog_13_method_27_code 111 = .ok (.iload_n 2, 1) := by decide +kernel
theorem d_Mo_add_112 : decode prog_13_method_27_code 112 = .ok (.iastore, 1) := by decide +kernel
theorem d_Mo_add_113 : decode prog_13_method_27_code 113 = .ok (.aload_n 0, 1) := by decide +kernel
theorem d_Mo_add_114 : decode prog_13_method_27_code 114 = .ok (.getfield 26, 3) := by decide +kernel
theorem d_Mo_add_117 : decode prog_13_method_27_code 117 = .ok (.iload 4, 2) := by decide +kernel
theorem d_Mo_add_119 : decode prog_13_method_27_code 119 = .ok (.iconst 2, 1) := by decide +kernel
theorem d_Mo_add_120 : decode prog_13_method_27_code 120 = .ok (.iadd, 1) := by decide +kernel
theorem d_Mo_add_121 : decode prog_13_method_27_code 121 = .ok (.iload_n 3, 1) := by decide +kernel
theorem d_Mo_add_122 : decode prog_13_method_27_code 122 = .ok (.iastore, 1) := by decide +kernel
theorem d_Mo_add_123 : decode prog_13_method_27_code 123 = .ok (.aload_n 0, 1) := by decide +kernel
theorem d_Mo_add_124 : decode prog_13_method_27_code 124 = .ok (.getfield 26, 3) := by decide +kernel
theorem d_Mo_add_127 : decode prog_13_method_27_code 127 = .ok (.iload 4, 2) := by decide +kernel
theorem d_Mo_add_129 : decode prog_13_method_27_code 129 = .ok (.iconst 3, 1) := by decide +kernel
theorem d_Mo_add_130 : decode prog_13_method_27_code 130 = .ok (.iadd, 1) := by decide +kernel
theorem d_Mo_add_131 : decode prog_13_method_27_code 131 = .ok (.iconst (-1), 1) := by decide +kernel
theorem d_Mo_add_132 : decode prog_13_method_27_code 132 = .ok (.iastore, 1) := by decide +kernel
theorem d_Mo_add_133 : decode prog_13_method_27_code 133 = .ok (.aload_n 0, 1) := by decide +kernel
theorem d_Mo_add_134 : decode prog_13_method_27_code 134 = .ok (.dup, 1) := by decide +kernel
theorem d_Mo_add_135 : decode prog_13_method_27_code 135 = .ok (.getfield 86, 3) := by decide +kernel
theorem d_Mo_add_138 : decode prog_13_method_27_code 138 = .ok (.iconst 1, 1) := by decide +kernel
theorem d_Mo_add_139 : decode prog_13_method_27_code 139 = .ok (.iadd, 1) := by decide +kernel
theorem d_Mo_add_140 : decode prog_13_method_27_code 140 = .ok (.putfield 86, 3) := by decide +kernel
theorem d_Mo_add_143 : decode prog_13_method_27_code 143 = .ok (.aload_n 0, 1) := by decide +kernel
theorem d_Mo_add_144 : decode prog_13_method_27_code 144 = .ok (.getfield 86, 3) := by decide +kernel
theorem d_Mo_add_147 : decode prog_13_method_27_code 147 = .ok (.iconst 1, 1) := by decide +kernel
theorem d_Mo_add_148 : decode prog_13_method_27_code 148 = .ok (.isub, 1) := by decide +kernel
theorem d_Mo_add_149 : decode prog_13_method_27_code 149 = .ok (.ireturn, 1) := by decide +kernel
theorem d_Mo_post_0 : decode prog_13_method_28_code 0 = .ok (.aload_n 0, 1) := by decide +kernel
theorem d_Mo_post_1 : decode prog_13_method_28_code 1 = .ok (.iconst 0, 1) := by decide +kernel
theorem d_Mo_post_2 : decode prog_13_method_28_code 2 = .ok (.putfield 1, 3) := by decide +kernel
theorem d_Mo_post_5 : decode prog_13_method_28_code 5 = .ok (.aload_n 0, 1) := by decide +kernel
theorem d_Mo_post_6 : decode prog_13_method_28_code 6 = .ok (.iload_n 1, 1) := by decide +kernel
theorem d_Mo_post_7 : decode prog_13_method_28_code 7 = .ok (.invokevirtual 185, 3) := by decide +kernel
theorem d_Mo_post_10 : decode prog_13_method_28_code 10 = .ok (.ifCond .eq 24, 3) := by decide +kernel
theorem d_Mo_post_13 : decode prog_13_method_28_code 13 = .ok (.iload_n 2, 1) := by decide +kernel
theorem d_Mo_post_14 : decode prog_13_method_28_code 14 = .ok (.i2l, 1) := by decide +kernel
theorem d_Mo_post_15 : decode prog_13_method_28_code 15 = .ok (.ldc2_w 181, 3) := by decide +kernel
theorem d_Mo_post_18 : decode prog_13_method_28_code 18 = .ok (.ldc2_w 183, 3) := by decide +kernel
theorem d_Mo_post_21 : decode prog_13_method_28_code 21 = .ok (.invokestatic 92, 3) := by decide +kernel
theorem d_Mo_post_24 : decode prog_13_method_28_code 24 = .ok (.ifCond .eq 10, 3) := by decide +kernel
theorem d_Mo_post_27 : decode prog_13_method_28_code 27 = .ok (.aload_n 0, 1) := by decide +kernel
theorem d_Mo_post_28 : decode prog_13_method_28_code 28 = .ok (.getfield 172, 3) := by decide +kernel
theorem d_Mo_post_31 : decode prog_13_method_28_code 31 = .ok (.ifCond .le 6, 3) := by decide +kernel
theorem d_Mo_post_34 : decode prog_13_method_28_code 34 = .ok (.ldc 188, 2) := by decide +kernel
theorem d_Mo_post_36 : decode prog_13_method_28_code 36 = .ok (.ireturn, 1) := by decide +kernel
theorem d_Mo_post_37 : decode prog_13_method_28_code 37 = .ok (.aload_n 0, 1) := by decide +kernel
theorem d_Mo_post_38 : decode prog_13_method_28_code 38 = .ok (.iload_n 1, 1) := by decide +kernel
theorem d_Mo_post_39 : decode prog_13_method_28_code 39 = .ok (.invokevirtual 82, 3) := by decide +kernel
theorem d_Mo_post_42 : decode prog_13_method_28_code 42 = .ok (.istore_n 3, 1) := by decide +kernel
theorem d_Mo_post_43 : decode prog_13_method_28_code 43 = .ok (.aload_n 0, 1) := by decide +kernel
theorem d_Mo_post_44 : decode prog_13_method_28_code 44 = .ok (.getfield 26, 3) := by decide +kernel
theorem d_Mo_post_47 : decode prog_13_method_28_code 47 = .ok (.iconst 4, 1) := by decide +kernel
theorem d_Mo_post_48 : decode prog_13_method_28_code 48 = .ok (.iload_n 1, 1) := by decide +kernel
theorem d_Mo_post_49 : decode prog_13_method_28_code 49 = .ok (.imul, 1) := by decide +kernel
theorem d_Mo_post_50 : decode prog_13_method_28_code 50 = .ok (.iconst 2, 1) := by decide +kernel
theorem d_Mo_post_51 : decode prog_13_method_28_code 51 = .ok (.iadd, 1) := by decide +kernel
theorem d_Mo_post_52 : decode prog_13_method_28_code 52 = .ok (.iload_n 2, 1) := by decide +kernel
theorem d_Mo_post_53 : decode prog_13_method_28_code 53 = .ok (.iastore, 1) := by decide +kernel
theorem d_Mo_post_54 : decode prog_13_method_28_code 54 = .ok (.aload_n 0, 1) := by decide +kernel
theorem d_Mo_post_55 : decode prog_13_method_28_code 55 = .ok (.getfield 26, 3) := by decide +kernel
theorem d_Mo_post_58 : decode prog_13_method_28_code 58 = .ok (.iconst 4, 1) := by decide +kernel
theorem d_Mo_post_59 : decode prog_13_method_28_code 59 = .ok (.iload_n 1, 1) := by decide +kernel
theorem d_Mo_post_60 : decode prog_13_method_28_code 60 = .ok (.imul, 1) := by decide +kernel
theorem d_Mo_post_61 : decode prog_13_method_28_code 61 = .ok (.iconst 3, 1) := by decide +kernel
theorem d_Mo_post_62 : decode prog_13_method_28_code 62 = .ok (.iadd, 1) := by decide +kernel
theorem d_Mo_post_63 : decode prog_13_method_28_code 63 = .ok (.iconst (-1), 1) := by decide +kernel
theorem d_Mo_post_64 : decode prog_13_method_28_code 64 = .ok (.iastore, 1) := by decide +kernel
theorem d_Mo_post_65 : decode prog_13_method_28_code 65 = .ok (.iload_n 3, 1) := by decide +kernel
theorem d_Mo_post_66 : decode prog_13_method_28_code 66 = .ok (.ireturn, 1) := by decide +kernel
theorem d_Mo_isAudit_0 : decode prog_13_method_29_code 0 = .ok (.iload_n 2, 1) := by decide +kernel
theorem d_Mo_isAudit_1 : decode prog_13_method_29_code 1 = .ok (.i2l, 1) := by decide +kernel
theorem d_Mo_isAudit_2 : decode prog_13_method_29_code 2 = .ok (.lconst 0, 1) := by decide +kernel
theorem d_Mo_isAudit_3 : decode prog_13_method_29_code 3 = .ok (.ldc2_w 189, 3) := by decide +kernel
theorem d_Mo_isAudit_6 : decode prog_13_method_29_code 6 = .ok (.aload_n 0, 1) := by decide +kernel
theorem d_Mo_isAudit_7 : decode prog_13_method_29_code 7 = .ok (.iload_n 1, 1) := by decide +kernel
theorem d_Mo_isAudit_8 : decode prog_13_method_29_code 8 = .ok (.invokevirtual 82, 3) := by decide +kernel
theorem d_Mo_isAudit_11 : decode prog_13_method_29_code 11 = .ok (.i2l, 1) := by decide +kernel
theorem d_Mo_isAudit_12 : decode prog_13_method_29_code 12 = .ok (.lmul, 1) := by decide +kernel
theorem d_Mo_isAudit_13 : decode prog_13_method_29_code 13 = .ok (.invokestatic 92, 3) := by decide +kernel
theorem d_Mo_isAudit_16 : decode prog_13_method_29_code 16 = .ok (.ireturn, 1) := by decide +kernel
theorem d_Mo_audit_0 : decode prog_13_method_30_code 0 = .ok (.aload_n 0, 1) := by decide +kernel
theorem d_Mo_audit_1 : decode prog_13_method_30_code 1 = .ok (.iconst 0, 1) := by decide +kernel
theorem d_Mo_audit_2 : decode prog_13_method_30_code 2 = .ok (.putfield 1, 3) := by decide +kernel
theorem d_Mo_audit_5 : decode prog_13_method_30_code 5 = .ok (.aload_n 0, 1) := by decide +kernel
theorem d_Mo_audit_6 : decode prog_13_method_30_code 6 = .ok (.iload_n 1, 1) := by decide +kernel
theorem d_Mo_audit_7 : decode prog_13_method_30_code 7 = .ok (.invokevirtual 185, 3) := by decide +kernel
theorem d_Mo_audit_10 : decode prog_13_method_30_code 10 = .ok (.ifCond .ne 6, 3) := by decide +kernel
theorem d_Mo_audit_13 : decode prog_13_method_30_code 13 = .ok (.bipush (-2), 2) := by decide +kernel
theorem d_Mo_audit_15 : decode prog_13_method_30_code 15 = .ok (.ireturn, 1) := by decide +kernel
theorem d_Mo_audit_16 : decode prog_13_method_30_code 16 = .ok (.aload_n 0, 1) := by decide +kernel
theorem d_Mo_audit_17 : decode prog_13_method_30_code 17 = .ok (.iload_n 1, 1) := by decide +kernel
theorem d_Mo_audit_18 : decode prog_13_method_30_code 18 = .ok (.iload_n 2, 1) := by decide +kernel
theorem d_Mo_audit_19 : decode prog_13_method_30_code 19 = .ok (.invokevirtual 191, 3) := by decide +kernel
theorem d_Mo_audit_22 : decode prog_13_method_30_code 22 = .ok (.ifCond .ne 6, 3) := by decide +kernel
theorem d_Mo_audit_25 : decode prog_13_method_30_code 25 = .ok (.bipush (-3), 2) := by decide +kernel
theorem d_Mo_audit_27 : decode prog_13_method_30_code 27 = .ok (.ireturn, 1) := by decide +kernel
theorem d_Mo_audit_28 : decode prog_13_method_30_code 28 = .ok (.aload_n 0, 1) := by decide +kernel
theorem d_Mo_audit_29 : decode prog_13_method_30_code 29 = .ok (.iload_n 1, 1) := by decide +kernel
theorem d_Mo_audit_30 : decode prog_13_method_30_code 30 = .ok (.invokevirtual 89, 3) := by decide +kernel
theorem d_Mo_audit_33 : decode prog_13_method_30_code 33 = .ok (.ifCond .ne 6, 3) := by decide +kernel
theorem d_Mo_audit_36 : decode prog_13_method_30_code 36 = .ok (.bipush (-5), 2) := by decide +kernel
theorem d_Mo_audit_38 : decode prog_13_method_30_code 38 = .ok (.ireturn, 1) := by decide +kernel
theorem d_Mo_audit_39 : decode prog_13_method_30_code 39 = .ok (.aload_n 0, 1) := by decide +kernel
theorem d_Mo_audit_40 : decode prog_13_method_30_code 40 = .ok (.iload_n 1, 1) := by decide +kernel
theorem d_Mo_audit_41 : decode prog_13_method_30_code 41 = .ok (.invokevirtual 96, 3) := by decide +kernel
theorem d_Mo_audit_44 : decode prog_13_method_30_code 44 = .ok (.istore_n 3, 1) := by decide +kernel
theorem d_Mo_audit_45 : decode prog_13_method_30_code 45 = .ok (.aload_n 0, 1) := by decide +kernel
theorem d_Mo_audit_46 : decode prog_13_method_30_code 46 = .ok (.getfield 26, 3) := by decide +kernel
theorem d_Mo_audit_49 : decode prog_13_method_30_code 49 = .ok (.iconst 4, 1) := by decide +kernel
theorem d_Mo_audit_50 : decode prog_13_method_30_code 50 = .ok (.iload_n 1, 1) := by decide +kernel
theorem d_Mo_audit_51 : decode prog_13_method_30_code 51 = .ok (.imul, 1) := by decide +kernel
theorem d_Mo_audit_52 : decode prog_13_method_30_code 52 = .ok (.iconst 3, 1) := by decide +kernel
theorem d_Mo_audit_53 : decode prog_13_method_30_code 53 = .ok (.iadd, 1) := by decide +kernel
theorem d_Mo_audit_54 : decode prog_13_method_30_code 54 = .ok (.iload_n 2, 1) := by decide +kernel
theorem d_Mo_audit_55 : decode prog_13_method_30_code 55 = .ok (.iastore, 1) := by decide +kernel
theorem d_Mo_audit_56 : decode prog_13_method_30_code 56 = .ok (.iload_n 3, 1) := by decide +kernel
theorem d_Mo_audit_57 : decode prog_13_method_30_code 57 = .ok (.ireturn, 1) := by decide +kernel
theorem d_Mo_forget_0 : decode prog_13_method_31_code 0 = .ok (.aload_n 0, 1) := by decide +kernel
theorem d_Mo_forget_1 : decode prog_13_method_31_code 1 = .ok (.iconst 0, 1) := by decide +kernel
theorem d_Mo_forget_2 : decode prog_13_method_31_code 2 = .ok (.putfield 1, 3) := by decide +kernel
theorem d_Mo_forget_5 : decode prog_13_method_31_code 5 = .ok (.aload_n 0, 1) := by decide +kernel
theorem d_Mo_forget_6 : decode prog_13_method_31_code 6 = .ok (.iload_n 1, 1) := by decide +kernel
theorem d_Mo_forget_7 : decode prog_13_method_31_code 7 = .ok (.invokevirtual 185, 3) := by decide +kernel
theorem d_Mo_forget_10 : decode prog_13_method_31_code 10 = .ok (.ifCond .ne 6, 3) := by decide +kernel
theorem d_Mo_forget_13 : decode prog_13_method_31_code 13 = .ok (.bipush (-2), 2) := by decide +kernel
theorem d_Mo_forget_15 : decode prog_13_method_31_code 15 = .ok (.ireturn, 1) := by decide +kernel
theorem d_Mo_forget_16 : decode prog_13_method_31_code 16 = .ok (.aload_n 0, 1) := by decide +kernel
theorem d_Mo_forget_17 : decode prog_13_method_31_code 17 = .ok (.iload_n 1, 1) := by decide +kernel
theorem d_Mo_forget_18 : decode prog_13_method_31_code 18 = .ok (.invokevirtual 96, 3) := by decide +kernel
theorem d_Mo_forget_21 : decode prog_13_method_31_code 21 = .ok (.istore_n 2, 1) := by decide +kernel
theorem d_Mo_forget_22 : decode prog_13_method_31_code 22 = .ok (.aload_n 0, 1) := by decide +kernel
theorem d_Mo_forget_23 : decode prog_13_method_31_code 23 = .ok (.getfield 26, 3) := by decide +kernel
theorem d_Mo_forget_26 : decode prog_13_method_31_code 26 = .ok (.iconst 4, 1) := by decide +kernel
theorem d_Mo_forget_27 : decode prog_13_method_31_code 27 = .ok (.iload_n 1, 1) := by decide +kernel
theorem d_Mo_forget_28 : decode prog_13_method_31_code 28 = .ok (.imul, 1) := by decide +kernel
theorem d_Mo_forget_29 : decode prog_13_method_31_code 29 = .ok (.iconst 3, 1) := by decide +kernel
theorem d_Mo_forget_30 : decode prog_13_method_31_code 30 = .ok (.iadd, 1) := by decide +kernel
theorem d_Mo_forget_31 : decode prog_13_method_31_code 31 = .ok (.iconst (-1), 1) := by decide +kernel
theorem d_Mo_forget_32 : decode prog_13_method_31_code 32 = .ok (.iastore, 1) := by decide +kernel
theorem d_Mo_forget_33 : decode prog_13_method_31_code 33 = .ok (.iload_n 2, 1) := by decide +kernel
theorem d_Mo_forget_34 : decode prog_13_method_31_code 34 = .ok (.ireturn, 1) := by decide +kernel
theorem d_Mo_isCertainBy_0 : decode prog_13_method_32_code 0 = .ok (.iload_n 1, 1) := by decide +kernel
theorem d_Mo_isCertainBy_1 : decode prog_13_method_32_code 1 = .ok (.ifCond .le 12, 3) := by decide +kernel
theorem d_Mo_isCertainBy_4 : decode prog_13_method_32_code 4 = .ok (.iload_n 0, 1) := by decide +kernel
theorem d_Mo_isCertainBy_5 : decode prog_13_method_32_code 5 = .ok (.iload_n 1, 1) := by decide +kernel
theorem d_Mo_isCertainBy_6 : decode prog_13_method_32_code 6 = .ok (.if_icmp .lt 7, 3) := by decide +kernel
theorem d_Mo_isCertainBy_9 : decode prog_13_method_32_code 9 = .ok (.iconst 1, 1) := by decide +kernel
theorem d_Mo_isCertainBy_10 : decode prog_13_method_32_code 10 = .ok (.goto 4, 3) := by decide +kernel
theorem d_Mo_isCertainBy_13 : decode prog_13_method_32_code 13 = .ok (.iconst 0, 1) := by decide +kernel
theorem d_Mo_isCertainBy_14 : decode prog_13_method_32_code 14 = .ok (.ireturn, 1) := by decide +kernel
theorem d_Mo_isCertain_0 : decode prog_13_method_33_code 0 = .ok (.aload_n 0, 1) := by decide +kernel
theorem d_Mo_isCertain_1 : decode prog_13_method_33_code 1 = .ok (.iload_n 1, 1) := by decide +kernel
theorem d_Mo_isCertain_2 : decode prog_13_method_33_code 2 = .ok (.invokevirtual 82, 3) := by decide +kernel
theorem d_Mo_isCertain_5 : decode prog_13_method_33_code 5 = .ok (.aload_n 0, 1) := by decide +kernel
theorem d_Mo_isCertain_6 : decode prog_13_method_33_code 6 = .ok (.getfield 169, 3) := by decide +kernel
theorem d_Mo_isCertain_9 : decode prog_13_method_33_code 9 = .ok (.invokestatic 195, 3) := by decide +kernel
theorem d_Mo_isCertain_12 : decode prog_13_method_33_code 12 = .ok (.ireturn, 1) := by decide +kernel
theorem d_Mo_laysRest_0 : decode prog_13_method_34_code 0 = .ok (.aload_n 0, 1) := by decide +kernel
theorem d_Mo_laysRest_1 : decode prog_13_method_34_code 1 = .ok (.iconst 0, 1) := by decide +kernel
theorem d_Mo_laysRest_2 : decode prog_13_method_34_code 2 = .ok (.putfield 198, 3) := by decide +kernel
theorem d_Mo_laysRest_5 : decode prog_13_method_34_code 5 = .ok (.iconst 0, 1) := by decide +kernel
theorem d_Mo_laysRest_6 : decode prog_13_method_34_code 6 = .ok (.istore_n 2, 1) := by decide +kernel
theorem d_Mo_laysRest_7 : decode prog_13_method_34_code 7 = .ok (.iload_n 2, 1) := by decide +kernel
theorem d_Mo_laysRest_8 : decode prog_13_method_34_code 8 = .ok (.aload_n 0, 1) := by decide +kernel
theorem d_Mo_laysRest_9 : decode prog_13_method_34_code 9 = .ok (.getfield 86, 3) := by decide +kernel
theorem d_Mo_laysRest_12 : decode prog_13_method_34_code 12 = .ok (.if_icmp .ge 77, 3) := by decide +kernel
theorem d_Mo_laysRest_15 : decode prog_13_method_34_code 15 = .ok (.aload_n 0, 1) := by decide +kernel
theorem d_Mo_laysRest_16 : decode prog_13_method_34_code 16 = .ok (.iload_n 2, 1) := by decide +kernel
theorem d_Mo_laysRest_17 : decode prog_13_method_34_code 17 = .ok (.invokevirtual 89, 3) := by decide +kernel
theorem d_Mo_laysRest_20 : decode prog_13_method_34_code 20 = .ok (.ifCond .le 19, 3) := by decide +kernel
theorem d_Mo_laysRest_23 : decode prog_13_method_34_code 23 = .ok (.aload_n 0, 1) := by decide +kernel
theorem d_Mo_laysRest_24 : decode prog_13_method_34_code 24 = .ok (.iload_n 2, 1) := by decide +kernel
theorem d_Mo_laysRest_25 : decode prog_13_method_34_code 25 = .ok (.invokevirtual 82, 3) := by decide +kernel
theorem d_Mo_laysRest_28 : decode prog_13_method_34_code 28 = .ok (.iload_n 1, 1) := by decide +kernel
theorem d_Mo_laysRest_29 : decode prog_13_method_34_code 29 = .ok (.invokestatic 195, 3) := by decide +kernel
theorem d_Mo_laysRest_32 : decode prog_13_method_34_code 32 = .ok (.ifCond .ne 7, 3) := by decide +kernel
theorem d_Mo_laysRest_35 : decode prog_13_method_34_code 35 = .ok (.iconst 1, 1) := by decide +kernel
theorem d_Mo_laysRest_36 : decode prog_13_method_34_code 36 = .ok (.goto 4, 3) := by decide +kernel
theorem d_Mo_laysRest_39 : decode prog_13_method_34_code 39 = .ok (.iconst 0, 1) := by decide +kernel
theorem d_Mo_laysRest_40 : decode prog_13_method_34_code 40 = .ok (.istore_n 3, 1) := by decide +kernel
theorem d_Mo_laysRest_41 : decode prog_13_method_34_code 41 = .ok (.aload_n 0, 1) := by decide +kernel
theorem d_Mo_laysRest_42 : decode prog_13_method_34_code 42 = .ok (.getfield 48, 3) := by decide +kernel
theorem d_Mo_laysRest_45 : decode prog_13_method_34_code 45 = .ok (.iload_n 2, 1) := by decide +kernel
theorem d_Mo_laysRest_46 : decode prog_13_method_34_code 46 = .ok (.iload_n 3, 1) := by decide +kernel
theorem d_Mo_laysRest_47 : decode prog_13_method_34_code 47 = .ok (.ifCond .eq 12, 3) := by decide +kernel
theorem d_Mo_laysRest_50 : decode prog_13_method_34_code 50 = .ok (.aload_n 0, 1) := by decide +kernel
theorem d_Mo_laysRest_51 : decode prog_13_method_34_code 51 = .ok (.getfield 198, 3) := by decide +kernel
theorem d_Mo_laysRest_54 : decode prog_13_method_34_code 54 = .ok (.iconst 1, 1) := by decide +kernel
theorem d_Mo_laysRest_55 : decode prog_13_method_34_code 55 = .ok (.iadd, 1) := by decide +kernel
theorem d_Mo_laysRest_56 : decode prog_13_method_34_code 56 = .ok (.goto 4, 3) := by decide +kernel
theorem d_Mo_laysRest_59 : decode prog_13_method_34_code 59 = .ok (.iconst 0, 1) := by decide +kernel
theorem d_Mo_laysRest_60 : decode prog_13_method_34_code 60 = .ok (.iastore, 1) := by decide +kernel
theorem d_Mo_laysRest_61 : decode prog_13_method_34_code 61 = .ok (.aload_n 0, 1) := by decide +kernel
theorem d_Mo_laysRest_62 : decode prog_13_method_34_code 62 = .ok (.dup, 1) := by decide +kernel
theorem d_Mo_laysRest_63 : decode prog_13_method_34_code 63 = .ok (.getfield 198, 3) := by decide +kernel
theorem d_Mo_laysRest_66 : decode prog_13_method_34_code 66 = .ok (.iload_n 3, 1) := by decide +kernel
theorem d_Mo_laysRest_67 : decode prog_13_method_34_code 67 = .ok (.ifCond .eq 11, 3) := by decide +kernel
theorem d_Mo_laysRest_70 : decode prog_13_method_34_code 70 = .ok (.aload_n 0, 1) := by decide +kernel
theorem d_Mo_laysRest_71 : decode prog_13_method_34_code 71 = .ok (.iload_n 2, 1) := by decide +kernel
theorem d_Mo_laysRest_72 : decode prog_13_method_34_code 72 = .ok (.invokevirtual 89, 3) := by decide +kernel
theorem d_Mo_laysRest_75 : decode prog_13_method_34_code 75 = .ok (.goto 4, 3) := by decide +kernel
theorem d_Mo_laysRest_78 : decode prog_13_method_34_code 78 = .ok (.iconst 0, 1) := by decide +kernel
theorem d_Mo_laysRest_79 : decode prog_13_method_34_code 79 = .ok (.iadd, 1) := by decide +kernel
theorem d_Mo_laysRest_80 : decode prog_13_method_34_code 80 = .ok (.putfield 198, 3) := by decide +kernel
theorem d_Mo_laysRest_83 : decode prog_13_method_34_code 83 = .ok (.iinc 2 1, 3) := by decide +kernel
theorem d_Mo_laysRest_86 : decode prog_13_method_34_code 86 = .ok (.goto (-79), 3) := by decide +kernel
theorem d_Mo_laysRest_89 : decode prog_13_method_34_code 89 = .ok (.return_, 1) := by decide +kernel
theorem d_Mo_certainMany_0 : decode prog_13_method_35_code 0 = .ok (.iconst 0, 1) := by decide +kernel
theorem d_Mo_certainMany_1 : decode prog_13_method_35_code 1 = .ok (.istore_n 1, 1) := by decide +kernel
theorem d_Mo_certainMany_2 : decode prog_13_method_35_code 2 = .ok (.iconst 0, 1) := by decide +kernel
theorem d_Mo_certainMany_3 : decode prog_13_method_35_code 3 = .ok (.istore_n 2, 1) := by decide +kernel
theorem d_Mo_certainMany_4 : decode prog_13_method_35_code 4 = .ok (.iload_n 2, 1) := by decide +kernel
theorem d_Mo_certainMany_5 : decode prog_13_method_35_code 5 = .ok (.aload_n 0, 1) := by decide +kernel
theorem d_Mo_certainMany_6 : decode prog_13_method_35_code 6 = .ok (.getfield 86, 3) := by decide +kernel
theorem d_Mo_certainMany_9 : decode prog_13_method_35_code 9 = .ok (.if_icmp .ge 25, 3) := by decide +kernel
theorem d_Mo_certainMany_12 : decode prog_13_method_35_code 12 = .ok (.iload_n 1, 1) := by decide +kernel
theorem d_Mo_certainMany_13 : decode prog_13_method_35_code 13 = .ok (.aload_n 0, 1) := by decide +kernel
theorem d_Mo_certainMany_14 : decode prog_13_method_35_code 14 = .ok (.iload_n 2, 1) := by decide +kernel
theorem d_Mo_certainMany_15 : decode prog_13_method_35_code 15 = .ok (.invokevirtual 201, 3) := by decide +kernel
theorem d_Mo_certainMany_18 : decode prog_13_method_35_code 18 = .ok (.ifCond .eq 7, 3) := by decide +kernel
theorem d_Mo_certainMany_21 : decode prog_13_method_35_code 21 = .ok (.iconst 1, 1) := by decide +kernel
theorem d_Mo_certainMany_22 : decode prog_13_method_35_code 22 = .ok (.goto 4, 3) := by decide +kernel
theorem d_Mo_certainMany_25 : decode prog_13_method_35_code 25 = .ok (.iconst 0, 1) := by decide +kernel
theorem d_Mo_certainMany_26 : decode prog_13_method_35_code 26 = .ok (.iadd, 1) := by decide +kernel
theorem d_Mo_certainMany_27 : decode prog_13_method_35_code 27 = .ok (.istore_n 1, 1) := by decide +kernel
theorem d_Mo_certainMany_28 : decode prog_13_method_35_code 28 = .ok (.iinc 2 1, 3) := by decide +kernel
theorem d_Mo_certainMany_31 : decode prog_13_method_35_code 31 = .ok (.goto (-27), 3) := by decide +kernel
theorem d_Mo_certainMany_34 : decode prog_13_method_35_code 34 = .ok (.iload_n 1, 1) := by decide +kernel
theorem d_Mo_certainMany_35 : decode prog_13_method_35_code 35 = .ok (.ireturn, 1) := by decide +kernel
theorem d_Mo_ownerOf_0 : decode prog_13_method_36_code 0 = .ok (.iconst 0, 1) := by decide +kernel
theorem d_Mo_ownerOf_1 : decode prog_13_method_36_code 1 = .ok (.istore_n 2, 1) := by decide +kernel
theorem d_Mo_ownerOf_2 : decode prog_13_method_36_code 2 = .ok (.aload_n 0, 1) := by decide +kernel
theorem d_Mo_ownerOf_3 : decode prog_13_method_36_code 3 = .ok (.getfield 48, 3) := by decide +kernel
theorem d_Mo_ownerOf_6 : decode prog_13_method_36_code 6 = .ok (.iload_n 2, 1) := by decide +kernel
theorem d_Mo_ownerOf_7 : decode prog_13_method_36_code 7 = .ok (.iaload, 1) := by decide +kernel
theorem d_Mo_ownerOf_8 : decode prog_13_method_36_code 8 = .ok (.ifCond .eq 19, 3) := by decide +kernel
theorem d_Mo_ownerOf_11 : decode prog_13_method_36_code 11 = .ok (.iload_n 1, 1) := by decide +kernel
theorem d_Mo_ownerOf_12 : decode prog_13_method_36_code 12 = .ok (.aload_n 0, 1) := by decide +kernel
theorem d_Mo_ownerOf_13 : decode prog_13_method_36_code 13 = .ok (.getfield 48, 3) := by decide +kernel
theorem d_Mo_ownerOf_16 : decode prog_13_method_36_code 16 = .ok (.iload_n 2, 1) := by decide +kernel
theorem d_Mo_ownerOf_17 : decode prog_13_method_36_code 17 = .ok (.iaload, 1) := by decide +kernel
theorem d_Mo_ownerOf_18 : decode prog_13_method_36_code 18 = .ok (.aload_n 0, 1) := by decide +kernel
theorem d_Mo_ownerOf_19 : decode prog_13_method_36_code 19 = .ok (.iload_n 2, 1) := by decide +kernel
theorem d_Mo_ownerOf_20 : decode prog_13_method_36_code 20 = .ok (.invokevirtual 89, 3) := by decide +kernel
theorem d_Mo_ownerOf_23 : decode prog_13_method_36_code 23 = .ok (.iadd, 1) := by decide +kernel
theorem d_Mo_ownerOf_24 : decode prog_13_method_36_code 24 = .ok (.if_icmp .lt 9, 3) := by decide +kernel
theorem d_Mo_ownerOf_27 : decode prog_13_method_36_code 27 = .ok (.iinc 2 1, 3) := by decide +kernel
theorem d_Mo_ownerOf_30 : decode prog_13_method_36_code 30 = .ok (.goto (-28), 3) := by decide +kernel
theorem d_Mo_ownerOf_33 : decode prog_13_method_36_code 33 = .ok (.iload_n 2, 1) := by decide +kernel
theorem d_Mo_ownerOf_34 : decode prog_13_method_36_code 34 = .ok (.ireturn, 1) := by decide +kernel
theorem d_Mo_laysHits_0 : decode prog_13_method_37_code 0 = .ok (.aload_n 0, 1) := by decide +kernel
theorem d_Mo_laysHits_1 : decode prog_13_method_37_code 1 = .ok (.aload_n 0, 1) := by decide +kernel
theorem d_Mo_laysHits_2 : decode prog_13_method_37_code 2 = .ok (.getfield 169, 3) := by decide +kernel
theorem d_Mo_laysHits_5 : decode prog_13_method_37_code 5 = .ok (.invokevirtual 204, 3) := by decide +kernel
theorem d_Mo_laysHits_8 : decode prog_13_method_37_code 8 = .ok (.aload_n 0, 1) := by decide +kernel
theorem d_Mo_laysHits_9 : decode prog_13_method_37_code 9 = .ok (.iconst 0, 1) := by decide +kernel
theorem d_Mo_laysHits_10 : decode prog_13_method_37_code 10 = .ok (.putfield 207, 3) := by decide +kernel
theorem d_Mo_laysHits_13 : decode prog_13_method_37_code 13 = .ok (.iconst 0, 1) := by decide +kernel
theorem d_Mo_laysHits_14 : decode prog_13_method_37_code 14 = .ok (.istore_n 1, 1) := by decide +kernel
theorem d_Mo_laysHits_15 : decode prog_13_method_37_code 15 = .ok (.iload_n 1, 1) := by decide +kernel
theorem d_Mo_laysHits_16 : decode prog_13_method_37_code 16 = .ok (.aload_n 0, 1) := by decide +kernel
theorem d_Mo_laysHits_17 : decode prog_13_method_37_code 17 = .ok (.getfield 86, 3) := by decide +kernel
theorem d_Mo_laysHits_20 : decode prog_13_method_37_code 20 = .ok (.if_icmp .ge 16, 3) := by decide +kernel
theorem d_Mo_laysHits_23 : decode prog_13_method_37_code 23 = .ok (.aload_n 0, 1) := by decide +kernel
theorem d_Mo_laysHits_24 : decode prog_13_method_37_code 24 = .ok (.getfield 60, 3) := by decide +kernel
theorem d_Mo_laysHits_27 : decode prog_13_method_37_code 27 = .ok (.iload_n 1, 1) := by decide +kernel
theorem d_Mo_laysHits_28 : decode prog_13_method_37_code 28 = .ok (.iconst 0, 1) := by decide +kernel
theorem d_Mo_laysHits_29 : decode prog_13_method_37_code 29 = .ok (.iastore, 1) := by decide +kernel
theorem d_Mo_laysHits_30 : decode prog_13_method_37_code 30 = .ok (.iinc 1 1, 3) := by decide +kernel
theorem d_Mo_laysHits_33 : decode prog_13_method_37_code 33 = .ok (.goto (-18), 3) := by decide +kernel
theorem d_Mo_laysHits_36 : decode prog_13_method_37_code 36 = .ok (.iconst 0, 1) := by decide +kernel
theorem d_Mo_laysHits_37 : decode prog_13_method_37_code 37 = .ok (.istore_n 1, 1) := by decide +kernel
theorem d_Mo_laysHits_38 : decode prog_13_method_37_code 38 = .ok (.iload_n 1, 1) := by decide +kernel
theorem d_Mo_laysHits_39 : decode prog_13_method_37_code 39 = .ok (.aload_n 0, 1) := by decide +kernel
theorem d_Mo_laysHits_40 : decode prog_13_method_37_code 40 = .ok (.getfield 172, 3) := by decide +kernel
theorem d_Mo_laysHits_43 : decode prog_13_method_37_code 43 = .ok (.if_icmp .ge 90, 3) := by decide +kernel
theorem d_Mo_laysHits_46 : decode prog_13_method_37_code 46 = .ok (.aload_n 0, 1) := by decide +kernel
theorem d_Mo_laysHits_47 : decode prog_13_method_37_code 47 = .ok (.getfield 32, 3) := by decide +kernel
theorem d_Mo_laysHits_50 : decode prog_13_method_37_code 50 = .ok (.iload_n 1, 1) := by decide +kernel
theorem d_Mo_laysHits_51 : decode prog_13_method_37_code 51 = .ok (.iaload, 1) := by decide +kernel
theorem d_Mo_laysHits_52 : decode prog_13_method_37_code 52 = .ok (.istore_n 2, 1) := by decide +kernel
theorem d_Mo_laysHits_53 : decode prog_13_method_37_code 53 = .ok (.iload_n 2, 1) := by decide +kernel
theorem d_Mo_laysHits_54 : decode prog_13_method_37_code 54 = .ok (.aload_n 0, 1) := by decide +kernel
theorem d_Mo_laysHits_55 : decode prog_13_method_37_code 55 = .ok (.getfield 198, 3) := by decide +kernel
theorem d_Mo_laysHits_58 : decode prog_13_method_37_code 58 = .ok (.if_icmp .gt 69, 3) := by decide +kernel
theorem d_Mo_laysHits_61 : decode prog_13_method_37_code 61 = .ok (.aload_n 0, 1) := by decide +kernel
theorem d_Mo_laysHits_62 : decode prog_13_method_37_code 62 = .ok (.iload_n 2, 1) := by decide +kernel
theorem d_Mo_laysHits_63 : decode prog_13_method_37_code 63 = .ok (.invokevirtual 210, 3) := by decide +kernel
theorem d_Mo_laysHits_66 : decode prog_13_method_37_code 66 = .ok (.istore_n 3, 1) := by decide +kernel
theorem d_Mo_laysHits_67 : decode prog_13_method_37_code 67 = .ok (.aload_n 0, 1) := by decide +kernel
theorem d_Mo_laysHits_68 : decode prog_13_method_37_code 68 = .ok (.getfield 51, 3) := by decide +kernel
theorem d_Mo_laysHits_71 : decode prog_13_method_37_code 71 = .ok (.aload_n 0, 1) := by decide +kernel
theorem d_Mo_laysHits_72 : decode prog_13_method_37_code 72 = .ok (.getfield 207, 3) := by decide +kernel
theorem d_Mo_laysHits_75 : decode prog_13_method_37_code 75 = .ok (.iload_n 3, 1) := by decide +kernel
theorem d_Mo_laysHits_76 : decode prog_13_method_37_code 76 = .ok (.iastore, 1) := by decide +kernel
theorem d_Mo_laysHits_77 : decode prog_13_method_37_code 77 = .ok (.aload_n 0, 1) := by decide +kernel
theorem d_Mo_laysHits_78 : decode prog_13_method_37_code 78 = .ok (.getfield 54, 3) := by decide +kernel
theorem d_Mo_laysHits_81 : decode prog_13_method_37_code 81 = .ok (.aload_n 0, 1) := by decide +kernel
theorem d_Mo_laysHits_82 : decode prog_13_method_37_code 82 = .ok (.getfield 207, 3) := by decide +kernel
theorem d_Mo_laysHits_85 : decode prog_13_method_37_code 85 = .ok (.iload_n 2, 1) := by decide +kernel
theorem d_Mo_laysHits_86 : decode prog_13_method_37_code 86 = .ok (.iastore, 1) := by decide +kernel
theorem d_Mo_laysHits_87 : decode prog_13_method_37_code 87 = .ok (.aload_n 0, 1) := by decide +kernel
theorem d_Mo_laysHits_88 : decode prog_13_method_37_code 88 = .ok (.getfield 57, 3) := by decide +kernel
theorem d_Mo_laysHits_91 : decode prog_13_method_37_code 91 = .ok (.aload_n 0, 1) := by decide +kernel
theorem d_Mo_laysHits_92 : decode prog_13_method_37_code 92 = .ok (.getfield 207, 3) := by decide +kernel
theorem d_Mo_laysHits_95 : decode prog_13_method_37_code 95 = .ok (.iload_n 1, 1) := by decide +kernel
theorem d_Mo_laysHits_96 : decode prog_13_method_37_code 96 = .ok (.iastore, 1) := by decide +kernel
theorem d_Mo_laysHits_97 : decode prog_13_method_37_code 97 = .ok (.aload_n 0, 1) := by decide +kernel
theorem d_Mo_laysHits_98 : decode prog_13_method_37_code 98 = .ok (.dup, 1) := by decide +kernel
theorem d_Mo_laysHits_99 : decode prog_13_method_37_code 99 = .ok (.getfield 207, 3) := by decide +kernel
theorem d_Mo_laysHits_102 : decode prog_13_method_37_code 102 = .ok (.iconst 1, 1) := by decide +kernel
theorem d_Mo_laysHits_103 : decode prog_13_method_37_code 103 = .ok (.iadd, 1) := by decide +kernel
theorem d_Mo_laysHits_104 : decode prog_13_method_37_code 104 = .ok (.putfield 207, 3) := by decide +kernel
theorem d_Mo_laysHits_107 : decode prog_13_method_37_code 107 = .ok (.aload_n 0, 1) := by decide +kernel
theorem d_Mo_laysHits_108 : decode prog_13_method_37_code 108 = .ok (.getfield 60, 3) := by decide +kernel
theorem d_Mo_laysHits_111 : decode prog_13_method_37_code 111 = .ok (.iload_n 3, 1) := by decide +kernel
theorem d_Mo_laysHits_112 : decode prog_13_method_37_code 112 = .ok (.dup2, 1) := by decide +kernel
theorem d_Mo_laysHits_113 : decode prog_13_method_37_code 113 = .ok (.iaload, 1) := by decide +kernel
theorem d_Mo_laysHits_114 : decode prog_13_method_37_code 114 = .ok (.iconst 1, 1) := by decide +kernel
theorem d_Mo_laysHits_115 : decode prog_13_method_37_code 115 = .ok (.iadd, 1) := by decide +kernel
theorem d_Mo_laysHits_116 : decode prog_13_method_37_code 116 = .ok (.iastore, 1) := by decide +kernel
theorem d_Mo_laysHits_117 : decode prog_13_method_37_code 117 = .ok (.iload_n 2, 1) := by decide +kernel
theorem d_Mo_laysHits_118 : decode prog_13_method_37_code 118 = .ok (.aload_n 0, 1) := by decide +kernel
theorem d_Mo_laysHits_119 : decode prog_13_method_37_code 119 = .ok (.getfield 169, 3) := by decide +kernel
theorem d_Mo_laysHits_122 : decode prog_13_method_37_code 122 = .ok (.iadd, 1) := by decide +kernel
theorem d_Mo_laysHits_123 : decode prog_13_method_37_code 123 = .ok (.istore_n 2, 1) := by decide +kernel
theorem d_Mo_laysHits_124 : decode prog_13_method_37_code 124 = .ok (.goto (-71), 3) := by decide +kernel
theorem d_Mo_laysHits_127 : decode prog_13_method_37_code 127 = .ok (.iinc 1 1, 3) := by decide +kernel
theorem d_Mo_laysHits_130 : decode prog_13_method_37_code 130 = .ok (.goto (-92), 3) := by decide +kernel
theorem d_Mo_laysHits_133 : decode prog_13_method_37_code 133 = .ok (.return_, 1) := by decide +kernel
theorem d_Mo_isDrawn_0 : decode prog_13_method_38_code 0 = .ok (.aload_n 0, 1) := by decide +kernel
theorem d_Mo_isDrawn_1 : decode prog_13_method_38_code 1 = .ok (.getfield 60, 3) := by decide +kernel
theorem d_Mo_isDrawn_4 : decode prog_13_method_38_code 4 = .ok (.iload_n 1, 1) := by decide +kernel
theorem d_Mo_isDrawn_5 : decode prog_13_method_38_code 5 = .ok (.iaload, 1) := by decide +kernel
theorem d_Mo_isDrawn_6 : decode prog_13_method_38_code 6 = .ok (.ifCond .gt 11, 3) := by decide +kernel
theorem d_Mo_isDrawn_9 : decode prog_13_method_38_code 9 = .ok (.aload_n 0, 1) := by decide +kernel
theorem d_Mo_isDrawn_10 : decode prog_13_method_38_code 10 = .ok (.iload_n 1, 1) := by decide +kernel
theorem d_Mo_isDrawn_11 : decode prog_13_method_38_code 11 = .ok (.invokevirtual 201, 3) := by decide +kernel
theorem d_Mo_isDrawn_14 : decode prog_13_method_38_code 14 = .ok (.ifCond .eq 7, 3) := by decide +kernel
theorem d_Mo_isDrawn_17 : decode prog_13_method_38_code 17 = .ok (.iconst 1, 1) := by decide +kernel
theorem d_Mo_isDrawn_18 : decode prog_13_method_38_code 18 = .ok (.goto 4, 3) := by decide +kernel
theorem d_Mo_isDrawn_21 : decode prog_13_method_38_code 21 = .ok (.iconst 0, 1) := by decide +kernel
theorem d_Mo_isDrawn_22 : decode prog_13_method_38_code 22 = .ok (.ireturn, 1) := by decide +kernel
theorem d_Mo_interval_0 : decode prog_13_method_39_code 0 = .ok (.aload_n 0, 1) := by decide +kernel
theorem d_Mo_interval_1 : decode prog_13_method_39_code 1 = .ok (.iconst 0, 1) := by decide +kernel
theorem d_Mo_interval_2 : decode prog_13_method_39_code 2 = .ok (.putfield 1, 3) := by decide +kernel
theorem d_Mo_interval_5 : decode prog_13_method_39_code 5 = .ok (.iload_n 1, 1) := by decide +kernel
theorem d_Mo_interval_6 : decode prog_13_method_39_code 6 = .ok (.i2l, 1) := by decide +kernel
theorem d_Mo_interval_7 : decode prog_13_method_39_code 7 = .ok (.lconst 1, 1) := by decide +kernel
theorem d_Mo_interval_8 : decode prog_13_method_39_code 8 = .ok (.ldc2_w 183, 3) := by decide +kernel
theorem d_Mo_interval_11 : decode prog_13_method_39_code 11 = .ok (.invokestatic 92, 3) := by decide +kernel
theorem d_Mo_interval_14 : decode prog_13_method_39_code 14 = .ok (.ifCond .ne 6, 3) := by decide +kernel
theorem d_Mo_interval_17 : decode prog_13_method_39_code 17 = .ok (.bipush (-3), 2) := by decide +kernel
theorem d_Mo_interval_19 : decode prog_13_method_39_code 19 = .ok (.ireturn, 1) := by decide +kernel
theorem d_Mo_interval_20 : decode prog_13_method_39_code 20 = .ok (.aload_n 0, 1) := by decide +kernel
theorem d_Mo_interval_21 : decode prog_13_method_39_code 21 = .ok (.getfield 172, 3) := by decide +kernel
theorem d_Mo_interval_24 : decode prog_13_method_39_code 24 = .ok (.ifCond .le 6, 3) := by decide +kernel
theorem d_Mo_interval_27 : decode prog_13_method_39_code 27 = .ok (.bipush (-5), 2) := by decide +kernel
theorem d_Mo_interval_29 : decode prog_13_method_39_code 29 = .ok (.ireturn, 1) := by decide +kernel
theorem d_Mo_interval_30 : decode prog_13_method_39_code 30 = .ok (.aload_n 0, 1) := by decide +kernel
theorem d_Mo_interval_31 : decode prog_13_method_39_code 31 = .ok (.iload_n 1, 1) := by decide +kernel
theorem d_Mo_interval_32 : decode prog_13_method_39_code 32 = .ok (.putfield 169, 3) := by decide +kernel
theorem d_Mo_interval_35 : decode prog_13_method_39_code 35 = .ok (.aload_n 0, 1) := by decide +kernel
theorem d_Mo_interval_36 : decode prog_13_method_39_code 36 = .ok (.invokevirtual 213, 3) := by decide +kernel
theorem d_Mo_interval_39 : decode prog_13_method_39_code 39 = .ok (.ireturn, 1) := by decide +kernel
theorem d_Mo_likely_0 : decode prog_13_method_40_code 0 = .ok (.iload_n 2, 1) := by decide +kernel
theorem d_Mo_likely_1 : decode prog_13_method_40_code 1 = .ok (.i2d, 1) := by decide +kernel
theorem d_Mo_likely_2 : decode prog_13_method_40_code 2 = .ok (.ldc2_w 216, 3) := by decide +kernel
theorem d_Mo_likely_5 : decode prog_13_method_40_code 5 = .ok (.ddiv, 1) := by decide +kernel
theorem d_Mo_likely_6 : decode prog_13_method_40_code 6 = .ok (.dstore_n 3, 1) := by decide +kernel
theorem d_Mo_likely_7 : decode prog_13_method_40_code 7 = .ok (.dconst 1, 1) := by decide +kernel
theorem d_Mo_likely_8 : decode prog_13_method_40_code 8 = .ok (.dload_n 3, 1) := by decide +kernel
theorem d_Mo_likely_9 : decode prog_13_method_40_code 9 = .ok (.dsub, 1) := by decide +kernel
theorem d_Mo_likely_10 : decode prog_13_method_40_code 10 = .ok (.dstore 5, 2) := by decide +kernel
theorem d_Mo_likely_12 : decode prog_13_method_40_code 12 = .ok (.dload 5, 2) := by decide +kernel
theorem d_Mo_likely_14 : decode prog_13_method_40_code 14 = .ok (.dconst 0, 1) := by decide +kernel
theorem d_Mo_likely_15 : decode prog_13_method_40_code 15 = .ok (.dcmp .l, 1) := by decide +kernel
theorem d_Mo_likely_16 : decode prog_13_method_40_code 16 = .ok (.ifCond .ne 5, 3) := by decide +kernel
theorem d_Mo_likely_19 : decode prog_13_method_40_code 19 = .ok (.dconst 0, 1) := by decide +kernel
theorem d_Mo_likely_20 : decode prog_13_method_40_code 20 = .ok (.dreturn, 1) := by decide +kernel
theorem d_Mo_likely_21 : decode prog_13_method_40_code 21 = .ok (.dconst 1, 1) := by decide +kernel
theorem d_Mo_likely_22 : decode prog_13_method_40_code 22 = .ok (.dstore 7, 2) := by decide +kernel
theorem d_Mo_likely_24 : decode prog_13_method_40_code 24 = .ok (.iconst 0, 1) := by decide +kernel
theorem d_Mo_likely_25 : decode prog_13_method_40_code 25 = .ok (.istore 9, 2) := by decide +kernel
theorem d_Mo_likely_27 : decode prog_13_method_40_code 27 = .ok (.iload 9, 2) := by decide +kernel
theorem d_Mo_likely_29 : decode prog_13_method_40_code 29 = .ok (.iload_n 0, 1) := by decide +kernel
theorem d_Mo_likely_30 : decode prog_13_method_40_code 30 = .ok (.if_icmp .ge 16, 3) := by decide +kernel
theorem d_Mo_likely_33 : decode prog_13_method_40_code 33 = .ok (.dload 7, 2) := by decide +kernel
theorem d_Mo_likely_35 : decode prog_13_method_40_code 35 = .ok (.dload 5, 2) := by decide +kernel
theorem d_Mo_likely_37 : decode prog_13_method_40_code 37 = .ok (.dmul, 1) := by decide +kernel
theorem d_Mo_likely_38 : decode prog_13_method_40_code 38 = .ok (.dstore 7, 2) := by decide +kernel
theorem d_Mo_likely_40 : decode prog_13_method_40_code 40 = .ok (.iinc 9 1, 3) := by decide +kernel
theorem d_Mo_likely_43 : decode prog_13_method_40_code 43 = .ok (.goto (-16), 3) := by decide +kernel
theorem d_Mo_likely_46 : decode prog_13_method_40_code 46 = .ok (.dload 7, 2) := by decide +kernel
theorem d_Mo_likely_48 : decode prog_13_method_40_code 48 = .ok (.dstore 9, 2) := by decide +kernel
theorem d_Mo_likely_50 : decode prog_13_method_40_code 50 = .ok (.iconst 1, 1) := by decide +kernel
theorem d_Mo_likely_51 : decode prog_13_method_40_code 51 = .ok (.istore 11, 2) := by decide +kernel
theorem d_Mo_likely_53 : decode prog_13_method_40_code 53 = .ok (.iload 11, 2) := by decide +kernel
theorem d_Mo_likely_55 : decode prog_13_method_40_code 55 = .ok (.iload_n 1, 1) := by decide +kernel
theorem d_Mo_likely_56 : decode prog_13_method_40_code 56 = .ok (.if_icmp .gt 49, 3) := by decide +kernel
theorem d_Mo_likely_59 : decode prog_13_method_40_code 59 = .ok (.dload 7, 2) := by decide +kernel
theorem d_Mo_likely_61 : decode prog_13_method_40_code 61 = .ok (.iload_n 0, 1) := by decide +kernel
theorem d_Mo_likely_62 : decode prog_13_method_40_code 62 = .ok (.iload 11, 2) := by decide +kernel
theorem d_Mo_likely_64 : decode prog_13_method_40_code 64 = .ok (.isub, 1) := by decide +kernel
theorem d_Mo_likely_65 : decode prog_13_method_40_code 65 = .ok (.iconst 1, 1) := by decide +kernel
theorem d_Mo_likely_66 : decode prog_13_method_40_code 66 = .ok (.iadd, 1) := by decide +kernel
theorem d_Mo_likely_67 : decode prog_13_method_40_code 67 = .ok (.i2d, 1) := by decide +kernel
theorem d_Mo_likely_68 : decode prog_13_method_40_code 68 = .ok (.dmul, 1) := by decide +kernel
theorem d_Mo_likely_69 : decode prog_13_method_40_code 69 = .ok (.dstore 7, 2) := by decide +kernel
theorem d_Mo_likely_71 : decode prog_13_method_40_code 71 = .ok (.dload 7, 2) := by decide +kernel
theorem d_Mo_likely_73 : decode prog_13_method_40_code 73 = .ok (.iload 11, 2) := by decide +kernel
theorem d_Mo_likely_75 : decode prog_13_method_40_code 75 = .ok (.i2d, 1) := by decide +kernel
theorem d_Mo_likely_76 : decode prog_13_method_40_code 76 = .ok (.ddiv, 1) := by decide +kernel
theorem d_Mo_likely_77 : decode prog_13_method_40_code 77 = .ok (.dstore 7, 2) := by decide +kernel
theorem d_Mo_likely_79 : decode prog_13_method_40_code 79 = .ok (.dload 7, 2) := by decide +kernel
theorem d_Mo_likely_81 : decode prog_13_method_40_code 81 = .ok (.dload_n 3, 1) := by decide +kernel
theorem d_Mo_likely_82 : decode prog_13_method_40_code 82 = .ok (.dmul, 1) := by decide +kernel
theorem d_Mo_likely_83 : decode prog_13_method_40_code 83 = .ok (.dstore 7, 2) := by decide +kernel
theorem d_Mo_likely_85 : decode prog_13_method_40_code 85 = .ok (.dload 7, 2) := by decide +kernel
theorem d_Mo_likely_87 : decode prog_13_method_40_code 87 = .ok (.dload 5, 2) := by decide +kernel
theorem d_Mo_likely_89 : decode prog_13_method_40_code 89 = .ok (.ddiv, 1) := by decide +kernel
theorem d_Mo_likely_90 : decode prog_13_method_40_code 90 = .ok (.dstore 7, 2) := by decide +kernel
theorem d_Mo_likely_92 : decode prog_13_method_40_code 92 = .ok (.dload 9, 2) := by decide +kernel
theorem d_Mo_likely_94 : decode prog_13_method_40_code 94 = .ok (.dload 7, 2) := by decide +kernel
theorem d_Mo_likely_96 : decode prog_13_method_40_code 96 = .ok (.dadd, 1) := by decide +kernel
theorem d_Mo_likely_97 : decode prog_13_method_40_code 97 = .ok (.dstore 9, 2) := by decide +kernel
theorem d_Mo_likely_99 : decode prog_13_method_40_code 99 = .ok (.iinc 11 1, 3) := by decide +kernel
theorem d_Mo_likely_102 : decode prog_13_method_40_code 102 = .ok (.goto (-49), 3) := by decide +kernel
theorem d_Mo_likely_105 : decode prog_13_method_40_code 105 = .ok (.dload 9, 2) := by decide +kernel
theorem d_Mo_likely_107 : decode prog_13_method_40_code 107 = .ok (.dreturn, 1) := by decide +kernel
theorem d_Mo_halved_0 : decode prog_13_method_41_code 0 = .ok (.aload_n 0, 1) := by decide +kernel
theorem d_Mo_halved_1 : decode prog_13_method_41_code 1 = .ok (.getfield 14, 3) := by decide +kernel
theorem d_Mo_halved_4 : decode prog_13_method_41_code 4 = .ok (.iconst 1, 1) := by decide +kernel
theorem d_Mo_halved_5 : decode prog_13_method_41_code 5 = .ok (.iaload, 1) := by decide +kernel
theorem d_Mo_halved_6 : decode prog_13_method_41_code 6 = .ok (.i2d, 1) := by decide +kernel
theorem d_Mo_halved_7 : decode prog_13_method_41_code 7 = .ok (.ldc2_w 218, 3) := by decide +kernel
theorem d_Mo_halved_10 : decode prog_13_method_41_code 10 = .ok (.ddiv, 1) := by decide +kernel
theorem d_Mo_halved_11 : decode prog_13_method_41_code 11 = .ok (.dstore_n 3, 1) := by decide +kernel
theorem d_Mo_halved_12 : decode prog_13_method_41_code 12 = .ok (.iconst 0, 1) := by decide +kernel
theorem d_Mo_halved_13 : decode prog_13_method_41_code 13 = .ok (.istore 5, 2) := by decide +kernel
theorem d_Mo_halved_15 : decode prog_13_method_41_code 15 = .ok (.ldc 220, 2) := by decide +kernel
theorem d_Mo_halved_17 : decode prog_13_method_41_code 17 = .ok (.istore 6, 2) := by decide +kernel
theorem d_Mo_halved_19 : decode prog_13_method_41_code 19 = .ok (.iload 6, 2) := by decide +kernel
theorem d_Mo_halved_21 : decode prog_13_method_41_code 21 = .ok (.iload 5, 2) := by decide +kernel
theorem d_Mo_halved_23 : decode prog_13_method_41_code 23 = .ok (.isub, 1) := by decide +kernel
theorem d_Mo_halved_24 : decode prog_13_method_41_code 24 = .ok (.iconst 1, 1) := by decide +kernel
theorem d_Mo_halved_25 : decode prog_13_method_41_code 25 = .ok (.if_icmp .le 38, 3) := by decide +kernel
theorem d_Mo_halved_28 : decode prog_13_method_41_code 28 = .ok (.iload 5, 2) := by decide +kernel
theorem d_Mo_halved_30 : decode prog_13_method_41_code 30 = .ok (.iload 6, 2) := by decide +kernel
theorem d_Mo_halved_32 : decode prog_13_method_41_code 32 = .ok (.iadd, 1) := by decide +kernel
theorem d_Mo_halved_33 : decode prog_13_method_41_code 33 = .ok (.iconst 2, 1) := by decide +kernel
theorem d_Mo_halved_34 : decode prog_13_method_41_code 34 = .ok (.idiv, 1) := by decide +kernel
theorem d_Mo_halved_35 : decode prog_13_method_41_code 35 = .ok (.istore 7, 2) := by decide +kernel
theorem d_Mo_halved_37 : decode prog_13_method_41_code 37 = .ok (.iload_n 1, 1) := by decide +kernel
theorem d_Mo_halved_38 : decode prog_13_method_41_code 38 = .ok (.iload_n 2, 1) := by decide +kernel
theorem d_Mo_halved_39 : decode prog_13_method_41_code 39 = .ok (.iload 7, 2) := by decide +kernel
theorem d_Mo_halved_41 : decode prog_13_method_41_code 41 = .ok (.invokestatic 221, 3) := by decide +kernel
theorem d_Mo_halved_44 : decode prog_13_method_41_code 44 = .ok (.dload_n 3, 1) := by decide +kernel
theorem d_Mo_halved_45 : decode prog_13_method_41_code 45 = .ok (.dcmp .g, 1) := by decide +kernel
theorem d_Mo_halved_46 : decode prog_13_method_41_code 46 = .ok (.ifCond .gt 10, 3) := by decide +kernel
theorem d_Mo_halved_49 : decode prog_13_method_41_code 49 = .ok (.iload 7, 2) := by decide +kernel
theorem d_Mo_halved_51 : decode prog_13_method_41_code 51 = .ok (.istore 6, 2) := by decide +kernel
theorem d_Mo_halved_53 : decode prog_13_method_41_code 53 = .ok (.goto 7, 3) := by decide +kernel
theorem d_Mo_halved_56 : decode prog_13_method_41_code 56 = .ok (.iload 7, 2) := by decide +kernel
theorem d_Mo_halved_58 : decode prog_13_method_41_code 58 = .ok (.istore 5, 2) := by decide +kernel
theorem d_Mo_halved_60 : decode prog_13_method_41_code 60 = .ok (.goto (-41), 3) := by decide +kernel
theorem d_Mo_halved_63 : decode prog_13_method_41_code 63 = .ok (.iload 6, 2) := by decide +kernel
theorem d_Mo_halved_65 : decode prog_13_method_41_code 65 = .ok (.ireturn, 1) := by decide +kernel
theorem d_Mo_upperOf_0 : decode prog_13_method_42_code 0 = .ok (.iload_n 2, 1) := by decide +kernel
theorem d_Mo_upperOf_1 : decode prog_13_method_42_code 1 = .ok (.iload_n 1, 1) := by decide +kernel
theorem d_Mo_upperOf_2 : decode prog_13_method_42_code 2 = .ok (.if_icmp .lt 6, 3) := by decide +kernel
theorem d_Mo_upperOf_5 : decode prog_13_method_42_code 5 = .ok (.ldc 220, 2) := by decide +kernel
theorem d_Mo_upperOf_7 : decode prog_13_method_42_code 7 = .ok (.ireturn, 1) := by decide +kernel
theorem d_Mo_upperOf_8 : decode prog_13_method_42_code 8 = .ok (.iload_n 1, 1) := by decide +kernel
theorem d_Mo_upperOf_9 : decode prog_13_method_42_code 9 = .ok (.aload_n 0, 1) := by decide +kernel
theorem d_Mo_upperOf_10 : decode prog_13_method_42_code 10 = .ok (.getfield 66, 3) := by decide +kernel
theorem d_Mo_upperOf_13 : decode prog_13_method_42_code 13 = .ok (.if_icmp .ne 16, 3) := by decide +kernel
theorem d_Mo_upperOf_16 : decode prog_13_method_42_code 16 = .ok (.aload_n 0, 1) := by decide +kernel
theorem d_Mo_upperOf_17 : decode prog_13_method_42_code 17 = .ok (.getfield 14, 3) := by decide +kernel
theorem d_Mo_upperOf_20 : decode prog_13_method_42_code 20 = .ok (.iconst 1, 1) := by decide +kernel
theorem d_Mo_upperOf_21 : decode prog_13_method_42_code 21 = .ok (.iaload, 1) := by decide +kernel
theorem d_Mo_upperOf_22 : decode prog_13_method_42_code 22 = .ok (.aload_n 0, 1) := by decide +kernel
theorem d_Mo_upperOf_23 : decode prog_13_method_42_code 23 = .ok (.getfield 225, 3) := by decide +kernel
theorem d_Mo_upperOf_26 : decode prog_13_method_42_code 26 = .ok (.if_icmp .eq 40, 3) := by decide +kernel
theorem d_Mo_upperOf_29 : decode prog_13_method_42_code 29 = .ok (.iconst 0, 1) := by decide +kernel
theorem d_Mo_upperOf_30 : decode prog_13_method_42_code 30 = .ok (.istore_n 3, 1) := by decide +kernel
theorem d_Mo_upperOf_31 : decode prog_13_method_42_code 31 = .ok (.iload_n 3, 1) := by decide +kernel
theorem d_Mo_upperOf_32 : decode prog_13_method_42_code 32 = .ok (.sipush 400, 3) := by decide +kernel
theorem d_Mo_upperOf_35 : decode prog_13_method_42_code 35 = .ok (.if_icmp .gt 16, 3) := by decide +kernel
theorem d_Mo_upperOf_38 : decode prog_13_method_42_code 38 = .ok (.aload_n 0, 1) := by decide +kernel
theorem d_Mo_upperOf_39 : decode prog_13_method_42_code 39 = .ok (.getfield 63, 3) := by decide +kernel
theorem d_Mo_upperOf_42 : decode prog_13_method_42_code 42 = .ok (.iload_n 3, 1) := by decide +kernel
theorem d_Mo_upperOf_43 : decode prog_13_method_42_code 43 = .ok (.iconst 0, 1) := by decide +kernel
theorem d_Mo_upperOf_44 : decode prog_13_method_42_code 44 = .ok (.iastore, 1) := by decide +kernel
theorem d_Mo_upperOf_45 : decode prog_13_method_42_code 45 = .ok (.iinc 3 1, 3) := by decide +kernel
theorem d_Mo_upperOf_48 : decode prog_13_method_42_code 48 = .ok (.goto (-17), 3) := by decide +kernel
theorem d_Mo_upperOf_51 : decode prog_13_method_42_code 51 = .ok (.aload_n 0, 1) := by decide +kernel
theorem d_Mo_upperOf_52 : decode prog_13_method_42_code 52 = .ok (.iload_n 1, 1) := by decide +kernel
theorem d_Mo_upperOf_53 : decode prog_13_method_42_code 53 = .ok (.putfield 66, 3) := by decide +kernel
theorem d_Mo_upperOf_56 : decode prog_13_method_42_code 56 = .ok (.aload_n 0, 1) := by decide +kernel
theorem d_Mo_upperOf_57 : decode prog_13_method_42_code 57 = .ok (.aload_n 0, 1) := by decide +kernel
theorem d_Mo_upperOf_58 : decode prog_13_method_42_code 58 = .ok (.getfield 14, 3) := by decide +kernel
theorem d_Mo_upperOf_61 : decode prog_13_method_42_code 61 = .ok (.iconst 1, 1) := by decide +kernel
theorem d_Mo_upperOf_62 : decode prog_13_method_42_code 62 = .ok (.iaload, 1) := by decide +kernel
theorem d_Mo_upperOf_63 : decode prog_13_method_42_code 63 = .ok (.putfield 225, 3) := by decide +kernel
theorem d_Mo_upperOf_66 : decode prog_13_method_42_code 66 = .ok (.aload_n 0, 1) := by decide +kernel
theorem d_Mo_upperOf_67 : decode prog_13_method_42_code 67 = .ok (.getfield 63, 3) := by decide +kernel
theorem d_Mo_upperOf_70 : decode prog_13_method_42_code 70 = .ok (.iload_n 2, 1) := by decide +kernel
theorem d_Mo_upperOf_71 : decode prog_13_method_42_code 71 = .ok (.iaload, 1) := by decide +kernel
theorem d_Mo_upperOf_72 : decode prog_13_method_42_code 72 = .ok (.ifCond .ne 15, 3) := by decide +kernel
theorem d_Mo_upperOf_75 : decode prog_13_method_42_code 75 = .ok (.aload_n 0, 1) := by decide +kernel
theorem d_Mo_upperOf_76 : decode prog_13_method_42_code 76 = .ok (.getfield 63, 3) := by decide +kernel
theorem d_Mo_upperOf_79 : decode prog_13_method_42_code 79 = .ok (.iload_n 2, 1) := by decide +kernel
theorem d_Mo_upperOf_80 : decode prog_13_method_42_code 80 = .ok (.aload_n 0, 1) := by decide +kernel
theorem d_Mo_upperOf_81 : decode prog_13_method_42_code 81 = .ok (.iload_n 1, 1) := by decide +kernel
theorem d_Mo_upperOf_82 : decode prog_13_method_42_code 82 = .ok (.iload_n 2, 1) := by decide +kernel
theorem d_Mo_upperOf_83 : decode prog_13_method_42_code 83 = .ok (.invokevirtual 228, 3) := by decide +kernel
theorem d_Mo_upperOf_86 : decode prog_13_method_42_code 86 = .ok (.iastore, 1) := by decide +kernel
theorem d_Mo_upperOf_87 : decode prog_13_method_42_code 87 = .ok (.aload_n 0, 1) := by decide +kernel
theorem d_Mo_upperOf_88 : decode prog_13_method_42_code 88 = .ok (.getfield 63, 3) := by decide +kernel
theorem d_Mo_upperOf_91 : decode prog_13_method_42_code 91 = .ok (.iload_n 2, 1) := by decide +kernel
theorem d_Mo_upperOf_92 : decode prog_13_method_42_code 92 = .ok (.iaload, 1) := by decide +kernel
theorem d_Mo_upperOf_93 : decode prog_13_method_42_code 93 = .ok (.ireturn, 1) := by decide +kernel
theorem d_Mo_sizeBy_0 : decode prog_13_method_43_code 0 = .ok (.aload_n 0, 1) := by decide +kernel
theorem d_Mo_sizeBy_1 : decode prog_13_method_43_code 1 = .ok (.invokevirtual 232, 3) := by decide +kernel
theorem d_Mo_sizeBy_4 : decode prog_13_method_43_code 4 = .ok (.i2l, 1) := by decide +kernel
theorem d_Mo_sizeBy_5 : decode prog_13_method_43_code 5 = .ok (.lstore_n 3, 1) := by decide +kernel
theorem d_Mo_sizeBy_6 : decode prog_13_method_43_code 6 = .ok (.iconst 1, 1) := by decide +kernel
theorem d_Mo_sizeBy_7 : decode prog_13_method_43_code 7 = .ok (.istore 5, 2) := by decide +kernel
theorem d_Mo_sizeBy_9 : decode prog_13_method_43_code 9 = .ok (.iload 5, 2) := by decide +kernel
theorem d_Mo_sizeBy_11 : decode prog_13_method_43_code 11 = .ok (.sipush 400, 3) := by decide +kernel
theorem d_Mo_sizeBy_14 : decode prog_13_method_43_code 14 = .ok (.if_icmp .gt 32, 3) := by decide +kernel
theorem d_Mo_sizeBy_17 : decode prog_13_method_43_code 17 = .ok (.lload_n 3, 1) := by decide +kernel
theorem d_Mo_sizeBy_18 : decode prog_13_method_43_code 18 = .ok (.aload_n 0, 1) := by decide +kernel
theorem d_Mo_sizeBy_19 : decode prog_13_method_43_code 19 = .ok (.iload 5, 2) := by decide +kernel
theorem d_Mo_sizeBy_21 : decode prog_13_method_43_code 21 = .ok (.iload_n 2, 1) := by decide +kernel
theorem d_Mo_sizeBy_22 : decode prog_13_method_43_code 22 = .ok (.invokevirtual 235, 3) := by decide +kernel
theorem d_Mo_sizeBy_25 : decode prog_13_method_43_code 25 = .ok (.i2l, 1) := by decide +kernel
theorem d_Mo_sizeBy_26 : decode prog_13_method_43_code 26 = .ok (.lmul, 1) := by decide +kernel
theorem d_Mo_sizeBy_27 : decode prog_13_method_43_code 27 = .ok (.ldc2_w 238, 3) := by decide +kernel
theorem d_Mo_sizeBy_30 : decode prog_13_method_43_code 30 = .ok (.ldiv, 1) := by decide +kernel
theorem d_Mo_sizeBy_31 : decode prog_13_method_43_code 31 = .ok (.iload_n 1, 1) := by decide +kernel
theorem d_Mo_sizeBy_32 : decode prog_13_method_43_code 32 = .ok (.i2l, 1) := by decide +kernel
theorem d_Mo_sizeBy_33 : decode prog_13_method_43_code 33 = .ok (.lcmp, 1) := by decide +kernel
theorem d_Mo_sizeBy_34 : decode prog_13_method_43_code 34 = .ok (.ifCond .gt 6, 3) := by decide +kernel
theorem d_Mo_sizeBy_37 : decode prog_13_method_43_code 37 = .ok (.iload 5, 2) := by decide +kernel
theorem d_Mo_sizeBy_39 : decode prog_13_method_43_code 39 = .ok (.ireturn, 1) := by decide +kernel
theorem d_Mo_sizeBy_40 : decode prog_13_method_43_code 40 = .ok (.iinc 5 1, 3) := by decide +kernel
theorem d_Mo_sizeBy_43 : decode prog_13_method_43_code 43 = .ok (.goto (-34), 3) := by decide +kernel
theorem d_Mo_sizeBy_46 : decode prog_13_method_43_code 46 = .ok (.iconst (-1), 1) := by decide +kernel
theorem d_Mo_sizeBy_47 : decode prog_13_method_43_code 47 = .ok (.ireturn, 1) := by decide +kernel
theorem d_Mo_plan_0 : decode prog_13_method_44_code 0 = .ok (.aload_n 0, 1) := by decide +kernel
theorem d_Mo_plan_1 : decode prog_13_method_44_code 1 = .ok (.iconst 0, 1) := by decide +kernel
theorem d_Mo_plan_2 : decode prog_13_method_44_code 2 = .ok (.putfield 1, 3) := by decide +kernel
theorem d_Mo_plan_5 : decode prog_13_method_44_code 5 = .ok (.aload_n 0, 1) := by decide +kernel
theorem d_Mo_plan_6 : decode prog_13_method_44_code 6 = .ok (.aload_n 0, 1) := by decide +kernel
theorem d_Mo_plan_7 : decode prog_13_method_44_code 7 = .ok (.getfield 14, 3) := by decide +kernel
theorem d_Mo_plan_10 : decode prog_13_method_44_code 10 = .ok (.iconst 0, 1) := by decide +kernel
theorem d_Mo_plan_11 : decode prog_13_method_44_code 11 = .ok (.iaload, 1) := by decide +kernel
theorem d_Mo_plan_12 : decode prog_13_method_44_code 12 = .ok (.aload_n 0, 1) := by decide +kernel
theorem d_Mo_plan_13 : decode prog_13_method_44_code 13 = .ok (.getfield 14, 3) := by decide +kernel
theorem d_Mo_plan_16 : decode prog_13_method_44_code 16 = .ok (.iconst 2, 1) := by decide +kernel
theorem d_Mo_plan_17 : decode prog_13_method_44_code 17 = .ok (.iaload, 1) := by decide +kernel
theorem d_Mo_plan_18 : decode prog_13_method_44_code 18 = .ok (.invokevirtual 240, 3) := by decide +kernel
theorem d_Mo_plan_21 : decode prog_13_method_44_code 21 = .ok (.istore_n 1, 1) := by decide +kernel
theorem d_Mo_plan_22 : decode prog_13_method_44_code 22 = .ok (.iload_n 1, 1) := by decide +kernel
theorem d_Mo_plan_23 : decode prog_13_method_44_code 23 = .ok (.iconst (-1), 1) := by decide +kernel
theorem d_Mo_plan_24 : decode prog_13_method_44_code 24 = .ok (.if_icmp .ne 6, 3) := by decide +kernel
theorem d_Mo_plan_27 : decode prog_13_method_44_code 27 = .ok (.bipush (-4), 2) := by decide +kernel
theorem d_Mo_plan_29 : decode prog_13_method_44_code 29 = .ok (.ireturn, 1) := by decide +kernel
theorem d_Mo_plan_30 : decode prog_13_method_44_code 30 = .ok (.aload_n 0, 1) := by decide +kernel
theorem d_Mo_plan_31 : decode prog_13_method_44_code 31 = .ok (.invokevirtual 232, 3) := by decide +kernel
theorem d_Mo_plan_34 : decode prog_13_method_44_code 34 = .ok (.ifCond .eq 10, 3) := by decide +kernel
theorem d_Mo_plan_37 : decode prog_13_method_44_code 37 = .ok (.aload_n 0, 1) := by decide +kernel
theorem d_Mo_plan_38 : decode prog_13_method_44_code 38 = .ok (.getfield 172, 3) := by decide +kernel
theorem d_Mo_plan_41 : decode prog_13_method_44_code 41 = .ok (.ifCond .le 6, 3) := by decide +kernel
theorem d_Mo_plan_44 : decode prog_13_method_44_code 44 = .ok (.bipush (-5), 2) := by decide +kernel
theorem d_Mo_plan_46 : decode prog_13_method_44_code 46 = .ok (.ireturn, 1) := by decide +kernel
theorem d_Mo_plan_47 : decode prog_13_method_44_code 47 = .ok (.aload_n 0, 1) := by decide +kernel
theorem d_Mo_plan_48 : decode prog_13_method_44_code 48 = .ok (.aload_n 0, 1) := by decide +kernel
theorem d_Mo_plan_49 : decode prog_13_method_44_code 49 = .ok (.invokevirtual 232, 3) := by decide +kernel
theorem d_Mo_plan_52 : decode prog_13_method_44_code 52 = .ok (.iload_n 1, 1) := by decide +kernel
theorem d_Mo_plan_53 : decode prog_13_method_44_code 53 = .ok (.idiv, 1) := by decide +kernel
theorem d_Mo_plan_54 : decode prog_13_method_44_code 54 = .ok (.putfield 169, 3) := by decide +kernel
theorem d_Mo_plan_57 : decode prog_13_method_44_code 57 = .ok (.aload_n 0, 1) := by decide +kernel
theorem d_Mo_plan_58 : decode prog_13_method_44_code 58 = .ok (.getfield 169, 3) := by decide +kernel
theorem d_Mo_plan_61 : decode prog_13_method_44_code 61 = .ok (.ifCond .ne 8, 3) := by decide +kernel
theorem d_Mo_plan_64 : decode prog_13_method_44_code 64 = .ok (.aload_n 0, 1) := by decide +kernel
theorem d_Mo_plan_65 : decode prog_13_method_44_code 65 = .ok (.iconst 1, 1) := by decide +kernel
theorem d_Mo_plan_66 : decode prog_13_method_44_code 66 = .ok (.putfield 169, 3) := by decide +kernel
theorem d_Mo_plan_69 : decode prog_13_method_44_code 69 = .ok (.iload_n 1, 1) := by decide +kernel
theorem d_Mo_plan_70 : decode prog_13_method_44_code 70 = .ok (.ireturn, 1) := by decide +kernel
theorem d_Mo_isStart_0 : decode prog_13_method_45_code 0 = .ok (.iconst 0, 1) := by decide +kernel
theorem d_Mo_isStart_1 : decode prog_13_method_45_code 1 = .ok (.istore_n 2, 1) := by decide +kernel
theorem d_Mo_isStart_2 : decode prog_13_method_45_code 2 = .ok (.iload_n 2, 1) := by decide +kernel
theorem d_Mo_isStart_3 : decode prog_13_method_45_code 3 = .ok (.aload_n 0, 1) := by decide +kernel
theorem d_Mo_isStart_4 : decode prog_13_method_45_code 4 = .ok (.getfield 172, 3) := by decide +kernel
theorem d_Mo_isStart_7 : decode prog_13_method_45_code 7 = .ok (.if_icmp .ge 21, 3) := by decide +kernel
theorem d_Mo_isStart_10 : decode prog_13_method_45_code 10 = .ok (.aload_n 0, 1) := by decide +kernel
theorem d_Mo_isStart_11 : decode prog_13_method_45_code 11 = .ok (.getfield 32, 3) := by decide +kernel
theorem d_Mo_isStart_14 : decode prog_13_method_45_code 14 = .ok (.iload_n 2, 1) := by decide +kernel
theorem d_Mo_isStart_15 : decode prog_13_method_45_code 15 = .ok (.iaload, 1) := by decide +kernel
theorem d_Mo_isStart_16 : decode prog_13_method_45_code 16 = .ok (.iload_n 1, 1) := by decide +kernel
theorem d_Mo_isStart_17 : decode prog_13_method_45_code 17 = .ok (.if_icmp .ne 5, 3) := by decide +kernel
theorem d_Mo_isStart_20 : decode prog_13_method_45_code 20 = .ok (.iconst 1, 1) := by decide +kernel
theorem d_Mo_isStart_21 : decode prog_13_method_45_code 21 = .ok (.ireturn, 1) := by decide +kernel
theorem d_Mo_isStart_22 : decode prog_13_method_45_code 22 = .ok (.iinc 2 1, 3) := by decide +kernel
theorem d_Mo_isStart_25 : decode prog_13_method_45_code 25 = .ok (.goto (-23), 3) := by decide +kernel
theorem d_Mo_isStart_28 : decode prog_13_method_45_code 28 = .ok (.iconst 0, 1) := by decide +kernel
theorem d_Mo_isStart_29 : decode prog_13_method_45_code 29 = .ok (.ireturn, 1) := by decide +kernel
theorem d_Mo_drawnStart_0 : decode prog_13_method_46_code 0 = .ok (.iconst 0, 1) := by decide +kernel
theorem d_Mo_drawnStart_1 : decode prog_13_method_46_code 1 = .ok (.istore_n 1, 1) := by decide +kernel
theorem d_Mo_drawnStart_2 : decode prog_13_method_46_code 2 = .ok (.iload_n 1, 1) := by decide +kernel
theorem d_Mo_drawnStart_3 : decode prog_13_method_46_code 3 = .ok (.bipush 50, 2) := by decide +kernel
theorem d_Mo_drawnStart_5 : decode prog_13_method_46_code 5 = .ok (.if_icmp .ge 53, 3) := by decide +kernel
theorem d_Mo_drawnStart_8 : decode prog_13_method_46_code 8 = .ok (.aload_n 0, 1) := by decide +kernel
theorem d_Mo_drawnStart_9 : decode prog_13_method_46_code 9 = .ok (.ldc2_w 243, 3) := by decide +kernel
theorem d_Mo_drawnStart_12 : decode prog_13_method_46_code 12 = .ok (.aload_n 0, 1) := by decide +kernel
theorem d_Mo_drawnStart_13 : decode prog_13_method_46_code 13 = .ok (.getfield 35, 3) := by decide +kernel
theorem d_Mo_drawnStart_16 : decode prog_13_method_46_code 16 = .ok (.i2l, 1) := by decide +kernel
theorem d_Mo_drawnStart_17 : decode prog_13_method_46_code 17 = .ok (.lmul, 1) := by decide +kernel
theorem d_Mo_drawnStart_18 : decode prog_13_method_46_code 18 = .ok (.ldc2_w 245, 3) := by decide +kernel
theorem d_Mo_drawnStart_21 : decode prog_13_method_46_code 21 = .ok (.ladd, 1) := by decide +kernel
theorem d_Mo_drawnStart_22 : decode prog_13_method_46_code 22 = .ok (.ldc2_w 247, 3) := by decide +kernel
theorem d_Mo_drawnStart_25 : decode prog_13_method_46_code 25 = .ok (.lrem, 1) := by decide +kernel
theorem d_Mo_drawnStart_26 : decode prog_13_method_46_code 26 = .ok (.l2i, 1) := by decide +kernel
theorem d_Mo_drawnStart_27 : decode prog_13_method_46_code 27 = .ok (.putfield 35, 3) := by decide +kernel
theorem d_Mo_drawnStart_30 : decode prog_13_method_46_code 30 = .ok (.aload_n 0, 1) := by decide +kernel
theorem d_Mo_drawnStart_31 : decode prog_13_method_46_code 31 = .ok (.getfield 35, 3) := by decide +kernel
theorem d_Mo_drawnStart_34 : decode prog_13_method_46_code 34 = .ok (.aload_n 0, 1) := by decide +kernel
theorem d_Mo_drawnStart_35 : decode prog_13_method_46_code 35 = .ok (.getfield 169, 3) := by decide +kernel
theorem d_Mo_drawnStart_38 : decode prog_13_method_46_code 38 = .ok (.irem, 1) := by decide +kernel
theorem d_Mo_drawnStart_39 : decode prog_13_method_46_code 39 = .ok (.iconst 1, 1) := by decide +kernel
theorem d_Mo_drawnStart_40 : decode prog_13_method_46_code 40 = .ok (.iadd, 1) := by decide +kernel
theorem d_Mo_drawnStart_41 : decode prog_13_method_46_code 41 = .ok (.istore_n 2, 1) := by decide +kernel
theorem d_Mo_drawnStart_42 : decode prog_13_method_46_code 42 = .ok (.aload_n 0, 1) := by decide +kernel
theorem d_Mo_drawnStart_43 : decode prog_13_method_46_code 43 = .ok (.iload_n 2, 1) := by decide +kernel
theorem d_Mo_drawnStart_44 : decode prog_13_method_46_code 44 = .ok (.invokevirtual 249, 3) := by decide +kernel
theorem d_Mo_drawnStart_47 : decode prog_13_method_46_code 47 = .ok (.ifCond .ne 5, 3) := by decide +kernel
theorem d_Mo_drawnStart_50 : decode prog_13_method_46_code 50 = .ok (.iload_n 2, 1) := by decide +kernel
theorem d_Mo_drawnStart_51 : decode prog_13_method_46_code 51 = .ok (.ireturn, 1) := by decide +kernel
theorem d_Mo_drawnStart_52 : decode prog_13_method_46_code 52 = .ok (.iinc 1 1, 3) := by decide +kernel
theorem d_Mo_drawnStart_55 : decode prog_13_method_46_code 55 = .ok (.goto (-53), 3) := by decide +kernel
theorem d_Mo_drawnStart_58 : decode prog_13_method_46_code 58 = .ok (.iconst 1, 1) := by decide +kernel
theorem d_Mo_drawnStart_59 : decode prog_13_method_46_code 59 = .ok (.istore_n 1, 1) := by decide +kernel
theorem d_Mo_drawnStart_60 : decode prog_13_method_46_code 60 = .ok (.aload_n 0, 1) := by decide +kernel
theorem d_Mo_drawnStart_61 : decode prog_13_method_46_code 61 = .ok (.iload_n 1, 1) := by decide +kernel
theorem d_Mo_drawnStart_62 : decode prog_13_method_46_code 62 = .ok (.invokevirtual 249, 3) := by decide +kernel
theorem d_Mo_drawnStart_65 : decode prog_13_method_46_code 65 = .ok (.ifCond .eq 9, 3) := by decide +kernel
theorem d_Mo_drawnStart_68 : decode prog_13_method_46_code 68 = .ok (.iinc 1 1, 3) := by decide +kernel
theorem d_Mo_drawnStart_71 : decode prog_13_method_46_code 71 = .ok (.goto (-11), 3) := by decide +kernel
theorem d_Mo_drawnStart_74 : decode prog_13_method_46_code 74 = .ok (.iload_n 1, 1) := by decide +kernel
theorem d_Mo_drawnStart_75 : decode prog_13_method_46_code 75 = .ok (.ireturn, 1) := by decide +kernel
theorem d_Mo_draw_0 : decode prog_13_method_47_code 0 = .ok (.aload_n 0, 1) := by decide +kernel
theorem d_Mo_draw_1 : decode prog_13_method_47_code 1 = .ok (.iconst 0, 1) := by decide +kernel
theorem d_Mo_draw_2 : decode prog_13_method_47_code 2 = .ok (.putfield 1, 3) := by decide +kernel
theorem d_Mo_draw_5 : decode prog_13_method_47_code 5 = .ok (.aload_n 0, 1) := by decide +kernel
theorem d_Mo_draw_6 : decode prog_13_method_47_code 6 = .ok (.getfield 169, 3) := by decide +kernel
theorem d_Mo_draw_9 : decode prog_13_method_47_code 9 = .ok (.ifCond .le 25, 3) := by decide +kernel
theorem d_Mo_draw_12 : decode prog_13_method_47_code 12 = .ok (.aload_n 0, 1) := by decide +kernel
theorem d_Mo_draw_13 : decode prog_13_method_47_code 13 = .ok (.getfield 172, 3) := by decide +kernel
theorem d_Mo_draw_16 : decode prog_13_method_47_code 16 = .ok (.iconst 5, 1) := by decide +kernel
theorem d_Mo_draw_17 : decode prog_13_method_47_code 17 = .ok (.if_icmp .eq 14, 3) := by decide +kernel
theorem d_Mo_draw_20 : decode prog_13_method_47_code 20 = .ok (.aload_n 0, 1) := by decide +kernel
theorem d_Mo_draw_21 : decode prog_13_method_47_code 21 = .ok (.getfield 172, 3) := by decide +kernel
theorem d_Mo_draw_24 : decode prog_13_method_47_code 24 = .ok (.aload_n 0, 1) := by decide +kernel
theorem d_Mo_draw_25 : decode prog_13_method_47_code 25 = .ok (.getfield 169, 3) := by decide +kernel
theorem d_Mo_draw_28 : decode prog_13_method_47_code 28 = .ok (.if_icmp .lt 6, 3) := by decide +kernel
theorem d_Mo_draw_31 : decode prog_13_method_47_code 31 = .ok (.bipush (-4), 2) := by decide +kernel
theorem d_Mo_draw_33 : decode prog_13_method_47_code 33 = .ok (.ireturn, 1) := by decide +kernel
theorem d_Mo_draw_34 : decode prog_13_method_47_code 34 = .ok (.aload_n 0, 1) := by decide +kernel
theorem d_Mo_draw_35 : decode prog_13_method_47_code 35 = .ok (.getfield 169, 3) := by decide +kernel
theorem d_Mo_draw_38 : decode prog_13_method_47_code 38 = .ok (.ifCond .ne 6, 3) := by decide +kernel
theorem d_Mo_draw_41 : decode prog_13_method_47_code 41 = .ok (.bipush (-5), 2) := by decide +kernel
theorem d_Mo_draw_43 : decode prog_13_method_47_code 43 = .ok (.ireturn, 1) := by decide +kernel
theorem d_Mo_draw_44 : decode prog_13_method_47_code 44 = .ok (.aload_n 0, 1) := by decide +kernel
theorem d_Mo_draw_45 : decode prog_13_method_47_code 45 = .ok (.getfield 32, 3) := by decide +kernel
theorem d_Mo_draw_48 : decode prog_13_method_47_code 48 = .ok (.aload_n 0, 1) := by decide +kernel
theorem d_Mo_draw_49 : decode prog_13_method_47_code 49 = .ok (.getfield 172, 3) := by decide +kernel
theorem d_Mo_draw_52 : decode prog_13_method_47_code 52 = .ok (.aload_n 0, 1) := by decide +kernel
theorem d_Mo_draw_53 : decode prog_13_method_47_code 53 = .ok (.invokevirtual 252, 3) := by decide +kernel
theorem d_Mo_draw_56 : decode prog_13_method_47_code 56 = .ok (.iastore, 1) := by decide +kernel
theorem d_Mo_draw_57 : decode prog_13_method_47_code 57 = .ok (.aload_n 0, 1) := by decide +kernel
theorem d_Mo_draw_58 : decode prog_13_method_47_code 58 = .ok (.dup, 1) := by decide +kernel
theorem d_Mo_draw_59 : decode prog_13_method_47_code 59 = .ok (.getfield 172, 3) := by decide +kernel
theorem d_Mo_draw_62 : decode prog_13_method_47_code 62 = .ok (.iconst 1, 1) := by decide +kernel
theorem d_Mo_draw_63 : decode prog_13_method_47_code 63 = .ok (.iadd, 1) := by decide +kernel
theorem d_Mo_draw_64 : decode prog_13_method_47_code 64 = .ok (.putfield 172, 3) := by decide +kernel
theorem d_Mo_draw_67 : decode prog_13_method_47_code 67 = .ok (.aload_n 0, 1) := by decide +kernel
theorem d_Mo_draw_68 : decode prog_13_method_47_code 68 = .ok (.getfield 32, 3) := by decide +kernel
theorem d_Mo_draw_71 : decode prog_13_method_47_code 71 = .ok (.aload_n 0, 1) := by decide +kernel
theorem d_Mo_draw_72 : decode prog_13_method_47_code 72 = .ok (.getfield 172, 3) := by decide +kernel
theorem d_Mo_draw_75 : decode prog_13_method_47_code 75 = .ok (.iconst 1, 1) := by decide +kernel
theorem d_Mo_draw_76 : decode prog_13_method_47_code 76 = .ok (.isub, 1) := by decide +kernel
theorem d_Mo_draw_77 : decode prog_13_method_47_code 77 = .ok (.iaload, 1) := by decide +kernel
theorem d_Mo_draw_78 : decode prog_13_method_47_code 78 = .ok (.ireturn, 1) := by decide +kernel
theorem d_Mo_clear_0 : decode prog_13_method_48_code 0 = .ok (.aload_n 0, 1) := by decide +kernel
theorem d_Mo_clear_1 : decode prog_13_method_48_code 1 = .ok (.iconst 0, 1) := by decide +kernel
theorem d_Mo_clear_2 : decode prog_13_method_48_code 2 = .ok (.putfield 1, 3) := by decide +kernel
theorem d_Mo_clear_5 : decode prog_13_method_48_code 5 = .ok (.aload_n 0, 1) := by decide +kernel
theorem d_Mo_clear_6 : decode prog_13_method_48_code 6 = .ok (.getfield 172, 3) := by decide +kernel
theorem d_Mo_clear_9 : decode prog_13_method_48_code 9 = .ok (.istore_n 1, 1) := by decide +kernel
theorem d_Mo_clear_10 : decode prog_13_method_48_code 10 = .ok (.aload_n 0, 1) := by decide +kernel
theorem d_Mo_clear_11 : decode prog_13_method_48_code 11 = .ok (.iconst 0, 1) := by decide +kernel
theorem d_Mo_clear_12 : decode prog_13_method_48_code 12 = .ok (.putfield 172, 3) := by decide +kernel
theorem d_Mo_clear_15 : decode prog_13_method_48_code 15 = .ok (.iload_n 1, 1) := by decide +kernel
theorem d_Mo_clear_16 : decode prog_13_method_48_code 16 = .ok (.ireturn, 1) := by decide +kernel
theorem d_Mo_find_0 : decode prog_13_method_49_code 0 = .ok (.aload_n 0, 1) := by decide +kernel
theorem d_Mo_find_1 : decode prog_13_method_49_code 1 = .ok (.iconst 0, 1) := by decide +kernel
theorem d_Mo_find_2 : decode prog_13_method_49_code 2 = .ok (.putfield 1, 3) := by decide +kernel
theorem d_Mo_find_5 : decode prog_13_method_49_code 5 = .ok (.aload_n 0, 1) := by decide +kernel
theorem d_Mo_find_6 : decode prog_13_method_49_code 6 = .ok (.getfield 26, 3) := by decide +kernel
theorem d_Mo_find_9 : decode prog_13_method_49_code 9 = .ok (.aload_n 0, 1) := by decide +kernel
theorem d_Mo_find_10 : decode prog_13_method_49_code 10 = .ok (.getfield 86, 3) := by decide +kernel
theorem d_Mo_find_13 : decode prog_13_method_49_code 13 = .ok (.iload_n 1, 1) := by decide +kernel
theorem d_Mo_find_14 : decode prog_13_method_49_code 14 = .ok (.iload_n 2, 1) := by decide +kernel
theorem d_Mo_find_15 : decode prog_13_method_49_code 15 = .ok (.invokestatic 148, 3) := by decide +kernel
theorem d_Mo_find_18 : decode prog_13_method_49_code 18 = .ok (.ireturn, 1) := by decide +kernel
theorem d_Mo_item_0 : decode prog_13_method_50_code 0 = .ok (.aload_n 0, 1) := by decide +kernel
theorem d_Mo_item_1 : decode prog_13_method_50_code 1 = .ok (.iconst 0, 1) := by decide +kernel
theorem d_Mo_item_2 : decode prog_13_method_50_code 2 = .ok (.putfield 1, 3) := by decide +kernel
theorem d_Mo_item_5 : decode prog_13_method_50_code 5 = .ok (.aload_n 0, 1) := by decide +kernel
theorem d_Mo_item_6 : decode prog_13_method_50_code 6 = .ok (.iload_n 1, 1) := by decide +kernel
theorem d_Mo_item_7 : decode prog_13_method_50_code 7 = .ok (.invokevirtual 185, 3) := by decide +kernel
theorem d_Mo_item_10 : decode prog_13_method_50_code 10 = .ok (.ifCond .eq 15, 3) := by decide +kernel
theorem d_Mo_item_13 : decode prog_13_method_50_code 13 = .ok (.iload_n 2, 1) := by decide +kernel
theorem d_Mo_item_14 : decode prog_13_method_50_code 14 = .ok (.i2l, 1) := by decide +kernel
theorem d_Mo_item_15 : decode prog_13_method_50_code 15 = .ok (.lconst 0, 1) := by decide +kernel
theorem d_Mo_item_16 : decode prog_13_method_50_code 16 = .ok (.ldc2_w 255, 3) := by decide +kernel
theorem d_Mo_item_19 : decode prog_13_method_50_code 19 = .ok (.invokestatic 92, 3) := by decide +kernel
theorem d_Mo_item_22 : decode prog_13_method_50_code 22 = .ok (.ifCond .ne 6, 3) := by decide +kernel
theorem d_Mo_item_25 : decode prog_13_method_50_code 25 = .ok (.ldc 188, 2) := by decide +kernel
theorem d_Mo_item_27 : decode prog_13_method_50_code 27 = .ok (.ireturn, 1) := by decide +kernel
theorem d_Mo_item_28 : decode prog_13_method_50_code 28 = .ok (.aload_n 0, 1) := by decide +kernel
theorem d_Mo_item_29 : decode prog_13_method_50_code 29 = .ok (.invokevirtual 257, 3) := by decide +kernel
theorem d_Mo_item_32 : decode prog_13_method_50_code 32 = .ok (.iload_n 2, 1) := by decide +kernel
theorem d_Mo_item_33 : decode prog_13_method_50_code 33 = .ok (.tableswitch 75 4 8 #[35, 41, 47, 61, 68], 35) := by decide +kernel
theorem d_Mo_item_68 : decode prog_13_method_50_code 68 = .ok (.aload_n 0, 1) := by decide +kernel
theorem d_Mo_item_69 : decode prog_13_method_50_code 69 = .ok (.iload_n 1, 1) := by decide +kernel
theorem d_Mo_item_70 : decode prog_13_method_50_code 70 = .ok (.invokevirtual 99, 3) := by decide +kernel
theorem d_Mo_item_73 : decode prog_13_method_50_code 73 = .ok (.ireturn, 1) := by decide +kernel
theorem d_Mo_item_74 : decode prog_13_method_50_code 74 = .ok (.aload_n 0, 1) := by decide +kernel
theorem d_Mo_item_75 : decode prog_13_method_50_code 75 = .ok (.iload_n 1, 1) := by decide +kernel
theorem d_Mo_item_76 : decode prog_13_method_50_code 76 = .ok (.invokevirtual 260, 3) := by decide +kernel
theorem d_Mo_item_79 : decode prog_13_method_50_code 79 = .ok (.ireturn, 1) := by decide +kernel
theorem d_Mo_item_80 : decode prog_13_method_50_code 80 = .ok (.aload_n 0, 1) := by decide +kernel
theorem d_Mo_item_81 : decode prog_13_method_50_code 81 = .ok (.iload_n 1, 1) := by decide +kernel
theorem d_Mo_item_82 : decode prog_13_method_50_code 82 = .ok (.invokevirtual 201, 3) := by decide +kernel
theorem d_Mo_item_85 : decode prog_13_method_50_code 85 = .ok (.ifCond .eq 7, 3) := by decide +kernel
theorem d_Mo_item_88 : decode prog_13_method_50_code 88 = .ok (.iconst 1, 1) := by decide +kernel
theorem d_Mo_item_89 : decode prog_13_method_50_code 89 = .ok (.goto 4, 3) := by decide +kernel
theorem d_Mo_item_92 : decode prog_13_method_50_code 92 = .ok (.iconst 0, 1) := by decide +kernel
theorem d_Mo_item_93 : decode prog_13_method_50_code 93 = .ok (.ireturn, 1) := by decide +kernel
theorem d_Mo_item_94 : decode prog_13_method_50_code 94 = .ok (.aload_n 0, 1) := by decide +kernel
theorem d_Mo_item_95 : decode prog_13_method_50_code 95 = .ok (.getfield 60, 3) := by decide +kernel
theorem d_Mo_item_98 : decode prog_13_method_50_code 98 = .ok (.iload_n 1, 1) := by decide +kernel
theorem d_Mo_item_99 : decode prog_13_method_50_code 99 = .ok (.iaload, 1) := by decide +kernel
theorem d_Mo_item_100 : decode prog_13_method_50_code 100 = .ok (.ireturn, 1) := by decide +kernel
theorem d_Mo_item_101 : decode prog_13_method_50_code 101 = .ok (.aload_n 0, 1) := by decide +kernel
theorem d_Mo_item_102 : decode prog_13_method_50_code 102 = .ok (.getfield 48, 3) := by decide +kernel
theorem d_Mo_item_105 : decode prog_13_method_50_code 105 = .ok (.iload_n 1, 1) := by decide +kernel
theorem d_Mo_item_106 : decode prog_13_method_50_code 106 = .ok (.iaload, 1) := by decide +kernel
theorem d_Mo_item_107 : decode prog_13_method_50_code 107 = .ok (.ireturn, 1) := by decide +kernel
theorem d_Mo_item_108 : decode prog_13_method_50_code 108 = .ok (.aload_n 0, 1) := by decide +kernel
theorem d_Mo_item_109 : decode prog_13_method_50_code 109 = .ok (.getfield 26, 3) := by decide +kernel
theorem d_Mo_item_112 : decode prog_13_method_50_code 112 = .ok (.iconst 4, 1) := by decide +kernel
theorem d_Mo_item_113 : decode prog_13_method_50_code 113 = .ok (.iload_n 1, 1) := by decide +kernel
theorem d_Mo_item_114 : decode prog_13_method_50_code 114 = .ok (.imul, 1) := by decide +kernel
theorem d_Mo_item_115 : decode prog_13_method_50_code 115 = .ok (.iload_n 2, 1) := by decide +kernel
theorem d_Mo_item_116 : decode prog_13_method_50_code 116 = .ok (.iadd, 1) := by decide +kernel
theorem d_Mo_item_117 : decode prog_13_method_50_code 117 = .ok (.iaload, 1) := by decide +kernel
theorem d_Mo_item_118 : decode prog_13_method_50_code 118 = .ok (.ireturn, 1) := by decide +kernel
theorem d_Mo_coin_0 : decode prog_13_method_51_code 0 = .ok (.aload_n 0, 1) := by decide +kernel
theorem d_Mo_coin_1 : decode prog_13_method_51_code 1 = .ok (.iconst 0, 1) := by decide +kernel
theorem d_Mo_coin_2 : decode prog_13_method_51_code 2 = .ok (.putfield 1, 3) := by decide +kernel
theorem d_Mo_coin_5 : decode prog_13_method_51_code 5 = .ok (.aload_n 0, 1) := by decide +kernel
theorem d_Mo_coin_6 : decode prog_13_method_51_code 6 = .ok (.aload_n 0, 1) := by decide +kernel
theorem d_Mo_coin_7 : decode prog_13_method_51_code 7 = .ok (.getfield 169, 3) := by decide +kernel
theorem d_Mo_coin_10 : decode prog_13_method_51_code 10 = .ok (.invokevirtual 204, 3) := by decide +kernel
theorem d_Mo_coin_13 : decode prog_13_method_51_code 13 = .ok (.iload_n 1, 1) := by decide +kernel
theorem d_Mo_coin_14 : decode prog_13_method_51_code 14 = .ok (.i2l, 1) := by decide +kernel
theorem d_Mo_coin_15 : decode prog_13_method_51_code 15 = .ok (.lconst 1, 1) := by decide +kernel
theorem d_Mo_coin_16 : decode prog_13_method_51_code 16 = .ok (.aload_n 0, 1) := by decide +kernel
theorem d_Mo_coin_17 : decode prog_13_method_51_code 17 = .ok (.getfield 198, 3) := by decide +kernel
theorem d_Mo_coin_20 : decode prog_13_method_51_code 20 = .ok (.i2l, 1) := by decide +kernel
theorem d_Mo_coin_21 : decode prog_13_method_51_code 21 = .ok (.invokestatic 92, 3) := by decide +kernel
theorem d_Mo_coin_24 : decode prog_13_method_51_code 24 = .ok (.ifCond .eq 15, 3) := by decide +kernel
theorem d_Mo_coin_27 : decode prog_13_method_51_code 27 = .ok (.iload_n 2, 1) := by decide +kernel
theorem d_Mo_coin_28 : decode prog_13_method_51_code 28 = .ok (.i2l, 1) := by decide +kernel
theorem d_Mo_coin_29 : decode prog_13_method_51_code 29 = .ok (.lconst 0, 1) := by decide +kernel
theorem d_Mo_coin_30 : decode prog_13_method_51_code 30 = .ok (.ldc2_w 189, 3) := by decide +kernel
theorem d_Mo_coin_33 : decode prog_13_method_51_code 33 = .ok (.invokestatic 92, 3) := by decide +kernel
theorem d_Mo_coin_36 : decode prog_13_method_51_code 36 = .ok (.ifCond .ne 6, 3) := by decide +kernel
theorem d_Mo_coin_39 : decode prog_13_method_51_code 39 = .ok (.bipush (-2), 2) := by decide +kernel
theorem d_Mo_coin_41 : decode prog_13_method_51_code 41 = .ok (.ireturn, 1) := by decide +kernel
theorem d_Mo_coin_42 : decode prog_13_method_51_code 42 = .ok (.aload_n 0, 1) := by decide +kernel
theorem d_Mo_coin_43 : decode prog_13_method_51_code 43 = .ok (.getfield 169, 3) := by decide +kernel
theorem d_Mo_coin_46 : decode prog_13_method_51_code 46 = .ok (.ifCond .ne 6, 3) := by decide +kernel
theorem d_Mo_coin_49 : decode prog_13_method_51_code 49 = .ok (.bipush (-5), 2) := by decide +kernel
theorem d_Mo_coin_51 : decode prog_13_method_51_code 51 = .ok (.ireturn, 1) := by decide +kernel
theorem d_Mo_coin_52 : decode prog_13_method_51_code 52 = .ok (.iload_n 2, 1) := by decide +kernel
theorem d_Mo_coin_53 : decode prog_13_method_51_code 53 = .ok (.iconst 2, 1) := by decide +kernel
theorem d_Mo_coin_54 : decode prog_13_method_51_code 54 = .ok (.if_icmp .ge 24, 3) := by decide +kernel
theorem d_Mo_coin_57 : decode prog_13_method_51_code 57 = .ok (.iload_n 2, 1) := by decide +kernel
theorem d_Mo_coin_58 : decode prog_13_method_51_code 58 = .ok (.ifCond .ne 11, 3) := by decide +kernel
theorem d_Mo_coin_61 : decode prog_13_method_51_code 61 = .ok (.aload_n 0, 1) := by decide +kernel
theorem d_Mo_coin_62 : decode prog_13_method_51_code 62 = .ok (.iload_n 1, 1) := by decide +kernel
theorem d_Mo_coin_63 : decode prog_13_method_51_code 63 = .ok (.invokevirtual 210, 3) := by decide +kernel
theorem d_Mo_coin_66 : decode prog_13_method_51_code 66 = .ok (.goto 11, 3) := by decide +kernel
theorem d_Mo_coin_69 : decode prog_13_method_51_code 69 = .ok (.iload_n 1, 1) := by decide +kernel
theorem d_Mo_coin_70 : decode prog_13_method_51_code 70 = .ok (.iconst 1, 1) := by decide +kernel
theorem d_Mo_coin_71 : decode prog_13_method_51_code 71 = .ok (.isub, 1) := by decide +kernel
theorem d_Mo_coin_72 : decode prog_13_method_51_code 72 = .ok (.aload_n 0, 1) := by decide +kernel
theorem d_Mo_coin_73 : decode prog_13_method_51_code 73 = .ok (.getfield 169, 3) := by decide +kernel
theorem d_Mo_coin_76 : decode prog_13_method_51_code 76 = .ok (.idiv, 1) := by decide +kernel
theorem d_Mo_coin_77 : decode prog_13_method_51_code 77 = .ok (.ireturn, 1) := by decide +kernel
theorem d_Mo_coin_78 : decode prog_13_method_51_code 78 = .ok (.iconst 0, 1) := by decide +kernel
theorem d_Mo_coin_79 : decode prog_13_method_51_code 79 = .ok (.istore_n 3, 1) := by decide +kernel
theorem d_Mo_coin_80 : decode prog_13_method_51_code 80 = .ok (.iconst 0, 1) := by decide +kernel
theorem d_Mo_coin_81 : decode prog_13_method_51_code 81 = .ok (.istore 4, 2) := by decide +kernel
theorem d_Mo_coin_83 : decode prog_13_method_51_code 83 = .ok (.iload 4, 2) := by decide +kernel
theorem d_Mo_coin_85 : decode prog_13_method_51_code 85 = .ok (.aload_n 0, 1) := by decide +kernel
theorem d_Mo_coin_86 : decode prog_13_method_51_code 86 = .ok (.getfield 172, 3) := by decide +kernel
theorem d_Mo_coin_89 : decode prog_13_method_51_code 89 = .ok (.if_icmp .ge 37, 3) := by decide +kernel
theorem d_Mo_coin_92 : decode prog_13_method_51_code 92 = .ok (.iload_n 3, 1) := by decide +kernel
theorem d_Mo_coin_93 : decode prog_13_method_51_code 93 = .ok (.iload_n 1, 1) := by decide +kernel
theorem d_Mo_coin_94 : decode prog_13_method_51_code 94 = .ok (.iconst 1, 1) := by decide +kernel
theorem d_Mo_coin_95 : decode prog_13_method_51_code 95 = .ok (.isub, 1) := by decide +kernel
theorem d_Mo_coin_96 : decode prog_13_method_51_code 96 = .ok (.aload_n 0, 1) := by decide +kernel
theorem d_Mo_coin_97 : decode prog_13_method_51_code 97 = .ok (.getfield 169, 3) := by decide +kernel
theorem d_Mo_coin_100 : decode prog_13_method_51_code 100 = .ok (.irem, 1) := by decide +kernel
theorem d_Mo_coin_101 : decode prog_13_method_51_code 101 = .ok (.iconst 1, 1) := by decide +kernel
theorem d_Mo_coin_102 : decode prog_13_method_51_code 102 = .ok (.iadd, 1) := by decide +kernel
theorem d_Mo_coin_103 : decode prog_13_method_51_code 103 = .ok (.aload_n 0, 1) := by decide +kernel
theorem d_Mo_coin_104 : decode prog_13_method_51_code 104 = .ok (.getfield 32, 3) := by decide +kernel
theorem d_Mo_coin_107 : decode prog_13_method_51_code 107 = .ok (.iload 4, 2) := by decide +kernel
theorem d_Mo_coin_109 : decode prog_13_method_51_code 109 = .ok (.iaload, 1) := by decide +kernel
theorem d_Mo_coin_110 : decode prog_13_method_51_code 110 = .ok (.if_icmp .ne 7, 3) := by decide +kernel
theorem d_Mo_coin_113 : decode prog_13_method_51_code 113 = .ok (.iconst 1, 1) := by decide +kernel
theorem d_Mo_coin_114 : decode prog_13_method_51_code 114 = .ok (.goto 4, 3) := by decide +kernel
theorem d_Mo_coin_117 : decode prog_13_method_51_code 117 = .ok (.iconst 0, 1) := by decide +kernel
theorem d_Mo_coin_118 : decode prog_13_method_51_code 118 = .ok (.iadd, 1) := by decide +kernel
theorem d_Mo_coin_119 : decode prog_13_method_51_code 119 = .ok (.istore_n 3, 1) := by decide +kernel
theorem d_Mo_coin_120 : decode prog_13_method_51_code 120 = .ok (.iinc 4 1, 3) := by decide +kernel
theorem d_Mo_coin_123 : decode prog_13_method_51_code 123 = .ok (.goto (-40), 3) := by decide +kernel
theorem d_Mo_coin_126 : decode prog_13_method_51_code 126 = .ok (.iload_n 3, 1) := by decide +kernel
theorem d_Mo_coin_127 : decode prog_13_method_51_code 127 = .ok (.ireturn, 1) := by decide +kernel
theorem d_Mo_hit_0 : decode prog_13_method_52_code 0 = .ok (.aload_n 0, 1) := by decide +kernel
theorem d_Mo_hit_1 : decode prog_13_method_52_code 1 = .ok (.iconst 0, 1) := by decide +kernel
theorem d_Mo_hit_2 : decode prog_13_method_52_code 2 = .ok (.putfield 1, 3) := by decide +kernel
theorem d_Mo_hit_5 : decode prog_13_method_52_code 5 = .ok (.aload_n 0, 1) := by decide +kernel
theorem d_Mo_hit_6 : decode prog_13_method_52_code 6 = .ok (.invokevirtual 257, 3) := by decide +kernel
theorem d_Mo_hit_9 : decode prog_13_method_52_code 9 = .ok (.iload_n 1, 1) := by decide +kernel
theorem d_Mo_hit_10 : decode prog_13_method_52_code 10 = .ok (.i2l, 1) := by decide +kernel
theorem d_Mo_hit_11 : decode prog_13_method_52_code 11 = .ok (.lconst 0, 1) := by decide +kernel
theorem d_Mo_hit_12 : decode prog_13_method_52_code 12 = .ok (.aload_n 0, 1) := by decide +kernel
theorem d_Mo_hit_13 : decode prog_13_method_52_code 13 = .ok (.getfield 207, 3) := by decide +kernel
theorem d_Mo_hit_16 : decode prog_13_method_52_code 16 = .ok (.iconst 1, 1) := by decide +kernel
theorem d_Mo_hit_17 : decode prog_13_method_52_code 17 = .ok (.isub, 1) := by decide +kernel
theorem d_Mo_hit_18 : decode prog_13_method_52_code 18 = .ok (.i2l, 1) := by decide +kernel
theorem d_Mo_hit_19 : decode prog_13_method_52_code 19 = .ok (.invokestatic 92, 3) := by decide +kernel
theorem d_Mo_hit_22 : decode prog_13_method_52_code 22 = .ok (.ifCond .ne 6, 3) := by decide +kernel
theorem d_Mo_hit_25 : decode prog_13_method_52_code 25 = .ok (.bipush (-2), 2) := by decide +kernel
theorem d_Mo_hit_27 : decode prog_13_method_52_code 27 = .ok (.ireturn, 1) := by decide +kernel
theorem d_Mo_hit_28 : decode prog_13_method_52_code 28 = .ok (.iload_n 2, 1) := by decide +kernel
theorem d_Mo_hit_29 : decode prog_13_method_52_code 29 = .ok (.tableswitch 67 0 3 #[31, 38, 45, 52], 31) := by decide +kernel
theorem d_Mo_hit_60 : decode prog_13_method_52_code 60 = .ok (.aload_n 0, 1) := by decide +kernel
theorem d_Mo_hit_61 : decode prog_13_method_52_code 61 = .ok (.getfield 51, 3) := by decide +kernel
theorem d_Mo_hit_64 : decode prog_13_method_52_code 64 = .ok (.iload_n 1, 1) := by decide +kernel
theorem d_Mo_hit_65 : decode prog_13_method_52_code 65 = .ok (.iaload, 1) := by decide +kernel
theorem d_Mo_hit_66 : decode prog_13_method_52_code 66 = .ok (.ireturn, 1) := by decide +kernel
theorem d_Mo_hit_67 : decode prog_13_method_52_code 67 = .ok (.aload_n 0, 1) := by decide +kernel
theorem d_Mo_hit_68 : decode prog_13_method_52_code 68 = .ok (.getfield 54, 3) := by decide +kernel
theorem d_Mo_hit_71 : decode prog_13_method_52_code 71 = .ok (.iload_n 1, 1) := by decide +kernel
theorem d_Mo_hit_72 : decode prog_13_method_52_code 72 = .ok (.iaload, 1) := by decide +kernel
theorem d_Mo_hit_73 : decode prog_13_method_52_code 73 = .ok (.ireturn, 1) := by decide +kernel
theorem d_Mo_hit_74 : decode prog_13_method_52_code 74 = .ok (.aload_n 0, 1) := by decide +kernel
theorem d_Mo_hit_75 : decode prog_13_method_52_code 75 = .ok (.getfield 57, 3) := by decide +kernel
theorem d_Mo_hit_78 : decode prog_13_method_52_code 78 = .ok (.iload_n 1, 1) := by decide +kernel
theorem d_Mo_hit_79 : decode prog_13_method_52_code 79 = .ok (.iaload, 1) := by decide +kernel
theorem d_Mo_hit_80 : decode prog_13_method_52_code 80 = .ok (.ireturn, 1) := by decide +kernel
theorem d_Mo_hit_81 : decode prog_13_method_52_code 81 = .ok (.aload_n 0, 1) := by decide +kernel
theorem d_Mo_hit_82 : decode prog_13_method_52_code 82 = .ok (.aload_n 0, 1) := by decide +kernel
theorem d_Mo_hit_83 : decode prog_13_method_52_code 83 = .ok (.getfield 51, 3) := by decide +kernel
theorem d_Mo_hit_86 : decode prog_13_method_52_code 86 = .ok (.iload_n 1, 1) := by decide +kernel
theorem d_Mo_hit_87 : decode prog_13_method_52_code 87 = .ok (.iaload, 1) := by decide +kernel
theorem d_Mo_hit_88 : decode prog_13_method_52_code 88 = .ok (.invokevirtual 260, 3) := by decide +kernel
theorem d_Mo_hit_91 : decode prog_13_method_52_code 91 = .ok (.sipush 10000, 3) := by decide +kernel
theorem d_Mo_hit_94 : decode prog_13_method_52_code 94 = .ok (.iadd, 1) := by decide +kernel
theorem d_Mo_hit_95 : decode prog_13_method_52_code 95 = .ok (.ireturn, 1) := by decide +kernel
theorem d_Mo_hit_96 : decode prog_13_method_52_code 96 = .ok (.bipush (-2), 2) := by decide +kernel
theorem d_Mo_hit_98 : decode prog_13_method_52_code 98 = .ok (.ireturn, 1) := by decide +kernel
theorem d_Mo_start_0 : decode prog_13_method_53_code 0 = .ok (.aload_n 0, 1) := by decide +kernel
theorem d_Mo_start_1 : decode prog_13_method_53_code 1 = .ok (.iconst 0, 1) := by decide +kernel
theorem d_Mo_start_2 : decode prog_13_method_53_code 2 = .ok (.putfield 1, 3) := by decide +kernel
theorem d_Mo_start_5 : decode prog_13_method_53_code 5 = .ok (.iload_n 1, 1) := by decide +kernel
theorem d_Mo_start_6 : decode prog_13_method_53_code 6 = .ok (.i2l, 1) := by decide +kernel
theorem d_Mo_start_7 : decode prog_13_method_53_code 7 = .ok (.lconst 0, 1) := by decide +kernel
theorem d_Mo_start_8 : decode prog_13_method_53_code 8 = .ok (.aload_n 0, 1) := by decide +kernel
theorem d_Mo_start_9 : decode prog_13_method_53_code 9 = .ok (.getfield 172, 3) := by decide +kernel
theorem d_Mo_start_12 : decode prog_13_method_53_code 12 = .ok (.iconst 1, 1) := by decide +kernel
theorem d_Mo_start_13 : decode prog_13_method_53_code 13 = .ok (.isub, 1) := by decide +kernel
theorem d_Mo_start_14 : decode prog_13_method_53_code 14 = .ok (.i2l, 1) := by decide +kernel
theorem d_Mo_start_15 : decode prog_13_method_53_code 15 = .ok (.invokestatic 92, 3) := by decide +kernel
theorem d_Mo_start_18 : decode prog_13_method_53_code 18 = .ok (.ifCond .eq 12, 3) := by decide +kernel
theorem d_Mo_start_21 : decode prog_13_method_53_code 21 = .ok (.aload_n 0, 1) := by decide +kernel
theorem d_Mo_start_22 : decode prog_13_method_53_code 22 = .ok (.getfield 32, 3) := by decide +kernel
theorem d_Mo_start_25 : decode prog_13_method_53_code 25 = .ok (.iload_n 1, 1) := by decide +kernel
theorem d_Mo_start_26 : decode prog_13_method_53_code 26 = .ok (.iaload, 1) := by decide +kernel
theorem d_Mo_start_27 : decode prog_13_method_53_code 27 = .ok (.goto 5, 3) := by decide +kernel
theorem d_Mo_start_30 : decode prog_13_method_53_code 30 = .ok (.bipush (-2), 2) := by decide +kernel
theorem d_Mo_start_32 : decode prog_13_method_53_code 32 = .ok (.ireturn, 1) := by decide +kernel
theorem d_Mo_isSo_0 : decode prog_13_method_54_code 0 = .ok (.iload_n 2, 1) := by decide +kernel
theorem d_Mo_isSo_1 : decode prog_13_method_54_code 1 = .ok (.ifCond .ne 11, 3) := by decide +kernel
theorem d_Mo_isSo_4 : decode prog_13_method_54_code 4 = .ok (.aload_n 0, 1) := by decide +kernel
theorem d_Mo_isSo_5 : decode prog_13_method_54_code 5 = .ok (.iload_n 1, 1) := by decide +kernel
theorem d_Mo_isSo_6 : decode prog_13_method_54_code 6 = .ok (.invokevirtual 201, 3) := by decide +kernel
theorem d_Mo_isSo_9 : decode prog_13_method_54_code 9 = .ok (.goto 30, 3) := by decide +kernel
theorem d_Mo_isSo_12 : decode prog_13_method_54_code 12 = .ok (.aload_n 0, 1) := by decide +kernel
theorem d_Mo_isSo_13 : decode prog_13_method_54_code 13 = .ok (.iload_n 1, 1) := by decide +kernel
theorem d_Mo_isSo_14 : decode prog_13_method_54_code 14 = .ok (.invokevirtual 263, 3) := by decide +kernel
theorem d_Mo_isSo_17 : decode prog_13_method_54_code 17 = .ok (.ifCond .eq 21, 3) := by decide +kernel
theorem d_Mo_isSo_20 : decode prog_13_method_54_code 20 = .ok (.iload_n 2, 1) := by decide +kernel
theorem d_Mo_isSo_21 : decode prog_13_method_54_code 21 = .ok (.iconst 2, 1) := by decide +kernel
theorem d_Mo_isSo_22 : decode prog_13_method_54_code 22 = .ok (.if_icmp .eq 12, 3) := by decide +kernel
theorem d_Mo_isSo_25 : decode prog_13_method_54_code 25 = .ok (.aload_n 0, 1) := by decide +kernel
theorem d_Mo_isSo_26 : decode prog_13_method_54_code 26 = .ok (.iload_n 1, 1) := by decide +kernel
theorem d_Mo_isSo_27 : decode prog_13_method_54_code 27 = .ok (.invokevirtual 96, 3) := by decide +kernel
theorem d_Mo_isSo_30 : decode prog_13_method_54_code 30 = .ok (.iconst (-1), 1) := by decide +kernel
theorem d_Mo_isSo_31 : decode prog_13_method_54_code 31 = .ok (.if_icmp .ne 7, 3) := by decide +kernel
theorem d_Mo_isSo_34 : decode prog_13_method_54_code 34 = .ok (.iconst 1, 1) := by decide +kernel
theorem d_Mo_isSo_35 : decode prog_13_method_54_code 35 = .ok (.goto 4, 3) := by decide +kernel
theorem d_Mo_isSo_38 : decode prog_13_method_54_code 38 = .ok (.iconst 0, 1) := by decide +kernel
theorem d_Mo_isSo_39 : decode prog_13_method_54_code 39 = .ok (.ireturn, 1) := by decide +kernel
theorem d_Mo_among_0 : decode prog_13_method_55_code 0 = .ok (.iload_n 1, 1) := by decide +kernel
theorem d_Mo_among_1 : decode prog_13_method_55_code 1 = .ok (.iconst (-1), 1) := by decide +kernel
theorem d_Mo_among_2 : decode prog_13_method_55_code 2 = .ok (.if_icmp .ge 6, 3) := by decide +kernel
theorem d_Mo_among_5 : decode prog_13_method_55_code 5 = .ok (.bipush (-3), 2) := by decide +kernel
theorem d_Mo_among_7 : decode prog_13_method_55_code 7 = .ok (.ireturn, 1) := by decide +kernel
theorem d_Mo_among_8 : decode prog_13_method_55_code 8 = .ok (.aload_n 0, 1) := by decide +kernel
theorem d_Mo_among_9 : decode prog_13_method_55_code 9 = .ok (.invokevirtual 257, 3) := by decide +kernel
theorem d_Mo_among_12 : decode prog_13_method_55_code 12 = .ok (.iconst 0, 1) := by decide +kernel
theorem d_Mo_among_13 : decode prog_13_method_55_code 13 = .ok (.istore_n 3, 1) := by decide +kernel
theorem d_Mo_among_14 : decode prog_13_method_55_code 14 = .ok (.iconst 0, 1) := by decide +kernel
theorem d_Mo_among_15 : decode prog_13_method_55_code 15 = .ok (.istore 4, 2) := by decide +kernel
theorem d_Mo_among_17 : decode prog_13_method_55_code 17 = .ok (.iload 4, 2) := by decide +kernel
theorem d_Mo_among_19 : decode prog_13_method_55_code 19 = .ok (.aload_n 0, 1) := by decide +kernel
theorem d_Mo_among_20 : decode prog_13_method_55_code 20 = .ok (.getfield 86, 3) := by decide +kernel
theorem d_Mo_among_23 : decode prog_13_method_55_code 23 = .ok (.if_icmp .ge 33, 3) := by decide +kernel
theorem d_Mo_among_26 : decode prog_13_method_55_code 26 = .ok (.aload_n 0, 1) := by decide +kernel
theorem d_Mo_among_27 : decode prog_13_method_55_code 27 = .ok (.iload 4, 2) := by decide +kernel
theorem d_Mo_among_29 : decode prog_13_method_55_code 29 = .ok (.iload_n 2, 1) := by decide +kernel
theorem d_Mo_among_30 : decode prog_13_method_55_code 30 = .ok (.invokevirtual 266, 3) := by decide +kernel
theorem d_Mo_among_33 : decode prog_13_method_55_code 33 = .ok (.ifCond .ne 6, 3) := by decide +kernel
theorem d_Mo_among_36 : decode prog_13_method_55_code 36 = .ok (.goto 14, 3) := by decide +kernel
theorem d_Mo_among_39 : decode prog_13_method_55_code 39 = .ok (.iload_n 3, 1) := by decide +kernel
theorem d_Mo_among_40 : decode prog_13_method_55_code 40 = .ok (.iload_n 1, 1) := by decide +kernel
theorem d_Mo_among_41 : decode prog_13_method_55_code 41 = .ok (.if_icmp .ne 6, 3) := by decide +kernel
theorem d_Mo_among_44 : decode prog_13_method_55_code 44 = .ok (.iload 4, 2) := by decide +kernel
theorem d_Mo_among_46 : decode prog_13_method_55_code 46 = .ok (.ireturn, 1) := by decide +kernel
theorem d_Mo_among_47 : decode prog_13_method_55_code 47 = .ok (.iinc 3 1, 3) := by decide +kernel
theorem d_Mo_among_50 : decode prog_13_method_55_code 50 = .ok (.iinc 4 1, 3) := by decide +kernel
theorem d_Mo_among_53 : decode prog_13_method_55_code 53 = .ok (.goto (-36), 3) := by decide +kernel
theorem d_Mo_among_56 : decode prog_13_method_55_code 56 = .ok (.iload_n 1, 1) := by decide +kernel
theorem d_Mo_among_57 : decode prog_13_method_55_code 57 = .ok (.iconst (-1), 1) := by decide +kernel
theorem d_Mo_among_58 : decode prog_13_method_55_code 58 = .ok (.if_icmp .ne 7, 3) := by decide +kernel
theorem d_Mo_among_61 : decode prog_13_method_55_code 61 = .ok (.iload_n 3, 1) := by decide +kernel
theorem d_Mo_among_62 : decode prog_13_method_55_code 62 = .ok (.goto 4, 3) := by decide +kernel
theorem d_Mo_among_65 : decode prog_13_method_55_code 65 = .ok (.iconst (-1), 1) := by decide +kernel
theorem d_Mo_among_66 : decode prog_13_method_55_code 66 = .ok (.ireturn, 1) := by decide +kernel
theorem d_Mo_certain_0 : decode prog_13_method_56_code 0 = .ok (.aload_n 0, 1) := by decide +kernel
theorem d_Mo_certain_1 : decode prog_13_method_56_code 1 = .ok (.iconst 0, 1) := by decide +kernel
theorem d_Mo_certain_2 : decode prog_13_method_56_code 2 = .ok (.putfield 1, 3) := by decide +kernel
theorem d_Mo_certain_5 : decode prog_13_method_56_code 5 = .ok (.aload_n 0, 1) := by decide +kernel
theorem d_Mo_certain_6 : decode prog_13_method_56_code 6 = .ok (.iload_n 1, 1) := by decide +kernel
theorem d_Mo_certain_7 : decode prog_13_method_56_code 7 = .ok (.iconst 0, 1) := by decide +kernel
theorem d_Mo_certain_8 : decode prog_13_method_56_code 8 = .ok (.invokevirtual 269, 3) := by decide +kernel
theorem d_Mo_certain_11 : decode prog_13_method_56_code 11 = .ok (.ireturn, 1) := by decide +kernel
theorem d_Mo_lacking_0 : decode prog_13_method_57_code 0 = .ok (.aload_n 0, 1) := by decide +kernel
theorem d_Mo_lacking_1 : decode prog_13_method_57_code 1 = .ok (.iconst 0, 1) := by decide +kernel
theorem d_Mo_lacking_2 : decode prog_13_method_57_code 2 = .ok (.putfield 1, 3) := by decide +kernel
theorem d_Mo_lacking_5 : decode prog_13_method_57_code 5 = .ok (.aload_n 0, 1) := by decide +kernel
theorem d_Mo_lacking_6 : decode prog_13_method_57_code 6 = .ok (.iload_n 1, 1) := by decide +kernel
theorem d_Mo_lacking_7 : decode prog_13_method_57_code 7 = .ok (.iconst 1, 1) := by decide +kernel
theorem d_Mo_lacking_8 : decode prog_13_method_57_code 8 = .ok (.invokevirtual 269, 3) := by decide +kernel
theorem d_Mo_lacking_11 : decode prog_13_method_57_code 11 = .ok (.ireturn, 1) := by decide +kernel
theorem d_Mo_drawn_0 : decode prog_13_method_58_code 0 = .ok (.aload_n 0, 1) := by decide +kernel
theorem d_Mo_drawn_1 : decode prog_13_method_58_code 1 = .ok (.iconst 0, 1) := by decide +kernel
theorem d_Mo_drawn_2 : decode prog_13_method_58_code 2 = .ok (.putfield 1, 3) := by decide +kernel
theorem d_Mo_drawn_5 : decode prog_13_method_58_code 5 = .ok (.aload_n 0, 1) := by decide +kernel
theorem d_Mo_drawn_6 : decode prog_13_method_58_code 6 = .ok (.iload_n 1, 1) := by decide +kernel
theorem d_Mo_drawn_7 : decode prog_13_method_58_code 7 = .ok (.iconst 2, 1) := by decide +kernel
theorem d_Mo_drawn_8 : decode prog_13_method_58_code 8 = .ok (.invokevirtual 269, 3) := by decide +kernel
theorem d_Mo_drawn_11 : decode prog_13_method_58_code 11 = .ok (.ireturn, 1) := by decide +kernel
theorem d_Mo_tells_0 : decode prog_13_method_59_code 0 = .ok (.aload_n 0, 1) := by decide +kernel
theorem d_Mo_tells_1 : decode prog_13_method_59_code 1 = .ok (.getfield 69, 3) := by decide +kernel
theorem d_Mo_tells_4 : decode prog_13_method_59_code 4 = .ok (.aload_n 0, 1) := by decide +kernel
theorem d_Mo_tells_5 : decode prog_13_method_59_code 5 = .ok (.getfield 272, 3) := by decide +kernel
theorem d_Mo_tells_8 : decode prog_13_method_59_code 8 = .ok (.iload_n 1, 1) := by decide +kernel
theorem d_Mo_tells_9 : decode prog_13_method_59_code 9 = .ok (.iastore, 1) := by decide +kernel
theorem d_Mo_tells_10 : decode prog_13_method_59_code 10 = .ok (.aload_n 0, 1) := by decide +kernel
theorem d_Mo_tells_11 : decode prog_13_method_59_code 11 = .ok (.dup, 1) := by decide +kernel
theorem d_Mo_tells_12 : decode prog_13_method_59_code 12 = .ok (.getfield 272, 3) := by decide +kernel
theorem d_Mo_tells_15 : decode prog_13_method_59_code 15 = .ok (.iconst 1, 1) := by decide +kernel
theorem d_Mo_tells_16 : decode prog_13_method_59_code 16 = .ok (.iadd, 1) := by decide +kernel
theorem d_Mo_tells_17 : decode prog_13_method_59_code 17 = .ok (.putfield 272, 3) := by decide +kernel
theorem d_Mo_tells_20 : decode prog_13_method_59_code 20 = .ok (.return_, 1) := by decide +kernel
theorem d_Mo_tellsNumber_0 : decode prog_13_method_60_code 0 = .ok (.iconst 1, 1) := by decide +kernel
theorem d_Mo_tellsNumber_1 : decode prog_13_method_60_code 1 = .ok (.istore_n 2, 1) := by decide +kernel
theorem d_Mo_tellsNumber_2 : decode prog_13_method_60_code 2 = .ok (.iload_n 1, 1) := by decide +kernel
theorem d_Mo_tellsNumber_3 : decode prog_13_method_60_code 3 = .ok (.iload_n 2, 1) := by decide +kernel
theorem d_Mo_tellsNumber_4 : decode prog_13_method_60_code 4 = .ok (.idiv, 1) := by decide +kernel
theorem d_Mo_tellsNumber_5 : decode prog_13_method_60_code 5 = .ok (.bipush 9, 2) := by decide +kernel
theorem d_Mo_tellsNumber_7 : decode prog_13_method_60_code 7 = .ok (.if_icmp .le 11, 3) := by decide +kernel
theorem d_Mo_tellsNumber_10 : decode prog_13_method_60_code 10 = .ok (.iload_n 2, 1) := by decide +kernel
theorem d_Mo_tellsNumber_11 : decode prog_13_method_60_code 11 = .ok (.bipush 10, 2) := by decide +kernel
theorem d_Mo_tellsNumber_13 : decode prog_13_method_60_code 13 = .ok (.imul, 1) := by decide +kernel
theorem d_Mo_tellsNumber_14 : decode prog_13_method_60_code 14 = .ok (.istore_n 2, 1) := by decide +kernel
theorem d_Mo_tellsNumber_15 : decode prog_13_method_60_code 15 = .ok (.goto (-13), 3) := by decide +kernel
theorem d_Mo_tellsNumber_18 : decode prog_13_method_60_code 18 = .ok (.iload_n 2, 1) := by decide +kernel
theorem d_Mo_tellsNumber_19 : decode prog_13_method_60_code 19 = .ok (.ifCond .le 24, 3) := by decide +kernel
theorem d_Mo_tellsNumber_22 : decode prog_13_method_60_code 22 = .ok (.aload_n 0, 1) := by decide +kernel
theorem d_Mo_tellsNumber_23 : decode prog_13_method_60_code 23 = .ok (.bipush 48, 2) := by decide +kernel
theorem d_Mo_tellsNumber_25 : decode prog_13_method_60_code 25 = .ok (.iload_n 1, 1) := by decide +kernel
theorem d_Mo_tellsNumber_26 : decode prog_13_method_60_code 26 = .ok (.iload_n 2, 1) := by decide +kernel
theorem d_Mo_tellsNumber_27 : decode prog_13_method_60_code 27 = .ok (.idiv, 1) := by decide +kernel
theorem d_Mo_tellsNumber_28 : decode prog_13_method_60_code 28 = .ok (.bipush 10, 2) := by decide +kernel
theorem d_Mo_tellsNumber_30 : decode prog_13_method_60_code 30 = .ok (.irem, 1) := by decide +kernel
theorem d_Mo_tellsNumber_31 : decode prog_13_method_60_code 31 = .ok (.iadd, 1) := by decide +kernel
theorem d_Mo_tellsNumber_32 : decode prog_13_method_60_code 32 = .ok (.invokevirtual 275, 3) := by decide +kernel
theorem d_Mo_tellsNumber_35 : decode prog_13_method_60_code 35 = .ok (.iload_n 2, 1) := by decide +kernel
theorem d_Mo_tellsNumber_36 : decode prog_13_method_60_code 36 = .ok (.bipush 10, 2) := by decide +kernel
theorem d_Mo_tellsNumber_38 : decode prog_13_method_60_code 38 = .ok (.idiv, 1) := by decide +kernel
theorem d_Mo_tellsNumber_39 : decode prog_13_method_60_code 39 = .ok (.istore_n 2, 1) := by decide +kernel
theorem d_Mo_tellsNumber_40 : decode prog_13_method_60_code 40 = .ok (.goto (-22), 3) := by decide +kernel
theorem d_Mo_tellsNumber_43 : decode prog_13_method_60_code 43 = .ok (.return_, 1) := by decide +kernel
theorem d_Mo_line__0 : decode prog_13_method_61_code 0 = .ok (.aload_n 0, 1) := by decide +kernel
theorem d_Mo_line__1 : decode prog_13_method_61_code 1 = .ok (.iconst 0, 1) := by decide +kernel
theorem d_Mo_line__2 : decode prog_13_method_61_code 2 = .ok (.putfield 1, 3) := by decide +kernel
theorem d_Mo_line__5 : decode prog_13_method_61_code 5 = .ok (.iload_n 1, 1) := by decide +kernel
theorem d_Mo_line__6 : decode prog_13_method_61_code 6 = .ok (.ifCond .ge 7, 3) := by decide +kernel
theorem d_Mo_line__9 : decode prog_13_method_61_code 9 = .ok (.iconst (-1), 1) := by decide +kernel
theorem d_Mo_line__10 : decode prog_13_method_61_code 10 = .ok (.goto 9, 3) := by decide +kernel
theorem d_Mo_line__13 : decode prog_13_method_61_code 13 = .ok (.aload_n 0, 1) := by decide +kernel
theorem d_Mo_line__14 : decode prog_13_method_61_code 14 = .ok (.iload_n 1, 1) := by decide +kernel
theorem d_Mo_line__15 : decode prog_13_method_61_code 15 = .ok (.iconst 2, 1) := by decide +kernel
theorem d_Mo_line__16 : decode prog_13_method_61_code 16 = .ok (.invokevirtual 269, 3) := by decide +kernel
theorem d_Mo_line__19 : decode prog_13_method_61_code 19 = .ok (.istore_n 3, 1) := by decide +kernel
theorem d_Mo_line__20 : decode prog_13_method_61_code 20 = .ok (.iload_n 3, 1) := by decide +kernel
theorem d_Mo_line__21 : decode prog_13_method_61_code 21 = .ok (.iconst (-1), 1) := by decide +kernel
theorem d_Mo_line__22 : decode prog_13_method_61_code 22 = .ok (.if_icmp .ne 6, 3) := by decide +kernel
theorem d_Mo_line__25 : decode prog_13_method_61_code 25 = .ok (.bipush (-2), 2) := by decide +kernel
theorem d_Mo_line__27 : decode prog_13_method_61_code 27 = .ok (.ireturn, 1) := by decide +kernel
theorem d_Mo_line__28 : decode prog_13_method_61_code 28 = .ok (.iload_n 2, 1) := by decide +kernel
theorem d_Mo_line__29 : decode prog_13_method_61_code 29 = .ok (.ifCond .ge 6, 3) := by decide +kernel
theorem d_Mo_line__32 : decode prog_13_method_61_code 32 = .ok (.bipush (-3), 2) := by decide +kernel
theorem d_Mo_line__34 : decode prog_13_method_61_code 34 = .ok (.ireturn, 1) := by decide +kernel
theorem d_Mo_line__35 : decode prog_13_method_61_code 35 = .ok (.aload_n 0, 1) := by decide +kernel
theorem d_Mo_line__36 : decode prog_13_method_61_code 36 = .ok (.iconst 0, 1) := by decide +kernel
theorem d_Mo_line__37 : decode prog_13_method_61_code 37 = .ok (.putfield 272, 3) := by decide +kernel
theorem d_Mo_line__40 : decode prog_13_method_61_code 40 = .ok (.aload_n 0, 1) := by decide +kernel
theorem d_Mo_line__41 : decode prog_13_method_61_code 41 = .ok (.aload_n 0, 1) := by decide +kernel
theorem d_Mo_line__42 : decode prog_13_method_61_code 42 = .ok (.getfield 26, 3) := by decide +kernel
theorem d_Mo_line__45 : decode prog_13_method_61_code 45 = .ok (.iconst 4, 1) := by decide +kernel
theorem d_Mo_line__46 : decode prog_13_method_61_code 46 = .ok (.iload_n 3, 1) := by decide +kernel
theorem d_Mo_line__47 : decode prog_13_method_61_code 47 = .ok (.imul, 1) := by decide +kernel
theorem d_Mo_line__48 : decode prog_13_method_61_code 48 = .ok (.iconst 0, 1) := by decide +kernel
theorem d_Mo_line__49 : decode prog_13_method_61_code 49 = .ok (.iadd, 1) := by decide +kernel
theorem d_Mo_line__50 : decode prog_13_method_61_code 50 = .ok (.iaload, 1) := by decide +kernel
theorem d_Mo_line__51 : decode prog_13_method_61_code 51 = .ok (.invokevirtual 278, 3) := by decide +kernel
theorem d_Mo_line__54 : decode prog_13_method_61_code 54 = .ok (.aload_n 0, 1) := by decide +kernel
theorem d_Mo_line__55 : decode prog_13_method_61_code 55 = .ok (.bipush 47, 2) := by decide +kernel
theorem d_Mo_line__57 : decode prog_13_method_61_code 57 = .ok (.invokevirtual 275, 3) := by decide +kernel
theorem d_Mo_line__60 : decode prog_13_method_61_code 60 = .ok (.aload_n 0, 1) := by decide +kernel
theorem d_Mo_line__61 : decode prog_13_method_61_code 61 = .ok (.aload_n 0, 1) := by decide +kernel
theorem d_Mo_line__62 : decode prog_13_method_61_code 62 = .ok (.getfield 26, 3) := by decide +kernel
theorem d_Mo_line__65 : decode prog_13_method_61_code 65 = .ok (.iconst 4, 1) := by decide +kernel
theorem d_Mo_line__66 : decode prog_13_method_61_code 66 = .ok (.iload_n 3, 1) := by decide +kernel
theorem d_Mo_line__67 : decode prog_13_method_61_code 67 = .ok (.imul, 1) := by decide +kernel
theorem d_Mo_line__68 : decode prog_13_method_61_code 68 = .ok (.iconst 1, 1) := by decide +kernel
theorem d_Mo_line__69 : decode prog_13_method_61_code 69 = .ok (.iadd, 1) := by decide +kernel
theorem d_Mo_line__70 : decode prog_13_method_61_code 70 = .ok (.iaload, 1) := by decide +kernel
theorem d_Mo_line__71 : decode prog_13_method_61_code 71 = .ok (.invokevirtual 278, 3) := by decide +kernel
theorem d_Mo_line__74 : decode prog_13_method_61_code 74 = .ok (.aload_n 0, 1) := by decide +kernel
theorem d_Mo_line__75 : decode prog_13_method_61_code 75 = .ok (.bipush 32, 2) := by decide +kernel
theorem d_Mo_line__77 : decode prog_13_method_61_code 77 = .ok (.invokevirtual 275, 3) := by decide +kernel
theorem d_Mo_line__80 : decode prog_13_method_61_code 80 = .ok (.aload_n 0, 1) := by decide +kernel
theorem d_Mo_line__81 : decode prog_13_method_61_code 81 = .ok (.aload_n 0, 1) := by decide +kernel
theorem d_Mo_line__82 : decode prog_13_method_61_code 82 = .ok (.iload_n 3, 1) := by decide +kernel
theorem d_Mo_line__83 : decode prog_13_method_61_code 83 = .ok (.invokevirtual 82, 3) := by decide +kernel
theorem d_Mo_line__86 : decode prog_13_method_61_code 86 = .ok (.invokevirtual 278, 3) := by decide +kernel
theorem d_Mo_line__89 : decode prog_13_method_61_code 89 = .ok (.aload_n 0, 1) := by decide +kernel
theorem d_Mo_line__90 : decode prog_13_method_61_code 90 = .ok (.iload_n 3, 1) := by decide +kernel
theorem d_Mo_line__91 : decode prog_13_method_61_code 91 = .ok (.invokevirtual 201, 3) := by decide +kernel
theorem d_Mo_line__94 : decode prog_13_method_61_code 94 = .ok (.ifCond .eq 12, 3) := by decide +kernel
theorem d_Mo_line__97 : decode prog_13_method_61_code 97 = .ok (.aload_n 0, 1) := by decide +kernel
theorem d_Mo_line__98 : decode prog_13_method_61_code 98 = .ok (.bipush 33, 2) := by decide +kernel
theorem d_Mo_line__100 : decode prog_13_method_61_code 100 = .ok (.invokevirtual 275, 3) := by decide +kernel
theorem d_Mo_line__103 : decode prog_13_method_61_code 103 = .ok (.goto 19, 3) := by decide +kernel
theorem d_Mo_line__106 : decode prog_13_method_61_code 106 = .ok (.aload_n 0, 1) := by decide +kernel
theorem d_Mo_line__107 : decode prog_13_method_61_code 107 = .ok (.bipush 120, 2) := by decide +kernel
theorem d_Mo_line__109 : decode prog_13_method_61_code 109 = .ok (.invokevirtual 275, 3) := by decide +kernel
theorem d_Mo_line__112 : decode prog_13_method_61_code 112 = .ok (.aload_n 0, 1) := by decide +kernel
theorem d_Mo_line__113 : decode prog_13_method_61_code 113 = .ok (.aload_n 0, 1) := by decide +kernel
theorem d_Mo_line__114 : decode prog_13_method_61_code 114 = .ok (.getfield 60, 3) := by decide +kernel
theorem d_Mo_line__117 : decode prog_13_method_61_code 117 = .ok (.iload_n 3, 1) := by decide +kernel
theorem d_Mo_line__118 : decode prog_13_method_61_code 118 = .ok (.iaload, 1) := by decide +kernel
theorem d_Mo_line__119 : decode prog_13_method_61_code 119 = .ok (.invokevirtual 278, 3) := by decide +kernel
theorem d_Mo_line__122 : decode prog_13_method_61_code 122 = .ok (.aload_n 0, 1) := by decide +kernel
theorem d_Mo_line__123 : decode prog_13_method_61_code 123 = .ok (.iload_n 3, 1) := by decide +kernel
theorem d_Mo_line__124 : decode prog_13_method_61_code 124 = .ok (.invokevirtual 96, 3) := by decide +kernel
theorem d_Mo_line__127 : decode prog_13_method_61_code 127 = .ok (.iconst (-1), 1) := by decide +kernel
theorem d_Mo_line__128 : decode prog_13_method_61_code 128 = .ok (.if_icmp .eq 24, 3) := by decide +kernel
theorem d_Mo_line__131 : decode prog_13_method_61_code 131 = .ok (.aload_n 0, 1) := by decide +kernel
theorem d_Mo_line__132 : decode prog_13_method_61_code 132 = .ok (.bipush 32, 2) := by decide +kernel
theorem d_Mo_line__134 : decode prog_13_method_61_code 134 = .ok (.invokevirtual 275, 3) := by decide +kernel
theorem d_Mo_line__137 : decode prog_13_method_61_code 137 = .ok (.aload_n 0, 1) := by decide +kernel
theorem d_Mo_line__138 : decode prog_13_method_61_code 138 = .ok (.bipush 61, 2) := by decide +kernel
theorem d_Mo_line__140 : decode prog_13_method_61_code 140 = .ok (.invokevirtual 275, 3) := by decide +kernel
theorem d_Mo_line__143 : decode prog_13_method_61_code 143 = .ok (.aload_n 0, 1) := by decide +kernel
theorem d_Mo_line__144 : decode prog_13_method_61_code 144 = .ok (.aload_n 0, 1) := by decide +kernel
theorem d_Mo_line__145 : decode prog_13_method_61_code 145 = .ok (.iload_n 3, 1) := by decide +kernel
theorem d_Mo_line__146 : decode prog_13_method_61_code 146 = .ok (.invokevirtual 96, 3) := by decide +kernel
theorem d_Mo_line__149 : decode prog_13_method_61_code 149 = .ok (.invokevirtual 278, 3) := by decide +kernel
theorem d_Mo_line__152 : decode prog_13_method_61_code 152 = .ok (.iload_n 2, 1) := by decide +kernel
theorem d_Mo_line__153 : decode prog_13_method_61_code 153 = .ok (.aload_n 0, 1) := by decide +kernel
theorem d_Mo_line__154 : decode prog_13_method_61_code 154 = .ok (.getfield 272, 3) := by decide +kernel
theorem d_Mo_line__157 : decode prog_13_method_61_code 157 = .ok (.if_icmp .ge 12, 3) := by decide +kernel
theorem d_Mo_line__160 : decode prog_13_method_61_code 160 = .ok (.aload_n 0, 1) := by decide +kernel
theorem d_Mo_line__161 : decode prog_13_method_61_code 161 = .ok (.getfield 69, 3) := by decide +kernel
theorem d_Mo_line__164 : decode prog_13_method_61_code 164 = .ok (.iload_n 2, 1) := by decide +kernel
theorem d_Mo_line__165 : decode prog_13_method_61_code 165 = .ok (.iaload, 1) := by decide +kernel
theorem d_Mo_line__166 : decode prog_13_method_61_code 166 = .ok (.goto 4, 3) := by decide +kernel
theorem d_Mo_line__169 : decode prog_13_method_61_code 169 = .ok (.iconst (-1), 1) := by decide +kernel
theorem d_Mo_line__170 : decode prog_13_method_61_code 170 = .ok (.ireturn, 1) := by decide +kernel
theorem d_Mo_partOf_0 : decode prog_13_method_62_code 0 = .ok (.aload_n 0, 1) := by decide +kernel
theorem d_Mo_partOf_1 : decode prog_13_method_62_code 1 = .ok (.iload_n 1, 1) := by decide +kernel
theorem d_Mo_partOf_2 : decode prog_13_method_62_code 2 = .ok (.invokevirtual 260, 3) := by decide +kernel
theorem d_Mo_partOf_5 : decode prog_13_method_62_code 5 = .ok (.i2l, 1) := by decide +kernel
theorem d_Mo_partOf_6 : decode prog_13_method_62_code 6 = .ok (.aload_n 0, 1) := by decide +kernel
theorem d_Mo_partOf_7 : decode prog_13_method_62_code 7 = .ok (.getfield 169, 3) := by decide +kernel
theorem d_Mo_partOf_10 : decode prog_13_method_62_code 10 = .ok (.i2l, 1) := by decide +kernel
theorem d_Mo_partOf_11 : decode prog_13_method_62_code 11 = .ok (.lmul, 1) := by decide +kernel
theorem d_Mo_partOf_12 : decode prog_13_method_62_code 12 = .ok (.ldc2_w 281, 3) := by decide +kernel
theorem d_Mo_partOf_15 : decode prog_13_method_62_code 15 = .ok (.aload_n 0, 1) := by decide +kernel
theorem d_Mo_partOf_16 : decode prog_13_method_62_code 16 = .ok (.getfield 172, 3) := by decide +kernel
theorem d_Mo_partOf_19 : decode prog_13_method_62_code 19 = .ok (.i2l, 1) := by decide +kernel
theorem d_Mo_partOf_20 : decode prog_13_method_62_code 20 = .ok (.lmul, 1) := by decide +kernel
theorem d_Mo_partOf_21 : decode prog_13_method_62_code 21 = .ok (.ldiv, 1) := by decide +kernel
theorem d_Mo_partOf_22 : decode prog_13_method_62_code 22 = .ok (.l2i, 1) := by decide +kernel
theorem d_Mo_partOf_23 : decode prog_13_method_62_code 23 = .ok (.ireturn, 1) := by decide +kernel
theorem d_Mo_account_0 : decode prog_13_method_63_code 0 = .ok (.aload_n 0, 1) := by decide +kernel
theorem d_Mo_account_1 : decode prog_13_method_63_code 1 = .ok (.iconst 0, 1) := by decide +kernel
theorem d_Mo_account_2 : decode prog_13_method_63_code 2 = .ok (.putfield 1, 3) := by decide +kernel
theorem d_Mo_account_5 : decode prog_13_method_63_code 5 = .ok (.iload_n 1, 1) := by decide +kernel
theorem d_Mo_account_6 : decode prog_13_method_63_code 6 = .ok (.i2l, 1) := by decide +kernel
theorem d_Mo_account_7 : decode prog_13_method_63_code 7 = .ok (.lconst 0, 1) := by decide +kernel
theorem d_Mo_account_8 : decode prog_13_method_63_code 8 = .ok (.ldc2_w 177, 3) := by decide +kernel
theorem d_Mo_account_11 : decode prog_13_method_63_code 11 = .ok (.invokestatic 92, 3) := by decide +kernel
theorem d_Mo_account_14 : decode prog_13_method_63_code 14 = .ok (.ifCond .eq 15, 3) := by decide +kernel
theorem d_Mo_account_17 : decode prog_13_method_63_code 17 = .ok (.iload_n 2, 1) := by decide +kernel
theorem d_Mo_account_18 : decode prog_13_method_63_code 18 = .ok (.i2l, 1) := by decide +kernel
theorem d_Mo_account_19 : decode prog_13_method_63_code 19 = .ok (.lconst 0, 1) := by decide +kernel
theorem d_Mo_account_20 : decode prog_13_method_63_code 20 = .ok (.ldc2_w 283, 3) := by decide +kernel
theorem d_Mo_account_23 : decode prog_13_method_63_code 23 = .ok (.invokestatic 92, 3) := by decide +kernel
theorem d_Mo_account_26 : decode prog_13_method_63_code 26 = .ok (.ifCond .ne 6, 3) := by decide +kernel
theorem d_Mo_account_29 : decode prog_13_method_63_code 29 = .ok (.ldc 188, 2) := by decide +kernel
theorem d_Mo_account_31 : decode prog_13_method_63_code 31 = .ok (.ireturn, 1) := by decide +kernel
theorem d_Mo_account_32 : decode prog_13_method_63_code 32 = .ok (.aload_n 0, 1) := by decide +kernel
theorem d_Mo_account_33 : decode prog_13_method_63_code 33 = .ok (.invokevirtual 257, 3) := by decide +kernel
theorem d_Mo_account_36 : decode prog_13_method_63_code 36 = .ok (.iconst 0, 1) := by decide +kernel
theorem d_Mo_account_37 : decode prog_13_method_63_code 37 = .ok (.istore_n 3, 1) := by decide +kernel
theorem d_Mo_account_38 : decode prog_13_method_63_code 38 = .ok (.iconst 0, 1) := by decide +kernel
theorem d_Mo_account_39 : decode prog_13_method_63_code 39 = .ok (.istore 4, 2) := by decide +kernel
theorem d_Mo_account_41 : decode prog_13_method_63_code 41 = .ok (.iload 4, 2) := by decide +kernel
theorem d_Mo_account_43 : decode prog_13_method_63_code 43 = .ok (.aload_n 0, 1) := by decide +kernel
theorem d_Mo_account_44 : decode prog_13_method_63_code 44 = .ok (.getfield 86, 3) := by decide +kernel
theorem d_Mo_account_47 : decode prog_13_method_63_code 47 = .ok (.if_icmp .ge 157, 3) := by decide +kernel
theorem d_Mo_account_50 : decode prog_13_method_63_code 50 = .ok (.aload_n 0, 1) := by decide +kernel
theorem d_Mo_account_51 : decode prog_13_method_63_code 51 = .ok (.getfield 26, 3) := by decide +kernel
theorem d_Mo_account_54 : decode prog_13_method_63_code 54 = .ok (.iconst 4, 1) := by decide +kernel
theorem d_Mo_account_55 : decode prog_13_method_63_code 55 = .ok (.iload 4, 2) := by decide +kernel
theorem d_Mo_account_57 : decode prog_13_method_63_code 57 = .ok (.imul, 1) := by decide +kernel
theorem d_Mo_account_58 : decode prog_13_method_63_code 58 = .ok (.iconst 0, 1) := by decide +kernel
theorem d_Mo_account_59 : decode prog_13_method_63_code 59 = .ok (.iadd, 1) := by decide +kernel
theorem d_Mo_account_60 : decode prog_13_method_63_code 60 = .ok (.iaload, 1) := by decide +kernel
theorem d_Mo_account_61 : decode prog_13_method_63_code 61 = .ok (.iload_n 1, 1) := by decide +kernel
theorem d_Mo_account_62 : decode prog_13_method_63_code 62 = .ok (.if_icmp .eq 6, 3) := by decide +kernel
theorem d_Mo_account_65 : decode prog_13_method_63_code 65 = .ok (.goto 133, 3) := by decide +kernel
theorem d_Mo_account_68 : decode prog_13_method_63_code 68 = .ok (.iload_n 2, 1) := by decide +kernel
theorem d_Mo_account_69 : decode prog_13_method_63_code 69 = .ok (.tableswitch 98 0 4 #[35, 41, 53, 66, 78], 35) := by decide +kernel
theorem d_Mo_account_104 : decode prog_13_method_63_code 104 = .ok (.iinc 3 1, 3) := by decide +kernel
theorem d_Mo_account_107 : decode prog_13_method_63_code 107 = .ok (.goto 91, 3) := by decide +kernel
theorem d_Mo_account_110 : decode prog_13_method_63_code 110 = .ok (.iload_n 3, 1) := by decide +kernel
theorem d_Mo_account_111 : decode prog_13_method_63_code 111 = .ok (.aload_n 0, 1) := by decide +kernel
theorem d_Mo_account_112 : decode prog_13_method_63_code 112 = .ok (.iload 4, 2) := by decide +kernel
theorem d_Mo_account_114 : decode prog_13_method_63_code 114 = .ok (.invokevirtual 82, 3) := by decide +kernel
theorem d_Mo_account_117 : decode prog_13_method_63_code 117 = .ok (.iadd, 1) := by decide +kernel
theorem d_Mo_account_118 : decode prog_13_method_63_code 118 = .ok (.istore_n 3, 1) := by decide +kernel
theorem d_Mo_account_119 : decode prog_13_method_63_code 119 = .ok (.goto 79, 3) := by decide +kernel
theorem d_Mo_account_122 : decode prog_13_method_63_code 122 = .ok (.iload_n 3, 1) := by decide +kernel
theorem d_Mo_account_123 : decode prog_13_method_63_code 123 = .ok (.aload_n 0, 1) := by decide +kernel
theorem d_Mo_account_124 : decode prog_13_method_63_code 124 = .ok (.getfield 60, 3) := by decide +kernel
theorem d_Mo_account_127 : decode prog_13_method_63_code 127 = .ok (.iload 4, 2) := by decide +kernel
theorem d_Mo_account_129 : decode prog_13_method_63_code 129 = .ok (.iaload, 1) := by decide +kernel
theorem d_Mo_account_130 : decode prog_13_method_63_code 130 = .ok (.iadd, 1) := by decide +kernel
theorem d_Mo_account_131 : decode prog_13_method_63_code 131 = .ok (.istore_n 3, 1) := by decide +kernel
theorem d_Mo_account_132 : decode prog_13_method_63_code 132 = .ok (.goto 66, 3) := by decide +kernel
theorem d_Mo_account_135 : decode prog_13_method_63_code 135 = .ok (.iload_n 3, 1) := by decide +kernel
theorem d_Mo_account_136 : decode prog_13_method_63_code 136 = .ok (.aload_n 0, 1) := by decide +kernel
theorem d_Mo_account_137 : decode prog_13_method_63_code 137 = .ok (.iload 4, 2) := by decide +kernel
theorem d_Mo_account_139 : decode prog_13_method_63_code 139 = .ok (.invokevirtual 99, 3) := by decide +kernel
theorem d_Mo_account_142 : decode prog_13_method_63_code 142 = .ok (.iadd, 1) := by decide +kernel
theorem d_Mo_account_143 : decode prog_13_method_63_code 143 = .ok (.istore_n 3, 1) := by decide +kernel
theorem d_Mo_account_144 : decode prog_13_method_63_code 144 = .ok (.goto 54, 3) := by decide +kernel
theorem d_Mo_account_147 : decode prog_13_method_63_code 147 = .ok (.iload_n 3, 1) := by decide +kernel
theorem d_Mo_account_148 : decode prog_13_method_63_code 148 = .ok (.aload_n 0, 1) := by decide +kernel
theorem d_Mo_account_149 : decode prog_13_method_63_code 149 = .ok (.iload 4, 2) := by decide +kernel
theorem d_Mo_account_151 : decode prog_13_method_63_code 151 = .ok (.invokevirtual 201, 3) := by decide +kernel
theorem d_Mo_account_154 : decode prog_13_method_63_code 154 = .ok (.ifCond .eq 7, 3) := by decide +kernel
theorem d_Mo_account_157 : decode prog_13_method_63_code 157 = .ok (.iconst 1, 1) := by decide +kernel
theorem d_Mo_account_158 : decode prog_13_method_63_code 158 = .ok (.goto 4, 3) := by decide +kernel
theorem d_Mo_account_161 : decode prog_13_method_63_code 161 = .ok (.iconst 0, 1) := by decide +kernel
theorem d_Mo_account_162 : decode prog_13_method_63_code 162 = .ok (.iadd, 1) := by decide +kernel
theorem d_Mo_account_163 : decode prog_13_method_63_code 163 = .ok (.istore_n 3, 1) := by decide +kernel
theorem d_Mo_account_164 : decode prog_13_method_63_code 164 = .ok (.goto 34, 3) := by decide +kernel
theorem d_Mo_account_167 : decode prog_13_method_63_code 167 = .ok (.iload_n 3, 1) := by decide +kernel
theorem d_Mo_account_168 : decode prog_13_method_63_code 168 = .ok (.aload_n 0, 1) := by decide +kernel
theorem d_Mo_account_169 : decode prog_13_method_63_code 169 = .ok (.getfield 60, 3) := by decide +kernel
theorem d_Mo_account_172 : decode prog_13_method_63_code 172 = .ok (.iload 4, 2) := by decide +kernel
theorem d_Mo_account_174 : decode prog_13_method_63_code 174 = .ok (.iaload, 1) := by decide +kernel
theorem d_Mo_account_175 : decode prog_13_method_63_code 175 = .ok (.ifCond .le 20, 3) := by decide +kernel
theorem d_Mo_account_178 : decode prog_13_method_63_code 178 = .ok (.aload_n 0, 1) := by decide +kernel
theorem d_Mo_account_179 : decode prog_13_method_63_code 179 = .ok (.getfield 60, 3) := by decide +kernel
theorem d_Mo_account_182 : decode prog_13_method_63_code 182 = .ok (.iload 4, 2) := by decide +kernel
theorem d_Mo_account_184 : decode prog_13_method_63_code 184 = .ok (.iaload, 1) := by decide +kernel
theorem d_Mo_account_185 : decode prog_13_method_63_code 185 = .ok (.aload_n 0, 1) := by decide +kernel
theorem d_Mo_account_186 : decode prog_13_method_63_code 186 = .ok (.iload 4, 2) := by decide +kernel
theorem d_Mo_account_188 : decode prog_13_method_63_code 188 = .ok (.invokevirtual 285, 3) := by decide +kernel
theorem d_Mo_account_191 : decode prog_13_method_63_code 191 = .ok (.imul, 1) := by decide +kernel
theorem d_Mo_account_192 : decode prog_13_method_63_code 192 = .ok (.goto 4, 3) := by decide +kernel
theorem d_Mo_account_195 : decode prog_13_method_63_code 195 = .ok (.iconst 0, 1) := by decide +kernel
theorem d_Mo_account_196 : decode prog_13_method_63_code 196 = .ok (.iadd, 1) := by decide +kernel
theorem d_Mo_account_197 : decode prog_13_method_63_code 197 = .ok (.istore_n 3, 1) := by decide +kernel
theorem d_Mo_account_198 : decode prog_13_method_63_code 198 = .ok (.iinc 4 1, 3) := by decide +kernel
theorem d_Mo_account_201 : decode prog_13_method_63_code 201 = .ok (.goto (-160), 3) := by decide +kernel
theorem d_Mo_account_204 : decode prog_13_method_63_code 204 = .ok (.iload_n 3, 1) := by decide +kernel
theorem d_Mo_account_205 : decode prog_13_method_63_code 205 = .ok (.ireturn, 1) := by decide +kernel
theorem d_Mo_accounts_0 : decode prog_13_method_64_code 0 = .ok (.aload_n 0, 1) := by decide +kernel
theorem d_Mo_accounts_1 : decode prog_13_method_64_code 1 = .ok (.iconst 0, 1) := by decide +kernel
theorem d_Mo_accounts_2 : decode prog_13_method_64_code 2 = .ok (.putfield 1, 3) := by decide +kernel
theorem d_Mo_accounts_5 : decode prog_13_method_64_code 5 = .ok (.iload_n 1, 1) := by decide +kernel
theorem d_Mo_accounts_6 : decode prog_13_method_64_code 6 = .ok (.iconst (-1), 1) := by decide +kernel
theorem d_Mo_accounts_7 : decode prog_13_method_64_code 7 = .ok (.if_icmp .ge 6, 3) := by decide +kernel
theorem d_Mo_accounts_10 : decode prog_13_method_64_code 10 = .ok (.bipush (-3), 2) := by decide +kernel
theorem d_Mo_accounts_12 : decode prog_13_method_64_code 12 = .ok (.ireturn, 1) := by decide +kernel
theorem d_Mo_accounts_13 : decode prog_13_method_64_code 13 = .ok (.iconst 0, 1) := by decide +kernel
theorem d_Mo_accounts_14 : decode prog_13_method_64_code 14 = .ok (.istore_n 2, 1) := by decide +kernel
theorem d_Mo_accounts_15 : decode prog_13_method_64_code 15 = .ok (.iconst 0, 1) := by decide +kernel
theorem d_Mo_accounts_16 : decode prog_13_method_64_code 16 = .ok (.istore_n 3, 1) := by decide +kernel
theorem d_Mo_accounts_17 : decode prog_13_method_64_code 17 = .ok (.iload_n 3, 1) := by decide +kernel
theorem d_Mo_accounts_18 : decode prog_13_method_64_code 18 = .ok (.aload_n 0, 1) := by decide +kernel
theorem d_Mo_accounts_19 : decode prog_13_method_64_code 19 = .ok (.getfield 86, 3) := by decide +kernel
theorem d_Mo_accounts_22 : decode prog_13_method_64_code 22 = .ok (.if_icmp .ge 86, 3) := by decide +kernel
theorem d_Mo_accounts_25 : decode prog_13_method_64_code 25 = .ok (.aload_n 0, 1) := by decide +kernel
theorem d_Mo_accounts_26 : decode prog_13_method_64_code 26 = .ok (.getfield 26, 3) := by decide +kernel
theorem d_Mo_accounts_29 : decode prog_13_method_64_code 29 = .ok (.iconst 4, 1) := by decide +kernel
theorem d_Mo_accounts_30 : decode prog_13_method_64_code 30 = .ok (.iload_n 3, 1) := by decide +kernel
theorem d_Mo_accounts_31 : decode prog_13_method_64_code 31 = .ok (.imul, 1) := by decide +kernel
theorem d_Mo_accounts_32 : decode prog_13_method_64_code 32 = .ok (.iconst 0, 1) := by decide +kernel
theorem d_Mo_accounts_33 : decode prog_13_method_64_code 33 = .ok (.iadd, 1) := by decide +kernel
theorem d_Mo_accounts_34 : decode prog_13_method_64_code 34 = .ok (.iaload, 1) := by decide +kernel
theorem d_Mo_accounts_35 : decode prog_13_method_64_code 35 = .ok (.istore 4, 2) := by decide +kernel
theorem d_Mo_accounts_37 : decode prog_13_method_64_code 37 = .ok (.iconst 1, 1) := by decide +kernel
theorem d_Mo_accounts_38 : decode prog_13_method_64_code 38 = .ok (.istore 5, 2) := by decide +kernel
theorem d_Mo_accounts_40 : decode prog_13_method_64_code 40 = .ok (.iconst 0, 1) := by decide +kernel
theorem d_Mo_accounts_41 : decode prog_13_method_64_code 41 = .ok (.istore 6, 2) := by decide +kernel
theorem d_Mo_accounts_43 : decode prog_13_method_64_code 43 = .ok (.iload 6, 2) := by decide +kernel
theorem d_Mo_accounts_45 : decode prog_13_method_64_code 45 = .ok (.iload_n 3, 1) := by decide +kernel
theorem d_Mo_accounts_46 : decode prog_13_method_64_code 46 = .ok (.if_icmp .ge 37, 3) := by decide +kernel
theorem d_Mo_accounts_49 : decode prog_13_method_64_code 49 = .ok (.iload 5, 2) := by decide +kernel
theorem d_Mo_accounts_51 : decode prog_13_method_64_code 51 = .ok (.ifCond .eq 23, 3) := by decide +kernel
theorem d_Mo_accounts_54 : decode prog_13_method_64_code 54 = .ok (.aload_n 0, 1) := by decide +kernel
theorem d_Mo_accounts_55 : decode prog_13_method_64_code 55 = .ok (.getfield 26, 3) := by decide +kernel
theorem d_Mo_accounts_58 : decode prog_13_method_64_code 58 = .ok (.iconst 4, 1) := by decide +kernel
theorem d_Mo_accounts_59 : decode prog_13_method_64_code 59 = .ok (.iload 6, 2) := by decide +kernel
theorem d_Mo_accounts_61 : decode prog_13_method_64_code 61 = .ok (.imul, 1) := by decide +kernel
theorem d_Mo_accounts_62 : decode prog_13_method_64_code 62 = .ok (.iconst 0, 1) := by decide +kernel
theorem d_Mo_accounts_63 : decode prog_13_method_64_code 63 = .ok (.iadd, 1) := by decide +kernel
theorem d_Mo_accounts_64 : decode prog_13_method_64_code 64 = .ok (.iaload, 1) := by decide +kernel
theorem d_Mo_accounts_65 : decode prog_13_method_64_code 65 = .ok (.iload 4, 2) := by decide +kernel
theorem d_Mo_accounts_67 : decode prog_13_method_64_code 67 = .ok (.if_icmp .eq 7, 3) := by decide +kernel
theorem d_Mo_accounts_70 : decode prog_13_method_64_code 70 = .ok (.iconst 1, 1) := by decide +kernel
theorem d_Mo_accounts_71 : decode prog_13_method_64_code 71 = .ok (.goto 4, 3) := by decide +kernel
theorem d_Mo_accounts_74 : decode prog_13_method_64_code 74 = .ok (.iconst 0, 1) := by decide +kernel
theorem d_Mo_accounts_75 : decode prog_13_method_64_code 75 = .ok (.istore 5, 2) := by decide +kernel
theorem d_Mo_accounts_77 : decode prog_13_method_64_code 77 = .ok (.iinc 6 1, 3) := by decide +kernel
theorem d_Mo_accounts_80 : decode prog_13_method_64_code 80 = .ok (.goto (-37), 3) := by decide +kernel
theorem d_Mo_accounts_83 : decode prog_13_method_64_code 83 = .ok (.iload 5, 2) := by decide +kernel
theorem d_Mo_accounts_85 : decode prog_13_method_64_code 85 = .ok (.ifCond .ne 6, 3) := by decide +kernel
theorem d_Mo_accounts_88 : decode prog_13_method_64_code 88 = .ok (.goto 14, 3) := by decide +kernel
theorem d_Mo_accounts_91 : decode prog_13_method_64_code 91 = .ok (.iload_n 2, 1) := by decide +kernel
theorem d_Mo_accounts_92 : decode prog_13_method_64_code 92 = .ok (.iload_n 1, 1) := by decide +kernel
theorem d_Mo_accounts_93 : decode prog_13_method_64_code 93 = .ok (.if_icmp .ne 6, 3) := by decide +kernel
theorem d_Mo_accounts_96 : decode prog_13_method_64_code 96 = .ok (.iload 4, 2) := by decide +kernel
theorem d_Mo_accounts_98 : decode prog_13_method_64_code 98 = .ok (.ireturn, 1) := by decide +kernel
theorem d_Mo_accounts_99 : decode prog_13_method_64_code 99 = .ok (.iinc 2 1, 3) := by decide +kernel
theorem d_Mo_accounts_102 : decode prog_13_method_64_code 102 = .ok (.iinc 3 1, 3) := by decide +kernel
theorem d_Mo_accounts_105 : decode prog_13_method_64_code 105 = .ok (.goto (-88), 3) := by decide +kernel
theorem d_Mo_accounts_108 : decode prog_13_method_64_code 108 = .ok (.iload_n 1, 1) := by decide +kernel
theorem d_Mo_accounts_109 : decode prog_13_method_64_code 109 = .ok (.iconst (-1), 1) := by decide +kernel
theorem d_Mo_accounts_110 : decode prog_13_method_64_code 110 = .ok (.if_icmp .ne 7, 3) := by decide +kernel
theorem d_Mo_accounts_113 : decode prog_13_method_64_code 113 = .ok (.iload_n 2, 1) := by decide +kernel
theorem d_Mo_accounts_114 : decode prog_13_method_64_code 114 = .ok (.goto 4, 3) := by decide +kernel
theorem d_Mo_accounts_117 : decode prog_13_method_64_code 117 = .ok (.iconst (-1), 1) := by decide +kernel
theorem d_Mo_accounts_118 : decode prog_13_method_64_code 118 = .ok (.ireturn, 1) := by decide +kernel
theorem d_Mo_upper_0 : decode prog_13_method_65_code 0 = .ok (.aload_n 0, 1) := by decide +kernel
theorem d_Mo_upper_1 : decode prog_13_method_65_code 1 = .ok (.iconst 0, 1) := by decide +kernel
theorem d_Mo_upper_2 : decode prog_13_method_65_code 2 = .ok (.putfield 1, 3) := by decide +kernel
theorem d_Mo_upper_5 : decode prog_13_method_65_code 5 = .ok (.iload_n 1, 1) := by decide +kernel
theorem d_Mo_upper_6 : decode prog_13_method_65_code 6 = .ok (.i2l, 1) := by decide +kernel
theorem d_Mo_upper_7 : decode prog_13_method_65_code 7 = .ok (.lconst 0, 1) := by decide +kernel
theorem d_Mo_upper_8 : decode prog_13_method_65_code 8 = .ok (.ldc2_w 288, 3) := by decide +kernel
theorem d_Mo_upper_11 : decode prog_13_method_65_code 11 = .ok (.invokestatic 92, 3) := by decide +kernel
theorem d_Mo_upper_14 : decode prog_13_method_65_code 14 = .ok (.ifCond .eq 24, 3) := by decide +kernel
theorem d_Mo_upper_17 : decode prog_13_method_65_code 17 = .ok (.iload_n 2, 1) := by decide +kernel
theorem d_Mo_upper_18 : decode prog_13_method_65_code 18 = .ok (.i2l, 1) := by decide +kernel
theorem d_Mo_upper_19 : decode prog_13_method_65_code 19 = .ok (.lconst 0, 1) := by decide +kernel
theorem d_Mo_upper_20 : decode prog_13_method_65_code 20 = .ok (.ldc2_w 288, 3) := by decide +kernel
theorem d_Mo_upper_23 : decode prog_13_method_65_code 23 = .ok (.invokestatic 92, 3) := by decide +kernel
theorem d_Mo_upper_26 : decode prog_13_method_65_code 26 = .ok (.ifCond .eq 12, 3) := by decide +kernel
theorem d_Mo_upper_29 : decode prog_13_method_65_code 29 = .ok (.aload_n 0, 1) := by decide +kernel
theorem d_Mo_upper_30 : decode prog_13_method_65_code 30 = .ok (.iload_n 1, 1) := by decide +kernel
theorem d_Mo_upper_31 : decode prog_13_method_65_code 31 = .ok (.iload_n 2, 1) := by decide +kernel
theorem d_Mo_upper_32 : decode prog_13_method_65_code 32 = .ok (.invokevirtual 235, 3) := by decide +kernel
theorem d_Mo_upper_35 : decode prog_13_method_65_code 35 = .ok (.goto 5, 3) := by decide +kernel
theorem d_Mo_upper_38 : decode prog_13_method_65_code 38 = .ok (.bipush (-3), 2) := by decide +kernel
theorem d_Mo_upper_40 : decode prog_13_method_65_code 40 = .ok (.ireturn, 1) := by decide +kernel
theorem d_Mo_size_0 : decode prog_13_method_66_code 0 = .ok (.aload_n 0, 1) := by decide +kernel
theorem d_Mo_size_1 : decode prog_13_method_66_code 1 = .ok (.iconst 0, 1) := by decide +kernel
theorem d_Mo_size_2 : decode prog_13_method_66_code 2 = .ok (.putfield 1, 3) := by decide +kernel
theorem d_Mo_size_5 : decode prog_13_method_66_code 5 = .ok (.iload_n 1, 1) := by decide +kernel
theorem d_Mo_size_6 : decode prog_13_method_66_code 6 = .ok (.i2l, 1) := by decide +kernel
theorem d_Mo_size_7 : decode prog_13_method_66_code 7 = .ok (.lconst 1, 1) := by decide +kernel
theorem d_Mo_size_8 : decode prog_13_method_66_code 8 = .ok (.ldc2_w 290, 3) := by decide +kernel
theorem d_Mo_size_11 : decode prog_13_method_66_code 11 = .ok (.invokestatic 92, 3) := by decide +kernel
theorem d_Mo_size_14 : decode prog_13_method_66_code 14 = .ok (.ifCond .ne 6, 3) := by decide +kernel
theorem d_Mo_size_17 : decode prog_13_method_66_code 17 = .ok (.bipush (-3), 2) := by decide +kernel
theorem d_Mo_size_19 : decode prog_13_method_66_code 19 = .ok (.ireturn, 1) := by decide +kernel
theorem d_Mo_size_20 : decode prog_13_method_66_code 20 = .ok (.aload_n 0, 1) := by decide +kernel
theorem d_Mo_size_21 : decode prog_13_method_66_code 21 = .ok (.invokevirtual 232, 3) := by decide +kernel
theorem d_Mo_size_24 : decode prog_13_method_66_code 24 = .ok (.ifCond .ne 8, 3) := by decide +kernel
theorem d_Mo_size_27 : decode prog_13_method_66_code 27 = .ok (.bipush (-5), 2) := by decide +kernel
theorem d_Mo_size_29 : decode prog_13_method_66_code 29 = .ok (.goto 14, 3) := by decide +kernel
theorem d_Mo_size_32 : decode prog_13_method_66_code 32 = .ok (.aload_n 0, 1) := by decide +kernel
theorem d_Mo_size_33 : decode prog_13_method_66_code 33 = .ok (.iload_n 1, 1) := by decide +kernel
theorem d_Mo_size_34 : decode prog_13_method_66_code 34 = .ok (.aload_n 0, 1) := by decide +kernel
theorem d_Mo_size_35 : decode prog_13_method_66_code 35 = .ok (.getfield 14, 3) := by decide +kernel
theorem d_Mo_size_38 : decode prog_13_method_66_code 38 = .ok (.iconst 2, 1) := by decide +kernel
theorem d_Mo_size_39 : decode prog_13_method_66_code 39 = .ok (.iaload, 1) := by decide +kernel
theorem d_Mo_size_40 : decode prog_13_method_66_code 40 = .ok (.invokevirtual 240, 3) := by decide +kernel
theorem d_Mo_size_43 : decode prog_13_method_66_code 43 = .ok (.ireturn, 1) := by decide +kernel
theorem d_Mo_projectedBy_0 : decode prog_13_method_67_code 0 = .ok (.iconst 0, 1) := by decide +kernel
theorem d_Mo_projectedBy_1 : decode prog_13_method_67_code 1 = .ok (.istore_n 2, 1) := by decide +kernel
theorem d_Mo_projectedBy_2 : decode prog_13_method_67_code 2 = .ok (.iconst 0, 1) := by decide +kernel
theorem d_Mo_projectedBy_3 : decode prog_13_method_67_code 3 = .ok (.istore_n 3, 1) := by decide +kernel
theorem d_Mo_projectedBy_4 : decode prog_13_method_67_code 4 = .ok (.iload_n 3, 1) := by decide +kernel
theorem d_Mo_projectedBy_5 : decode prog_13_method_67_code 5 = .ok (.aload_n 0, 1) := by decide +kernel
theorem d_Mo_projectedBy_6 : decode prog_13_method_67_code 6 = .ok (.getfield 207, 3) := by decide +kernel
theorem d_Mo_projectedBy_9 : decode prog_13_method_67_code 9 = .ok (.if_icmp .ge 37, 3) := by decide +kernel
theorem d_Mo_projectedBy_12 : decode prog_13_method_67_code 12 = .ok (.iload_n 1, 1) := by decide +kernel
theorem d_Mo_projectedBy_13 : decode prog_13_method_67_code 13 = .ok (.aload_n 0, 1) := by decide +kernel
theorem d_Mo_projectedBy_14 : decode prog_13_method_67_code 14 = .ok (.aload_n 0, 1) := by decide +kernel
theorem d_Mo_projectedBy_15 : decode prog_13_method_67_code 15 = .ok (.getfield 51, 3) := by decide +kernel
theorem d_Mo_projectedBy_18 : decode prog_13_method_67_code 18 = .ok (.iload_n 3, 1) := by decide +kernel
theorem d_Mo_projectedBy_19 : decode prog_13_method_67_code 19 = .ok (.iaload, 1) := by decide +kernel
theorem d_Mo_projectedBy_20 : decode prog_13_method_67_code 20 = .ok (.invokevirtual 285, 3) := by decide +kernel
theorem d_Mo_projectedBy_23 : decode prog_13_method_67_code 23 = .ok (.imul, 1) := by decide +kernel
theorem d_Mo_projectedBy_24 : decode prog_13_method_67_code 24 = .ok (.istore 4, 2) := by decide +kernel
theorem d_Mo_projectedBy_26 : decode prog_13_method_67_code 26 = .ok (.iload_n 2, 1) := by decide +kernel
theorem d_Mo_projectedBy_27 : decode prog_13_method_67_code 27 = .ok (.iload 4, 2) := by decide +kernel
theorem d_Mo_projectedBy_29 : decode prog_13_method_67_code 29 = .ok (.ifCond .le 8, 3) := by decide +kernel
theorem d_Mo_projectedBy_32 : decode prog_13_method_67_code 32 = .ok (.iload 4, 2) := by decide +kernel
theorem d_Mo_projectedBy_34 : decode prog_13_method_67_code 34 = .ok (.goto 4, 3) := by decide +kernel
theorem d_Mo_projectedBy_37 : decode prog_13_method_67_code 37 = .ok (.iconst 0, 1) := by decide +kernel
theorem d_Mo_projectedBy_38 : decode prog_13_method_67_code 38 = .ok (.iadd, 1) := by decide +kernel
theorem d_Mo_projectedBy_39 : decode prog_13_method_67_code 39 = .ok (.istore_n 2, 1) := by decide +kernel
theorem d_Mo_projectedBy_40 : decode prog_13_method_67_code 40 = .ok (.iinc 3 1, 3) := by decide +kernel
theorem d_Mo_projectedBy_43 : decode prog_13_method_67_code 43 = .ok (.goto (-39), 3) := by decide +kernel
theorem d_Mo_projectedBy_46 : decode prog_13_method_67_code 46 = .ok (.iload_n 2, 1) := by decide +kernel
theorem d_Mo_projectedBy_47 : decode prog_13_method_67_code 47 = .ok (.ireturn, 1) := by decide +kernel
theorem d_Mo_knownBy_0 : decode prog_13_method_68_code 0 = .ok (.iconst 0, 1) := by decide +kernel
theorem d_Mo_knownBy_1 : decode prog_13_method_68_code 1 = .ok (.istore_n 2, 1) := by decide +kernel
theorem d_Mo_knownBy_2 : decode prog_13_method_68_code 2 = .ok (.iconst 0, 1) := by decide +kernel
theorem d_Mo_knownBy_3 : decode prog_13_method_68_code 3 = .ok (.istore_n 3, 1) := by decide +kernel
theorem d_Mo_knownBy_4 : decode prog_13_method_68_code 4 = .ok (.iload_n 3, 1) := by decide +kernel
theorem d_Mo_knownBy_5 : decode prog_13_method_68_code 5 = .ok (.aload_n 0, 1) := by decide +kernel
theorem d_Mo_knownBy_6 : decode prog_13_method_68_code 6 = .ok (.getfield 86, 3) := by decide +kernel
theorem d_Mo_knownBy_9 : decode prog_13_method_68_code 9 = .ok (.if_icmp .ge 37, 3) := by decide +kernel
theorem d_Mo_knownBy_12 : decode prog_13_method_68_code 12 = .ok (.aload_n 0, 1) := by decide +kernel
theorem d_Mo_knownBy_13 : decode prog_13_method_68_code 13 = .ok (.iload_n 3, 1) := by decide +kernel
theorem d_Mo_knownBy_14 : decode prog_13_method_68_code 14 = .ok (.invokevirtual 201, 3) := by decide +kernel
theorem d_Mo_knownBy_17 : decode prog_13_method_68_code 17 = .ok (.ifCond .eq 23, 3) := by decide +kernel
theorem d_Mo_knownBy_20 : decode prog_13_method_68_code 20 = .ok (.iload_n 1, 1) := by decide +kernel
theorem d_Mo_knownBy_21 : decode prog_13_method_68_code 21 = .ok (.aload_n 0, 1) := by decide +kernel
theorem d_Mo_knownBy_22 : decode prog_13_method_68_code 22 = .ok (.iload_n 3, 1) := by decide +kernel
theorem d_Mo_knownBy_23 : decode prog_13_method_68_code 23 = .ok (.invokevirtual 99, 3) := by decide +kernel
theorem d_Mo_knownBy_26 : decode prog_13_method_68_code 26 = .ok (.imul, 1) := by decide +kernel
theorem d_Mo_knownBy_27 : decode prog_13_method_68_code 27 = .ok (.ifCond .le 13, 3) := by decide +kernel
theorem d_Mo_knownBy_30 : decode prog_13_method_68_code 30 = .ok (.iload_n 2, 1) := by decide +kernel
theorem d_Mo_knownBy_31 : decode prog_13_method_68_code 31 = .ok (.iload_n 1, 1) := by decide +kernel
theorem d_Mo_knownBy_32 : decode prog_13_method_68_code 32 = .ok (.aload_n 0, 1) := by decide +kernel
theorem d_Mo_knownBy_33 : decode prog_13_method_68_code 33 = .ok (.iload_n 3, 1) := by decide +kernel
theorem d_Mo_knownBy_34 : decode prog_13_method_68_code 34 = .ok (.invokevirtual 99, 3) := by decide +kernel
theorem d_Mo_knownBy_37 : decode prog_13_method_68_code 37 = .ok (.imul, 1) := by decide +kernel
theorem d_Mo_knownBy_38 : decode prog_13_method_68_code 38 = .ok (.iadd, 1) := by decide +kernel
theorem d_Mo_knownBy_39 : decode prog_13_method_68_code 39 = .ok (.istore_n 2, 1) := by decide +kernel
theorem d_Mo_knownBy_40 : decode prog_13_method_68_code 40 = .ok (.iinc 3 1, 3) := by decide +kernel
theorem d_Mo_knownBy_43 : decode prog_13_method_68_code 43 = .ok (.goto (-39), 3) := by decide +kernel
theorem d_Mo_knownBy_46 : decode prog_13_method_68_code 46 = .ok (.iload_n 2, 1) := by decide +kernel
theorem d_Mo_knownBy_47 : decode prog_13_method_68_code 47 = .ok (.ireturn, 1) := by decide +kernel
theorem d_Mo_projected_0 : decode prog_13_method_69_code 0 = .ok (.aload_n 0, 1) := by decide +kernel
theorem d_Mo_projected_1 : decode prog_13_method_69_code 1 = .ok (.iconst 0, 1) := by decide +kernel
theorem d_Mo_projected_2 : decode prog_13_method_69_code 2 = .ok (.putfield 1, 3) := by decide +kernel
theorem d_Mo_projected_5 : decode prog_13_method_69_code 5 = .ok (.iload_n 1, 1) := by decide +kernel
theorem d_Mo_projected_6 : decode prog_13_method_69_code 6 = .ok (.i2l, 1) := by decide +kernel
theorem d_Mo_projected_7 : decode prog_13_method_69_code 7 = .ok (.lconst 0, 1) := by decide +kernel
theorem d_Mo_projected_8 : decode prog_13_method_69_code 8 = .ok (.ldc2_w 175, 3) := by decide +kernel
theorem d_Mo_projected_11 : decode prog_13_method_69_code 11 = .ok (.invokestatic 92, 3) := by decide +kernel
theorem d_Mo_projected_14 : decode prog_13_method_69_code 14 = .ok (.ifCond .eq 10, 3) := by decide +kernel
theorem d_Mo_projected_17 : decode prog_13_method_69_code 17 = .ok (.aload_n 0, 1) := by decide +kernel
theorem d_Mo_projected_18 : decode prog_13_method_69_code 18 = .ok (.getfield 172, 3) := by decide +kernel
theorem d_Mo_projected_21 : decode prog_13_method_69_code 21 = .ok (.ifCond .ne 6, 3) := by decide +kernel
theorem d_Mo_projected_24 : decode prog_13_method_69_code 24 = .ok (.ldc 188, 2) := by decide +kernel
theorem d_Mo_projected_26 : decode prog_13_method_69_code 26 = .ok (.ireturn, 1) := by decide +kernel
theorem d_Mo_projected_27 : decode prog_13_method_69_code 27 = .ok (.aload_n 0, 1) := by decide +kernel
theorem d_Mo_projected_28 : decode prog_13_method_69_code 28 = .ok (.invokevirtual 257, 3) := by decide +kernel
theorem d_Mo_projected_31 : decode prog_13_method_69_code 31 = .ok (.iload_n 1, 1) := by decide +kernel
theorem d_Mo_projected_32 : decode prog_13_method_69_code 32 = .ok (.tableswitch 56 0 3 #[32, 38, 44, 50], 32) := by decide +kernel
theorem d_Mo_projected_64 : decode prog_13_method_69_code 64 = .ok (.aload_n 0, 1) := by decide +kernel
theorem d_Mo_projected_65 : decode prog_13_method_69_code 65 = .ok (.iconst 1, 1) := by decide +kernel
theorem d_Mo_projected_66 : decode prog_13_method_69_code 66 = .ok (.invokevirtual 292, 3) := by decide +kernel
theorem d_Mo_projected_69 : decode prog_13_method_69_code 69 = .ok (.ireturn, 1) := by decide +kernel
theorem d_Mo_projected_70 : decode prog_13_method_69_code 70 = .ok (.aload_n 0, 1) := by decide +kernel
theorem d_Mo_projected_71 : decode prog_13_method_69_code 71 = .ok (.iconst (-1), 1) := by decide +kernel
theorem d_Mo_projected_72 : decode prog_13_method_69_code 72 = .ok (.invokevirtual 292, 3) := by decide +kernel
theorem d_Mo_projected_75 : decode prog_13_method_69_code 75 = .ok (.ireturn, 1) := by decide +kernel
theorem d_Mo_projected_76 : decode prog_13_method_69_code 76 = .ok (.aload_n 0, 1) := by decide +kernel
theorem d_Mo_projected_77 : decode prog_13_method_69_code 77 = .ok (.iconst 1, 1) := by decide +kernel
theorem d_Mo_projected_78 : decode prog_13_method_69_code 78 = .ok (.invokevirtual 295, 3) := by decide +kernel
theorem d_Mo_projected_81 : decode prog_13_method_69_code 81 = .ok (.ireturn, 1) := by decide +kernel
theorem d_Mo_projected_82 : decode prog_13_method_69_code 82 = .ok (.aload_n 0, 1) := by decide +kernel
theorem d_Mo_projected_83 : decode prog_13_method_69_code 83 = .ok (.iconst (-1), 1) := by decide +kernel
theorem d_Mo_projected_84 : decode prog_13_method_69_code 84 = .ok (.invokevirtual 295, 3) := by decide +kernel
theorem d_Mo_projected_87 : decode prog_13_method_69_code 87 = .ok (.ireturn, 1) := by decide +kernel
theorem d_Mo_projected_88 : decode prog_13_method_69_code 88 = .ok (.aload_n 0, 1) := by decide +kernel
theorem d_Mo_projected_89 : decode prog_13_method_69_code 89 = .ok (.iconst 1, 1) := by decide +kernel
theorem d_Mo_projected_90 : decode prog_13_method_69_code 90 = .ok (.invokevirtual 292, 3) := by decide +kernel
theorem d_Mo_projected_93 : decode prog_13_method_69_code 93 = .ok (.aload_n 0, 1) := by decide +kernel
theorem d_Mo_projected_94 : decode prog_13_method_69_code 94 = .ok (.iconst 1, 1) := by decide +kernel
theorem d_Mo_projected_95 : decode prog_13_method_69_code 95 = .ok (.invokevirtual 295, 3) := by decide +kernel
theorem d_Mo_projected_98 : decode prog_13_method_69_code 98 = .ok (.iadd, 1) := by decide +kernel
theorem d_Mo_projected_99 : decode prog_13_method_69_code 99 = .ok (.aload_n 0, 1) := by decide +kernel
theorem d_Mo_projected_100 : decode prog_13_method_69_code 100 = .ok (.iconst (-1), 1) := by decide +kernel
theorem d_Mo_projected_101 : decode prog_13_method_69_code 101 = .ok (.invokevirtual 292, 3) := by decide +kernel
theorem d_Mo_projected_104 : decode prog_13_method_69_code 104 = .ok (.isub, 1) := by decide +kernel
theorem d_Mo_projected_105 : decode prog_13_method_69_code 105 = .ok (.aload_n 0, 1) := by decide +kernel
theorem d_Mo_projected_106 : decode prog_13_method_69_code 106 = .ok (.iconst (-1), 1) := by decide +kernel
theorem d_Mo_projected_107 : decode prog_13_method_69_code 107 = .ok (.invokevirtual 295, 3) := by decide +kernel
theorem d_Mo_projected_110 : decode prog_13_method_69_code 110 = .ok (.isub, 1) := by decide +kernel
theorem d_Mo_projected_111 : decode prog_13_method_69_code 111 = .ok (.ireturn, 1) := by decide +kernel
theorem d_Mo_laysRanks_0 : decode prog_13_method_70_code 0 = .ok (.aload_n 0, 1) := by decide +kernel
theorem d_Mo_laysRanks_1 : decode prog_13_method_70_code 1 = .ok (.iconst 0, 1) := by decide +kernel
theorem d_Mo_laysRanks_2 : decode prog_13_method_70_code 2 = .ok (.putfield 298, 3) := by decide +kernel
theorem d_Mo_laysRanks_5 : decode prog_13_method_70_code 5 = .ok (.iconst 0, 1) := by decide +kernel
theorem d_Mo_laysRanks_6 : decode prog_13_method_70_code 6 = .ok (.istore_n 2, 1) := by decide +kernel
theorem d_Mo_laysRanks_7 : decode prog_13_method_70_code 7 = .ok (.iload_n 2, 1) := by decide +kernel
theorem d_Mo_laysRanks_8 : decode prog_13_method_70_code 8 = .ok (.aload_n 0, 1) := by decide +kernel
theorem d_Mo_laysRanks_9 : decode prog_13_method_70_code 9 = .ok (.getfield 207, 3) := by decide +kernel
theorem d_Mo_laysRanks_12 : decode prog_13_method_70_code 12 = .ok (.if_icmp .ge 104, 3) := by decide +kernel
theorem d_Mo_laysRanks_15 : decode prog_13_method_70_code 15 = .ok (.iload_n 1, 1) := by decide +kernel
theorem d_Mo_laysRanks_16 : decode prog_13_method_70_code 16 = .ok (.aload_n 0, 1) := by decide +kernel
theorem d_Mo_laysRanks_17 : decode prog_13_method_70_code 17 = .ok (.aload_n 0, 1) := by decide +kernel
theorem d_Mo_laysRanks_18 : decode prog_13_method_70_code 18 = .ok (.getfield 51, 3) := by decide +kernel
theorem d_Mo_laysRanks_21 : decode prog_13_method_70_code 21 = .ok (.iload_n 2, 1) := by decide +kernel
theorem d_Mo_laysRanks_22 : decode prog_13_method_70_code 22 = .ok (.iaload, 1) := by decide +kernel
theorem d_Mo_laysRanks_23 : decode prog_13_method_70_code 23 = .ok (.invokevirtual 260, 3) := by decide +kernel
theorem d_Mo_laysRanks_26 : decode prog_13_method_70_code 26 = .ok (.imul, 1) := by decide +kernel
theorem d_Mo_laysRanks_27 : decode prog_13_method_70_code 27 = .ok (.istore_n 3, 1) := by decide +kernel
theorem d_Mo_laysRanks_28 : decode prog_13_method_70_code 28 = .ok (.iload_n 3, 1) := by decide +kernel
theorem d_Mo_laysRanks_29 : decode prog_13_method_70_code 29 = .ok (.ifCond .gt 6, 3) := by decide +kernel
theorem d_Mo_laysRanks_32 : decode prog_13_method_70_code 32 = .ok (.goto 78, 3) := by decide +kernel
theorem d_Mo_laysRanks_35 : decode prog_13_method_70_code 35 = .ok (.aload_n 0, 1) := by decide +kernel
theorem d_Mo_laysRanks_36 : decode prog_13_method_70_code 36 = .ok (.getfield 298, 3) := by decide +kernel
theorem d_Mo_laysRanks_39 : decode prog_13_method_70_code 39 = .ok (.istore 4, 2) := by decide +kernel
theorem d_Mo_laysRanks_41 : decode prog_13_method_70_code 41 = .ok (.iload 4, 2) := by decide +kernel
theorem d_Mo_laysRanks_43 : decode prog_13_method_70_code 43 = .ok (.ifCond .le 49, 3) := by decide +kernel
theorem d_Mo_laysRanks_46 : decode prog_13_method_70_code 46 = .ok (.iload_n 1, 1) := by decide +kernel
theorem d_Mo_laysRanks_47 : decode prog_13_method_70_code 47 = .ok (.aload_n 0, 1) := by decide +kernel
theorem d_Mo_laysRanks_48 : decode prog_13_method_70_code 48 = .ok (.aload_n 0, 1) := by decide +kernel
theorem d_Mo_laysRanks_49 : decode prog_13_method_70_code 49 = .ok (.getfield 51, 3) := by decide +kernel
theorem d_Mo_laysRanks_52 : decode prog_13_method_70_code 52 = .ok (.aload_n 0, 1) := by decide +kernel
theorem d_Mo_laysRanks_53 : decode prog_13_method_70_code 53 = .ok (.getfield 72, 3) := by decide +kernel
theorem d_Mo_laysRanks_56 : decode prog_13_method_70_code 56 = .ok (.iload 4, 2) := by decide +kernel
theorem d_Mo_laysRanks_58 : decode prog_13_method_70_code 58 = .ok (.iconst 1, 1) := by decide +kernel
theorem d_Mo_laysRanks_59 : decode prog_13_method_70_code 59 = .ok (.isub, 1) := by decide +kernel
theorem d_Mo_laysRanks_60 : decode prog_13_method_70_code 60 = .ok (.iaload, 1) := by decide +kernel
theorem d_Mo_laysRanks_61 : decode prog_13_method_70_code 61 = .ok (.iaload, 1) := by decide +kernel
theorem d_Mo_laysRanks_62 : decode prog_13_method_70_code 62 = .ok (.invokevirtual 260, 3) := by decide +kernel
theorem d_Mo_laysRanks_65 : decode prog_13_method_70_code 65 = .ok (.imul, 1) := by decide +kernel
theorem d_Mo_laysRanks_66 : decode prog_13_method_70_code 66 = .ok (.iload_n 3, 1) := by decide +kernel
theorem d_Mo_laysRanks_67 : decode prog_13_method_70_code 67 = .ok (.if_icmp .ge 25, 3) := by decide +kernel
theorem d_Mo_laysRanks_70 : decode prog_13_method_70_code 70 = .ok (.aload_n 0, 1) := by decide +kernel
theorem d_Mo_laysRanks_71 : decode prog_13_method_70_code 71 = .ok (.getfield 72, 3) := by decide +kernel
theorem d_Mo_laysRanks_74 : decode prog_13_method_70_code 74 = .ok (.iload 4, 2) := by decide +kernel
theorem d_Mo_laysRanks_76 : decode prog_13_method_70_code 76 = .ok (.aload_n 0, 1) := by decide +kernel
theorem d_Mo_laysRanks_77 : decode prog_13_method_70_code 77 = .ok (.getfield 72, 3) := by decide +kernel
theorem d_Mo_laysRanks_80 : decode prog_13_method_70_code 80 = .ok (.iload 4, 2) := by decide +kernel
theorem d_Mo_laysRanks_82 : decode prog_13_method_70_code 82 = .ok (.iconst 1, 1) := by decide +kernel
theorem d_Mo_laysRanks_83 : decode prog_13_method_70_code 83 = .ok (.isub, 1) := by decide +kernel
theorem d_Mo_laysRanks_84 : decode prog_13_method_70_code 84 = .ok (.iaload, 1) := by decide +kernel
theorem d_Mo_laysRanks_85 : decode prog_13_method_70_code 85 = .ok (.iastore, 1) := by decide +kernel
theorem d_Mo_laysRanks_86 : decode prog_13_method_70_code 86 = .ok (.iinc 4 (-1), 3) := by decide +kernel
theorem d_Mo_laysRanks_89 : decode prog_13_method_70_code 89 = .ok (.goto (-48), 3) := by decide +kernel
theorem d_Mo_laysRanks_92 : decode prog_13_method_70_code 92 = .ok (.aload_n 0, 1) := by decide +kernel
theorem d_Mo_laysRanks_93 : decode prog_13_method_70_code 93 = .ok (.getfield 72, 3) := by decide +kernel
theorem d_Mo_laysRanks_96 : decode prog_13_method_70_code 96 = .ok (.iload 4, 2) := by decide +kernel
theorem d_Mo_laysRanks_98 : decode prog_13_method_70_code 98 = .ok (.iload_n 2, 1) := by decide +kernel
theorem d_Mo_laysRanks_99 : decode prog_13_method_70_code 99 = .ok (.iastore, 1) := by decide +kernel
theorem d_Mo_laysRanks_100 : decode prog_13_method_70_code 100 = .ok (.aload_n 0, 1) := by decide +kernel
theorem d_Mo_laysRanks_101 : decode prog_13_method_70_code 101 = .ok (.dup, 1) := by decide +kernel
theorem d_Mo_laysRanks_102 : decode prog_13_method_70_code 102 = .ok (.getfield 298, 3) := by decide +kernel
theorem d_Mo_laysRanks_105 : decode prog_13_method_70_code 105 = .ok (.iconst 1, 1) := by decide +kernel
theorem d_Mo_laysRanks_106 : decode prog_13_method_70_code 106 = .ok (.iadd, 1) := by decide +kernel
theorem d_Mo_laysRanks_107 : decode prog_13_method_70_code 107 = .ok (.putfield 298, 3) := by decide +kernel
theorem d_Mo_laysRanks_110 : decode prog_13_method_70_code 110 = .ok (.iinc 2 1, 3) := by decide +kernel
theorem d_Mo_laysRanks_113 : decode prog_13_method_70_code 113 = .ok (.goto (-106), 3) := by decide +kernel
theorem d_Mo_laysRanks_116 : decode prog_13_method_70_code 116 = .ok (.return_, 1) := by decide +kernel
theorem d_Mo_riseOf_0 : decode prog_13_method_71_code 0 = .ok (.aload_n 0, 1) := by decide +kernel
theorem d_Mo_riseOf_1 : decode prog_13_method_71_code 1 = .ok (.aload_n 0, 1) := by decide +kernel
theorem d_Mo_riseOf_2 : decode prog_13_method_71_code 2 = .ok (.getfield 51, 3) := by decide +kernel
theorem d_Mo_riseOf_5 : decode prog_13_method_71_code 5 = .ok (.aload_n 0, 1) := by decide +kernel
theorem d_Mo_riseOf_6 : decode prog_13_method_71_code 6 = .ok (.getfield 72, 3) := by decide +kernel
theorem d_Mo_riseOf_9 : decode prog_13_method_71_code 9 = .ok (.iload_n 1, 1) := by decide +kernel
theorem d_Mo_riseOf_10 : decode prog_13_method_71_code 10 = .ok (.iconst 1, 1) := by decide +kernel
theorem d_Mo_riseOf_11 : decode prog_13_method_71_code 11 = .ok (.isub, 1) := by decide +kernel
theorem d_Mo_riseOf_12 : decode prog_13_method_71_code 12 = .ok (.iaload, 1) := by decide +kernel
theorem d_Mo_riseOf_13 : decode prog_13_method_71_code 13 = .ok (.iaload, 1) := by decide +kernel
theorem d_Mo_riseOf_14 : decode prog_13_method_71_code 14 = .ok (.invokevirtual 260, 3) := by decide +kernel
theorem d_Mo_riseOf_17 : decode prog_13_method_71_code 17 = .ok (.istore_n 3, 1) := by decide +kernel
theorem d_Mo_riseOf_18 : decode prog_13_method_71_code 18 = .ok (.aload_n 0, 1) := by decide +kernel
theorem d_Mo_riseOf_19 : decode prog_13_method_71_code 19 = .ok (.iload_n 2, 1) := by decide +kernel
theorem d_Mo_riseOf_20 : decode prog_13_method_71_code 20 = .ok (.iload_n 1, 1) := by decide +kernel
theorem d_Mo_riseOf_21 : decode prog_13_method_71_code 21 = .ok (.invokevirtual 235, 3) := by decide +kernel
theorem d_Mo_riseOf_24 : decode prog_13_method_71_code 24 = .ok (.aload_n 0, 1) := by decide +kernel
theorem d_Mo_riseOf_25 : decode prog_13_method_71_code 25 = .ok (.iload_n 2, 1) := by decide +kernel
theorem d_Mo_riseOf_26 : decode prog_13_method_71_code 26 = .ok (.iload_n 1, 1) := by decide +kernel
theorem d_Mo_riseOf_27 : decode prog_13_method_71_code 27 = .ok (.iconst 1, 1) := by decide +kernel
theorem d_Mo_riseOf_28 : decode prog_13_method_71_code 28 = .ok (.isub, 1) := by decide +kernel
theorem d_Mo_riseOf_29 : decode prog_13_method_71_code 29 = .ok (.invokevirtual 235, 3) := by decide +kernel
theorem d_Mo_riseOf_32 : decode prog_13_method_71_code 32 = .ok (.isub, 1) := by decide +kernel
theorem d_Mo_riseOf_33 : decode prog_13_method_71_code 33 = .ok (.i2l, 1) := by decide +kernel
theorem d_Mo_riseOf_34 : decode prog_13_method_71_code 34 = .ok (.lstore 4, 2) := by decide +kernel
theorem d_Mo_riseOf_36 : decode prog_13_method_71_code 36 = .ok (.aload_n 0, 1) := by decide +kernel
theorem d_Mo_riseOf_37 : decode prog_13_method_71_code 37 = .ok (.getfield 198, 3) := by decide +kernel
theorem d_Mo_riseOf_40 : decode prog_13_method_71_code 40 = .ok (.i2l, 1) := by decide +kernel
theorem d_Mo_riseOf_41 : decode prog_13_method_71_code 41 = .ok (.lload 4, 2) := by decide +kernel
theorem d_Mo_riseOf_43 : decode prog_13_method_71_code 43 = .ok (.lmul, 1) := by decide +kernel
theorem d_Mo_riseOf_44 : decode prog_13_method_71_code 44 = .ok (.iload_n 3, 1) := by decide +kernel
theorem d_Mo_riseOf_45 : decode prog_13_method_71_code 45 = .ok (.ifCond .ge 8, 3) := by decide +kernel
theorem d_Mo_riseOf_48 : decode prog_13_method_71_code 48 = .ok (.iload_n 3, 1) := by decide +kernel
theorem d_Mo_riseOf_49 : decode prog_13_method_71_code 49 = .ok (.ineg, 1) := by decide +kernel
theorem d_Mo_riseOf_50 : decode prog_13_method_71_code 50 = .ok (.goto 4, 3) := by decide +kernel
theorem d_Mo_riseOf_53 : decode prog_13_method_71_code 53 = .ok (.iload_n 3, 1) := by decide +kernel
theorem d_Mo_riseOf_54 : decode prog_13_method_71_code 54 = .ok (.i2l, 1) := by decide +kernel
theorem d_Mo_riseOf_55 : decode prog_13_method_71_code 55 = .ok (.lmul, 1) := by decide +kernel
theorem d_Mo_riseOf_56 : decode prog_13_method_71_code 56 = .ok (.ldc2_w 301, 3) := by decide +kernel
theorem d_Mo_riseOf_59 : decode prog_13_method_71_code 59 = .ok (.ldiv, 1) := by decide +kernel
theorem d_Mo_riseOf_60 : decode prog_13_method_71_code 60 = .ok (.l2i, 1) := by decide +kernel
theorem d_Mo_riseOf_61 : decode prog_13_method_71_code 61 = .ok (.ireturn, 1) := by decide +kernel
theorem d_Mo_basicBy_0 : decode prog_13_method_72_code 0 = .ok (.aload_n 0, 1) := by decide +kernel
theorem d_Mo_basicBy_1 : decode prog_13_method_72_code 1 = .ok (.getfield 198, 3) := by decide +kernel
theorem d_Mo_basicBy_4 : decode prog_13_method_72_code 4 = .ok (.i2l, 1) := by decide +kernel
theorem d_Mo_basicBy_5 : decode prog_13_method_72_code 5 = .ok (.aload_n 0, 1) := by decide +kernel
theorem d_Mo_basicBy_6 : decode prog_13_method_72_code 6 = .ok (.iload_n 1, 1) := by decide +kernel
theorem d_Mo_basicBy_7 : decode prog_13_method_72_code 7 = .ok (.iconst 0, 1) := by decide +kernel
theorem d_Mo_basicBy_8 : decode prog_13_method_72_code 8 = .ok (.invokevirtual 235, 3) := by decide +kernel
theorem d_Mo_basicBy_11 : decode prog_13_method_72_code 11 = .ok (.i2l, 1) := by decide +kernel
theorem d_Mo_basicBy_12 : decode prog_13_method_72_code 12 = .ok (.lmul, 1) := by decide +kernel
theorem d_Mo_basicBy_13 : decode prog_13_method_72_code 13 = .ok (.ldc2_w 238, 3) := by decide +kernel
theorem d_Mo_basicBy_16 : decode prog_13_method_72_code 16 = .ok (.ldiv, 1) := by decide +kernel
theorem d_Mo_basicBy_17 : decode prog_13_method_72_code 17 = .ok (.l2i, 1) := by decide +kernel
theorem d_Mo_basicBy_18 : decode prog_13_method_72_code 18 = .ok (.ireturn, 1) := by decide +kernel
theorem d_Mo_risesBy_0 : decode prog_13_method_73_code 0 = .ok (.aload_n 0, 1) := by decide +kernel
theorem d_Mo_risesBy_1 : decode prog_13_method_73_code 1 = .ok (.iload_n 1, 1) := by decide +kernel
theorem d_Mo_risesBy_2 : decode prog_13_method_73_code 2 = .ok (.invokevirtual 303, 3) := by decide +kernel
theorem d_Mo_risesBy_5 : decode prog_13_method_73_code 5 = .ok (.iconst 0, 1) := by decide +kernel
theorem d_Mo_risesBy_6 : decode prog_13_method_73_code 6 = .ok (.istore_n 3, 1) := by decide +kernel
theorem d_Mo_risesBy_7 : decode prog_13_method_73_code 7 = .ok (.iconst 1, 1) := by decide +kernel
theorem d_Mo_risesBy_8 : decode prog_13_method_73_code 8 = .ok (.istore 4, 2) := by decide +kernel
theorem d_Mo_risesBy_10 : decode prog_13_method_73_code 10 = .ok (.iload 4, 2) := by decide +kernel
theorem d_Mo_risesBy_12 : decode prog_13_method_73_code 12 = .ok (.aload_n 0, 1) := by decide +kernel
theorem d_Mo_risesBy_13 : decode prog_13_method_73_code 13 = .ok (.getfield 298, 3) := by decide +kernel
theorem d_Mo_risesBy_16 : decode prog_13_method_73_code 16 = .ok (.if_icmp .gt 19, 3) := by decide +kernel
theorem d_Mo_risesBy_19 : decode prog_13_method_73_code 19 = .ok (.iload_n 3, 1) := by decide +kernel
theorem d_Mo_risesBy_20 : decode prog_13_method_73_code 20 = .ok (.aload_n 0, 1) := by decide +kernel
theorem d_Mo_risesBy_21 : decode prog_13_method_73_code 21 = .ok (.iload 4, 2) := by decide +kernel
theorem d_Mo_risesBy_23 : decode prog_13_method_73_code 23 = .ok (.iload_n 2, 1) := by decide +kernel
theorem d_Mo_risesBy_24 : decode prog_13_method_73_code 24 = .ok (.invokevirtual 306, 3) := by decide +kernel
theorem d_Mo_risesBy_27 : decode prog_13_method_73_code 27 = .ok (.iadd, 1) := by decide +kernel
theorem d_Mo_risesBy_28 : decode prog_13_method_73_code 28 = .ok (.istore_n 3, 1) := by decide +kernel
theorem d_Mo_risesBy_29 : decode prog_13_method_73_code 29 = .ok (.iinc 4 1, 3) := by decide +kernel
theorem d_Mo_risesBy_32 : decode prog_13_method_73_code 32 = .ok (.goto (-22), 3) := by decide +kernel
theorem d_Mo_risesBy_35 : decode prog_13_method_73_code 35 = .ok (.iload_n 3, 1) := by decide +kernel
theorem d_Mo_risesBy_36 : decode prog_13_method_73_code 36 = .ok (.ireturn, 1) := by decide +kernel
theorem d_Mo_boundBy_0 : decode prog_13_method_74_code 0 = .ok (.aload_n 0, 1) := by decide +kernel
theorem d_Mo_boundBy_1 : decode prog_13_method_74_code 1 = .ok (.iload_n 2, 1) := by decide +kernel
theorem d_Mo_boundBy_2 : decode prog_13_method_74_code 2 = .ok (.invokevirtual 309, 3) := by decide +kernel
theorem d_Mo_boundBy_5 : decode prog_13_method_74_code 5 = .ok (.aload_n 0, 1) := by decide +kernel
theorem d_Mo_boundBy_6 : decode prog_13_method_74_code 6 = .ok (.iload_n 1, 1) := by decide +kernel
theorem d_Mo_boundBy_7 : decode prog_13_method_74_code 7 = .ok (.iload_n 2, 1) := by decide +kernel
theorem d_Mo_boundBy_8 : decode prog_13_method_74_code 8 = .ok (.invokevirtual 312, 3) := by decide +kernel
theorem d_Mo_boundBy_11 : decode prog_13_method_74_code 11 = .ok (.iadd, 1) := by decide +kernel
theorem d_Mo_boundBy_12 : decode prog_13_method_74_code 12 = .ok (.aload_n 0, 1) := by decide +kernel
theorem d_Mo_boundBy_13 : decode prog_13_method_74_code 13 = .ok (.iload_n 1, 1) := by decide +kernel
theorem d_Mo_boundBy_14 : decode prog_13_method_74_code 14 = .ok (.invokevirtual 295, 3) := by decide +kernel
theorem d_Mo_boundBy_17 : decode prog_13_method_74_code 17 = .ok (.iadd, 1) := by decide +kernel
theorem d_Mo_boundBy_18 : decode prog_13_method_74_code 18 = .ok (.istore_n 3, 1) := by decide +kernel
theorem d_Mo_boundBy_19 : decode prog_13_method_74_code 19 = .ok (.aload_n 0, 1) := by decide +kernel
theorem d_Mo_boundBy_20 : decode prog_13_method_74_code 20 = .ok (.getfield 14, 3) := by decide +kernel
theorem d_Mo_boundBy_23 : decode prog_13_method_74_code 23 = .ok (.iconst 3, 1) := by decide +kernel
theorem d_Mo_boundBy_24 : decode prog_13_method_74_code 24 = .ok (.iaload, 1) := by decide +kernel
theorem d_Mo_boundBy_25 : decode prog_13_method_74_code 25 = .ok (.iconst 1, 1) := by decide +kernel
theorem d_Mo_boundBy_26 : decode prog_13_method_74_code 26 = .ok (.if_icmp .ne 21, 3) := by decide +kernel
theorem d_Mo_boundBy_29 : decode prog_13_method_74_code 29 = .ok (.iload_n 3, 1) := by decide +kernel
theorem d_Mo_boundBy_30 : decode prog_13_method_74_code 30 = .ok (.aload_n 0, 1) := by decide +kernel
theorem d_Mo_boundBy_31 : decode prog_13_method_74_code 31 = .ok (.iload_n 1, 1) := by decide +kernel
theorem d_Mo_boundBy_32 : decode prog_13_method_74_code 32 = .ok (.ineg, 1) := by decide +kernel
theorem d_Mo_boundBy_33 : decode prog_13_method_74_code 33 = .ok (.invokevirtual 295, 3) := by decide +kernel
theorem d_Mo_boundBy_36 : decode prog_13_method_74_code 36 = .ok (.isub, 1) := by decide +kernel
theorem d_Mo_boundBy_37 : decode prog_13_method_74_code 37 = .ok (.aload_n 0, 1) := by decide +kernel
theorem d_Mo_boundBy_38 : decode prog_13_method_74_code 38 = .ok (.iload_n 1, 1) := by decide +kernel
theorem d_Mo_boundBy_39 : decode prog_13_method_74_code 39 = .ok (.ineg, 1) := by decide +kernel
theorem d_Mo_boundBy_40 : decode prog_13_method_74_code 40 = .ok (.invokevirtual 292, 3) := by decide +kernel
theorem d_Mo_boundBy_43 : decode prog_13_method_74_code 43 = .ok (.isub, 1) := by decide +kernel
theorem d_Mo_boundBy_44 : decode prog_13_method_74_code 44 = .ok (.goto 4, 3) := by decide +kernel
theorem d_Mo_boundBy_47 : decode prog_13_method_74_code 47 = .ok (.iload_n 3, 1) := by decide +kernel
theorem d_Mo_boundBy_48 : decode prog_13_method_74_code 48 = .ok (.ireturn, 1) := by decide +kernel
theorem d_Mo_taint_0 : decode prog_13_method_75_code 0 = .ok (.aload_n 0, 1) := by decide +kernel
theorem d_Mo_taint_1 : decode prog_13_method_75_code 1 = .ok (.iconst 0, 1) := by decide +kernel
theorem d_Mo_taint_2 : decode prog_13_method_75_code 2 = .ok (.putfield 1, 3) := by decide +kernel
theorem d_Mo_taint_5 : decode prog_13_method_75_code 5 = .ok (.aload_n 0, 1) := by decide +kernel
theorem d_Mo_taint_6 : decode prog_13_method_75_code 6 = .ok (.invokevirtual 257, 3) := by decide +kernel
theorem d_Mo_taint_9 : decode prog_13_method_75_code 9 = .ok (.aload_n 0, 1) := by decide +kernel
theorem d_Mo_taint_10 : decode prog_13_method_75_code 10 = .ok (.iconst 1, 1) := by decide +kernel
theorem d_Mo_taint_11 : decode prog_13_method_75_code 11 = .ok (.invokevirtual 303, 3) := by decide +kernel
theorem d_Mo_taint_14 : decode prog_13_method_75_code 14 = .ok (.iload_n 1, 1) := by decide +kernel
theorem d_Mo_taint_15 : decode prog_13_method_75_code 15 = .ok (.i2l, 1) := by decide +kernel
theorem d_Mo_taint_16 : decode prog_13_method_75_code 16 = .ok (.lconst 0, 1) := by decide +kernel
theorem d_Mo_taint_17 : decode prog_13_method_75_code 17 = .ok (.aload_n 0, 1) := by decide +kernel
theorem d_Mo_taint_18 : decode prog_13_method_75_code 18 = .ok (.getfield 298, 3) := by decide +kernel
theorem d_Mo_taint_21 : decode prog_13_method_75_code 21 = .ok (.iconst 1, 1) := by decide +kernel
theorem d_Mo_taint_22 : decode prog_13_method_75_code 22 = .ok (.isub, 1) := by decide +kernel
theorem d_Mo_taint_23 : decode prog_13_method_75_code 23 = .ok (.i2l, 1) := by decide +kernel
theorem d_Mo_taint_24 : decode prog_13_method_75_code 24 = .ok (.invokestatic 92, 3) := by decide +kernel
theorem d_Mo_taint_27 : decode prog_13_method_75_code 27 = .ok (.ifCond .ne 6, 3) := by decide +kernel
theorem d_Mo_taint_30 : decode prog_13_method_75_code 30 = .ok (.bipush (-2), 2) := by decide +kernel
theorem d_Mo_taint_32 : decode prog_13_method_75_code 32 = .ok (.ireturn, 1) := by decide +kernel
theorem d_Mo_taint_33 : decode prog_13_method_75_code 33 = .ok (.iload_n 2, 1) := by decide +kernel
theorem d_Mo_taint_34 : decode prog_13_method_75_code 34 = .ok (.tableswitch 61 0 2 #[26, 33, 49], 26) := by decide +kernel
theorem d_Mo_taint_60 : decode prog_13_method_75_code 60 = .ok (.aload_n 0, 1) := by decide +kernel
theorem d_Mo_taint_61 : decode prog_13_method_75_code 61 = .ok (.getfield 72, 3) := by decide +kernel
theorem d_Mo_taint_64 : decode prog_13_method_75_code 64 = .ok (.iload_n 1, 1) := by decide +kernel
theorem d_Mo_taint_65 : decode prog_13_method_75_code 65 = .ok (.iaload, 1) := by decide +kernel
theorem d_Mo_taint_66 : decode prog_13_method_75_code 66 = .ok (.ireturn, 1) := by decide +kernel
theorem d_Mo_taint_67 : decode prog_13_method_75_code 67 = .ok (.aload_n 0, 1) := by decide +kernel
theorem d_Mo_taint_68 : decode prog_13_method_75_code 68 = .ok (.aload_n 0, 1) := by decide +kernel
theorem d_Mo_taint_69 : decode prog_13_method_75_code 69 = .ok (.getfield 51, 3) := by decide +kernel
theorem d_Mo_taint_72 : decode prog_13_method_75_code 72 = .ok (.aload_n 0, 1) := by decide +kernel
theorem d_Mo_taint_73 : decode prog_13_method_75_code 73 = .ok (.getfield 72, 3) := by decide +kernel
theorem d_Mo_taint_76 : decode prog_13_method_75_code 76 = .ok (.iload_n 1, 1) := by decide +kernel
theorem d_Mo_taint_77 : decode prog_13_method_75_code 77 = .ok (.iaload, 1) := by decide +kernel
theorem d_Mo_taint_78 : decode prog_13_method_75_code 78 = .ok (.iaload, 1) := by decide +kernel
theorem d_Mo_taint_79 : decode prog_13_method_75_code 79 = .ok (.invokevirtual 260, 3) := by decide +kernel
theorem d_Mo_taint_82 : decode prog_13_method_75_code 82 = .ok (.ireturn, 1) := by decide +kernel
theorem d_Mo_taint_83 : decode prog_13_method_75_code 83 = .ok (.aload_n 0, 1) := by decide +kernel
theorem d_Mo_taint_84 : decode prog_13_method_75_code 84 = .ok (.iload_n 1, 1) := by decide +kernel
theorem d_Mo_taint_85 : decode prog_13_method_75_code 85 = .ok (.iconst 1, 1) := by decide +kernel
theorem d_Mo_taint_86 : decode prog_13_method_75_code 86 = .ok (.iadd, 1) := by decide +kernel
theorem d_Mo_taint_87 : decode prog_13_method_75_code 87 = .ok (.aload_n 0, 1) := by decide +kernel
theorem d_Mo_taint_88 : decode prog_13_method_75_code 88 = .ok (.getfield 207, 3) := by decide +kernel
theorem d_Mo_taint_91 : decode prog_13_method_75_code 91 = .ok (.invokevirtual 306, 3) := by decide +kernel
theorem d_Mo_taint_94 : decode prog_13_method_75_code 94 = .ok (.ireturn, 1) := by decide +kernel
theorem d_Mo_taint_95 : decode prog_13_method_75_code 95 = .ok (.bipush (-2), 2) := by decide +kernel
theorem d_Mo_taint_97 : decode prog_13_method_75_code 97 = .ok (.ireturn, 1) := by decide +kernel
theorem d_Mo_bound_0 : decode prog_13_method_76_code 0 = .ok (.aload_n 0, 1) := by decide +kernel
theorem d_Mo_bound_1 : decode prog_13_method_76_code 1 = .ok (.iconst 0, 1) := by decide +kernel
theorem d_Mo_bound_2 : decode prog_13_method_76_code 2 = .ok (.putfield 1, 3) := by decide +kernel
theorem d_Mo_bound_5 : decode prog_13_method_76_code 5 = .ok (.iload_n 1, 1) := by decide +kernel
theorem d_Mo_bound_6 : decode prog_13_method_76_code 6 = .ok (.i2l, 1) := by decide +kernel
theorem d_Mo_bound_7 : decode prog_13_method_76_code 7 = .ok (.lconst 0, 1) := by decide +kernel
theorem d_Mo_bound_8 : decode prog_13_method_76_code 8 = .ok (.ldc2_w 175, 3) := by decide +kernel
theorem d_Mo_bound_11 : decode prog_13_method_76_code 11 = .ok (.invokestatic 92, 3) := by decide +kernel
theorem d_Mo_bound_14 : decode prog_13_method_76_code 14 = .ok (.ifCond .eq 10, 3) := by decide +kernel
theorem d_Mo_bound_17 : decode prog_13_method_76_code 17 = .ok (.aload_n 0, 1) := by decide +kernel
theorem d_Mo_bound_18 : decode prog_13_method_76_code 18 = .ok (.getfield 172, 3) := by decide +kernel
theorem d_Mo_bound_21 : decode prog_13_method_76_code 21 = .ok (.ifCond .ne 6, 3) := by decide +kernel
theorem d_Mo_bound_24 : decode prog_13_method_76_code 24 = .ok (.ldc 188, 2) := by decide +kernel
theorem d_Mo_bound_26 : decode prog_13_method_76_code 26 = .ok (.ireturn, 1) := by decide +kernel
theorem d_Mo_bound_27 : decode prog_13_method_76_code 27 = .ok (.aload_n 0, 1) := by decide +kernel
theorem d_Mo_bound_28 : decode prog_13_method_76_code 28 = .ok (.invokevirtual 257, 3) := by decide +kernel
theorem d_Mo_bound_31 : decode prog_13_method_76_code 31 = .ok (.iload_n 1, 1) := by decide +kernel
theorem d_Mo_bound_32 : decode prog_13_method_76_code 32 = .ok (.tableswitch 67 0 3 #[32, 41, 51, 57], 32) := by decide +kernel
theorem d_Mo_bound_64 : decode prog_13_method_76_code 64 = .ok (.aload_n 0, 1) := by decide +kernel
theorem d_Mo_bound_65 : decode prog_13_method_76_code 65 = .ok (.aload_n 0, 1) := by decide +kernel
theorem d_Mo_bound_66 : decode prog_13_method_76_code 66 = .ok (.getfield 207, 3) := by decide +kernel
theorem d_Mo_bound_69 : decode prog_13_method_76_code 69 = .ok (.invokevirtual 309, 3) := by decide +kernel
theorem d_Mo_bound_72 : decode prog_13_method_76_code 72 = .ok (.ireturn, 1) := by decide +kernel
theorem d_Mo_bound_73 : decode prog_13_method_76_code 73 = .ok (.aload_n 0, 1) := by decide +kernel
theorem d_Mo_bound_74 : decode prog_13_method_76_code 74 = .ok (.iconst 1, 1) := by decide +kernel
theorem d_Mo_bound_75 : decode prog_13_method_76_code 75 = .ok (.aload_n 0, 1) := by decide +kernel
theorem d_Mo_bound_76 : decode prog_13_method_76_code 76 = .ok (.getfield 207, 3) := by decide +kernel
theorem d_Mo_bound_79 : decode prog_13_method_76_code 79 = .ok (.invokevirtual 312, 3) := by decide +kernel
theorem d_Mo_bound_82 : decode prog_13_method_76_code 82 = .ok (.ireturn, 1) := by decide +kernel
theorem d_Mo_bound_83 : decode prog_13_method_76_code 83 = .ok (.aload_n 0, 1) := by decide +kernel
theorem d_Mo_bound_84 : decode prog_13_method_76_code 84 = .ok (.iconst 1, 1) := by decide +kernel
theorem d_Mo_bound_85 : decode prog_13_method_76_code 85 = .ok (.invokevirtual 295, 3) := by decide +kernel
theorem d_Mo_bound_88 : decode prog_13_method_76_code 88 = .ok (.ireturn, 1) := by decide +kernel
theorem d_Mo_bound_89 : decode prog_13_method_76_code 89 = .ok (.aload_n 0, 1) := by decide +kernel
theorem d_Mo_bound_90 : decode prog_13_method_76_code 90 = .ok (.iconst 1, 1) := by decide +kernel
theorem d_Mo_bound_91 : decode prog_13_method_76_code 91 = .ok (.aload_n 0, 1) := by decide +kernel
theorem d_Mo_bound_92 : decode prog_13_method_76_code 92 = .ok (.getfield 207, 3) := by decide +kernel
theorem d_Mo_bound_95 : decode prog_13_method_76_code 95 = .ok (.invokevirtual 315, 3) := by decide +kernel
theorem d_Mo_bound_98 : decode prog_13_method_76_code 98 = .ok (.ireturn, 1) := by decide +kernel
theorem d_Mo_bound_99 : decode prog_13_method_76_code 99 = .ok (.aload_n 0, 1) := by decide +kernel
theorem d_Mo_bound_100 : decode prog_13_method_76_code 100 = .ok (.getfield 14, 3) := by decide +kernel
theorem d_Mo_bound_103 : decode prog_13_method_76_code 103 = .ok (.iconst 0, 1) := by decide +kernel
theorem d_Mo_bound_104 : decode prog_13_method_76_code 104 = .ok (.iaload, 1) := by decide +kernel
theorem d_Mo_bound_105 : decode prog_13_method_76_code 105 = .ok (.aload_n 0, 1) := by decide +kernel
theorem d_Mo_bound_106 : decode prog_13_method_76_code 106 = .ok (.iconst 1, 1) := by decide +kernel
theorem d_Mo_bound_107 : decode prog_13_method_76_code 107 = .ok (.aload_n 0, 1) := by decide +kernel
theorem d_Mo_bound_108 : decode prog_13_method_76_code 108 = .ok (.getfield 207, 3) := by decide +kernel
theorem d_Mo_bound_111 : decode prog_13_method_76_code 111 = .ok (.invokevirtual 315, 3) := by decide +kernel
theorem d_Mo_bound_114 : decode prog_13_method_76_code 114 = .ok (.isub, 1) := by decide +kernel
theorem d_Mo_bound_115 : decode prog_13_method_76_code 115 = .ok (.ireturn, 1) := by decide +kernel
theorem d_Mo_below_0 : decode prog_13_method_77_code 0 = .ok (.aload_n 0, 1) := by decide +kernel
theorem d_Mo_below_1 : decode prog_13_method_77_code 1 = .ok (.iconst 0, 1) := by decide +kernel
theorem d_Mo_below_2 : decode prog_13_method_77_code 2 = .ok (.putfield 1, 3) := by decide +kernel
theorem d_Mo_below_5 : decode prog_13_method_77_code 5 = .ok (.iload_n 1, 1) := by decide +kernel
theorem d_Mo_below_6 : decode prog_13_method_77_code 6 = .ok (.i2l, 1) := by decide +kernel
theorem d_Mo_below_7 : decode prog_13_method_77_code 7 = .ok (.lconst 0, 1) := by decide +kernel
theorem d_Mo_below_8 : decode prog_13_method_77_code 8 = .ok (.ldc2_w 318, 3) := by decide +kernel
theorem d_Mo_below_11 : decode prog_13_method_77_code 11 = .ok (.invokestatic 92, 3) := by decide +kernel
theorem d_Mo_below_14 : decode prog_13_method_77_code 14 = .ok (.ifCond .eq 10, 3) := by decide +kernel
theorem d_Mo_below_17 : decode prog_13_method_77_code 17 = .ok (.aload_n 0, 1) := by decide +kernel
theorem d_Mo_below_18 : decode prog_13_method_77_code 18 = .ok (.getfield 172, 3) := by decide +kernel
theorem d_Mo_below_21 : decode prog_13_method_77_code 21 = .ok (.ifCond .ne 6, 3) := by decide +kernel
theorem d_Mo_below_24 : decode prog_13_method_77_code 24 = .ok (.ldc 188, 2) := by decide +kernel
theorem d_Mo_below_26 : decode prog_13_method_77_code 26 = .ok (.ireturn, 1) := by decide +kernel
theorem d_Mo_below_27 : decode prog_13_method_77_code 27 = .ok (.aload_n 0, 1) := by decide +kernel
theorem d_Mo_below_28 : decode prog_13_method_77_code 28 = .ok (.invokevirtual 257, 3) := by decide +kernel
theorem d_Mo_below_31 : decode prog_13_method_77_code 31 = .ok (.iload_n 1, 1) := by decide +kernel
theorem d_Mo_below_32 : decode prog_13_method_77_code 32 = .ok (.tableswitch 53 0 2 #[28, 37, 47], 28) := by decide +kernel
theorem d_Mo_below_60 : decode prog_13_method_77_code 60 = .ok (.aload_n 0, 1) := by decide +kernel
theorem d_Mo_below_61 : decode prog_13_method_77_code 61 = .ok (.aload_n 0, 1) := by decide +kernel
theorem d_Mo_below_62 : decode prog_13_method_77_code 62 = .ok (.getfield 207, 3) := by decide +kernel
theorem d_Mo_below_65 : decode prog_13_method_77_code 65 = .ok (.invokevirtual 309, 3) := by decide +kernel
theorem d_Mo_below_68 : decode prog_13_method_77_code 68 = .ok (.ireturn, 1) := by decide +kernel
theorem d_Mo_below_69 : decode prog_13_method_77_code 69 = .ok (.aload_n 0, 1) := by decide +kernel
theorem d_Mo_below_70 : decode prog_13_method_77_code 70 = .ok (.iconst (-1), 1) := by decide +kernel
theorem d_Mo_below_71 : decode prog_13_method_77_code 71 = .ok (.aload_n 0, 1) := by decide +kernel
theorem d_Mo_below_72 : decode prog_13_method_77_code 72 = .ok (.getfield 207, 3) := by decide +kernel
theorem d_Mo_below_75 : decode prog_13_method_77_code 75 = .ok (.invokevirtual 312, 3) := by decide +kernel
theorem d_Mo_below_78 : decode prog_13_method_77_code 78 = .ok (.ireturn, 1) := by decide +kernel
theorem d_Mo_below_79 : decode prog_13_method_77_code 79 = .ok (.aload_n 0, 1) := by decide +kernel
theorem d_Mo_below_80 : decode prog_13_method_77_code 80 = .ok (.iconst (-1), 1) := by decide +kernel
theorem d_Mo_below_81 : decode prog_13_method_77_code 81 = .ok (.invokevirtual 295, 3) := by decide +kernel
theorem d_Mo_below_84 : decode prog_13_method_77_code 84 = .ok (.ireturn, 1) := by decide +kernel
theorem d_Mo_below_85 : decode prog_13_method_77_code 85 = .ok (.aload_n 0, 1) := by decide +kernel
theorem d_Mo_below_86 : decode prog_13_method_77_code 86 = .ok (.iconst (-1), 1) := by decide +kernel
theorem d_Mo_below_87 : decode prog_13_method_77_code 87 = .ok (.aload_n 0, 1) := by decide +kernel
theorem d_Mo_below_88 : decode prog_13_method_77_code 88 = .ok (.getfield 207, 3) := by decide +kernel
theorem d_Mo_below_91 : decode prog_13_method_77_code 91 = .ok (.invokevirtual 315, 3) := by decide +kernel
theorem d_Mo_below_94 : decode prog_13_method_77_code 94 = .ok (.ireturn, 1) := by decide +kernel
theorem d_Mo_judged_0 : decode prog_13_method_78_code 0 = .ok (.aload_n 0, 1) := by decide +kernel
theorem d_Mo_judged_1 : decode prog_13_method_78_code 1 = .ok (.iconst 0, 1) := by decide +kernel
theorem d_Mo_judged_2 : decode prog_13_method_78_code 2 = .ok (.putfield 1, 3) := by decide +kernel
theorem d_Mo_judged_5 : decode prog_13_method_78_code 5 = .ok (.aload_n 0, 1) := by decide +kernel
theorem d_Mo_judged_6 : decode prog_13_method_78_code 6 = .ok (.getfield 172, 3) := by decide +kernel
theorem d_Mo_judged_9 : decode prog_13_method_78_code 9 = .ok (.ifCond .ne 5, 3) := by decide +kernel
theorem d_Mo_judged_12 : decode prog_13_method_78_code 12 = .ok (.iconst 0, 1) := by decide +kernel
theorem d_Mo_judged_13 : decode prog_13_method_78_code 13 = .ok (.ireturn, 1) := by decide +kernel
theorem d_Mo_judged_14 : decode prog_13_method_78_code 14 = .ok (.aload_n 0, 1) := by decide +kernel
theorem d_Mo_judged_15 : decode prog_13_method_78_code 15 = .ok (.iconst (-1), 1) := by decide +kernel
theorem d_Mo_judged_16 : decode prog_13_method_78_code 16 = .ok (.iconst 1, 1) := by decide +kernel
theorem d_Mo_judged_17 : decode prog_13_method_78_code 17 = .ok (.invokevirtual 269, 3) := by decide +kernel
theorem d_Mo_judged_20 : decode prog_13_method_78_code 20 = .ok (.ifCond .le 5, 3) := by decide +kernel
theorem d_Mo_judged_23 : decode prog_13_method_78_code 23 = .ok (.iconst 1, 1) := by decide +kernel
theorem d_Mo_judged_24 : decode prog_13_method_78_code 24 = .ok (.ireturn, 1) := by decide +kernel
theorem d_Mo_judged_25 : decode prog_13_method_78_code 25 = .ok (.aload_n 0, 1) := by decide +kernel
theorem d_Mo_judged_26 : decode prog_13_method_78_code 26 = .ok (.iconst 1, 1) := by decide +kernel
theorem d_Mo_judged_27 : decode prog_13_method_78_code 27 = .ok (.aload_n 0, 1) := by decide +kernel
theorem d_Mo_judged_28 : decode prog_13_method_78_code 28 = .ok (.getfield 207, 3) := by decide +kernel
theorem d_Mo_judged_31 : decode prog_13_method_78_code 31 = .ok (.invokevirtual 315, 3) := by decide +kernel
theorem d_Mo_judged_34 : decode prog_13_method_78_code 34 = .ok (.aload_n 0, 1) := by decide +kernel
theorem d_Mo_judged_35 : decode prog_13_method_78_code 35 = .ok (.getfield 14, 3) := by decide +kernel
theorem d_Mo_judged_38 : decode prog_13_method_78_code 38 = .ok (.iconst 0, 1) := by decide +kernel
theorem d_Mo_judged_39 : decode prog_13_method_78_code 39 = .ok (.iaload, 1) := by decide +kernel
theorem d_Mo_judged_40 : decode prog_13_method_78_code 40 = .ok (.if_icmp .gt 7, 3) := by decide +kernel
theorem d_Mo_judged_43 : decode prog_13_method_78_code 43 = .ok (.iconst 2, 1) := by decide +kernel
theorem d_Mo_judged_44 : decode prog_13_method_78_code 44 = .ok (.goto 4, 3) := by decide +kernel
theorem d_Mo_judged_47 : decode prog_13_method_78_code 47 = .ok (.iconst 3, 1) := by decide +kernel
theorem d_Mo_judged_48 : decode prog_13_method_78_code 48 = .ok (.ireturn, 1) := by decide +kernel
theorem d_Mo_boundIf_0 : decode prog_13_method_79_code 0 = .ok (.aload_n 0, 1) := by decide +kernel
theorem d_Mo_boundIf_1 : decode prog_13_method_79_code 1 = .ok (.iload_n 1, 1) := by decide +kernel
theorem d_Mo_boundIf_2 : decode prog_13_method_79_code 2 = .ok (.invokevirtual 96, 3) := by decide +kernel
theorem d_Mo_boundIf_5 : decode prog_13_method_79_code 5 = .ok (.istore_n 3, 1) := by decide +kernel
theorem d_Mo_boundIf_6 : decode prog_13_method_79_code 6 = .ok (.aload_n 0, 1) := by decide +kernel
theorem d_Mo_boundIf_7 : decode prog_13_method_79_code 7 = .ok (.getfield 26, 3) := by decide +kernel
theorem d_Mo_boundIf_10 : decode prog_13_method_79_code 10 = .ok (.iconst 4, 1) := by decide +kernel
theorem d_Mo_boundIf_11 : decode prog_13_method_79_code 11 = .ok (.iload_n 1, 1) := by decide +kernel
theorem d_Mo_boundIf_12 : decode prog_13_method_79_code 12 = .ok (.imul, 1) := by decide +kernel
theorem d_Mo_boundIf_13 : decode prog_13_method_79_code 13 = .ok (.iconst 3, 1) := by decide +kernel
theorem d_Mo_boundIf_14 : decode prog_13_method_79_code 14 = .ok (.iadd, 1) := by decide +kernel
theorem d_Mo_boundIf_15 : decode prog_13_method_79_code 15 = .ok (.iload_n 2, 1) := by decide +kernel
theorem d_Mo_boundIf_16 : decode prog_13_method_79_code 16 = .ok (.iastore, 1) := by decide +kernel
theorem d_Mo_boundIf_17 : decode prog_13_method_79_code 17 = .ok (.aload_n 0, 1) := by decide +kernel
theorem d_Mo_boundIf_18 : decode prog_13_method_79_code 18 = .ok (.iconst 1, 1) := by decide +kernel
theorem d_Mo_boundIf_19 : decode prog_13_method_79_code 19 = .ok (.aload_n 0, 1) := by decide +kernel
theorem d_Mo_boundIf_20 : decode prog_13_method_79_code 20 = .ok (.getfield 207, 3) := by decide +kernel
theorem d_Mo_boundIf_23 : decode prog_13_method_79_code 23 = .ok (.invokevirtual 315, 3) := by decide +kernel
theorem d_Mo_boundIf_26 : decode prog_13_method_79_code 26 = .ok (.istore 4, 2) := by decide +kernel
theorem d_Mo_boundIf_28 : decode prog_13_method_79_code 28 = .ok (.aload_n 0, 1) := by decide +kernel
theorem d_Mo_boundIf_29 : decode prog_13_method_79_code 29 = .ok (.getfield 26, 3) := by decide +kernel
theorem d_Mo_boundIf_32 : decode prog_13_method_79_code 32 = .ok (.iconst 4, 1) := by decide +kernel
theorem d_Mo_boundIf_33 : decode prog_13_method_79_code 33 = .ok (.iload_n 1, 1) := by decide +kernel
theorem d_Mo_boundIf_34 : decode prog_13_method_79_code 34 = .ok (.imul, 1) := by decide +kernel
theorem d_Mo_boundIf_35 : decode prog_13_method_79_code 35 = .ok (.iconst 3, 1) := by decide +kernel
theorem d_Mo_boundIf_36 : decode prog_13_method_79_code 36 = .ok (.iadd, 1) := by decide +kernel
theorem d_Mo_boundIf_37 : decode prog_13_method_79_code 37 = .ok (.iload_n 3, 1) := by decide +kernel
theorem d_Mo_boundIf_38 : decode prog_13_method_79_code 38 = .ok (.iastore, 1) := by decide +kernel
theorem d_Mo_boundIf_39 : decode prog_13_method_79_code 39 = .ok (.iload 4, 2) := by decide +kernel
theorem d_Mo_boundIf_41 : decode prog_13_method_79_code 41 = .ok (.ireturn, 1) := by decide +kernel
theorem d_Mo_would_0 : decode prog_13_method_80_code 0 = .ok (.aload_n 0, 1) := by decide +kernel
theorem d_Mo_would_1 : decode prog_13_method_80_code 1 = .ok (.iconst 0, 1) := by decide +kernel
theorem d_Mo_would_2 : decode prog_13_method_80_code 2 = .ok (.putfield 1, 3) := by decide +kernel
theorem d_Mo_would_5 : decode prog_13_method_80_code 5 = .ok (.aload_n 0, 1) := by decide +kernel
theorem d_Mo_would_6 : decode prog_13_method_80_code 6 = .ok (.iload_n 1, 1) := by decide +kernel
theorem d_Mo_would_7 : decode prog_13_method_80_code 7 = .ok (.invokevirtual 185, 3) := by decide +kernel
theorem d_Mo_would_10 : decode prog_13_method_80_code 10 = .ok (.ifCond .eq 27, 3) := by decide +kernel
theorem d_Mo_would_13 : decode prog_13_method_80_code 13 = .ok (.aload_n 0, 1) := by decide +kernel
theorem d_Mo_would_14 : decode prog_13_method_80_code 14 = .ok (.iload_n 1, 1) := by decide +kernel
theorem d_Mo_would_15 : decode prog_13_method_80_code 15 = .ok (.iload_n 2, 1) := by decide +kernel
theorem d_Mo_would_16 : decode prog_13_method_80_code 16 = .ok (.invokevirtual 191, 3) := by decide +kernel
theorem d_Mo_would_19 : decode prog_13_method_80_code 19 = .ok (.ifCond .eq 18, 3) := by decide +kernel
theorem d_Mo_would_22 : decode prog_13_method_80_code 22 = .ok (.aload_n 0, 1) := by decide +kernel
theorem d_Mo_would_23 : decode prog_13_method_80_code 23 = .ok (.iload_n 1, 1) := by decide +kernel
theorem d_Mo_would_24 : decode prog_13_method_80_code 24 = .ok (.invokevirtual 89, 3) := by decide +kernel
theorem d_Mo_would_27 : decode prog_13_method_80_code 27 = .ok (.ifCond .eq 10, 3) := by decide +kernel
theorem d_Mo_would_30 : decode prog_13_method_80_code 30 = .ok (.aload_n 0, 1) := by decide +kernel
theorem d_Mo_would_31 : decode prog_13_method_80_code 31 = .ok (.getfield 172, 3) := by decide +kernel
theorem d_Mo_would_34 : decode prog_13_method_80_code 34 = .ok (.ifCond .ne 6, 3) := by decide +kernel
theorem d_Mo_would_37 : decode prog_13_method_80_code 37 = .ok (.ldc 188, 2) := by decide +kernel
theorem d_Mo_would_39 : decode prog_13_method_80_code 39 = .ok (.ireturn, 1) := by decide +kernel
theorem d_Mo_would_40 : decode prog_13_method_80_code 40 = .ok (.aload_n 0, 1) := by decide +kernel
theorem d_Mo_would_41 : decode prog_13_method_80_code 41 = .ok (.invokevirtual 257, 3) := by decide +kernel
theorem d_Mo_would_44 : decode prog_13_method_80_code 44 = .ok (.aload_n 0, 1) := by decide +kernel
theorem d_Mo_would_45 : decode prog_13_method_80_code 45 = .ok (.iload_n 1, 1) := by decide +kernel
theorem d_Mo_would_46 : decode prog_13_method_80_code 46 = .ok (.iload_n 2, 1) := by decide +kernel
theorem d_Mo_would_47 : decode prog_13_method_80_code 47 = .ok (.invokevirtual 320, 3) := by decide +kernel
theorem d_Mo_would_50 : decode prog_13_method_80_code 50 = .ok (.ireturn, 1) := by decide +kernel
theorem d_Mo_dearest_0 : decode prog_13_method_81_code 0 = .ok (.aload_n 0, 1) := by decide +kernel
theorem d_Mo_dearest_1 : decode prog_13_method_81_code 1 = .ok (.iconst 0, 1) := by decide +kernel
theorem d_Mo_dearest_2 : decode prog_13_method_81_code 2 = .ok (.putfield 1, 3) := by decide +kernel
theorem d_Mo_dearest_5 : decode prog_13_method_81_code 5 = .ok (.aload_n 0, 1) := by decide +kernel
theorem d_Mo_dearest_6 : decode prog_13_method_81_code 6 = .ok (.getfield 172, 3) := by decide +kernel
theorem d_Mo_dearest_9 : decode prog_13_method_81_code 9 = .ok (.ifCond .ne 6, 3) := by decide +kernel
theorem d_Mo_dearest_12 : decode prog_13_method_81_code 12 = .ok (.bipush (-5), 2) := by decide +kernel
theorem d_Mo_dearest_14 : decode prog_13_method_81_code 14 = .ok (.ireturn, 1) := by decide +kernel
theorem d_Mo_dearest_15 : decode prog_13_method_81_code 15 = .ok (.aload_n 0, 1) := by decide +kernel
theorem d_Mo_dearest_16 : decode prog_13_method_81_code 16 = .ok (.invokevirtual 257, 3) := by decide +kernel
theorem d_Mo_dearest_19 : decode prog_13_method_81_code 19 = .ok (.iconst (-1), 1) := by decide +kernel
theorem d_Mo_dearest_20 : decode prog_13_method_81_code 20 = .ok (.istore_n 1, 1) := by decide +kernel
theorem d_Mo_dearest_21 : decode prog_13_method_81_code 21 = .ok (.iconst 0, 1) := by decide +kernel
theorem d_Mo_dearest_22 : decode prog_13_method_81_code 22 = .ok (.istore_n 2, 1) := by decide +kernel
theorem d_Mo_dearest_23 : decode prog_13_method_81_code 23 = .ok (.iconst 0, 1) := by decide +kernel
theorem d_Mo_dearest_24 : decode prog_13_method_81_code 24 = .ok (.istore_n 3, 1) := by decide +kernel
theorem d_Mo_dearest_25 : decode prog_13_method_81_code 25 = .ok (.iload_n 3, 1) := by decide +kernel
theorem d_Mo_dearest_26 : decode prog_13_method_81_code 26 = .ok (.aload_n 0, 1) := by decide +kernel
theorem d_Mo_dearest_27 : decode prog_13_method_81_code 27 = .ok (.getfield 86, 3) := by decide +kernel
theorem d_Mo_dearest_30 : decode prog_13_method_81_code 30 = .ok (.if_icmp .ge 59, 3) := by decide +kernel
theorem d_Mo_dearest_33 : decode prog_13_method_81_code 33 = .ok (.aload_n 0, 1) := by decide +kernel
theorem d_Mo_dearest_34 : decode prog_13_method_81_code 34 = .ok (.iload_n 3, 1) := by decide +kernel
theorem d_Mo_dearest_35 : decode prog_13_method_81_code 35 = .ok (.invokevirtual 263, 3) := by decide +kernel
theorem d_Mo_dearest_38 : decode prog_13_method_81_code 38 = .ok (.ifCond .eq 45, 3) := by decide +kernel
theorem d_Mo_dearest_41 : decode prog_13_method_81_code 41 = .ok (.aload_n 0, 1) := by decide +kernel
theorem d_Mo_dearest_42 : decode prog_13_method_81_code 42 = .ok (.iload_n 3, 1) := by decide +kernel
theorem d_Mo_dearest_43 : decode prog_13_method_81_code 43 = .ok (.invokevirtual 99, 3) := by decide +kernel
theorem d_Mo_dearest_46 : decode prog_13_method_81_code 46 = .ok (.ifCond .gt 6, 3) := by decide +kernel
theorem d_Mo_dearest_49 : decode prog_13_method_81_code 49 = .ok (.goto 34, 3) := by decide +kernel
theorem d_Mo_dearest_52 : decode prog_13_method_81_code 52 = .ok (.aload_n 0, 1) := by decide +kernel
theorem d_Mo_dearest_53 : decode prog_13_method_81_code 53 = .ok (.iload_n 3, 1) := by decide +kernel
theorem d_Mo_dearest_54 : decode prog_13_method_81_code 54 = .ok (.aload_n 0, 1) := by decide +kernel
theorem d_Mo_dearest_55 : decode prog_13_method_81_code 55 = .ok (.iload_n 3, 1) := by decide +kernel
theorem d_Mo_dearest_56 : decode prog_13_method_81_code 56 = .ok (.invokevirtual 82, 3) := by decide +kernel
theorem d_Mo_dearest_59 : decode prog_13_method_81_code 59 = .ok (.invokevirtual 320, 3) := by decide +kernel
theorem d_Mo_dearest_62 : decode prog_13_method_81_code 62 = .ok (.istore 4, 2) := by decide +kernel
theorem d_Mo_dearest_64 : decode prog_13_method_81_code 64 = .ok (.iload_n 1, 1) := by decide +kernel
theorem d_Mo_dearest_65 : decode prog_13_method_81_code 65 = .ok (.iconst (-1), 1) := by decide +kernel
theorem d_Mo_dearest_66 : decode prog_13_method_81_code 66 = .ok (.if_icmp .eq 12, 3) := by decide +kernel
theorem d_Mo_dearest_69 : decode prog_13_method_81_code 69 = .ok (.iload 4, 2) := by decide +kernel
theorem d_Mo_dearest_71 : decode prog_13_method_81_code 71 = .ok (.iload_n 2, 1) := by decide +kernel
theorem d_Mo_dearest_72 : decode prog_13_method_81_code 72 = .ok (.if_icmp .lt 6, 3) := by decide +kernel
theorem d_Mo_dearest_75 : decode prog_13_method_81_code 75 = .ok (.goto 8, 3) := by decide +kernel
theorem d_Mo_dearest_78 : decode prog_13_method_81_code 78 = .ok (.iload_n 3, 1) := by decide +kernel
theorem d_Mo_dearest_79 : decode prog_13_method_81_code 79 = .ok (.istore_n 1, 1) := by decide +kernel
theorem d_Mo_dearest_80 : decode prog_13_method_81_code 80 = .ok (.iload 4, 2) := by decide +kernel
theorem d_Mo_dearest_82 : decode prog_13_method_81_code 82 = .ok (.istore_n 2, 1) := by decide +kernel
theorem d_Mo_dearest_83 : decode prog_13_method_81_code 83 = .ok (.iinc 3 1, 3) := by decide +kernel
theorem d_Mo_dearest_86 : decode prog_13_method_81_code 86 = .ok (.goto (-61), 3) := by decide +kernel
theorem d_Mo_dearest_89 : decode prog_13_method_81_code 89 = .ok (.iload_n 1, 1) := by decide +kernel
theorem d_Mo_dearest_90 : decode prog_13_method_81_code 90 = .ok (.ireturn, 1) := by decide +kernel
theorem d_Mo_more_0 : decode prog_13_method_82_code 0 = .ok (.aload_n 0, 1) := by decide +kernel
theorem d_Mo_more_1 : decode prog_13_method_82_code 1 = .ok (.iconst 0, 1) := by decide +kernel
theorem d_Mo_more_2 : decode prog_13_method_82_code 2 = .ok (.putfield 1, 3) := by decide +kernel
theorem d_Mo_more_5 : decode prog_13_method_82_code 5 = .ok (.aload_n 0, 1) := by decide +kernel
theorem d_Mo_more_6 : decode prog_13_method_82_code 6 = .ok (.getfield 172, 3) := by decide +kernel
theorem d_Mo_more_9 : decode prog_13_method_82_code 9 = .ok (.ifCond .ne 6, 3) := by decide +kernel
theorem d_Mo_more_12 : decode prog_13_method_82_code 12 = .ok (.bipush (-5), 2) := by decide +kernel
theorem d_Mo_more_14 : decode prog_13_method_82_code 14 = .ok (.ireturn, 1) := by decide +kernel
theorem d_Mo_more_15 : decode prog_13_method_82_code 15 = .ok (.aload_n 0, 1) := by decide +kernel
theorem d_Mo_more_16 : decode prog_13_method_82_code 16 = .ok (.invokevirtual 257, 3) := by decide +kernel
theorem d_Mo_more_19 : decode prog_13_method_82_code 19 = .ok (.iconst 0, 1) := by decide +kernel
theorem d_Mo_more_20 : decode prog_13_method_82_code 20 = .ok (.istore_n 1, 1) := by decide +kernel
theorem d_Mo_more_21 : decode prog_13_method_82_code 21 = .ok (.iload_n 1, 1) := by decide +kernel
theorem d_Mo_more_22 : decode prog_13_method_82_code 22 = .ok (.aload_n 0, 1) := by decide +kernel
theorem d_Mo_more_23 : decode prog_13_method_82_code 23 = .ok (.getfield 172, 3) := by decide +kernel
theorem d_Mo_more_26 : decode prog_13_method_82_code 26 = .ok (.iadd, 1) := by decide +kernel
theorem d_Mo_more_27 : decode prog_13_method_82_code 27 = .ok (.iconst 5, 1) := by decide +kernel
theorem d_Mo_more_28 : decode prog_13_method_82_code 28 = .ok (.if_icmp .gt 41, 3) := by decide +kernel
theorem d_Mo_more_31 : decode prog_13_method_82_code 31 = .ok (.aload_n 0, 1) := by decide +kernel
theorem d_Mo_more_32 : decode prog_13_method_82_code 32 = .ok (.iconst 1, 1) := by decide +kernel
theorem d_Mo_more_33 : decode prog_13_method_82_code 33 = .ok (.aload_n 0, 1) := by decide +kernel
theorem d_Mo_more_34 : decode prog_13_method_82_code 34 = .ok (.getfield 207, 3) := by decide +kernel
theorem d_Mo_more_37 : decode prog_13_method_82_code 37 = .ok (.iload_n 1, 1) := by decide +kernel
theorem d_Mo_more_38 : decode prog_13_method_82_code 38 = .ok (.aload_n 0, 1) := by decide +kernel
theorem d_Mo_more_39 : decode prog_13_method_82_code 39 = .ok (.getfield 198, 3) := by decide +kernel
theorem d_Mo_more_42 : decode prog_13_method_82_code 42 = .ok (.aload_n 0, 1) := by decide +kernel
theorem d_Mo_more_43 : decode prog_13_method_82_code 43 = .ok (.getfield 169, 3) := by decide +kernel
theorem d_Mo_more_46 : decode prog_13_method_82_code 46 = .ok (.idiv, 1) := by decide +kernel
theorem d_Mo_more_47 : decode prog_13_method_82_code 47 = .ok (.imul, 1) := by decide +kernel
theorem d_Mo_more_48 : decode prog_13_method_82_code 48 = .ok (.iadd, 1) := by decide +kernel
theorem d_Mo_more_49 : decode prog_13_method_82_code 49 = .ok (.invokevirtual 315, 3) := by decide +kernel
theorem d_Mo_more_52 : decode prog_13_method_82_code 52 = .ok (.aload_n 0, 1) := by decide +kernel
theorem d_Mo_more_53 : decode prog_13_method_82_code 53 = .ok (.getfield 14, 3) := by decide +kernel
theorem d_Mo_more_56 : decode prog_13_method_82_code 56 = .ok (.iconst 0, 1) := by decide +kernel
theorem d_Mo_more_57 : decode prog_13_method_82_code 57 = .ok (.iaload, 1) := by decide +kernel
theorem d_Mo_more_58 : decode prog_13_method_82_code 58 = .ok (.if_icmp .gt 5, 3) := by decide +kernel
theorem d_Mo_more_61 : decode prog_13_method_82_code 61 = .ok (.iload_n 1, 1) := by decide +kernel
theorem d_Mo_more_62 : decode prog_13_method_82_code 62 = .ok (.ireturn, 1) := by decide +kernel
theorem d_Mo_more_63 : decode prog_13_method_82_code 63 = .ok (.iinc 1 1, 3) := by decide +kernel
theorem d_Mo_more_66 : decode prog_13_method_82_code 66 = .ok (.goto (-45), 3) := by decide +kernel
theorem d_Mo_more_69 : decode prog_13_method_82_code 69 = .ok (.iconst (-1), 1) := by decide +kernel
theorem d_Mo_more_70 : decode prog_13_method_82_code 70 = .ok (.ireturn, 1) := by decide +kernel
theorem d_Mo_lackingNow_0 : decode prog_13_method_83_code 0 = .ok (.iconst 0, 1) := by decide +kernel
theorem d_Mo_lackingNow_1 : decode prog_13_method_83_code 1 = .ok (.istore_n 1, 1) := by decide +kernel
theorem d_Mo_lackingNow_2 : decode prog_13_method_83_code 2 = .ok (.iconst 0, 1) := by decide +kernel
theorem d_Mo_lackingNow_3 : decode prog_13_method_83_code 3 = .ok (.istore_n 2, 1) := by decide +kernel
theorem d_Mo_lackingNow_4 : decode prog_13_method_83_code 4 = .ok (.iload_n 2, 1) := by decide +kernel
theorem d_Mo_lackingNow_5 : decode prog_13_method_83_code 5 = .ok (.aload_n 0, 1) := by decide +kernel
theorem d_Mo_lackingNow_6 : decode prog_13_method_83_code 6 = .ok (.getfield 86, 3) := by decide +kernel
theorem d_Mo_lackingNow_9 : decode prog_13_method_83_code 9 = .ok (.if_icmp .ge 26, 3) := by decide +kernel
theorem d_Mo_lackingNow_12 : decode prog_13_method_83_code 12 = .ok (.iload_n 1, 1) := by decide +kernel
theorem d_Mo_lackingNow_13 : decode prog_13_method_83_code 13 = .ok (.aload_n 0, 1) := by decide +kernel
theorem d_Mo_lackingNow_14 : decode prog_13_method_83_code 14 = .ok (.iload_n 2, 1) := by decide +kernel
theorem d_Mo_lackingNow_15 : decode prog_13_method_83_code 15 = .ok (.iconst 1, 1) := by decide +kernel
theorem d_Mo_lackingNow_16 : decode prog_13_method_83_code 16 = .ok (.invokevirtual 266, 3) := by decide +kernel
theorem d_Mo_lackingNow_19 : decode prog_13_method_83_code 19 = .ok (.ifCond .eq 7, 3) := by decide +kernel
theorem d_Mo_lackingNow_22 : decode prog_13_method_83_code 22 = .ok (.iconst 1, 1) := by decide +kernel
theorem d_Mo_lackingNow_23 : decode prog_13_method_83_code 23 = .ok (.goto 4, 3) := by decide +kernel
theorem d_Mo_lackingNow_26 : decode prog_13_method_83_code 26 = .ok (.iconst 0, 1) := by decide +kernel
theorem d_Mo_lackingNow_27 : decode prog_13_method_83_code 27 = .ok (.iadd, 1) := by decide +kernel
theorem d_Mo_lackingNow_28 : decode prog_13_method_83_code 28 = .ok (.istore_n 1, 1) := by decide +kernel
theorem d_Mo_lackingNow_29 : decode prog_13_method_83_code 29 = .ok (.iinc 2 1, 3) := by decide +kernel
theorem d_Mo_lackingNow_32 : decode prog_13_method_83_code 32 = .ok (.goto (-28), 3) := by decide +kernel
theorem d_Mo_lackingNow_35 : decode prog_13_method_83_code 35 = .ok (.iload_n 1, 1) := by decide +kernel
theorem d_Mo_lackingNow_36 : decode prog_13_method_83_code 36 = .ok (.ireturn, 1) := by decide +kernel
theorem d_Mo_step_0 : decode prog_13_method_84_code 0 = .ok (.aload_n 0, 1) := by decide +kernel
theorem d_Mo_step_1 : decode prog_13_method_84_code 1 = .ok (.iconst 0, 1) := by decide +kernel
theorem d_Mo_step_2 : decode prog_13_method_84_code 2 = .ok (.putfield 1, 3) := by decide +kernel
theorem d_Mo_step_5 : decode prog_13_method_84_code 5 = .ok (.iload_n 1, 1) := by decide +kernel
theorem d_Mo_step_6 : decode prog_13_method_84_code 6 = .ok (.i2l, 1) := by decide +kernel
theorem d_Mo_step_7 : decode prog_13_method_84_code 7 = .ok (.lconst 1, 1) := by decide +kernel
theorem d_Mo_step_8 : decode prog_13_method_84_code 8 = .ok (.aload_n 0, 1) := by decide +kernel
theorem d_Mo_step_9 : decode prog_13_method_84_code 9 = .ok (.getfield 172, 3) := by decide +kernel
theorem d_Mo_step_12 : decode prog_13_method_84_code 12 = .ok (.i2l, 1) := by decide +kernel
theorem d_Mo_step_13 : decode prog_13_method_84_code 13 = .ok (.invokestatic 92, 3) := by decide +kernel
theorem d_Mo_step_16 : decode prog_13_method_84_code 16 = .ok (.ifCond .eq 15, 3) := by decide +kernel
theorem d_Mo_step_19 : decode prog_13_method_84_code 19 = .ok (.iload_n 2, 1) := by decide +kernel
theorem d_Mo_step_20 : decode prog_13_method_84_code 20 = .ok (.i2l, 1) := by decide +kernel
theorem d_Mo_step_21 : decode prog_13_method_84_code 21 = .ok (.lconst 0, 1) := by decide +kernel
theorem d_Mo_step_22 : decode prog_13_method_84_code 22 = .ok (.ldc2_w 318, 3) := by decide +kernel
theorem d_Mo_step_25 : decode prog_13_method_84_code 25 = .ok (.invokestatic 92, 3) := by decide +kernel
theorem d_Mo_step_28 : decode prog_13_method_84_code 28 = .ok (.ifCond .ne 6, 3) := by decide +kernel
theorem d_Mo_step_31 : decode prog_13_method_84_code 31 = .ok (.ldc 188, 2) := by decide +kernel
theorem d_Mo_step_33 : decode prog_13_method_84_code 33 = .ok (.ireturn, 1) := by decide +kernel
theorem d_Mo_step_34 : decode prog_13_method_84_code 34 = .ok (.aload_n 0, 1) := by decide +kernel
theorem d_Mo_step_35 : decode prog_13_method_84_code 35 = .ok (.getfield 172, 3) := by decide +kernel
theorem d_Mo_step_38 : decode prog_13_method_84_code 38 = .ok (.istore_n 3, 1) := by decide +kernel
theorem d_Mo_step_39 : decode prog_13_method_84_code 39 = .ok (.aload_n 0, 1) := by decide +kernel
theorem d_Mo_step_40 : decode prog_13_method_84_code 40 = .ok (.iload_n 1, 1) := by decide +kernel
theorem d_Mo_step_41 : decode prog_13_method_84_code 41 = .ok (.putfield 172, 3) := by decide +kernel
theorem d_Mo_step_44 : decode prog_13_method_84_code 44 = .ok (.aload_n 0, 1) := by decide +kernel
theorem d_Mo_step_45 : decode prog_13_method_84_code 45 = .ok (.invokevirtual 257, 3) := by decide +kernel
theorem d_Mo_step_48 : decode prog_13_method_84_code 48 = .ok (.aload_n 0, 1) := by decide +kernel
theorem d_Mo_step_49 : decode prog_13_method_84_code 49 = .ok (.iconst 1, 1) := by decide +kernel
theorem d_Mo_step_50 : decode prog_13_method_84_code 50 = .ok (.aload_n 0, 1) := by decide +kernel
theorem d_Mo_step_51 : decode prog_13_method_84_code 51 = .ok (.getfield 207, 3) := by decide +kernel
theorem d_Mo_step_54 : decode prog_13_method_84_code 54 = .ok (.invokevirtual 315, 3) := by decide +kernel
theorem d_Mo_step_57 : decode prog_13_method_84_code 57 = .ok (.istore 4, 2) := by decide +kernel
theorem d_Mo_step_59 : decode prog_13_method_84_code 59 = .ok (.aload_n 0, 1) := by decide +kernel
theorem d_Mo_step_60 : decode prog_13_method_84_code 60 = .ok (.invokevirtual 323, 3) := by decide +kernel
theorem d_Mo_step_63 : decode prog_13_method_84_code 63 = .ok (.istore 5, 2) := by decide +kernel
theorem d_Mo_step_65 : decode prog_13_method_84_code 65 = .ok (.aload_n 0, 1) := by decide +kernel
theorem d_Mo_step_66 : decode prog_13_method_84_code 66 = .ok (.iload_n 3, 1) := by decide +kernel
theorem d_Mo_step_67 : decode prog_13_method_84_code 67 = .ok (.putfield 172, 3) := by decide +kernel
theorem d_Mo_step_70 : decode prog_13_method_84_code 70 = .ok (.iload_n 2, 1) := by decide +kernel
theorem d_Mo_step_71 : decode prog_13_method_84_code 71 = .ok (.tableswitch 50 0 2 #[25, 30, 33], 25) := by decide +kernel
theorem d_Mo_step_96 : decode prog_13_method_84_code 96 = .ok (.aload_n 0, 1) := by decide +kernel
theorem d_Mo_step_97 : decode prog_13_method_84_code 97 = .ok (.getfield 207, 3) := by decide +kernel
theorem d_Mo_step_100 : decode prog_13_method_84_code 100 = .ok (.ireturn, 1) := by decide +kernel
theorem d_Mo_step_101 : decode prog_13_method_84_code 101 = .ok (.iload 4, 2) := by decide +kernel
theorem d_Mo_step_103 : decode prog_13_method_84_code 103 = .ok (.ireturn, 1) := by decide +kernel
theorem d_Mo_step_104 : decode prog_13_method_84_code 104 = .ok (.iload 4, 2) := by decide +kernel
theorem d_Mo_step_106 : decode prog_13_method_84_code 106 = .ok (.aload_n 0, 1) := by decide +kernel
theorem d_Mo_step_107 : decode prog_13_method_84_code 107 = .ok (.getfield 14, 3) := by decide +kernel
theorem d_Mo_step_110 : decode prog_13_method_84_code 110 = .ok (.iconst 0, 1) := by decide +kernel
theorem d_Mo_step_111 : decode prog_13_method_84_code 111 = .ok (.iaload, 1) := by decide +kernel
theorem d_Mo_step_112 : decode prog_13_method_84_code 112 = .ok (.if_icmp .gt 7, 3) := by decide +kernel
theorem d_Mo_step_115 : decode prog_13_method_84_code 115 = .ok (.iconst 1, 1) := by decide +kernel
theorem d_Mo_step_116 : decode prog_13_method_84_code 116 = .ok (.goto 4, 3) := by decide +kernel
theorem d_Mo_step_119 : decode prog_13_method_84_code 119 = .ok (.iconst 0, 1) := by decide +kernel
theorem d_Mo_step_120 : decode prog_13_method_84_code 120 = .ok (.ireturn, 1) := by decide +kernel
theorem d_Mo_step_121 : decode prog_13_method_84_code 121 = .ok (.iload 5, 2) := by decide +kernel
theorem d_Mo_step_123 : decode prog_13_method_84_code 123 = .ok (.ireturn, 1) := by decide +kernel
theorem d_Mo_risky_0 : decode prog_13_method_85_code 0 = .ok (.aload_n 0, 1) := by decide +kernel
theorem d_Mo_risky_1 : decode prog_13_method_85_code 1 = .ok (.iconst 0, 1) := by decide +kernel
theorem d_Mo_risky_2 : decode prog_13_method_85_code 2 = .ok (.putfield 1, 3) := by decide +kernel
theorem d_Mo_risky_5 : decode prog_13_method_85_code 5 = .ok (.aload_n 0, 1) := by decide +kernel
theorem d_Mo_risky_6 : decode prog_13_method_85_code 6 = .ok (.getfield 172, 3) := by decide +kernel
theorem d_Mo_risky_9 : decode prog_13_method_85_code 9 = .ok (.ifCond .ne 6, 3) := by decide +kernel
theorem d_Mo_risky_12 : decode prog_13_method_85_code 12 = .ok (.bipush (-5), 2) := by decide +kernel
theorem d_Mo_risky_14 : decode prog_13_method_85_code 14 = .ok (.ireturn, 1) := by decide +kernel
theorem d_Mo_risky_15 : decode prog_13_method_85_code 15 = .ok (.aload_n 0, 1) := by decide +kernel
theorem d_Mo_risky_16 : decode prog_13_method_85_code 16 = .ok (.invokevirtual 257, 3) := by decide +kernel
theorem d_Mo_risky_19 : decode prog_13_method_85_code 19 = .ok (.aload_n 0, 1) := by decide +kernel
theorem d_Mo_risky_20 : decode prog_13_method_85_code 20 = .ok (.getfield 14, 3) := by decide +kernel
theorem d_Mo_risky_23 : decode prog_13_method_85_code 23 = .ok (.iconst 1, 1) := by decide +kernel
theorem d_Mo_risky_24 : decode prog_13_method_85_code 24 = .ok (.iaload, 1) := by decide +kernel
theorem d_Mo_risky_25 : decode prog_13_method_85_code 25 = .ok (.istore_n 1, 1) := by decide +kernel
theorem d_Mo_risky_26 : decode prog_13_method_85_code 26 = .ok (.iconst 0, 1) := by decide +kernel
theorem d_Mo_risky_27 : decode prog_13_method_85_code 27 = .ok (.istore_n 2, 1) := by decide +kernel
theorem d_Mo_risky_28 : decode prog_13_method_85_code 28 = .ok (.sipush 501, 3) := by decide +kernel
theorem d_Mo_risky_31 : decode prog_13_method_85_code 31 = .ok (.istore_n 3, 1) := by decide +kernel
theorem d_Mo_risky_32 : decode prog_13_method_85_code 32 = .ok (.iload_n 3, 1) := by decide +kernel
theorem d_Mo_risky_33 : decode prog_13_method_85_code 33 = .ok (.iload_n 2, 1) := by decide +kernel
theorem d_Mo_risky_34 : decode prog_13_method_85_code 34 = .ok (.isub, 1) := by decide +kernel
theorem d_Mo_risky_35 : decode prog_13_method_85_code 35 = .ok (.iconst 1, 1) := by decide +kernel
theorem d_Mo_risky_36 : decode prog_13_method_85_code 36 = .ok (.if_icmp .le 52, 3) := by decide +kernel
theorem d_Mo_risky_39 : decode prog_13_method_85_code 39 = .ok (.aload_n 0, 1) := by decide +kernel
theorem d_Mo_risky_40 : decode prog_13_method_85_code 40 = .ok (.getfield 14, 3) := by decide +kernel
theorem d_Mo_risky_43 : decode prog_13_method_85_code 43 = .ok (.iconst 1, 1) := by decide +kernel
theorem d_Mo_risky_44 : decode prog_13_method_85_code 44 = .ok (.iload_n 2, 1) := by decide +kernel
theorem d_Mo_risky_45 : decode prog_13_method_85_code 45 = .ok (.iload_n 3, 1) := by decide +kernel
theorem d_Mo_risky_46 : decode prog_13_method_85_code 46 = .ok (.iadd, 1) := by decide +kernel
theorem d_Mo_risky_47 : decode prog_13_method_85_code 47 = .ok (.iconst 2, 1) := by decide +kernel
theorem d_Mo_risky_48 : decode prog_13_method_85_code 48 = .ok (.idiv, 1) := by decide +kernel
theorem d_Mo_risky_49 : decode prog_13_method_85_code 49 = .ok (.iastore, 1) := by decide +kernel
theorem d_Mo_risky_50 : decode prog_13_method_85_code 50 = .ok (.aload_n 0, 1) := by decide +kernel
theorem d_Mo_risky_51 : decode prog_13_method_85_code 51 = .ok (.iconst 1, 1) := by decide +kernel
theorem d_Mo_risky_52 : decode prog_13_method_85_code 52 = .ok (.aload_n 0, 1) := by decide +kernel
theorem d_Mo_risky_53 : decode prog_13_method_85_code 53 = .ok (.getfield 207, 3) := by decide +kernel
theorem d_Mo_risky_56 : decode prog_13_method_85_code 56 = .ok (.invokevirtual 315, 3) := by decide +kernel
theorem d_Mo_risky_59 : decode prog_13_method_85_code 59 = .ok (.aload_n 0, 1) := by decide +kernel
theorem d_Mo_risky_60 : decode prog_13_method_85_code 60 = .ok (.getfield 14, 3) := by decide +kernel
theorem d_Mo_risky_63 : decode prog_13_method_85_code 63 = .ok (.iconst 0, 1) := by decide +kernel
theorem d_Mo_risky_64 : decode prog_13_method_85_code 64 = .ok (.iaload, 1) := by decide +kernel
theorem d_Mo_risky_65 : decode prog_13_method_85_code 65 = .ok (.if_icmp .gt 13, 3) := by decide +kernel
theorem d_Mo_risky_68 : decode prog_13_method_85_code 68 = .ok (.aload_n 0, 1) := by decide +kernel
theorem d_Mo_risky_69 : decode prog_13_method_85_code 69 = .ok (.getfield 14, 3) := by decide +kernel
theorem d_Mo_risky_72 : decode prog_13_method_85_code 72 = .ok (.iconst 1, 1) := by decide +kernel
theorem d_Mo_risky_73 : decode prog_13_method_85_code 73 = .ok (.iaload, 1) := by decide +kernel
theorem d_Mo_risky_74 : decode prog_13_method_85_code 74 = .ok (.istore_n 3, 1) := by decide +kernel
theorem d_Mo_risky_75 : decode prog_13_method_85_code 75 = .ok (.goto (-43), 3) := by decide +kernel
theorem d_Mo_risky_78 : decode prog_13_method_85_code 78 = .ok (.aload_n 0, 1) := by decide +kernel
theorem d_Mo_risky_79 : decode prog_13_method_85_code 79 = .ok (.getfield 14, 3) := by decide +kernel
theorem d_Mo_risky_82 : decode prog_13_method_85_code 82 = .ok (.iconst 1, 1) := by decide +kernel
theorem d_Mo_risky_83 : decode prog_13_method_85_code 83 = .ok (.iaload, 1) := by decide +kernel
theorem d_Mo_risky_84 : decode prog_13_method_85_code 84 = .ok (.istore_n 2, 1) := by decide +kernel
theorem d_Mo_risky_85 : decode prog_13_method_85_code 85 = .ok (.goto (-53), 3) := by decide +kernel
theorem d_Mo_risky_88 : decode prog_13_method_85_code 88 = .ok (.aload_n 0, 1) := by decide +kernel
theorem d_Mo_risky_89 : decode prog_13_method_85_code 89 = .ok (.getfield 14, 3) := by decide +kernel
theorem d_Mo_risky_92 : decode prog_13_method_85_code 92 = .ok (.iconst 1, 1) := by decide +kernel
theorem d_Mo_risky_93 : decode prog_13_method_85_code 93 = .ok (.iload_n 1, 1) := by decide +kernel
theorem d_Mo_risky_94 : decode prog_13_method_85_code 94 = .ok (.iastore, 1) := by decide +kernel
theorem d_Mo_risky_95 : decode prog_13_method_85_code 95 = .ok (.iload_n 3, 1) := by decide +kernel
theorem d_Mo_risky_96 : decode prog_13_method_85_code 96 = .ok (.sipush 501, 3) := by decide +kernel
theorem d_Mo_risky_99 : decode prog_13_method_85_code 99 = .ok (.if_icmp .ne 7, 3) := by decide +kernel
theorem d_Mo_risky_102 : decode prog_13_method_85_code 102 = .ok (.iconst (-1), 1) := by decide +kernel
theorem d_Mo_risky_103 : decode prog_13_method_85_code 103 = .ok (.goto 4, 3) := by decide +kernel
theorem d_Mo_risky_106 : decode prog_13_method_85_code 106 = .ok (.iload_n 3, 1) := by decide +kernel
theorem d_Mo_risky_107 : decode prog_13_method_85_code 107 = .ok (.ireturn, 1) := by decide +kernel
theorem d_Mo_sizes_0 : decode prog_13_method_86_code 0 = .ok (.aload_n 0, 1) := by decide +kernel
theorem d_Mo_sizes_1 : decode prog_13_method_86_code 1 = .ok (.iconst 0, 1) := by decide +kernel
theorem d_Mo_sizes_2 : decode prog_13_method_86_code 2 = .ok (.putfield 1, 3) := by decide +kernel
theorem d_Mo_sizes_5 : decode prog_13_method_86_code 5 = .ok (.iload_n 1, 1) := by decide +kernel
theorem d_Mo_sizes_6 : decode prog_13_method_86_code 6 = .ok (.i2l, 1) := by decide +kernel
theorem d_Mo_sizes_7 : decode prog_13_method_86_code 7 = .ok (.lconst 0, 1) := by decide +kernel
theorem d_Mo_sizes_8 : decode prog_13_method_86_code 8 = .ok (.ldc2_w 326, 3) := by decide +kernel
theorem d_Mo_sizes_11 : decode prog_13_method_86_code 11 = .ok (.invokestatic 92, 3) := by decide +kernel
theorem d_Mo_sizes_14 : decode prog_13_method_86_code 14 = .ok (.ifCond .ne 6, 3) := by decide +kernel
theorem d_Mo_sizes_17 : decode prog_13_method_86_code 17 = .ok (.bipush (-3), 2) := by decide +kernel
theorem d_Mo_sizes_19 : decode prog_13_method_86_code 19 = .ok (.ireturn, 1) := by decide +kernel
theorem d_Mo_sizes_20 : decode prog_13_method_86_code 20 = .ok (.aload_n 0, 1) := by decide +kernel
theorem d_Mo_sizes_21 : decode prog_13_method_86_code 21 = .ok (.invokevirtual 232, 3) := by decide +kernel
theorem d_Mo_sizes_24 : decode prog_13_method_86_code 24 = .ok (.ifCond .ne 8, 3) := by decide +kernel
theorem d_Mo_sizes_27 : decode prog_13_method_86_code 27 = .ok (.bipush (-5), 2) := by decide +kernel
theorem d_Mo_sizes_29 : decode prog_13_method_86_code 29 = .ok (.goto 14, 3) := by decide +kernel
theorem d_Mo_sizes_32 : decode prog_13_method_86_code 32 = .ok (.aload_n 0, 1) := by decide +kernel
theorem d_Mo_sizes_33 : decode prog_13_method_86_code 33 = .ok (.aload_n 0, 1) := by decide +kernel
theorem d_Mo_sizes_34 : decode prog_13_method_86_code 34 = .ok (.getfield 14, 3) := by decide +kernel
theorem d_Mo_sizes_37 : decode prog_13_method_86_code 37 = .ok (.iconst 0, 1) := by decide +kernel
theorem d_Mo_sizes_38 : decode prog_13_method_86_code 38 = .ok (.iaload, 1) := by decide +kernel
theorem d_Mo_sizes_39 : decode prog_13_method_86_code 39 = .ok (.iload_n 1, 1) := by decide +kernel
theorem d_Mo_sizes_40 : decode prog_13_method_86_code 40 = .ok (.invokevirtual 240, 3) := by decide +kernel
theorem d_Mo_sizes_43 : decode prog_13_method_86_code 43 = .ok (.ireturn, 1) := by decide +kernel
theorem d_Mo_trial_0 : decode prog_13_method_87_code 0 = .ok (.aload_n 0, 1) := by decide +kernel
theorem d_Mo_trial_1 : decode prog_13_method_87_code 1 = .ok (.iconst 0, 1) := by decide +kernel
theorem d_Mo_trial_2 : decode prog_13_method_87_code 2 = .ok (.putfield 1, 3) := by decide +kernel
theorem d_Mo_trial_5 : decode prog_13_method_87_code 5 = .ok (.iload_n 2, 1) := by decide +kernel
theorem d_Mo_trial_6 : decode prog_13_method_87_code 6 = .ok (.i2l, 1) := by decide +kernel
theorem d_Mo_trial_7 : decode prog_13_method_87_code 7 = .ok (.lconst 0, 1) := by decide +kernel
theorem d_Mo_trial_8 : decode prog_13_method_87_code 8 = .ok (.ldc2_w 318, 3) := by decide +kernel
theorem d_Mo_trial_11 : decode prog_13_method_87_code 11 = .ok (.invokestatic 92, 3) := by decide +kernel
theorem d_Mo_trial_14 : decode prog_13_method_87_code 14 = .ok (.ifCond .ne 6, 3) := by decide +kernel
theorem d_Mo_trial_17 : decode prog_13_method_87_code 17 = .ok (.bipush (-2), 2) := by decide +kernel
theorem d_Mo_trial_19 : decode prog_13_method_87_code 19 = .ok (.ireturn, 1) := by decide +kernel
theorem d_Mo_trial_20 : decode prog_13_method_87_code 20 = .ok (.aload_n 0, 1) := by decide +kernel
theorem d_Mo_trial_21 : decode prog_13_method_87_code 21 = .ok (.getfield 169, 3) := by decide +kernel
theorem d_Mo_trial_24 : decode prog_13_method_87_code 24 = .ok (.ifCond .ne 6, 3) := by decide +kernel
theorem d_Mo_trial_27 : decode prog_13_method_87_code 27 = .ok (.bipush (-5), 2) := by decide +kernel
theorem d_Mo_trial_29 : decode prog_13_method_87_code 29 = .ok (.ireturn, 1) := by decide +kernel
theorem d_Mo_trial_30 : decode prog_13_method_87_code 30 = .ok (.iload_n 1, 1) := by decide +kernel
theorem d_Mo_trial_31 : decode prog_13_method_87_code 31 = .ok (.i2l, 1) := by decide +kernel
theorem d_Mo_trial_32 : decode prog_13_method_87_code 32 = .ok (.lconst 1, 1) := by decide +kernel
theorem d_Mo_trial_33 : decode prog_13_method_87_code 33 = .ok (.aload_n 0, 1) := by decide +kernel
theorem d_Mo_trial_34 : decode prog_13_method_87_code 34 = .ok (.getfield 169, 3) := by decide +kernel
theorem d_Mo_trial_37 : decode prog_13_method_87_code 37 = .ok (.i2l, 1) := by decide +kernel
theorem d_Mo_trial_38 : decode prog_13_method_87_code 38 = .ok (.invokestatic 92, 3) := by decide +kernel
theorem d_Mo_trial_41 : decode prog_13_method_87_code 41 = .ok (.ifCond .ne 6, 3) := by decide +kernel
theorem d_Mo_trial_44 : decode prog_13_method_87_code 44 = .ok (.bipush (-3), 2) := by decide +kernel
theorem d_Mo_trial_46 : decode prog_13_method_87_code 46 = .ok (.ireturn, 1) := by decide +kernel
theorem d_Mo_trial_47 : decode prog_13_method_87_code 47 = .ok (.aload_n 0, 1) := by decide +kernel
theorem d_Mo_trial_48 : decode prog_13_method_87_code 48 = .ok (.aload_n 0, 1) := by decide +kernel
theorem d_Mo_trial_49 : decode prog_13_method_87_code 49 = .ok (.getfield 169, 3) := by decide +kernel
theorem d_Mo_trial_52 : decode prog_13_method_87_code 52 = .ok (.invokevirtual 204, 3) := by decide +kernel
theorem d_Mo_trial_55 : decode prog_13_method_87_code 55 = .ok (.iload_n 2, 1) := by decide +kernel
theorem d_Mo_trial_56 : decode prog_13_method_87_code 56 = .ok (.iconst 3, 1) := by decide +kernel
theorem d_Mo_trial_57 : decode prog_13_method_87_code 57 = .ok (.if_icmp .ne 34, 3) := by decide +kernel
theorem d_Mo_trial_60 : decode prog_13_method_87_code 60 = .ok (.iload_n 1, 1) := by decide +kernel
theorem d_Mo_trial_61 : decode prog_13_method_87_code 61 = .ok (.aload_n 0, 1) := by decide +kernel
theorem d_Mo_trial_62 : decode prog_13_method_87_code 62 = .ok (.getfield 198, 3) := by decide +kernel
theorem d_Mo_trial_65 : decode prog_13_method_87_code 65 = .ok (.if_icmp .le 7, 3) := by decide +kernel
theorem d_Mo_trial_68 : decode prog_13_method_87_code 68 = .ok (.iconst 0, 1) := by decide +kernel
theorem d_Mo_trial_69 : decode prog_13_method_87_code 69 = .ok (.goto 21, 3) := by decide +kernel
theorem d_Mo_trial_72 : decode prog_13_method_87_code 72 = .ok (.iload_n 1, 1) := by decide +kernel
theorem d_Mo_trial_73 : decode prog_13_method_87_code 73 = .ok (.aload_n 0, 1) := by decide +kernel
theorem d_Mo_trial_74 : decode prog_13_method_87_code 74 = .ok (.getfield 198, 3) := by decide +kernel
theorem d_Mo_trial_77 : decode prog_13_method_87_code 77 = .ok (.iload_n 1, 1) := by decide +kernel
theorem d_Mo_trial_78 : decode prog_13_method_87_code 78 = .ok (.isub, 1) := by decide +kernel
theorem d_Mo_trial_79 : decode prog_13_method_87_code 79 = .ok (.aload_n 0, 1) := by decide +kernel
theorem d_Mo_trial_80 : decode prog_13_method_87_code 80 = .ok (.getfield 169, 3) := by decide +kernel
theorem d_Mo_trial_83 : decode prog_13_method_87_code 83 = .ok (.idiv, 1) := by decide +kernel
theorem d_Mo_trial_84 : decode prog_13_method_87_code 84 = .ok (.aload_n 0, 1) := by decide +kernel
theorem d_Mo_trial_85 : decode prog_13_method_87_code 85 = .ok (.getfield 169, 3) := by decide +kernel
theorem d_Mo_trial_88 : decode prog_13_method_87_code 88 = .ok (.imul, 1) := by decide +kernel
theorem d_Mo_trial_89 : decode prog_13_method_87_code 89 = .ok (.iadd, 1) := by decide +kernel
theorem d_Mo_trial_90 : decode prog_13_method_87_code 90 = .ok (.ireturn, 1) := by decide +kernel
theorem d_Mo_trial_91 : decode prog_13_method_87_code 91 = .ok (.iconst 0, 1) := by decide +kernel
theorem d_Mo_trial_92 : decode prog_13_method_87_code 92 = .ok (.istore_n 3, 1) := by decide +kernel
theorem d_Mo_trial_93 : decode prog_13_method_87_code 93 = .ok (.iconst 0, 1) := by decide +kernel
theorem d_Mo_trial_94 : decode prog_13_method_87_code 94 = .ok (.istore 4, 2) := by decide +kernel
theorem d_Mo_trial_96 : decode prog_13_method_87_code 96 = .ok (.iload 4, 2) := by decide +kernel
theorem d_Mo_trial_98 : decode prog_13_method_87_code 98 = .ok (.aload_n 0, 1) := by decide +kernel
theorem d_Mo_trial_99 : decode prog_13_method_87_code 99 = .ok (.getfield 86, 3) := by decide +kernel
theorem d_Mo_trial_102 : decode prog_13_method_87_code 102 = .ok (.if_icmp .ge 104, 3) := by decide +kernel
theorem d_Mo_trial_105 : decode prog_13_method_87_code 105 = .ok (.aload_n 0, 1) := by decide +kernel
theorem d_Mo_trial_106 : decode prog_13_method_87_code 106 = .ok (.iload_n 1, 1) := by decide +kernel
theorem d_Mo_trial_107 : decode prog_13_method_87_code 107 = .ok (.iload 4, 2) := by decide +kernel
theorem d_Mo_trial_109 : decode prog_13_method_87_code 109 = .ok (.invokevirtual 328, 3) := by decide +kernel
theorem d_Mo_trial_112 : decode prog_13_method_87_code 112 = .ok (.istore 5, 2) := by decide +kernel
theorem d_Mo_trial_114 : decode prog_13_method_87_code 114 = .ok (.iload_n 2, 1) := by decide +kernel
theorem d_Mo_trial_115 : decode prog_13_method_87_code 115 = .ok (.ifCond .ne 16, 3) := by decide +kernel
theorem d_Mo_trial_118 : decode prog_13_method_87_code 118 = .ok (.iload_n 3, 1) := by decide +kernel
theorem d_Mo_trial_119 : decode prog_13_method_87_code 119 = .ok (.iload 5, 2) := by decide +kernel
theorem d_Mo_trial_121 : decode prog_13_method_87_code 121 = .ok (.ifCond .eq 7, 3) := by decide +kernel
theorem d_Mo_trial_124 : decode prog_13_method_87_code 124 = .ok (.iconst 1, 1) := by decide +kernel
theorem d_Mo_trial_125 : decode prog_13_method_87_code 125 = .ok (.goto 4, 3) := by decide +kernel
theorem d_Mo_trial_128 : decode prog_13_method_87_code 128 = .ok (.iconst 0, 1) := by decide +kernel
theorem d_Mo_trial_129 : decode prog_13_method_87_code 129 = .ok (.iadd, 1) := by decide +kernel
theorem d_Mo_trial_130 : decode prog_13_method_87_code 130 = .ok (.istore_n 3, 1) := by decide +kernel
theorem d_Mo_trial_131 : decode prog_13_method_87_code 131 = .ok (.iload_n 2, 1) := by decide +kernel
theorem d_Mo_trial_132 : decode prog_13_method_87_code 132 = .ok (.iconst 1, 1) := by decide +kernel
theorem d_Mo_trial_133 : decode prog_13_method_87_code 133 = .ok (.if_icmp .ne 35, 3) := by decide +kernel
theorem d_Mo_trial_136 : decode prog_13_method_87_code 136 = .ok (.iload_n 3, 1) := by decide +kernel
theorem d_Mo_trial_137 : decode prog_13_method_87_code 137 = .ok (.iload 5, 2) := by decide +kernel
theorem d_Mo_trial_139 : decode prog_13_method_87_code 139 = .ok (.ifCond .ne 12, 3) := by decide +kernel
theorem d_Mo_trial_142 : decode prog_13_method_87_code 142 = .ok (.aload_n 0, 1) := by decide +kernel
theorem d_Mo_trial_143 : decode prog_13_method_87_code 143 = .ok (.iload 4, 2) := by decide +kernel
theorem d_Mo_trial_145 : decode prog_13_method_87_code 145 = .ok (.invokevirtual 201, 3) := by decide +kernel
theorem d_Mo_trial_148 : decode prog_13_method_87_code 148 = .ok (.ifCond .eq 17, 3) := by decide +kernel
theorem d_Mo_trial_151 : decode prog_13_method_87_code 151 = .ok (.aload_n 0, 1) := by decide +kernel
theorem d_Mo_trial_152 : decode prog_13_method_87_code 152 = .ok (.iload 4, 2) := by decide +kernel
theorem d_Mo_trial_154 : decode prog_13_method_87_code 154 = .ok (.invokevirtual 96, 3) := by decide +kernel
theorem d_Mo_trial_157 : decode prog_13_method_87_code 157 = .ok (.iconst (-1), 1) := by decide +kernel
theorem d_Mo_trial_158 : decode prog_13_method_87_code 158 = .ok (.if_icmp .ne 7, 3) := by decide +kernel
theorem d_Mo_trial_161 : decode prog_13_method_87_code 161 = .ok (.iconst 1, 1) := by decide +kernel
theorem d_Mo_trial_162 : decode prog_13_method_87_code 162 = .ok (.goto 4, 3) := by decide +kernel
theorem d_Mo_trial_165 : decode prog_13_method_87_code 165 = .ok (.iconst 0, 1) := by decide +kernel
theorem d_Mo_trial_166 : decode prog_13_method_87_code 166 = .ok (.iadd, 1) := by decide +kernel
theorem d_Mo_trial_167 : decode prog_13_method_87_code 167 = .ok (.istore_n 3, 1) := by decide +kernel
theorem d_Mo_trial_168 : decode prog_13_method_87_code 168 = .ok (.iload_n 2, 1) := by decide +kernel
theorem d_Mo_trial_169 : decode prog_13_method_87_code 169 = .ok (.iconst 2, 1) := by decide +kernel
theorem d_Mo_trial_170 : decode prog_13_method_87_code 170 = .ok (.if_icmp .ne 30, 3) := by decide +kernel
theorem d_Mo_trial_173 : decode prog_13_method_87_code 173 = .ok (.iload_n 3, 1) := by decide +kernel
theorem d_Mo_trial_174 : decode prog_13_method_87_code 174 = .ok (.iload 5, 2) := by decide +kernel
theorem d_Mo_trial_176 : decode prog_13_method_87_code 176 = .ok (.ifCond .eq 21, 3) := by decide +kernel
theorem d_Mo_trial_179 : decode prog_13_method_87_code 179 = .ok (.aload_n 0, 1) := by decide +kernel
theorem d_Mo_trial_180 : decode prog_13_method_87_code 180 = .ok (.iload 4, 2) := by decide +kernel
theorem d_Mo_trial_182 : decode prog_13_method_87_code 182 = .ok (.invokevirtual 260, 3) := by decide +kernel
theorem d_Mo_trial_185 : decode prog_13_method_87_code 185 = .ok (.ifCond .le 12, 3) := by decide +kernel
theorem d_Mo_trial_188 : decode prog_13_method_87_code 188 = .ok (.aload_n 0, 1) := by decide +kernel
theorem d_Mo_trial_189 : decode prog_13_method_87_code 189 = .ok (.iload 4, 2) := by decide +kernel
theorem d_Mo_trial_191 : decode prog_13_method_87_code 191 = .ok (.invokevirtual 260, 3) := by decide +kernel
theorem d_Mo_trial_194 : decode prog_13_method_87_code 194 = .ok (.goto 4, 3) := by decide +kernel
theorem d_Mo_trial_197 : decode prog_13_method_87_code 197 = .ok (.iconst 0, 1) := by decide +kernel
theorem d_Mo_trial_198 : decode prog_13_method_87_code 198 = .ok (.iadd, 1) := by decide +kernel
theorem d_Mo_trial_199 : decode prog_13_method_87_code 199 = .ok (.istore_n 3, 1) := by decide +kernel
theorem d_Mo_trial_200 : decode prog_13_method_87_code 200 = .ok (.iinc 4 1, 3) := by decide +kernel
theorem d_Mo_trial_203 : decode prog_13_method_87_code 203 = .ok (.goto (-107), 3) := by decide +kernel
theorem d_Mo_trial_206 : decode prog_13_method_87_code 206 = .ok (.iload_n 3, 1) := by decide +kernel
theorem d_Mo_trial_207 : decode prog_13_method_87_code 207 = .ok (.ireturn, 1) := by decide +kernel
theorem d_Mo_covered_0 : decode prog_13_method_88_code 0 = .ok (.aload_n 0, 1) := by decide +kernel
theorem d_Mo_covered_1 : decode prog_13_method_88_code 1 = .ok (.iconst 0, 1) := by decide +kernel
theorem d_Mo_covered_2 : decode prog_13_method_88_code 2 = .ok (.putfield 1, 3) := by decide +kernel
theorem d_Mo_covered_5 : decode prog_13_method_88_code 5 = .ok (.aload_n 0, 1) := by decide +kernel
theorem d_Mo_covered_6 : decode prog_13_method_88_code 6 = .ok (.invokevirtual 257, 3) := by decide +kernel
theorem d_Mo_covered_9 : decode prog_13_method_88_code 9 = .ok (.lconst 0, 1) := by decide +kernel
theorem d_Mo_covered_10 : decode prog_13_method_88_code 10 = .ok (.lstore_n 1, 1) := by decide +kernel
theorem d_Mo_covered_11 : decode prog_13_method_88_code 11 = .ok (.iconst 0, 1) := by decide +kernel
theorem d_Mo_covered_12 : decode prog_13_method_88_code 12 = .ok (.istore_n 3, 1) := by decide +kernel
theorem d_Mo_covered_13 : decode prog_13_method_88_code 13 = .ok (.iload_n 3, 1) := by decide +kernel
theorem d_Mo_covered_14 : decode prog_13_method_88_code 14 = .ok (.aload_n 0, 1) := by decide +kernel
theorem d_Mo_covered_15 : decode prog_13_method_88_code 15 = .ok (.getfield 86, 3) := by decide +kernel
theorem d_Mo_covered_18 : decode prog_13_method_88_code 18 = .ok (.if_icmp .ge 30, 3) := by decide +kernel
theorem d_Mo_covered_21 : decode prog_13_method_88_code 21 = .ok (.lload_n 1, 1) := by decide +kernel
theorem d_Mo_covered_22 : decode prog_13_method_88_code 22 = .ok (.aload_n 0, 1) := by decide +kernel
theorem d_Mo_covered_23 : decode prog_13_method_88_code 23 = .ok (.iload_n 3, 1) := by decide +kernel
theorem d_Mo_covered_24 : decode prog_13_method_88_code 24 = .ok (.invokevirtual 263, 3) := by decide +kernel
theorem d_Mo_covered_27 : decode prog_13_method_88_code 27 = .ok (.ifCond .eq 12, 3) := by decide +kernel
theorem d_Mo_covered_30 : decode prog_13_method_88_code 30 = .ok (.aload_n 0, 1) := by decide +kernel
theorem d_Mo_covered_31 : decode prog_13_method_88_code 31 = .ok (.iload_n 3, 1) := by decide +kernel
theorem d_Mo_covered_32 : decode prog_13_method_88_code 32 = .ok (.invokevirtual 89, 3) := by decide +kernel
theorem d_Mo_covered_35 : decode prog_13_method_88_code 35 = .ok (.i2l, 1) := by decide +kernel
theorem d_Mo_covered_36 : decode prog_13_method_88_code 36 = .ok (.goto 4, 3) := by decide +kernel
theorem d_Mo_covered_39 : decode prog_13_method_88_code 39 = .ok (.lconst 0, 1) := by decide +kernel
theorem d_Mo_covered_40 : decode prog_13_method_88_code 40 = .ok (.ladd, 1) := by decide +kernel
theorem d_Mo_covered_41 : decode prog_13_method_88_code 41 = .ok (.lstore_n 1, 1) := by decide +kernel
theorem d_Mo_covered_42 : decode prog_13_method_88_code 42 = .ok (.iinc 3 1, 3) := by decide +kernel
theorem d_Mo_covered_45 : decode prog_13_method_88_code 45 = .ok (.goto (-32), 3) := by decide +kernel
theorem d_Mo_covered_48 : decode prog_13_method_88_code 48 = .ok (.aload_n 0, 1) := by decide +kernel
theorem d_Mo_covered_49 : decode prog_13_method_88_code 49 = .ok (.invokevirtual 232, 3) := by decide +kernel
theorem d_Mo_covered_52 : decode prog_13_method_88_code 52 = .ok (.ifCond .ne 7, 3) := by decide +kernel
theorem d_Mo_covered_55 : decode prog_13_method_88_code 55 = .ok (.iconst 0, 1) := by decide +kernel
theorem d_Mo_covered_56 : decode prog_13_method_88_code 56 = .ok (.goto 15, 3) := by decide +kernel
theorem d_Mo_covered_59 : decode prog_13_method_88_code 59 = .ok (.ldc2_w 331, 3) := by decide +kernel
theorem d_Mo_covered_62 : decode prog_13_method_88_code 62 = .ok (.lload_n 1, 1) := by decide +kernel
theorem d_Mo_covered_63 : decode prog_13_method_88_code 63 = .ok (.lmul, 1) := by decide +kernel
theorem d_Mo_covered_64 : decode prog_13_method_88_code 64 = .ok (.aload_n 0, 1) := by decide +kernel
theorem d_Mo_covered_65 : decode prog_13_method_88_code 65 = .ok (.invokevirtual 232, 3) := by decide +kernel
theorem d_Mo_covered_68 : decode prog_13_method_88_code 68 = .ok (.i2l, 1) := by decide +kernel
theorem d_Mo_covered_69 : decode prog_13_method_88_code 69 = .ok (.ldiv, 1) := by decide +kernel
theorem d_Mo_covered_70 : decode prog_13_method_88_code 70 = .ok (.l2i, 1) := by decide +kernel
theorem d_Mo_covered_71 : decode prog_13_method_88_code 71 = .ok (.ireturn, 1) := by decide +kernel
theorem d_Mo_laysTurn_0 : decode prog_13_method_89_code 0 = .ok (.iconst 0, 1) := by decide +kernel
theorem d_Mo_laysTurn_1 : decode prog_13_method_89_code 1 = .ok (.istore_n 2, 1) := by decide +kernel
theorem d_Mo_laysTurn_2 : decode prog_13_method_89_code 2 = .ok (.iload_n 2, 1) := by decide +kernel
theorem d_Mo_laysTurn_3 : decode prog_13_method_89_code 3 = .ok (.aload_n 0, 1) := by decide +kernel
theorem d_Mo_laysTurn_4 : decode prog_13_method_89_code 4 = .ok (.getfield 333, 3) := by decide +kernel
theorem d_Mo_laysTurn_7 : decode prog_13_method_89_code 7 = .ok (.if_icmp .ge 20, 3) := by decide +kernel
theorem d_Mo_laysTurn_10 : decode prog_13_method_89_code 10 = .ok (.aload_n 0, 1) := by decide +kernel
theorem d_Mo_laysTurn_11 : decode prog_13_method_89_code 11 = .ok (.getfield 75, 3) := by decide +kernel
theorem d_Mo_laysTurn_14 : decode prog_13_method_89_code 14 = .ok (.iload_n 2, 1) := by decide +kernel
theorem d_Mo_laysTurn_15 : decode prog_13_method_89_code 15 = .ok (.iaload, 1) := by decide +kernel
theorem d_Mo_laysTurn_16 : decode prog_13_method_89_code 16 = .ok (.iload_n 1, 1) := by decide +kernel
theorem d_Mo_laysTurn_17 : decode prog_13_method_89_code 17 = .ok (.if_icmp .ne 4, 3) := by decide +kernel
theorem d_Mo_laysTurn_20 : decode prog_13_method_89_code 20 = .ok (.return_, 1) := by decide +kernel
theorem d_Mo_laysTurn_21 : decode prog_13_method_89_code 21 = .ok (.iinc 2 1, 3) := by decide +kernel
theorem d_Mo_laysTurn_24 : decode prog_13_method_89_code 24 = .ok (.goto (-22), 3) := by decide +kernel
theorem d_Mo_laysTurn_27 : decode prog_13_method_89_code 27 = .ok (.aload_n 0, 1) := by decide +kernel
theorem d_Mo_laysTurn_28 : decode prog_13_method_89_code 28 = .ok (.getfield 333, 3) := by decide +kernel
theorem d_Mo_laysTurn_31 : decode prog_13_method_89_code 31 = .ok (.istore_n 2, 1) := by decide +kernel
theorem d_Mo_laysTurn_32 : decode prog_13_method_89_code 32 = .ok (.iload_n 2, 1) := by decide +kernel
theorem d_Mo_laysTurn_33 : decode prog_13_method_89_code 33 = .ok (.ifCond .le 35, 3) := by decide +kernel
theorem d_Mo_laysTurn_36 : decode prog_13_method_89_code 36 = .ok (.aload_n 0, 1) := by decide +kernel
theorem d_Mo_laysTurn_37 : decode prog_13_method_89_code 37 = .ok (.getfield 75, 3) := by decide +kernel
theorem d_Mo_laysTurn_40 : decode prog_13_method_89_code 40 = .ok (.iload_n 2, 1) := by decide +kernel
theorem d_Mo_laysTurn_41 : decode prog_13_method_89_code 41 = .ok (.iconst 1, 1) := by decide +kernel
theorem d_Mo_laysTurn_42 : decode prog_13_method_89_code 42 = .ok (.isub, 1) := by decide +kernel
theorem d_Mo_laysTurn_43 : decode prog_13_method_89_code 43 = .ok (.iaload, 1) := by decide +kernel
theorem d_Mo_laysTurn_44 : decode prog_13_method_89_code 44 = .ok (.iload_n 1, 1) := by decide +kernel
theorem d_Mo_laysTurn_45 : decode prog_13_method_89_code 45 = .ok (.if_icmp .le 23, 3) := by decide +kernel
theorem d_Mo_laysTurn_48 : decode prog_13_method_89_code 48 = .ok (.aload_n 0, 1) := by decide +kernel
theorem d_Mo_laysTurn_49 : decode prog_13_method_89_code 49 = .ok (.getfield 75, 3) := by decide +kernel
theorem d_Mo_laysTurn_52 : decode prog_13_method_89_code 52 = .ok (.iload_n 2, 1) := by decide +kernel
theorem d_Mo_laysTurn_53 : decode prog_13_method_89_code 53 = .ok (.aload_n 0, 1) := by decide +kernel
theorem d_Mo_laysTurn_54 : decode prog_13_method_89_code 54 = .ok (.getfield 75, 3) := by decide +kernel
theorem d_Mo_laysTurn_57 : decode prog_13_method_89_code 57 = .ok (.iload_n 2, 1) := by decide +kernel
theorem d_Mo_laysTurn_58 : decode prog_13_method_89_code 58 = .ok (.iconst 1, 1) := by decide +kernel
theorem d_Mo_laysTurn_59 : decode prog_13_method_89_code 59 = .ok (.isub, 1) := by decide +kernel
theorem d_Mo_laysTurn_60 : decode prog_13_method_89_code 60 = .ok (.iaload, 1) := by decide +kernel
theorem d_Mo_laysTurn_61 : decode prog_13_method_89_code 61 = .ok (.iastore, 1) := by decide +kernel
theorem d_Mo_laysTurn_62 : decode prog_13_method_89_code 62 = .ok (.iinc 2 (-1), 3) := by decide +kernel
theorem d_Mo_laysTurn_65 : decode prog_13_method_89_code 65 = .ok (.goto (-33), 3) := by decide +kernel
theorem d_Mo_laysTurn_68 : decode prog_13_method_89_code 68 = .ok (.aload_n 0, 1) := by decide +kernel
theorem d_Mo_laysTurn_69 : decode prog_13_method_89_code 69 = .ok (.getfield 75, 3) := by decide +kernel
theorem d_Mo_laysTurn_72 : decode prog_13_method_89_code 72 = .ok (.iload_n 2, 1) := by decide +kernel
theorem d_Mo_laysTurn_73 : decode prog_13_method_89_code 73 = .ok (.iload_n 1, 1) := by decide +kernel
theorem d_Mo_laysTurn_74 : decode prog_13_method_89_code 74 = .ok (.iastore, 1) := by decide +kernel
theorem d_Mo_laysTurn_75 : decode prog_13_method_89_code 75 = .ok (.aload_n 0, 1) := by decide +kernel
theorem d_Mo_laysTurn_76 : decode prog_13_method_89_code 76 = .ok (.dup, 1) := by decide +kernel
theorem d_Mo_laysTurn_77 : decode prog_13_method_89_code 77 = .ok (.getfield 333, 3) := by decide +kernel
theorem d_Mo_laysTurn_80 : decode prog_13_method_89_code 80 = .ok (.iconst 1, 1) := by decide +kernel
theorem d_Mo_laysTurn_81 : decode prog_13_method_89_code 81 = .ok (.iadd, 1) := by decide +kernel
theorem d_Mo_laysTurn_82 : decode prog_13_method_89_code 82 = .ok (.putfield 333, 3) := by decide +kernel
theorem d_Mo_laysTurn_85 : decode prog_13_method_89_code 85 = .ok (.return_, 1) := by decide +kernel
theorem d_Mo_laysTurns_0 : decode prog_13_method_90_code 0 = .ok (.aload_n 0, 1) := by decide +kernel
theorem d_Mo_laysTurns_1 : decode prog_13_method_90_code 1 = .ok (.aload_n 0, 1) := by decide +kernel
theorem d_Mo_laysTurns_2 : decode prog_13_method_90_code 2 = .ok (.getfield 169, 3) := by decide +kernel
theorem d_Mo_laysTurns_5 : decode prog_13_method_90_code 5 = .ok (.invokevirtual 204, 3) := by decide +kernel
theorem d_Mo_laysTurns_8 : decode prog_13_method_90_code 8 = .ok (.aload_n 0, 1) := by decide +kernel
theorem d_Mo_laysTurns_9 : decode prog_13_method_90_code 9 = .ok (.iconst 0, 1) := by decide +kernel
theorem d_Mo_laysTurns_10 : decode prog_13_method_90_code 10 = .ok (.putfield 333, 3) := by decide +kernel
theorem d_Mo_laysTurns_13 : decode prog_13_method_90_code 13 = .ok (.aload_n 0, 1) := by decide +kernel
theorem d_Mo_laysTurns_14 : decode prog_13_method_90_code 14 = .ok (.iconst 1, 1) := by decide +kernel
theorem d_Mo_laysTurns_15 : decode prog_13_method_90_code 15 = .ok (.invokevirtual 336, 3) := by decide +kernel
theorem d_Mo_laysTurns_18 : decode prog_13_method_90_code 18 = .ok (.iconst 0, 1) := by decide +kernel
theorem d_Mo_laysTurns_19 : decode prog_13_method_90_code 19 = .ok (.istore_n 1, 1) := by decide +kernel
theorem d_Mo_laysTurns_20 : decode prog_13_method_90_code 20 = .ok (.iload_n 1, 1) := by decide +kernel
theorem d_Mo_laysTurns_21 : decode prog_13_method_90_code 21 = .ok (.aload_n 0, 1) := by decide +kernel
theorem d_Mo_laysTurns_22 : decode prog_13_method_90_code 22 = .ok (.getfield 86, 3) := by decide +kernel
theorem d_Mo_laysTurns_25 : decode prog_13_method_90_code 25 = .ok (.if_icmp .ge 65, 3) := by decide +kernel
theorem d_Mo_laysTurns_28 : decode prog_13_method_90_code 28 = .ok (.aload_n 0, 1) := by decide +kernel
theorem d_Mo_laysTurns_29 : decode prog_13_method_90_code 29 = .ok (.getfield 48, 3) := by decide +kernel
theorem d_Mo_laysTurns_32 : decode prog_13_method_90_code 32 = .ok (.iload_n 1, 1) := by decide +kernel
theorem d_Mo_laysTurns_33 : decode prog_13_method_90_code 33 = .ok (.iaload, 1) := by decide +kernel
theorem d_Mo_laysTurns_34 : decode prog_13_method_90_code 34 = .ok (.ifCond .ne 6, 3) := by decide +kernel
theorem d_Mo_laysTurns_37 : decode prog_13_method_90_code 37 = .ok (.goto 47, 3) := by decide +kernel
theorem d_Mo_laysTurns_40 : decode prog_13_method_90_code 40 = .ok (.aload_n 0, 1) := by decide +kernel
theorem d_Mo_laysTurns_41 : decode prog_13_method_90_code 41 = .ok (.aload_n 0, 1) := by decide +kernel
theorem d_Mo_laysTurns_42 : decode prog_13_method_90_code 42 = .ok (.getfield 48, 3) := by decide +kernel
theorem d_Mo_laysTurns_45 : decode prog_13_method_90_code 45 = .ok (.iload_n 1, 1) := by decide +kernel
theorem d_Mo_laysTurns_46 : decode prog_13_method_90_code 46 = .ok (.iaload, 1) := by decide +kernel
theorem d_Mo_laysTurns_47 : decode prog_13_method_90_code 47 = .ok (.iconst 1, 1) := by decide +kernel
theorem d_Mo_laysTurns_48 : decode prog_13_method_90_code 48 = .ok (.isub, 1) := by decide +kernel
theorem d_Mo_laysTurns_49 : decode prog_13_method_90_code 49 = .ok (.aload_n 0, 1) := by decide +kernel
theorem d_Mo_laysTurns_50 : decode prog_13_method_90_code 50 = .ok (.getfield 169, 3) := by decide +kernel
theorem d_Mo_laysTurns_53 : decode prog_13_method_90_code 53 = .ok (.irem, 1) := by decide +kernel
theorem d_Mo_laysTurns_54 : decode prog_13_method_90_code 54 = .ok (.iconst 1, 1) := by decide +kernel
theorem d_Mo_laysTurns_55 : decode prog_13_method_90_code 55 = .ok (.iadd, 1) := by decide +kernel
theorem d_Mo_laysTurns_56 : decode prog_13_method_90_code 56 = .ok (.invokevirtual 336, 3) := by decide +kernel
theorem d_Mo_laysTurns_59 : decode prog_13_method_90_code 59 = .ok (.aload_n 0, 1) := by decide +kernel
theorem d_Mo_laysTurns_60 : decode prog_13_method_90_code 60 = .ok (.aload_n 0, 1) := by decide +kernel
theorem d_Mo_laysTurns_61 : decode prog_13_method_90_code 61 = .ok (.getfield 48, 3) := by decide +kernel
theorem d_Mo_laysTurns_64 : decode prog_13_method_90_code 64 = .ok (.iload_n 1, 1) := by decide +kernel
theorem d_Mo_laysTurns_65 : decode prog_13_method_90_code 65 = .ok (.iaload, 1) := by decide +kernel
theorem d_Mo_laysTurns_66 : decode prog_13_method_90_code 66 = .ok (.iconst 1, 1) := by decide +kernel
theorem d_Mo_laysTurns_67 : decode prog_13_method_90_code 67 = .ok (.isub, 1) := by decide +kernel
theorem d_Mo_laysTurns_68 : decode prog_13_method_90_code 68 = .ok (.aload_n 0, 1) := by decide +kernel
theorem d_Mo_laysTurns_69 : decode prog_13_method_90_code 69 = .ok (.iload_n 1, 1) := by decide +kernel
theorem d_Mo_laysTurns_70 : decode prog_13_method_90_code 70 = .ok (.invokevirtual 89, 3) := by decide +kernel
theorem d_Mo_laysTurns_73 : decode prog_13_method_90_code 73 = .ok (.iadd, 1) := by decide +kernel
theorem d_Mo_laysTurns_74 : decode prog_13_method_90_code 74 = .ok (.aload_n 0, 1) := by decide +kernel
theorem d_Mo_laysTurns_75 : decode prog_13_method_90_code 75 = .ok (.getfield 169, 3) := by decide +kernel
theorem d_Mo_laysTurns_78 : decode prog_13_method_90_code 78 = .ok (.irem, 1) := by decide +kernel
theorem d_Mo_laysTurns_79 : decode prog_13_method_90_code 79 = .ok (.iconst 1, 1) := by decide +kernel
theorem d_Mo_laysTurns_80 : decode prog_13_method_90_code 80 = .ok (.iadd, 1) := by decide +kernel
theorem d_Mo_laysTurns_81 : decode prog_13_method_90_code 81 = .ok (.invokevirtual 336, 3) := by decide +kernel
theorem d_Mo_laysTurns_84 : decode prog_13_method_90_code 84 = .ok (.iinc 1 1, 3) := by decide +kernel
theorem d_Mo_laysTurns_87 : decode prog_13_method_90_code 87 = .ok (.goto (-67), 3) := by decide +kernel
theorem d_Mo_laysTurns_90 : decode prog_13_method_90_code 90 = .ok (.return_, 1) := by decide +kernel
theorem d_Mo_turnLong_0 : decode prog_13_method_91_code 0 = .ok (.iload_n 1, 1) := by decide +kernel
theorem d_Mo_turnLong_1 : decode prog_13_method_91_code 1 = .ok (.iconst 1, 1) := by decide +kernel
theorem d_Mo_turnLong_2 : decode prog_13_method_91_code 2 = .ok (.iadd, 1) := by decide +kernel
theorem d_Mo_turnLong_3 : decode prog_13_method_91_code 3 = .ok (.aload_n 0, 1) := by decide +kernel
theorem d_Mo_turnLong_4 : decode prog_13_method_91_code 4 = .ok (.getfield 333, 3) := by decide +kernel
theorem d_Mo_turnLong_7 : decode prog_13_method_91_code 7 = .ok (.if_icmp .ge 14, 3) := by decide +kernel
theorem d_Mo_turnLong_10 : decode prog_13_method_91_code 10 = .ok (.aload_n 0, 1) := by decide +kernel
theorem d_Mo_turnLong_11 : decode prog_13_method_91_code 11 = .ok (.getfield 75, 3) := by decide +kernel
theorem d_Mo_turnLong_14 : decode prog_13_method_91_code 14 = .ok (.iload_n 1, 1) := by decide +kernel
theorem d_Mo_turnLong_15 : decode prog_13_method_91_code 15 = .ok (.iconst 1, 1) := by decide +kernel
theorem d_Mo_turnLong_16 : decode prog_13_method_91_code 16 = .ok (.iadd, 1) := by decide +kernel
theorem d_Mo_turnLong_17 : decode prog_13_method_91_code 17 = .ok (.iaload, 1) := by decide +kernel
theorem d_Mo_turnLong_18 : decode prog_13_method_91_code 18 = .ok (.goto 9, 3) := by decide +kernel
theorem d_Mo_turnLong_21 : decode prog_13_method_91_code 21 = .ok (.aload_n 0, 1) := by decide +kernel
theorem d_Mo_turnLong_22 : decode prog_13_method_91_code 22 = .ok (.getfield 169, 3) := by decide +kernel
theorem d_Mo_turnLong_25 : decode prog_13_method_91_code 25 = .ok (.iconst 1, 1) := by decide +kernel
theorem d_Mo_turnLong_26 : decode prog_13_method_91_code 26 = .ok (.iadd, 1) := by decide +kernel
theorem d_Mo_turnLong_27 : decode prog_13_method_91_code 27 = .ok (.aload_n 0, 1) := by decide +kernel
theorem d_Mo_turnLong_28 : decode prog_13_method_91_code 28 = .ok (.getfield 75, 3) := by decide +kernel
theorem d_Mo_turnLong_31 : decode prog_13_method_91_code 31 = .ok (.iload_n 1, 1) := by decide +kernel
theorem d_Mo_turnLong_32 : decode prog_13_method_91_code 32 = .ok (.iaload, 1) := by decide +kernel
theorem d_Mo_turnLong_33 : decode prog_13_method_91_code 33 = .ok (.isub, 1) := by decide +kernel
theorem d_Mo_turnLong_34 : decode prog_13_method_91_code 34 = .ok (.ireturn, 1) := by decide +kernel
theorem d_Mo_catches_0 : decode prog_13_method_92_code 0 = .ok (.aload_n 0, 1) := by decide +kernel
theorem d_Mo_catches_1 : decode prog_13_method_92_code 1 = .ok (.getfield 48, 3) := by decide +kernel
theorem d_Mo_catches_4 : decode prog_13_method_92_code 4 = .ok (.iload_n 2, 1) := by decide +kernel
theorem d_Mo_catches_5 : decode prog_13_method_92_code 5 = .ok (.iaload, 1) := by decide +kernel
theorem d_Mo_catches_6 : decode prog_13_method_92_code 6 = .ok (.ifCond .ne 5, 3) := by decide +kernel
theorem d_Mo_catches_9 : decode prog_13_method_92_code 9 = .ok (.iconst 0, 1) := by decide +kernel
theorem d_Mo_catches_10 : decode prog_13_method_92_code 10 = .ok (.ireturn, 1) := by decide +kernel
theorem d_Mo_catches_11 : decode prog_13_method_92_code 11 = .ok (.iload_n 1, 1) := by decide +kernel
theorem d_Mo_catches_12 : decode prog_13_method_92_code 12 = .ok (.iconst 1, 1) := by decide +kernel
theorem d_Mo_catches_13 : decode prog_13_method_92_code 13 = .ok (.isub, 1) := by decide +kernel
theorem d_Mo_catches_14 : decode prog_13_method_92_code 14 = .ok (.aload_n 0, 1) := by decide +kernel
theorem d_Mo_catches_15 : decode prog_13_method_92_code 15 = .ok (.getfield 48, 3) := by decide +kernel
theorem d_Mo_catches_18 : decode prog_13_method_92_code 18 = .ok (.iload_n 2, 1) := by decide +kernel
theorem d_Mo_catches_19 : decode prog_13_method_92_code 19 = .ok (.iaload, 1) := by decide +kernel
theorem d_Mo_catches_20 : decode prog_13_method_92_code 20 = .ok (.iconst 1, 1) := by decide +kernel
theorem d_Mo_catches_21 : decode prog_13_method_92_code 21 = .ok (.isub, 1) := by decide +kernel
theorem d_Mo_catches_22 : decode prog_13_method_92_code 22 = .ok (.aload_n 0, 1) := by decide +kernel
theorem d_Mo_catches_23 : decode prog_13_method_92_code 23 = .ok (.getfield 169, 3) := by decide +kernel
theorem d_Mo_catches_26 : decode prog_13_method_92_code 26 = .ok (.irem, 1) := by decide +kernel
theorem d_Mo_catches_27 : decode prog_13_method_92_code 27 = .ok (.isub, 1) := by decide +kernel
theorem d_Mo_catches_28 : decode prog_13_method_92_code 28 = .ok (.istore_n 3, 1) := by decide +kernel
theorem d_Mo_catches_29 : decode prog_13_method_92_code 29 = .ok (.iload_n 3, 1) := by decide +kernel
theorem d_Mo_catches_30 : decode prog_13_method_92_code 30 = .ok (.ifCond .ge 12, 3) := by decide +kernel
theorem d_Mo_catches_33 : decode prog_13_method_92_code 33 = .ok (.iload_n 3, 1) := by decide +kernel
theorem d_Mo_catches_34 : decode prog_13_method_92_code 34 = .ok (.aload_n 0, 1) := by decide +kernel
theorem d_Mo_catches_35 : decode prog_13_method_92_code 35 = .ok (.getfield 169, 3) := by decide +kernel
theorem d_Mo_catches_38 : decode prog_13_method_92_code 38 = .ok (.iadd, 1) := by decide +kernel
theorem d_Mo_catches_39 : decode prog_13_method_92_code 39 = .ok (.goto 4, 3) := by decide +kernel
theorem d_Mo_catches_42 : decode prog_13_method_92_code 42 = .ok (.iload_n 3, 1) := by decide +kernel
theorem d_Mo_catches_43 : decode prog_13_method_92_code 43 = .ok (.aload_n 0, 1) := by decide +kernel
theorem d_Mo_catches_44 : decode prog_13_method_92_code 44 = .ok (.iload_n 2, 1) := by decide +kernel
theorem d_Mo_catches_45 : decode prog_13_method_92_code 45 = .ok (.invokevirtual 89, 3) := by decide +kernel
theorem d_Mo_catches_48 : decode prog_13_method_92_code 48 = .ok (.if_icmp .ge 7, 3) := by decide +kernel
theorem d_Mo_catches_51 : decode prog_13_method_92_code 51 = .ok (.iconst 1, 1) := by decide +kernel
theorem d_Mo_catches_52 : decode prog_13_method_92_code 52 = .ok (.goto 4, 3) := by decide +kernel
theorem d_Mo_catches_55 : decode prog_13_method_92_code 55 = .ok (.iconst 0, 1) := by decide +kernel
theorem d_Mo_catches_56 : decode prog_13_method_92_code 56 = .ok (.ireturn, 1) := by decide +kernel
theorem d_Mo_caughtBy_0 : decode prog_13_method_93_code 0 = .ok (.iconst 0, 1) := by decide +kernel
theorem d_Mo_caughtBy_1 : decode prog_13_method_93_code 1 = .ok (.istore_n 2, 1) := by decide +kernel
theorem d_Mo_caughtBy_2 : decode prog_13_method_93_code 2 = .ok (.iconst 0, 1) := by decide +kernel
theorem d_Mo_caughtBy_3 : decode prog_13_method_93_code 3 = .ok (.istore_n 3, 1) := by decide +kernel
theorem d_Mo_caughtBy_4 : decode prog_13_method_93_code 4 = .ok (.iload_n 3, 1) := by decide +kernel
theorem d_Mo_caughtBy_5 : decode prog_13_method_93_code 5 = .ok (.aload_n 0, 1) := by decide +kernel
theorem d_Mo_caughtBy_6 : decode prog_13_method_93_code 6 = .ok (.getfield 86, 3) := by decide +kernel
theorem d_Mo_caughtBy_9 : decode prog_13_method_93_code 9 = .ok (.if_icmp .ge 34, 3) := by decide +kernel
theorem d_Mo_caughtBy_12 : decode prog_13_method_93_code 12 = .ok (.iload_n 2, 1) := by decide +kernel
theorem d_Mo_caughtBy_13 : decode prog_13_method_93_code 13 = .ok (.aload_n 0, 1) := by decide +kernel
theorem d_Mo_caughtBy_14 : decode prog_13_method_93_code 14 = .ok (.iload_n 3, 1) := by decide +kernel
theorem d_Mo_caughtBy_15 : decode prog_13_method_93_code 15 = .ok (.invokevirtual 99, 3) := by decide +kernel
theorem d_Mo_caughtBy_18 : decode prog_13_method_93_code 18 = .ok (.ifCond .eq 16, 3) := by decide +kernel
theorem d_Mo_caughtBy_21 : decode prog_13_method_93_code 21 = .ok (.aload_n 0, 1) := by decide +kernel
theorem d_Mo_caughtBy_22 : decode prog_13_method_93_code 22 = .ok (.iload_n 1, 1) := by decide +kernel
theorem d_Mo_caughtBy_23 : decode prog_13_method_93_code 23 = .ok (.iload_n 3, 1) := by decide +kernel
theorem d_Mo_caughtBy_24 : decode prog_13_method_93_code 24 = .ok (.invokevirtual 328, 3) := by decide +kernel
theorem d_Mo_caughtBy_27 : decode prog_13_method_93_code 27 = .ok (.ifCond .eq 7, 3) := by decide +kernel
theorem d_Mo_caughtBy_30 : decode prog_13_method_93_code 30 = .ok (.iconst 1, 1) := by decide +kernel
theorem d_Mo_caughtBy_31 : decode prog_13_method_93_code 31 = .ok (.goto 4, 3) := by decide +kernel
theorem d_Mo_caughtBy_34 : decode prog_13_method_93_code 34 = .ok (.iconst 0, 1) := by decide +kernel
theorem d_Mo_caughtBy_35 : decode prog_13_method_93_code 35 = .ok (.iadd, 1) := by decide +kernel
theorem d_Mo_caughtBy_36 : decode prog_13_method_93_code 36 = .ok (.istore_n 2, 1) := by decide +kernel
theorem d_Mo_caughtBy_37 : decode prog_13_method_93_code 37 = .ok (.iinc 3 1, 3) := by decide +kernel
theorem d_Mo_caughtBy_40 : decode prog_13_method_93_code 40 = .ok (.goto (-36), 3) := by decide +kernel
theorem d_Mo_caughtBy_43 : decode prog_13_method_93_code 43 = .ok (.iload_n 2, 1) := by decide +kernel
theorem d_Mo_caughtBy_44 : decode prog_13_method_93_code 44 = .ok (.ireturn, 1) := by decide +kernel
theorem d_Mo_caught_0 : decode prog_13_method_94_code 0 = .ok (.aload_n 0, 1) := by decide +kernel
theorem d_Mo_caught_1 : decode prog_13_method_94_code 1 = .ok (.iconst 0, 1) := by decide +kernel
theorem d_Mo_caught_2 : decode prog_13_method_94_code 2 = .ok (.putfield 1, 3) := by decide +kernel
theorem d_Mo_caught_5 : decode prog_13_method_94_code 5 = .ok (.iload_n 1, 1) := by decide +kernel
theorem d_Mo_caught_6 : decode prog_13_method_94_code 6 = .ok (.ifCond .ge 6, 3) := by decide +kernel
theorem d_Mo_caught_9 : decode prog_13_method_94_code 9 = .ok (.bipush (-3), 2) := by decide +kernel
theorem d_Mo_caught_11 : decode prog_13_method_94_code 11 = .ok (.ireturn, 1) := by decide +kernel
theorem d_Mo_caught_12 : decode prog_13_method_94_code 12 = .ok (.aload_n 0, 1) := by decide +kernel
theorem d_Mo_caught_13 : decode prog_13_method_94_code 13 = .ok (.getfield 169, 3) := by decide +kernel
theorem d_Mo_caught_16 : decode prog_13_method_94_code 16 = .ok (.ifCond .ne 6, 3) := by decide +kernel
theorem d_Mo_caught_19 : decode prog_13_method_94_code 19 = .ok (.bipush (-5), 2) := by decide +kernel
theorem d_Mo_caught_21 : decode prog_13_method_94_code 21 = .ok (.ireturn, 1) := by decide +kernel
theorem d_Mo_caught_22 : decode prog_13_method_94_code 22 = .ok (.aload_n 0, 1) := by decide +kernel
theorem d_Mo_caught_23 : decode prog_13_method_94_code 23 = .ok (.invokevirtual 339, 3) := by decide +kernel
theorem d_Mo_caught_26 : decode prog_13_method_94_code 26 = .ok (.iconst 0, 1) := by decide +kernel
theorem d_Mo_caught_27 : decode prog_13_method_94_code 27 = .ok (.istore_n 2, 1) := by decide +kernel
theorem d_Mo_caught_28 : decode prog_13_method_94_code 28 = .ok (.iconst 0, 1) := by decide +kernel
theorem d_Mo_caught_29 : decode prog_13_method_94_code 29 = .ok (.istore_n 3, 1) := by decide +kernel
theorem d_Mo_caught_30 : decode prog_13_method_94_code 30 = .ok (.iload_n 3, 1) := by decide +kernel
theorem d_Mo_caught_31 : decode prog_13_method_94_code 31 = .ok (.aload_n 0, 1) := by decide +kernel
theorem d_Mo_caught_32 : decode prog_13_method_94_code 32 = .ok (.getfield 333, 3) := by decide +kernel
theorem d_Mo_caught_35 : decode prog_13_method_94_code 35 = .ok (.if_icmp .ge 35, 3) := by decide +kernel
theorem d_Mo_caught_38 : decode prog_13_method_94_code 38 = .ok (.iload_n 2, 1) := by decide +kernel
theorem d_Mo_caught_39 : decode prog_13_method_94_code 39 = .ok (.aload_n 0, 1) := by decide +kernel
theorem d_Mo_caught_40 : decode prog_13_method_94_code 40 = .ok (.aload_n 0, 1) := by decide +kernel
theorem d_Mo_caught_41 : decode prog_13_method_94_code 41 = .ok (.getfield 75, 3) := by decide +kernel
theorem d_Mo_caught_44 : decode prog_13_method_94_code 44 = .ok (.iload_n 3, 1) := by decide +kernel
theorem d_Mo_caught_45 : decode prog_13_method_94_code 45 = .ok (.iaload, 1) := by decide +kernel
theorem d_Mo_caught_46 : decode prog_13_method_94_code 46 = .ok (.invokevirtual 342, 3) := by decide +kernel
theorem d_Mo_caught_49 : decode prog_13_method_94_code 49 = .ok (.iload_n 1, 1) := by decide +kernel
theorem d_Mo_caught_50 : decode prog_13_method_94_code 50 = .ok (.if_icmp .ne 11, 3) := by decide +kernel
theorem d_Mo_caught_53 : decode prog_13_method_94_code 53 = .ok (.aload_n 0, 1) := by decide +kernel
theorem d_Mo_caught_54 : decode prog_13_method_94_code 54 = .ok (.iload_n 3, 1) := by decide +kernel
theorem d_Mo_caught_55 : decode prog_13_method_94_code 55 = .ok (.invokevirtual 345, 3) := by decide +kernel
theorem d_Mo_caught_58 : decode prog_13_method_94_code 58 = .ok (.goto 4, 3) := by decide +kernel
theorem d_Mo_caught_61 : decode prog_13_method_94_code 61 = .ok (.iconst 0, 1) := by decide +kernel
theorem d_Mo_caught_62 : decode prog_13_method_94_code 62 = .ok (.iadd, 1) := by decide +kernel
theorem d_Mo_caught_63 : decode prog_13_method_94_code 63 = .ok (.istore_n 2, 1) := by decide +kernel
theorem d_Mo_caught_64 : decode prog_13_method_94_code 64 = .ok (.iinc 3 1, 3) := by decide +kernel
theorem d_Mo_caught_67 : decode prog_13_method_94_code 67 = .ok (.goto (-37), 3) := by decide +kernel
theorem d_Mo_caught_70 : decode prog_13_method_94_code 70 = .ok (.iload_n 2, 1) := by decide +kernel
theorem d_Mo_caught_71 : decode prog_13_method_94_code 71 = .ok (.ireturn, 1) := by decide +kernel
theorem d_Mo_worst_0 : decode prog_13_method_95_code 0 = .ok (.aload_n 0, 1) := by decide +kernel
theorem d_Mo_worst_1 : decode prog_13_method_95_code 1 = .ok (.iconst 0, 1) := by decide +kernel
theorem d_Mo_worst_2 : decode prog_13_method_95_code 2 = .ok (.putfield 1, 3) := by decide +kernel
theorem d_Mo_worst_5 : decode prog_13_method_95_code 5 = .ok (.iload_n 1, 1) := by decide +kernel
theorem d_Mo_worst_6 : decode prog_13_method_95_code 6 = .ok (.i2l, 1) := by decide +kernel
theorem d_Mo_worst_7 : decode prog_13_method_95_code 7 = .ok (.lconst 0, 1) := by decide +kernel
theorem d_Mo_worst_8 : decode prog_13_method_95_code 8 = .ok (.lconst 1, 1) := by decide +kernel
theorem d_Mo_worst_9 : decode prog_13_method_95_code 9 = .ok (.invokestatic 92, 3) := by decide +kernel
theorem d_Mo_worst_12 : decode prog_13_method_95_code 12 = .ok (.ifCond .ne 6, 3) := by decide +kernel
theorem d_Mo_worst_15 : decode prog_13_method_95_code 15 = .ok (.bipush (-2), 2) := by decide +kernel
theorem d_Mo_worst_17 : decode prog_13_method_95_code 17 = .ok (.ireturn, 1) := by decide +kernel
theorem d_Mo_worst_18 : decode prog_13_method_95_code 18 = .ok (.aload_n 0, 1) := by decide +kernel
theorem d_Mo_worst_19 : decode prog_13_method_95_code 19 = .ok (.getfield 169, 3) := by decide +kernel
theorem d_Mo_worst_22 : decode prog_13_method_95_code 22 = .ok (.ifCond .ne 6, 3) := by decide +kernel
theorem d_Mo_worst_25 : decode prog_13_method_95_code 25 = .ok (.bipush (-5), 2) := by decide +kernel
theorem d_Mo_worst_27 : decode prog_13_method_95_code 27 = .ok (.ireturn, 1) := by decide +kernel
theorem d_Mo_worst_28 : decode prog_13_method_95_code 28 = .ok (.aload_n 0, 1) := by decide +kernel
theorem d_Mo_worst_29 : decode prog_13_method_95_code 29 = .ok (.invokevirtual 339, 3) := by decide +kernel
theorem d_Mo_worst_32 : decode prog_13_method_95_code 32 = .ok (.iconst (-1), 1) := by decide +kernel
theorem d_Mo_worst_33 : decode prog_13_method_95_code 33 = .ok (.istore_n 2, 1) := by decide +kernel
theorem d_Mo_worst_34 : decode prog_13_method_95_code 34 = .ok (.iconst (-1), 1) := by decide +kernel
theorem d_Mo_worst_35 : decode prog_13_method_95_code 35 = .ok (.istore_n 3, 1) := by decide +kernel
theorem d_Mo_worst_36 : decode prog_13_method_95_code 36 = .ok (.iconst 0, 1) := by decide +kernel
theorem d_Mo_worst_37 : decode prog_13_method_95_code 37 = .ok (.istore 4, 2) := by decide +kernel
theorem d_Mo_worst_39 : decode prog_13_method_95_code 39 = .ok (.iload 4, 2) := by decide +kernel
theorem d_Mo_worst_41 : decode prog_13_method_95_code 41 = .ok (.aload_n 0, 1) := by decide +kernel
theorem d_Mo_worst_42 : decode prog_13_method_95_code 42 = .ok (.getfield 333, 3) := by decide +kernel
theorem d_Mo_worst_45 : decode prog_13_method_95_code 45 = .ok (.if_icmp .ge 90, 3) := by decide +kernel
theorem d_Mo_worst_48 : decode prog_13_method_95_code 48 = .ok (.iconst 0, 1) := by decide +kernel
theorem d_Mo_worst_49 : decode prog_13_method_95_code 49 = .ok (.istore 5, 2) := by decide +kernel
theorem d_Mo_worst_51 : decode prog_13_method_95_code 51 = .ok (.iconst 0, 1) := by decide +kernel
theorem d_Mo_worst_52 : decode prog_13_method_95_code 52 = .ok (.istore 6, 2) := by decide +kernel
theorem d_Mo_worst_54 : decode prog_13_method_95_code 54 = .ok (.iload 6, 2) := by decide +kernel
theorem d_Mo_worst_56 : decode prog_13_method_95_code 56 = .ok (.aload_n 0, 1) := by decide +kernel
theorem d_Mo_worst_57 : decode prog_13_method_95_code 57 = .ok (.getfield 86, 3) := by decide +kernel
theorem d_Mo_worst_60 : decode prog_13_method_95_code 60 = .ok (.if_icmp .ge 49, 3) := by decide +kernel
theorem d_Mo_worst_63 : decode prog_13_method_95_code 63 = .ok (.iload 5, 2) := by decide +kernel
theorem d_Mo_worst_65 : decode prog_13_method_95_code 65 = .ok (.aload_n 0, 1) := by decide +kernel
theorem d_Mo_worst_66 : decode prog_13_method_95_code 66 = .ok (.aload_n 0, 1) := by decide +kernel
theorem d_Mo_worst_67 : decode prog_13_method_95_code 67 = .ok (.getfield 75, 3) := by decide +kernel
theorem d_Mo_worst_70 : decode prog_13_method_95_code 70 = .ok (.iload 4, 2) := by decide +kernel
theorem d_Mo_worst_72 : decode prog_13_method_95_code 72 = .ok (.iaload, 1) := by decide +kernel
theorem d_Mo_worst_73 : decode prog_13_method_95_code 73 = .ok (.iload 6, 2) := by decide +kernel
theorem d_Mo_worst_75 : decode prog_13_method_95_code 75 = .ok (.invokevirtual 328, 3) := by decide +kernel
theorem d_Mo_worst_78 : decode prog_13_method_95_code 78 = .ok (.ifCond .eq 21, 3) := by decide +kernel
theorem d_Mo_worst_81 : decode prog_13_method_95_code 81 = .ok (.aload_n 0, 1) := by decide +kernel
theorem d_Mo_worst_82 : decode prog_13_method_95_code 82 = .ok (.iload 6, 2) := by decide +kernel
theorem d_Mo_worst_84 : decode prog_13_method_95_code 84 = .ok (.invokevirtual 260, 3) := by decide +kernel
theorem d_Mo_worst_87 : decode prog_13_method_95_code 87 = .ok (.ifCond .le 12, 3) := by decide +kernel
theorem d_Mo_worst_90 : decode prog_13_method_95_code 90 = .ok (.aload_n 0, 1) := by decide +kernel
theorem d_Mo_worst_91 : decode prog_13_method_95_code 91 = .ok (.iload 6, 2) := by decide +kernel
theorem d_Mo_worst_93 : decode prog_13_method_95_code 93 = .ok (.invokevirtual 260, 3) := by decide +kernel
theorem d_Mo_worst_96 : decode prog_13_method_95_code 96 = .ok (.goto 4, 3) := by decide +kernel
theorem d_Mo_worst_99 : decode prog_13_method_95_code 99 = .ok (.iconst 0, 1) := by decide +kernel
theorem d_Mo_worst_100 : decode prog_13_method_95_code 100 = .ok (.iadd, 1) := by decide +kernel
theorem d_Mo_worst_101 : decode prog_13_method_95_code 101 = .ok (.istore 5, 2) := by decide +kernel
theorem d_Mo_worst_103 : decode prog_13_method_95_code 103 = .ok (.iinc 6 1, 3) := by decide +kernel
theorem d_Mo_worst_106 : decode prog_13_method_95_code 106 = .ok (.goto (-52), 3) := by decide +kernel
theorem d_Mo_worst_109 : decode prog_13_method_95_code 109 = .ok (.iload 5, 2) := by decide +kernel
theorem d_Mo_worst_111 : decode prog_13_method_95_code 111 = .ok (.iload_n 3, 1) := by decide +kernel
theorem d_Mo_worst_112 : decode prog_13_method_95_code 112 = .ok (.if_icmp .gt 6, 3) := by decide +kernel
theorem d_Mo_worst_115 : decode prog_13_method_95_code 115 = .ok (.goto 14, 3) := by decide +kernel
theorem d_Mo_worst_118 : decode prog_13_method_95_code 118 = .ok (.aload_n 0, 1) := by decide +kernel
theorem d_Mo_worst_119 : decode prog_13_method_95_code 119 = .ok (.getfield 75, 3) := by decide +kernel
theorem d_Mo_worst_122 : decode prog_13_method_95_code 122 = .ok (.iload 4, 2) := by decide +kernel
theorem d_Mo_worst_124 : decode prog_13_method_95_code 124 = .ok (.iaload, 1) := by decide +kernel
theorem d_Mo_worst_125 : decode prog_13_method_95_code 125 = .ok (.istore_n 2, 1) := by decide +kernel
theorem d_Mo_worst_126 : decode prog_13_method_95_code 126 = .ok (.iload 5, 2) := by decide +kernel
theorem d_Mo_worst_128 : decode prog_13_method_95_code 128 = .ok (.istore_n 3, 1) := by decide +kernel
theorem d_Mo_worst_129 : decode prog_13_method_95_code 129 = .ok (.iinc 4 1, 3) := by decide +kernel
theorem d_Mo_worst_132 : decode prog_13_method_95_code 132 = .ok (.goto (-93), 3) := by decide +kernel
theorem d_Mo_worst_135 : decode prog_13_method_95_code 135 = .ok (.iload_n 1, 1) := by decide +kernel
theorem d_Mo_worst_136 : decode prog_13_method_95_code 136 = .ok (.ifCond .ne 7, 3) := by decide +kernel
theorem d_Mo_worst_139 : decode prog_13_method_95_code 139 = .ok (.iload_n 2, 1) := by decide +kernel
theorem d_Mo_worst_140 : decode prog_13_method_95_code 140 = .ok (.goto 4, 3) := by decide +kernel
theorem d_Mo_worst_143 : decode prog_13_method_95_code 143 = .ok (.iload_n 3, 1) := by decide +kernel
theorem d_Mo_worst_144 : decode prog_13_method_95_code 144 = .ok (.ireturn, 1) := by decide +kernel
theorem d_Mo_common_0 : decode prog_13_method_96_code 0 = .ok (.iload_n 0, 1) := by decide +kernel
theorem d_Mo_common_1 : decode prog_13_method_96_code 1 = .ok (.istore_n 2, 1) := by decide +kernel
theorem d_Mo_common_2 : decode prog_13_method_96_code 2 = .ok (.iload_n 1, 1) := by decide +kernel
theorem d_Mo_common_3 : decode prog_13_method_96_code 3 = .ok (.istore_n 3, 1) := by decide +kernel
theorem d_Mo_common_4 : decode prog_13_method_96_code 4 = .ok (.iload_n 3, 1) := by decide +kernel
theorem d_Mo_common_5 : decode prog_13_method_96_code 5 = .ok (.ifCond .eq 16, 3) := by decide +kernel
theorem d_Mo_common_8 : decode prog_13_method_96_code 8 = .ok (.iload_n 2, 1) := by decide +kernel
theorem d_Mo_common_9 : decode prog_13_method_96_code 9 = .ok (.iload_n 3, 1) := by decide +kernel
theorem d_Mo_common_10 : decode prog_13_method_96_code 10 = .ok (.irem, 1) := by decide +kernel
theorem d_Mo_common_11 : decode prog_13_method_96_code 11 = .ok (.istore 4, 2) := by decide +kernel
theorem d_Mo_common_13 : decode prog_13_method_96_code 13 = .ok (.iload_n 3, 1) := by decide +kernel
theorem d_Mo_common_14 : decode prog_13_method_96_code 14 = .ok (.istore_n 2, 1) := by decide +kernel
theorem d_Mo_common_15 : decode prog_13_method_96_code 15 = .ok (.iload 4, 2) := by decide +kernel
theorem d_Mo_common_17 : decode prog_13_method_96_code 17 = .ok (.istore_n 3, 1) := by decide +kernel
theorem d_Mo_common_18 : decode prog_13_method_96_code 18 = .ok (.goto (-14), 3) := by decide +kernel
theorem d_Mo_common_21 : decode prog_13_method_96_code 21 = .ok (.iload_n 2, 1) := by decide +kernel
theorem d_Mo_common_22 : decode prog_13_method_96_code 22 = .ok (.ireturn, 1) := by decide +kernel
theorem d_Mo_chance_0 : decode prog_13_method_97_code 0 = .ok (.aload_n 0, 1) := by decide +kernel
theorem d_Mo_chance_1 : decode prog_13_method_97_code 1 = .ok (.iconst 0, 1) := by decide +kernel
theorem d_Mo_chance_2 : decode prog_13_method_97_code 2 = .ok (.putfield 1, 3) := by decide +kernel
theorem d_Mo_chance_5 : decode prog_13_method_97_code 5 = .ok (.iload_n 1, 1) := by decide +kernel
theorem d_Mo_chance_6 : decode prog_13_method_97_code 6 = .ok (.i2l, 1) := by decide +kernel
theorem d_Mo_chance_7 : decode prog_13_method_97_code 7 = .ok (.lconst 0, 1) := by decide +kernel
theorem d_Mo_chance_8 : decode prog_13_method_97_code 8 = .ok (.lconst 1, 1) := by decide +kernel
theorem d_Mo_chance_9 : decode prog_13_method_97_code 9 = .ok (.invokestatic 92, 3) := by decide +kernel
theorem d_Mo_chance_12 : decode prog_13_method_97_code 12 = .ok (.ifCond .ne 6, 3) := by decide +kernel
theorem d_Mo_chance_15 : decode prog_13_method_97_code 15 = .ok (.bipush (-2), 2) := by decide +kernel
theorem d_Mo_chance_17 : decode prog_13_method_97_code 17 = .ok (.ireturn, 1) := by decide +kernel
theorem d_Mo_chance_18 : decode prog_13_method_97_code 18 = .ok (.aload_n 0, 1) := by decide +kernel
theorem d_Mo_chance_19 : decode prog_13_method_97_code 19 = .ok (.getfield 169, 3) := by decide +kernel
theorem d_Mo_chance_22 : decode prog_13_method_97_code 22 = .ok (.ifCond .ne 6, 3) := by decide +kernel
theorem d_Mo_chance_25 : decode prog_13_method_97_code 25 = .ok (.bipush (-5), 2) := by decide +kernel
theorem d_Mo_chance_27 : decode prog_13_method_97_code 27 = .ok (.ireturn, 1) := by decide +kernel
theorem d_Mo_chance_28 : decode prog_13_method_97_code 28 = .ok (.aload_n 0, 1) := by decide +kernel
theorem d_Mo_chance_29 : decode prog_13_method_97_code 29 = .ok (.invokevirtual 339, 3) := by decide +kernel
theorem d_Mo_chance_32 : decode prog_13_method_97_code 32 = .ok (.iconst 0, 1) := by decide +kernel
theorem d_Mo_chance_33 : decode prog_13_method_97_code 33 = .ok (.istore_n 2, 1) := by decide +kernel
theorem d_Mo_chance_34 : decode prog_13_method_97_code 34 = .ok (.iconst 0, 1) := by decide +kernel
theorem d_Mo_chance_35 : decode prog_13_method_97_code 35 = .ok (.istore_n 3, 1) := by decide +kernel
theorem d_Mo_chance_36 : decode prog_13_method_97_code 36 = .ok (.iload_n 3, 1) := by decide +kernel
theorem d_Mo_chance_37 : decode prog_13_method_97_code 37 = .ok (.aload_n 0, 1) := by decide +kernel
theorem d_Mo_chance_38 : decode prog_13_method_97_code 38 = .ok (.getfield 333, 3) := by decide +kernel
theorem d_Mo_chance_41 : decode prog_13_method_97_code 41 = .ok (.if_icmp .ge 34, 3) := by decide +kernel
theorem d_Mo_chance_44 : decode prog_13_method_97_code 44 = .ok (.iload_n 2, 1) := by decide +kernel
theorem d_Mo_chance_45 : decode prog_13_method_97_code 45 = .ok (.aload_n 0, 1) := by decide +kernel
theorem d_Mo_chance_46 : decode prog_13_method_97_code 46 = .ok (.aload_n 0, 1) := by decide +kernel
theorem d_Mo_chance_47 : decode prog_13_method_97_code 47 = .ok (.getfield 75, 3) := by decide +kernel
theorem d_Mo_chance_50 : decode prog_13_method_97_code 50 = .ok (.iload_n 3, 1) := by decide +kernel
theorem d_Mo_chance_51 : decode prog_13_method_97_code 51 = .ok (.iaload, 1) := by decide +kernel
theorem d_Mo_chance_52 : decode prog_13_method_97_code 52 = .ok (.invokevirtual 342, 3) := by decide +kernel
theorem d_Mo_chance_55 : decode prog_13_method_97_code 55 = .ok (.ifCond .le 11, 3) := by decide +kernel
theorem d_Mo_chance_58 : decode prog_13_method_97_code 58 = .ok (.aload_n 0, 1) := by decide +kernel
theorem d_Mo_chance_59 : decode prog_13_method_97_code 59 = .ok (.iload_n 3, 1) := by decide +kernel
theorem d_Mo_chance_60 : decode prog_13_method_97_code 60 = .ok (.invokevirtual 345, 3) := by decide +kernel
theorem d_Mo_chance_63 : decode prog_13_method_97_code 63 = .ok (.goto 4, 3) := by decide +kernel
theorem d_Mo_chance_66 : decode prog_13_method_97_code 66 = .ok (.iconst 0, 1) := by decide +kernel
theorem d_Mo_chance_67 : decode prog_13_method_97_code 67 = .ok (.iadd, 1) := by decide +kernel
theorem d_Mo_chance_68 : decode prog_13_method_97_code 68 = .ok (.istore_n 2, 1) := by decide +kernel
theorem d_Mo_chance_69 : decode prog_13_method_97_code 69 = .ok (.iinc 3 1, 3) := by decide +kernel
theorem d_Mo_chance_72 : decode prog_13_method_97_code 72 = .ok (.goto (-36), 3) := by decide +kernel
theorem d_Mo_chance_75 : decode prog_13_method_97_code 75 = .ok (.iload_n 1, 1) := by decide +kernel
theorem d_Mo_chance_76 : decode prog_13_method_97_code 76 = .ok (.ifCond .ne 7, 3) := by decide +kernel
theorem d_Mo_chance_79 : decode prog_13_method_97_code 79 = .ok (.iload_n 2, 1) := by decide +kernel
theorem d_Mo_chance_80 : decode prog_13_method_97_code 80 = .ok (.goto 7, 3) := by decide +kernel
theorem d_Mo_chance_83 : decode prog_13_method_97_code 83 = .ok (.aload_n 0, 1) := by decide +kernel
theorem d_Mo_chance_84 : decode prog_13_method_97_code 84 = .ok (.getfield 169, 3) := by decide +kernel
theorem d_Mo_chance_87 : decode prog_13_method_97_code 87 = .ok (.iload_n 2, 1) := by decide +kernel
theorem d_Mo_chance_88 : decode prog_13_method_97_code 88 = .ok (.aload_n 0, 1) := by decide +kernel
theorem d_Mo_chance_89 : decode prog_13_method_97_code 89 = .ok (.getfield 169, 3) := by decide +kernel
theorem d_Mo_chance_92 : decode prog_13_method_97_code 92 = .ok (.invokestatic 348, 3) := by decide +kernel
theorem d_Mo_chance_95 : decode prog_13_method_97_code 95 = .ok (.idiv, 1) := by decide +kernel
theorem d_Mo_chance_96 : decode prog_13_method_97_code 96 = .ok (.ireturn, 1) := by decide +kernel
theorem d_Mo_were_0 : decode prog_13_method_98_code 0 = .ok (.aload_n 0, 1) := by decide +kernel
theorem d_Mo_were_1 : decode prog_13_method_98_code 1 = .ok (.iconst 0, 1) := by decide +kernel
theorem d_Mo_were_2 : decode prog_13_method_98_code 2 = .ok (.putfield 1, 3) := by decide +kernel
theorem d_Mo_were_5 : decode prog_13_method_98_code 5 = .ok (.iload_n 3, 1) := by decide +kernel
theorem d_Mo_were_6 : decode prog_13_method_98_code 6 = .ok (.i2l, 1) := by decide +kernel
theorem d_Mo_were_7 : decode prog_13_method_98_code 7 = .ok (.lconst 0, 1) := by decide +kernel
theorem d_Mo_were_8 : decode prog_13_method_98_code 8 = .ok (.ldc2_w 318, 3) := by decide +kernel
theorem d_Mo_were_11 : decode prog_13_method_98_code 11 = .ok (.invokestatic 92, 3) := by decide +kernel
theorem d_Mo_were_14 : decode prog_13_method_98_code 14 = .ok (.ifCond .ne 6, 3) := by decide +kernel
theorem d_Mo_were_17 : decode prog_13_method_98_code 17 = .ok (.bipush (-2), 2) := by decide +kernel
theorem d_Mo_were_19 : decode prog_13_method_98_code 19 = .ok (.ireturn, 1) := by decide +kernel
theorem d_Mo_were_20 : decode prog_13_method_98_code 20 = .ok (.iload_n 1, 1) := by decide +kernel
theorem d_Mo_were_21 : decode prog_13_method_98_code 21 = .ok (.i2l, 1) := by decide +kernel
theorem d_Mo_were_22 : decode prog_13_method_98_code 22 = .ok (.lconst 1, 1) := by decide +kernel
theorem d_Mo_were_23 : decode prog_13_method_98_code 23 = .ok (.ldc2_w 290, 3) := by decide +kernel
theorem d_Mo_were_26 : decode prog_13_method_98_code 26 = .ok (.invokestatic 92, 3) := by decide +kernel
theorem d_Mo_were_29 : decode prog_13_method_98_code 29 = .ok (.ifCond .eq 14, 3) := by decide +kernel
theorem d_Mo_were_32 : decode prog_13_method_98_code 32 = .ok (.iload_n 2, 1) := by decide +kernel
theorem d_Mo_were_33 : decode prog_13_method_98_code 33 = .ok (.i2l, 1) := by decide +kernel
theorem d_Mo_were_34 : decode prog_13_method_98_code 34 = .ok (.lconst 1, 1) := by decide +kernel
theorem d_Mo_were_35 : decode prog_13_method_98_code 35 = .ok (.iload_n 1, 1) := by decide +kernel
theorem d_Mo_were_36 : decode prog_13_method_98_code 36 = .ok (.i2l, 1) := by decide +kernel
theorem d_Mo_were_37 : decode prog_13_method_98_code 37 = .ok (.invokestatic 92, 3) := by decide +kernel
theorem d_Mo_were_40 : decode prog_13_method_98_code 40 = .ok (.ifCond .ne 6, 3) := by decide +kernel
theorem d_Mo_were_43 : decode prog_13_method_98_code 43 = .ok (.bipush (-3), 2) := by decide +kernel
theorem d_Mo_were_45 : decode prog_13_method_98_code 45 = .ok (.ireturn, 1) := by decide +kernel
theorem d_Mo_were_46 : decode prog_13_method_98_code 46 = .ok (.aload_n 0, 1) := by decide +kernel
theorem d_Mo_were_47 : decode prog_13_method_98_code 47 = .ok (.invokevirtual 257, 3) := by decide +kernel
theorem d_Mo_were_50 : decode prog_13_method_98_code 50 = .ok (.aload_n 0, 1) := by decide +kernel
theorem d_Mo_were_51 : decode prog_13_method_98_code 51 = .ok (.getfield 169, 3) := by decide +kernel
theorem d_Mo_were_54 : decode prog_13_method_98_code 54 = .ok (.istore 4, 2) := by decide +kernel
theorem d_Mo_were_56 : decode prog_13_method_98_code 56 = .ok (.iconst 0, 1) := by decide +kernel
theorem d_Mo_were_57 : decode prog_13_method_98_code 57 = .ok (.istore 5, 2) := by decide +kernel
theorem d_Mo_were_59 : decode prog_13_method_98_code 59 = .ok (.iconst 0, 1) := by decide +kernel
theorem d_Mo_were_60 : decode prog_13_method_98_code 60 = .ok (.istore 6, 2) := by decide +kernel
theorem d_Mo_were_62 : decode prog_13_method_98_code 62 = .ok (.iload 6, 2) := by decide +kernel
theorem d_Mo_were_64 : decode prog_13_method_98_code 64 = .ok (.aload_n 0, 1) := by decide +kernel
theorem d_Mo_were_65 : decode prog_13_method_98_code 65 = .ok (.getfield 86, 3) := by decide +kernel
theorem d_Mo_were_68 : decode prog_13_method_98_code 68 = .ok (.if_icmp .ge 22, 3) := by decide +kernel
theorem d_Mo_were_71 : decode prog_13_method_98_code 71 = .ok (.aload_n 0, 1) := by decide +kernel
theorem d_Mo_were_72 : decode prog_13_method_98_code 72 = .ok (.getfield 78, 3) := by decide +kernel
theorem d_Mo_were_75 : decode prog_13_method_98_code 75 = .ok (.iload 6, 2) := by decide +kernel
theorem d_Mo_were_77 : decode prog_13_method_98_code 77 = .ok (.aload_n 0, 1) := by decide +kernel
theorem d_Mo_were_78 : decode prog_13_method_98_code 78 = .ok (.iload 6, 2) := by decide +kernel
theorem d_Mo_were_80 : decode prog_13_method_98_code 80 = .ok (.invokevirtual 263, 3) := by decide +kernel
theorem d_Mo_were_83 : decode prog_13_method_98_code 83 = .ok (.bastore, 1) := by decide +kernel
theorem d_Mo_were_84 : decode prog_13_method_98_code 84 = .ok (.iinc 6 1, 3) := by decide +kernel
theorem d_Mo_were_87 : decode prog_13_method_98_code 87 = .ok (.goto (-25), 3) := by decide +kernel
theorem d_Mo_were_90 : decode prog_13_method_98_code 90 = .ok (.aload_n 0, 1) := by decide +kernel
theorem d_Mo_were_91 : decode prog_13_method_98_code 91 = .ok (.iload_n 1, 1) := by decide +kernel
theorem d_Mo_were_92 : decode prog_13_method_98_code 92 = .ok (.putfield 169, 3) := by decide +kernel
theorem d_Mo_were_95 : decode prog_13_method_98_code 95 = .ok (.aload_n 0, 1) := by decide +kernel
theorem d_Mo_were_96 : decode prog_13_method_98_code 96 = .ok (.iload_n 1, 1) := by decide +kernel
theorem d_Mo_were_97 : decode prog_13_method_98_code 97 = .ok (.invokevirtual 204, 3) := by decide +kernel
theorem d_Mo_were_100 : decode prog_13_method_98_code 100 = .ok (.iconst 0, 1) := by decide +kernel
theorem d_Mo_were_101 : decode prog_13_method_98_code 101 = .ok (.istore 6, 2) := by decide +kernel
theorem d_Mo_were_103 : decode prog_13_method_98_code 103 = .ok (.iload 6, 2) := by decide +kernel
theorem d_Mo_were_105 : decode prog_13_method_98_code 105 = .ok (.aload_n 0, 1) := by decide +kernel
theorem d_Mo_were_106 : decode prog_13_method_98_code 106 = .ok (.getfield 86, 3) := by decide +kernel
theorem d_Mo_were_109 : decode prog_13_method_98_code 109 = .ok (.if_icmp .ge 113, 3) := by decide +kernel
theorem d_Mo_were_112 : decode prog_13_method_98_code 112 = .ok (.aload_n 0, 1) := by decide +kernel
theorem d_Mo_were_113 : decode prog_13_method_98_code 113 = .ok (.iload 6, 2) := by decide +kernel
theorem d_Mo_were_115 : decode prog_13_method_98_code 115 = .ok (.invokevirtual 201, 3) := by decide +kernel
theorem d_Mo_were_118 : decode prog_13_method_98_code 118 = .ok (.ifCond .ne 13, 3) := by decide +kernel
theorem d_Mo_were_121 : decode prog_13_method_98_code 121 = .ok (.aload_n 0, 1) := by decide +kernel
theorem d_Mo_were_122 : decode prog_13_method_98_code 122 = .ok (.iload_n 2, 1) := by decide +kernel
theorem d_Mo_were_123 : decode prog_13_method_98_code 123 = .ok (.iload 6, 2) := by decide +kernel
theorem d_Mo_were_125 : decode prog_13_method_98_code 125 = .ok (.invokevirtual 328, 3) := by decide +kernel
theorem d_Mo_were_128 : decode prog_13_method_98_code 128 = .ok (.ifCond .eq 7, 3) := by decide +kernel
theorem d_Mo_were_131 : decode prog_13_method_98_code 131 = .ok (.iconst 1, 1) := by decide +kernel
theorem d_Mo_were_132 : decode prog_13_method_98_code 132 = .ok (.goto 4, 3) := by decide +kernel
theorem d_Mo_were_135 : decode prog_13_method_98_code 135 = .ok (.iconst 0, 1) := by decide +kernel
theorem d_Mo_were_136 : decode prog_13_method_98_code 136 = .ok (.istore 7, 2) := by decide +kernel
theorem d_Mo_were_138 : decode prog_13_method_98_code 138 = .ok (.iload_n 3, 1) := by decide +kernel
theorem d_Mo_were_139 : decode prog_13_method_98_code 139 = .ok (.ifCond .ne 22, 3) := by decide +kernel
theorem d_Mo_were_142 : decode prog_13_method_98_code 142 = .ok (.iload 5, 2) := by decide +kernel
theorem d_Mo_were_144 : decode prog_13_method_98_code 144 = .ok (.aload_n 0, 1) := by decide +kernel
theorem d_Mo_were_145 : decode prog_13_method_98_code 145 = .ok (.iload 6, 2) := by decide +kernel
theorem d_Mo_were_147 : decode prog_13_method_98_code 147 = .ok (.invokevirtual 201, 3) := by decide +kernel
theorem d_Mo_were_150 : decode prog_13_method_98_code 150 = .ok (.ifCond .eq 7, 3) := by decide +kernel
theorem d_Mo_were_153 : decode prog_13_method_98_code 153 = .ok (.iconst 1, 1) := by decide +kernel
theorem d_Mo_were_154 : decode prog_13_method_98_code 154 = .ok (.goto 4, 3) := by decide +kernel
theorem d_Mo_were_157 : decode prog_13_method_98_code 157 = .ok (.iconst 0, 1) := by decide +kernel
theorem d_Mo_were_158 : decode prog_13_method_98_code 158 = .ok (.iadd, 1) := by decide +kernel
theorem d_Mo_were_159 : decode prog_13_method_98_code 159 = .ok (.istore 5, 2) := by decide +kernel
theorem d_Mo_were_161 : decode prog_13_method_98_code 161 = .ok (.iload_n 3, 1) := by decide +kernel
theorem d_Mo_were_162 : decode prog_13_method_98_code 162 = .ok (.iconst 2, 1) := by decide +kernel
theorem d_Mo_were_163 : decode prog_13_method_98_code 163 = .ok (.if_icmp .ne 23, 3) := by decide +kernel
theorem d_Mo_were_166 : decode prog_13_method_98_code 166 = .ok (.iload 5, 2) := by decide +kernel
theorem d_Mo_were_168 : decode prog_13_method_98_code 168 = .ok (.aload_n 0, 1) := by decide +kernel
theorem d_Mo_were_169 : decode prog_13_method_98_code 169 = .ok (.iload_n 2, 1) := by decide +kernel
theorem d_Mo_were_170 : decode prog_13_method_98_code 170 = .ok (.iload 6, 2) := by decide +kernel
theorem d_Mo_were_172 : decode prog_13_method_98_code 172 = .ok (.invokevirtual 328, 3) := by decide +kernel
theorem d_Mo_were_175 : decode prog_13_method_98_code 175 = .ok (.ifCond .eq 7, 3) := by decide +kernel
theorem d_Mo_were_178 : decode prog_13_method_98_code 178 = .ok (.iconst 1, 1) := by decide +kernel
theorem d_Mo_were_179 : decode prog_13_method_98_code 179 = .ok (.goto 4, 3) := by decide +kernel
theorem d_Mo_were_182 : decode prog_13_method_98_code 182 = .ok (.iconst 0, 1) := by decide +kernel
theorem d_Mo_were_183 : decode prog_13_method_98_code 183 = .ok (.iadd, 1) := by decide +kernel
theorem d_Mo_were_184 : decode prog_13_method_98_code 184 = .ok (.istore 5, 2) := by decide +kernel
theorem d_Mo_were_186 : decode prog_13_method_98_code 186 = .ok (.iload_n 3, 1) := by decide +kernel
theorem d_Mo_were_187 : decode prog_13_method_98_code 187 = .ok (.iconst 3, 1) := by decide +kernel
theorem d_Mo_were_188 : decode prog_13_method_98_code 188 = .ok (.if_icmp .ne 28, 3) := by decide +kernel
theorem d_Mo_were_191 : decode prog_13_method_98_code 191 = .ok (.iload 5, 2) := by decide +kernel
theorem d_Mo_were_193 : decode prog_13_method_98_code 193 = .ok (.aload_n 0, 1) := by decide +kernel
theorem d_Mo_were_194 : decode prog_13_method_98_code 194 = .ok (.getfield 78, 3) := by decide +kernel
theorem d_Mo_were_197 : decode prog_13_method_98_code 197 = .ok (.iload 6, 2) := by decide +kernel
theorem d_Mo_were_199 : decode prog_13_method_98_code 199 = .ok (.baload, 1) := by decide +kernel
theorem d_Mo_were_200 : decode prog_13_method_98_code 200 = .ok (.ifCond .eq 12, 3) := by decide +kernel
theorem d_Mo_were_203 : decode prog_13_method_98_code 203 = .ok (.iload 7, 2) := by decide +kernel
theorem d_Mo_were_205 : decode prog_13_method_98_code 205 = .ok (.ifCond .eq 7, 3) := by decide +kernel
theorem d_Mo_were_208 : decode prog_13_method_98_code 208 = .ok (.iconst 1, 1) := by decide +kernel
theorem d_Mo_were_209 : decode prog_13_method_98_code 209 = .ok (.goto 4, 3) := by decide +kernel
theorem d_Mo_were_212 : decode prog_13_method_98_code 212 = .ok (.iconst 0, 1) := by decide +kernel
theorem d_Mo_were_213 : decode prog_13_method_98_code 213 = .ok (.iadd, 1) := by decide +kernel
theorem d_Mo_were_214 : decode prog_13_method_98_code 214 = .ok (.istore 5, 2) := by decide +kernel
theorem d_Mo_were_216 : decode prog_13_method_98_code 216 = .ok (.iinc 6 1, 3) := by decide +kernel
theorem d_Mo_were_219 : decode prog_13_method_98_code 219 = .ok (.goto (-116), 3) := by decide +kernel
theorem d_Mo_were_222 : decode prog_13_method_98_code 222 = .ok (.aload_n 0, 1) := by decide +kernel
theorem d_Mo_were_223 : decode prog_13_method_98_code 223 = .ok (.iload 4, 2) := by decide +kernel
theorem d_Mo_were_225 : decode prog_13_method_98_code 225 = .ok (.putfield 169, 3) := by decide +kernel
theorem d_Mo_were_228 : decode prog_13_method_98_code 228 = .ok (.iload_n 3, 1) := by decide +kernel
theorem d_Mo_were_229 : decode prog_13_method_98_code 229 = .ok (.iconst 1, 1) := by decide +kernel
theorem d_Mo_were_230 : decode prog_13_method_98_code 230 = .ok (.if_icmp .ne 10, 3) := by decide +kernel
theorem d_Mo_were_233 : decode prog_13_method_98_code 233 = .ok (.aload_n 0, 1) := by decide +kernel
theorem d_Mo_were_234 : decode prog_13_method_98_code 234 = .ok (.getfield 198, 3) := by decide +kernel
theorem d_Mo_were_237 : decode prog_13_method_98_code 237 = .ok (.goto 5, 3) := by decide +kernel
theorem d_Mo_were_240 : decode prog_13_method_98_code 240 = .ok (.iload 5, 2) := by decide +kernel
theorem d_Mo_were_242 : decode prog_13_method_98_code 242 = .ok (.ireturn, 1) := by decide +kernel
theorem d_Mo_both_0 : decode prog_13_method_99_code 0 = .ok (.aload_n 0, 1) := by decide +kernel
theorem d_Mo_both_1 : decode prog_13_method_99_code 1 = .ok (.iconst 0, 1) := by decide +kernel
theorem d_Mo_both_2 : decode prog_13_method_99_code 2 = .ok (.putfield 1, 3) := by decide +kernel
theorem d_Mo_both_5 : decode prog_13_method_99_code 5 = .ok (.aload_n 0, 1) := by decide +kernel
theorem d_Mo_both_6 : decode prog_13_method_99_code 6 = .ok (.aload_n 0, 1) := by decide +kernel
theorem d_Mo_both_7 : decode prog_13_method_99_code 7 = .ok (.getfield 169, 3) := by decide +kernel
theorem d_Mo_both_10 : decode prog_13_method_99_code 10 = .ok (.invokevirtual 204, 3) := by decide +kernel
theorem d_Mo_both_13 : decode prog_13_method_99_code 13 = .ok (.aload_n 0, 1) := by decide +kernel
theorem d_Mo_both_14 : decode prog_13_method_99_code 14 = .ok (.iload_n 1, 1) := by decide +kernel
theorem d_Mo_both_15 : decode prog_13_method_99_code 15 = .ok (.invokevirtual 185, 3) := by decide +kernel
theorem d_Mo_both_18 : decode prog_13_method_99_code 18 = .ok (.ifCond .eq 29, 3) := by decide +kernel
theorem d_Mo_both_21 : decode prog_13_method_99_code 21 = .ok (.aload_n 0, 1) := by decide +kernel
theorem d_Mo_both_22 : decode prog_13_method_99_code 22 = .ok (.iload_n 2, 1) := by decide +kernel
theorem d_Mo_both_23 : decode prog_13_method_99_code 23 = .ok (.invokevirtual 185, 3) := by decide +kernel
theorem d_Mo_both_26 : decode prog_13_method_99_code 26 = .ok (.ifCond .eq 21, 3) := by decide +kernel
theorem d_Mo_both_29 : decode prog_13_method_99_code 29 = .ok (.aload_n 0, 1) := by decide +kernel
theorem d_Mo_both_30 : decode prog_13_method_99_code 30 = .ok (.getfield 48, 3) := by decide +kernel
theorem d_Mo_both_33 : decode prog_13_method_99_code 33 = .ok (.iload_n 1, 1) := by decide +kernel
theorem d_Mo_both_34 : decode prog_13_method_99_code 34 = .ok (.iaload, 1) := by decide +kernel
theorem d_Mo_both_35 : decode prog_13_method_99_code 35 = .ok (.ifCond .eq 12, 3) := by decide +kernel
theorem d_Mo_both_38 : decode prog_13_method_99_code 38 = .ok (.aload_n 0, 1) := by decide +kernel
theorem d_Mo_both_39 : decode prog_13_method_99_code 39 = .ok (.getfield 48, 3) := by decide +kernel
theorem d_Mo_both_42 : decode prog_13_method_99_code 42 = .ok (.iload_n 2, 1) := by decide +kernel
theorem d_Mo_both_43 : decode prog_13_method_99_code 43 = .ok (.iaload, 1) := by decide +kernel
theorem d_Mo_both_44 : decode prog_13_method_99_code 44 = .ok (.ifCond .ne 6, 3) := by decide +kernel
theorem d_Mo_both_47 : decode prog_13_method_99_code 47 = .ok (.bipush (-2), 2) := by decide +kernel
theorem d_Mo_both_49 : decode prog_13_method_99_code 49 = .ok (.ireturn, 1) := by decide +kernel
theorem d_Mo_both_50 : decode prog_13_method_99_code 50 = .ok (.aload_n 0, 1) := by decide +kernel
theorem d_Mo_both_51 : decode prog_13_method_99_code 51 = .ok (.getfield 169, 3) := by decide +kernel
theorem d_Mo_both_54 : decode prog_13_method_99_code 54 = .ok (.ifCond .ne 6, 3) := by decide +kernel
theorem d_Mo_both_57 : decode prog_13_method_99_code 57 = .ok (.bipush (-5), 2) := by decide +kernel
theorem d_Mo_both_59 : decode prog_13_method_99_code 59 = .ok (.ireturn, 1) := by decide +kernel
theorem d_Mo_both_60 : decode prog_13_method_99_code 60 = .ok (.aload_n 0, 1) := by decide +kernel
theorem d_Mo_both_61 : decode prog_13_method_99_code 61 = .ok (.invokevirtual 339, 3) := by decide +kernel
theorem d_Mo_both_64 : decode prog_13_method_99_code 64 = .ok (.iconst 0, 1) := by decide +kernel
theorem d_Mo_both_65 : decode prog_13_method_99_code 65 = .ok (.istore_n 3, 1) := by decide +kernel
theorem d_Mo_both_66 : decode prog_13_method_99_code 66 = .ok (.iconst 0, 1) := by decide +kernel
theorem d_Mo_both_67 : decode prog_13_method_99_code 67 = .ok (.istore 4, 2) := by decide +kernel
theorem d_Mo_both_69 : decode prog_13_method_99_code 69 = .ok (.iload 4, 2) := by decide +kernel
theorem d_Mo_both_71 : decode prog_13_method_99_code 71 = .ok (.aload_n 0, 1) := by decide +kernel
theorem d_Mo_both_72 : decode prog_13_method_99_code 72 = .ok (.getfield 333, 3) := by decide +kernel
theorem d_Mo_both_75 : decode prog_13_method_99_code 75 = .ok (.if_icmp .ge 52, 3) := by decide +kernel
theorem d_Mo_both_78 : decode prog_13_method_99_code 78 = .ok (.iload_n 3, 1) := by decide +kernel
theorem d_Mo_both_79 : decode prog_13_method_99_code 79 = .ok (.aload_n 0, 1) := by decide +kernel
theorem d_Mo_both_80 : decode prog_13_method_99_code 80 = .ok (.aload_n 0, 1) := by decide +kernel
theorem d_Mo_both_81 : decode prog_13_method_99_code 81 = .ok (.getfield 75, 3) := by decide +kernel
theorem d_Mo_both_84 : decode prog_13_method_99_code 84 = .ok (.iload 4, 2) := by decide +kernel
theorem d_Mo_both_86 : decode prog_13_method_99_code 86 = .ok (.iaload, 1) := by decide +kernel
theorem d_Mo_both_87 : decode prog_13_method_99_code 87 = .ok (.iload_n 1, 1) := by decide +kernel
theorem d_Mo_both_88 : decode prog_13_method_99_code 88 = .ok (.invokevirtual 328, 3) := by decide +kernel
theorem d_Mo_both_91 : decode prog_13_method_99_code 91 = .ok (.ifCond .eq 27, 3) := by decide +kernel
theorem d_Mo_both_94 : decode prog_13_method_99_code 94 = .ok (.aload_n 0, 1) := by decide +kernel
theorem d_Mo_both_95 : decode prog_13_method_99_code 95 = .ok (.aload_n 0, 1) := by decide +kernel
theorem d_Mo_both_96 : decode prog_13_method_99_code 96 = .ok (.getfield 75, 3) := by decide +kernel
theorem d_Mo_both_99 : decode prog_13_method_99_code 99 = .ok (.iload 4, 2) := by decide +kernel
theorem d_Mo_both_101 : decode prog_13_method_99_code 101 = .ok (.iaload, 1) := by decide +kernel
theorem d_Mo_both_102 : decode prog_13_method_99_code 102 = .ok (.iload_n 2, 1) := by decide +kernel
theorem d_Mo_both_103 : decode prog_13_method_99_code 103 = .ok (.invokevirtual 328, 3) := by decide +kernel
theorem d_Mo_both_106 : decode prog_13_method_99_code 106 = .ok (.ifCond .eq 12, 3) := by decide +kernel
theorem d_Mo_both_109 : decode prog_13_method_99_code 109 = .ok (.aload_n 0, 1) := by decide +kernel
theorem d_Mo_both_110 : decode prog_13_method_99_code 110 = .ok (.iload 4, 2) := by decide +kernel
theorem d_Mo_both_112 : decode prog_13_method_99_code 112 = .ok (.invokevirtual 345, 3) := by decide +kernel
theorem d_Mo_both_115 : decode prog_13_method_99_code 115 = .ok (.goto 4, 3) := by decide +kernel
theorem d_Mo_both_118 : decode prog_13_method_99_code 118 = .ok (.iconst 0, 1) := by decide +kernel
theorem d_Mo_both_119 : decode prog_13_method_99_code 119 = .ok (.iadd, 1) := by decide +kernel
theorem d_Mo_both_120 : decode prog_13_method_99_code 120 = .ok (.istore_n 3, 1) := by decide +kernel
theorem d_Mo_both_121 : decode prog_13_method_99_code 121 = .ok (.iinc 4 1, 3) := by decide +kernel
theorem d_Mo_both_124 : decode prog_13_method_99_code 124 = .ok (.goto (-55), 3) := by decide +kernel
theorem d_Mo_both_127 : decode prog_13_method_99_code 127 = .ok (.iload_n 3, 1) := by decide +kernel
theorem d_Mo_both_128 : decode prog_13_method_99_code 128 = .ok (.ireturn, 1) := by decide +kernel
theorem d_Mo_manyOf_0 : decode prog_13_method_100_code 0 = .ok (.iconst 0, 1) := by decide +kernel
theorem d_Mo_manyOf_1 : decode prog_13_method_100_code 1 = .ok (.istore_n 2, 1) := by decide +kernel
theorem d_Mo_manyOf_2 : decode prog_13_method_100_code 2 = .ok (.iconst 0, 1) := by decide +kernel
theorem d_Mo_manyOf_3 : decode prog_13_method_100_code 3 = .ok (.istore_n 3, 1) := by decide +kernel
theorem d_Mo_manyOf_4 : decode prog_13_method_100_code 4 = .ok (.iload_n 3, 1) := by decide +kernel
theorem d_Mo_manyOf_5 : decode prog_13_method_100_code 5 = .ok (.aload_n 0, 1) := by decide +kernel
theorem d_Mo_manyOf_6 : decode prog_13_method_100_code 6 = .ok (.getfield 86, 3) := by decide +kernel
theorem d_Mo_manyOf_9 : decode prog_13_method_100_code 9 = .ok (.if_icmp .ge 47, 3) := by decide +kernel
theorem d_Mo_manyOf_12 : decode prog_13_method_100_code 12 = .ok (.iload_n 2, 1) := by decide +kernel
theorem d_Mo_manyOf_13 : decode prog_13_method_100_code 13 = .ok (.iload_n 1, 1) := by decide +kernel
theorem d_Mo_manyOf_14 : decode prog_13_method_100_code 14 = .ok (.bipush 6, 2) := by decide +kernel
theorem d_Mo_manyOf_16 : decode prog_13_method_100_code 16 = .ok (.if_icmp .ne 12, 3) := by decide +kernel
theorem d_Mo_manyOf_19 : decode prog_13_method_100_code 19 = .ok (.aload_n 0, 1) := by decide +kernel
theorem d_Mo_manyOf_20 : decode prog_13_method_100_code 20 = .ok (.getfield 60, 3) := by decide +kernel
theorem d_Mo_manyOf_23 : decode prog_13_method_100_code 23 = .ok (.iload_n 3, 1) := by decide +kernel
theorem d_Mo_manyOf_24 : decode prog_13_method_100_code 24 = .ok (.iaload, 1) := by decide +kernel
theorem d_Mo_manyOf_25 : decode prog_13_method_100_code 25 = .ok (.ifCond .gt 18, 3) := by decide +kernel
theorem d_Mo_manyOf_28 : decode prog_13_method_100_code 28 = .ok (.iload_n 1, 1) := by decide +kernel
theorem d_Mo_manyOf_29 : decode prog_13_method_100_code 29 = .ok (.bipush 8, 2) := by decide +kernel
theorem d_Mo_manyOf_31 : decode prog_13_method_100_code 31 = .ok (.if_icmp .ne 16, 3) := by decide +kernel
theorem d_Mo_manyOf_34 : decode prog_13_method_100_code 34 = .ok (.aload_n 0, 1) := by decide +kernel
theorem d_Mo_manyOf_35 : decode prog_13_method_100_code 35 = .ok (.iload_n 3, 1) := by decide +kernel
theorem d_Mo_manyOf_36 : decode prog_13_method_100_code 36 = .ok (.invokevirtual 96, 3) := by decide +kernel
theorem d_Mo_manyOf_39 : decode prog_13_method_100_code 39 = .ok (.iconst (-1), 1) := by decide +kernel
theorem d_Mo_manyOf_40 : decode prog_13_method_100_code 40 = .ok (.if_icmp .eq 7, 3) := by decide +kernel
theorem d_Mo_manyOf_43 : decode prog_13_method_100_code 43 = .ok (.iconst 1, 1) := by decide +kernel
theorem d_Mo_manyOf_44 : decode prog_13_method_100_code 44 = .ok (.goto 4, 3) := by decide +kernel
theorem d_Mo_manyOf_47 : decode prog_13_method_100_code 47 = .ok (.iconst 0, 1) := by decide +kernel
theorem d_Mo_manyOf_48 : decode prog_13_method_100_code 48 = .ok (.iadd, 1) := by decide +kernel
theorem d_Mo_manyOf_49 : decode prog_13_method_100_code 49 = .ok (.istore_n 2, 1) := by decide +kernel
theorem d_Mo_manyOf_50 : decode prog_13_method_100_code 50 = .ok (.iinc 3 1, 3) := by decide +kernel
theorem d_Mo_manyOf_53 : decode prog_13_method_100_code 53 = .ok (.goto (-49), 3) := by decide +kernel
theorem d_Mo_manyOf_56 : decode prog_13_method_100_code 56 = .ok (.iload_n 2, 1) := by decide +kernel
theorem d_Mo_manyOf_57 : decode prog_13_method_100_code 57 = .ok (.ireturn, 1) := by decide +kernel
theorem d_Mo_count_0 : decode prog_13_method_101_code 0 = .ok (.aload_n 0, 1) := by decide +kernel
theorem d_Mo_count_1 : decode prog_13_method_101_code 1 = .ok (.iconst 0, 1) := by decide +kernel
theorem d_Mo_count_2 : decode prog_13_method_101_code 2 = .ok (.putfield 1, 3) := by decide +kernel
theorem d_Mo_count_5 : decode prog_13_method_101_code 5 = .ok (.aload_n 0, 1) := by decide +kernel
theorem d_Mo_count_6 : decode prog_13_method_101_code 6 = .ok (.invokevirtual 257, 3) := by decide +kernel
theorem d_Mo_count_9 : decode prog_13_method_101_code 9 = .ok (.iload_n 1, 1) := by decide +kernel
theorem d_Mo_count_10 : decode prog_13_method_101_code 10 = .ok (.i2l, 1) := by decide +kernel
theorem d_Mo_count_11 : decode prog_13_method_101_code 11 = .ok (.ldc2_w 351, 3) := by decide +kernel
theorem d_Mo_count_14 : decode prog_13_method_101_code 14 = .ok (.ldc2_w 353, 3) := by decide +kernel
theorem d_Mo_count_17 : decode prog_13_method_101_code 17 = .ok (.invokestatic 92, 3) := by decide +kernel
theorem d_Mo_count_20 : decode prog_13_method_101_code 20 = .ok (.ifCond .eq 13, 3) := by decide +kernel
theorem d_Mo_count_23 : decode prog_13_method_101_code 23 = .ok (.aload_n 0, 1) := by decide +kernel
theorem d_Mo_count_24 : decode prog_13_method_101_code 24 = .ok (.getfield 14, 3) := by decide +kernel
theorem d_Mo_count_27 : decode prog_13_method_101_code 27 = .ok (.iload_n 1, 1) := by decide +kernel
theorem d_Mo_count_28 : decode prog_13_method_101_code 28 = .ok (.bipush 10, 2) := by decide +kernel
theorem d_Mo_count_30 : decode prog_13_method_101_code 30 = .ok (.isub, 1) := by decide +kernel
theorem d_Mo_count_31 : decode prog_13_method_101_code 31 = .ok (.iaload, 1) := by decide +kernel
theorem d_Mo_count_32 : decode prog_13_method_101_code 32 = .ok (.ireturn, 1) := by decide +kernel
theorem d_Mo_count_33 : decode prog_13_method_101_code 33 = .ok (.iload_n 1, 1) := by decide +kernel
theorem d_Mo_count_34 : decode prog_13_method_101_code 34 = .ok (.tableswitch 100 0 9 #[54, 59, 64, 69, 74, 79, 84, 90, 84, 95], 54) := by decide +kernel
theorem d_Mo_count_88 : decode prog_13_method_101_code 88 = .ok (.aload_n 0, 1) := by decide +kernel
theorem d_Mo_count_89 : decode prog_13_method_101_code 89 = .ok (.getfield 86, 3) := by decide +kernel
theorem d_Mo_count_92 : decode prog_13_method_101_code 92 = .ok (.ireturn, 1) := by decide +kernel
theorem d_Mo_count_93 : decode prog_13_method_101_code 93 = .ok (.aload_n 0, 1) := by decide +kernel
theorem d_Mo_count_94 : decode prog_13_method_101_code 94 = .ok (.invokevirtual 232, 3) := by decide +kernel
theorem d_Mo_count_97 : decode prog_13_method_101_code 97 = .ok (.ireturn, 1) := by decide +kernel
theorem d_Mo_count_98 : decode prog_13_method_101_code 98 = .ok (.aload_n 0, 1) := by decide +kernel
theorem d_Mo_count_99 : decode prog_13_method_101_code 99 = .ok (.getfield 198, 3) := by decide +kernel
theorem d_Mo_count_102 : decode prog_13_method_101_code 102 = .ok (.ireturn, 1) := by decide +kernel
theorem d_Mo_count_103 : decode prog_13_method_101_code 103 = .ok (.aload_n 0, 1) := by decide +kernel
theorem d_Mo_count_104 : decode prog_13_method_101_code 104 = .ok (.getfield 169, 3) := by decide +kernel
theorem d_Mo_count_107 : decode prog_13_method_101_code 107 = .ok (.ireturn, 1) := by decide +kernel
theorem d_Mo_count_108 : decode prog_13_method_101_code 108 = .ok (.aload_n 0, 1) := by decide +kernel
theorem d_Mo_count_109 : decode prog_13_method_101_code 109 = .ok (.getfield 172, 3) := by decide +kernel
theorem d_Mo_count_112 : decode prog_13_method_101_code 112 = .ok (.ireturn, 1) := by decide +kernel
theorem d_Mo_count_113 : decode prog_13_method_101_code 113 = .ok (.aload_n 0, 1) := by decide +kernel
theorem d_Mo_count_114 : decode prog_13_method_101_code 114 = .ok (.getfield 207, 3) := by decide +kernel
theorem d_Mo_count_117 : decode prog_13_method_101_code 117 = .ok (.ireturn, 1) := by decide +kernel
theorem d_Mo_count_118 : decode prog_13_method_101_code 118 = .ok (.aload_n 0, 1) := by decide +kernel
theorem d_Mo_count_119 : decode prog_13_method_101_code 119 = .ok (.iload_n 1, 1) := by decide +kernel
theorem d_Mo_count_120 : decode prog_13_method_101_code 120 = .ok (.invokevirtual 355, 3) := by decide +kernel
theorem d_Mo_count_123 : decode prog_13_method_101_code 123 = .ok (.ireturn, 1) := by decide +kernel
theorem d_Mo_count_124 : decode prog_13_method_101_code 124 = .ok (.aload_n 0, 1) := by decide +kernel
theorem d_Mo_count_125 : decode prog_13_method_101_code 125 = .ok (.getfield 102, 3) := by decide +kernel
theorem d_Mo_count_128 : decode prog_13_method_101_code 128 = .ok (.ireturn, 1) := by decide +kernel
theorem d_Mo_count_129 : decode prog_13_method_101_code 129 = .ok (.aload_n 0, 1) := by decide +kernel
theorem d_Mo_count_130 : decode prog_13_method_101_code 130 = .ok (.getfield 35, 3) := by decide +kernel
theorem d_Mo_count_133 : decode prog_13_method_101_code 133 = .ok (.ireturn, 1) := by decide +kernel
theorem d_Mo_count_134 : decode prog_13_method_101_code 134 = .ok (.iconst (-1), 1) := by decide +kernel
theorem d_Mo_count_135 : decode prog_13_method_101_code 135 = .ok (.ireturn, 1) := by decide +kernel
