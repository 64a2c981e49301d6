-- instructions, decoded
theorem d_Bo_init_0 : decode prog_13_method_1_code 0 = .ok (.aload_n 0, 1) := by decide +kernel
theorem d_Bo_init_1 : decode prog_13_method_1_code 1 = .ok (.invokespecial 1, 3) := by decide +kernel
theorem d_Bo_init_4 : decode prog_13_method_1_code 4 = .ok (.aload_n 0, 1) := by decide +kernel
theorem d_Bo_init_5 : decode prog_13_method_1_code 5 = .ok (.new 7, 3) := by decide +kernel
theorem d_Bo_init_8 : decode prog_13_method_1_code 8 = .ok (.dup, 1) := by decide +kernel
theorem d_Bo_init_9 : decode prog_13_method_1_code 9 = .ok (.invokespecial 9, 3) := by decide +kernel
theorem d_Bo_init_12 : decode prog_13_method_1_code 12 = .ok (.putfield 10, 3) := by decide +kernel
theorem d_Bo_init_15 : decode prog_13_method_1_code 15 = .ok (.aload_n 0, 1) := by decide +kernel
theorem d_Bo_init_16 : decode prog_13_method_1_code 16 = .ok (.new 7, 3) := by decide +kernel
theorem d_Bo_init_19 : decode prog_13_method_1_code 19 = .ok (.dup, 1) := by decide +kernel
theorem d_Bo_init_20 : decode prog_13_method_1_code 20 = .ok (.invokespecial 9, 3) := by decide +kernel
theorem d_Bo_init_23 : decode prog_13_method_1_code 23 = .ok (.putfield 16, 3) := by decide +kernel
theorem d_Bo_init_26 : decode prog_13_method_1_code 26 = .ok (.aload_n 0, 1) := by decide +kernel
theorem d_Bo_init_27 : decode prog_13_method_1_code 27 = .ok (.iconst 5, 1) := by decide +kernel
theorem d_Bo_init_28 : decode prog_13_method_1_code 28 = .ok (.newarray .int, 2) := by decide +kernel
theorem d_Bo_init_30 : decode prog_13_method_1_code 30 = .ok (.dup, 1) := by decide +kernel
theorem d_Bo_init_31 : decode prog_13_method_1_code 31 = .ok (.iconst 0, 1) := by decide +kernel
theorem d_Bo_init_32 : decode prog_13_method_1_code 32 = .ok (.ldc 19, 2) := by decide +kernel
theorem d_Bo_init_34 : decode prog_13_method_1_code 34 = .ok (.iastore, 1) := by decide +kernel
theorem d_Bo_init_35 : decode prog_13_method_1_code 35 = .ok (.dup, 1) := by decide +kernel
theorem d_Bo_init_36 : decode prog_13_method_1_code 36 = .ok (.iconst 1, 1) := by decide +kernel
theorem d_Bo_init_37 : decode prog_13_method_1_code 37 = .ok (.bipush 50, 2) := by decide +kernel
theorem d_Bo_init_39 : decode prog_13_method_1_code 39 = .ok (.iastore, 1) := by decide +kernel
theorem d_Bo_init_40 : decode prog_13_method_1_code 40 = .ok (.dup, 1) := by decide +kernel
theorem d_Bo_init_41 : decode prog_13_method_1_code 41 = .ok (.iconst 2, 1) := by decide +kernel
theorem d_Bo_init_42 : decode prog_13_method_1_code 42 = .ok (.iconst 0, 1) := by decide +kernel
theorem d_Bo_init_43 : decode prog_13_method_1_code 43 = .ok (.iastore, 1) := by decide +kernel
theorem d_Bo_init_44 : decode prog_13_method_1_code 44 = .ok (.dup, 1) := by decide +kernel
theorem d_Bo_init_45 : decode prog_13_method_1_code 45 = .ok (.iconst 3, 1) := by decide +kernel
theorem d_Bo_init_46 : decode prog_13_method_1_code 46 = .ok (.iconst 0, 1) := by decide +kernel
theorem d_Bo_init_47 : decode prog_13_method_1_code 47 = .ok (.iastore, 1) := by decide +kernel
theorem d_Bo_init_48 : decode prog_13_method_1_code 48 = .ok (.dup, 1) := by decide +kernel
theorem d_Bo_init_49 : decode prog_13_method_1_code 49 = .ok (.iconst 4, 1) := by decide +kernel
theorem d_Bo_init_50 : decode prog_13_method_1_code 50 = .ok (.bipush 7, 2) := by decide +kernel
theorem d_Bo_init_52 : decode prog_13_method_1_code 52 = .ok (.iastore, 1) := by decide +kernel
theorem d_Bo_init_53 : decode prog_13_method_1_code 53 = .ok (.putfield 20, 3) := by decide +kernel
theorem d_Bo_init_56 : decode prog_13_method_1_code 56 = .ok (.aload_n 0, 1) := by decide +kernel
theorem d_Bo_init_57 : decode prog_13_method_1_code 57 = .ok (.bipush 7, 2) := by decide +kernel
theorem d_Bo_init_59 : decode prog_13_method_1_code 59 = .ok (.putfield 24, 3) := by decide +kernel
theorem d_Bo_init_62 : decode prog_13_method_1_code 62 = .ok (.return_, 1) := by decide +kernel
theorem d_Bo_hits_0 : decode prog_13_method_5_code 0 = .ok (.aload_n 0, 1) := by decide +kernel
theorem d_Bo_hits_1 : decode prog_13_method_5_code 1 = .ok (.aload_n 0, 1) := by decide +kernel
theorem d_Bo_hits_2 : decode prog_13_method_5_code 2 = .ok (.getfield 16, 3) := by decide +kernel
theorem d_Bo_hits_5 : decode prog_13_method_5_code 5 = .ok (.invokevirtual 67, 3) := by decide +kernel
theorem d_Bo_hits_8 : decode prog_13_method_5_code 8 = .ok (.invokevirtual 74, 3) := by decide +kernel
theorem d_Bo_hits_11 : decode prog_13_method_5_code 11 = .ok (.areturn, 1) := by decide +kernel
theorem d_Cl_cell_0 : decode method_2_code 0 = .ok (.iload_n 1, 1) := by decide +kernel
theorem d_Cl_cell_1 : decode method_2_code 1 = .ok (.aload_n 0, 1) := by decide +kernel
theorem d_Cl_cell_2 : decode method_2_code 2 = .ok (.arraylength, 1) := by decide +kernel
theorem d_Cl_cell_3 : decode method_2_code 3 = .ok (.if_icmp .ge 9, 3) := by decide +kernel
theorem d_Cl_cell_6 : decode method_2_code 6 = .ok (.aload_n 0, 1) := by decide +kernel
theorem d_Cl_cell_7 : decode method_2_code 7 = .ok (.iload_n 1, 1) := by decide +kernel
theorem d_Cl_cell_8 : decode method_2_code 8 = .ok (.iaload, 1) := by decide +kernel
theorem d_Cl_cell_9 : decode method_2_code 9 = .ok (.goto 4, 3) := by decide +kernel
theorem d_Cl_cell_12 : decode method_2_code 12 = .ok (.iconst 0, 1) := by decide +kernel
theorem d_Cl_cell_13 : decode method_2_code 13 = .ok (.ireturn, 1) := by decide +kernel
theorem d_Cl_act_0 : decode method_6_code 0 = .ok (.aload_n 1, 1) := by decide +kernel
theorem d_Cl_act_1 : decode method_6_code 1 = .ok (.getfield 27, 3) := by decide +kernel
theorem d_Cl_act_4 : decode method_6_code 4 = .ok (.invokevirtual 63, 3) := by decide +kernel
theorem d_Cl_act_7 : decode method_6_code 7 = .ok (.istore 4, 2) := by decide +kernel
theorem d_Cl_act_9 : decode method_6_code 9 = .ok (.aload_n 2, 1) := by decide +kernel
theorem d_Cl_act_10 : decode method_6_code 10 = .ok (.bipush 20, 2) := by decide +kernel
theorem d_Cl_act_12 : decode method_6_code 12 = .ok (.invokestatic 52, 3) := by decide +kernel
theorem d_Cl_act_15 : decode method_6_code 15 = .ok (.ifCond .ne 8, 3) := by decide +kernel
theorem d_Cl_act_18 : decode method_6_code 18 = .ok (.iload 4, 2) := by decide +kernel
theorem d_Cl_act_20 : decode method_6_code 20 = .ok (.goto 18, 3) := by decide +kernel
theorem d_Cl_act_23 : decode method_6_code 23 = .ok (.iload 4, 2) := by decide +kernel
theorem d_Cl_act_25 : decode method_6_code 25 = .ok (.ifCond .ne 7, 3) := by decide +kernel
theorem d_Cl_act_28 : decode method_6_code 28 = .ok (.iconst 0, 1) := by decide +kernel
theorem d_Cl_act_29 : decode method_6_code 29 = .ok (.goto 9, 3) := by decide +kernel
theorem d_Cl_act_32 : decode method_6_code 32 = .ok (.aload_n 2, 1) := by decide +kernel
theorem d_Cl_act_33 : decode method_6_code 33 = .ok (.iload 4, 2) := by decide +kernel
theorem d_Cl_act_35 : decode method_6_code 35 = .ok (.invokestatic 52, 3) := by decide +kernel
theorem d_Cl_act_38 : decode method_6_code 38 = .ok (.istore 5, 2) := by decide +kernel
theorem d_Cl_act_40 : decode method_6_code 40 = .ok (.iload 5, 2) := by decide +kernel
theorem d_Cl_act_42 : decode method_6_code 42 = .ok (.iload 4, 2) := by decide +kernel
theorem d_Cl_act_44 : decode method_6_code 44 = .ok (.if_icmp .ge 18, 3) := by decide +kernel
theorem d_Cl_act_47 : decode method_6_code 47 = .ok (.aload_n 1, 1) := by decide +kernel
theorem d_Cl_act_48 : decode method_6_code 48 = .ok (.getfield 27, 3) := by decide +kernel
theorem d_Cl_act_51 : decode method_6_code 51 = .ok (.iload 5, 2) := by decide +kernel
theorem d_Cl_act_53 : decode method_6_code 53 = .ok (.invokevirtual 66, 3) := by decide +kernel
theorem d_Cl_act_56 : decode method_6_code 56 = .ok (.checkcast 70, 3) := by decide +kernel
theorem d_Cl_act_59 : decode method_6_code 59 = .ok (.goto 4, 3) := by decide +kernel
theorem d_Cl_act_62 : decode method_6_code 62 = .ok (.aconst_null, 1) := by decide +kernel
theorem d_Cl_act_63 : decode method_6_code 63 = .ok (.astore 7, 2) := by decide +kernel
theorem d_Cl_act_65 : decode method_6_code 65 = .ok (.iload_n 3, 1) := by decide +kernel
theorem d_Cl_act_66 : decode method_6_code 66 = .ok (.ifCond .ne 84, 3) := by decide +kernel
theorem d_Cl_act_69 : decode method_6_code 69 = .ok (.aload_n 1, 1) := by decide +kernel
theorem d_Cl_act_70 : decode method_6_code 70 = .ok (.aload_n 2, 1) := by decide +kernel
theorem d_Cl_act_71 : decode method_6_code 71 = .ok (.invokestatic 127, 3) := by decide +kernel
theorem d_Cl_act_74 : decode method_6_code 74 = .ok (.astore 8, 2) := by decide +kernel
theorem d_Cl_act_76 : decode method_6_code 76 = .ok (.aload_n 0, 1) := by decide +kernel
theorem d_Cl_act_77 : decode method_6_code 77 = .ok (.sipush 901, 3) := by decide +kernel
theorem d_Cl_act_80 : decode method_6_code 80 = .ok (.invokevirtual 131, 3) := by decide +kernel
theorem d_Cl_act_83 : decode method_6_code 83 = .ok (.bipush (-3), 2) := by decide +kernel
theorem d_Cl_act_85 : decode method_6_code 85 = .ok (.if_icmp .ne 63, 3) := by decide +kernel
theorem d_Cl_act_88 : decode method_6_code 88 = .ok (.aload_n 0, 1) := by decide +kernel
theorem d_Cl_act_89 : decode method_6_code 89 = .ok (.iconst (-1), 1) := by decide +kernel
theorem d_Cl_act_90 : decode method_6_code 90 = .ok (.invokevirtual 131, 3) := by decide +kernel
theorem d_Cl_act_93 : decode method_6_code 93 = .ok (.bipush (-3), 2) := by decide +kernel
theorem d_Cl_act_95 : decode method_6_code 95 = .ok (.if_icmp .ne 53, 3) := by decide +kernel
theorem d_Cl_act_98 : decode method_6_code 98 = .ok (.aload_n 0, 1) := by decide +kernel
theorem d_Cl_act_99 : decode method_6_code 99 = .ok (.aload_n 0, 1) := by decide +kernel
theorem d_Cl_act_100 : decode method_6_code 100 = .ok (.aload 8, 2) := by decide +kernel
theorem d_Cl_act_102 : decode method_6_code 102 = .ok (.invokestatic 134, 3) := by decide +kernel
theorem d_Cl_act_105 : decode method_6_code 105 = .ok (.invokevirtual 131, 3) := by decide +kernel
theorem d_Cl_act_108 : decode method_6_code 108 = .ok (.aload_n 1, 1) := by decide +kernel
theorem d_Cl_act_109 : decode method_6_code 109 = .ok (.getfield 27, 3) := by decide +kernel
theorem d_Cl_act_112 : decode method_6_code 112 = .ok (.invokevirtual 63, 3) := by decide +kernel
theorem d_Cl_act_115 : decode method_6_code 115 = .ok (.if_icmp .ne 33, 3) := by decide +kernel
theorem d_Cl_act_118 : decode method_6_code 118 = .ok (.aload_n 0, 1) := by decide +kernel
theorem d_Cl_act_119 : decode method_6_code 119 = .ok (.iconst 0, 1) := by decide +kernel
theorem d_Cl_act_120 : decode method_6_code 120 = .ok (.invokevirtual 138, 3) := by decide +kernel
theorem d_Cl_act_123 : decode method_6_code 123 = .ok (.ifCond .ne 25, 3) := by decide +kernel
theorem d_Cl_act_126 : decode method_6_code 126 = .ok (.aload_n 0, 1) := by decide +kernel
theorem d_Cl_act_127 : decode method_6_code 127 = .ok (.iconst 1, 1) := by decide +kernel
theorem d_Cl_act_128 : decode method_6_code 128 = .ok (.invokevirtual 138, 3) := by decide +kernel
theorem d_Cl_act_131 : decode method_6_code 131 = .ok (.iconst (-1), 1) := by decide +kernel
theorem d_Cl_act_132 : decode method_6_code 132 = .ok (.if_icmp .ne 16, 3) := by decide +kernel
theorem d_Cl_act_135 : decode method_6_code 135 = .ok (.aload_n 0, 1) := by decide +kernel
theorem d_Cl_act_136 : decode method_6_code 136 = .ok (.iconst 2, 1) := by decide +kernel
theorem d_Cl_act_137 : decode method_6_code 137 = .ok (.invokevirtual 138, 3) := by decide +kernel
theorem d_Cl_act_140 : decode method_6_code 140 = .ok (.iconst (-1), 1) := by decide +kernel
theorem d_Cl_act_141 : decode method_6_code 141 = .ok (.if_icmp .ne 7, 3) := by decide +kernel
theorem d_Cl_act_144 : decode method_6_code 144 = .ok (.iconst 1, 1) := by decide +kernel
theorem d_Cl_act_145 : decode method_6_code 145 = .ok (.goto 4, 3) := by decide +kernel
theorem d_Cl_act_148 : decode method_6_code 148 = .ok (.iconst 0, 1) := by decide +kernel
theorem d_Cl_act_149 : decode method_6_code 149 = .ok (.ireturn, 1) := by decide +kernel
theorem d_Cl_act_150 : decode method_6_code 150 = .ok (.iload_n 3, 1) := by decide +kernel
theorem d_Cl_act_151 : decode method_6_code 151 = .ok (.iconst 1, 1) := by decide +kernel
theorem d_Cl_act_152 : decode method_6_code 152 = .ok (.if_icmp .eq 8, 3) := by decide +kernel
theorem d_Cl_act_155 : decode method_6_code 155 = .ok (.iload_n 3, 1) := by decide +kernel
theorem d_Cl_act_156 : decode method_6_code 156 = .ok (.iconst 2, 1) := by decide +kernel
theorem d_Cl_act_157 : decode method_6_code 157 = .ok (.if_icmp .ne 304, 3) := by decide +kernel
theorem d_Cl_act_160 : decode method_6_code 160 = .ok (.aload_n 2, 1) := by decide +kernel
theorem d_Cl_act_161 : decode method_6_code 161 = .ok (.bipush 6, 2) := by decide +kernel
theorem d_Cl_act_163 : decode method_6_code 163 = .ok (.invokestatic 52, 3) := by decide +kernel
theorem d_Cl_act_166 : decode method_6_code 166 = .ok (.istore 8, 2) := by decide +kernel
theorem d_Cl_act_168 : decode method_6_code 168 = .ok (.iload 8, 2) := by decide +kernel
theorem d_Cl_act_170 : decode method_6_code 170 = .ok (.ifCond .ne 28, 3) := by decide +kernel
theorem d_Cl_act_173 : decode method_6_code 173 = .ok (.aload_n 2, 1) := by decide +kernel
theorem d_Cl_act_174 : decode method_6_code 174 = .ok (.bipush 9, 2) := by decide +kernel
theorem d_Cl_act_176 : decode method_6_code 176 = .ok (.invokestatic 52, 3) := by decide +kernel
theorem d_Cl_act_179 : decode method_6_code 179 = .ok (.ifCond .ne 7, 3) := by decide +kernel
theorem d_Cl_act_182 : decode method_6_code 182 = .ok (.iconst 0, 1) := by decide +kernel
theorem d_Cl_act_183 : decode method_6_code 183 = .ok (.goto 95, 3) := by decide +kernel
theorem d_Cl_act_186 : decode method_6_code 186 = .ok (.iconst 1, 1) := by decide +kernel
theorem d_Cl_act_187 : decode method_6_code 187 = .ok (.aload_n 2, 1) := by decide +kernel
theorem d_Cl_act_188 : decode method_6_code 188 = .ok (.sipush 6000, 3) := by decide +kernel
theorem d_Cl_act_191 : decode method_6_code 191 = .ok (.invokestatic 52, 3) := by decide +kernel
theorem d_Cl_act_194 : decode method_6_code 194 = .ok (.iadd, 1) := by decide +kernel
theorem d_Cl_act_195 : decode method_6_code 195 = .ok (.goto 83, 3) := by decide +kernel
theorem d_Cl_act_198 : decode method_6_code 198 = .ok (.iload 8, 2) := by decide +kernel
theorem d_Cl_act_200 : decode method_6_code 200 = .ok (.iconst 1, 1) := by decide +kernel
theorem d_Cl_act_201 : decode method_6_code 201 = .ok (.if_icmp .ne 13, 3) := by decide +kernel
theorem d_Cl_act_204 : decode method_6_code 204 = .ok (.aload_n 2, 1) := by decide +kernel
theorem d_Cl_act_205 : decode method_6_code 205 = .ok (.sipush 502, 3) := by decide +kernel
theorem d_Cl_act_208 : decode method_6_code 208 = .ok (.invokestatic 52, 3) := by decide +kernel
theorem d_Cl_act_211 : decode method_6_code 211 = .ok (.goto 67, 3) := by decide +kernel
theorem d_Cl_act_214 : decode method_6_code 214 = .ok (.iload 8, 2) := by decide +kernel
theorem d_Cl_act_216 : decode method_6_code 216 = .ok (.iconst 2, 1) := by decide +kernel
theorem d_Cl_act_217 : decode method_6_code 217 = .ok (.if_icmp .ne 12, 3) := by decide +kernel
theorem d_Cl_act_220 : decode method_6_code 220 = .ok (.aload_n 2, 1) := by decide +kernel
theorem d_Cl_act_221 : decode method_6_code 221 = .ok (.bipush 11, 2) := by decide +kernel
theorem d_Cl_act_223 : decode method_6_code 223 = .ok (.invokestatic 52, 3) := by decide +kernel
theorem d_Cl_act_226 : decode method_6_code 226 = .ok (.goto 52, 3) := by decide +kernel
theorem d_Cl_act_229 : decode method_6_code 229 = .ok (.iload 8, 2) := by decide +kernel
theorem d_Cl_act_231 : decode method_6_code 231 = .ok (.iconst 3, 1) := by decide +kernel
theorem d_Cl_act_232 : decode method_6_code 232 = .ok (.if_icmp .ne 11, 3) := by decide +kernel
theorem d_Cl_act_235 : decode method_6_code 235 = .ok (.aload_n 2, 1) := by decide +kernel
theorem d_Cl_act_236 : decode method_6_code 236 = .ok (.iconst 3, 1) := by decide +kernel
theorem d_Cl_act_237 : decode method_6_code 237 = .ok (.invokestatic 52, 3) := by decide +kernel
theorem d_Cl_act_240 : decode method_6_code 240 = .ok (.goto 38, 3) := by decide +kernel
theorem d_Cl_act_243 : decode method_6_code 243 = .ok (.aload_n 2, 1) := by decide +kernel
theorem d_Cl_act_244 : decode method_6_code 244 = .ok (.bipush 40, 2) := by decide +kernel
theorem d_Cl_act_246 : decode method_6_code 246 = .ok (.invokestatic 52, 3) := by decide +kernel
theorem d_Cl_act_249 : decode method_6_code 249 = .ok (.ifCond .ne 8, 3) := by decide +kernel
theorem d_Cl_act_252 : decode method_6_code 252 = .ok (.ldc 141, 2) := by decide +kernel
theorem d_Cl_act_254 : decode method_6_code 254 = .ok (.goto 24, 3) := by decide +kernel
theorem d_Cl_act_257 : decode method_6_code 257 = .ok (.aload_n 2, 1) := by decide +kernel
theorem d_Cl_act_258 : decode method_6_code 258 = .ok (.bipush 60, 2) := by decide +kernel
theorem d_Cl_act_260 : decode method_6_code 260 = .ok (.invokestatic 52, 3) := by decide +kernel
theorem d_Cl_act_263 : decode method_6_code 263 = .ok (.ifCond .ne 8, 3) := by decide +kernel
theorem d_Cl_act_266 : decode method_6_code 266 = .ok (.ldc 142, 2) := by decide +kernel
theorem d_Cl_act_268 : decode method_6_code 268 = .ok (.goto 10, 3) := by decide +kernel
theorem d_Cl_act_271 : decode method_6_code 271 = .ok (.aload_n 2, 1) := by decide +kernel
theorem d_Cl_act_272 : decode method_6_code 272 = .ok (.sipush 900, 3) := by decide +kernel
theorem d_Cl_act_275 : decode method_6_code 275 = .ok (.invokestatic 52, 3) := by decide +kernel
theorem d_Cl_act_278 : decode method_6_code 278 = .ok (.istore 9, 2) := by decide +kernel
theorem d_Cl_act_280 : decode method_6_code 280 = .ok (.iload 8, 2) := by decide +kernel
theorem d_Cl_act_282 : decode method_6_code 282 = .ok (.ifCond .ne 16, 3) := by decide +kernel
theorem d_Cl_act_285 : decode method_6_code 285 = .ok (.iload 9, 2) := by decide +kernel
theorem d_Cl_act_287 : decode method_6_code 287 = .ok (.ifCond .le 7, 3) := by decide +kernel
theorem d_Cl_act_290 : decode method_6_code 290 = .ok (.iconst 1, 1) := by decide +kernel
theorem d_Cl_act_291 : decode method_6_code 291 = .ok (.goto 87, 3) := by decide +kernel
theorem d_Cl_act_294 : decode method_6_code 294 = .ok (.iconst 0, 1) := by decide +kernel
theorem d_Cl_act_295 : decode method_6_code 295 = .ok (.goto 83, 3) := by decide +kernel
theorem d_Cl_act_298 : decode method_6_code 298 = .ok (.iload 8, 2) := by decide +kernel
theorem d_Cl_act_300 : decode method_6_code 300 = .ok (.iconst 1, 1) := by decide +kernel
theorem d_Cl_act_301 : decode method_6_code 301 = .ok (.if_icmp .ne 24, 3) := by decide +kernel
theorem d_Cl_act_304 : decode method_6_code 304 = .ok (.iload 9, 2) := by decide +kernel
theorem d_Cl_act_306 : decode method_6_code 306 = .ok (.ifCond .le 15, 3) := by decide +kernel
theorem d_Cl_act_309 : decode method_6_code 309 = .ok (.iload 9, 2) := by decide +kernel
theorem d_Cl_act_311 : decode method_6_code 311 = .ok (.sipush 501, 3) := by decide +kernel
theorem d_Cl_act_314 : decode method_6_code 314 = .ok (.if_icmp .ge 7, 3) := by decide +kernel
theorem d_Cl_act_317 : decode method_6_code 317 = .ok (.iconst 1, 1) := by decide +kernel
theorem d_Cl_act_318 : decode method_6_code 318 = .ok (.goto 60, 3) := by decide +kernel
theorem d_Cl_act_321 : decode method_6_code 321 = .ok (.iconst 0, 1) := by decide +kernel
theorem d_Cl_act_322 : decode method_6_code 322 = .ok (.goto 56, 3) := by decide +kernel
theorem d_Cl_act_325 : decode method_6_code 325 = .ok (.iload 8, 2) := by decide +kernel
theorem d_Cl_act_327 : decode method_6_code 327 = .ok (.iconst 2, 1) := by decide +kernel
theorem d_Cl_act_328 : decode method_6_code 328 = .ok (.if_icmp .ne 18, 3) := by decide +kernel
theorem d_Cl_act_331 : decode method_6_code 331 = .ok (.iload 9, 2) := by decide +kernel
theorem d_Cl_act_333 : decode method_6_code 333 = .ok (.bipush 10, 2) := by decide +kernel
theorem d_Cl_act_335 : decode method_6_code 335 = .ok (.if_icmp .ge 7, 3) := by decide +kernel
theorem d_Cl_act_338 : decode method_6_code 338 = .ok (.iconst 1, 1) := by decide +kernel
theorem d_Cl_act_339 : decode method_6_code 339 = .ok (.goto 39, 3) := by decide +kernel
theorem d_Cl_act_342 : decode method_6_code 342 = .ok (.iconst 0, 1) := by decide +kernel
theorem d_Cl_act_343 : decode method_6_code 343 = .ok (.goto 35, 3) := by decide +kernel
theorem d_Cl_act_346 : decode method_6_code 346 = .ok (.iload 8, 2) := by decide +kernel
theorem d_Cl_act_348 : decode method_6_code 348 = .ok (.iconst 3, 1) := by decide +kernel
theorem d_Cl_act_349 : decode method_6_code 349 = .ok (.if_icmp .ne 17, 3) := by decide +kernel
theorem d_Cl_act_352 : decode method_6_code 352 = .ok (.iload 9, 2) := by decide +kernel
theorem d_Cl_act_354 : decode method_6_code 354 = .ok (.iconst 2, 1) := by decide +kernel
theorem d_Cl_act_355 : decode method_6_code 355 = .ok (.if_icmp .ge 7, 3) := by decide +kernel
theorem d_Cl_act_358 : decode method_6_code 358 = .ok (.iconst 1, 1) := by decide +kernel
theorem d_Cl_act_359 : decode method_6_code 359 = .ok (.goto 19, 3) := by decide +kernel
theorem d_Cl_act_362 : decode method_6_code 362 = .ok (.iconst 0, 1) := by decide +kernel
theorem d_Cl_act_363 : decode method_6_code 363 = .ok (.goto 15, 3) := by decide +kernel
theorem d_Cl_act_366 : decode method_6_code 366 = .ok (.iload 9, 2) := by decide +kernel
theorem d_Cl_act_368 : decode method_6_code 368 = .ok (.ldc 141, 2) := by decide +kernel
theorem d_Cl_act_370 : decode method_6_code 370 = .ok (.if_icmp .ge 7, 3) := by decide +kernel
theorem d_Cl_act_373 : decode method_6_code 373 = .ok (.iconst 1, 1) := by decide +kernel
theorem d_Cl_act_374 : decode method_6_code 374 = .ok (.goto 4, 3) := by decide +kernel
theorem d_Cl_act_377 : decode method_6_code 377 = .ok (.iconst 0, 1) := by decide +kernel
theorem d_Cl_act_378 : decode method_6_code 378 = .ok (.istore 10, 2) := by decide +kernel
theorem d_Cl_act_380 : decode method_6_code 380 = .ok (.iload 8, 2) := by decide +kernel
theorem d_Cl_act_382 : decode method_6_code 382 = .ok (.iconst 5, 1) := by decide +kernel
theorem d_Cl_act_383 : decode method_6_code 383 = .ok (.if_icmp .ne 8, 3) := by decide +kernel
theorem d_Cl_act_386 : decode method_6_code 386 = .ok (.bipush (-2), 2) := by decide +kernel
theorem d_Cl_act_388 : decode method_6_code 388 = .ok (.goto 20, 3) := by decide +kernel
theorem d_Cl_act_391 : decode method_6_code 391 = .ok (.iload 10, 2) := by decide +kernel
theorem d_Cl_act_393 : decode method_6_code 393 = .ok (.ifCond .eq 13, 3) := by decide +kernel
theorem d_Cl_act_396 : decode method_6_code 396 = .ok (.aload_n 1, 1) := by decide +kernel
theorem d_Cl_act_397 : decode method_6_code 397 = .ok (.getfield 45, 3) := by decide +kernel
theorem d_Cl_act_400 : decode method_6_code 400 = .ok (.iload 8, 2) := by decide +kernel
theorem d_Cl_act_402 : decode method_6_code 402 = .ok (.iaload, 1) := by decide +kernel
theorem d_Cl_act_403 : decode method_6_code 403 = .ok (.goto 5, 3) := by decide +kernel
theorem d_Cl_act_406 : decode method_6_code 406 = .ok (.bipush (-3), 2) := by decide +kernel
theorem d_Cl_act_408 : decode method_6_code 408 = .ok (.istore 6, 2) := by decide +kernel
theorem d_Cl_act_410 : decode method_6_code 410 = .ok (.iload 8, 2) := by decide +kernel
theorem d_Cl_act_412 : decode method_6_code 412 = .ok (.iconst 5, 1) := by decide +kernel
theorem d_Cl_act_413 : decode method_6_code 413 = .ok (.if_icmp .ge 29, 3) := by decide +kernel
theorem d_Cl_act_416 : decode method_6_code 416 = .ok (.iload 10, 2) := by decide +kernel
theorem d_Cl_act_418 : decode method_6_code 418 = .ok (.ifCond .eq 24, 3) := by decide +kernel
theorem d_Cl_act_421 : decode method_6_code 421 = .ok (.aload_n 1, 1) := by decide +kernel
theorem d_Cl_act_422 : decode method_6_code 422 = .ok (.getfield 45, 3) := by decide +kernel
theorem d_Cl_act_425 : decode method_6_code 425 = .ok (.iload 8, 2) := by decide +kernel
theorem d_Cl_act_427 : decode method_6_code 427 = .ok (.iload 9, 2) := by decide +kernel
theorem d_Cl_act_429 : decode method_6_code 429 = .ok (.iastore, 1) := by decide +kernel
theorem d_Cl_act_430 : decode method_6_code 430 = .ok (.iload 8, 2) := by decide +kernel
theorem d_Cl_act_432 : decode method_6_code 432 = .ok (.iconst 4, 1) := by decide +kernel
theorem d_Cl_act_433 : decode method_6_code 433 = .ok (.if_icmp .ne 9, 3) := by decide +kernel
theorem d_Cl_act_436 : decode method_6_code 436 = .ok (.aload_n 1, 1) := by decide +kernel
theorem d_Cl_act_437 : decode method_6_code 437 = .ok (.iload 9, 2) := by decide +kernel
theorem d_Cl_act_439 : decode method_6_code 439 = .ok (.putfield 49, 3) := by decide +kernel
theorem d_Cl_act_442 : decode method_6_code 442 = .ok (.aload_n 0, 1) := by decide +kernel
theorem d_Cl_act_443 : decode method_6_code 443 = .ok (.iload 8, 2) := by decide +kernel
theorem d_Cl_act_445 : decode method_6_code 445 = .ok (.iload 9, 2) := by decide +kernel
theorem d_Cl_act_447 : decode method_6_code 447 = .ok (.invokevirtual 143, 3) := by decide +kernel
theorem d_Cl_act_450 : decode method_6_code 450 = .ok (.iload 6, 2) := by decide +kernel
theorem d_Cl_act_452 : decode method_6_code 452 = .ok (.if_icmp .ne 7, 3) := by decide +kernel
theorem d_Cl_act_455 : decode method_6_code 455 = .ok (.iconst 1, 1) := by decide +kernel
theorem d_Cl_act_456 : decode method_6_code 456 = .ok (.goto 4, 3) := by decide +kernel
theorem d_Cl_act_459 : decode method_6_code 459 = .ok (.iconst 0, 1) := by decide +kernel
theorem d_Cl_act_460 : decode method_6_code 460 = .ok (.ireturn, 1) := by decide +kernel
theorem d_Cl_act_461 : decode method_6_code 461 = .ok (.iload_n 3, 1) := by decide +kernel
theorem d_Cl_act_462 : decode method_6_code 462 = .ok (.iconst 3, 1) := by decide +kernel
theorem d_Cl_act_463 : decode method_6_code 463 = .ok (.if_icmp .ne 209, 3) := by decide +kernel
theorem d_Cl_act_466 : decode method_6_code 466 = .ok (.aload_n 2, 1) := by decide +kernel
theorem d_Cl_act_467 : decode method_6_code 467 = .ok (.bipush 30, 2) := by decide +kernel
theorem d_Cl_act_469 : decode method_6_code 469 = .ok (.invokestatic 52, 3) := by decide +kernel
theorem d_Cl_act_472 : decode method_6_code 472 = .ok (.ifCond .ne 8, 3) := by decide +kernel
theorem d_Cl_act_475 : decode method_6_code 475 = .ok (.bipush 100, 2) := by decide +kernel
theorem d_Cl_act_477 : decode method_6_code 477 = .ok (.goto 8, 3) := by decide +kernel
theorem d_Cl_act_480 : decode method_6_code 480 = .ok (.aload_n 2, 1) := by decide +kernel
theorem d_Cl_act_481 : decode method_6_code 481 = .ok (.iconst 5, 1) := by decide +kernel
theorem d_Cl_act_482 : decode method_6_code 482 = .ok (.invokestatic 52, 3) := by decide +kernel
theorem d_Cl_act_485 : decode method_6_code 485 = .ok (.istore 8, 2) := by decide +kernel
theorem d_Cl_act_487 : decode method_6_code 487 = .ok (.aload_n 2, 1) := by decide +kernel
theorem d_Cl_act_488 : decode method_6_code 488 = .ok (.bipush 30, 2) := by decide +kernel
theorem d_Cl_act_490 : decode method_6_code 490 = .ok (.invokestatic 52, 3) := by decide +kernel
theorem d_Cl_act_493 : decode method_6_code 493 = .ok (.ifCond .ne 9, 3) := by decide +kernel
theorem d_Cl_act_496 : decode method_6_code 496 = .ok (.sipush 10000, 3) := by decide +kernel
theorem d_Cl_act_499 : decode method_6_code 499 = .ok (.goto 10, 3) := by decide +kernel
theorem d_Cl_act_502 : decode method_6_code 502 = .ok (.aload_n 2, 1) := by decide +kernel
theorem d_Cl_act_503 : decode method_6_code 503 = .ok (.sipush 300, 3) := by decide +kernel
theorem d_Cl_act_506 : decode method_6_code 506 = .ok (.invokestatic 52, 3) := by decide +kernel
theorem d_Cl_act_509 : decode method_6_code 509 = .ok (.istore 9, 2) := by decide +kernel
theorem d_Cl_act_511 : decode method_6_code 511 = .ok (.aload_n 2, 1) := by decide +kernel
theorem d_Cl_act_512 : decode method_6_code 512 = .ok (.bipush 30, 2) := by decide +kernel
theorem d_Cl_act_514 : decode method_6_code 514 = .ok (.invokestatic 52, 3) := by decide +kernel
theorem d_Cl_act_517 : decode method_6_code 517 = .ok (.ifCond .ne 8, 3) := by decide +kernel
theorem d_Cl_act_520 : decode method_6_code 520 = .ok (.ldc 145, 2) := by decide +kernel
theorem d_Cl_act_522 : decode method_6_code 522 = .ok (.goto 13, 3) := by decide +kernel
theorem d_Cl_act_525 : decode method_6_code 525 = .ok (.aload_n 2, 1) := by decide +kernel
theorem d_Cl_act_526 : decode method_6_code 526 = .ok (.sipush 200, 3) := by decide +kernel
theorem d_Cl_act_529 : decode method_6_code 529 = .ok (.invokestatic 52, 3) := by decide +kernel
theorem d_Cl_act_532 : decode method_6_code 532 = .ok (.bipush 20, 2) := by decide +kernel
theorem d_Cl_act_534 : decode method_6_code 534 = .ok (.isub, 1) := by decide +kernel
theorem d_Cl_act_535 : decode method_6_code 535 = .ok (.istore 10, 2) := by decide +kernel
theorem d_Cl_act_537 : decode method_6_code 537 = .ok (.iload 8, 2) := by decide +kernel
theorem d_Cl_act_539 : decode method_6_code 539 = .ok (.bipush 99, 2) := by decide +kernel
theorem d_Cl_act_541 : decode method_6_code 541 = .ok (.if_icmp .gt 18, 3) := by decide +kernel
theorem d_Cl_act_544 : decode method_6_code 544 = .ok (.iload 9, 2) := by decide +kernel
theorem d_Cl_act_546 : decode method_6_code 546 = .ok (.sipush 9999, 3) := by decide +kernel
theorem d_Cl_act_549 : decode method_6_code 549 = .ok (.if_icmp .gt 10, 3) := by decide +kernel
theorem d_Cl_act_552 : decode method_6_code 552 = .ok (.iload 10, 2) := by decide +kernel
theorem d_Cl_act_554 : decode method_6_code 554 = .ok (.ldc 146, 2) := by decide +kernel
theorem d_Cl_act_556 : decode method_6_code 556 = .ok (.if_icmp .le 8, 3) := by decide +kernel
theorem d_Cl_act_559 : decode method_6_code 559 = .ok (.bipush (-3), 2) := by decide +kernel
theorem d_Cl_act_561 : decode method_6_code 561 = .ok (.goto 43, 3) := by decide +kernel
theorem d_Cl_act_564 : decode method_6_code 564 = .ok (.iload 4, 2) := by decide +kernel
theorem d_Cl_act_566 : decode method_6_code 566 = .ok (.bipush 48, 2) := by decide +kernel
theorem d_Cl_act_568 : decode method_6_code 568 = .ok (.if_icmp .ne 8, 3) := by decide +kernel
theorem d_Cl_act_571 : decode method_6_code 571 = .ok (.bipush (-4), 2) := by decide +kernel
theorem d_Cl_act_573 : decode method_6_code 573 = .ok (.goto 31, 3) := by decide +kernel
theorem d_Cl_act_576 : decode method_6_code 576 = .ok (.aload_n 1, 1) := by decide +kernel
theorem d_Cl_act_577 : decode method_6_code 577 = .ok (.getfield 38, 3) := by decide +kernel
theorem d_Cl_act_580 : decode method_6_code 580 = .ok (.invokevirtual 59, 3) := by decide +kernel
theorem d_Cl_act_583 : decode method_6_code 583 = .ok (.ifCond .eq 14, 3) := by decide +kernel
theorem d_Cl_act_586 : decode method_6_code 586 = .ok (.aload_n 1, 1) := by decide +kernel
theorem d_Cl_act_587 : decode method_6_code 587 = .ok (.iload 8, 2) := by decide +kernel
theorem d_Cl_act_589 : decode method_6_code 589 = .ok (.iload 9, 2) := by decide +kernel
theorem d_Cl_act_591 : decode method_6_code 591 = .ok (.invokevirtual 99, 3) := by decide +kernel
theorem d_Cl_act_594 : decode method_6_code 594 = .ok (.ifCond .lt 8, 3) := by decide +kernel
theorem d_Cl_act_597 : decode method_6_code 597 = .ok (.bipush (-5), 2) := by decide +kernel
theorem d_Cl_act_599 : decode method_6_code 599 = .ok (.goto 5, 3) := by decide +kernel
theorem d_Cl_act_602 : decode method_6_code 602 = .ok (.iload 4, 2) := by decide +kernel
theorem d_Cl_act_604 : decode method_6_code 604 = .ok (.istore 6, 2) := by decide +kernel
theorem d_Cl_act_606 : decode method_6_code 606 = .ok (.iload 6, 2) := by decide +kernel
theorem d_Cl_act_608 : decode method_6_code 608 = .ok (.ifCond .lt 43, 3) := by decide +kernel
theorem d_Cl_act_611 : decode method_6_code 611 = .ok (.new 70, 3) := by decide +kernel
theorem d_Cl_act_614 : decode method_6_code 614 = .ok (.dup, 1) := by decide +kernel
theorem d_Cl_act_615 : decode method_6_code 615 = .ok (.invokespecial 98, 3) := by decide +kernel
theorem d_Cl_act_618 : decode method_6_code 618 = .ok (.astore 11, 2) := by decide +kernel
theorem d_Cl_act_620 : decode method_6_code 620 = .ok (.aload 11, 2) := by decide +kernel
theorem d_Cl_act_622 : decode method_6_code 622 = .ok (.iload 8, 2) := by decide +kernel
theorem d_Cl_act_624 : decode method_6_code 624 = .ok (.putfield 84, 3) := by decide +kernel
theorem d_Cl_act_627 : decode method_6_code 627 = .ok (.aload 11, 2) := by decide +kernel
theorem d_Cl_act_629 : decode method_6_code 629 = .ok (.iload 9, 2) := by decide +kernel
theorem d_Cl_act_631 : decode method_6_code 631 = .ok (.putfield 93, 3) := by decide +kernel
theorem d_Cl_act_634 : decode method_6_code 634 = .ok (.aload 11, 2) := by decide +kernel
theorem d_Cl_act_636 : decode method_6_code 636 = .ok (.iload 10, 2) := by decide +kernel
theorem d_Cl_act_638 : decode method_6_code 638 = .ok (.putfield 72, 3) := by decide +kernel
theorem d_Cl_act_641 : decode method_6_code 641 = .ok (.aload_n 1, 1) := by decide +kernel
theorem d_Cl_act_642 : decode method_6_code 642 = .ok (.getfield 27, 3) := by decide +kernel
theorem d_Cl_act_645 : decode method_6_code 645 = .ok (.aload 11, 2) := by decide +kernel
theorem d_Cl_act_647 : decode method_6_code 647 = .ok (.invokevirtual 119, 3) := by decide +kernel
theorem d_Cl_act_650 : decode method_6_code 650 = .ok (.pop, 1) := by decide +kernel
theorem d_Cl_act_651 : decode method_6_code 651 = .ok (.aload_n 0, 1) := by decide +kernel
theorem d_Cl_act_652 : decode method_6_code 652 = .ok (.iload 8, 2) := by decide +kernel
theorem d_Cl_act_654 : decode method_6_code 654 = .ok (.iload 9, 2) := by decide +kernel
theorem d_Cl_act_656 : decode method_6_code 656 = .ok (.iload 10, 2) := by decide +kernel
theorem d_Cl_act_658 : decode method_6_code 658 = .ok (.invokevirtual 147, 3) := by decide +kernel
theorem d_Cl_act_661 : decode method_6_code 661 = .ok (.iload 6, 2) := by decide +kernel
theorem d_Cl_act_663 : decode method_6_code 663 = .ok (.if_icmp .ne 7, 3) := by decide +kernel
theorem d_Cl_act_666 : decode method_6_code 666 = .ok (.iconst 1, 1) := by decide +kernel
theorem d_Cl_act_667 : decode method_6_code 667 = .ok (.goto 4, 3) := by decide +kernel
theorem d_Cl_act_670 : decode method_6_code 670 = .ok (.iconst 0, 1) := by decide +kernel
theorem d_Cl_act_671 : decode method_6_code 671 = .ok (.ireturn, 1) := by decide +kernel
theorem d_Cl_act_672 : decode method_6_code 672 = .ok (.iload_n 3, 1) := by decide +kernel
theorem d_Cl_act_673 : decode method_6_code 673 = .ok (.iconst 4, 1) := by decide +kernel
theorem d_Cl_act_674 : decode method_6_code 674 = .ok (.if_icmp .ne 112, 3) := by decide +kernel
theorem d_Cl_act_677 : decode method_6_code 677 = .ok (.aload_n 2, 1) := by decide +kernel
theorem d_Cl_act_678 : decode method_6_code 678 = .ok (.bipush 25, 2) := by decide +kernel
theorem d_Cl_act_680 : decode method_6_code 680 = .ok (.invokestatic 52, 3) := by decide +kernel
theorem d_Cl_act_683 : decode method_6_code 683 = .ok (.ifCond .ne 8, 3) := by decide +kernel
theorem d_Cl_act_686 : decode method_6_code 686 = .ok (.ldc 150, 2) := by decide +kernel
theorem d_Cl_act_688 : decode method_6_code 688 = .ok (.goto 13, 3) := by decide +kernel
theorem d_Cl_act_691 : decode method_6_code 691 = .ok (.aload_n 2, 1) := by decide +kernel
theorem d_Cl_act_692 : decode method_6_code 692 = .ok (.sipush 300, 3) := by decide +kernel
theorem d_Cl_act_695 : decode method_6_code 695 = .ok (.invokestatic 52, 3) := by decide +kernel
theorem d_Cl_act_698 : decode method_6_code 698 = .ok (.bipush 30, 2) := by decide +kernel
theorem d_Cl_act_700 : decode method_6_code 700 = .ok (.isub, 1) := by decide +kernel
theorem d_Cl_act_701 : decode method_6_code 701 = .ok (.istore 8, 2) := by decide +kernel
theorem d_Cl_act_703 : decode method_6_code 703 = .ok (.aload 7, 2) := by decide +kernel
theorem d_Cl_act_705 : decode method_6_code 705 = .ok (.ifnull 24, 3) := by decide +kernel
theorem d_Cl_act_708 : decode method_6_code 708 = .ok (.iload 8, 2) := by decide +kernel
theorem d_Cl_act_710 : decode method_6_code 710 = .ok (.ldc 150, 2) := by decide +kernel
theorem d_Cl_act_712 : decode method_6_code 712 = .ok (.if_icmp .le 17, 3) := by decide +kernel
theorem d_Cl_act_715 : decode method_6_code 715 = .ok (.aload_n 1, 1) := by decide +kernel
theorem d_Cl_act_716 : decode method_6_code 716 = .ok (.getfield 38, 3) := by decide +kernel
theorem d_Cl_act_719 : decode method_6_code 719 = .ok (.invokevirtual 59, 3) := by decide +kernel
theorem d_Cl_act_722 : decode method_6_code 722 = .ok (.ifCond .eq 7, 3) := by decide +kernel
theorem d_Cl_act_725 : decode method_6_code 725 = .ok (.iconst 1, 1) := by decide +kernel
theorem d_Cl_act_726 : decode method_6_code 726 = .ok (.goto 4, 3) := by decide +kernel
theorem d_Cl_act_729 : decode method_6_code 729 = .ok (.iconst 0, 1) := by decide +kernel
theorem d_Cl_act_730 : decode method_6_code 730 = .ok (.istore 9, 2) := by decide +kernel
theorem d_Cl_act_732 : decode method_6_code 732 = .ok (.iload 9, 2) := by decide +kernel
theorem d_Cl_act_734 : decode method_6_code 734 = .ok (.ifCond .eq 11, 3) := by decide +kernel
theorem d_Cl_act_737 : decode method_6_code 737 = .ok (.aload 7, 2) := by decide +kernel
theorem d_Cl_act_739 : decode method_6_code 739 = .ok (.getfield 72, 3) := by decide +kernel
theorem d_Cl_act_742 : decode method_6_code 742 = .ok (.goto 5, 3) := by decide +kernel
theorem d_Cl_act_745 : decode method_6_code 745 = .ok (.ldc 151, 2) := by decide +kernel
theorem d_Cl_act_747 : decode method_6_code 747 = .ok (.istore 6, 2) := by decide +kernel
theorem d_Cl_act_749 : decode method_6_code 749 = .ok (.iload 9, 2) := by decide +kernel
theorem d_Cl_act_751 : decode method_6_code 751 = .ok (.ifCond .eq 16, 3) := by decide +kernel
theorem d_Cl_act_754 : decode method_6_code 754 = .ok (.aload 7, 2) := by decide +kernel
theorem d_Cl_act_756 : decode method_6_code 756 = .ok (.iload 8, 2) := by decide +kernel
theorem d_Cl_act_758 : decode method_6_code 758 = .ok (.putfield 72, 3) := by decide +kernel
theorem d_Cl_act_761 : decode method_6_code 761 = .ok (.aload 7, 2) := by decide +kernel
theorem d_Cl_act_763 : decode method_6_code 763 = .ok (.iconst (-1), 1) := by decide +kernel
theorem d_Cl_act_764 : decode method_6_code 764 = .ok (.putfield 75, 3) := by decide +kernel
theorem d_Cl_act_767 : decode method_6_code 767 = .ok (.aload_n 0, 1) := by decide +kernel
theorem d_Cl_act_768 : decode method_6_code 768 = .ok (.iload 5, 2) := by decide +kernel
theorem d_Cl_act_770 : decode method_6_code 770 = .ok (.iload 8, 2) := by decide +kernel
theorem d_Cl_act_772 : decode method_6_code 772 = .ok (.invokevirtual 152, 3) := by decide +kernel
theorem d_Cl_act_775 : decode method_6_code 775 = .ok (.iload 6, 2) := by decide +kernel
theorem d_Cl_act_777 : decode method_6_code 777 = .ok (.if_icmp .ne 7, 3) := by decide +kernel
theorem d_Cl_act_780 : decode method_6_code 780 = .ok (.iconst 1, 1) := by decide +kernel
theorem d_Cl_act_781 : decode method_6_code 781 = .ok (.goto 4, 3) := by decide +kernel
theorem d_Cl_act_784 : decode method_6_code 784 = .ok (.iconst 0, 1) := by decide +kernel
theorem d_Cl_act_785 : decode method_6_code 785 = .ok (.ireturn, 1) := by decide +kernel
theorem d_Cl_act_786 : decode method_6_code 786 = .ok (.iload_n 3, 1) := by decide +kernel
theorem d_Cl_act_787 : decode method_6_code 787 = .ok (.bipush 10, 2) := by decide +kernel
theorem d_Cl_act_789 : decode method_6_code 789 = .ok (.if_icmp .ge 204, 3) := by decide +kernel
theorem d_Cl_act_792 : decode method_6_code 792 = .ok (.aload 7, 2) := by decide +kernel
theorem d_Cl_act_794 : decode method_6_code 794 = .ok (.ifnull 12, 3) := by decide +kernel
theorem d_Cl_act_797 : decode method_6_code 797 = .ok (.aload 7, 2) := by decide +kernel
theorem d_Cl_act_799 : decode method_6_code 799 = .ok (.getfield 72, 3) := by decide +kernel
theorem d_Cl_act_802 : decode method_6_code 802 = .ok (.iconst 1, 1) := by decide +kernel
theorem d_Cl_act_803 : decode method_6_code 803 = .ok (.if_icmp .ge 13, 3) := by decide +kernel
theorem d_Cl_act_806 : decode method_6_code 806 = .ok (.aload_n 2, 1) := by decide +kernel
theorem d_Cl_act_807 : decode method_6_code 807 = .ok (.iconst 3, 1) := by decide +kernel
theorem d_Cl_act_808 : decode method_6_code 808 = .ok (.invokestatic 52, 3) := by decide +kernel
theorem d_Cl_act_811 : decode method_6_code 811 = .ok (.iconst 1, 1) := by decide +kernel
theorem d_Cl_act_812 : decode method_6_code 812 = .ok (.isub, 1) := by decide +kernel
theorem d_Cl_act_813 : decode method_6_code 813 = .ok (.goto 89, 3) := by decide +kernel
theorem d_Cl_act_816 : decode method_6_code 816 = .ok (.aload_n 2, 1) := by decide +kernel
theorem d_Cl_act_817 : decode method_6_code 817 = .ok (.bipush 25, 2) := by decide +kernel
theorem d_Cl_act_819 : decode method_6_code 819 = .ok (.invokestatic 52, 3) := by decide +kernel
theorem d_Cl_act_822 : decode method_6_code 822 = .ok (.ifCond .ne 15, 3) := by decide +kernel
theorem d_Cl_act_825 : decode method_6_code 825 = .ok (.iconst 2, 1) := by decide +kernel
theorem d_Cl_act_826 : decode method_6_code 826 = .ok (.aload 7, 2) := by decide +kernel
theorem d_Cl_act_828 : decode method_6_code 828 = .ok (.getfield 72, 3) := by decide +kernel
theorem d_Cl_act_831 : decode method_6_code 831 = .ok (.imul, 1) := by decide +kernel
theorem d_Cl_act_832 : decode method_6_code 832 = .ok (.iconst 1, 1) := by decide +kernel
theorem d_Cl_act_833 : decode method_6_code 833 = .ok (.iadd, 1) := by decide +kernel
theorem d_Cl_act_834 : decode method_6_code 834 = .ok (.goto 68, 3) := by decide +kernel
theorem d_Cl_act_837 : decode method_6_code 837 = .ok (.aload_n 2, 1) := by decide +kernel
theorem d_Cl_act_838 : decode method_6_code 838 = .ok (.iconst 4, 1) := by decide +kernel
theorem d_Cl_act_839 : decode method_6_code 839 = .ok (.invokestatic 52, 3) := by decide +kernel
theorem d_Cl_act_842 : decode method_6_code 842 = .ok (.ifCond .ne 11, 3) := by decide +kernel
theorem d_Cl_act_845 : decode method_6_code 845 = .ok (.aload 7, 2) := by decide +kernel
theorem d_Cl_act_847 : decode method_6_code 847 = .ok (.getfield 72, 3) := by decide +kernel
theorem d_Cl_act_850 : decode method_6_code 850 = .ok (.goto 52, 3) := by decide +kernel
theorem d_Cl_act_853 : decode method_6_code 853 = .ok (.aload_n 2, 1) := by decide +kernel
theorem d_Cl_act_854 : decode method_6_code 854 = .ok (.iconst 3, 1) := by decide +kernel
theorem d_Cl_act_855 : decode method_6_code 855 = .ok (.invokestatic 52, 3) := by decide +kernel
theorem d_Cl_act_858 : decode method_6_code 858 = .ok (.ifCond .ne 25, 3) := by decide +kernel
theorem d_Cl_act_861 : decode method_6_code 861 = .ok (.aload 7, 2) := by decide +kernel
theorem d_Cl_act_863 : decode method_6_code 863 = .ok (.getfield 72, 3) := by decide +kernel
theorem d_Cl_act_866 : decode method_6_code 866 = .ok (.aload_n 2, 1) := by decide +kernel
theorem d_Cl_act_867 : decode method_6_code 867 = .ok (.iconst 1, 1) := by decide +kernel
theorem d_Cl_act_868 : decode method_6_code 868 = .ok (.aload 7, 2) := by decide +kernel
theorem d_Cl_act_870 : decode method_6_code 870 = .ok (.getfield 72, 3) := by decide +kernel
theorem d_Cl_act_873 : decode method_6_code 873 = .ok (.iconst 3, 1) := by decide +kernel
theorem d_Cl_act_874 : decode method_6_code 874 = .ok (.idiv, 1) := by decide +kernel
theorem d_Cl_act_875 : decode method_6_code 875 = .ok (.iadd, 1) := by decide +kernel
theorem d_Cl_act_876 : decode method_6_code 876 = .ok (.invokestatic 52, 3) := by decide +kernel
theorem d_Cl_act_879 : decode method_6_code 879 = .ok (.iadd, 1) := by decide +kernel
theorem d_Cl_act_880 : decode method_6_code 880 = .ok (.goto 22, 3) := by decide +kernel
theorem d_Cl_act_883 : decode method_6_code 883 = .ok (.aload 7, 2) := by decide +kernel
theorem d_Cl_act_885 : decode method_6_code 885 = .ok (.getfield 72, 3) := by decide +kernel
theorem d_Cl_act_888 : decode method_6_code 888 = .ok (.aload_n 2, 1) := by decide +kernel
theorem d_Cl_act_889 : decode method_6_code 889 = .ok (.iconst 1, 1) := by decide +kernel
theorem d_Cl_act_890 : decode method_6_code 890 = .ok (.aload 7, 2) := by decide +kernel
theorem d_Cl_act_892 : decode method_6_code 892 = .ok (.getfield 72, 3) := by decide +kernel
theorem d_Cl_act_895 : decode method_6_code 895 = .ok (.iconst 2, 1) := by decide +kernel
theorem d_Cl_act_896 : decode method_6_code 896 = .ok (.idiv, 1) := by decide +kernel
theorem d_Cl_act_897 : decode method_6_code 897 = .ok (.iadd, 1) := by decide +kernel
theorem d_Cl_act_898 : decode method_6_code 898 = .ok (.invokestatic 52, 3) := by decide +kernel
theorem d_Cl_act_901 : decode method_6_code 901 = .ok (.isub, 1) := by decide +kernel
theorem d_Cl_act_902 : decode method_6_code 902 = .ok (.istore 8, 2) := by decide +kernel
theorem d_Cl_act_904 : decode method_6_code 904 = .ok (.aload 7, 2) := by decide +kernel
theorem d_Cl_act_906 : decode method_6_code 906 = .ok (.ifnonnull 8, 3) := by decide +kernel
theorem d_Cl_act_909 : decode method_6_code 909 = .ok (.bipush (-2), 2) := by decide +kernel
theorem d_Cl_act_911 : decode method_6_code 911 = .ok (.goto 43, 3) := by decide +kernel
theorem d_Cl_act_914 : decode method_6_code 914 = .ok (.iload 8, 2) := by decide +kernel
theorem d_Cl_act_916 : decode method_6_code 916 = .ok (.ifCond .lt 15, 3) := by decide +kernel
theorem d_Cl_act_919 : decode method_6_code 919 = .ok (.iload 8, 2) := by decide +kernel
theorem d_Cl_act_921 : decode method_6_code 921 = .ok (.iconst 2, 1) := by decide +kernel
theorem d_Cl_act_922 : decode method_6_code 922 = .ok (.aload 7, 2) := by decide +kernel
theorem d_Cl_act_924 : decode method_6_code 924 = .ok (.getfield 72, 3) := by decide +kernel
theorem d_Cl_act_927 : decode method_6_code 927 = .ok (.imul, 1) := by decide +kernel
theorem d_Cl_act_928 : decode method_6_code 928 = .ok (.if_icmp .le 8, 3) := by decide +kernel
theorem d_Cl_act_931 : decode method_6_code 931 = .ok (.bipush (-3), 2) := by decide +kernel
theorem d_Cl_act_933 : decode method_6_code 933 = .ok (.goto 21, 3) := by decide +kernel
theorem d_Cl_act_936 : decode method_6_code 936 = .ok (.aload 7, 2) := by decide +kernel
theorem d_Cl_act_938 : decode method_6_code 938 = .ok (.getfield 72, 3) := by decide +kernel
theorem d_Cl_act_941 : decode method_6_code 941 = .ok (.ifCond .ne 8, 3) := by decide +kernel
theorem d_Cl_act_944 : decode method_6_code 944 = .ok (.bipush (-5), 2) := by decide +kernel
theorem d_Cl_act_946 : decode method_6_code 946 = .ok (.goto 8, 3) := by decide +kernel
theorem d_Cl_act_949 : decode method_6_code 949 = .ok (.aload 7, 2) := by decide +kernel
theorem d_Cl_act_951 : decode method_6_code 951 = .ok (.getfield 75, 3) := by decide +kernel
theorem d_Cl_act_954 : decode method_6_code 954 = .ok (.istore 6, 2) := by decide +kernel
theorem d_Cl_act_956 : decode method_6_code 956 = .ok (.iload 6, 2) := by decide +kernel
theorem d_Cl_act_958 : decode method_6_code 958 = .ok (.iconst (-1), 1) := by decide +kernel
theorem d_Cl_act_959 : decode method_6_code 959 = .ok (.if_icmp .lt 15, 3) := by decide +kernel
theorem d_Cl_act_962 : decode method_6_code 962 = .ok (.aload 7, 2) := by decide +kernel
theorem d_Cl_act_964 : decode method_6_code 964 = .ok (.ifnull 10, 3) := by decide +kernel
theorem d_Cl_act_967 : decode method_6_code 967 = .ok (.aload 7, 2) := by decide +kernel
theorem d_Cl_act_969 : decode method_6_code 969 = .ok (.iload 8, 2) := by decide +kernel
theorem d_Cl_act_971 : decode method_6_code 971 = .ok (.putfield 75, 3) := by decide +kernel
theorem d_Cl_act_974 : decode method_6_code 974 = .ok (.aload_n 0, 1) := by decide +kernel
theorem d_Cl_act_975 : decode method_6_code 975 = .ok (.iload 5, 2) := by decide +kernel
theorem d_Cl_act_977 : decode method_6_code 977 = .ok (.iload 8, 2) := by decide +kernel
theorem d_Cl_act_979 : decode method_6_code 979 = .ok (.invokevirtual 155, 3) := by decide +kernel
theorem d_Cl_act_982 : decode method_6_code 982 = .ok (.iload 6, 2) := by decide +kernel
theorem d_Cl_act_984 : decode method_6_code 984 = .ok (.if_icmp .ne 7, 3) := by decide +kernel
theorem d_Cl_act_987 : decode method_6_code 987 = .ok (.iconst 1, 1) := by decide +kernel
theorem d_Cl_act_988 : decode method_6_code 988 = .ok (.goto 4, 3) := by decide +kernel
theorem d_Cl_act_991 : decode method_6_code 991 = .ok (.iconst 0, 1) := by decide +kernel
theorem d_Cl_act_992 : decode method_6_code 992 = .ok (.ireturn, 1) := by decide +kernel
theorem d_Cl_act_993 : decode method_6_code 993 = .ok (.iload_n 3, 1) := by decide +kernel
theorem d_Cl_act_994 : decode method_6_code 994 = .ok (.bipush 10, 2) := by decide +kernel
theorem d_Cl_act_996 : decode method_6_code 996 = .ok (.if_icmp .ne 48, 3) := by decide +kernel
theorem d_Cl_act_999 : decode method_6_code 999 = .ok (.aload 7, 2) := by decide +kernel
theorem d_Cl_act_1001 : decode method_6_code 1001 = .ok (.ifnonnull 8, 3) := by decide +kernel
theorem d_Cl_act_1004 : decode method_6_code 1004 = .ok (.bipush (-2), 2) := by decide +kernel
theorem d_Cl_act_1006 : decode method_6_code 1006 = .ok (.goto 8, 3) := by decide +kernel
theorem d_Cl_act_1009 : decode method_6_code 1009 = .ok (.aload 7, 2) := by decide +kernel
theorem d_Cl_act_1011 : decode method_6_code 1011 = .ok (.getfield 75, 3) := by decide +kernel
theorem d_Cl_act_1014 : decode method_6_code 1014 = .ok (.istore 6, 2) := by decide +kernel
theorem d_Cl_act_1016 : decode method_6_code 1016 = .ok (.aload 7, 2) := by decide +kernel
theorem d_Cl_act_1018 : decode method_6_code 1018 = .ok (.ifnull 9, 3) := by decide +kernel
theorem d_Cl_act_1021 : decode method_6_code 1021 = .ok (.aload 7, 2) := by decide +kernel
theorem d_Cl_act_1023 : decode method_6_code 1023 = .ok (.iconst (-1), 1) := by decide +kernel
theorem d_Cl_act_1024 : decode method_6_code 1024 = .ok (.putfield 75, 3) := by decide +kernel
theorem d_Cl_act_1027 : decode method_6_code 1027 = .ok (.aload_n 0, 1) := by decide +kernel
theorem d_Cl_act_1028 : decode method_6_code 1028 = .ok (.iload 5, 2) := by decide +kernel
theorem d_Cl_act_1030 : decode method_6_code 1030 = .ok (.invokevirtual 158, 3) := by decide +kernel
theorem d_Cl_act_1033 : decode method_6_code 1033 = .ok (.iload 6, 2) := by decide +kernel
theorem d_Cl_act_1035 : decode method_6_code 1035 = .ok (.if_icmp .ne 7, 3) := by decide +kernel
theorem d_Cl_act_1038 : decode method_6_code 1038 = .ok (.iconst 1, 1) := by decide +kernel
theorem d_Cl_act_1039 : decode method_6_code 1039 = .ok (.goto 4, 3) := by decide +kernel
theorem d_Cl_act_1042 : decode method_6_code 1042 = .ok (.iconst 0, 1) := by decide +kernel
theorem d_Cl_act_1043 : decode method_6_code 1043 = .ok (.ireturn, 1) := by decide +kernel
theorem d_Cl_act_1044 : decode method_6_code 1044 = .ok (.iload_n 3, 1) := by decide +kernel
theorem d_Cl_act_1045 : decode method_6_code 1045 = .ok (.bipush 11, 2) := by decide +kernel
theorem d_Cl_act_1047 : decode method_6_code 1047 = .ok (.if_icmp .ne 163, 3) := by decide +kernel
theorem d_Cl_act_1050 : decode method_6_code 1050 = .ok (.aload_n 2, 1) := by decide +kernel
theorem d_Cl_act_1051 : decode method_6_code 1051 = .ok (.bipush 20, 2) := by decide +kernel
theorem d_Cl_act_1053 : decode method_6_code 1053 = .ok (.invokestatic 52, 3) := by decide +kernel
theorem d_Cl_act_1056 : decode method_6_code 1056 = .ok (.ifCond .ne 14, 3) := by decide +kernel
theorem d_Cl_act_1059 : decode method_6_code 1059 = .ok (.ldc 145, 2) := by decide +kernel
theorem d_Cl_act_1061 : decode method_6_code 1061 = .ok (.aload_n 2, 1) := by decide +kernel
theorem d_Cl_act_1062 : decode method_6_code 1062 = .ok (.iconst 2, 1) := by decide +kernel
theorem d_Cl_act_1063 : decode method_6_code 1063 = .ok (.invokestatic 52, 3) := by decide +kernel
theorem d_Cl_act_1066 : decode method_6_code 1066 = .ok (.imul, 1) := by decide +kernel
theorem d_Cl_act_1067 : decode method_6_code 1067 = .ok (.goto 24, 3) := by decide +kernel
theorem d_Cl_act_1070 : decode method_6_code 1070 = .ok (.iconst 1, 1) := by decide +kernel
theorem d_Cl_act_1071 : decode method_6_code 1071 = .ok (.aload_n 2, 1) := by decide +kernel
theorem d_Cl_act_1072 : decode method_6_code 1072 = .ok (.aload_n 2, 1) := by decide +kernel
theorem d_Cl_act_1073 : decode method_6_code 1073 = .ok (.iconst 4, 1) := by decide +kernel
theorem d_Cl_act_1074 : decode method_6_code 1074 = .ok (.invokestatic 52, 3) := by decide +kernel
theorem d_Cl_act_1077 : decode method_6_code 1077 = .ok (.ifCond .ne 7, 3) := by decide +kernel
theorem d_Cl_act_1080 : decode method_6_code 1080 = .ok (.iconst 4, 1) := by decide +kernel
theorem d_Cl_act_1081 : decode method_6_code 1081 = .ok (.goto 6, 3) := by decide +kernel
theorem d_Cl_act_1084 : decode method_6_code 1084 = .ok (.sipush 400, 3) := by decide +kernel
theorem d_Cl_act_1087 : decode method_6_code 1087 = .ok (.invokestatic 52, 3) := by decide +kernel
theorem d_Cl_act_1090 : decode method_6_code 1090 = .ok (.iadd, 1) := by decide +kernel
theorem d_Cl_act_1091 : decode method_6_code 1091 = .ok (.istore 8, 2) := by decide +kernel
theorem d_Cl_act_1093 : decode method_6_code 1093 = .ok (.iload 8, 2) := by decide +kernel
theorem d_Cl_act_1095 : decode method_6_code 1095 = .ok (.iconst 1, 1) := by decide +kernel
theorem d_Cl_act_1096 : decode method_6_code 1096 = .ok (.if_icmp .lt 10, 3) := by decide +kernel
theorem d_Cl_act_1099 : decode method_6_code 1099 = .ok (.iload 8, 2) := by decide +kernel
theorem d_Cl_act_1101 : decode method_6_code 1101 = .ok (.ldc 146, 2) := by decide +kernel
theorem d_Cl_act_1103 : decode method_6_code 1103 = .ok (.if_icmp .le 8, 3) := by decide +kernel
theorem d_Cl_act_1106 : decode method_6_code 1106 = .ok (.bipush (-3), 2) := by decide +kernel
theorem d_Cl_act_1108 : decode method_6_code 1108 = .ok (.goto 19, 3) := by decide +kernel
theorem d_Cl_act_1111 : decode method_6_code 1111 = .ok (.aload_n 1, 1) := by decide +kernel
theorem d_Cl_act_1112 : decode method_6_code 1112 = .ok (.getfield 38, 3) := by decide +kernel
theorem d_Cl_act_1115 : decode method_6_code 1115 = .ok (.invokevirtual 59, 3) := by decide +kernel
theorem d_Cl_act_1118 : decode method_6_code 1118 = .ok (.ifCond .ne 8, 3) := by decide +kernel
theorem d_Cl_act_1121 : decode method_6_code 1121 = .ok (.bipush (-5), 2) := by decide +kernel
theorem d_Cl_act_1123 : decode method_6_code 1123 = .ok (.goto 4, 3) := by decide +kernel
theorem d_Cl_act_1126 : decode method_6_code 1126 = .ok (.iconst 0, 1) := by decide +kernel
theorem d_Cl_act_1127 : decode method_6_code 1127 = .ok (.istore 6, 2) := by decide +kernel
theorem d_Cl_act_1129 : decode method_6_code 1129 = .ok (.iload 6, 2) := by decide +kernel
theorem d_Cl_act_1131 : decode method_6_code 1131 = .ok (.ifCond .ne 62, 3) := by decide +kernel
theorem d_Cl_act_1134 : decode method_6_code 1134 = .ok (.aload_n 1, 1) := by decide +kernel
theorem d_Cl_act_1135 : decode method_6_code 1135 = .ok (.iload 8, 2) := by decide +kernel
theorem d_Cl_act_1137 : decode method_6_code 1137 = .ok (.putfield 41, 3) := by decide +kernel
theorem d_Cl_act_1140 : decode method_6_code 1140 = .ok (.aload_n 1, 1) := by decide +kernel
theorem d_Cl_act_1141 : decode method_6_code 1141 = .ok (.getfield 27, 3) := by decide +kernel
theorem d_Cl_act_1144 : decode method_6_code 1144 = .ok (.invokevirtual 161, 3) := by decide +kernel
theorem d_Cl_act_1147 : decode method_6_code 1147 = .ok (.astore 9, 2) := by decide +kernel
theorem d_Cl_act_1149 : decode method_6_code 1149 = .ok (.aload 9, 2) := by decide +kernel
theorem d_Cl_act_1151 : decode method_6_code 1151 = .ok (.invokeinterface 165 1, 5) := by decide +kernel
theorem d_Cl_act_1156 : decode method_6_code 1156 = .ok (.ifCond .eq 37, 3) := by decide +kernel
theorem d_Cl_act_1159 : decode method_6_code 1159 = .ok (.aload 9, 2) := by decide +kernel
theorem d_Cl_act_1161 : decode method_6_code 1161 = .ok (.invokeinterface 170 1, 5) := by decide +kernel
theorem d_Cl_act_1166 : decode method_6_code 1166 = .ok (.checkcast 70, 3) := by decide +kernel
theorem d_Cl_act_1169 : decode method_6_code 1169 = .ok (.astore 10, 2) := by decide +kernel
theorem d_Cl_act_1171 : decode method_6_code 1171 = .ok (.iload 6, 2) := by decide +kernel
theorem d_Cl_act_1173 : decode method_6_code 1173 = .ok (.aload_n 1, 1) := by decide +kernel
theorem d_Cl_act_1174 : decode method_6_code 1174 = .ok (.aload 10, 2) := by decide +kernel
theorem d_Cl_act_1176 : decode method_6_code 1176 = .ok (.invokevirtual 174, 3) := by decide +kernel
theorem d_Cl_act_1179 : decode method_6_code 1179 = .ok (.ifCond .eq 7, 3) := by decide +kernel
theorem d_Cl_act_1182 : decode method_6_code 1182 = .ok (.iconst 1, 1) := by decide +kernel
theorem d_Cl_act_1183 : decode method_6_code 1183 = .ok (.goto 4, 3) := by decide +kernel
theorem d_Cl_act_1186 : decode method_6_code 1186 = .ok (.iconst 0, 1) := by decide +kernel
theorem d_Cl_act_1187 : decode method_6_code 1187 = .ok (.iadd, 1) := by decide +kernel
theorem d_Cl_act_1188 : decode method_6_code 1188 = .ok (.istore 6, 2) := by decide +kernel
theorem d_Cl_act_1190 : decode method_6_code 1190 = .ok (.goto (-41), 3) := by decide +kernel
theorem d_Cl_act_1193 : decode method_6_code 1193 = .ok (.aload_n 0, 1) := by decide +kernel
theorem d_Cl_act_1194 : decode method_6_code 1194 = .ok (.iload 8, 2) := by decide +kernel
theorem d_Cl_act_1196 : decode method_6_code 1196 = .ok (.invokevirtual 178, 3) := by decide +kernel
theorem d_Cl_act_1199 : decode method_6_code 1199 = .ok (.iload 6, 2) := by decide +kernel
theorem d_Cl_act_1201 : decode method_6_code 1201 = .ok (.if_icmp .ne 7, 3) := by decide +kernel
theorem d_Cl_act_1204 : decode method_6_code 1204 = .ok (.iconst 1, 1) := by decide +kernel
theorem d_Cl_act_1205 : decode method_6_code 1205 = .ok (.goto 4, 3) := by decide +kernel
theorem d_Cl_act_1208 : decode method_6_code 1208 = .ok (.iconst 0, 1) := by decide +kernel
theorem d_Cl_act_1209 : decode method_6_code 1209 = .ok (.ireturn, 1) := by decide +kernel
theorem d_Cl_act_1210 : decode method_6_code 1210 = .ok (.iload_n 3, 1) := by decide +kernel
theorem d_Cl_act_1211 : decode method_6_code 1211 = .ok (.bipush 12, 2) := by decide +kernel
theorem d_Cl_act_1213 : decode method_6_code 1213 = .ok (.if_icmp .ne 92, 3) := by decide +kernel
theorem d_Cl_act_1216 : decode method_6_code 1216 = .ok (.aload_n 1, 1) := by decide +kernel
theorem d_Cl_act_1217 : decode method_6_code 1217 = .ok (.aload_n 1, 1) := by decide +kernel
theorem d_Cl_act_1218 : decode method_6_code 1218 = .ok (.getfield 45, 3) := by decide +kernel
theorem d_Cl_act_1221 : decode method_6_code 1221 = .ok (.iconst 0, 1) := by decide +kernel
theorem d_Cl_act_1222 : decode method_6_code 1222 = .ok (.iaload, 1) := by decide +kernel
theorem d_Cl_act_1223 : decode method_6_code 1223 = .ok (.aload_n 1, 1) := by decide +kernel
theorem d_Cl_act_1224 : decode method_6_code 1224 = .ok (.getfield 45, 3) := by decide +kernel
theorem d_Cl_act_1227 : decode method_6_code 1227 = .ok (.iconst 2, 1) := by decide +kernel
theorem d_Cl_act_1228 : decode method_6_code 1228 = .ok (.iaload, 1) := by decide +kernel
theorem d_Cl_act_1229 : decode method_6_code 1229 = .ok (.invokevirtual 180, 3) := by decide +kernel
theorem d_Cl_act_1232 : decode method_6_code 1232 = .ok (.istore 8, 2) := by decide +kernel
theorem d_Cl_act_1234 : decode method_6_code 1234 = .ok (.iload 8, 2) := by decide +kernel
theorem d_Cl_act_1236 : decode method_6_code 1236 = .ok (.ifCond .ge 8, 3) := by decide +kernel
theorem d_Cl_act_1239 : decode method_6_code 1239 = .ok (.bipush (-4), 2) := by decide +kernel
theorem d_Cl_act_1241 : decode method_6_code 1241 = .ok (.goto 27, 3) := by decide +kernel
theorem d_Cl_act_1244 : decode method_6_code 1244 = .ok (.aload_n 1, 1) := by decide +kernel
theorem d_Cl_act_1245 : decode method_6_code 1245 = .ok (.invokevirtual 182, 3) := by decide +kernel
theorem d_Cl_act_1248 : decode method_6_code 1248 = .ok (.ifCond .eq 13, 3) := by decide +kernel
theorem d_Cl_act_1251 : decode method_6_code 1251 = .ok (.aload_n 1, 1) := by decide +kernel
theorem d_Cl_act_1252 : decode method_6_code 1252 = .ok (.getfield 38, 3) := by decide +kernel
theorem d_Cl_act_1255 : decode method_6_code 1255 = .ok (.invokevirtual 59, 3) := by decide +kernel
theorem d_Cl_act_1258 : decode method_6_code 1258 = .ok (.ifCond .ne 8, 3) := by decide +kernel
theorem d_Cl_act_1261 : decode method_6_code 1261 = .ok (.bipush (-5), 2) := by decide +kernel
theorem d_Cl_act_1263 : decode method_6_code 1263 = .ok (.goto 5, 3) := by decide +kernel
theorem d_Cl_act_1266 : decode method_6_code 1266 = .ok (.iload 8, 2) := by decide +kernel
theorem d_Cl_act_1268 : decode method_6_code 1268 = .ok (.istore 6, 2) := by decide +kernel
theorem d_Cl_act_1270 : decode method_6_code 1270 = .ok (.iload 6, 2) := by decide +kernel
theorem d_Cl_act_1272 : decode method_6_code 1272 = .ok (.ifCond .le 18, 3) := by decide +kernel
theorem d_Cl_act_1275 : decode method_6_code 1275 = .ok (.aload_n 1, 1) := by decide +kernel
theorem d_Cl_act_1276 : decode method_6_code 1276 = .ok (.iconst 1, 1) := by decide +kernel
theorem d_Cl_act_1277 : decode method_6_code 1277 = .ok (.aload_n 1, 1) := by decide +kernel
theorem d_Cl_act_1278 : decode method_6_code 1278 = .ok (.invokevirtual 182, 3) := by decide +kernel
theorem d_Cl_act_1281 : decode method_6_code 1281 = .ok (.iload 8, 2) := by decide +kernel
theorem d_Cl_act_1283 : decode method_6_code 1283 = .ok (.idiv, 1) := by decide +kernel
theorem d_Cl_act_1284 : decode method_6_code 1284 = .ok (.invokestatic 185, 3) := by decide +kernel
theorem d_Cl_act_1287 : decode method_6_code 1287 = .ok (.putfield 41, 3) := by decide +kernel
theorem d_Cl_act_1290 : decode method_6_code 1290 = .ok (.aload_n 0, 1) := by decide +kernel
theorem d_Cl_act_1291 : decode method_6_code 1291 = .ok (.invokevirtual 188, 3) := by decide +kernel
theorem d_Cl_act_1294 : decode method_6_code 1294 = .ok (.iload 6, 2) := by decide +kernel
theorem d_Cl_act_1296 : decode method_6_code 1296 = .ok (.if_icmp .ne 7, 3) := by decide +kernel
theorem d_Cl_act_1299 : decode method_6_code 1299 = .ok (.iconst 1, 1) := by decide +kernel
theorem d_Cl_act_1300 : decode method_6_code 1300 = .ok (.goto 4, 3) := by decide +kernel
theorem d_Cl_act_1303 : decode method_6_code 1303 = .ok (.iconst 0, 1) := by decide +kernel
theorem d_Cl_act_1304 : decode method_6_code 1304 = .ok (.ireturn, 1) := by decide +kernel
theorem d_Cl_act_1305 : decode method_6_code 1305 = .ok (.iload_n 3, 1) := by decide +kernel
theorem d_Cl_act_1306 : decode method_6_code 1306 = .ok (.bipush 13, 2) := by decide +kernel
theorem d_Cl_act_1308 : decode method_6_code 1308 = .ok (.if_icmp .ne 34, 3) := by decide +kernel
theorem d_Cl_act_1311 : decode method_6_code 1311 = .ok (.aload_n 1, 1) := by decide +kernel
theorem d_Cl_act_1312 : decode method_6_code 1312 = .ok (.getfield 38, 3) := by decide +kernel
theorem d_Cl_act_1315 : decode method_6_code 1315 = .ok (.invokevirtual 63, 3) := by decide +kernel
theorem d_Cl_act_1318 : decode method_6_code 1318 = .ok (.istore 6, 2) := by decide +kernel
theorem d_Cl_act_1320 : decode method_6_code 1320 = .ok (.aload_n 1, 1) := by decide +kernel
theorem d_Cl_act_1321 : decode method_6_code 1321 = .ok (.getfield 38, 3) := by decide +kernel
theorem d_Cl_act_1324 : decode method_6_code 1324 = .ok (.invokevirtual 33, 3) := by decide +kernel
theorem d_Cl_act_1327 : decode method_6_code 1327 = .ok (.aload_n 0, 1) := by decide +kernel
theorem d_Cl_act_1328 : decode method_6_code 1328 = .ok (.invokevirtual 191, 3) := by decide +kernel
theorem d_Cl_act_1331 : decode method_6_code 1331 = .ok (.iload 6, 2) := by decide +kernel
theorem d_Cl_act_1333 : decode method_6_code 1333 = .ok (.if_icmp .ne 7, 3) := by decide +kernel
theorem d_Cl_act_1336 : decode method_6_code 1336 = .ok (.iconst 1, 1) := by decide +kernel
theorem d_Cl_act_1337 : decode method_6_code 1337 = .ok (.goto 4, 3) := by decide +kernel
theorem d_Cl_act_1340 : decode method_6_code 1340 = .ok (.iconst 0, 1) := by decide +kernel
theorem d_Cl_act_1341 : decode method_6_code 1341 = .ok (.ireturn, 1) := by decide +kernel
theorem d_Cl_act_1342 : decode method_6_code 1342 = .ok (.aload_n 1, 1) := by decide +kernel
theorem d_Cl_act_1343 : decode method_6_code 1343 = .ok (.getfield 41, 3) := by decide +kernel
theorem d_Cl_act_1346 : decode method_6_code 1346 = .ok (.ifCond .ne 8, 3) := by decide +kernel
theorem d_Cl_act_1349 : decode method_6_code 1349 = .ok (.bipush (-5), 2) := by decide +kernel
theorem d_Cl_act_1351 : decode method_6_code 1351 = .ok (.goto 37, 3) := by decide +kernel
theorem d_Cl_act_1354 : decode method_6_code 1354 = .ok (.aload_n 1, 1) := by decide +kernel
theorem d_Cl_act_1355 : decode method_6_code 1355 = .ok (.getfield 38, 3) := by decide +kernel
theorem d_Cl_act_1358 : decode method_6_code 1358 = .ok (.invokevirtual 63, 3) := by decide +kernel
theorem d_Cl_act_1361 : decode method_6_code 1361 = .ok (.iconst 5, 1) := by decide +kernel
