-- instructions, decoded
theorem d_Cl_act_1362 : decode method_6_code 1362 = .ok (.if_icmp .eq 17, 3) := by decide +kernel
theorem d_Cl_act_1365 : decode method_6_code 1365 = .ok (.aload_n 1, 1) := by decide +kernel
theorem d_Cl_act_1366 : decode method_6_code 1366 = .ok (.getfield 38, 3) := by decide +kernel
theorem d_Cl_act_1369 : decode method_6_code 1369 = .ok (.invokevirtual 63, 3) := by decide +kernel
theorem d_Cl_act_1372 : decode method_6_code 1372 = .ok (.aload_n 1, 1) := by decide +kernel
theorem d_Cl_act_1373 : decode method_6_code 1373 = .ok (.getfield 41, 3) := by decide +kernel
theorem d_Cl_act_1376 : decode method_6_code 1376 = .ok (.if_icmp .lt 8, 3) := by decide +kernel
theorem d_Cl_act_1379 : decode method_6_code 1379 = .ok (.bipush (-4), 2) := by decide +kernel
theorem d_Cl_act_1381 : decode method_6_code 1381 = .ok (.goto 7, 3) := by decide +kernel
theorem d_Cl_act_1384 : decode method_6_code 1384 = .ok (.aload_n 1, 1) := by decide +kernel
theorem d_Cl_act_1385 : decode method_6_code 1385 = .ok (.invokevirtual 193, 3) := by decide +kernel
theorem d_Cl_act_1388 : decode method_6_code 1388 = .ok (.istore 6, 2) := by decide +kernel
theorem d_Cl_act_1390 : decode method_6_code 1390 = .ok (.aload_n 0, 1) := by decide +kernel
theorem d_Cl_act_1391 : decode method_6_code 1391 = .ok (.invokevirtual 196, 3) := by decide +kernel
theorem d_Cl_act_1394 : decode method_6_code 1394 = .ok (.iload 6, 2) := by decide +kernel
theorem d_Cl_act_1396 : decode method_6_code 1396 = .ok (.if_icmp .ne 7, 3) := by decide +kernel
theorem d_Cl_act_1399 : decode method_6_code 1399 = .ok (.iconst 1, 1) := by decide +kernel
theorem d_Cl_act_1400 : decode method_6_code 1400 = .ok (.goto 4, 3) := by decide +kernel
theorem d_Cl_act_1403 : decode method_6_code 1403 = .ok (.iconst 0, 1) := by decide +kernel
theorem d_Cl_act_1404 : decode method_6_code 1404 = .ok (.ireturn, 1) := by decide +kernel
theorem d_Cl_items_0 : decode method_9_code 0 = .ok (.iconst 1, 1) := by decide +kernel
theorem d_Cl_items_1 : decode method_9_code 1 = .ok (.istore_n 3, 1) := by decide +kernel
theorem d_Cl_items_2 : decode method_9_code 2 = .ok (.aload_n 1, 1) := by decide +kernel
theorem d_Cl_items_3 : decode method_9_code 3 = .ok (.getfield 27, 3) := by decide +kernel
theorem d_Cl_items_6 : decode method_9_code 6 = .ok (.invokevirtual 63, 3) := by decide +kernel
theorem d_Cl_items_9 : decode method_9_code 9 = .ok (.istore 4, 2) := by decide +kernel
theorem d_Cl_items_11 : decode method_9_code 11 = .ok (.bipush 100, 2) := by decide +kernel
theorem d_Cl_items_13 : decode method_9_code 13 = .ok (.bipush 6, 2) := by decide +kernel
theorem d_Cl_items_15 : decode method_9_code 15 = .ok (.multianewarray 232 2, 4) := by decide +kernel
theorem d_Cl_items_19 : decode method_9_code 19 = .ok (.astore 5, 2) := by decide +kernel
theorem d_Cl_items_21 : decode method_9_code 21 = .ok (.new 234, 3) := by decide +kernel
theorem d_Cl_items_24 : decode method_9_code 24 = .ok (.dup, 1) := by decide +kernel
theorem d_Cl_items_25 : decode method_9_code 25 = .ok (.invokespecial 236, 3) := by decide +kernel
theorem d_Cl_items_28 : decode method_9_code 28 = .ok (.astore 6, 2) := by decide +kernel
theorem d_Cl_items_30 : decode method_9_code 30 = .ok (.iconst 0, 1) := by decide +kernel
theorem d_Cl_items_31 : decode method_9_code 31 = .ok (.istore 7, 2) := by decide +kernel
theorem d_Cl_items_33 : decode method_9_code 33 = .ok (.iload 7, 2) := by decide +kernel
theorem d_Cl_items_35 : decode method_9_code 35 = .ok (.iload 4, 2) := by decide +kernel
theorem d_Cl_items_37 : decode method_9_code 37 = .ok (.if_icmp .ge 301, 3) := by decide +kernel
theorem d_Cl_items_40 : decode method_9_code 40 = .ok (.aload_n 1, 1) := by decide +kernel
theorem d_Cl_items_41 : decode method_9_code 41 = .ok (.getfield 27, 3) := by decide +kernel
theorem d_Cl_items_44 : decode method_9_code 44 = .ok (.iload 7, 2) := by decide +kernel
theorem d_Cl_items_46 : decode method_9_code 46 = .ok (.invokevirtual 66, 3) := by decide +kernel
theorem d_Cl_items_49 : decode method_9_code 49 = .ok (.checkcast 70, 3) := by decide +kernel
theorem d_Cl_items_52 : decode method_9_code 52 = .ok (.astore 8, 2) := by decide +kernel
theorem d_Cl_items_54 : decode method_9_code 54 = .ok (.aload_n 1, 1) := by decide +kernel
theorem d_Cl_items_55 : decode method_9_code 55 = .ok (.aload 8, 2) := by decide +kernel
theorem d_Cl_items_57 : decode method_9_code 57 = .ok (.invokevirtual 174, 3) := by decide +kernel
theorem d_Cl_items_60 : decode method_9_code 60 = .ok (.istore 9, 2) := by decide +kernel
theorem d_Cl_items_62 : decode method_9_code 62 = .ok (.iload 9, 2) := by decide +kernel
theorem d_Cl_items_64 : decode method_9_code 64 = .ok (.ifCond .ne 15, 3) := by decide +kernel
theorem d_Cl_items_67 : decode method_9_code 67 = .ok (.aload 8, 2) := by decide +kernel
theorem d_Cl_items_69 : decode method_9_code 69 = .ok (.invokevirtual 237, 3) := by decide +kernel
theorem d_Cl_items_72 : decode method_9_code 72 = .ok (.ifCond .le 7, 3) := by decide +kernel
theorem d_Cl_items_75 : decode method_9_code 75 = .ok (.iconst 1, 1) := by decide +kernel
theorem d_Cl_items_76 : decode method_9_code 76 = .ok (.goto 4, 3) := by decide +kernel
theorem d_Cl_items_79 : decode method_9_code 79 = .ok (.iconst 0, 1) := by decide +kernel
theorem d_Cl_items_80 : decode method_9_code 80 = .ok (.istore 10, 2) := by decide +kernel
theorem d_Cl_items_82 : decode method_9_code 82 = .ok (.aload_n 2, 1) := by decide +kernel
theorem d_Cl_items_83 : decode method_9_code 83 = .ok (.iload 7, 2) := by decide +kernel
theorem d_Cl_items_85 : decode method_9_code 85 = .ok (.invokestatic 240, 3) := by decide +kernel
theorem d_Cl_items_88 : decode method_9_code 88 = .ok (.istore 11, 2) := by decide +kernel
theorem d_Cl_items_90 : decode method_9_code 90 = .ok (.bipush 9, 2) := by decide +kernel
theorem d_Cl_items_92 : decode method_9_code 92 = .ok (.newarray .int, 2) := by decide +kernel
theorem d_Cl_items_94 : decode method_9_code 94 = .ok (.dup, 1) := by decide +kernel
theorem d_Cl_items_95 : decode method_9_code 95 = .ok (.iconst 0, 1) := by decide +kernel
theorem d_Cl_items_96 : decode method_9_code 96 = .ok (.aload 8, 2) := by decide +kernel
theorem d_Cl_items_98 : decode method_9_code 98 = .ok (.getfield 84, 3) := by decide +kernel
theorem d_Cl_items_101 : decode method_9_code 101 = .ok (.iastore, 1) := by decide +kernel
theorem d_Cl_items_102 : decode method_9_code 102 = .ok (.dup, 1) := by decide +kernel
theorem d_Cl_items_103 : decode method_9_code 103 = .ok (.iconst 1, 1) := by decide +kernel
theorem d_Cl_items_104 : decode method_9_code 104 = .ok (.aload 8, 2) := by decide +kernel
theorem d_Cl_items_106 : decode method_9_code 106 = .ok (.getfield 93, 3) := by decide +kernel
theorem d_Cl_items_109 : decode method_9_code 109 = .ok (.iastore, 1) := by decide +kernel
theorem d_Cl_items_110 : decode method_9_code 110 = .ok (.dup, 1) := by decide +kernel
theorem d_Cl_items_111 : decode method_9_code 111 = .ok (.iconst 2, 1) := by decide +kernel
theorem d_Cl_items_112 : decode method_9_code 112 = .ok (.aload 8, 2) := by decide +kernel
theorem d_Cl_items_114 : decode method_9_code 114 = .ok (.getfield 72, 3) := by decide +kernel
theorem d_Cl_items_117 : decode method_9_code 117 = .ok (.iastore, 1) := by decide +kernel
theorem d_Cl_items_118 : decode method_9_code 118 = .ok (.dup, 1) := by decide +kernel
theorem d_Cl_items_119 : decode method_9_code 119 = .ok (.iconst 3, 1) := by decide +kernel
theorem d_Cl_items_120 : decode method_9_code 120 = .ok (.aload 8, 2) := by decide +kernel
theorem d_Cl_items_122 : decode method_9_code 122 = .ok (.getfield 75, 3) := by decide +kernel
theorem d_Cl_items_125 : decode method_9_code 125 = .ok (.iastore, 1) := by decide +kernel
theorem d_Cl_items_126 : decode method_9_code 126 = .ok (.dup, 1) := by decide +kernel
theorem d_Cl_items_127 : decode method_9_code 127 = .ok (.iconst 4, 1) := by decide +kernel
theorem d_Cl_items_128 : decode method_9_code 128 = .ok (.aload 8, 2) := by decide +kernel
theorem d_Cl_items_130 : decode method_9_code 130 = .ok (.invokevirtual 244, 3) := by decide +kernel
theorem d_Cl_items_133 : decode method_9_code 133 = .ok (.iastore, 1) := by decide +kernel
theorem d_Cl_items_134 : decode method_9_code 134 = .ok (.dup, 1) := by decide +kernel
theorem d_Cl_items_135 : decode method_9_code 135 = .ok (.iconst 5, 1) := by decide +kernel
theorem d_Cl_items_136 : decode method_9_code 136 = .ok (.aload 8, 2) := by decide +kernel
theorem d_Cl_items_138 : decode method_9_code 138 = .ok (.invokevirtual 247, 3) := by decide +kernel
theorem d_Cl_items_141 : decode method_9_code 141 = .ok (.iastore, 1) := by decide +kernel
theorem d_Cl_items_142 : decode method_9_code 142 = .ok (.dup, 1) := by decide +kernel
theorem d_Cl_items_143 : decode method_9_code 143 = .ok (.bipush 6, 2) := by decide +kernel
theorem d_Cl_items_145 : decode method_9_code 145 = .ok (.iload 9, 2) := by decide +kernel
theorem d_Cl_items_147 : decode method_9_code 147 = .ok (.ifCond .eq 7, 3) := by decide +kernel
theorem d_Cl_items_150 : decode method_9_code 150 = .ok (.iconst 1, 1) := by decide +kernel
theorem d_Cl_items_151 : decode method_9_code 151 = .ok (.goto 4, 3) := by decide +kernel
theorem d_Cl_items_154 : decode method_9_code 154 = .ok (.iconst 0, 1) := by decide +kernel
theorem d_Cl_items_155 : decode method_9_code 155 = .ok (.iastore, 1) := by decide +kernel
theorem d_Cl_items_156 : decode method_9_code 156 = .ok (.dup, 1) := by decide +kernel
theorem d_Cl_items_157 : decode method_9_code 157 = .ok (.bipush 7, 2) := by decide +kernel
theorem d_Cl_items_159 : decode method_9_code 159 = .ok (.iload 11, 2) := by decide +kernel
theorem d_Cl_items_161 : decode method_9_code 161 = .ok (.iastore, 1) := by decide +kernel
theorem d_Cl_items_162 : decode method_9_code 162 = .ok (.dup, 1) := by decide +kernel
theorem d_Cl_items_163 : decode method_9_code 163 = .ok (.bipush 8, 2) := by decide +kernel
theorem d_Cl_items_165 : decode method_9_code 165 = .ok (.iload 10, 2) := by decide +kernel
theorem d_Cl_items_167 : decode method_9_code 167 = .ok (.ifCond .eq 7, 3) := by decide +kernel
theorem d_Cl_items_170 : decode method_9_code 170 = .ok (.iload_n 3, 1) := by decide +kernel
theorem d_Cl_items_171 : decode method_9_code 171 = .ok (.goto 4, 3) := by decide +kernel
theorem d_Cl_items_174 : decode method_9_code 174 = .ok (.iconst 0, 1) := by decide +kernel
theorem d_Cl_items_175 : decode method_9_code 175 = .ok (.iastore, 1) := by decide +kernel
theorem d_Cl_items_176 : decode method_9_code 176 = .ok (.astore 12, 2) := by decide +kernel
theorem d_Cl_items_178 : decode method_9_code 178 = .ok (.iconst 0, 1) := by decide +kernel
theorem d_Cl_items_179 : decode method_9_code 179 = .ok (.istore 13, 2) := by decide +kernel
theorem d_Cl_items_181 : decode method_9_code 181 = .ok (.iload 13, 2) := by decide +kernel
theorem d_Cl_items_183 : decode method_9_code 183 = .ok (.bipush 9, 2) := by decide +kernel
theorem d_Cl_items_185 : decode method_9_code 185 = .ok (.if_icmp .ge 27, 3) := by decide +kernel
theorem d_Cl_items_188 : decode method_9_code 188 = .ok (.aload_n 0, 1) := by decide +kernel
theorem d_Cl_items_189 : decode method_9_code 189 = .ok (.iload 7, 2) := by decide +kernel
theorem d_Cl_items_191 : decode method_9_code 191 = .ok (.iload 13, 2) := by decide +kernel
theorem d_Cl_items_193 : decode method_9_code 193 = .ok (.invokevirtual 250, 3) := by decide +kernel
theorem d_Cl_items_196 : decode method_9_code 196 = .ok (.aload 12, 2) := by decide +kernel
theorem d_Cl_items_198 : decode method_9_code 198 = .ok (.iload 13, 2) := by decide +kernel
theorem d_Cl_items_200 : decode method_9_code 200 = .ok (.iaload, 1) := by decide +kernel
theorem d_Cl_items_201 : decode method_9_code 201 = .ok (.if_icmp .eq 5, 3) := by decide +kernel
theorem d_Cl_items_204 : decode method_9_code 204 = .ok (.iconst 0, 1) := by decide +kernel
theorem d_Cl_items_205 : decode method_9_code 205 = .ok (.ireturn, 1) := by decide +kernel
theorem d_Cl_items_206 : decode method_9_code 206 = .ok (.iinc 13 1, 3) := by decide +kernel
theorem d_Cl_items_209 : decode method_9_code 209 = .ok (.goto (-28), 3) := by decide +kernel
theorem d_Cl_items_212 : decode method_9_code 212 = .ok (.aload_n 0, 1) := by decide +kernel
theorem d_Cl_items_213 : decode method_9_code 213 = .ok (.aload 8, 2) := by decide +kernel
theorem d_Cl_items_215 : decode method_9_code 215 = .ok (.getfield 84, 3) := by decide +kernel
theorem d_Cl_items_218 : decode method_9_code 218 = .ok (.aload 8, 2) := by decide +kernel
theorem d_Cl_items_220 : decode method_9_code 220 = .ok (.getfield 93, 3) := by decide +kernel
theorem d_Cl_items_223 : decode method_9_code 223 = .ok (.invokevirtual 252, 3) := by decide +kernel
theorem d_Cl_items_226 : decode method_9_code 226 = .ok (.iload 7, 2) := by decide +kernel
theorem d_Cl_items_228 : decode method_9_code 228 = .ok (.if_icmp .eq 5, 3) := by decide +kernel
theorem d_Cl_items_231 : decode method_9_code 231 = .ok (.iconst 0, 1) := by decide +kernel
theorem d_Cl_items_232 : decode method_9_code 232 = .ok (.ireturn, 1) := by decide +kernel
theorem d_Cl_items_233 : decode method_9_code 233 = .ok (.iload_n 3, 1) := by decide +kernel
theorem d_Cl_items_234 : decode method_9_code 234 = .ok (.iload 10, 2) := by decide +kernel
theorem d_Cl_items_236 : decode method_9_code 236 = .ok (.ifCond .eq 11, 3) := by decide +kernel
theorem d_Cl_items_239 : decode method_9_code 239 = .ok (.aload 8, 2) := by decide +kernel
theorem d_Cl_items_241 : decode method_9_code 241 = .ok (.invokevirtual 237, 3) := by decide +kernel
theorem d_Cl_items_244 : decode method_9_code 244 = .ok (.goto 4, 3) := by decide +kernel
theorem d_Cl_items_247 : decode method_9_code 247 = .ok (.iconst 0, 1) := by decide +kernel
theorem d_Cl_items_248 : decode method_9_code 248 = .ok (.iadd, 1) := by decide +kernel
theorem d_Cl_items_249 : decode method_9_code 249 = .ok (.istore_n 3, 1) := by decide +kernel
theorem d_Cl_items_250 : decode method_9_code 250 = .ok (.aload 5, 2) := by decide +kernel
theorem d_Cl_items_252 : decode method_9_code 252 = .ok (.aload 8, 2) := by decide +kernel
theorem d_Cl_items_254 : decode method_9_code 254 = .ok (.getfield 84, 3) := by decide +kernel
theorem d_Cl_items_257 : decode method_9_code 257 = .ok (.aaload, 1) := by decide +kernel
theorem d_Cl_items_258 : decode method_9_code 258 = .ok (.astore 13, 2) := by decide +kernel
theorem d_Cl_items_260 : decode method_9_code 260 = .ok (.aload 13, 2) := by decide +kernel
theorem d_Cl_items_262 : decode method_9_code 262 = .ok (.iconst 0, 1) := by decide +kernel
theorem d_Cl_items_263 : decode method_9_code 263 = .ok (.dup2, 1) := by decide +kernel
theorem d_Cl_items_264 : decode method_9_code 264 = .ok (.iaload, 1) := by decide +kernel
theorem d_Cl_items_265 : decode method_9_code 265 = .ok (.iconst 1, 1) := by decide +kernel
theorem d_Cl_items_266 : decode method_9_code 266 = .ok (.iadd, 1) := by decide +kernel
theorem d_Cl_items_267 : decode method_9_code 267 = .ok (.iastore, 1) := by decide +kernel
theorem d_Cl_items_268 : decode method_9_code 268 = .ok (.aload 13, 2) := by decide +kernel
theorem d_Cl_items_270 : decode method_9_code 270 = .ok (.iconst 1, 1) := by decide +kernel
theorem d_Cl_items_271 : decode method_9_code 271 = .ok (.dup2, 1) := by decide +kernel
theorem d_Cl_items_272 : decode method_9_code 272 = .ok (.iaload, 1) := by decide +kernel
theorem d_Cl_items_273 : decode method_9_code 273 = .ok (.aload 8, 2) := by decide +kernel
theorem d_Cl_items_275 : decode method_9_code 275 = .ok (.getfield 72, 3) := by decide +kernel
theorem d_Cl_items_278 : decode method_9_code 278 = .ok (.iadd, 1) := by decide +kernel
theorem d_Cl_items_279 : decode method_9_code 279 = .ok (.iastore, 1) := by decide +kernel
theorem d_Cl_items_280 : decode method_9_code 280 = .ok (.aload 13, 2) := by decide +kernel
theorem d_Cl_items_282 : decode method_9_code 282 = .ok (.iconst 2, 1) := by decide +kernel
theorem d_Cl_items_283 : decode method_9_code 283 = .ok (.dup2, 1) := by decide +kernel
theorem d_Cl_items_284 : decode method_9_code 284 = .ok (.iaload, 1) := by decide +kernel
theorem d_Cl_items_285 : decode method_9_code 285 = .ok (.iload 11, 2) := by decide +kernel
theorem d_Cl_items_287 : decode method_9_code 287 = .ok (.iadd, 1) := by decide +kernel
theorem d_Cl_items_288 : decode method_9_code 288 = .ok (.iastore, 1) := by decide +kernel
theorem d_Cl_items_289 : decode method_9_code 289 = .ok (.aload 13, 2) := by decide +kernel
theorem d_Cl_items_291 : decode method_9_code 291 = .ok (.iconst 3, 1) := by decide +kernel
theorem d_Cl_items_292 : decode method_9_code 292 = .ok (.dup2, 1) := by decide +kernel
theorem d_Cl_items_293 : decode method_9_code 293 = .ok (.iaload, 1) := by decide +kernel
theorem d_Cl_items_294 : decode method_9_code 294 = .ok (.aload 8, 2) := by decide +kernel
theorem d_Cl_items_296 : decode method_9_code 296 = .ok (.invokevirtual 244, 3) := by decide +kernel
theorem d_Cl_items_299 : decode method_9_code 299 = .ok (.iadd, 1) := by decide +kernel
theorem d_Cl_items_300 : decode method_9_code 300 = .ok (.iastore, 1) := by decide +kernel
theorem d_Cl_items_301 : decode method_9_code 301 = .ok (.aload 13, 2) := by decide +kernel
theorem d_Cl_items_303 : decode method_9_code 303 = .ok (.iconst 4, 1) := by decide +kernel
theorem d_Cl_items_304 : decode method_9_code 304 = .ok (.dup2, 1) := by decide +kernel
theorem d_Cl_items_305 : decode method_9_code 305 = .ok (.iaload, 1) := by decide +kernel
theorem d_Cl_items_306 : decode method_9_code 306 = .ok (.iload 9, 2) := by decide +kernel
theorem d_Cl_items_308 : decode method_9_code 308 = .ok (.ifCond .eq 7, 3) := by decide +kernel
theorem d_Cl_items_311 : decode method_9_code 311 = .ok (.iconst 1, 1) := by decide +kernel
theorem d_Cl_items_312 : decode method_9_code 312 = .ok (.goto 4, 3) := by decide +kernel
theorem d_Cl_items_315 : decode method_9_code 315 = .ok (.iconst 0, 1) := by decide +kernel
theorem d_Cl_items_316 : decode method_9_code 316 = .ok (.iadd, 1) := by decide +kernel
theorem d_Cl_items_317 : decode method_9_code 317 = .ok (.iastore, 1) := by decide +kernel
theorem d_Cl_items_318 : decode method_9_code 318 = .ok (.aload 6, 2) := by decide +kernel
theorem d_Cl_items_320 : decode method_9_code 320 = .ok (.aload 8, 2) := by decide +kernel
theorem d_Cl_items_322 : decode method_9_code 322 = .ok (.getfield 84, 3) := by decide +kernel
theorem d_Cl_items_325 : decode method_9_code 325 = .ok (.invokestatic 253, 3) := by decide +kernel
theorem d_Cl_items_328 : decode method_9_code 328 = .ok (.invokevirtual 259, 3) := by decide +kernel
theorem d_Cl_items_331 : decode method_9_code 331 = .ok (.pop, 1) := by decide +kernel
theorem d_Cl_items_332 : decode method_9_code 332 = .ok (.iinc 7 1, 3) := by decide +kernel
theorem d_Cl_items_335 : decode method_9_code 335 = .ok (.goto (-302), 3) := by decide +kernel
theorem d_Cl_items_338 : decode method_9_code 338 = .ok (.aload_n 2, 1) := by decide +kernel
theorem d_Cl_items_339 : decode method_9_code 339 = .ok (.invokevirtual 161, 3) := by decide +kernel
theorem d_Cl_items_342 : decode method_9_code 342 = .ok (.astore 7, 2) := by decide +kernel
theorem d_Cl_items_344 : decode method_9_code 344 = .ok (.aload 7, 2) := by decide +kernel
theorem d_Cl_items_346 : decode method_9_code 346 = .ok (.invokeinterface 165 1, 5) := by decide +kernel
theorem d_Cl_items_351 : decode method_9_code 351 = .ok (.ifCond .eq 57, 3) := by decide +kernel
theorem d_Cl_items_354 : decode method_9_code 354 = .ok (.aload 7, 2) := by decide +kernel
theorem d_Cl_items_356 : decode method_9_code 356 = .ok (.invokeinterface 170 1, 5) := by decide +kernel
theorem d_Cl_items_361 : decode method_9_code 361 = .ok (.checkcast 228, 3) := by decide +kernel
theorem d_Cl_items_364 : decode method_9_code 364 = .ok (.astore 8, 2) := by decide +kernel
theorem d_Cl_items_366 : decode method_9_code 366 = .ok (.aload 5, 2) := by decide +kernel
theorem d_Cl_items_368 : decode method_9_code 368 = .ok (.aload_n 1, 1) := by decide +kernel
theorem d_Cl_items_369 : decode method_9_code 369 = .ok (.getfield 27, 3) := by decide +kernel
theorem d_Cl_items_372 : decode method_9_code 372 = .ok (.aload 8, 2) := by decide +kernel
theorem d_Cl_items_374 : decode method_9_code 374 = .ok (.getfield 230, 3) := by decide +kernel
theorem d_Cl_items_377 : decode method_9_code 377 = .ok (.invokevirtual 66, 3) := by decide +kernel
theorem d_Cl_items_380 : decode method_9_code 380 = .ok (.checkcast 70, 3) := by decide +kernel
theorem d_Cl_items_383 : decode method_9_code 383 = .ok (.getfield 84, 3) := by decide +kernel
theorem d_Cl_items_386 : decode method_9_code 386 = .ok (.aaload, 1) := by decide +kernel
theorem d_Cl_items_387 : decode method_9_code 387 = .ok (.iconst 5, 1) := by decide +kernel
theorem d_Cl_items_388 : decode method_9_code 388 = .ok (.dup2, 1) := by decide +kernel
theorem d_Cl_items_389 : decode method_9_code 389 = .ok (.iaload, 1) := by decide +kernel
theorem d_Cl_items_390 : decode method_9_code 390 = .ok (.aload_n 1, 1) := by decide +kernel
theorem d_Cl_items_391 : decode method_9_code 391 = .ok (.aload 8, 2) := by decide +kernel
theorem d_Cl_items_393 : decode method_9_code 393 = .ok (.aload_n 1, 1) := by decide +kernel
theorem d_Cl_items_394 : decode method_9_code 394 = .ok (.getfield 38, 3) := by decide +kernel
theorem d_Cl_items_397 : decode method_9_code 397 = .ok (.invokevirtual 63, 3) := by decide +kernel
theorem d_Cl_items_400 : decode method_9_code 400 = .ok (.invokevirtual 260, 3) := by decide +kernel
theorem d_Cl_items_403 : decode method_9_code 403 = .ok (.iadd, 1) := by decide +kernel
theorem d_Cl_items_404 : decode method_9_code 404 = .ok (.iastore, 1) := by decide +kernel
theorem d_Cl_items_405 : decode method_9_code 405 = .ok (.goto (-61), 3) := by decide +kernel
theorem d_Cl_items_408 : decode method_9_code 408 = .ok (.iconst 0, 1) := by decide +kernel
theorem d_Cl_items_409 : decode method_9_code 409 = .ok (.istore 7, 2) := by decide +kernel
theorem d_Cl_items_411 : decode method_9_code 411 = .ok (.iload 7, 2) := by decide +kernel
theorem d_Cl_items_413 : decode method_9_code 413 = .ok (.bipush 7, 2) := by decide +kernel
theorem d_Cl_items_415 : decode method_9_code 415 = .ok (.if_icmp .ge 46, 3) := by decide +kernel
theorem d_Cl_items_418 : decode method_9_code 418 = .ok (.iconst 0, 1) := by decide +kernel
theorem d_Cl_items_419 : decode method_9_code 419 = .ok (.istore 8, 2) := by decide +kernel
theorem d_Cl_items_421 : decode method_9_code 421 = .ok (.iload 8, 2) := by decide +kernel
theorem d_Cl_items_423 : decode method_9_code 423 = .ok (.bipush 6, 2) := by decide +kernel
theorem d_Cl_items_425 : decode method_9_code 425 = .ok (.if_icmp .ge 30, 3) := by decide +kernel
theorem d_Cl_items_428 : decode method_9_code 428 = .ok (.aload_n 0, 1) := by decide +kernel
theorem d_Cl_items_429 : decode method_9_code 429 = .ok (.iload 7, 2) := by decide +kernel
theorem d_Cl_items_431 : decode method_9_code 431 = .ok (.iload 8, 2) := by decide +kernel
theorem d_Cl_items_433 : decode method_9_code 433 = .ok (.invokevirtual 264, 3) := by decide +kernel
theorem d_Cl_items_436 : decode method_9_code 436 = .ok (.aload 5, 2) := by decide +kernel
theorem d_Cl_items_438 : decode method_9_code 438 = .ok (.iload 7, 2) := by decide +kernel
theorem d_Cl_items_440 : decode method_9_code 440 = .ok (.aaload, 1) := by decide +kernel
theorem d_Cl_items_441 : decode method_9_code 441 = .ok (.iload 8, 2) := by decide +kernel
theorem d_Cl_items_443 : decode method_9_code 443 = .ok (.iaload, 1) := by decide +kernel
theorem d_Cl_items_444 : decode method_9_code 444 = .ok (.if_icmp .eq 5, 3) := by decide +kernel
theorem d_Cl_items_447 : decode method_9_code 447 = .ok (.iconst 0, 1) := by decide +kernel
theorem d_Cl_items_448 : decode method_9_code 448 = .ok (.ireturn, 1) := by decide +kernel
theorem d_Cl_items_449 : decode method_9_code 449 = .ok (.iinc 8 1, 3) := by decide +kernel
theorem d_Cl_items_452 : decode method_9_code 452 = .ok (.goto (-31), 3) := by decide +kernel
theorem d_Cl_items_455 : decode method_9_code 455 = .ok (.iinc 7 1, 3) := by decide +kernel
theorem d_Cl_items_458 : decode method_9_code 458 = .ok (.goto (-47), 3) := by decide +kernel
theorem d_Cl_items_461 : decode method_9_code 461 = .ok (.iconst 0, 1) := by decide +kernel
theorem d_Cl_items_462 : decode method_9_code 462 = .ok (.istore 7, 2) := by decide +kernel
theorem d_Cl_items_464 : decode method_9_code 464 = .ok (.aload 6, 2) := by decide +kernel
theorem d_Cl_items_466 : decode method_9_code 466 = .ok (.invokevirtual 266, 3) := by decide +kernel
theorem d_Cl_items_469 : decode method_9_code 469 = .ok (.astore 8, 2) := by decide +kernel
theorem d_Cl_items_471 : decode method_9_code 471 = .ok (.aload 8, 2) := by decide +kernel
theorem d_Cl_items_473 : decode method_9_code 473 = .ok (.invokeinterface 165 1, 5) := by decide +kernel
theorem d_Cl_items_478 : decode method_9_code 478 = .ok (.ifCond .eq 37, 3) := by decide +kernel
theorem d_Cl_items_481 : decode method_9_code 481 = .ok (.aload 8, 2) := by decide +kernel
theorem d_Cl_items_483 : decode method_9_code 483 = .ok (.invokeinterface 170 1, 5) := by decide +kernel
theorem d_Cl_items_488 : decode method_9_code 488 = .ok (.checkcast 254, 3) := by decide +kernel
theorem d_Cl_items_491 : decode method_9_code 491 = .ok (.invokevirtual 267, 3) := by decide +kernel
theorem d_Cl_items_494 : decode method_9_code 494 = .ok (.istore 9, 2) := by decide +kernel
theorem d_Cl_items_496 : decode method_9_code 496 = .ok (.aload_n 0, 1) := by decide +kernel
theorem d_Cl_items_497 : decode method_9_code 497 = .ok (.iload 7, 2) := by decide +kernel
theorem d_Cl_items_499 : decode method_9_code 499 = .ok (.iinc 7 1, 3) := by decide +kernel
theorem d_Cl_items_502 : decode method_9_code 502 = .ok (.invokevirtual 270, 3) := by decide +kernel
theorem d_Cl_items_505 : decode method_9_code 505 = .ok (.iload 9, 2) := by decide +kernel
theorem d_Cl_items_507 : decode method_9_code 507 = .ok (.if_icmp .eq 5, 3) := by decide +kernel
theorem d_Cl_items_510 : decode method_9_code 510 = .ok (.iconst 0, 1) := by decide +kernel
theorem d_Cl_items_511 : decode method_9_code 511 = .ok (.ireturn, 1) := by decide +kernel
theorem d_Cl_items_512 : decode method_9_code 512 = .ok (.goto (-41), 3) := by decide +kernel
theorem d_Cl_items_515 : decode method_9_code 515 = .ok (.aload_n 0, 1) := by decide +kernel
theorem d_Cl_items_516 : decode method_9_code 516 = .ok (.iload 7, 2) := by decide +kernel
theorem d_Cl_items_518 : decode method_9_code 518 = .ok (.invokevirtual 270, 3) := by decide +kernel
theorem d_Cl_items_521 : decode method_9_code 521 = .ok (.iconst (-1), 1) := by decide +kernel
theorem d_Cl_items_522 : decode method_9_code 522 = .ok (.if_icmp .ne 88, 3) := by decide +kernel
theorem d_Cl_items_525 : decode method_9_code 525 = .ok (.aload_n 0, 1) := by decide +kernel
theorem d_Cl_items_526 : decode method_9_code 526 = .ok (.iconst (-1), 1) := by decide +kernel
theorem d_Cl_items_527 : decode method_9_code 527 = .ok (.invokevirtual 270, 3) := by decide +kernel
theorem d_Cl_items_530 : decode method_9_code 530 = .ok (.iload 7, 2) := by decide +kernel
theorem d_Cl_items_532 : decode method_9_code 532 = .ok (.if_icmp .ne 78, 3) := by decide +kernel
theorem d_Cl_items_535 : decode method_9_code 535 = .ok (.aload_n 0, 1) := by decide +kernel
theorem d_Cl_items_536 : decode method_9_code 536 = .ok (.bipush (-2), 2) := by decide +kernel
theorem d_Cl_items_538 : decode method_9_code 538 = .ok (.invokevirtual 270, 3) := by decide +kernel
theorem d_Cl_items_541 : decode method_9_code 541 = .ok (.bipush (-3), 2) := by decide +kernel
theorem d_Cl_items_543 : decode method_9_code 543 = .ok (.if_icmp .ne 67, 3) := by decide +kernel
theorem d_Cl_items_546 : decode method_9_code 546 = .ok (.aload_n 0, 1) := by decide +kernel
theorem d_Cl_items_547 : decode method_9_code 547 = .ok (.bipush 100, 2) := by decide +kernel
theorem d_Cl_items_549 : decode method_9_code 549 = .ok (.iconst 0, 1) := by decide +kernel
theorem d_Cl_items_550 : decode method_9_code 550 = .ok (.invokevirtual 264, 3) := by decide +kernel
theorem d_Cl_items_553 : decode method_9_code 553 = .ok (.ldc 151, 2) := by decide +kernel
theorem d_Cl_items_555 : decode method_9_code 555 = .ok (.if_icmp .ne 55, 3) := by decide +kernel
theorem d_Cl_items_558 : decode method_9_code 558 = .ok (.aload_n 0, 1) := by decide +kernel
theorem d_Cl_items_559 : decode method_9_code 559 = .ok (.iconst 0, 1) := by decide +kernel
theorem d_Cl_items_560 : decode method_9_code 560 = .ok (.bipush 6, 2) := by decide +kernel
theorem d_Cl_items_562 : decode method_9_code 562 = .ok (.invokevirtual 264, 3) := by decide +kernel
theorem d_Cl_items_565 : decode method_9_code 565 = .ok (.ldc 151, 2) := by decide +kernel
theorem d_Cl_items_567 : decode method_9_code 567 = .ok (.if_icmp .ne 43, 3) := by decide +kernel
theorem d_Cl_items_570 : decode method_9_code 570 = .ok (.aload_n 0, 1) := by decide +kernel
theorem d_Cl_items_571 : decode method_9_code 571 = .ok (.iload 4, 2) := by decide +kernel
theorem d_Cl_items_573 : decode method_9_code 573 = .ok (.iconst 0, 1) := by decide +kernel
theorem d_Cl_items_574 : decode method_9_code 574 = .ok (.invokevirtual 250, 3) := by decide +kernel
theorem d_Cl_items_577 : decode method_9_code 577 = .ok (.ldc 151, 2) := by decide +kernel
theorem d_Cl_items_579 : decode method_9_code 579 = .ok (.if_icmp .ne 31, 3) := by decide +kernel
theorem d_Cl_items_582 : decode method_9_code 582 = .ok (.aload_n 0, 1) := by decide +kernel
theorem d_Cl_items_583 : decode method_9_code 583 = .ok (.iconst (-1), 1) := by decide +kernel
theorem d_Cl_items_584 : decode method_9_code 584 = .ok (.iconst 0, 1) := by decide +kernel
theorem d_Cl_items_585 : decode method_9_code 585 = .ok (.invokevirtual 250, 3) := by decide +kernel
theorem d_Cl_items_588 : decode method_9_code 588 = .ok (.ldc 151, 2) := by decide +kernel
theorem d_Cl_items_590 : decode method_9_code 590 = .ok (.if_icmp .ne 20, 3) := by decide +kernel
theorem d_Cl_items_593 : decode method_9_code 593 = .ok (.aload_n 0, 1) := by decide +kernel
theorem d_Cl_items_594 : decode method_9_code 594 = .ok (.bipush 99, 2) := by decide +kernel
theorem d_Cl_items_596 : decode method_9_code 596 = .ok (.sipush 9999, 3) := by decide +kernel
theorem d_Cl_items_599 : decode method_9_code 599 = .ok (.invokevirtual 252, 3) := by decide +kernel
theorem d_Cl_items_602 : decode method_9_code 602 = .ok (.iconst (-1), 1) := by decide +kernel
theorem d_Cl_items_603 : decode method_9_code 603 = .ok (.if_icmp .ne 7, 3) := by decide +kernel
theorem d_Cl_items_606 : decode method_9_code 606 = .ok (.iconst 1, 1) := by decide +kernel
theorem d_Cl_items_607 : decode method_9_code 607 = .ok (.goto 4, 3) := by decide +kernel
theorem d_Cl_items_610 : decode method_9_code 610 = .ok (.iconst 0, 1) := by decide +kernel
theorem d_Cl_items_611 : decode method_9_code 611 = .ok (.ireturn, 1) := by decide +kernel
theorem d_Cl_walk_0 : decode method_10_code 0 = .ok (.aload_n 1, 1) := by decide +kernel
theorem d_Cl_walk_1 : decode method_10_code 1 = .ok (.invokevirtual 273, 3) := by decide +kernel
theorem d_Cl_walk_4 : decode method_10_code 4 = .ok (.astore 4, 2) := by decide +kernel
theorem d_Cl_walk_6 : decode method_10_code 6 = .ok (.iconst 0, 1) := by decide +kernel
theorem d_Cl_walk_7 : decode method_10_code 7 = .ok (.istore 5, 2) := by decide +kernel
theorem d_Cl_walk_9 : decode method_10_code 9 = .ok (.iload 5, 2) := by decide +kernel
theorem d_Cl_walk_11 : decode method_10_code 11 = .ok (.bipush 25, 2) := by decide +kernel
theorem d_Cl_walk_13 : decode method_10_code 13 = .ok (.if_icmp .ge 221, 3) := by decide +kernel
theorem d_Cl_walk_16 : decode method_10_code 16 = .ok (.iload 5, 2) := by decide +kernel
theorem d_Cl_walk_18 : decode method_10_code 18 = .ok (.iconst 3, 1) := by decide +kernel
theorem d_Cl_walk_19 : decode method_10_code 19 = .ok (.if_icmp .ge 14, 3) := by decide +kernel
theorem d_Cl_walk_22 : decode method_10_code 22 = .ok (.aload 4, 2) := by decide +kernel
theorem d_Cl_walk_24 : decode method_10_code 24 = .ok (.arraylength, 1) := by decide +kernel
theorem d_Cl_walk_25 : decode method_10_code 25 = .ok (.iload 5, 2) := by decide +kernel
theorem d_Cl_walk_27 : decode method_10_code 27 = .ok (.iadd, 1) := by decide +kernel
theorem d_Cl_walk_28 : decode method_10_code 28 = .ok (.iconst 1, 1) := by decide +kernel
theorem d_Cl_walk_29 : decode method_10_code 29 = .ok (.isub, 1) := by decide +kernel
theorem d_Cl_walk_30 : decode method_10_code 30 = .ok (.goto 14, 3) := by decide +kernel
theorem d_Cl_walk_33 : decode method_10_code 33 = .ok (.iconst 1, 1) := by decide +kernel
theorem d_Cl_walk_34 : decode method_10_code 34 = .ok (.aload_n 3, 1) := by decide +kernel
theorem d_Cl_walk_35 : decode method_10_code 35 = .ok (.aload 4, 2) := by decide +kernel
theorem d_Cl_walk_37 : decode method_10_code 37 = .ok (.arraylength, 1) := by decide +kernel
theorem d_Cl_walk_38 : decode method_10_code 38 = .ok (.iconst 1, 1) := by decide +kernel
theorem d_Cl_walk_39 : decode method_10_code 39 = .ok (.iadd, 1) := by decide +kernel
theorem d_Cl_walk_40 : decode method_10_code 40 = .ok (.invokestatic 52, 3) := by decide +kernel
theorem d_Cl_walk_43 : decode method_10_code 43 = .ok (.iadd, 1) := by decide +kernel
theorem d_Cl_walk_44 : decode method_10_code 44 = .ok (.istore 6, 2) := by decide +kernel
theorem d_Cl_walk_46 : decode method_10_code 46 = .ok (.iload 6, 2) := by decide +kernel
theorem d_Cl_walk_48 : decode method_10_code 48 = .ok (.iconst 1, 1) := by decide +kernel
theorem d_Cl_walk_49 : decode method_10_code 49 = .ok (.if_icmp .lt 11, 3) := by decide +kernel
theorem d_Cl_walk_52 : decode method_10_code 52 = .ok (.iload 6, 2) := by decide +kernel
theorem d_Cl_walk_54 : decode method_10_code 54 = .ok (.aload 4, 2) := by decide +kernel
theorem d_Cl_walk_56 : decode method_10_code 56 = .ok (.arraylength, 1) := by decide +kernel
theorem d_Cl_walk_57 : decode method_10_code 57 = .ok (.if_icmp .le 17, 3) := by decide +kernel
theorem d_Cl_walk_60 : decode method_10_code 60 = .ok (.aload_n 0, 1) := by decide +kernel
theorem d_Cl_walk_61 : decode method_10_code 61 = .ok (.iload 6, 2) := by decide +kernel
theorem d_Cl_walk_63 : decode method_10_code 63 = .ok (.iconst 0, 1) := by decide +kernel
theorem d_Cl_walk_64 : decode method_10_code 64 = .ok (.invokevirtual 277, 3) := by decide +kernel
theorem d_Cl_walk_67 : decode method_10_code 67 = .ok (.bipush (-2), 2) := by decide +kernel
theorem d_Cl_walk_69 : decode method_10_code 69 = .ok (.if_icmp .eq 159, 3) := by decide +kernel
theorem d_Cl_walk_72 : decode method_10_code 72 = .ok (.iconst 0, 1) := by decide +kernel
theorem d_Cl_walk_73 : decode method_10_code 73 = .ok (.ireturn, 1) := by decide +kernel
theorem d_Cl_walk_74 : decode method_10_code 74 = .ok (.iconst 0, 1) := by decide +kernel
theorem d_Cl_walk_75 : decode method_10_code 75 = .ok (.istore 7, 2) := by decide +kernel
theorem d_Cl_walk_77 : decode method_10_code 77 = .ok (.aload_n 1, 1) := by decide +kernel
theorem d_Cl_walk_78 : decode method_10_code 78 = .ok (.getfield 38, 3) := by decide +kernel
theorem d_Cl_walk_81 : decode method_10_code 81 = .ok (.invokevirtual 161, 3) := by decide +kernel
theorem d_Cl_walk_84 : decode method_10_code 84 = .ok (.astore 8, 2) := by decide +kernel
theorem d_Cl_walk_86 : decode method_10_code 86 = .ok (.aload 8, 2) := by decide +kernel
theorem d_Cl_walk_88 : decode method_10_code 88 = .ok (.invokeinterface 165 1, 5) := by decide +kernel
theorem d_Cl_walk_93 : decode method_10_code 93 = .ok (.ifCond .eq 51, 3) := by decide +kernel
theorem d_Cl_walk_96 : decode method_10_code 96 = .ok (.aload 8, 2) := by decide +kernel
theorem d_Cl_walk_98 : decode method_10_code 98 = .ok (.invokeinterface 170 1, 5) := by decide +kernel
theorem d_Cl_walk_103 : decode method_10_code 103 = .ok (.checkcast 254, 3) := by decide +kernel
theorem d_Cl_walk_106 : decode method_10_code 106 = .ok (.invokevirtual 267, 3) := by decide +kernel
theorem d_Cl_walk_109 : decode method_10_code 109 = .ok (.istore 9, 2) := by decide +kernel
theorem d_Cl_walk_111 : decode method_10_code 111 = .ok (.iload 7, 2) := by decide +kernel
theorem d_Cl_walk_113 : decode method_10_code 113 = .ok (.iload 6, 2) := by decide +kernel
theorem d_Cl_walk_115 : decode method_10_code 115 = .ok (.iload 9, 2) := by decide +kernel
theorem d_Cl_walk_117 : decode method_10_code 117 = .ok (.if_icmp .lt 20, 3) := by decide +kernel
theorem d_Cl_walk_120 : decode method_10_code 120 = .ok (.iload 6, 2) := by decide +kernel
theorem d_Cl_walk_122 : decode method_10_code 122 = .ok (.iload 9, 2) := by decide +kernel
theorem d_Cl_walk_124 : decode method_10_code 124 = .ok (.isub, 1) := by decide +kernel
theorem d_Cl_walk_125 : decode method_10_code 125 = .ok (.aload_n 1, 1) := by decide +kernel
theorem d_Cl_walk_126 : decode method_10_code 126 = .ok (.getfield 41, 3) := by decide +kernel
theorem d_Cl_walk_129 : decode method_10_code 129 = .ok (.irem, 1) := by decide +kernel
theorem d_Cl_walk_130 : decode method_10_code 130 = .ok (.ifCond .ne 7, 3) := by decide +kernel
theorem d_Cl_walk_133 : decode method_10_code 133 = .ok (.iconst 1, 1) := by decide +kernel
theorem d_Cl_walk_134 : decode method_10_code 134 = .ok (.goto 4, 3) := by decide +kernel
theorem d_Cl_walk_137 : decode method_10_code 137 = .ok (.iconst 0, 1) := by decide +kernel
theorem d_Cl_walk_138 : decode method_10_code 138 = .ok (.iadd, 1) := by decide +kernel
theorem d_Cl_walk_139 : decode method_10_code 139 = .ok (.istore 7, 2) := by decide +kernel
theorem d_Cl_walk_141 : decode method_10_code 141 = .ok (.goto (-55), 3) := by decide +kernel
theorem d_Cl_walk_144 : decode method_10_code 144 = .ok (.aload_n 1, 1) := by decide +kernel
theorem d_Cl_walk_145 : decode method_10_code 145 = .ok (.getfield 41, 3) := by decide +kernel
theorem d_Cl_walk_148 : decode method_10_code 148 = .ok (.ifCond .ne 18, 3) := by decide +kernel
theorem d_Cl_walk_151 : decode method_10_code 151 = .ok (.aload_n 0, 1) := by decide +kernel
theorem d_Cl_walk_152 : decode method_10_code 152 = .ok (.iload 6, 2) := by decide +kernel
theorem d_Cl_walk_154 : decode method_10_code 154 = .ok (.iconst 0, 1) := by decide +kernel
theorem d_Cl_walk_155 : decode method_10_code 155 = .ok (.invokevirtual 277, 3) := by decide +kernel
theorem d_Cl_walk_158 : decode method_10_code 158 = .ok (.bipush (-5), 2) := by decide +kernel
theorem d_Cl_walk_160 : decode method_10_code 160 = .ok (.if_icmp .eq 68, 3) := by decide +kernel
theorem d_Cl_walk_163 : decode method_10_code 163 = .ok (.goto 63, 3) := by decide +kernel
theorem d_Cl_walk_166 : decode method_10_code 166 = .ok (.aload_n 0, 1) := by decide +kernel
theorem d_Cl_walk_167 : decode method_10_code 167 = .ok (.iload 6, 2) := by decide +kernel
theorem d_Cl_walk_169 : decode method_10_code 169 = .ok (.iconst 0, 1) := by decide +kernel
theorem d_Cl_walk_170 : decode method_10_code 170 = .ok (.invokevirtual 277, 3) := by decide +kernel
theorem d_Cl_walk_173 : decode method_10_code 173 = .ok (.aload 4, 2) := by decide +kernel
theorem d_Cl_walk_175 : decode method_10_code 175 = .ok (.iload 6, 2) := by decide +kernel
theorem d_Cl_walk_177 : decode method_10_code 177 = .ok (.iconst 1, 1) := by decide +kernel
theorem d_Cl_walk_178 : decode method_10_code 178 = .ok (.isub, 1) := by decide +kernel
theorem d_Cl_walk_179 : decode method_10_code 179 = .ok (.iaload, 1) := by decide +kernel
theorem d_Cl_walk_180 : decode method_10_code 180 = .ok (.if_icmp .ne 46, 3) := by decide +kernel
theorem d_Cl_walk_183 : decode method_10_code 183 = .ok (.aload_n 0, 1) := by decide +kernel
theorem d_Cl_walk_184 : decode method_10_code 184 = .ok (.iload 6, 2) := by decide +kernel
theorem d_Cl_walk_186 : decode method_10_code 186 = .ok (.iconst 1, 1) := by decide +kernel
theorem d_Cl_walk_187 : decode method_10_code 187 = .ok (.invokevirtual 277, 3) := by decide +kernel
theorem d_Cl_walk_190 : decode method_10_code 190 = .ok (.iload 6, 2) := by decide +kernel
theorem d_Cl_walk_192 : decode method_10_code 192 = .ok (.iconst 1, 1) := by decide +kernel
theorem d_Cl_walk_193 : decode method_10_code 193 = .ok (.isub, 1) := by decide +kernel
theorem d_Cl_walk_194 : decode method_10_code 194 = .ok (.aload_n 1, 1) := by decide +kernel
theorem d_Cl_walk_195 : decode method_10_code 195 = .ok (.getfield 41, 3) := by decide +kernel
theorem d_Cl_walk_198 : decode method_10_code 198 = .ok (.idiv, 1) := by decide +kernel
theorem d_Cl_walk_199 : decode method_10_code 199 = .ok (.if_icmp .ne 27, 3) := by decide +kernel
theorem d_Cl_walk_202 : decode method_10_code 202 = .ok (.aload_n 0, 1) := by decide +kernel
theorem d_Cl_walk_203 : decode method_10_code 203 = .ok (.iload 6, 2) := by decide +kernel
theorem d_Cl_walk_205 : decode method_10_code 205 = .ok (.iconst 2, 1) := by decide +kernel
theorem d_Cl_walk_206 : decode method_10_code 206 = .ok (.invokevirtual 277, 3) := by decide +kernel
theorem d_Cl_walk_209 : decode method_10_code 209 = .ok (.iload 7, 2) := by decide +kernel
theorem d_Cl_walk_211 : decode method_10_code 211 = .ok (.if_icmp .ne 15, 3) := by decide +kernel
theorem d_Cl_walk_214 : decode method_10_code 214 = .ok (.aload_n 0, 1) := by decide +kernel
theorem d_Cl_walk_215 : decode method_10_code 215 = .ok (.iload 6, 2) := by decide +kernel
theorem d_Cl_walk_217 : decode method_10_code 217 = .ok (.iconst 3, 1) := by decide +kernel
theorem d_Cl_walk_218 : decode method_10_code 218 = .ok (.invokevirtual 277, 3) := by decide +kernel
theorem d_Cl_walk_221 : decode method_10_code 221 = .ok (.bipush (-2), 2) := by decide +kernel
theorem d_Cl_walk_223 : decode method_10_code 223 = .ok (.if_icmp .eq 5, 3) := by decide +kernel
theorem d_Cl_walk_226 : decode method_10_code 226 = .ok (.iconst 0, 1) := by decide +kernel
theorem d_Cl_walk_227 : decode method_10_code 227 = .ok (.ireturn, 1) := by decide +kernel
theorem d_Cl_walk_228 : decode method_10_code 228 = .ok (.iinc 5 1, 3) := by decide +kernel
theorem d_Cl_walk_231 : decode method_10_code 231 = .ok (.goto (-222), 3) := by decide +kernel
theorem d_Cl_walk_234 : decode method_10_code 234 = .ok (.iconst 0, 1) := by decide +kernel
theorem d_Cl_walk_235 : decode method_10_code 235 = .ok (.istore 5, 2) := by decide +kernel
theorem d_Cl_walk_237 : decode method_10_code 237 = .ok (.iload 5, 2) := by decide +kernel
theorem d_Cl_walk_239 : decode method_10_code 239 = .ok (.aload_n 2, 1) := by decide +kernel
theorem d_Cl_walk_240 : decode method_10_code 240 = .ok (.invokevirtual 63, 3) := by decide +kernel
theorem d_Cl_walk_243 : decode method_10_code 243 = .ok (.if_icmp .ge 99, 3) := by decide +kernel
theorem d_Cl_walk_246 : decode method_10_code 246 = .ok (.aload_n 2, 1) := by decide +kernel
theorem d_Cl_walk_247 : decode method_10_code 247 = .ok (.iload 5, 2) := by decide +kernel
theorem d_Cl_walk_249 : decode method_10_code 249 = .ok (.invokevirtual 66, 3) := by decide +kernel
theorem d_Cl_walk_252 : decode method_10_code 252 = .ok (.checkcast 228, 3) := by decide +kernel
theorem d_Cl_walk_255 : decode method_10_code 255 = .ok (.astore 6, 2) := by decide +kernel
theorem d_Cl_walk_257 : decode method_10_code 257 = .ok (.aload_n 0, 1) := by decide +kernel
theorem d_Cl_walk_258 : decode method_10_code 258 = .ok (.iload 5, 2) := by decide +kernel
theorem d_Cl_walk_260 : decode method_10_code 260 = .ok (.iconst 0, 1) := by decide +kernel
theorem d_Cl_walk_261 : decode method_10_code 261 = .ok (.invokevirtual 280, 3) := by decide +kernel
theorem d_Cl_walk_264 : decode method_10_code 264 = .ok (.aload 6, 2) := by decide +kernel
theorem d_Cl_walk_266 : decode method_10_code 266 = .ok (.getfield 230, 3) := by decide +kernel
theorem d_Cl_walk_269 : decode method_10_code 269 = .ok (.if_icmp .ne 65, 3) := by decide +kernel
theorem d_Cl_walk_272 : decode method_10_code 272 = .ok (.aload_n 0, 1) := by decide +kernel
theorem d_Cl_walk_273 : decode method_10_code 273 = .ok (.iload 5, 2) := by decide +kernel
theorem d_Cl_walk_275 : decode method_10_code 275 = .ok (.iconst 1, 1) := by decide +kernel
theorem d_Cl_walk_276 : decode method_10_code 276 = .ok (.invokevirtual 280, 3) := by decide +kernel
theorem d_Cl_walk_279 : decode method_10_code 279 = .ok (.aload 6, 2) := by decide +kernel
theorem d_Cl_walk_281 : decode method_10_code 281 = .ok (.getfield 283, 3) := by decide +kernel
theorem d_Cl_walk_284 : decode method_10_code 284 = .ok (.if_icmp .ne 50, 3) := by decide +kernel
theorem d_Cl_walk_287 : decode method_10_code 287 = .ok (.aload_n 0, 1) := by decide +kernel
theorem d_Cl_walk_288 : decode method_10_code 288 = .ok (.iload 5, 2) := by decide +kernel
theorem d_Cl_walk_290 : decode method_10_code 290 = .ok (.iconst 2, 1) := by decide +kernel
theorem d_Cl_walk_291 : decode method_10_code 291 = .ok (.invokevirtual 280, 3) := by decide +kernel
theorem d_Cl_walk_294 : decode method_10_code 294 = .ok (.aload 6, 2) := by decide +kernel
theorem d_Cl_walk_296 : decode method_10_code 296 = .ok (.getfield 285, 3) := by decide +kernel
theorem d_Cl_walk_299 : decode method_10_code 299 = .ok (.if_icmp .ne 35, 3) := by decide +kernel
theorem d_Cl_walk_302 : decode method_10_code 302 = .ok (.aload_n 0, 1) := by decide +kernel
theorem d_Cl_walk_303 : decode method_10_code 303 = .ok (.iload 5, 2) := by decide +kernel
theorem d_Cl_walk_305 : decode method_10_code 305 = .ok (.iconst 3, 1) := by decide +kernel
theorem d_Cl_walk_306 : decode method_10_code 306 = .ok (.invokevirtual 280, 3) := by decide +kernel
theorem d_Cl_walk_309 : decode method_10_code 309 = .ok (.aload_n 1, 1) := by decide +kernel
theorem d_Cl_walk_310 : decode method_10_code 310 = .ok (.getfield 27, 3) := by decide +kernel
theorem d_Cl_walk_313 : decode method_10_code 313 = .ok (.aload 6, 2) := by decide +kernel
theorem d_Cl_walk_315 : decode method_10_code 315 = .ok (.getfield 230, 3) := by decide +kernel
theorem d_Cl_walk_318 : decode method_10_code 318 = .ok (.invokevirtual 66, 3) := by decide +kernel
theorem d_Cl_walk_321 : decode method_10_code 321 = .ok (.checkcast 70, 3) := by decide +kernel
theorem d_Cl_walk_324 : decode method_10_code 324 = .ok (.invokevirtual 247, 3) := by decide +kernel
theorem d_Cl_walk_327 : decode method_10_code 327 = .ok (.sipush 10000, 3) := by decide +kernel
theorem d_Cl_walk_330 : decode method_10_code 330 = .ok (.iadd, 1) := by decide +kernel
theorem d_Cl_walk_331 : decode method_10_code 331 = .ok (.if_icmp .eq 5, 3) := by decide +kernel
theorem d_Cl_walk_334 : decode method_10_code 334 = .ok (.iconst 0, 1) := by decide +kernel
theorem d_Cl_walk_335 : decode method_10_code 335 = .ok (.ireturn, 1) := by decide +kernel
theorem d_Cl_walk_336 : decode method_10_code 336 = .ok (.iinc 5 1, 3) := by decide +kernel
theorem d_Cl_walk_339 : decode method_10_code 339 = .ok (.goto (-102), 3) := by decide +kernel
theorem d_Cl_walk_342 : decode method_10_code 342 = .ok (.iconst 0, 1) := by decide +kernel
theorem d_Cl_walk_343 : decode method_10_code 343 = .ok (.istore 5, 2) := by decide +kernel
theorem d_Cl_walk_345 : decode method_10_code 345 = .ok (.iload 5, 2) := by decide +kernel
theorem d_Cl_walk_347 : decode method_10_code 347 = .ok (.bipush 6, 2) := by decide +kernel
theorem d_Cl_walk_349 : decode method_10_code 349 = .ok (.if_icmp .ge 52, 3) := by decide +kernel
theorem d_Cl_walk_352 : decode method_10_code 352 = .ok (.aload_n 0, 1) := by decide +kernel
theorem d_Cl_walk_353 : decode method_10_code 353 = .ok (.iload 5, 2) := by decide +kernel
theorem d_Cl_walk_355 : decode method_10_code 355 = .ok (.invokevirtual 288, 3) := by decide +kernel
theorem d_Cl_walk_358 : decode method_10_code 358 = .ok (.iload 5, 2) := by decide +kernel
theorem d_Cl_walk_360 : decode method_10_code 360 = .ok (.aload_n 1, 1) := by decide +kernel
theorem d_Cl_walk_361 : decode method_10_code 361 = .ok (.getfield 38, 3) := by decide +kernel
theorem d_Cl_walk_364 : decode method_10_code 364 = .ok (.invokevirtual 63, 3) := by decide +kernel
theorem d_Cl_walk_367 : decode method_10_code 367 = .ok (.if_icmp .ge 21, 3) := by decide +kernel
theorem d_Cl_walk_370 : decode method_10_code 370 = .ok (.aload_n 1, 1) := by decide +kernel
theorem d_Cl_walk_371 : decode method_10_code 371 = .ok (.getfield 38, 3) := by decide +kernel
theorem d_Cl_walk_374 : decode method_10_code 374 = .ok (.iload 5, 2) := by decide +kernel
theorem d_Cl_walk_376 : decode method_10_code 376 = .ok (.invokevirtual 66, 3) := by decide +kernel
theorem d_Cl_walk_379 : decode method_10_code 379 = .ok (.checkcast 254, 3) := by decide +kernel
theorem d_Cl_walk_382 : decode method_10_code 382 = .ok (.invokevirtual 267, 3) := by decide +kernel
theorem d_Cl_walk_385 : decode method_10_code 385 = .ok (.goto 5, 3) := by decide +kernel
theorem d_Cl_walk_388 : decode method_10_code 388 = .ok (.bipush (-2), 2) := by decide +kernel
theorem d_Cl_walk_390 : decode method_10_code 390 = .ok (.if_icmp .eq 5, 3) := by decide +kernel
theorem d_Cl_walk_393 : decode method_10_code 393 = .ok (.iconst 0, 1) := by decide +kernel
theorem d_Cl_walk_394 : decode method_10_code 394 = .ok (.ireturn, 1) := by decide +kernel
theorem d_Cl_walk_395 : decode method_10_code 395 = .ok (.iinc 5 1, 3) := by decide +kernel
theorem d_Cl_walk_398 : decode method_10_code 398 = .ok (.goto (-53), 3) := by decide +kernel
theorem d_Cl_walk_401 : decode method_10_code 401 = .ok (.aload_n 0, 1) := by decide +kernel
theorem d_Cl_walk_402 : decode method_10_code 402 = .ok (.aload_n 2, 1) := by decide +kernel
theorem d_Cl_walk_403 : decode method_10_code 403 = .ok (.invokevirtual 63, 3) := by decide +kernel
theorem d_Cl_walk_406 : decode method_10_code 406 = .ok (.iconst 0, 1) := by decide +kernel
theorem d_Cl_walk_407 : decode method_10_code 407 = .ok (.invokevirtual 280, 3) := by decide +kernel
theorem d_Cl_walk_410 : decode method_10_code 410 = .ok (.bipush (-2), 2) := by decide +kernel
theorem d_Cl_walk_412 : decode method_10_code 412 = .ok (.if_icmp .ne 46, 3) := by decide +kernel
theorem d_Cl_walk_415 : decode method_10_code 415 = .ok (.aload_n 0, 1) := by decide +kernel
theorem d_Cl_walk_416 : decode method_10_code 416 = .ok (.iconst (-1), 1) := by decide +kernel
theorem d_Cl_walk_417 : decode method_10_code 417 = .ok (.iconst 0, 1) := by decide +kernel
theorem d_Cl_walk_418 : decode method_10_code 418 = .ok (.invokevirtual 280, 3) := by decide +kernel
theorem d_Cl_walk_421 : decode method_10_code 421 = .ok (.bipush (-2), 2) := by decide +kernel
theorem d_Cl_walk_423 : decode method_10_code 423 = .ok (.if_icmp .ne 35, 3) := by decide +kernel
theorem d_Cl_walk_426 : decode method_10_code 426 = .ok (.aload_n 2, 1) := by decide +kernel
theorem d_Cl_walk_427 : decode method_10_code 427 = .ok (.invokevirtual 59, 3) := by decide +kernel
theorem d_Cl_walk_430 : decode method_10_code 430 = .ok (.ifCond .ne 14, 3) := by decide +kernel
theorem d_Cl_walk_433 : decode method_10_code 433 = .ok (.aload_n 0, 1) := by decide +kernel
theorem d_Cl_walk_434 : decode method_10_code 434 = .ok (.iconst 0, 1) := by decide +kernel
theorem d_Cl_walk_435 : decode method_10_code 435 = .ok (.iconst 4, 1) := by decide +kernel
theorem d_Cl_walk_436 : decode method_10_code 436 = .ok (.invokevirtual 280, 3) := by decide +kernel
theorem d_Cl_walk_439 : decode method_10_code 439 = .ok (.bipush (-2), 2) := by decide +kernel
theorem d_Cl_walk_441 : decode method_10_code 441 = .ok (.if_icmp .ne 17, 3) := by decide +kernel
theorem d_Cl_walk_444 : decode method_10_code 444 = .ok (.aload_n 0, 1) := by decide +kernel
theorem d_Cl_walk_445 : decode method_10_code 445 = .ok (.iconst (-1), 1) := by decide +kernel
theorem d_Cl_walk_446 : decode method_10_code 446 = .ok (.invokevirtual 288, 3) := by decide +kernel
theorem d_Cl_walk_449 : decode method_10_code 449 = .ok (.bipush (-2), 2) := by decide +kernel
theorem d_Cl_walk_451 : decode method_10_code 451 = .ok (.if_icmp .ne 7, 3) := by decide +kernel
theorem d_Cl_walk_454 : decode method_10_code 454 = .ok (.iconst 1, 1) := by decide +kernel
theorem d_Cl_walk_455 : decode method_10_code 455 = .ok (.goto 4, 3) := by decide +kernel
theorem d_Cl_walk_458 : decode method_10_code 458 = .ok (.iconst 0, 1) := by decide +kernel
theorem d_Cl_walk_459 : decode method_10_code 459 = .ok (.ireturn, 1) := by decide +kernel
theorem d_Cl_lists_0 : decode method_11_code 0 = .ok (.aload_n 1, 1) := by decide +kernel
theorem d_Cl_lists_1 : decode method_11_code 1 = .ok (.aload_n 2, 1) := by decide +kernel
theorem d_Cl_lists_2 : decode method_11_code 2 = .ok (.invokevirtual 291, 3) := by decide +kernel
theorem d_Cl_lists_5 : decode method_11_code 5 = .ok (.astore_n 3, 1) := by decide +kernel
theorem d_Cl_lists_6 : decode method_11_code 6 = .ok (.iconst 0, 1) := by decide +kernel
theorem d_Cl_lists_7 : decode method_11_code 7 = .ok (.istore 4, 2) := by decide +kernel
theorem d_Cl_lists_9 : decode method_11_code 9 = .ok (.iconst 0, 1) := by decide +kernel
theorem d_Cl_lists_10 : decode method_11_code 10 = .ok (.istore 5, 2) := by decide +kernel
theorem d_Cl_lists_12 : decode method_11_code 12 = .ok (.iconst 0, 1) := by decide +kernel
theorem d_Cl_lists_13 : decode method_11_code 13 = .ok (.istore 6, 2) := by decide +kernel
theorem d_Cl_lists_15 : decode method_11_code 15 = .ok (.lconst 0, 1) := by decide +kernel
theorem d_Cl_lists_16 : decode method_11_code 16 = .ok (.lstore 7, 2) := by decide +kernel
theorem d_Cl_lists_18 : decode method_11_code 18 = .ok (.iconst 0, 1) := by decide +kernel
theorem d_Cl_lists_19 : decode method_11_code 19 = .ok (.istore 9, 2) := by decide +kernel
theorem d_Cl_lists_21 : decode method_11_code 21 = .ok (.iload 9, 2) := by decide +kernel
theorem d_Cl_lists_23 : decode method_11_code 23 = .ok (.aload_n 3, 1) := by decide +kernel
theorem d_Cl_lists_24 : decode method_11_code 24 = .ok (.arraylength, 1) := by decide +kernel
theorem d_Cl_lists_25 : decode method_11_code 25 = .ok (.if_icmp .ge 298, 3) := by decide +kernel
theorem d_Cl_lists_28 : decode method_11_code 28 = .ok (.aload_n 1, 1) := by decide +kernel
theorem d_Cl_lists_29 : decode method_11_code 29 = .ok (.getfield 27, 3) := by decide +kernel
theorem d_Cl_lists_32 : decode method_11_code 32 = .ok (.iload 9, 2) := by decide +kernel
theorem d_Cl_lists_34 : decode method_11_code 34 = .ok (.invokevirtual 66, 3) := by decide +kernel
theorem d_Cl_lists_37 : decode method_11_code 37 = .ok (.checkcast 70, 3) := by decide +kernel
theorem d_Cl_lists_40 : decode method_11_code 40 = .ok (.astore 10, 2) := by decide +kernel
theorem d_Cl_lists_42 : decode method_11_code 42 = .ok (.aload_n 1, 1) := by decide +kernel
theorem d_Cl_lists_43 : decode method_11_code 43 = .ok (.aload 10, 2) := by decide +kernel
theorem d_Cl_lists_45 : decode method_11_code 45 = .ok (.invokevirtual 174, 3) := by decide +kernel
theorem d_Cl_lists_48 : decode method_11_code 48 = .ok (.ifCond .eq 17, 3) := by decide +kernel
theorem d_Cl_lists_51 : decode method_11_code 51 = .ok (.aload_n 0, 1) := by decide +kernel
theorem d_Cl_lists_52 : decode method_11_code 52 = .ok (.iload 4, 2) := by decide +kernel
theorem d_Cl_lists_54 : decode method_11_code 54 = .ok (.iinc 4 1, 3) := by decide +kernel
theorem d_Cl_lists_57 : decode method_11_code 57 = .ok (.invokevirtual 294, 3) := by decide +kernel
theorem d_Cl_lists_60 : decode method_11_code 60 = .ok (.iload 9, 2) := by decide +kernel
theorem d_Cl_lists_62 : decode method_11_code 62 = .ok (.if_icmp .ne 32, 3) := by decide +kernel
theorem d_Cl_lists_65 : decode method_11_code 65 = .ok (.aload_n 3, 1) := by decide +kernel
theorem d_Cl_lists_66 : decode method_11_code 66 = .ok (.iload 9, 2) := by decide +kernel
theorem d_Cl_lists_68 : decode method_11_code 68 = .ok (.baload, 1) := by decide +kernel
theorem d_Cl_lists_69 : decode method_11_code 69 = .ok (.ifCond .eq 27, 3) := by decide +kernel
theorem d_Cl_lists_72 : decode method_11_code 72 = .ok (.aload 10, 2) := by decide +kernel
theorem d_Cl_lists_74 : decode method_11_code 74 = .ok (.getfield 75, 3) := by decide +kernel
theorem d_Cl_lists_77 : decode method_11_code 77 = .ok (.ifCond .ge 19, 3) := by decide +kernel
theorem d_Cl_lists_80 : decode method_11_code 80 = .ok (.aload_n 0, 1) := by decide +kernel
theorem d_Cl_lists_81 : decode method_11_code 81 = .ok (.iload 5, 2) := by decide +kernel
theorem d_Cl_lists_83 : decode method_11_code 83 = .ok (.iinc 5 1, 3) := by decide +kernel
theorem d_Cl_lists_86 : decode method_11_code 86 = .ok (.invokevirtual 296, 3) := by decide +kernel
theorem d_Cl_lists_89 : decode method_11_code 89 = .ok (.iload 9, 2) := by decide +kernel
theorem d_Cl_lists_91 : decode method_11_code 91 = .ok (.if_icmp .eq 5, 3) := by decide +kernel
theorem d_Cl_lists_94 : decode method_11_code 94 = .ok (.iconst 0, 1) := by decide +kernel
theorem d_Cl_lists_95 : decode method_11_code 95 = .ok (.ireturn, 1) := by decide +kernel
theorem d_Cl_lists_96 : decode method_11_code 96 = .ok (.aload_n 3, 1) := by decide +kernel
theorem d_Cl_lists_97 : decode method_11_code 97 = .ok (.iload 9, 2) := by decide +kernel
theorem d_Cl_lists_99 : decode method_11_code 99 = .ok (.baload, 1) := by decide +kernel
theorem d_Cl_lists_100 : decode method_11_code 100 = .ok (.ifCond .ne 6, 3) := by decide +kernel
theorem d_Cl_lists_103 : decode method_11_code 103 = .ok (.goto 214, 3) := by decide +kernel
theorem d_Cl_lists_106 : decode method_11_code 106 = .ok (.lload 7, 2) := by decide +kernel
theorem d_Cl_lists_108 : decode method_11_code 108 = .ok (.aload 10, 2) := by decide +kernel
theorem d_Cl_lists_110 : decode method_11_code 110 = .ok (.invokevirtual 237, 3) := by decide +kernel
theorem d_Cl_lists_113 : decode method_11_code 113 = .ok (.i2l, 1) := by decide +kernel
theorem d_Cl_lists_114 : decode method_11_code 114 = .ok (.ladd, 1) := by decide +kernel
theorem d_Cl_lists_115 : decode method_11_code 115 = .ok (.lstore 7, 2) := by decide +kernel
theorem d_Cl_lists_117 : decode method_11_code 117 = .ok (.new 24, 3) := by decide +kernel
theorem d_Cl_lists_120 : decode method_11_code 120 = .ok (.dup, 1) := by decide +kernel
theorem d_Cl_lists_121 : decode method_11_code 121 = .ok (.invokespecial 26, 3) := by decide +kernel
theorem d_Cl_lists_124 : decode method_11_code 124 = .ok (.aload 10, 2) := by decide +kernel
theorem d_Cl_lists_126 : decode method_11_code 126 = .ok (.getfield 84, 3) := by decide +kernel
theorem d_Cl_lists_129 : decode method_11_code 129 = .ok (.invokevirtual 87, 3) := by decide +kernel
theorem d_Cl_lists_132 : decode method_11_code 132 = .ok (.ldc_w 299, 3) := by decide +kernel
theorem d_Cl_lists_135 : decode method_11_code 135 = .ok (.invokevirtual 80, 3) := by decide +kernel
theorem d_Cl_lists_138 : decode method_11_code 138 = .ok (.aload 10, 2) := by decide +kernel
theorem d_Cl_lists_140 : decode method_11_code 140 = .ok (.getfield 93, 3) := by decide +kernel
theorem d_Cl_lists_143 : decode method_11_code 143 = .ok (.invokevirtual 87, 3) := by decide +kernel
theorem d_Cl_lists_146 : decode method_11_code 146 = .ok (.ldc 107, 2) := by decide +kernel
theorem d_Cl_lists_148 : decode method_11_code 148 = .ok (.invokevirtual 80, 3) := by decide +kernel
theorem d_Cl_lists_151 : decode method_11_code 151 = .ok (.aload 10, 2) := by decide +kernel
theorem d_Cl_lists_153 : decode method_11_code 153 = .ok (.getfield 72, 3) := by decide +kernel
theorem d_Cl_lists_156 : decode method_11_code 156 = .ok (.invokevirtual 87, 3) := by decide +kernel
theorem d_Cl_lists_159 : decode method_11_code 159 = .ok (.aload_n 1, 1) := by decide +kernel
theorem d_Cl_lists_160 : decode method_11_code 160 = .ok (.aload 10, 2) := by decide +kernel
theorem d_Cl_lists_162 : decode method_11_code 162 = .ok (.invokevirtual 174, 3) := by decide +kernel
theorem d_Cl_lists_165 : decode method_11_code 165 = .ok (.ifCond .eq 9, 3) := by decide +kernel
theorem d_Cl_lists_168 : decode method_11_code 168 = .ok (.ldc_w 301, 3) := by decide +kernel
theorem d_Cl_lists_171 : decode method_11_code 171 = .ok (.goto 28, 3) := by decide +kernel
theorem d_Cl_lists_174 : decode method_11_code 174 = .ok (.new 24, 3) := by decide +kernel
theorem d_Cl_lists_177 : decode method_11_code 177 = .ok (.dup, 1) := by decide +kernel
theorem d_Cl_lists_178 : decode method_11_code 178 = .ok (.invokespecial 26, 3) := by decide +kernel
theorem d_Cl_lists_181 : decode method_11_code 181 = .ok (.ldc_w 303, 3) := by decide +kernel
theorem d_Cl_lists_184 : decode method_11_code 184 = .ok (.invokevirtual 80, 3) := by decide +kernel
theorem d_Cl_lists_187 : decode method_11_code 187 = .ok (.aload_n 2, 1) := by decide +kernel
theorem d_Cl_lists_188 : decode method_11_code 188 = .ok (.iload 9, 2) := by decide +kernel
theorem d_Cl_lists_190 : decode method_11_code 190 = .ok (.invokestatic 240, 3) := by decide +kernel
theorem d_Cl_lists_193 : decode method_11_code 193 = .ok (.invokevirtual 87, 3) := by decide +kernel
theorem d_Cl_lists_196 : decode method_11_code 196 = .ok (.invokevirtual 123, 3) := by decide +kernel
theorem d_Cl_lists_199 : decode method_11_code 199 = .ok (.invokevirtual 80, 3) := by decide +kernel
theorem d_Cl_lists_202 : decode method_11_code 202 = .ok (.aload 10, 2) := by decide +kernel
theorem d_Cl_lists_204 : decode method_11_code 204 = .ok (.getfield 75, 3) := by decide +kernel
theorem d_Cl_lists_207 : decode method_11_code 207 = .ok (.ifCond .ge 9, 3) := by decide +kernel
theorem d_Cl_lists_210 : decode method_11_code 210 = .ok (.ldc_w 305, 3) := by decide +kernel
theorem d_Cl_lists_213 : decode method_11_code 213 = .ok (.goto 27, 3) := by decide +kernel
theorem d_Cl_lists_216 : decode method_11_code 216 = .ok (.new 24, 3) := by decide +kernel
theorem d_Cl_lists_219 : decode method_11_code 219 = .ok (.dup, 1) := by decide +kernel
theorem d_Cl_lists_220 : decode method_11_code 220 = .ok (.invokespecial 26, 3) := by decide +kernel
theorem d_Cl_lists_223 : decode method_11_code 223 = .ok (.ldc_w 307, 3) := by decide +kernel
theorem d_Cl_lists_226 : decode method_11_code 226 = .ok (.invokevirtual 80, 3) := by decide +kernel
theorem d_Cl_lists_229 : decode method_11_code 229 = .ok (.aload 10, 2) := by decide +kernel
theorem d_Cl_lists_231 : decode method_11_code 231 = .ok (.getfield 75, 3) := by decide +kernel
theorem d_Cl_lists_234 : decode method_11_code 234 = .ok (.invokevirtual 87, 3) := by decide +kernel
theorem d_Cl_lists_237 : decode method_11_code 237 = .ok (.invokevirtual 123, 3) := by decide +kernel
theorem d_Cl_lists_240 : decode method_11_code 240 = .ok (.invokevirtual 80, 3) := by decide +kernel
theorem d_Cl_lists_243 : decode method_11_code 243 = .ok (.invokevirtual 123, 3) := by decide +kernel
theorem d_Cl_lists_246 : decode method_11_code 246 = .ok (.astore 11, 2) := by decide +kernel
theorem d_Cl_lists_248 : decode method_11_code 248 = .ok (.aload_n 0, 1) := by decide +kernel
theorem d_Cl_lists_249 : decode method_11_code 249 = .ok (.iload 6, 2) := by decide +kernel
theorem d_Cl_lists_251 : decode method_11_code 251 = .ok (.invokevirtual 309, 3) := by decide +kernel
theorem d_Cl_lists_254 : decode method_11_code 254 = .ok (.iload 9, 2) := by decide +kernel
theorem d_Cl_lists_256 : decode method_11_code 256 = .ok (.if_icmp .eq 5, 3) := by decide +kernel
theorem d_Cl_lists_259 : decode method_11_code 259 = .ok (.iconst 0, 1) := by decide +kernel
theorem d_Cl_lists_260 : decode method_11_code 260 = .ok (.ireturn, 1) := by decide +kernel
theorem d_Cl_lists_261 : decode method_11_code 261 = .ok (.iconst 0, 1) := by decide +kernel
theorem d_Cl_lists_262 : decode method_11_code 262 = .ok (.istore 12, 2) := by decide +kernel
theorem d_Cl_lists_264 : decode method_11_code 264 = .ok (.iload 12, 2) := by decide +kernel
theorem d_Cl_lists_266 : decode method_11_code 266 = .ok (.aload 11, 2) := by decide +kernel
theorem d_Cl_lists_268 : decode method_11_code 268 = .ok (.invokevirtual 8, 3) := by decide +kernel
theorem d_Cl_lists_271 : decode method_11_code 271 = .ok (.if_icmp .gt 43, 3) := by decide +kernel
theorem d_Cl_lists_274 : decode method_11_code 274 = .ok (.aload_n 0, 1) := by decide +kernel
theorem d_Cl_lists_275 : decode method_11_code 275 = .ok (.iload 6, 2) := by decide +kernel
theorem d_Cl_lists_277 : decode method_11_code 277 = .ok (.iload 12, 2) := by decide +kernel
theorem d_Cl_lists_279 : decode method_11_code 279 = .ok (.invokevirtual 311, 3) := by decide +kernel
theorem d_Cl_lists_282 : decode method_11_code 282 = .ok (.iload 12, 2) := by decide +kernel
theorem d_Cl_lists_284 : decode method_11_code 284 = .ok (.aload 11, 2) := by decide +kernel
theorem d_Cl_lists_286 : decode method_11_code 286 = .ok (.invokevirtual 8, 3) := by decide +kernel
theorem d_Cl_lists_289 : decode method_11_code 289 = .ok (.if_icmp .ge 13, 3) := by decide +kernel
theorem d_Cl_lists_292 : decode method_11_code 292 = .ok (.aload 11, 2) := by decide +kernel
theorem d_Cl_lists_294 : decode method_11_code 294 = .ok (.iload 12, 2) := by decide +kernel
theorem d_Cl_lists_296 : decode method_11_code 296 = .ok (.invokevirtual 14, 3) := by decide +kernel
theorem d_Cl_lists_299 : decode method_11_code 299 = .ok (.goto 4, 3) := by decide +kernel
theorem d_Cl_lists_302 : decode method_11_code 302 = .ok (.iconst (-1), 1) := by decide +kernel
theorem d_Cl_lists_303 : decode method_11_code 303 = .ok (.if_icmp .eq 5, 3) := by decide +kernel
theorem d_Cl_lists_306 : decode method_11_code 306 = .ok (.iconst 0, 1) := by decide +kernel
theorem d_Cl_lists_307 : decode method_11_code 307 = .ok (.ireturn, 1) := by decide +kernel
theorem d_Cl_lists_308 : decode method_11_code 308 = .ok (.iinc 12 1, 3) := by decide +kernel
