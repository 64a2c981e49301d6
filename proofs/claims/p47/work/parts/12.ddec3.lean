-- instructions, decoded
theorem d_Cl_drawn_255 : decode method_5_code 255 = .ok (.aload_n 1, 1) := by decide +kernel
theorem d_Cl_drawn_256 : decode method_5_code 256 = .ok (.iconst 5, 1) := by decide +kernel
theorem d_Cl_drawn_257 : decode method_5_code 257 = .ok (.invokestatic 52, 3) := by decide +kernel
theorem d_Cl_drawn_260 : decode method_5_code 260 = .ok (.putfield 84, 3) := by decide +kernel
theorem d_Cl_drawn_263 : decode method_5_code 263 = .ok (.aload 5, 2) := by decide +kernel
theorem d_Cl_drawn_265 : decode method_5_code 265 = .ok (.aload_n 1, 1) := by decide +kernel
theorem d_Cl_drawn_266 : decode method_5_code 266 = .ok (.sipush 300, 3) := by decide +kernel
theorem d_Cl_drawn_269 : decode method_5_code 269 = .ok (.invokestatic 52, 3) := by decide +kernel
theorem d_Cl_drawn_272 : decode method_5_code 272 = .ok (.putfield 93, 3) := by decide +kernel
theorem d_Cl_drawn_275 : decode method_5_code 275 = .ok (.aload 5, 2) := by decide +kernel
theorem d_Cl_drawn_277 : decode method_5_code 277 = .ok (.aload_n 1, 1) := by decide +kernel
theorem d_Cl_drawn_278 : decode method_5_code 278 = .ok (.bipush 8, 2) := by decide +kernel
theorem d_Cl_drawn_280 : decode method_5_code 280 = .ok (.invokestatic 52, 3) := by decide +kernel
theorem d_Cl_drawn_283 : decode method_5_code 283 = .ok (.ifCond .ne 13, 3) := by decide +kernel
theorem d_Cl_drawn_286 : decode method_5_code 286 = .ok (.aload_n 1, 1) := by decide +kernel
theorem d_Cl_drawn_287 : decode method_5_code 287 = .ok (.bipush 50, 2) := by decide +kernel
theorem d_Cl_drawn_289 : decode method_5_code 289 = .ok (.invokestatic 52, 3) := by decide +kernel
theorem d_Cl_drawn_292 : decode method_5_code 292 = .ok (.ineg, 1) := by decide +kernel
theorem d_Cl_drawn_293 : decode method_5_code 293 = .ok (.goto 15, 3) := by decide +kernel
theorem d_Cl_drawn_296 : decode method_5_code 296 = .ok (.aload_n 1, 1) := by decide +kernel
theorem d_Cl_drawn_297 : decode method_5_code 297 = .ok (.iconst 1, 1) := by decide +kernel
theorem d_Cl_drawn_298 : decode method_5_code 298 = .ok (.aload_n 1, 1) := by decide +kernel
theorem d_Cl_drawn_299 : decode method_5_code 299 = .ok (.iload 4, 2) := by decide +kernel
theorem d_Cl_drawn_301 : decode method_5_code 301 = .ok (.invokestatic 52, 3) := by decide +kernel
theorem d_Cl_drawn_304 : decode method_5_code 304 = .ok (.iadd, 1) := by decide +kernel
theorem d_Cl_drawn_305 : decode method_5_code 305 = .ok (.invokestatic 52, 3) := by decide +kernel
theorem d_Cl_drawn_308 : decode method_5_code 308 = .ok (.putfield 72, 3) := by decide +kernel
theorem d_Cl_drawn_311 : decode method_5_code 311 = .ok (.aload_n 0, 1) := by decide +kernel
theorem d_Cl_drawn_312 : decode method_5_code 312 = .ok (.aload 5, 2) := by decide +kernel
theorem d_Cl_drawn_314 : decode method_5_code 314 = .ok (.getfield 84, 3) := by decide +kernel
theorem d_Cl_drawn_317 : decode method_5_code 317 = .ok (.aload 5, 2) := by decide +kernel
theorem d_Cl_drawn_319 : decode method_5_code 319 = .ok (.getfield 93, 3) := by decide +kernel
theorem d_Cl_drawn_322 : decode method_5_code 322 = .ok (.invokevirtual 99, 3) := by decide +kernel
theorem d_Cl_drawn_325 : decode method_5_code 325 = .ok (.ifCond .ge (-243), 3) := by decide +kernel
theorem d_Cl_drawn_328 : decode method_5_code 328 = .ok (.aload_n 0, 1) := by decide +kernel
theorem d_Cl_drawn_329 : decode method_5_code 329 = .ok (.getfield 27, 3) := by decide +kernel
theorem d_Cl_drawn_332 : decode method_5_code 332 = .ok (.invokevirtual 63, 3) := by decide +kernel
theorem d_Cl_drawn_335 : decode method_5_code 335 = .ok (.bipush 48, 2) := by decide +kernel
theorem d_Cl_drawn_337 : decode method_5_code 337 = .ok (.if_icmp .ne 6, 3) := by decide +kernel
theorem d_Cl_drawn_340 : decode method_5_code 340 = .ok (.goto (-258), 3) := by decide +kernel
theorem d_Cl_drawn_343 : decode method_5_code 343 = .ok (.aload_n 2, 1) := by decide +kernel
theorem d_Cl_drawn_344 : decode method_5_code 344 = .ok (.ldc 103, 2) := by decide +kernel
theorem d_Cl_drawn_346 : decode method_5_code 346 = .ok (.invokevirtual 80, 3) := by decide +kernel
theorem d_Cl_drawn_349 : decode method_5_code 349 = .ok (.aload 5, 2) := by decide +kernel
theorem d_Cl_drawn_351 : decode method_5_code 351 = .ok (.getfield 84, 3) := by decide +kernel
theorem d_Cl_drawn_354 : decode method_5_code 354 = .ok (.invokevirtual 87, 3) := by decide +kernel
theorem d_Cl_drawn_357 : decode method_5_code 357 = .ok (.bipush 32, 2) := by decide +kernel
theorem d_Cl_drawn_359 : decode method_5_code 359 = .ok (.invokevirtual 90, 3) := by decide +kernel
theorem d_Cl_drawn_362 : decode method_5_code 362 = .ok (.aload 5, 2) := by decide +kernel
theorem d_Cl_drawn_364 : decode method_5_code 364 = .ok (.getfield 93, 3) := by decide +kernel
theorem d_Cl_drawn_367 : decode method_5_code 367 = .ok (.invokevirtual 87, 3) := by decide +kernel
theorem d_Cl_drawn_370 : decode method_5_code 370 = .ok (.aload 5, 2) := by decide +kernel
theorem d_Cl_drawn_372 : decode method_5_code 372 = .ok (.getfield 72, 3) := by decide +kernel
theorem d_Cl_drawn_375 : decode method_5_code 375 = .ok (.ifCond .ge 8, 3) := by decide +kernel
theorem d_Cl_drawn_378 : decode method_5_code 378 = .ok (.ldc 105, 2) := by decide +kernel
theorem d_Cl_drawn_380 : decode method_5_code 380 = .ok (.goto 5, 3) := by decide +kernel
theorem d_Cl_drawn_383 : decode method_5_code 383 = .ok (.ldc 107, 2) := by decide +kernel
theorem d_Cl_drawn_385 : decode method_5_code 385 = .ok (.invokevirtual 80, 3) := by decide +kernel
theorem d_Cl_drawn_388 : decode method_5_code 388 = .ok (.aload 5, 2) := by decide +kernel
theorem d_Cl_drawn_390 : decode method_5_code 390 = .ok (.getfield 72, 3) := by decide +kernel
theorem d_Cl_drawn_393 : decode method_5_code 393 = .ok (.invokestatic 109, 3) := by decide +kernel
theorem d_Cl_drawn_396 : decode method_5_code 396 = .ok (.invokevirtual 87, 3) := by decide +kernel
theorem d_Cl_drawn_399 : decode method_5_code 399 = .ok (.aload_n 1, 1) := by decide +kernel
theorem d_Cl_drawn_400 : decode method_5_code 400 = .ok (.iconst 3, 1) := by decide +kernel
theorem d_Cl_drawn_401 : decode method_5_code 401 = .ok (.invokestatic 52, 3) := by decide +kernel
theorem d_Cl_drawn_404 : decode method_5_code 404 = .ok (.ifCond .ne 8, 3) := by decide +kernel
theorem d_Cl_drawn_407 : decode method_5_code 407 = .ok (.ldc 115, 2) := by decide +kernel
theorem d_Cl_drawn_409 : decode method_5_code 409 = .ok (.goto 5, 3) := by decide +kernel
theorem d_Cl_drawn_412 : decode method_5_code 412 = .ok (.ldc 117, 2) := by decide +kernel
theorem d_Cl_drawn_414 : decode method_5_code 414 = .ok (.invokevirtual 80, 3) := by decide +kernel
theorem d_Cl_drawn_417 : decode method_5_code 417 = .ok (.pop, 1) := by decide +kernel
theorem d_Cl_drawn_418 : decode method_5_code 418 = .ok (.aload_n 0, 1) := by decide +kernel
theorem d_Cl_drawn_419 : decode method_5_code 419 = .ok (.getfield 27, 3) := by decide +kernel
theorem d_Cl_drawn_422 : decode method_5_code 422 = .ok (.aload 5, 2) := by decide +kernel
theorem d_Cl_drawn_424 : decode method_5_code 424 = .ok (.invokevirtual 119, 3) := by decide +kernel
theorem d_Cl_drawn_427 : decode method_5_code 427 = .ok (.pop, 1) := by decide +kernel
theorem d_Cl_drawn_428 : decode method_5_code 428 = .ok (.goto (-346), 3) := by decide +kernel
theorem d_Cl_drawn_431 : decode method_5_code 431 = .ok (.aload_n 2, 1) := by decide +kernel
theorem d_Cl_drawn_432 : decode method_5_code 432 = .ok (.invokevirtual 123, 3) := by decide +kernel
theorem d_Cl_drawn_435 : decode method_5_code 435 = .ok (.areturn, 1) := by decide +kernel
theorem d_Cl_feeds_0 : decode method_4_code 0 = .ok (.iconst 0, 1) := by decide +kernel
theorem d_Cl_feeds_1 : decode method_4_code 1 = .ok (.istore_n 2, 1) := by decide +kernel
theorem d_Cl_feeds_2 : decode method_4_code 2 = .ok (.iload_n 2, 1) := by decide +kernel
theorem d_Cl_feeds_3 : decode method_4_code 3 = .ok (.aload_n 1, 1) := by decide +kernel
theorem d_Cl_feeds_4 : decode method_4_code 4 = .ok (.invokevirtual 8, 3) := by decide +kernel
theorem d_Cl_feeds_7 : decode method_4_code 7 = .ok (.if_icmp .ge 89, 3) := by decide +kernel
theorem d_Cl_feeds_10 : decode method_4_code 10 = .ok (.iconst 5, 1) := by decide +kernel
theorem d_Cl_feeds_11 : decode method_4_code 11 = .ok (.newarray .int, 2) := by decide +kernel
theorem d_Cl_feeds_13 : decode method_4_code 13 = .ok (.astore_n 3, 1) := by decide +kernel
theorem d_Cl_feeds_14 : decode method_4_code 14 = .ok (.iconst 0, 1) := by decide +kernel
theorem d_Cl_feeds_15 : decode method_4_code 15 = .ok (.istore 4, 2) := by decide +kernel
theorem d_Cl_feeds_17 : decode method_4_code 17 = .ok (.iload 4, 2) := by decide +kernel
theorem d_Cl_feeds_19 : decode method_4_code 19 = .ok (.bipush 20, 2) := by decide +kernel
theorem d_Cl_feeds_21 : decode method_4_code 21 = .ok (.if_icmp .ge 49, 3) := by decide +kernel
theorem d_Cl_feeds_24 : decode method_4_code 24 = .ok (.aload_n 3, 1) := by decide +kernel
theorem d_Cl_feeds_25 : decode method_4_code 25 = .ok (.iload 4, 2) := by decide +kernel
theorem d_Cl_feeds_27 : decode method_4_code 27 = .ok (.iconst 4, 1) := by decide +kernel
theorem d_Cl_feeds_28 : decode method_4_code 28 = .ok (.idiv, 1) := by decide +kernel
theorem d_Cl_feeds_29 : decode method_4_code 29 = .ok (.aload_n 3, 1) := by decide +kernel
theorem d_Cl_feeds_30 : decode method_4_code 30 = .ok (.iload 4, 2) := by decide +kernel
theorem d_Cl_feeds_32 : decode method_4_code 32 = .ok (.iconst 4, 1) := by decide +kernel
theorem d_Cl_feeds_33 : decode method_4_code 33 = .ok (.idiv, 1) := by decide +kernel
theorem d_Cl_feeds_34 : decode method_4_code 34 = .ok (.iaload, 1) := by decide +kernel
theorem d_Cl_feeds_35 : decode method_4_code 35 = .ok (.bipush 8, 2) := by decide +kernel
theorem d_Cl_feeds_37 : decode method_4_code 37 = .ok (.ishl, 1) := by decide +kernel
theorem d_Cl_feeds_38 : decode method_4_code 38 = .ok (.iload_n 2, 1) := by decide +kernel
theorem d_Cl_feeds_39 : decode method_4_code 39 = .ok (.iload 4, 2) := by decide +kernel
theorem d_Cl_feeds_41 : decode method_4_code 41 = .ok (.iadd, 1) := by decide +kernel
theorem d_Cl_feeds_42 : decode method_4_code 42 = .ok (.aload_n 1, 1) := by decide +kernel
theorem d_Cl_feeds_43 : decode method_4_code 43 = .ok (.invokevirtual 8, 3) := by decide +kernel
theorem d_Cl_feeds_46 : decode method_4_code 46 = .ok (.if_icmp .ge 14, 3) := by decide +kernel
theorem d_Cl_feeds_49 : decode method_4_code 49 = .ok (.aload_n 1, 1) := by decide +kernel
theorem d_Cl_feeds_50 : decode method_4_code 50 = .ok (.iload_n 2, 1) := by decide +kernel
theorem d_Cl_feeds_51 : decode method_4_code 51 = .ok (.iload 4, 2) := by decide +kernel
theorem d_Cl_feeds_53 : decode method_4_code 53 = .ok (.iadd, 1) := by decide +kernel
theorem d_Cl_feeds_54 : decode method_4_code 54 = .ok (.invokevirtual 14, 3) := by decide +kernel
theorem d_Cl_feeds_57 : decode method_4_code 57 = .ok (.goto 5, 3) := by decide +kernel
theorem d_Cl_feeds_60 : decode method_4_code 60 = .ok (.bipush 32, 2) := by decide +kernel
theorem d_Cl_feeds_62 : decode method_4_code 62 = .ok (.ior, 1) := by decide +kernel
theorem d_Cl_feeds_63 : decode method_4_code 63 = .ok (.iastore, 1) := by decide +kernel
theorem d_Cl_feeds_64 : decode method_4_code 64 = .ok (.iinc 4 1, 3) := by decide +kernel
theorem d_Cl_feeds_67 : decode method_4_code 67 = .ok (.goto (-50), 3) := by decide +kernel
theorem d_Cl_feeds_70 : decode method_4_code 70 = .ok (.aload_n 0, 1) := by decide +kernel
theorem d_Cl_feeds_71 : decode method_4_code 71 = .ok (.aload_n 3, 1) := by decide +kernel
theorem d_Cl_feeds_72 : decode method_4_code 72 = .ok (.iconst 0, 1) := by decide +kernel
theorem d_Cl_feeds_73 : decode method_4_code 73 = .ok (.iaload, 1) := by decide +kernel
theorem d_Cl_feeds_74 : decode method_4_code 74 = .ok (.aload_n 3, 1) := by decide +kernel
theorem d_Cl_feeds_75 : decode method_4_code 75 = .ok (.iconst 1, 1) := by decide +kernel
theorem d_Cl_feeds_76 : decode method_4_code 76 = .ok (.iaload, 1) := by decide +kernel
theorem d_Cl_feeds_77 : decode method_4_code 77 = .ok (.aload_n 3, 1) := by decide +kernel
theorem d_Cl_feeds_78 : decode method_4_code 78 = .ok (.iconst 2, 1) := by decide +kernel
theorem d_Cl_feeds_79 : decode method_4_code 79 = .ok (.iaload, 1) := by decide +kernel
theorem d_Cl_feeds_80 : decode method_4_code 80 = .ok (.aload_n 3, 1) := by decide +kernel
theorem d_Cl_feeds_81 : decode method_4_code 81 = .ok (.iconst 3, 1) := by decide +kernel
theorem d_Cl_feeds_82 : decode method_4_code 82 = .ok (.iaload, 1) := by decide +kernel
theorem d_Cl_feeds_83 : decode method_4_code 83 = .ok (.aload_n 3, 1) := by decide +kernel
theorem d_Cl_feeds_84 : decode method_4_code 84 = .ok (.iconst 4, 1) := by decide +kernel
theorem d_Cl_feeds_85 : decode method_4_code 85 = .ok (.iaload, 1) := by decide +kernel
theorem d_Cl_feeds_86 : decode method_4_code 86 = .ok (.invokevirtual 18, 3) := by decide +kernel
theorem d_Cl_feeds_89 : decode method_4_code 89 = .ok (.pop, 1) := by decide +kernel
theorem d_Cl_feeds_90 : decode method_4_code 90 = .ok (.iinc 2 20, 3) := by decide +kernel
theorem d_Cl_feeds_93 : decode method_4_code 93 = .ok (.goto (-91), 3) := by decide +kernel
theorem d_Cl_feeds_96 : decode method_4_code 96 = .ok (.aload_n 1, 1) := by decide +kernel
theorem d_Cl_feeds_97 : decode method_4_code 97 = .ok (.invokevirtual 8, 3) := by decide +kernel
theorem d_Cl_feeds_100 : decode method_4_code 100 = .ok (.ireturn, 1) := by decide +kernel
theorem d_Bo_size_0 : decode prog_13_method_10_code 0 = .ok (.aload_n 0, 1) := by decide +kernel
theorem d_Bo_size_1 : decode prog_13_method_10_code 1 = .ok (.invokevirtual 110, 3) := by decide +kernel
theorem d_Bo_size_4 : decode prog_13_method_10_code 4 = .ok (.i2l, 1) := by decide +kernel
theorem d_Bo_size_5 : decode prog_13_method_10_code 5 = .ok (.lstore_n 3, 1) := by decide +kernel
theorem d_Bo_size_6 : decode prog_13_method_10_code 6 = .ok (.iconst 1, 1) := by decide +kernel
theorem d_Bo_size_7 : decode prog_13_method_10_code 7 = .ok (.istore 5, 2) := by decide +kernel
theorem d_Bo_size_9 : decode prog_13_method_10_code 9 = .ok (.iload 5, 2) := by decide +kernel
theorem d_Bo_size_11 : decode prog_13_method_10_code 11 = .ok (.sipush 401, 3) := by decide +kernel
theorem d_Bo_size_14 : decode prog_13_method_10_code 14 = .ok (.if_icmp .ge 34, 3) := by decide +kernel
theorem d_Bo_size_17 : decode prog_13_method_10_code 17 = .ok (.lload_n 3, 1) := by decide +kernel
theorem d_Bo_size_18 : decode prog_13_method_10_code 18 = .ok (.iload 5, 2) := by decide +kernel
theorem d_Bo_size_20 : decode prog_13_method_10_code 20 = .ok (.iload_n 2, 1) := by decide +kernel
theorem d_Bo_size_21 : decode prog_13_method_10_code 21 = .ok (.aload_n 0, 1) := by decide +kernel
theorem d_Bo_size_22 : decode prog_13_method_10_code 22 = .ok (.getfield 20, 3) := by decide +kernel
theorem d_Bo_size_25 : decode prog_13_method_10_code 25 = .ok (.iconst 1, 1) := by decide +kernel
theorem d_Bo_size_26 : decode prog_13_method_10_code 26 = .ok (.iaload, 1) := by decide +kernel
theorem d_Bo_size_27 : decode prog_13_method_10_code 27 = .ok (.invokestatic 113, 3) := by decide +kernel
theorem d_Bo_size_30 : decode prog_13_method_10_code 30 = .ok (.i2l, 1) := by decide +kernel
theorem d_Bo_size_31 : decode prog_13_method_10_code 31 = .ok (.lmul, 1) := by decide +kernel
theorem d_Bo_size_32 : decode prog_13_method_10_code 32 = .ok (.ldc2_w 117, 3) := by decide +kernel
theorem d_Bo_size_35 : decode prog_13_method_10_code 35 = .ok (.ldiv, 1) := by decide +kernel
theorem d_Bo_size_36 : decode prog_13_method_10_code 36 = .ok (.iload_n 1, 1) := by decide +kernel
theorem d_Bo_size_37 : decode prog_13_method_10_code 37 = .ok (.i2l, 1) := by decide +kernel
theorem d_Bo_size_38 : decode prog_13_method_10_code 38 = .ok (.lcmp, 1) := by decide +kernel
theorem d_Bo_size_39 : decode prog_13_method_10_code 39 = .ok (.ifCond .le 9, 3) := by decide +kernel
theorem d_Bo_size_42 : decode prog_13_method_10_code 42 = .ok (.iinc 5 1, 3) := by decide +kernel
theorem d_Bo_size_45 : decode prog_13_method_10_code 45 = .ok (.goto (-36), 3) := by decide +kernel
theorem d_Bo_size_48 : decode prog_13_method_10_code 48 = .ok (.iload 5, 2) := by decide +kernel
theorem d_Bo_size_50 : decode prog_13_method_10_code 50 = .ok (.sipush 401, 3) := by decide +kernel
theorem d_Bo_size_53 : decode prog_13_method_10_code 53 = .ok (.if_icmp .ge 8, 3) := by decide +kernel
theorem d_Bo_size_56 : decode prog_13_method_10_code 56 = .ok (.iload 5, 2) := by decide +kernel
theorem d_Bo_size_58 : decode prog_13_method_10_code 58 = .ok (.goto 4, 3) := by decide +kernel
theorem d_Bo_size_61 : decode prog_13_method_10_code 61 = .ok (.iconst (-1), 1) := by decide +kernel
theorem d_Bo_size_62 : decode prog_13_method_10_code 62 = .ok (.ireturn, 1) := by decide +kernel
theorem d_Bo_allCoins_0 : decode prog_13_method_3_code 0 = .ok (.iconst 0, 1) := by decide +kernel
theorem d_Bo_allCoins_1 : decode prog_13_method_3_code 1 = .ok (.istore_n 1, 1) := by decide +kernel
theorem d_Bo_allCoins_2 : decode prog_13_method_3_code 2 = .ok (.aload_n 0, 1) := by decide +kernel
theorem d_Bo_allCoins_3 : decode prog_13_method_3_code 3 = .ok (.getfield 10, 3) := by decide +kernel
theorem d_Bo_allCoins_6 : decode prog_13_method_3_code 6 = .ok (.invokevirtual 36, 3) := by decide +kernel
theorem d_Bo_allCoins_9 : decode prog_13_method_3_code 9 = .ok (.astore_n 2, 1) := by decide +kernel
theorem d_Bo_allCoins_10 : decode prog_13_method_3_code 10 = .ok (.aload_n 2, 1) := by decide +kernel
theorem d_Bo_allCoins_11 : decode prog_13_method_3_code 11 = .ok (.invokeinterface 40 1, 5) := by decide +kernel
theorem d_Bo_allCoins_16 : decode prog_13_method_3_code 16 = .ok (.ifCond .eq 23, 3) := by decide +kernel
theorem d_Bo_allCoins_19 : decode prog_13_method_3_code 19 = .ok (.aload_n 2, 1) := by decide +kernel
theorem d_Bo_allCoins_20 : decode prog_13_method_3_code 20 = .ok (.invokeinterface 46 1, 5) := by decide +kernel
theorem d_Bo_allCoins_25 : decode prog_13_method_3_code 25 = .ok (.checkcast 32, 3) := by decide +kernel
theorem d_Bo_allCoins_28 : decode prog_13_method_3_code 28 = .ok (.astore_n 3, 1) := by decide +kernel
theorem d_Bo_allCoins_29 : decode prog_13_method_3_code 29 = .ok (.iload_n 1, 1) := by decide +kernel
theorem d_Bo_allCoins_30 : decode prog_13_method_3_code 30 = .ok (.aload_n 3, 1) := by decide +kernel
theorem d_Bo_allCoins_31 : decode prog_13_method_3_code 31 = .ok (.invokevirtual 50, 3) := by decide +kernel
theorem d_Bo_allCoins_34 : decode prog_13_method_3_code 34 = .ok (.iadd, 1) := by decide +kernel
theorem d_Bo_allCoins_35 : decode prog_13_method_3_code 35 = .ok (.istore_n 1, 1) := by decide +kernel
theorem d_Bo_allCoins_36 : decode prog_13_method_3_code 36 = .ok (.goto (-26), 3) := by decide +kernel
theorem d_Bo_allCoins_39 : decode prog_13_method_3_code 39 = .ok (.iload_n 1, 1) := by decide +kernel
theorem d_Bo_allCoins_40 : decode prog_13_method_3_code 40 = .ok (.ireturn, 1) := by decide +kernel
theorem d_Al_isEmpty_0 : decode prog_42_method_9_code 0 = .ok (.aload_n 0, 1) := by decide +kernel
theorem d_Al_isEmpty_1 : decode prog_42_method_9_code 1 = .ok (.getfield 48, 3) := by decide +kernel
theorem d_Al_isEmpty_4 : decode prog_42_method_9_code 4 = .ok (.ifCond .ne 7, 3) := by decide +kernel
theorem d_Al_isEmpty_7 : decode prog_42_method_9_code 7 = .ok (.iconst 1, 1) := by decide +kernel
theorem d_Al_isEmpty_8 : decode prog_42_method_9_code 8 = .ok (.goto 4, 3) := by decide +kernel
theorem d_Al_isEmpty_11 : decode prog_42_method_9_code 11 = .ok (.iconst 0, 1) := by decide +kernel
theorem d_Al_isEmpty_12 : decode prog_42_method_9_code 12 = .ok (.ireturn, 1) := by decide +kernel
theorem d_Al_clear_0 : decode prog_42_method_40_code 0 = .ok (.aload_n 0, 1) := by decide +kernel
theorem d_Al_clear_1 : decode prog_42_method_40_code 1 = .ok (.dup, 1) := by decide +kernel
theorem d_Al_clear_2 : decode prog_42_method_40_code 2 = .ok (.getfield 63, 3) := by decide +kernel
theorem d_Al_clear_5 : decode prog_42_method_40_code 5 = .ok (.iconst 1, 1) := by decide +kernel
theorem d_Al_clear_6 : decode prog_42_method_40_code 6 = .ok (.iadd, 1) := by decide +kernel
theorem d_Al_clear_7 : decode prog_42_method_40_code 7 = .ok (.putfield 63, 3) := by decide +kernel
theorem d_Al_clear_10 : decode prog_42_method_40_code 10 = .ok (.aload_n 0, 1) := by decide +kernel
theorem d_Al_clear_11 : decode prog_42_method_40_code 11 = .ok (.getfield 9, 3) := by decide +kernel
theorem d_Al_clear_14 : decode prog_42_method_40_code 14 = .ok (.astore_n 1, 1) := by decide +kernel
theorem d_Al_clear_15 : decode prog_42_method_40_code 15 = .ok (.aload_n 0, 1) := by decide +kernel
theorem d_Al_clear_16 : decode prog_42_method_40_code 16 = .ok (.getfield 48, 3) := by decide +kernel
theorem d_Al_clear_19 : decode prog_42_method_40_code 19 = .ok (.istore_n 2, 1) := by decide +kernel
theorem d_Al_clear_20 : decode prog_42_method_40_code 20 = .ok (.aload_n 0, 1) := by decide +kernel
theorem d_Al_clear_21 : decode prog_42_method_40_code 21 = .ok (.iconst 0, 1) := by decide +kernel
theorem d_Al_clear_22 : decode prog_42_method_40_code 22 = .ok (.dup_x1, 1) := by decide +kernel
theorem d_Al_clear_23 : decode prog_42_method_40_code 23 = .ok (.putfield 48, 3) := by decide +kernel
theorem d_Al_clear_26 : decode prog_42_method_40_code 26 = .ok (.istore_n 3, 1) := by decide +kernel
theorem d_Al_clear_27 : decode prog_42_method_40_code 27 = .ok (.iload_n 3, 1) := by decide +kernel
theorem d_Al_clear_28 : decode prog_42_method_40_code 28 = .ok (.iload_n 2, 1) := by decide +kernel
theorem d_Al_clear_29 : decode prog_42_method_40_code 29 = .ok (.if_icmp .ge 13, 3) := by decide +kernel
theorem d_Al_clear_32 : decode prog_42_method_40_code 32 = .ok (.aload_n 1, 1) := by decide +kernel
theorem d_Al_clear_33 : decode prog_42_method_40_code 33 = .ok (.iload_n 3, 1) := by decide +kernel
theorem d_Al_clear_34 : decode prog_42_method_40_code 34 = .ok (.aconst_null, 1) := by decide +kernel
theorem d_Al_clear_35 : decode prog_42_method_40_code 35 = .ok (.aastore, 1) := by decide +kernel
theorem d_Al_clear_36 : decode prog_42_method_40_code 36 = .ok (.iinc 3 1, 3) := by decide +kernel
theorem d_Al_clear_39 : decode prog_42_method_40_code 39 = .ok (.goto (-12), 3) := by decide +kernel
theorem d_Al_clear_42 : decode prog_42_method_40_code 42 = .ok (.return_, 1) := by decide +kernel
theorem d_Bo_draws_0 : decode prog_13_method_19_code 0 = .ok (.iconst 0, 1) := by decide +kernel
theorem d_Bo_draws_1 : decode prog_13_method_19_code 1 = .ok (.istore_n 1, 1) := by decide +kernel
theorem d_Bo_draws_2 : decode prog_13_method_19_code 2 = .ok (.iconst 0, 1) := by decide +kernel
theorem d_Bo_draws_3 : decode prog_13_method_19_code 3 = .ok (.istore_n 2, 1) := by decide +kernel
theorem d_Bo_draws_4 : decode prog_13_method_19_code 4 = .ok (.iload_n 2, 1) := by decide +kernel
theorem d_Bo_draws_5 : decode prog_13_method_19_code 5 = .ok (.bipush 50, 2) := by decide +kernel
theorem d_Bo_draws_7 : decode prog_13_method_19_code 7 = .ok (.if_icmp .ge 61, 3) := by decide +kernel
theorem d_Bo_draws_10 : decode prog_13_method_19_code 10 = .ok (.iload_n 1, 1) := by decide +kernel
theorem d_Bo_draws_11 : decode prog_13_method_19_code 11 = .ok (.ifCond .eq 17, 3) := by decide +kernel
theorem d_Bo_draws_14 : decode prog_13_method_19_code 14 = .ok (.aload_n 0, 1) := by decide +kernel
theorem d_Bo_draws_15 : decode prog_13_method_19_code 15 = .ok (.getfield 16, 3) := by decide +kernel
theorem d_Bo_draws_18 : decode prog_13_method_19_code 18 = .ok (.iload_n 1, 1) := by decide +kernel
theorem d_Bo_draws_19 : decode prog_13_method_19_code 19 = .ok (.invokestatic 163, 3) := by decide +kernel
theorem d_Bo_draws_22 : decode prog_13_method_19_code 22 = .ok (.invokevirtual 167, 3) := by decide +kernel
theorem d_Bo_draws_25 : decode prog_13_method_19_code 25 = .ok (.ifCond .eq 43, 3) := by decide +kernel
theorem d_Bo_draws_28 : decode prog_13_method_19_code 28 = .ok (.aload_n 0, 1) := by decide +kernel
theorem d_Bo_draws_29 : decode prog_13_method_19_code 29 = .ok (.aload_n 0, 1) := by decide +kernel
theorem d_Bo_draws_30 : decode prog_13_method_19_code 30 = .ok (.getfield 24, 3) := by decide +kernel
theorem d_Bo_draws_33 : decode prog_13_method_19_code 33 = .ok (.i2l, 1) := by decide +kernel
theorem d_Bo_draws_34 : decode prog_13_method_19_code 34 = .ok (.ldc2_w 170, 3) := by decide +kernel
theorem d_Bo_draws_37 : decode prog_13_method_19_code 37 = .ok (.lmul, 1) := by decide +kernel
theorem d_Bo_draws_38 : decode prog_13_method_19_code 38 = .ok (.ldc2_w 172, 3) := by decide +kernel
theorem d_Bo_draws_41 : decode prog_13_method_19_code 41 = .ok (.ladd, 1) := by decide +kernel
theorem d_Bo_draws_42 : decode prog_13_method_19_code 42 = .ok (.ldc2_w 174, 3) := by decide +kernel
theorem d_Bo_draws_45 : decode prog_13_method_19_code 45 = .ok (.lrem, 1) := by decide +kernel
theorem d_Bo_draws_46 : decode prog_13_method_19_code 46 = .ok (.l2i, 1) := by decide +kernel
theorem d_Bo_draws_47 : decode prog_13_method_19_code 47 = .ok (.putfield 24, 3) := by decide +kernel
theorem d_Bo_draws_50 : decode prog_13_method_19_code 50 = .ok (.iconst 1, 1) := by decide +kernel
theorem d_Bo_draws_51 : decode prog_13_method_19_code 51 = .ok (.aload_n 0, 1) := by decide +kernel
theorem d_Bo_draws_52 : decode prog_13_method_19_code 52 = .ok (.getfield 24, 3) := by decide +kernel
theorem d_Bo_draws_55 : decode prog_13_method_19_code 55 = .ok (.aload_n 0, 1) := by decide +kernel
theorem d_Bo_draws_56 : decode prog_13_method_19_code 56 = .ok (.getfield 28, 3) := by decide +kernel
theorem d_Bo_draws_59 : decode prog_13_method_19_code 59 = .ok (.irem, 1) := by decide +kernel
theorem d_Bo_draws_60 : decode prog_13_method_19_code 60 = .ok (.iadd, 1) := by decide +kernel
theorem d_Bo_draws_61 : decode prog_13_method_19_code 61 = .ok (.istore_n 1, 1) := by decide +kernel
theorem d_Bo_draws_62 : decode prog_13_method_19_code 62 = .ok (.iinc 2 1, 3) := by decide +kernel
theorem d_Bo_draws_65 : decode prog_13_method_19_code 65 = .ok (.goto (-61), 3) := by decide +kernel
theorem d_Bo_draws_68 : decode prog_13_method_19_code 68 = .ok (.aload_n 0, 1) := by decide +kernel
theorem d_Bo_draws_69 : decode prog_13_method_19_code 69 = .ok (.getfield 16, 3) := by decide +kernel
theorem d_Bo_draws_72 : decode prog_13_method_19_code 72 = .ok (.iload_n 1, 1) := by decide +kernel
theorem d_Bo_draws_73 : decode prog_13_method_19_code 73 = .ok (.invokestatic 163, 3) := by decide +kernel
theorem d_Bo_draws_76 : decode prog_13_method_19_code 76 = .ok (.invokevirtual 167, 3) := by decide +kernel
theorem d_Bo_draws_79 : decode prog_13_method_19_code 79 = .ok (.ifCond .eq 25, 3) := by decide +kernel
theorem d_Bo_draws_82 : decode prog_13_method_19_code 82 = .ok (.iconst 1, 1) := by decide +kernel
theorem d_Bo_draws_83 : decode prog_13_method_19_code 83 = .ok (.istore_n 1, 1) := by decide +kernel
theorem d_Bo_draws_84 : decode prog_13_method_19_code 84 = .ok (.aload_n 0, 1) := by decide +kernel
theorem d_Bo_draws_85 : decode prog_13_method_19_code 85 = .ok (.getfield 16, 3) := by decide +kernel
theorem d_Bo_draws_88 : decode prog_13_method_19_code 88 = .ok (.iload_n 1, 1) := by decide +kernel
theorem d_Bo_draws_89 : decode prog_13_method_19_code 89 = .ok (.invokestatic 163, 3) := by decide +kernel
theorem d_Bo_draws_92 : decode prog_13_method_19_code 92 = .ok (.invokevirtual 167, 3) := by decide +kernel
theorem d_Bo_draws_95 : decode prog_13_method_19_code 95 = .ok (.ifCond .eq 9, 3) := by decide +kernel
theorem d_Bo_draws_98 : decode prog_13_method_19_code 98 = .ok (.iinc 1 1, 3) := by decide +kernel
theorem d_Bo_draws_101 : decode prog_13_method_19_code 101 = .ok (.goto (-17), 3) := by decide +kernel
theorem d_Bo_draws_104 : decode prog_13_method_19_code 104 = .ok (.aload_n 0, 1) := by decide +kernel
theorem d_Bo_draws_105 : decode prog_13_method_19_code 105 = .ok (.getfield 16, 3) := by decide +kernel
theorem d_Bo_draws_108 : decode prog_13_method_19_code 108 = .ok (.iload_n 1, 1) := by decide +kernel
theorem d_Bo_draws_109 : decode prog_13_method_19_code 109 = .ok (.invokestatic 163, 3) := by decide +kernel
theorem d_Bo_draws_112 : decode prog_13_method_19_code 112 = .ok (.invokevirtual 92, 3) := by decide +kernel
theorem d_Bo_draws_115 : decode prog_13_method_19_code 115 = .ok (.pop, 1) := by decide +kernel
theorem d_Bo_draws_116 : decode prog_13_method_19_code 116 = .ok (.iload_n 1, 1) := by decide +kernel
theorem d_Bo_draws_117 : decode prog_13_method_19_code 117 = .ok (.ireturn, 1) := by decide +kernel
theorem d_Al_iterator_0 : decode prog_42_method_55_code 0 = .ok (.new 267, 3) := by decide +kernel
theorem d_Al_iterator_3 : decode prog_42_method_55_code 3 = .ok (.dup, 1) := by decide +kernel
theorem d_Al_iterator_4 : decode prog_42_method_55_code 4 = .ok (.aload_n 0, 1) := by decide +kernel
theorem d_Al_iterator_5 : decode prog_42_method_55_code 5 = .ok (.invokespecial 269, 3) := by decide +kernel
theorem d_Al_iterator_8 : decode prog_42_method_55_code 8 = .ok (.areturn, 1) := by decide +kernel
theorem d_Ai_hasNext_0 : decode prog_43_method_2_code 0 = .ok (.aload_n 0, 1) := by decide +kernel
theorem d_Ai_hasNext_1 : decode prog_43_method_2_code 1 = .ok (.getfield 25, 3) := by decide +kernel
theorem d_Ai_hasNext_4 : decode prog_43_method_2_code 4 = .ok (.aload_n 0, 1) := by decide +kernel
theorem d_Ai_hasNext_5 : decode prog_43_method_2_code 5 = .ok (.getfield 1, 3) := by decide +kernel
theorem d_Ai_hasNext_8 : decode prog_43_method_2_code 8 = .ok (.getfield 28, 3) := by decide +kernel
theorem d_Ai_hasNext_11 : decode prog_43_method_2_code 11 = .ok (.if_icmp .eq 7, 3) := by decide +kernel
theorem d_Ai_hasNext_14 : decode prog_43_method_2_code 14 = .ok (.iconst 1, 1) := by decide +kernel
theorem d_Ai_hasNext_15 : decode prog_43_method_2_code 15 = .ok (.goto 4, 3) := by decide +kernel
theorem d_Ai_hasNext_18 : decode prog_43_method_2_code 18 = .ok (.iconst 0, 1) := by decide +kernel
theorem d_Ai_hasNext_19 : decode prog_43_method_2_code 19 = .ok (.ireturn, 1) := by decide +kernel
theorem d_Ai_next_0 : decode prog_43_method_3_code 0 = .ok (.aload_n 0, 1) := by decide +kernel
theorem d_Ai_next_1 : decode prog_43_method_3_code 1 = .ok (.invokevirtual 31, 3) := by decide +kernel
theorem d_Ai_next_4 : decode prog_43_method_3_code 4 = .ok (.aload_n 0, 1) := by decide +kernel
theorem d_Ai_next_5 : decode prog_43_method_3_code 5 = .ok (.getfield 25, 3) := by decide +kernel
theorem d_Ai_next_8 : decode prog_43_method_3_code 8 = .ok (.istore_n 1, 1) := by decide +kernel
theorem d_Ai_next_9 : decode prog_43_method_3_code 9 = .ok (.iload_n 1, 1) := by decide +kernel
theorem d_Ai_next_10 : decode prog_43_method_3_code 10 = .ok (.aload_n 0, 1) := by decide +kernel
theorem d_Ai_next_11 : decode prog_43_method_3_code 11 = .ok (.getfield 1, 3) := by decide +kernel
theorem d_Ai_next_14 : decode prog_43_method_3_code 14 = .ok (.getfield 28, 3) := by decide +kernel
theorem d_Ai_next_17 : decode prog_43_method_3_code 17 = .ok (.if_icmp .lt 11, 3) := by decide +kernel
theorem d_Ai_next_28 : decode prog_43_method_3_code 28 = .ok (.aload_n 0, 1) := by decide +kernel
theorem d_Ai_next_29 : decode prog_43_method_3_code 29 = .ok (.getfield 1, 3) := by decide +kernel
theorem d_Ai_next_32 : decode prog_43_method_3_code 32 = .ok (.getfield 37, 3) := by decide +kernel
theorem d_Ai_next_35 : decode prog_43_method_3_code 35 = .ok (.astore_n 2, 1) := by decide +kernel
theorem d_Ai_next_36 : decode prog_43_method_3_code 36 = .ok (.iload_n 1, 1) := by decide +kernel
theorem d_Ai_next_37 : decode prog_43_method_3_code 37 = .ok (.aload_n 2, 1) := by decide +kernel
theorem d_Ai_next_38 : decode prog_43_method_3_code 38 = .ok (.arraylength, 1) := by decide +kernel
theorem d_Ai_next_39 : decode prog_43_method_3_code 39 = .ok (.if_icmp .lt 11, 3) := by decide +kernel
theorem d_Ai_next_50 : decode prog_43_method_3_code 50 = .ok (.aload_n 0, 1) := by decide +kernel
theorem d_Ai_next_51 : decode prog_43_method_3_code 51 = .ok (.iload_n 1, 1) := by decide +kernel
theorem d_Ai_next_52 : decode prog_43_method_3_code 52 = .ok (.iconst 1, 1) := by decide +kernel
theorem d_Ai_next_53 : decode prog_43_method_3_code 53 = .ok (.iadd, 1) := by decide +kernel
theorem d_Ai_next_54 : decode prog_43_method_3_code 54 = .ok (.putfield 25, 3) := by decide +kernel
theorem d_Ai_next_57 : decode prog_43_method_3_code 57 = .ok (.aload_n 2, 1) := by decide +kernel
theorem d_Ai_next_58 : decode prog_43_method_3_code 58 = .ok (.aload_n 0, 1) := by decide +kernel
theorem d_Ai_next_59 : decode prog_43_method_3_code 59 = .ok (.iload_n 1, 1) := by decide +kernel
theorem d_Ai_next_60 : decode prog_43_method_3_code 60 = .ok (.dup_x1, 1) := by decide +kernel
theorem d_Ai_next_61 : decode prog_43_method_3_code 61 = .ok (.putfield 13, 3) := by decide +kernel
theorem d_Ai_next_64 : decode prog_43_method_3_code 64 = .ok (.aaload, 1) := by decide +kernel
theorem d_Ai_next_65 : decode prog_43_method_3_code 65 = .ok (.areturn, 1) := by decide +kernel
theorem d_Bo_certain_0 : decode prog_13_method_2_code 0 = .ok (.aload_n 0, 1) := by decide +kernel
theorem d_Bo_certain_1 : decode prog_13_method_2_code 1 = .ok (.getfield 28, 3) := by decide +kernel
theorem d_Bo_certain_4 : decode prog_13_method_2_code 4 = .ok (.ifCond .le 18, 3) := by decide +kernel
theorem d_Bo_certain_7 : decode prog_13_method_2_code 7 = .ok (.aload_n 1, 1) := by decide +kernel
theorem d_Bo_certain_8 : decode prog_13_method_2_code 8 = .ok (.getfield 31, 3) := by decide +kernel
theorem d_Bo_certain_11 : decode prog_13_method_2_code 11 = .ok (.aload_n 0, 1) := by decide +kernel
theorem d_Bo_certain_12 : decode prog_13_method_2_code 12 = .ok (.getfield 28, 3) := by decide +kernel
theorem d_Bo_certain_15 : decode prog_13_method_2_code 15 = .ok (.if_icmp .lt 7, 3) := by decide +kernel
theorem d_Bo_certain_18 : decode prog_13_method_2_code 18 = .ok (.iconst 1, 1) := by decide +kernel
theorem d_Bo_certain_19 : decode prog_13_method_2_code 19 = .ok (.goto 4, 3) := by decide +kernel
theorem d_Bo_certain_22 : decode prog_13_method_2_code 22 = .ok (.iconst 0, 1) := by decide +kernel
theorem d_Bo_certain_23 : decode prog_13_method_2_code 23 = .ok (.ireturn, 1) := by decide +kernel
theorem d_Bo_find_0 : decode prog_13_method_8_code 0 = .ok (.iconst 0, 1) := by decide +kernel
theorem d_Bo_find_1 : decode prog_13_method_8_code 1 = .ok (.istore_n 3, 1) := by decide +kernel
theorem d_Bo_find_2 : decode prog_13_method_8_code 2 = .ok (.iload_n 3, 1) := by decide +kernel
theorem d_Bo_find_3 : decode prog_13_method_8_code 3 = .ok (.aload_n 0, 1) := by decide +kernel
theorem d_Bo_find_4 : decode prog_13_method_8_code 4 = .ok (.getfield 10, 3) := by decide +kernel
theorem d_Bo_find_7 : decode prog_13_method_8_code 7 = .ok (.invokevirtual 67, 3) := by decide +kernel
theorem d_Bo_find_10 : decode prog_13_method_8_code 10 = .ok (.if_icmp .ge 47, 3) := by decide +kernel
theorem d_Bo_find_13 : decode prog_13_method_8_code 13 = .ok (.aload_n 0, 1) := by decide +kernel
theorem d_Bo_find_14 : decode prog_13_method_8_code 14 = .ok (.getfield 10, 3) := by decide +kernel
theorem d_Bo_find_17 : decode prog_13_method_8_code 17 = .ok (.iload_n 3, 1) := by decide +kernel
theorem d_Bo_find_18 : decode prog_13_method_8_code 18 = .ok (.invokevirtual 70, 3) := by decide +kernel
theorem d_Bo_find_21 : decode prog_13_method_8_code 21 = .ok (.checkcast 32, 3) := by decide +kernel
theorem d_Bo_find_24 : decode prog_13_method_8_code 24 = .ok (.getfield 99, 3) := by decide +kernel
theorem d_Bo_find_27 : decode prog_13_method_8_code 27 = .ok (.iload_n 1, 1) := by decide +kernel
theorem d_Bo_find_28 : decode prog_13_method_8_code 28 = .ok (.if_icmp .ne 23, 3) := by decide +kernel
theorem d_Bo_find_31 : decode prog_13_method_8_code 31 = .ok (.aload_n 0, 1) := by decide +kernel
theorem d_Bo_find_32 : decode prog_13_method_8_code 32 = .ok (.getfield 10, 3) := by decide +kernel
theorem d_Bo_find_35 : decode prog_13_method_8_code 35 = .ok (.iload_n 3, 1) := by decide +kernel
theorem d_Bo_find_36 : decode prog_13_method_8_code 36 = .ok (.invokevirtual 70, 3) := by decide +kernel
theorem d_Bo_find_39 : decode prog_13_method_8_code 39 = .ok (.checkcast 32, 3) := by decide +kernel
theorem d_Bo_find_42 : decode prog_13_method_8_code 42 = .ok (.getfield 102, 3) := by decide +kernel
theorem d_Bo_find_45 : decode prog_13_method_8_code 45 = .ok (.iload_n 2, 1) := by decide +kernel
theorem d_Bo_find_46 : decode prog_13_method_8_code 46 = .ok (.if_icmp .ne 5, 3) := by decide +kernel
theorem d_Bo_find_49 : decode prog_13_method_8_code 49 = .ok (.iload_n 3, 1) := by decide +kernel
theorem d_Bo_find_50 : decode prog_13_method_8_code 50 = .ok (.ireturn, 1) := by decide +kernel
theorem d_Bo_find_51 : decode prog_13_method_8_code 51 = .ok (.iinc 3 1, 3) := by decide +kernel
theorem d_Bo_find_54 : decode prog_13_method_8_code 54 = .ok (.goto (-52), 3) := by decide +kernel
theorem d_Bo_find_57 : decode prog_13_method_8_code 57 = .ok (.iconst (-1), 1) := by decide +kernel
theorem d_Bo_find_58 : decode prog_13_method_8_code 58 = .ok (.ireturn, 1) := by decide +kernel
theorem d_It_init_0 : decode prog_15_method_1_code 0 = .ok (.aload_n 0, 1) := by decide +kernel
theorem d_It_init_1 : decode prog_15_method_1_code 1 = .ok (.invokespecial 1, 3) := by decide +kernel
theorem d_It_init_4 : decode prog_15_method_1_code 4 = .ok (.aload_n 0, 1) := by decide +kernel
theorem d_It_init_5 : decode prog_15_method_1_code 5 = .ok (.iconst (-1), 1) := by decide +kernel
theorem d_It_init_6 : decode prog_15_method_1_code 6 = .ok (.putfield 7, 3) := by decide +kernel
theorem d_It_init_9 : decode prog_15_method_1_code 9 = .ok (.return_, 1) := by decide +kernel
theorem d_Al_add_9ea2d_0 : decode prog_42_method_25_code 0 = .ok (.aload_n 0, 1) := by decide +kernel
theorem d_Al_add_9ea2d_1 : decode prog_42_method_25_code 1 = .ok (.dup, 1) := by decide +kernel
theorem d_Al_add_9ea2d_2 : decode prog_42_method_25_code 2 = .ok (.getfield 63, 3) := by decide +kernel
theorem d_Al_add_9ea2d_5 : decode prog_42_method_25_code 5 = .ok (.iconst 1, 1) := by decide +kernel
theorem d_Al_add_9ea2d_6 : decode prog_42_method_25_code 6 = .ok (.iadd, 1) := by decide +kernel
theorem d_Al_add_9ea2d_7 : decode prog_42_method_25_code 7 = .ok (.putfield 63, 3) := by decide +kernel
theorem d_Al_add_9ea2d_10 : decode prog_42_method_25_code 10 = .ok (.aload_n 0, 1) := by decide +kernel
theorem d_Al_add_9ea2d_11 : decode prog_42_method_25_code 11 = .ok (.aload_n 1, 1) := by decide +kernel
theorem d_Al_add_9ea2d_12 : decode prog_42_method_25_code 12 = .ok (.aload_n 0, 1) := by decide +kernel
theorem d_Al_add_9ea2d_13 : decode prog_42_method_25_code 13 = .ok (.getfield 9, 3) := by decide +kernel
theorem d_Al_add_9ea2d_16 : decode prog_42_method_25_code 16 = .ok (.aload_n 0, 1) := by decide +kernel
theorem d_Al_add_9ea2d_17 : decode prog_42_method_25_code 17 = .ok (.getfield 48, 3) := by decide +kernel
theorem d_Al_add_9ea2d_20 : decode prog_42_method_25_code 20 = .ok (.invokevirtual 131, 3) := by decide +kernel
theorem d_Al_add_9ea2d_23 : decode prog_42_method_25_code 23 = .ok (.iconst 1, 1) := by decide +kernel
theorem d_Al_add_9ea2d_24 : decode prog_42_method_25_code 24 = .ok (.ireturn, 1) := by decide +kernel
theorem d_Lx_init_0 : decode prog_59_method_3_code 0 = .ok (.aload_n 0, 1) := by decide +kernel
theorem d_Lx_init_1 : decode prog_59_method_3_code 1 = .ok (.bipush 16, 2) := by decide +kernel
theorem d_Lx_init_3 : decode prog_59_method_3_code 3 = .ok (.ldc 7, 2) := by decide +kernel
theorem d_Lx_init_5 : decode prog_59_method_3_code 5 = .ok (.iconst 1, 1) := by decide +kernel
theorem d_Lx_init_6 : decode prog_59_method_3_code 6 = .ok (.invokespecial 1, 3) := by decide +kernel
theorem d_Lx_init_9 : decode prog_59_method_3_code 9 = .ok (.return_, 1) := by decide +kernel
theorem d_It_coins_0 : decode prog_15_method_2_code 0 = .ok (.iconst 0, 1) := by decide +kernel
theorem d_It_coins_1 : decode prog_15_method_2_code 1 = .ok (.aload_n 0, 1) := by decide +kernel
theorem d_It_coins_2 : decode prog_15_method_2_code 2 = .ok (.getfield 13, 3) := by decide +kernel
theorem d_It_coins_5 : decode prog_15_method_2_code 5 = .ok (.invokestatic 16, 3) := by decide +kernel
theorem d_It_coins_8 : decode prog_15_method_2_code 8 = .ok (.ireturn, 1) := by decide +kernel
theorem d_Cl_oftenOf_0 : decode method_8_code 0 = .ok (.iconst 0, 1) := by decide +kernel
theorem d_Cl_oftenOf_1 : decode method_8_code 1 = .ok (.istore_n 2, 1) := by decide +kernel
theorem d_Cl_oftenOf_2 : decode method_8_code 2 = .ok (.aload_n 0, 1) := by decide +kernel
theorem d_Cl_oftenOf_3 : decode method_8_code 3 = .ok (.invokevirtual 161, 3) := by decide +kernel
theorem d_Cl_oftenOf_6 : decode method_8_code 6 = .ok (.astore_n 3, 1) := by decide +kernel
theorem d_Cl_oftenOf_7 : decode method_8_code 7 = .ok (.aload_n 3, 1) := by decide +kernel
theorem d_Cl_oftenOf_8 : decode method_8_code 8 = .ok (.invokeinterface 165 1, 5) := by decide +kernel
theorem d_Cl_oftenOf_13 : decode method_8_code 13 = .ok (.ifCond .eq 34, 3) := by decide +kernel
theorem d_Cl_oftenOf_16 : decode method_8_code 16 = .ok (.aload_n 3, 1) := by decide +kernel
theorem d_Cl_oftenOf_17 : decode method_8_code 17 = .ok (.invokeinterface 170 1, 5) := by decide +kernel
theorem d_Cl_oftenOf_22 : decode method_8_code 22 = .ok (.checkcast 228, 3) := by decide +kernel
theorem d_Cl_oftenOf_25 : decode method_8_code 25 = .ok (.astore 4, 2) := by decide +kernel
theorem d_Cl_oftenOf_27 : decode method_8_code 27 = .ok (.iload_n 2, 1) := by decide +kernel
theorem d_Cl_oftenOf_28 : decode method_8_code 28 = .ok (.aload 4, 2) := by decide +kernel
theorem d_Cl_oftenOf_30 : decode method_8_code 30 = .ok (.getfield 230, 3) := by decide +kernel
theorem d_Cl_oftenOf_33 : decode method_8_code 33 = .ok (.iload_n 1, 1) := by decide +kernel
theorem d_Cl_oftenOf_34 : decode method_8_code 34 = .ok (.if_icmp .ne 7, 3) := by decide +kernel
theorem d_Cl_oftenOf_37 : decode method_8_code 37 = .ok (.iconst 1, 1) := by decide +kernel
theorem d_Cl_oftenOf_38 : decode method_8_code 38 = .ok (.goto 4, 3) := by decide +kernel
theorem d_Cl_oftenOf_41 : decode method_8_code 41 = .ok (.iconst 0, 1) := by decide +kernel
theorem d_Cl_oftenOf_42 : decode method_8_code 42 = .ok (.iadd, 1) := by decide +kernel
theorem d_Cl_oftenOf_43 : decode method_8_code 43 = .ok (.istore_n 2, 1) := by decide +kernel
theorem d_Cl_oftenOf_44 : decode method_8_code 44 = .ok (.goto (-37), 3) := by decide +kernel
theorem d_Cl_oftenOf_47 : decode method_8_code 47 = .ok (.iload_n 2, 1) := by decide +kernel
theorem d_Cl_oftenOf_48 : decode method_8_code 48 = .ok (.ireturn, 1) := by decide +kernel
theorem d_It_error_0 : decode prog_15_method_3_code 0 = .ok (.aload_n 0, 1) := by decide +kernel
theorem d_It_error_1 : decode prog_15_method_3_code 1 = .ok (.getfield 7, 3) := by decide +kernel
theorem d_It_error_4 : decode prog_15_method_3_code 4 = .ok (.ifCond .ge 7, 3) := by decide +kernel
theorem d_It_error_7 : decode prog_15_method_3_code 7 = .ok (.iconst 0, 1) := by decide +kernel
theorem d_It_error_8 : decode prog_15_method_3_code 8 = .ok (.goto 12, 3) := by decide +kernel
theorem d_It_error_11 : decode prog_15_method_3_code 11 = .ok (.aload_n 0, 1) := by decide +kernel
theorem d_It_error_12 : decode prog_15_method_3_code 12 = .ok (.getfield 13, 3) := by decide +kernel
theorem d_It_error_15 : decode prog_15_method_3_code 15 = .ok (.aload_n 0, 1) := by decide +kernel
theorem d_It_error_16 : decode prog_15_method_3_code 16 = .ok (.getfield 7, 3) := by decide +kernel
theorem d_It_error_19 : decode prog_15_method_3_code 19 = .ok (.isub, 1) := by decide +kernel
theorem d_It_error_20 : decode prog_15_method_3_code 20 = .ok (.ireturn, 1) := by decide +kernel
theorem d_It_taint_0 : decode prog_15_method_4_code 0 = .ok (.aload_n 0, 1) := by decide +kernel
theorem d_It_taint_1 : decode prog_15_method_4_code 1 = .ok (.getfield 7, 3) := by decide +kernel
theorem d_It_taint_4 : decode prog_15_method_4_code 4 = .ok (.ifCond .ge 7, 3) := by decide +kernel
theorem d_It_taint_7 : decode prog_15_method_4_code 7 = .ok (.iconst 0, 1) := by decide +kernel
theorem d_It_taint_8 : decode prog_15_method_4_code 8 = .ok (.goto 16, 3) := by decide +kernel
theorem d_It_taint_11 : decode prog_15_method_4_code 11 = .ok (.sipush 10000, 3) := by decide +kernel
theorem d_It_taint_14 : decode prog_15_method_4_code 14 = .ok (.aload_n 0, 1) := by decide +kernel
theorem d_It_taint_15 : decode prog_15_method_4_code 15 = .ok (.invokevirtual 22, 3) := by decide +kernel
theorem d_It_taint_18 : decode prog_15_method_4_code 18 = .ok (.imul, 1) := by decide +kernel
theorem d_It_taint_19 : decode prog_15_method_4_code 19 = .ok (.aload_n 0, 1) := by decide +kernel
theorem d_It_taint_20 : decode prog_15_method_4_code 20 = .ok (.getfield 13, 3) := by decide +kernel
theorem d_It_taint_23 : decode prog_15_method_4_code 23 = .ok (.idiv, 1) := by decide +kernel
theorem d_It_taint_24 : decode prog_15_method_4_code 24 = .ok (.ireturn, 1) := by decide +kernel
theorem d_Bo_part_0 : decode prog_13_method_11_code 0 = .ok (.aload_n 0, 1) := by decide +kernel
theorem d_Bo_part_1 : decode prog_13_method_11_code 1 = .ok (.getfield 10, 3) := by decide +kernel
theorem d_Bo_part_4 : decode prog_13_method_11_code 4 = .ok (.aload_n 1, 1) := by decide +kernel
theorem d_Bo_part_5 : decode prog_13_method_11_code 5 = .ok (.getfield 96, 3) := by decide +kernel
theorem d_Bo_part_8 : decode prog_13_method_11_code 8 = .ok (.invokevirtual 70, 3) := by decide +kernel
theorem d_Bo_part_11 : decode prog_13_method_11_code 11 = .ok (.checkcast 32, 3) := by decide +kernel
theorem d_Bo_part_14 : decode prog_13_method_11_code 14 = .ok (.invokevirtual 119, 3) := by decide +kernel
theorem d_Bo_part_17 : decode prog_13_method_11_code 17 = .ok (.i2l, 1) := by decide +kernel
theorem d_Bo_part_18 : decode prog_13_method_11_code 18 = .ok (.aload_n 0, 1) := by decide +kernel
theorem d_Bo_part_19 : decode prog_13_method_11_code 19 = .ok (.getfield 28, 3) := by decide +kernel
theorem d_Bo_part_22 : decode prog_13_method_11_code 22 = .ok (.i2l, 1) := by decide +kernel
theorem d_Bo_part_23 : decode prog_13_method_11_code 23 = .ok (.lmul, 1) := by decide +kernel
theorem d_Bo_part_24 : decode prog_13_method_11_code 24 = .ok (.ldc2_w 122, 3) := by decide +kernel
theorem d_Bo_part_27 : decode prog_13_method_11_code 27 = .ok (.iload_n 2, 1) := by decide +kernel
theorem d_Bo_part_28 : decode prog_13_method_11_code 28 = .ok (.i2l, 1) := by decide +kernel
theorem d_Bo_part_29 : decode prog_13_method_11_code 29 = .ok (.lmul, 1) := by decide +kernel
theorem d_Bo_part_30 : decode prog_13_method_11_code 30 = .ok (.ldiv, 1) := by decide +kernel
theorem d_Bo_part_31 : decode prog_13_method_11_code 31 = .ok (.l2i, 1) := by decide +kernel
theorem d_Bo_part_32 : decode prog_13_method_11_code 32 = .ok (.ireturn, 1) := by decide +kernel
theorem d_Hs_iterator_0 : decode prog_52_method_6_code 0 = .ok (.aload_n 0, 1) := by decide +kernel
theorem d_Hs_iterator_1 : decode prog_52_method_6_code 1 = .ok (.getfield 10, 3) := by decide +kernel
theorem d_Hs_iterator_4 : decode prog_52_method_6_code 4 = .ok (.invokevirtual 45, 3) := by decide +kernel
theorem d_Hs_iterator_7 : decode prog_52_method_6_code 7 = .ok (.invokeinterface 49 1, 5) := by decide +kernel
theorem d_Hs_iterator_12 : decode prog_52_method_6_code 12 = .ok (.areturn, 1) := by decide +kernel
theorem d_Lh_hasNext_0 : decode prog_56_method_2_code 0 = .ok (.aload_n 0, 1) := by decide +kernel
theorem d_Lh_hasNext_1 : decode prog_56_method_2_code 1 = .ok (.getfield 26, 3) := by decide +kernel
theorem d_Lh_hasNext_4 : decode prog_56_method_2_code 4 = .ok (.ifnull 7, 3) := by decide +kernel
theorem d_Lh_hasNext_7 : decode prog_56_method_2_code 7 = .ok (.iconst 1, 1) := by decide +kernel
theorem d_Lh_hasNext_8 : decode prog_56_method_2_code 8 = .ok (.goto 4, 3) := by decide +kernel
theorem d_Lh_hasNext_11 : decode prog_56_method_2_code 11 = .ok (.iconst 0, 1) := by decide +kernel
theorem d_Lh_hasNext_12 : decode prog_56_method_2_code 12 = .ok (.ireturn, 1) := by decide +kernel
theorem d_Lk_next_0 : decode prog_57_method_2_code 0 = .ok (.aload_n 0, 1) := by decide +kernel
theorem d_Lk_next_1 : decode prog_57_method_2_code 1 = .ok (.invokevirtual 7, 3) := by decide +kernel
theorem d_Lk_next_4 : decode prog_57_method_2_code 4 = .ok (.invokevirtual 13, 3) := by decide +kernel
theorem d_Lk_next_7 : decode prog_57_method_2_code 7 = .ok (.areturn, 1) := by decide +kernel
theorem d_In_intValue_0 : decode prog_24_method_27_code 0 = .ok (.aload_n 0, 1) := by decide +kernel
theorem d_In_intValue_1 : decode prog_24_method_27_code 1 = .ok (.getfield 205, 3) := by decide +kernel
theorem d_In_intValue_4 : decode prog_24_method_27_code 4 = .ok (.ireturn, 1) := by decide +kernel
theorem d_In_valueOf_0 : decode prog_24_method_22_code 0 = .ok (.iload_n 0, 1) := by decide +kernel
theorem d_In_valueOf_1 : decode prog_24_method_22_code 1 = .ok (.bipush (-128), 2) := by decide +kernel
theorem d_In_valueOf_3 : decode prog_24_method_22_code 3 = .ok (.if_icmp .lt 20, 3) := by decide +kernel
theorem d_In_valueOf_6 : decode prog_24_method_22_code 6 = .ok (.iload_n 0, 1) := by decide +kernel
theorem d_In_valueOf_7 : decode prog_24_method_22_code 7 = .ok (.getstatic 191, 3) := by decide +kernel
theorem d_In_valueOf_10 : decode prog_24_method_22_code 10 = .ok (.if_icmp .gt 13, 3) := by decide +kernel
theorem d_In_valueOf_13 : decode prog_24_method_22_code 13 = .ok (.getstatic 195, 3) := by decide +kernel
theorem d_In_valueOf_16 : decode prog_24_method_22_code 16 = .ok (.iload_n 0, 1) := by decide +kernel
theorem d_In_valueOf_17 : decode prog_24_method_22_code 17 = .ok (.sipush 128, 3) := by decide +kernel
theorem d_In_valueOf_20 : decode prog_24_method_22_code 20 = .ok (.iadd, 1) := by decide +kernel
theorem d_In_valueOf_21 : decode prog_24_method_22_code 21 = .ok (.aaload, 1) := by decide +kernel
theorem d_In_valueOf_22 : decode prog_24_method_22_code 22 = .ok (.areturn, 1) := by decide +kernel
theorem d_In_valueOf_23 : decode prog_24_method_22_code 23 = .ok (.new 1, 3) := by decide +kernel
theorem d_In_valueOf_26 : decode prog_24_method_22_code 26 = .ok (.dup, 1) := by decide +kernel
theorem d_In_valueOf_27 : decode prog_24_method_22_code 27 = .ok (.iload_n 0, 1) := by decide +kernel
theorem d_In_valueOf_28 : decode prog_24_method_22_code 28 = .ok (.invokespecial 199, 3) := by decide +kernel
theorem d_In_valueOf_31 : decode prog_24_method_22_code 31 = .ok (.areturn, 1) := by decide +kernel
theorem d_Hs_add_0 : decode prog_52_method_10_code 0 = .ok (.aload_n 0, 1) := by decide +kernel
theorem d_Hs_add_1 : decode prog_52_method_10_code 1 = .ok (.getfield 10, 3) := by decide +kernel
theorem d_Hs_add_4 : decode prog_52_method_10_code 4 = .ok (.aload_n 1, 1) := by decide +kernel
theorem d_Hs_add_5 : decode prog_52_method_10_code 5 = .ok (.getstatic 64, 3) := by decide +kernel
theorem d_Hs_add_8 : decode prog_52_method_10_code 8 = .ok (.invokevirtual 68, 3) := by decide +kernel
theorem d_Hs_add_11 : decode prog_52_method_10_code 11 = .ok (.ifnonnull 7, 3) := by decide +kernel
theorem d_Hs_add_14 : decode prog_52_method_10_code 14 = .ok (.iconst 1, 1) := by decide +kernel
theorem d_Hs_add_15 : decode prog_52_method_10_code 15 = .ok (.goto 4, 3) := by decide +kernel
theorem d_Hs_add_18 : decode prog_52_method_10_code 18 = .ok (.iconst 0, 1) := by decide +kernel
theorem d_Hs_add_19 : decode prog_52_method_10_code 19 = .ok (.ireturn, 1) := by decide +kernel
theorem d_Bo_owners_0 : decode prog_13_method_4_code 0 = .ok (.iconst 0, 1) := by decide +kernel
theorem d_Bo_owners_1 : decode prog_13_method_4_code 1 = .ok (.istore_n 1, 1) := by decide +kernel
theorem d_Bo_owners_2 : decode prog_13_method_4_code 2 = .ok (.iconst 0, 1) := by decide +kernel
theorem d_Bo_owners_3 : decode prog_13_method_4_code 3 = .ok (.istore_n 2, 1) := by decide +kernel
theorem d_Bo_owners_4 : decode prog_13_method_4_code 4 = .ok (.aload_n 0, 1) := by decide +kernel
theorem d_Bo_owners_5 : decode prog_13_method_4_code 5 = .ok (.getfield 28, 3) := by decide +kernel
theorem d_Bo_owners_8 : decode prog_13_method_4_code 8 = .ok (.i2l, 1) := by decide +kernel
theorem d_Bo_owners_9 : decode prog_13_method_4_code 9 = .ok (.lstore_n 3, 1) := by decide +kernel
theorem d_Bo_owners_10 : decode prog_13_method_4_code 10 = .ok (.aload_n 0, 1) := by decide +kernel
theorem d_Bo_owners_11 : decode prog_13_method_4_code 11 = .ok (.getfield 10, 3) := by decide +kernel
theorem d_Bo_owners_14 : decode prog_13_method_4_code 14 = .ok (.invokevirtual 36, 3) := by decide +kernel
theorem d_Bo_owners_17 : decode prog_13_method_4_code 17 = .ok (.astore 5, 2) := by decide +kernel
theorem d_Bo_owners_19 : decode prog_13_method_4_code 19 = .ok (.aload 5, 2) := by decide +kernel
theorem d_Bo_owners_21 : decode prog_13_method_4_code 21 = .ok (.invokeinterface 40 1, 5) := by decide +kernel
theorem d_Bo_owners_26 : decode prog_13_method_4_code 26 = .ok (.ifCond .eq 52, 3) := by decide +kernel
theorem d_Bo_owners_29 : decode prog_13_method_4_code 29 = .ok (.aload 5, 2) := by decide +kernel
theorem d_Bo_owners_31 : decode prog_13_method_4_code 31 = .ok (.invokeinterface 46 1, 5) := by decide +kernel
theorem d_Bo_owners_36 : decode prog_13_method_4_code 36 = .ok (.checkcast 32, 3) := by decide +kernel
theorem d_Bo_owners_39 : decode prog_13_method_4_code 39 = .ok (.astore 6, 2) := by decide +kernel
theorem d_Bo_owners_41 : decode prog_13_method_4_code 41 = .ok (.iload_n 1, 1) := by decide +kernel
theorem d_Bo_owners_42 : decode prog_13_method_4_code 42 = .ok (.aload_n 0, 1) := by decide +kernel
theorem d_Bo_owners_43 : decode prog_13_method_4_code 43 = .ok (.aload 6, 2) := by decide +kernel
theorem d_Bo_owners_45 : decode prog_13_method_4_code 45 = .ok (.invokevirtual 54, 3) := by decide +kernel
theorem d_Bo_owners_48 : decode prog_13_method_4_code 48 = .ok (.ifCond .eq 7, 3) := by decide +kernel
theorem d_Bo_owners_51 : decode prog_13_method_4_code 51 = .ok (.iconst 0, 1) := by decide +kernel
theorem d_Bo_owners_52 : decode prog_13_method_4_code 52 = .ok (.goto 8, 3) := by decide +kernel
theorem d_Bo_owners_55 : decode prog_13_method_4_code 55 = .ok (.aload 6, 2) := by decide +kernel
theorem d_Bo_owners_57 : decode prog_13_method_4_code 57 = .ok (.invokevirtual 50, 3) := by decide +kernel
theorem d_Bo_owners_60 : decode prog_13_method_4_code 60 = .ok (.iadd, 1) := by decide +kernel
theorem d_Bo_owners_61 : decode prog_13_method_4_code 61 = .ok (.istore_n 1, 1) := by decide +kernel
theorem d_Bo_owners_62 : decode prog_13_method_4_code 62 = .ok (.ldc2_w 58, 3) := by decide +kernel
theorem d_Bo_owners_65 : decode prog_13_method_4_code 65 = .ok (.lload_n 3, 1) := by decide +kernel
theorem d_Bo_owners_66 : decode prog_13_method_4_code 66 = .ok (.lmul, 1) := by decide +kernel
theorem d_Bo_owners_67 : decode prog_13_method_4_code 67 = .ok (.aload 6, 2) := by decide +kernel
theorem d_Bo_owners_69 : decode prog_13_method_4_code 69 = .ok (.getfield 31, 3) := by decide +kernel
theorem d_Bo_owners_72 : decode prog_13_method_4_code 72 = .ok (.i2l, 1) := by decide +kernel
theorem d_Bo_owners_73 : decode prog_13_method_4_code 73 = .ok (.ladd, 1) := by decide +kernel
theorem d_Bo_owners_74 : decode prog_13_method_4_code 74 = .ok (.lstore_n 3, 1) := by decide +kernel
theorem d_Bo_owners_75 : decode prog_13_method_4_code 75 = .ok (.goto (-56), 3) := by decide +kernel
theorem d_Bo_owners_78 : decode prog_13_method_4_code 78 = .ok (.aload_n 0, 1) := by decide +kernel
theorem d_Bo_owners_79 : decode prog_13_method_4_code 79 = .ok (.getfield 60, 3) := by decide +kernel
theorem d_Bo_owners_82 : decode prog_13_method_4_code 82 = .ok (.ifnull 26, 3) := by decide +kernel
theorem d_Bo_owners_85 : decode prog_13_method_4_code 85 = .ok (.lload_n 3, 1) := by decide +kernel
theorem d_Bo_owners_86 : decode prog_13_method_4_code 86 = .ok (.aload_n 0, 1) := by decide +kernel
theorem d_Bo_owners_87 : decode prog_13_method_4_code 87 = .ok (.getfield 63, 3) := by decide +kernel
theorem d_Bo_owners_90 : decode prog_13_method_4_code 90 = .ok (.lcmp, 1) := by decide +kernel
theorem d_Bo_owners_91 : decode prog_13_method_4_code 91 = .ok (.ifCond .ne 17, 3) := by decide +kernel
theorem d_Bo_owners_94 : decode prog_13_method_4_code 94 = .ok (.aload_n 0, 1) := by decide +kernel
theorem d_Bo_owners_95 : decode prog_13_method_4_code 95 = .ok (.getfield 60, 3) := by decide +kernel
theorem d_Bo_owners_98 : decode prog_13_method_4_code 98 = .ok (.arraylength, 1) := by decide +kernel
theorem d_Bo_owners_99 : decode prog_13_method_4_code 99 = .ok (.iload_n 1, 1) := by decide +kernel
theorem d_Bo_owners_100 : decode prog_13_method_4_code 100 = .ok (.if_icmp .ne 8, 3) := by decide +kernel
theorem d_Bo_owners_103 : decode prog_13_method_4_code 103 = .ok (.aload_n 0, 1) := by decide +kernel
theorem d_Bo_owners_104 : decode prog_13_method_4_code 104 = .ok (.getfield 60, 3) := by decide +kernel
theorem d_Bo_owners_107 : decode prog_13_method_4_code 107 = .ok (.areturn, 1) := by decide +kernel
theorem d_Bo_owners_108 : decode prog_13_method_4_code 108 = .ok (.iload_n 1, 1) := by decide +kernel
theorem d_Bo_owners_109 : decode prog_13_method_4_code 109 = .ok (.newarray .int, 2) := by decide +kernel
theorem d_Bo_owners_111 : decode prog_13_method_4_code 111 = .ok (.astore 5, 2) := by decide +kernel
theorem d_Bo_owners_113 : decode prog_13_method_4_code 113 = .ok (.aload_n 0, 1) := by decide +kernel
theorem d_Bo_owners_114 : decode prog_13_method_4_code 114 = .ok (.aload 5, 2) := by decide +kernel
theorem d_Bo_owners_116 : decode prog_13_method_4_code 116 = .ok (.putfield 60, 3) := by decide +kernel
theorem d_Bo_owners_119 : decode prog_13_method_4_code 119 = .ok (.aload_n 0, 1) := by decide +kernel
theorem d_Bo_owners_120 : decode prog_13_method_4_code 120 = .ok (.lload_n 3, 1) := by decide +kernel
theorem d_Bo_owners_121 : decode prog_13_method_4_code 121 = .ok (.putfield 63, 3) := by decide +kernel
theorem d_Bo_owners_124 : decode prog_13_method_4_code 124 = .ok (.iconst 0, 1) := by decide +kernel
theorem d_Bo_owners_125 : decode prog_13_method_4_code 125 = .ok (.istore 6, 2) := by decide +kernel
theorem d_Bo_owners_127 : decode prog_13_method_4_code 127 = .ok (.iload 6, 2) := by decide +kernel
theorem d_Bo_owners_129 : decode prog_13_method_4_code 129 = .ok (.aload_n 0, 1) := by decide +kernel
theorem d_Bo_owners_130 : decode prog_13_method_4_code 130 = .ok (.getfield 10, 3) := by decide +kernel
theorem d_Bo_owners_133 : decode prog_13_method_4_code 133 = .ok (.invokevirtual 67, 3) := by decide +kernel
theorem d_Bo_owners_136 : decode prog_13_method_4_code 136 = .ok (.if_icmp .ge 66, 3) := by decide +kernel
theorem d_Bo_owners_139 : decode prog_13_method_4_code 139 = .ok (.iconst 0, 1) := by decide +kernel
theorem d_Bo_owners_140 : decode prog_13_method_4_code 140 = .ok (.istore 7, 2) := by decide +kernel
theorem d_Bo_owners_142 : decode prog_13_method_4_code 142 = .ok (.iload 7, 2) := by decide +kernel
theorem d_Bo_owners_144 : decode prog_13_method_4_code 144 = .ok (.aload_n 0, 1) := by decide +kernel
theorem d_Bo_owners_145 : decode prog_13_method_4_code 145 = .ok (.getfield 10, 3) := by decide +kernel
theorem d_Bo_owners_148 : decode prog_13_method_4_code 148 = .ok (.iload 6, 2) := by decide +kernel
theorem d_Bo_owners_150 : decode prog_13_method_4_code 150 = .ok (.invokevirtual 70, 3) := by decide +kernel
theorem d_Bo_owners_153 : decode prog_13_method_4_code 153 = .ok (.checkcast 32, 3) := by decide +kernel
theorem d_Bo_owners_156 : decode prog_13_method_4_code 156 = .ok (.invokevirtual 50, 3) := by decide +kernel
theorem d_Bo_owners_159 : decode prog_13_method_4_code 159 = .ok (.if_icmp .ge 37, 3) := by decide +kernel
theorem d_Bo_owners_162 : decode prog_13_method_4_code 162 = .ok (.aload_n 0, 1) := by decide +kernel
theorem d_Bo_owners_163 : decode prog_13_method_4_code 163 = .ok (.aload_n 0, 1) := by decide +kernel
theorem d_Bo_owners_164 : decode prog_13_method_4_code 164 = .ok (.getfield 10, 3) := by decide +kernel
theorem d_Bo_owners_167 : decode prog_13_method_4_code 167 = .ok (.iload 6, 2) := by decide +kernel
theorem d_Bo_owners_169 : decode prog_13_method_4_code 169 = .ok (.invokevirtual 70, 3) := by decide +kernel
theorem d_Bo_owners_172 : decode prog_13_method_4_code 172 = .ok (.checkcast 32, 3) := by decide +kernel
theorem d_Bo_owners_175 : decode prog_13_method_4_code 175 = .ok (.invokevirtual 54, 3) := by decide +kernel
theorem d_Bo_owners_178 : decode prog_13_method_4_code 178 = .ok (.ifCond .ne 18, 3) := by decide +kernel
theorem d_Bo_owners_181 : decode prog_13_method_4_code 181 = .ok (.aload 5, 2) := by decide +kernel
theorem d_Bo_owners_183 : decode prog_13_method_4_code 183 = .ok (.iload_n 2, 1) := by decide +kernel
theorem d_Bo_owners_184 : decode prog_13_method_4_code 184 = .ok (.iinc 2 1, 3) := by decide +kernel
theorem d_Bo_owners_187 : decode prog_13_method_4_code 187 = .ok (.iload 6, 2) := by decide +kernel
theorem d_Bo_owners_189 : decode prog_13_method_4_code 189 = .ok (.iastore, 1) := by decide +kernel
theorem d_Bo_owners_190 : decode prog_13_method_4_code 190 = .ok (.iinc 7 1, 3) := by decide +kernel
theorem d_Bo_owners_193 : decode prog_13_method_4_code 193 = .ok (.goto (-51), 3) := by decide +kernel
theorem d_Bo_owners_196 : decode prog_13_method_4_code 196 = .ok (.iinc 6 1, 3) := by decide +kernel
theorem d_Bo_owners_199 : decode prog_13_method_4_code 199 = .ok (.goto (-72), 3) := by decide +kernel
theorem d_Bo_owners_202 : decode prog_13_method_4_code 202 = .ok (.aload 5, 2) := by decide +kernel
theorem d_Bo_owners_204 : decode prog_13_method_4_code 204 = .ok (.areturn, 1) := by decide +kernel
theorem d_Bo_drawn_0 : decode prog_13_method_7_code 0 = .ok (.aload_n 0, 1) := by decide +kernel
theorem d_Bo_drawn_1 : decode prog_13_method_7_code 1 = .ok (.getfield 10, 3) := by decide +kernel
theorem d_Bo_drawn_4 : decode prog_13_method_7_code 4 = .ok (.invokevirtual 67, 3) := by decide +kernel
theorem d_Bo_drawn_7 : decode prog_13_method_7_code 7 = .ok (.newarray .boolean, 2) := by decide +kernel
theorem d_Bo_drawn_9 : decode prog_13_method_7_code 9 = .ok (.astore_n 2, 1) := by decide +kernel
theorem d_Bo_drawn_10 : decode prog_13_method_7_code 10 = .ok (.aload_n 1, 1) := by decide +kernel
theorem d_Bo_drawn_11 : decode prog_13_method_7_code 11 = .ok (.invokevirtual 36, 3) := by decide +kernel
theorem d_Bo_drawn_14 : decode prog_13_method_7_code 14 = .ok (.astore_n 3, 1) := by decide +kernel
theorem d_Bo_drawn_15 : decode prog_13_method_7_code 15 = .ok (.aload_n 3, 1) := by decide +kernel
theorem d_Bo_drawn_16 : decode prog_13_method_7_code 16 = .ok (.invokeinterface 40 1, 5) := by decide +kernel
theorem d_Bo_drawn_21 : decode prog_13_method_7_code 21 = .ok (.ifCond .eq 25, 3) := by decide +kernel
theorem d_Bo_drawn_24 : decode prog_13_method_7_code 24 = .ok (.aload_n 3, 1) := by decide +kernel
theorem d_Bo_drawn_25 : decode prog_13_method_7_code 25 = .ok (.invokeinterface 46 1, 5) := by decide +kernel
theorem d_Bo_drawn_30 : decode prog_13_method_7_code 30 = .ok (.checkcast 87, 3) := by decide +kernel
theorem d_Bo_drawn_33 : decode prog_13_method_7_code 33 = .ok (.astore 4, 2) := by decide +kernel
theorem d_Bo_drawn_35 : decode prog_13_method_7_code 35 = .ok (.aload_n 2, 1) := by decide +kernel
theorem d_Bo_drawn_36 : decode prog_13_method_7_code 36 = .ok (.aload 4, 2) := by decide +kernel
theorem d_Bo_drawn_38 : decode prog_13_method_7_code 38 = .ok (.getfield 96, 3) := by decide +kernel
theorem d_Bo_drawn_41 : decode prog_13_method_7_code 41 = .ok (.iconst 1, 1) := by decide +kernel
theorem d_Bo_drawn_42 : decode prog_13_method_7_code 42 = .ok (.bastore, 1) := by decide +kernel
theorem d_Bo_drawn_43 : decode prog_13_method_7_code 43 = .ok (.goto (-28), 3) := by decide +kernel
theorem d_Bo_drawn_46 : decode prog_13_method_7_code 46 = .ok (.iconst 0, 1) := by decide +kernel
theorem d_Bo_drawn_47 : decode prog_13_method_7_code 47 = .ok (.istore_n 3, 1) := by decide +kernel
theorem d_Bo_drawn_48 : decode prog_13_method_7_code 48 = .ok (.iload_n 3, 1) := by decide +kernel
theorem d_Bo_drawn_49 : decode prog_13_method_7_code 49 = .ok (.aload_n 2, 1) := by decide +kernel
theorem d_Bo_drawn_50 : decode prog_13_method_7_code 50 = .ok (.arraylength, 1) := by decide +kernel
theorem d_Bo_drawn_51 : decode prog_13_method_7_code 51 = .ok (.if_icmp .ge 30, 3) := by decide +kernel
theorem d_Bo_drawn_54 : decode prog_13_method_7_code 54 = .ok (.aload_n 2, 1) := by decide +kernel
theorem d_Bo_drawn_55 : decode prog_13_method_7_code 55 = .ok (.iload_n 3, 1) := by decide +kernel
theorem d_Bo_drawn_56 : decode prog_13_method_7_code 56 = .ok (.dup2, 1) := by decide +kernel
theorem d_Bo_drawn_57 : decode prog_13_method_7_code 57 = .ok (.baload, 1) := by decide +kernel
theorem d_Bo_drawn_58 : decode prog_13_method_7_code 58 = .ok (.aload_n 0, 1) := by decide +kernel
theorem d_Bo_drawn_59 : decode prog_13_method_7_code 59 = .ok (.aload_n 0, 1) := by decide +kernel
theorem d_Bo_drawn_60 : decode prog_13_method_7_code 60 = .ok (.getfield 10, 3) := by decide +kernel
theorem d_Bo_drawn_63 : decode prog_13_method_7_code 63 = .ok (.iload_n 3, 1) := by decide +kernel
theorem d_Bo_drawn_64 : decode prog_13_method_7_code 64 = .ok (.invokevirtual 70, 3) := by decide +kernel
theorem d_Bo_drawn_67 : decode prog_13_method_7_code 67 = .ok (.checkcast 32, 3) := by decide +kernel
theorem d_Bo_drawn_70 : decode prog_13_method_7_code 70 = .ok (.invokevirtual 54, 3) := by decide +kernel
theorem d_Bo_drawn_73 : decode prog_13_method_7_code 73 = .ok (.ior, 1) := by decide +kernel
theorem d_Bo_drawn_74 : decode prog_13_method_7_code 74 = .ok (.bastore, 1) := by decide +kernel
theorem d_Bo_drawn_75 : decode prog_13_method_7_code 75 = .ok (.iinc 3 1, 3) := by decide +kernel
theorem d_Bo_drawn_78 : decode prog_13_method_7_code 78 = .ok (.goto (-30), 3) := by decide +kernel
theorem d_Bo_drawn_81 : decode prog_13_method_7_code 81 = .ok (.aload_n 2, 1) := by decide +kernel
theorem d_Bo_drawn_82 : decode prog_13_method_7_code 82 = .ok (.areturn, 1) := by decide +kernel
theorem d_Sb_init_0 : decode prog_31_method_1_code 0 = .ok (.aload_n 0, 1) := by decide +kernel
theorem d_Sb_init_1 : decode prog_31_method_1_code 1 = .ok (.bipush 16, 2) := by decide +kernel
theorem d_Sb_init_3 : decode prog_31_method_1_code 3 = .ok (.invokespecial 1, 3) := by decide +kernel
theorem d_Sb_init_6 : decode prog_31_method_1_code 6 = .ok (.return_, 1) := by decide +kernel
theorem d_Sb_append_bf812_0 : decode prog_31_method_15_code 0 = .ok (.aload_n 0, 1) := by decide +kernel
theorem d_Sb_append_bf812_1 : decode prog_31_method_15_code 1 = .ok (.iload_n 1, 1) := by decide +kernel
theorem d_Sb_append_bf812_2 : decode prog_31_method_15_code 2 = .ok (.invokespecial 53, 3) := by decide +kernel
theorem d_Sb_append_bf812_5 : decode prog_31_method_15_code 5 = .ok (.pop, 1) := by decide +kernel
theorem d_Sb_append_bf812_6 : decode prog_31_method_15_code 6 = .ok (.aload_n 0, 1) := by decide +kernel
theorem d_Sb_append_bf812_7 : decode prog_31_method_15_code 7 = .ok (.areturn, 1) := by decide +kernel
theorem d_Sb_append_15ec4_0 : decode prog_31_method_7_code 0 = .ok (.aload_n 0, 1) := by decide +kernel
theorem d_Sb_append_15ec4_1 : decode prog_31_method_7_code 1 = .ok (.aload_n 1, 1) := by decide +kernel
theorem d_Sb_append_15ec4_2 : decode prog_31_method_7_code 2 = .ok (.invokespecial 29, 3) := by decide +kernel
theorem d_Sb_append_15ec4_5 : decode prog_31_method_7_code 5 = .ok (.pop, 1) := by decide +kernel
theorem d_Sb_append_15ec4_6 : decode prog_31_method_7_code 6 = .ok (.aload_n 0, 1) := by decide +kernel
theorem d_Sb_append_15ec4_7 : decode prog_31_method_7_code 7 = .ok (.areturn, 1) := by decide +kernel
theorem d_Sb_toString_0 : decode prog_31_method_42_code 0 = .ok (.new 18, 3) := by decide +kernel
theorem d_Sb_toString_3 : decode prog_31_method_42_code 3 = .ok (.dup, 1) := by decide +kernel
theorem d_Sb_toString_4 : decode prog_31_method_42_code 4 = .ok (.aload_n 0, 1) := by decide +kernel
theorem d_Sb_toString_5 : decode prog_31_method_42_code 5 = .ok (.invokespecial 137, 3) := by decide +kernel
theorem d_Sb_toString_8 : decode prog_31_method_42_code 8 = .ok (.areturn, 1) := by decide +kernel
theorem d_Bo_projected_0 : decode prog_13_method_12_code 0 = .ok (.iconst 0, 1) := by decide +kernel
theorem d_Bo_projected_1 : decode prog_13_method_12_code 1 = .ok (.istore 4, 2) := by decide +kernel
theorem d_Bo_projected_3 : decode prog_13_method_12_code 3 = .ok (.aload_n 1, 1) := by decide +kernel
theorem d_Bo_projected_4 : decode prog_13_method_12_code 4 = .ok (.invokevirtual 36, 3) := by decide +kernel
theorem d_Bo_projected_7 : decode prog_13_method_12_code 7 = .ok (.astore 5, 2) := by decide +kernel
theorem d_Bo_projected_9 : decode prog_13_method_12_code 9 = .ok (.aload 5, 2) := by decide +kernel
theorem d_Bo_projected_11 : decode prog_13_method_12_code 11 = .ok (.invokeinterface 40 1, 5) := by decide +kernel
theorem d_Bo_projected_16 : decode prog_13_method_12_code 16 = .ok (.ifCond .eq 36, 3) := by decide +kernel
