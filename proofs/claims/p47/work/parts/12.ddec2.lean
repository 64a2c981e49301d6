-- instructions, decoded
theorem d_Cl_lists_311 : decode method_11_code 311 = .ok (.goto (-47), 3) := by decide +kernel
theorem d_Cl_lists_314 : decode method_11_code 314 = .ok (.iinc 6 1, 3) := by decide +kernel
theorem d_Cl_lists_317 : decode method_11_code 317 = .ok (.iinc 9 1, 3) := by decide +kernel
theorem d_Cl_lists_320 : decode method_11_code 320 = .ok (.goto (-299), 3) := by decide +kernel
theorem d_Cl_lists_323 : decode method_11_code 323 = .ok (.aload_n 1, 1) := by decide +kernel
theorem d_Cl_lists_324 : decode method_11_code 324 = .ok (.invokevirtual 182, 3) := by decide +kernel
theorem d_Cl_lists_327 : decode method_11_code 327 = .ok (.ifCond .ne 7, 3) := by decide +kernel
theorem d_Cl_lists_330 : decode method_11_code 330 = .ok (.iconst 0, 1) := by decide +kernel
theorem d_Cl_lists_331 : decode method_11_code 331 = .ok (.goto 16, 3) := by decide +kernel
theorem d_Cl_lists_334 : decode method_11_code 334 = .ok (.ldc2_w 314, 3) := by decide +kernel
theorem d_Cl_lists_337 : decode method_11_code 337 = .ok (.lload 7, 2) := by decide +kernel
theorem d_Cl_lists_339 : decode method_11_code 339 = .ok (.lmul, 1) := by decide +kernel
theorem d_Cl_lists_340 : decode method_11_code 340 = .ok (.aload_n 1, 1) := by decide +kernel
theorem d_Cl_lists_341 : decode method_11_code 341 = .ok (.invokevirtual 182, 3) := by decide +kernel
theorem d_Cl_lists_344 : decode method_11_code 344 = .ok (.i2l, 1) := by decide +kernel
theorem d_Cl_lists_345 : decode method_11_code 345 = .ok (.ldiv, 1) := by decide +kernel
theorem d_Cl_lists_346 : decode method_11_code 346 = .ok (.l2i, 1) := by decide +kernel
theorem d_Cl_lists_347 : decode method_11_code 347 = .ok (.istore 9, 2) := by decide +kernel
theorem d_Cl_lists_349 : decode method_11_code 349 = .ok (.aload_n 0, 1) := by decide +kernel
theorem d_Cl_lists_350 : decode method_11_code 350 = .ok (.iconst (-1), 1) := by decide +kernel
theorem d_Cl_lists_351 : decode method_11_code 351 = .ok (.invokevirtual 294, 3) := by decide +kernel
theorem d_Cl_lists_354 : decode method_11_code 354 = .ok (.iload 4, 2) := by decide +kernel
theorem d_Cl_lists_356 : decode method_11_code 356 = .ok (.if_icmp .ne 138, 3) := by decide +kernel
theorem d_Cl_lists_359 : decode method_11_code 359 = .ok (.aload_n 0, 1) := by decide +kernel
theorem d_Cl_lists_360 : decode method_11_code 360 = .ok (.iconst (-1), 1) := by decide +kernel
theorem d_Cl_lists_361 : decode method_11_code 361 = .ok (.invokevirtual 296, 3) := by decide +kernel
theorem d_Cl_lists_364 : decode method_11_code 364 = .ok (.iload 5, 2) := by decide +kernel
theorem d_Cl_lists_366 : decode method_11_code 366 = .ok (.if_icmp .ne 128, 3) := by decide +kernel
theorem d_Cl_lists_369 : decode method_11_code 369 = .ok (.aload_n 0, 1) := by decide +kernel
theorem d_Cl_lists_370 : decode method_11_code 370 = .ok (.iconst (-1), 1) := by decide +kernel
theorem d_Cl_lists_371 : decode method_11_code 371 = .ok (.invokevirtual 309, 3) := by decide +kernel
theorem d_Cl_lists_374 : decode method_11_code 374 = .ok (.iload 6, 2) := by decide +kernel
theorem d_Cl_lists_376 : decode method_11_code 376 = .ok (.if_icmp .ne 118, 3) := by decide +kernel
theorem d_Cl_lists_379 : decode method_11_code 379 = .ok (.aload_n 0, 1) := by decide +kernel
theorem d_Cl_lists_380 : decode method_11_code 380 = .ok (.iload 4, 2) := by decide +kernel
theorem d_Cl_lists_382 : decode method_11_code 382 = .ok (.invokevirtual 294, 3) := by decide +kernel
theorem d_Cl_lists_385 : decode method_11_code 385 = .ok (.iconst (-1), 1) := by decide +kernel
theorem d_Cl_lists_386 : decode method_11_code 386 = .ok (.if_icmp .ne 108, 3) := by decide +kernel
theorem d_Cl_lists_389 : decode method_11_code 389 = .ok (.aload_n 0, 1) := by decide +kernel
theorem d_Cl_lists_390 : decode method_11_code 390 = .ok (.iload 5, 2) := by decide +kernel
theorem d_Cl_lists_392 : decode method_11_code 392 = .ok (.invokevirtual 296, 3) := by decide +kernel
theorem d_Cl_lists_395 : decode method_11_code 395 = .ok (.iconst (-1), 1) := by decide +kernel
theorem d_Cl_lists_396 : decode method_11_code 396 = .ok (.if_icmp .ne 98, 3) := by decide +kernel
theorem d_Cl_lists_399 : decode method_11_code 399 = .ok (.aload_n 0, 1) := by decide +kernel
theorem d_Cl_lists_400 : decode method_11_code 400 = .ok (.iload 6, 2) := by decide +kernel
theorem d_Cl_lists_402 : decode method_11_code 402 = .ok (.invokevirtual 309, 3) := by decide +kernel
theorem d_Cl_lists_405 : decode method_11_code 405 = .ok (.iconst (-1), 1) := by decide +kernel
theorem d_Cl_lists_406 : decode method_11_code 406 = .ok (.if_icmp .ne 88, 3) := by decide +kernel
theorem d_Cl_lists_409 : decode method_11_code 409 = .ok (.aload_n 0, 1) := by decide +kernel
theorem d_Cl_lists_410 : decode method_11_code 410 = .ok (.bipush (-2), 2) := by decide +kernel
theorem d_Cl_lists_412 : decode method_11_code 412 = .ok (.invokevirtual 294, 3) := by decide +kernel
theorem d_Cl_lists_415 : decode method_11_code 415 = .ok (.bipush (-3), 2) := by decide +kernel
theorem d_Cl_lists_417 : decode method_11_code 417 = .ok (.if_icmp .ne 77, 3) := by decide +kernel
theorem d_Cl_lists_420 : decode method_11_code 420 = .ok (.aload_n 0, 1) := by decide +kernel
theorem d_Cl_lists_421 : decode method_11_code 421 = .ok (.bipush (-2), 2) := by decide +kernel
theorem d_Cl_lists_423 : decode method_11_code 423 = .ok (.invokevirtual 296, 3) := by decide +kernel
theorem d_Cl_lists_426 : decode method_11_code 426 = .ok (.bipush (-3), 2) := by decide +kernel
theorem d_Cl_lists_428 : decode method_11_code 428 = .ok (.if_icmp .ne 66, 3) := by decide +kernel
theorem d_Cl_lists_431 : decode method_11_code 431 = .ok (.aload_n 0, 1) := by decide +kernel
theorem d_Cl_lists_432 : decode method_11_code 432 = .ok (.bipush (-2), 2) := by decide +kernel
theorem d_Cl_lists_434 : decode method_11_code 434 = .ok (.invokevirtual 309, 3) := by decide +kernel
theorem d_Cl_lists_437 : decode method_11_code 437 = .ok (.bipush (-3), 2) := by decide +kernel
theorem d_Cl_lists_439 : decode method_11_code 439 = .ok (.if_icmp .ne 55, 3) := by decide +kernel
theorem d_Cl_lists_442 : decode method_11_code 442 = .ok (.aload_n 0, 1) := by decide +kernel
theorem d_Cl_lists_443 : decode method_11_code 443 = .ok (.iload 6, 2) := by decide +kernel
theorem d_Cl_lists_445 : decode method_11_code 445 = .ok (.iconst 0, 1) := by decide +kernel
theorem d_Cl_lists_446 : decode method_11_code 446 = .ok (.invokevirtual 311, 3) := by decide +kernel
theorem d_Cl_lists_449 : decode method_11_code 449 = .ok (.bipush (-2), 2) := by decide +kernel
theorem d_Cl_lists_451 : decode method_11_code 451 = .ok (.if_icmp .ne 43, 3) := by decide +kernel
theorem d_Cl_lists_454 : decode method_11_code 454 = .ok (.aload_n 0, 1) := by decide +kernel
theorem d_Cl_lists_455 : decode method_11_code 455 = .ok (.iconst (-1), 1) := by decide +kernel
theorem d_Cl_lists_456 : decode method_11_code 456 = .ok (.iconst 0, 1) := by decide +kernel
theorem d_Cl_lists_457 : decode method_11_code 457 = .ok (.invokevirtual 311, 3) := by decide +kernel
theorem d_Cl_lists_460 : decode method_11_code 460 = .ok (.bipush (-2), 2) := by decide +kernel
theorem d_Cl_lists_462 : decode method_11_code 462 = .ok (.if_icmp .ne 32, 3) := by decide +kernel
theorem d_Cl_lists_465 : decode method_11_code 465 = .ok (.iload 6, 2) := by decide +kernel
theorem d_Cl_lists_467 : decode method_11_code 467 = .ok (.ifCond .eq 14, 3) := by decide +kernel
theorem d_Cl_lists_470 : decode method_11_code 470 = .ok (.aload_n 0, 1) := by decide +kernel
theorem d_Cl_lists_471 : decode method_11_code 471 = .ok (.iconst 0, 1) := by decide +kernel
theorem d_Cl_lists_472 : decode method_11_code 472 = .ok (.iconst (-1), 1) := by decide +kernel
theorem d_Cl_lists_473 : decode method_11_code 473 = .ok (.invokevirtual 311, 3) := by decide +kernel
theorem d_Cl_lists_476 : decode method_11_code 476 = .ok (.bipush (-3), 2) := by decide +kernel
theorem d_Cl_lists_478 : decode method_11_code 478 = .ok (.if_icmp .ne 16, 3) := by decide +kernel
theorem d_Cl_lists_481 : decode method_11_code 481 = .ok (.aload_n 0, 1) := by decide +kernel
theorem d_Cl_lists_482 : decode method_11_code 482 = .ok (.invokevirtual 316, 3) := by decide +kernel
theorem d_Cl_lists_485 : decode method_11_code 485 = .ok (.iload 9, 2) := by decide +kernel
theorem d_Cl_lists_487 : decode method_11_code 487 = .ok (.if_icmp .ne 7, 3) := by decide +kernel
theorem d_Cl_lists_490 : decode method_11_code 490 = .ok (.iconst 1, 1) := by decide +kernel
theorem d_Cl_lists_491 : decode method_11_code 491 = .ok (.goto 4, 3) := by decide +kernel
theorem d_Cl_lists_494 : decode method_11_code 494 = .ok (.iconst 0, 1) := by decide +kernel
theorem d_Cl_lists_495 : decode method_11_code 495 = .ok (.ireturn, 1) := by decide +kernel
theorem d_Cl_makes_0 : decode method_12_code 0 = .ok (.aload_n 1, 1) := by decide +kernel
theorem d_Cl_makes_1 : decode method_12_code 1 = .ok (.getfield 38, 3) := by decide +kernel
theorem d_Cl_makes_4 : decode method_12_code 4 = .ok (.invokevirtual 63, 3) := by decide +kernel
theorem d_Cl_makes_7 : decode method_12_code 7 = .ok (.istore_n 3, 1) := by decide +kernel
theorem d_Cl_makes_8 : decode method_12_code 8 = .ok (.aload_n 2, 1) := by decide +kernel
theorem d_Cl_makes_9 : decode method_12_code 9 = .ok (.invokevirtual 63, 3) := by decide +kernel
theorem d_Cl_makes_12 : decode method_12_code 12 = .ok (.istore 4, 2) := by decide +kernel
theorem d_Cl_makes_14 : decode method_12_code 14 = .ok (.aload_n 0, 1) := by decide +kernel
theorem d_Cl_makes_15 : decode method_12_code 15 = .ok (.iconst (-1), 1) := by decide +kernel
theorem d_Cl_makes_16 : decode method_12_code 16 = .ok (.invokevirtual 296, 3) := by decide +kernel
theorem d_Cl_makes_19 : decode method_12_code 19 = .ok (.istore 5, 2) := by decide +kernel
theorem d_Cl_makes_21 : decode method_12_code 21 = .ok (.iload_n 3, 1) := by decide +kernel
theorem d_Cl_makes_22 : decode method_12_code 22 = .ok (.ifCond .ne 57, 3) := by decide +kernel
theorem d_Cl_makes_25 : decode method_12_code 25 = .ok (.aload_n 0, 1) := by decide +kernel
theorem d_Cl_makes_26 : decode method_12_code 26 = .ok (.iconst 0, 1) := by decide +kernel
theorem d_Cl_makes_27 : decode method_12_code 27 = .ok (.invokevirtual 319, 3) := by decide +kernel
theorem d_Cl_makes_30 : decode method_12_code 30 = .ok (.ldc 151, 2) := by decide +kernel
theorem d_Cl_makes_32 : decode method_12_code 32 = .ok (.if_icmp .ne 45, 3) := by decide +kernel
theorem d_Cl_makes_35 : decode method_12_code 35 = .ok (.aload_n 0, 1) := by decide +kernel
theorem d_Cl_makes_36 : decode method_12_code 36 = .ok (.iconst 3, 1) := by decide +kernel
theorem d_Cl_makes_37 : decode method_12_code 37 = .ok (.invokevirtual 322, 3) := by decide +kernel
theorem d_Cl_makes_40 : decode method_12_code 40 = .ok (.ldc 151, 2) := by decide +kernel
theorem d_Cl_makes_42 : decode method_12_code 42 = .ok (.if_icmp .ne 35, 3) := by decide +kernel
theorem d_Cl_makes_45 : decode method_12_code 45 = .ok (.aload_n 0, 1) := by decide +kernel
theorem d_Cl_makes_46 : decode method_12_code 46 = .ok (.iconst 3, 1) := by decide +kernel
theorem d_Cl_makes_47 : decode method_12_code 47 = .ok (.invokevirtual 325, 3) := by decide +kernel
theorem d_Cl_makes_50 : decode method_12_code 50 = .ok (.ldc 151, 2) := by decide +kernel
theorem d_Cl_makes_52 : decode method_12_code 52 = .ok (.if_icmp .ne 25, 3) := by decide +kernel
theorem d_Cl_makes_55 : decode method_12_code 55 = .ok (.aload_n 0, 1) := by decide +kernel
theorem d_Cl_makes_56 : decode method_12_code 56 = .ok (.iconst 0, 1) := by decide +kernel
theorem d_Cl_makes_57 : decode method_12_code 57 = .ok (.iconst 0, 1) := by decide +kernel
theorem d_Cl_makes_58 : decode method_12_code 58 = .ok (.invokevirtual 328, 3) := by decide +kernel
theorem d_Cl_makes_61 : decode method_12_code 61 = .ok (.bipush (-2), 2) := by decide +kernel
theorem d_Cl_makes_63 : decode method_12_code 63 = .ok (.if_icmp .ne 14, 3) := by decide +kernel
theorem d_Cl_makes_66 : decode method_12_code 66 = .ok (.aload_n 0, 1) := by decide +kernel
theorem d_Cl_makes_67 : decode method_12_code 67 = .ok (.invokevirtual 330, 3) := by decide +kernel
theorem d_Cl_makes_70 : decode method_12_code 70 = .ok (.ifCond .ne 7, 3) := by decide +kernel
theorem d_Cl_makes_73 : decode method_12_code 73 = .ok (.iconst 1, 1) := by decide +kernel
theorem d_Cl_makes_74 : decode method_12_code 74 = .ok (.goto 4, 3) := by decide +kernel
theorem d_Cl_makes_77 : decode method_12_code 77 = .ok (.iconst 0, 1) := by decide +kernel
theorem d_Cl_makes_78 : decode method_12_code 78 = .ok (.ireturn, 1) := by decide +kernel
theorem d_Cl_makes_79 : decode method_12_code 79 = .ok (.aload_n 1, 1) := by decide +kernel
theorem d_Cl_makes_80 : decode method_12_code 80 = .ok (.aload_n 2, 1) := by decide +kernel
theorem d_Cl_makes_81 : decode method_12_code 81 = .ok (.iload_n 3, 1) := by decide +kernel
theorem d_Cl_makes_82 : decode method_12_code 82 = .ok (.iconst 1, 1) := by decide +kernel
theorem d_Cl_makes_83 : decode method_12_code 83 = .ok (.invokevirtual 333, 3) := by decide +kernel
theorem d_Cl_makes_86 : decode method_12_code 86 = .ok (.istore 6, 2) := by decide +kernel
theorem d_Cl_makes_88 : decode method_12_code 88 = .ok (.aload_n 1, 1) := by decide +kernel
theorem d_Cl_makes_89 : decode method_12_code 89 = .ok (.aload_n 2, 1) := by decide +kernel
theorem d_Cl_makes_90 : decode method_12_code 90 = .ok (.iload_n 3, 1) := by decide +kernel
theorem d_Cl_makes_91 : decode method_12_code 91 = .ok (.iconst (-1), 1) := by decide +kernel
theorem d_Cl_makes_92 : decode method_12_code 92 = .ok (.invokevirtual 333, 3) := by decide +kernel
theorem d_Cl_makes_95 : decode method_12_code 95 = .ok (.istore 7, 2) := by decide +kernel
theorem d_Cl_makes_97 : decode method_12_code 97 = .ok (.aload_n 1, 1) := by decide +kernel
theorem d_Cl_makes_98 : decode method_12_code 98 = .ok (.iconst 1, 1) := by decide +kernel
theorem d_Cl_makes_99 : decode method_12_code 99 = .ok (.invokevirtual 336, 3) := by decide +kernel
theorem d_Cl_makes_102 : decode method_12_code 102 = .ok (.istore 8, 2) := by decide +kernel
theorem d_Cl_makes_104 : decode method_12_code 104 = .ok (.aload_n 1, 1) := by decide +kernel
theorem d_Cl_makes_105 : decode method_12_code 105 = .ok (.iconst (-1), 1) := by decide +kernel
theorem d_Cl_makes_106 : decode method_12_code 106 = .ok (.invokevirtual 336, 3) := by decide +kernel
theorem d_Cl_makes_109 : decode method_12_code 109 = .ok (.istore 9, 2) := by decide +kernel
theorem d_Cl_makes_111 : decode method_12_code 111 = .ok (.aload_n 1, 1) := by decide +kernel
theorem d_Cl_makes_112 : decode method_12_code 112 = .ok (.iconst 1, 1) := by decide +kernel
theorem d_Cl_makes_113 : decode method_12_code 113 = .ok (.iload_n 3, 1) := by decide +kernel
theorem d_Cl_makes_114 : decode method_12_code 114 = .ok (.iconst 0, 1) := by decide +kernel
theorem d_Cl_makes_115 : decode method_12_code 115 = .ok (.invokevirtual 339, 3) := by decide +kernel
theorem d_Cl_makes_118 : decode method_12_code 118 = .ok (.istore 10, 2) := by decide +kernel
theorem d_Cl_makes_120 : decode method_12_code 120 = .ok (.aload_n 0, 1) := by decide +kernel
theorem d_Cl_makes_121 : decode method_12_code 121 = .ok (.iconst 0, 1) := by decide +kernel
theorem d_Cl_makes_122 : decode method_12_code 122 = .ok (.invokevirtual 319, 3) := by decide +kernel
theorem d_Cl_makes_125 : decode method_12_code 125 = .ok (.iload 6, 2) := by decide +kernel
theorem d_Cl_makes_127 : decode method_12_code 127 = .ok (.if_icmp .ne 62, 3) := by decide +kernel
theorem d_Cl_makes_130 : decode method_12_code 130 = .ok (.aload_n 0, 1) := by decide +kernel
theorem d_Cl_makes_131 : decode method_12_code 131 = .ok (.iconst 1, 1) := by decide +kernel
theorem d_Cl_makes_132 : decode method_12_code 132 = .ok (.invokevirtual 319, 3) := by decide +kernel
theorem d_Cl_makes_135 : decode method_12_code 135 = .ok (.iload 7, 2) := by decide +kernel
theorem d_Cl_makes_137 : decode method_12_code 137 = .ok (.if_icmp .ne 52, 3) := by decide +kernel
theorem d_Cl_makes_140 : decode method_12_code 140 = .ok (.aload_n 0, 1) := by decide +kernel
theorem d_Cl_makes_141 : decode method_12_code 141 = .ok (.iconst 2, 1) := by decide +kernel
theorem d_Cl_makes_142 : decode method_12_code 142 = .ok (.invokevirtual 319, 3) := by decide +kernel
theorem d_Cl_makes_145 : decode method_12_code 145 = .ok (.iload 8, 2) := by decide +kernel
theorem d_Cl_makes_147 : decode method_12_code 147 = .ok (.if_icmp .ne 42, 3) := by decide +kernel
theorem d_Cl_makes_150 : decode method_12_code 150 = .ok (.aload_n 0, 1) := by decide +kernel
theorem d_Cl_makes_151 : decode method_12_code 151 = .ok (.iconst 3, 1) := by decide +kernel
theorem d_Cl_makes_152 : decode method_12_code 152 = .ok (.invokevirtual 319, 3) := by decide +kernel
theorem d_Cl_makes_155 : decode method_12_code 155 = .ok (.iload 9, 2) := by decide +kernel
theorem d_Cl_makes_157 : decode method_12_code 157 = .ok (.if_icmp .ne 32, 3) := by decide +kernel
theorem d_Cl_makes_160 : decode method_12_code 160 = .ok (.aload_n 0, 1) := by decide +kernel
theorem d_Cl_makes_161 : decode method_12_code 161 = .ok (.iconst 4, 1) := by decide +kernel
theorem d_Cl_makes_162 : decode method_12_code 162 = .ok (.invokevirtual 319, 3) := by decide +kernel
theorem d_Cl_makes_165 : decode method_12_code 165 = .ok (.iload 6, 2) := by decide +kernel
theorem d_Cl_makes_167 : decode method_12_code 167 = .ok (.iload 8, 2) := by decide +kernel
theorem d_Cl_makes_169 : decode method_12_code 169 = .ok (.iadd, 1) := by decide +kernel
theorem d_Cl_makes_170 : decode method_12_code 170 = .ok (.iload 7, 2) := by decide +kernel
theorem d_Cl_makes_172 : decode method_12_code 172 = .ok (.isub, 1) := by decide +kernel
theorem d_Cl_makes_173 : decode method_12_code 173 = .ok (.iload 9, 2) := by decide +kernel
theorem d_Cl_makes_175 : decode method_12_code 175 = .ok (.isub, 1) := by decide +kernel
theorem d_Cl_makes_176 : decode method_12_code 176 = .ok (.if_icmp .ne 13, 3) := by decide +kernel
theorem d_Cl_makes_179 : decode method_12_code 179 = .ok (.aload_n 0, 1) := by decide +kernel
theorem d_Cl_makes_180 : decode method_12_code 180 = .ok (.iconst 5, 1) := by decide +kernel
theorem d_Cl_makes_181 : decode method_12_code 181 = .ok (.invokevirtual 319, 3) := by decide +kernel
theorem d_Cl_makes_184 : decode method_12_code 184 = .ok (.ldc 151, 2) := by decide +kernel
theorem d_Cl_makes_186 : decode method_12_code 186 = .ok (.if_icmp .eq 5, 3) := by decide +kernel
theorem d_Cl_makes_189 : decode method_12_code 189 = .ok (.iconst 0, 1) := by decide +kernel
theorem d_Cl_makes_190 : decode method_12_code 190 = .ok (.ireturn, 1) := by decide +kernel
theorem d_Cl_makes_191 : decode method_12_code 191 = .ok (.aload_n 0, 1) := by decide +kernel
theorem d_Cl_makes_192 : decode method_12_code 192 = .ok (.iconst 0, 1) := by decide +kernel
theorem d_Cl_makes_193 : decode method_12_code 193 = .ok (.invokevirtual 322, 3) := by decide +kernel
theorem d_Cl_makes_196 : decode method_12_code 196 = .ok (.aload_n 1, 1) := by decide +kernel
theorem d_Cl_makes_197 : decode method_12_code 197 = .ok (.iload 4, 2) := by decide +kernel
theorem d_Cl_makes_199 : decode method_12_code 199 = .ok (.invokevirtual 341, 3) := by decide +kernel
theorem d_Cl_makes_202 : decode method_12_code 202 = .ok (.if_icmp .ne 66, 3) := by decide +kernel
theorem d_Cl_makes_205 : decode method_12_code 205 = .ok (.aload_n 0, 1) := by decide +kernel
theorem d_Cl_makes_206 : decode method_12_code 206 = .ok (.iconst 1, 1) := by decide +kernel
theorem d_Cl_makes_207 : decode method_12_code 207 = .ok (.invokevirtual 322, 3) := by decide +kernel
theorem d_Cl_makes_210 : decode method_12_code 210 = .ok (.aload_n 1, 1) := by decide +kernel
theorem d_Cl_makes_211 : decode method_12_code 211 = .ok (.aload_n 2, 1) := by decide +kernel
theorem d_Cl_makes_212 : decode method_12_code 212 = .ok (.iconst 1, 1) := by decide +kernel
theorem d_Cl_makes_213 : decode method_12_code 213 = .ok (.iload 4, 2) := by decide +kernel
theorem d_Cl_makes_215 : decode method_12_code 215 = .ok (.invokevirtual 344, 3) := by decide +kernel
theorem d_Cl_makes_218 : decode method_12_code 218 = .ok (.if_icmp .ne 50, 3) := by decide +kernel
theorem d_Cl_makes_221 : decode method_12_code 221 = .ok (.aload_n 0, 1) := by decide +kernel
theorem d_Cl_makes_222 : decode method_12_code 222 = .ok (.iconst 2, 1) := by decide +kernel
theorem d_Cl_makes_223 : decode method_12_code 223 = .ok (.invokevirtual 322, 3) := by decide +kernel
theorem d_Cl_makes_226 : decode method_12_code 226 = .ok (.iload 8, 2) := by decide +kernel
theorem d_Cl_makes_228 : decode method_12_code 228 = .ok (.if_icmp .ne 40, 3) := by decide +kernel
theorem d_Cl_makes_231 : decode method_12_code 231 = .ok (.aload_n 0, 1) := by decide +kernel
theorem d_Cl_makes_232 : decode method_12_code 232 = .ok (.iconst 3, 1) := by decide +kernel
theorem d_Cl_makes_233 : decode method_12_code 233 = .ok (.invokevirtual 322, 3) := by decide +kernel
theorem d_Cl_makes_236 : decode method_12_code 236 = .ok (.iload 10, 2) := by decide +kernel
theorem d_Cl_makes_238 : decode method_12_code 238 = .ok (.if_icmp .ne 30, 3) := by decide +kernel
theorem d_Cl_makes_241 : decode method_12_code 241 = .ok (.aload_n 0, 1) := by decide +kernel
theorem d_Cl_makes_242 : decode method_12_code 242 = .ok (.iconst 4, 1) := by decide +kernel
theorem d_Cl_makes_243 : decode method_12_code 243 = .ok (.invokevirtual 322, 3) := by decide +kernel
theorem d_Cl_makes_246 : decode method_12_code 246 = .ok (.aload_n 1, 1) := by decide +kernel
theorem d_Cl_makes_247 : decode method_12_code 247 = .ok (.getfield 45, 3) := by decide +kernel
theorem d_Cl_makes_250 : decode method_12_code 250 = .ok (.iconst 0, 1) := by decide +kernel
theorem d_Cl_makes_251 : decode method_12_code 251 = .ok (.iaload, 1) := by decide +kernel
theorem d_Cl_makes_252 : decode method_12_code 252 = .ok (.iload 10, 2) := by decide +kernel
theorem d_Cl_makes_254 : decode method_12_code 254 = .ok (.isub, 1) := by decide +kernel
theorem d_Cl_makes_255 : decode method_12_code 255 = .ok (.if_icmp .ne 13, 3) := by decide +kernel
theorem d_Cl_makes_258 : decode method_12_code 258 = .ok (.aload_n 0, 1) := by decide +kernel
theorem d_Cl_makes_259 : decode method_12_code 259 = .ok (.iconst 5, 1) := by decide +kernel
theorem d_Cl_makes_260 : decode method_12_code 260 = .ok (.invokevirtual 322, 3) := by decide +kernel
theorem d_Cl_makes_263 : decode method_12_code 263 = .ok (.ldc 151, 2) := by decide +kernel
theorem d_Cl_makes_265 : decode method_12_code 265 = .ok (.if_icmp .eq 5, 3) := by decide +kernel
theorem d_Cl_makes_268 : decode method_12_code 268 = .ok (.iconst 0, 1) := by decide +kernel
theorem d_Cl_makes_269 : decode method_12_code 269 = .ok (.ireturn, 1) := by decide +kernel
theorem d_Cl_makes_270 : decode method_12_code 270 = .ok (.aload_n 0, 1) := by decide +kernel
theorem d_Cl_makes_271 : decode method_12_code 271 = .ok (.iconst 0, 1) := by decide +kernel
theorem d_Cl_makes_272 : decode method_12_code 272 = .ok (.invokevirtual 325, 3) := by decide +kernel
theorem d_Cl_makes_275 : decode method_12_code 275 = .ok (.aload_n 1, 1) := by decide +kernel
theorem d_Cl_makes_276 : decode method_12_code 276 = .ok (.iload 4, 2) := by decide +kernel
theorem d_Cl_makes_278 : decode method_12_code 278 = .ok (.invokevirtual 341, 3) := by decide +kernel
theorem d_Cl_makes_281 : decode method_12_code 281 = .ok (.if_icmp .ne 54, 3) := by decide +kernel
theorem d_Cl_makes_284 : decode method_12_code 284 = .ok (.aload_n 0, 1) := by decide +kernel
theorem d_Cl_makes_285 : decode method_12_code 285 = .ok (.iconst 1, 1) := by decide +kernel
theorem d_Cl_makes_286 : decode method_12_code 286 = .ok (.invokevirtual 325, 3) := by decide +kernel
theorem d_Cl_makes_289 : decode method_12_code 289 = .ok (.aload_n 1, 1) := by decide +kernel
theorem d_Cl_makes_290 : decode method_12_code 290 = .ok (.aload_n 2, 1) := by decide +kernel
theorem d_Cl_makes_291 : decode method_12_code 291 = .ok (.iconst (-1), 1) := by decide +kernel
theorem d_Cl_makes_292 : decode method_12_code 292 = .ok (.iload 4, 2) := by decide +kernel
theorem d_Cl_makes_294 : decode method_12_code 294 = .ok (.invokevirtual 344, 3) := by decide +kernel
theorem d_Cl_makes_297 : decode method_12_code 297 = .ok (.if_icmp .ne 38, 3) := by decide +kernel
theorem d_Cl_makes_300 : decode method_12_code 300 = .ok (.aload_n 0, 1) := by decide +kernel
theorem d_Cl_makes_301 : decode method_12_code 301 = .ok (.iconst 2, 1) := by decide +kernel
theorem d_Cl_makes_302 : decode method_12_code 302 = .ok (.invokevirtual 325, 3) := by decide +kernel
theorem d_Cl_makes_305 : decode method_12_code 305 = .ok (.iload 9, 2) := by decide +kernel
theorem d_Cl_makes_307 : decode method_12_code 307 = .ok (.if_icmp .ne 28, 3) := by decide +kernel
theorem d_Cl_makes_310 : decode method_12_code 310 = .ok (.aload_n 0, 1) := by decide +kernel
theorem d_Cl_makes_311 : decode method_12_code 311 = .ok (.iconst 3, 1) := by decide +kernel
theorem d_Cl_makes_312 : decode method_12_code 312 = .ok (.invokevirtual 325, 3) := by decide +kernel
theorem d_Cl_makes_315 : decode method_12_code 315 = .ok (.aload_n 1, 1) := by decide +kernel
theorem d_Cl_makes_316 : decode method_12_code 316 = .ok (.iconst (-1), 1) := by decide +kernel
theorem d_Cl_makes_317 : decode method_12_code 317 = .ok (.iload_n 3, 1) := by decide +kernel
theorem d_Cl_makes_318 : decode method_12_code 318 = .ok (.iconst 0, 1) := by decide +kernel
theorem d_Cl_makes_319 : decode method_12_code 319 = .ok (.invokevirtual 339, 3) := by decide +kernel
theorem d_Cl_makes_322 : decode method_12_code 322 = .ok (.if_icmp .ne 13, 3) := by decide +kernel
theorem d_Cl_makes_325 : decode method_12_code 325 = .ok (.aload_n 0, 1) := by decide +kernel
theorem d_Cl_makes_326 : decode method_12_code 326 = .ok (.iconst 4, 1) := by decide +kernel
theorem d_Cl_makes_327 : decode method_12_code 327 = .ok (.invokevirtual 325, 3) := by decide +kernel
theorem d_Cl_makes_330 : decode method_12_code 330 = .ok (.ldc 151, 2) := by decide +kernel
theorem d_Cl_makes_332 : decode method_12_code 332 = .ok (.if_icmp .eq 5, 3) := by decide +kernel
theorem d_Cl_makes_335 : decode method_12_code 335 = .ok (.iconst 0, 1) := by decide +kernel
theorem d_Cl_makes_336 : decode method_12_code 336 = .ok (.ireturn, 1) := by decide +kernel
theorem d_Cl_makes_337 : decode method_12_code 337 = .ok (.aload_n 1, 1) := by decide +kernel
theorem d_Cl_makes_338 : decode method_12_code 338 = .ok (.aload_n 2, 1) := by decide +kernel
theorem d_Cl_makes_339 : decode method_12_code 339 = .ok (.iconst 1, 1) := by decide +kernel
theorem d_Cl_makes_340 : decode method_12_code 340 = .ok (.invokevirtual 347, 3) := by decide +kernel
theorem d_Cl_makes_343 : decode method_12_code 343 = .ok (.astore 11, 2) := by decide +kernel
theorem d_Cl_makes_345 : decode method_12_code 345 = .ok (.aload_n 1, 1) := by decide +kernel
theorem d_Cl_makes_346 : decode method_12_code 346 = .ok (.invokevirtual 273, 3) := by decide +kernel
theorem d_Cl_makes_349 : decode method_12_code 349 = .ok (.arraylength, 1) := by decide +kernel
theorem d_Cl_makes_350 : decode method_12_code 350 = .ok (.istore 12, 2) := by decide +kernel
theorem d_Cl_makes_352 : decode method_12_code 352 = .ok (.iconst 0, 1) := by decide +kernel
theorem d_Cl_makes_353 : decode method_12_code 353 = .ok (.istore 13, 2) := by decide +kernel
theorem d_Cl_makes_355 : decode method_12_code 355 = .ok (.iload 13, 2) := by decide +kernel
theorem d_Cl_makes_357 : decode method_12_code 357 = .ok (.aload 11, 2) := by decide +kernel
theorem d_Cl_makes_359 : decode method_12_code 359 = .ok (.invokevirtual 63, 3) := by decide +kernel
theorem d_Cl_makes_362 : decode method_12_code 362 = .ok (.if_icmp .ge 98, 3) := by decide +kernel
theorem d_Cl_makes_365 : decode method_12_code 365 = .ok (.aload_n 0, 1) := by decide +kernel
theorem d_Cl_makes_366 : decode method_12_code 366 = .ok (.iload 13, 2) := by decide +kernel
theorem d_Cl_makes_368 : decode method_12_code 368 = .ok (.iconst 0, 1) := by decide +kernel
theorem d_Cl_makes_369 : decode method_12_code 369 = .ok (.invokevirtual 328, 3) := by decide +kernel
theorem d_Cl_makes_372 : decode method_12_code 372 = .ok (.aload_n 2, 1) := by decide +kernel
theorem d_Cl_makes_373 : decode method_12_code 373 = .ok (.aload 11, 2) := by decide +kernel
theorem d_Cl_makes_375 : decode method_12_code 375 = .ok (.iload 13, 2) := by decide +kernel
theorem d_Cl_makes_377 : decode method_12_code 377 = .ok (.invokevirtual 66, 3) := by decide +kernel
theorem d_Cl_makes_380 : decode method_12_code 380 = .ok (.invokevirtual 351, 3) := by decide +kernel
theorem d_Cl_makes_383 : decode method_12_code 383 = .ok (.if_icmp .ne 69, 3) := by decide +kernel
theorem d_Cl_makes_386 : decode method_12_code 386 = .ok (.aload_n 0, 1) := by decide +kernel
theorem d_Cl_makes_387 : decode method_12_code 387 = .ok (.iload 13, 2) := by decide +kernel
theorem d_Cl_makes_389 : decode method_12_code 389 = .ok (.iconst 1, 1) := by decide +kernel
theorem d_Cl_makes_390 : decode method_12_code 390 = .ok (.invokevirtual 328, 3) := by decide +kernel
theorem d_Cl_makes_393 : decode method_12_code 393 = .ok (.aload_n 1, 1) := by decide +kernel
theorem d_Cl_makes_394 : decode method_12_code 394 = .ok (.getfield 27, 3) := by decide +kernel
theorem d_Cl_makes_397 : decode method_12_code 397 = .ok (.aload 11, 2) := by decide +kernel
theorem d_Cl_makes_399 : decode method_12_code 399 = .ok (.iload 13, 2) := by decide +kernel
theorem d_Cl_makes_401 : decode method_12_code 401 = .ok (.invokevirtual 66, 3) := by decide +kernel
theorem d_Cl_makes_404 : decode method_12_code 404 = .ok (.checkcast 228, 3) := by decide +kernel
theorem d_Cl_makes_407 : decode method_12_code 407 = .ok (.getfield 230, 3) := by decide +kernel
theorem d_Cl_makes_410 : decode method_12_code 410 = .ok (.invokevirtual 66, 3) := by decide +kernel
theorem d_Cl_makes_413 : decode method_12_code 413 = .ok (.checkcast 70, 3) := by decide +kernel
theorem d_Cl_makes_416 : decode method_12_code 416 = .ok (.invokevirtual 247, 3) := by decide +kernel
theorem d_Cl_makes_419 : decode method_12_code 419 = .ok (.if_icmp .ne 33, 3) := by decide +kernel
theorem d_Cl_makes_422 : decode method_12_code 422 = .ok (.iload 13, 2) := by decide +kernel
theorem d_Cl_makes_424 : decode method_12_code 424 = .ok (.iconst 4, 1) := by decide +kernel
theorem d_Cl_makes_425 : decode method_12_code 425 = .ok (.if_icmp .ge 29, 3) := by decide +kernel
theorem d_Cl_makes_428 : decode method_12_code 428 = .ok (.aload_n 0, 1) := by decide +kernel
theorem d_Cl_makes_429 : decode method_12_code 429 = .ok (.iload 13, 2) := by decide +kernel
theorem d_Cl_makes_431 : decode method_12_code 431 = .ok (.iconst 2, 1) := by decide +kernel
theorem d_Cl_makes_432 : decode method_12_code 432 = .ok (.invokevirtual 328, 3) := by decide +kernel
theorem d_Cl_makes_435 : decode method_12_code 435 = .ok (.aload_n 1, 1) := by decide +kernel
theorem d_Cl_makes_436 : decode method_12_code 436 = .ok (.aload 11, 2) := by decide +kernel
theorem d_Cl_makes_438 : decode method_12_code 438 = .ok (.iload 13, 2) := by decide +kernel
theorem d_Cl_makes_440 : decode method_12_code 440 = .ok (.iconst 1, 1) := by decide +kernel
theorem d_Cl_makes_441 : decode method_12_code 441 = .ok (.iadd, 1) := by decide +kernel
theorem d_Cl_makes_442 : decode method_12_code 442 = .ok (.iload 4, 2) := by decide +kernel
theorem d_Cl_makes_444 : decode method_12_code 444 = .ok (.iload 12, 2) := by decide +kernel
theorem d_Cl_makes_446 : decode method_12_code 446 = .ok (.invokevirtual 355, 3) := by decide +kernel
theorem d_Cl_makes_449 : decode method_12_code 449 = .ok (.if_icmp .eq 5, 3) := by decide +kernel
theorem d_Cl_makes_452 : decode method_12_code 452 = .ok (.iconst 0, 1) := by decide +kernel
theorem d_Cl_makes_453 : decode method_12_code 453 = .ok (.ireturn, 1) := by decide +kernel
theorem d_Cl_makes_454 : decode method_12_code 454 = .ok (.iinc 13 1, 3) := by decide +kernel
theorem d_Cl_makes_457 : decode method_12_code 457 = .ok (.goto (-102), 3) := by decide +kernel
theorem d_Cl_makes_460 : decode method_12_code 460 = .ok (.aload_n 0, 1) := by decide +kernel
theorem d_Cl_makes_461 : decode method_12_code 461 = .ok (.aload 11, 2) := by decide +kernel
theorem d_Cl_makes_463 : decode method_12_code 463 = .ok (.invokevirtual 63, 3) := by decide +kernel
theorem d_Cl_makes_466 : decode method_12_code 466 = .ok (.iconst 0, 1) := by decide +kernel
theorem d_Cl_makes_467 : decode method_12_code 467 = .ok (.invokevirtual 328, 3) := by decide +kernel
theorem d_Cl_makes_470 : decode method_12_code 470 = .ok (.bipush (-2), 2) := by decide +kernel
theorem d_Cl_makes_472 : decode method_12_code 472 = .ok (.if_icmp .ne 39, 3) := by decide +kernel
theorem d_Cl_makes_475 : decode method_12_code 475 = .ok (.aload_n 0, 1) := by decide +kernel
theorem d_Cl_makes_476 : decode method_12_code 476 = .ok (.invokevirtual 330, 3) := by decide +kernel
theorem d_Cl_makes_479 : decode method_12_code 479 = .ok (.iload 5, 2) := by decide +kernel
theorem d_Cl_makes_481 : decode method_12_code 481 = .ok (.ifCond .le 7, 3) := by decide +kernel
theorem d_Cl_makes_484 : decode method_12_code 484 = .ok (.iconst 1, 1) := by decide +kernel
theorem d_Cl_makes_485 : decode method_12_code 485 = .ok (.goto 19, 3) := by decide +kernel
theorem d_Cl_makes_488 : decode method_12_code 488 = .ok (.iload 10, 2) := by decide +kernel
theorem d_Cl_makes_490 : decode method_12_code 490 = .ok (.aload_n 1, 1) := by decide +kernel
theorem d_Cl_makes_491 : decode method_12_code 491 = .ok (.getfield 45, 3) := by decide +kernel
theorem d_Cl_makes_494 : decode method_12_code 494 = .ok (.iconst 0, 1) := by decide +kernel
theorem d_Cl_makes_495 : decode method_12_code 495 = .ok (.iaload, 1) := by decide +kernel
theorem d_Cl_makes_496 : decode method_12_code 496 = .ok (.if_icmp .gt 7, 3) := by decide +kernel
theorem d_Cl_makes_499 : decode method_12_code 499 = .ok (.iconst 2, 1) := by decide +kernel
theorem d_Cl_makes_500 : decode method_12_code 500 = .ok (.goto 4, 3) := by decide +kernel
theorem d_Cl_makes_503 : decode method_12_code 503 = .ok (.iconst 3, 1) := by decide +kernel
theorem d_Cl_makes_504 : decode method_12_code 504 = .ok (.if_icmp .ne 7, 3) := by decide +kernel
theorem d_Cl_makes_507 : decode method_12_code 507 = .ok (.iconst 1, 1) := by decide +kernel
theorem d_Cl_makes_508 : decode method_12_code 508 = .ok (.goto 4, 3) := by decide +kernel
theorem d_Cl_makes_511 : decode method_12_code 511 = .ok (.iconst 0, 1) := by decide +kernel
theorem d_Cl_makes_512 : decode method_12_code 512 = .ok (.ireturn, 1) := by decide +kernel
theorem d_Cl_counts_0 : decode method_13_code 0 = .ok (.iconst 0, 1) := by decide +kernel
theorem d_Cl_counts_1 : decode method_13_code 1 = .ok (.istore_n 3, 1) := by decide +kernel
theorem d_Cl_counts_2 : decode method_13_code 2 = .ok (.iconst 0, 1) := by decide +kernel
theorem d_Cl_counts_3 : decode method_13_code 3 = .ok (.istore 4, 2) := by decide +kernel
theorem d_Cl_counts_5 : decode method_13_code 5 = .ok (.iconst 0, 1) := by decide +kernel
theorem d_Cl_counts_6 : decode method_13_code 6 = .ok (.istore 5, 2) := by decide +kernel
theorem d_Cl_counts_8 : decode method_13_code 8 = .ok (.iload 5, 2) := by decide +kernel
theorem d_Cl_counts_10 : decode method_13_code 10 = .ok (.aload_n 1, 1) := by decide +kernel
theorem d_Cl_counts_11 : decode method_13_code 11 = .ok (.getfield 27, 3) := by decide +kernel
theorem d_Cl_counts_14 : decode method_13_code 14 = .ok (.invokevirtual 63, 3) := by decide +kernel
theorem d_Cl_counts_17 : decode method_13_code 17 = .ok (.if_icmp .ge 54, 3) := by decide +kernel
theorem d_Cl_counts_20 : decode method_13_code 20 = .ok (.iload_n 3, 1) := by decide +kernel
theorem d_Cl_counts_21 : decode method_13_code 21 = .ok (.aload_n 2, 1) := by decide +kernel
theorem d_Cl_counts_22 : decode method_13_code 22 = .ok (.iload 5, 2) := by decide +kernel
theorem d_Cl_counts_24 : decode method_13_code 24 = .ok (.invokestatic 240, 3) := by decide +kernel
theorem d_Cl_counts_27 : decode method_13_code 27 = .ok (.ifCond .le 7, 3) := by decide +kernel
theorem d_Cl_counts_30 : decode method_13_code 30 = .ok (.iconst 1, 1) := by decide +kernel
theorem d_Cl_counts_31 : decode method_13_code 31 = .ok (.goto 4, 3) := by decide +kernel
theorem d_Cl_counts_34 : decode method_13_code 34 = .ok (.iconst 0, 1) := by decide +kernel
theorem d_Cl_counts_35 : decode method_13_code 35 = .ok (.iadd, 1) := by decide +kernel
theorem d_Cl_counts_36 : decode method_13_code 36 = .ok (.istore_n 3, 1) := by decide +kernel
theorem d_Cl_counts_37 : decode method_13_code 37 = .ok (.iload 4, 2) := by decide +kernel
theorem d_Cl_counts_39 : decode method_13_code 39 = .ok (.aload_n 1, 1) := by decide +kernel
theorem d_Cl_counts_40 : decode method_13_code 40 = .ok (.getfield 27, 3) := by decide +kernel
theorem d_Cl_counts_43 : decode method_13_code 43 = .ok (.iload 5, 2) := by decide +kernel
theorem d_Cl_counts_45 : decode method_13_code 45 = .ok (.invokevirtual 66, 3) := by decide +kernel
theorem d_Cl_counts_48 : decode method_13_code 48 = .ok (.checkcast 70, 3) := by decide +kernel
theorem d_Cl_counts_51 : decode method_13_code 51 = .ok (.getfield 75, 3) := by decide +kernel
theorem d_Cl_counts_54 : decode method_13_code 54 = .ok (.ifCond .ge 7, 3) := by decide +kernel
theorem d_Cl_counts_57 : decode method_13_code 57 = .ok (.iconst 0, 1) := by decide +kernel
theorem d_Cl_counts_58 : decode method_13_code 58 = .ok (.goto 4, 3) := by decide +kernel
theorem d_Cl_counts_61 : decode method_13_code 61 = .ok (.iconst 1, 1) := by decide +kernel
theorem d_Cl_counts_62 : decode method_13_code 62 = .ok (.iadd, 1) := by decide +kernel
theorem d_Cl_counts_63 : decode method_13_code 63 = .ok (.istore 4, 2) := by decide +kernel
theorem d_Cl_counts_65 : decode method_13_code 65 = .ok (.iinc 5 1, 3) := by decide +kernel
theorem d_Cl_counts_68 : decode method_13_code 68 = .ok (.goto (-60), 3) := by decide +kernel
theorem d_Cl_counts_71 : decode method_13_code 71 = .ok (.bipush 10, 2) := by decide +kernel
theorem d_Cl_counts_73 : decode method_13_code 73 = .ok (.newarray .int, 2) := by decide +kernel
theorem d_Cl_counts_75 : decode method_13_code 75 = .ok (.dup, 1) := by decide +kernel
theorem d_Cl_counts_76 : decode method_13_code 76 = .ok (.iconst 0, 1) := by decide +kernel
theorem d_Cl_counts_77 : decode method_13_code 77 = .ok (.aload_n 1, 1) := by decide +kernel
theorem d_Cl_counts_78 : decode method_13_code 78 = .ok (.getfield 27, 3) := by decide +kernel
theorem d_Cl_counts_81 : decode method_13_code 81 = .ok (.invokevirtual 63, 3) := by decide +kernel
theorem d_Cl_counts_84 : decode method_13_code 84 = .ok (.iastore, 1) := by decide +kernel
theorem d_Cl_counts_85 : decode method_13_code 85 = .ok (.dup, 1) := by decide +kernel
theorem d_Cl_counts_86 : decode method_13_code 86 = .ok (.iconst 1, 1) := by decide +kernel
theorem d_Cl_counts_87 : decode method_13_code 87 = .ok (.aload_n 1, 1) := by decide +kernel
theorem d_Cl_counts_88 : decode method_13_code 88 = .ok (.invokevirtual 182, 3) := by decide +kernel
theorem d_Cl_counts_91 : decode method_13_code 91 = .ok (.iastore, 1) := by decide +kernel
theorem d_Cl_counts_92 : decode method_13_code 92 = .ok (.dup, 1) := by decide +kernel
theorem d_Cl_counts_93 : decode method_13_code 93 = .ok (.iconst 2, 1) := by decide +kernel
theorem d_Cl_counts_94 : decode method_13_code 94 = .ok (.aload_n 1, 1) := by decide +kernel
theorem d_Cl_counts_95 : decode method_13_code 95 = .ok (.invokevirtual 273, 3) := by decide +kernel
theorem d_Cl_counts_98 : decode method_13_code 98 = .ok (.arraylength, 1) := by decide +kernel
theorem d_Cl_counts_99 : decode method_13_code 99 = .ok (.iastore, 1) := by decide +kernel
theorem d_Cl_counts_100 : decode method_13_code 100 = .ok (.dup, 1) := by decide +kernel
theorem d_Cl_counts_101 : decode method_13_code 101 = .ok (.iconst 3, 1) := by decide +kernel
theorem d_Cl_counts_102 : decode method_13_code 102 = .ok (.aload_n 1, 1) := by decide +kernel
theorem d_Cl_counts_103 : decode method_13_code 103 = .ok (.getfield 41, 3) := by decide +kernel
theorem d_Cl_counts_106 : decode method_13_code 106 = .ok (.iastore, 1) := by decide +kernel
theorem d_Cl_counts_107 : decode method_13_code 107 = .ok (.dup, 1) := by decide +kernel
theorem d_Cl_counts_108 : decode method_13_code 108 = .ok (.iconst 4, 1) := by decide +kernel
theorem d_Cl_counts_109 : decode method_13_code 109 = .ok (.aload_n 1, 1) := by decide +kernel
theorem d_Cl_counts_110 : decode method_13_code 110 = .ok (.getfield 38, 3) := by decide +kernel
theorem d_Cl_counts_113 : decode method_13_code 113 = .ok (.invokevirtual 63, 3) := by decide +kernel
theorem d_Cl_counts_116 : decode method_13_code 116 = .ok (.iastore, 1) := by decide +kernel
theorem d_Cl_counts_117 : decode method_13_code 117 = .ok (.dup, 1) := by decide +kernel
theorem d_Cl_counts_118 : decode method_13_code 118 = .ok (.iconst 5, 1) := by decide +kernel
theorem d_Cl_counts_119 : decode method_13_code 119 = .ok (.aload_n 2, 1) := by decide +kernel
theorem d_Cl_counts_120 : decode method_13_code 120 = .ok (.invokevirtual 63, 3) := by decide +kernel
theorem d_Cl_counts_123 : decode method_13_code 123 = .ok (.iastore, 1) := by decide +kernel
theorem d_Cl_counts_124 : decode method_13_code 124 = .ok (.dup, 1) := by decide +kernel
theorem d_Cl_counts_125 : decode method_13_code 125 = .ok (.bipush 6, 2) := by decide +kernel
theorem d_Cl_counts_127 : decode method_13_code 127 = .ok (.iload_n 3, 1) := by decide +kernel
theorem d_Cl_counts_128 : decode method_13_code 128 = .ok (.iastore, 1) := by decide +kernel
theorem d_Cl_counts_129 : decode method_13_code 129 = .ok (.dup, 1) := by decide +kernel
theorem d_Cl_counts_130 : decode method_13_code 130 = .ok (.bipush 7, 2) := by decide +kernel
theorem d_Cl_counts_132 : decode method_13_code 132 = .ok (.iconst 0, 1) := by decide +kernel
theorem d_Cl_counts_133 : decode method_13_code 133 = .ok (.iastore, 1) := by decide +kernel
theorem d_Cl_counts_134 : decode method_13_code 134 = .ok (.dup, 1) := by decide +kernel
theorem d_Cl_counts_135 : decode method_13_code 135 = .ok (.bipush 8, 2) := by decide +kernel
theorem d_Cl_counts_137 : decode method_13_code 137 = .ok (.iload 4, 2) := by decide +kernel
theorem d_Cl_counts_139 : decode method_13_code 139 = .ok (.iastore, 1) := by decide +kernel
theorem d_Cl_counts_140 : decode method_13_code 140 = .ok (.dup, 1) := by decide +kernel
theorem d_Cl_counts_141 : decode method_13_code 141 = .ok (.bipush 9, 2) := by decide +kernel
theorem d_Cl_counts_143 : decode method_13_code 143 = .ok (.aload_n 1, 1) := by decide +kernel
theorem d_Cl_counts_144 : decode method_13_code 144 = .ok (.getfield 49, 3) := by decide +kernel
theorem d_Cl_counts_147 : decode method_13_code 147 = .ok (.iastore, 1) := by decide +kernel
theorem d_Cl_counts_148 : decode method_13_code 148 = .ok (.astore 5, 2) := by decide +kernel
theorem d_Cl_counts_150 : decode method_13_code 150 = .ok (.iconst 0, 1) := by decide +kernel
theorem d_Cl_counts_151 : decode method_13_code 151 = .ok (.istore 6, 2) := by decide +kernel
theorem d_Cl_counts_153 : decode method_13_code 153 = .ok (.iload 6, 2) := by decide +kernel
theorem d_Cl_counts_155 : decode method_13_code 155 = .ok (.bipush 10, 2) := by decide +kernel
theorem d_Cl_counts_157 : decode method_13_code 157 = .ok (.if_icmp .ge 25, 3) := by decide +kernel
theorem d_Cl_counts_160 : decode method_13_code 160 = .ok (.aload_n 0, 1) := by decide +kernel
theorem d_Cl_counts_161 : decode method_13_code 161 = .ok (.iload 6, 2) := by decide +kernel
theorem d_Cl_counts_163 : decode method_13_code 163 = .ok (.invokevirtual 359, 3) := by decide +kernel
theorem d_Cl_counts_166 : decode method_13_code 166 = .ok (.aload 5, 2) := by decide +kernel
theorem d_Cl_counts_168 : decode method_13_code 168 = .ok (.iload 6, 2) := by decide +kernel
theorem d_Cl_counts_170 : decode method_13_code 170 = .ok (.iaload, 1) := by decide +kernel
theorem d_Cl_counts_171 : decode method_13_code 171 = .ok (.if_icmp .eq 5, 3) := by decide +kernel
theorem d_Cl_counts_174 : decode method_13_code 174 = .ok (.iconst 0, 1) := by decide +kernel
theorem d_Cl_counts_175 : decode method_13_code 175 = .ok (.ireturn, 1) := by decide +kernel
theorem d_Cl_counts_176 : decode method_13_code 176 = .ok (.iinc 6 1, 3) := by decide +kernel
theorem d_Cl_counts_179 : decode method_13_code 179 = .ok (.goto (-26), 3) := by decide +kernel
theorem d_Cl_counts_182 : decode method_13_code 182 = .ok (.iconst 0, 1) := by decide +kernel
theorem d_Cl_counts_183 : decode method_13_code 183 = .ok (.istore 6, 2) := by decide +kernel
theorem d_Cl_counts_185 : decode method_13_code 185 = .ok (.iload 6, 2) := by decide +kernel
theorem d_Cl_counts_187 : decode method_13_code 187 = .ok (.iconst 5, 1) := by decide +kernel
theorem d_Cl_counts_188 : decode method_13_code 188 = .ok (.if_icmp .ge 30, 3) := by decide +kernel
theorem d_Cl_counts_191 : decode method_13_code 191 = .ok (.aload_n 0, 1) := by decide +kernel
theorem d_Cl_counts_192 : decode method_13_code 192 = .ok (.bipush 10, 2) := by decide +kernel
theorem d_Cl_counts_194 : decode method_13_code 194 = .ok (.iload 6, 2) := by decide +kernel
theorem d_Cl_counts_196 : decode method_13_code 196 = .ok (.iadd, 1) := by decide +kernel
theorem d_Cl_counts_197 : decode method_13_code 197 = .ok (.invokevirtual 359, 3) := by decide +kernel
theorem d_Cl_counts_200 : decode method_13_code 200 = .ok (.aload_n 1, 1) := by decide +kernel
theorem d_Cl_counts_201 : decode method_13_code 201 = .ok (.getfield 45, 3) := by decide +kernel
theorem d_Cl_counts_204 : decode method_13_code 204 = .ok (.iload 6, 2) := by decide +kernel
theorem d_Cl_counts_206 : decode method_13_code 206 = .ok (.iaload, 1) := by decide +kernel
theorem d_Cl_counts_207 : decode method_13_code 207 = .ok (.if_icmp .eq 5, 3) := by decide +kernel
theorem d_Cl_counts_210 : decode method_13_code 210 = .ok (.iconst 0, 1) := by decide +kernel
theorem d_Cl_counts_211 : decode method_13_code 211 = .ok (.ireturn, 1) := by decide +kernel
theorem d_Cl_counts_212 : decode method_13_code 212 = .ok (.iinc 6 1, 3) := by decide +kernel
theorem d_Cl_counts_215 : decode method_13_code 215 = .ok (.goto (-30), 3) := by decide +kernel
theorem d_Cl_counts_218 : decode method_13_code 218 = .ok (.aload_n 0, 1) := by decide +kernel
theorem d_Cl_counts_219 : decode method_13_code 219 = .ok (.bipush 15, 2) := by decide +kernel
theorem d_Cl_counts_221 : decode method_13_code 221 = .ok (.invokevirtual 359, 3) := by decide +kernel
theorem d_Cl_counts_224 : decode method_13_code 224 = .ok (.iconst (-1), 1) := by decide +kernel
theorem d_Cl_counts_225 : decode method_13_code 225 = .ok (.if_icmp .ne 16, 3) := by decide +kernel
theorem d_Cl_counts_228 : decode method_13_code 228 = .ok (.aload_n 0, 1) := by decide +kernel
theorem d_Cl_counts_229 : decode method_13_code 229 = .ok (.iconst (-1), 1) := by decide +kernel
theorem d_Cl_counts_230 : decode method_13_code 230 = .ok (.invokevirtual 359, 3) := by decide +kernel
theorem d_Cl_counts_233 : decode method_13_code 233 = .ok (.iconst (-1), 1) := by decide +kernel
theorem d_Cl_counts_234 : decode method_13_code 234 = .ok (.if_icmp .ne 7, 3) := by decide +kernel
theorem d_Cl_counts_237 : decode method_13_code 237 = .ok (.iconst 1, 1) := by decide +kernel
theorem d_Cl_counts_238 : decode method_13_code 238 = .ok (.goto 4, 3) := by decide +kernel
theorem d_Cl_counts_241 : decode method_13_code 241 = .ok (.iconst 0, 1) := by decide +kernel
theorem d_Cl_counts_242 : decode method_13_code 242 = .ok (.ireturn, 1) := by decide +kernel
theorem d_Al_init_0 : decode prog_42_method_2_code 0 = .ok (.aload_n 0, 1) := by decide +kernel
theorem d_Al_init_1 : decode prog_42_method_2_code 1 = .ok (.invokespecial 1, 3) := by decide +kernel
theorem d_Al_init_4 : decode prog_42_method_2_code 4 = .ok (.aload_n 0, 1) := by decide +kernel
theorem d_Al_init_5 : decode prog_42_method_2_code 5 = .ok (.getstatic 39, 3) := by decide +kernel
theorem d_Al_init_8 : decode prog_42_method_2_code 8 = .ok (.putfield 9, 3) := by decide +kernel
theorem d_Al_init_11 : decode prog_42_method_2_code 11 = .ok (.return_, 1) := by decide +kernel
theorem d_Al_size_0 : decode prog_42_method_8_code 0 = .ok (.aload_n 0, 1) := by decide +kernel
theorem d_Al_size_1 : decode prog_42_method_8_code 1 = .ok (.getfield 48, 3) := by decide +kernel
theorem d_Al_size_4 : decode prog_42_method_8_code 4 = .ok (.ireturn, 1) := by decide +kernel
theorem d_Bo_hits__0 : decode prog_13_method_6_code 0 = .ok (.new 7, 3) := by decide +kernel
theorem d_Bo_hits__3 : decode prog_13_method_6_code 3 = .ok (.dup, 1) := by decide +kernel
theorem d_Bo_hits__4 : decode prog_13_method_6_code 4 = .ok (.invokespecial 9, 3) := by decide +kernel
theorem d_Bo_hits__7 : decode prog_13_method_6_code 7 = .ok (.astore_n 2, 1) := by decide +kernel
theorem d_Bo_hits__8 : decode prog_13_method_6_code 8 = .ok (.aload_n 0, 1) := by decide +kernel
theorem d_Bo_hits__9 : decode prog_13_method_6_code 9 = .ok (.invokevirtual 78, 3) := by decide +kernel
theorem d_Bo_hits__12 : decode prog_13_method_6_code 12 = .ok (.astore_n 3, 1) := by decide +kernel
theorem d_Bo_hits__13 : decode prog_13_method_6_code 13 = .ok (.iconst 0, 1) := by decide +kernel
theorem d_Bo_hits__14 : decode prog_13_method_6_code 14 = .ok (.istore 4, 2) := by decide +kernel
theorem d_Bo_hits__16 : decode prog_13_method_6_code 16 = .ok (.iload 4, 2) := by decide +kernel
theorem d_Bo_hits__18 : decode prog_13_method_6_code 18 = .ok (.iload_n 1, 1) := by decide +kernel
theorem d_Bo_hits__19 : decode prog_13_method_6_code 19 = .ok (.if_icmp .ge 67, 3) := by decide +kernel
theorem d_Bo_hits__22 : decode prog_13_method_6_code 22 = .ok (.aload_n 0, 1) := by decide +kernel
theorem d_Bo_hits__23 : decode prog_13_method_6_code 23 = .ok (.getfield 16, 3) := by decide +kernel
theorem d_Bo_hits__26 : decode prog_13_method_6_code 26 = .ok (.iload 4, 2) := by decide +kernel
theorem d_Bo_hits__28 : decode prog_13_method_6_code 28 = .ok (.invokevirtual 70, 3) := by decide +kernel
theorem d_Bo_hits__31 : decode prog_13_method_6_code 31 = .ok (.checkcast 82, 3) := by decide +kernel
theorem d_Bo_hits__34 : decode prog_13_method_6_code 34 = .ok (.invokevirtual 84, 3) := by decide +kernel
theorem d_Bo_hits__37 : decode prog_13_method_6_code 37 = .ok (.istore 5, 2) := by decide +kernel
theorem d_Bo_hits__39 : decode prog_13_method_6_code 39 = .ok (.iload 5, 2) := by decide +kernel
theorem d_Bo_hits__41 : decode prog_13_method_6_code 41 = .ok (.aload_n 3, 1) := by decide +kernel
theorem d_Bo_hits__42 : decode prog_13_method_6_code 42 = .ok (.arraylength, 1) := by decide +kernel
theorem d_Bo_hits__43 : decode prog_13_method_6_code 43 = .ok (.if_icmp .gt 37, 3) := by decide +kernel
theorem d_Bo_hits__46 : decode prog_13_method_6_code 46 = .ok (.aload_n 2, 1) := by decide +kernel
theorem d_Bo_hits__47 : decode prog_13_method_6_code 47 = .ok (.new 87, 3) := by decide +kernel
theorem d_Bo_hits__50 : decode prog_13_method_6_code 50 = .ok (.dup, 1) := by decide +kernel
theorem d_Bo_hits__51 : decode prog_13_method_6_code 51 = .ok (.aload_n 3, 1) := by decide +kernel
theorem d_Bo_hits__52 : decode prog_13_method_6_code 52 = .ok (.iload 5, 2) := by decide +kernel
theorem d_Bo_hits__54 : decode prog_13_method_6_code 54 = .ok (.iconst 1, 1) := by decide +kernel
theorem d_Bo_hits__55 : decode prog_13_method_6_code 55 = .ok (.isub, 1) := by decide +kernel
theorem d_Bo_hits__56 : decode prog_13_method_6_code 56 = .ok (.iaload, 1) := by decide +kernel
theorem d_Bo_hits__57 : decode prog_13_method_6_code 57 = .ok (.iload 5, 2) := by decide +kernel
theorem d_Bo_hits__59 : decode prog_13_method_6_code 59 = .ok (.iload 4, 2) := by decide +kernel
theorem d_Bo_hits__61 : decode prog_13_method_6_code 61 = .ok (.invokespecial 89, 3) := by decide +kernel
theorem d_Bo_hits__64 : decode prog_13_method_6_code 64 = .ok (.invokevirtual 92, 3) := by decide +kernel
theorem d_Bo_hits__67 : decode prog_13_method_6_code 67 = .ok (.pop, 1) := by decide +kernel
theorem d_Bo_hits__68 : decode prog_13_method_6_code 68 = .ok (.iload 5, 2) := by decide +kernel
theorem d_Bo_hits__70 : decode prog_13_method_6_code 70 = .ok (.aload_n 0, 1) := by decide +kernel
theorem d_Bo_hits__71 : decode prog_13_method_6_code 71 = .ok (.getfield 28, 3) := by decide +kernel
theorem d_Bo_hits__74 : decode prog_13_method_6_code 74 = .ok (.iadd, 1) := by decide +kernel
theorem d_Bo_hits__75 : decode prog_13_method_6_code 75 = .ok (.istore 5, 2) := by decide +kernel
theorem d_Bo_hits__77 : decode prog_13_method_6_code 77 = .ok (.goto (-38), 3) := by decide +kernel
theorem d_Bo_hits__80 : decode prog_13_method_6_code 80 = .ok (.iinc 4 1, 3) := by decide +kernel
theorem d_Bo_hits__83 : decode prog_13_method_6_code 83 = .ok (.goto (-67), 3) := by decide +kernel
theorem d_Bo_hits__86 : decode prog_13_method_6_code 86 = .ok (.aload_n 2, 1) := by decide +kernel
theorem d_Bo_hits__87 : decode prog_13_method_6_code 87 = .ok (.areturn, 1) := by decide +kernel
theorem d_Cl_draw_0 : decode method_3_code 0 = .ok (.aload_n 0, 1) := by decide +kernel
theorem d_Cl_draw_1 : decode method_3_code 1 = .ok (.iconst 0, 1) := by decide +kernel
theorem d_Cl_draw_2 : decode method_3_code 2 = .ok (.ldc 7, 2) := by decide +kernel
theorem d_Cl_draw_4 : decode method_3_code 4 = .ok (.aload_n 0, 1) := by decide +kernel
theorem d_Cl_draw_5 : decode method_3_code 5 = .ok (.iconst 0, 1) := by decide +kernel
theorem d_Cl_draw_6 : decode method_3_code 6 = .ok (.iaload, 1) := by decide +kernel
theorem d_Cl_draw_7 : decode method_3_code 7 = .ok (.imul, 1) := by decide +kernel
theorem d_Cl_draw_8 : decode method_3_code 8 = .ok (.sipush 12345, 3) := by decide +kernel
theorem d_Cl_draw_11 : decode method_3_code 11 = .ok (.iadd, 1) := by decide +kernel
theorem d_Cl_draw_12 : decode method_3_code 12 = .ok (.iastore, 1) := by decide +kernel
theorem d_Cl_draw_13 : decode method_3_code 13 = .ok (.aload_n 0, 1) := by decide +kernel
theorem d_Cl_draw_14 : decode method_3_code 14 = .ok (.iconst 0, 1) := by decide +kernel
theorem d_Cl_draw_15 : decode method_3_code 15 = .ok (.iaload, 1) := by decide +kernel
theorem d_Cl_draw_16 : decode method_3_code 16 = .ok (.bipush 16, 2) := by decide +kernel
theorem d_Cl_draw_18 : decode method_3_code 18 = .ok (.iushr, 1) := by decide +kernel
theorem d_Cl_draw_19 : decode method_3_code 19 = .ok (.iload_n 1, 1) := by decide +kernel
theorem d_Cl_draw_20 : decode method_3_code 20 = .ok (.irem, 1) := by decide +kernel
theorem d_Cl_draw_21 : decode method_3_code 21 = .ok (.ireturn, 1) := by decide +kernel
theorem d_Al_get_0 : decode prog_42_method_20_code 0 = .ok (.iload_n 1, 1) := by decide +kernel
theorem d_Al_get_1 : decode prog_42_method_20_code 1 = .ok (.aload_n 0, 1) := by decide +kernel
theorem d_Al_get_2 : decode prog_42_method_20_code 2 = .ok (.getfield 48, 3) := by decide +kernel
theorem d_Al_get_5 : decode prog_42_method_20_code 5 = .ok (.invokestatic 118, 3) := by decide +kernel
theorem d_Al_get_8 : decode prog_42_method_20_code 8 = .ok (.pop, 1) := by decide +kernel
theorem d_Al_get_9 : decode prog_42_method_20_code 9 = .ok (.aload_n 0, 1) := by decide +kernel
theorem d_Al_get_10 : decode prog_42_method_20_code 10 = .ok (.iload_n 1, 1) := by decide +kernel
theorem d_Al_get_11 : decode prog_42_method_20_code 11 = .ok (.invokevirtual 123, 3) := by decide +kernel
theorem d_Al_get_14 : decode prog_42_method_20_code 14 = .ok (.areturn, 1) := by decide +kernel
theorem d_Cl_drawn_0 : decode method_5_code 0 = .ok (.new 24, 3) := by decide +kernel
theorem d_Cl_drawn_3 : decode method_5_code 3 = .ok (.dup, 1) := by decide +kernel
theorem d_Cl_drawn_4 : decode method_5_code 4 = .ok (.invokespecial 26, 3) := by decide +kernel
theorem d_Cl_drawn_7 : decode method_5_code 7 = .ok (.astore_n 2, 1) := by decide +kernel
theorem d_Cl_drawn_8 : decode method_5_code 8 = .ok (.aload_n 0, 1) := by decide +kernel
theorem d_Cl_drawn_9 : decode method_5_code 9 = .ok (.getfield 27, 3) := by decide +kernel
theorem d_Cl_drawn_12 : decode method_5_code 12 = .ok (.invokevirtual 33, 3) := by decide +kernel
theorem d_Cl_drawn_15 : decode method_5_code 15 = .ok (.aload_n 0, 1) := by decide +kernel
theorem d_Cl_drawn_16 : decode method_5_code 16 = .ok (.getfield 38, 3) := by decide +kernel
theorem d_Cl_drawn_19 : decode method_5_code 19 = .ok (.invokevirtual 33, 3) := by decide +kernel
theorem d_Cl_drawn_22 : decode method_5_code 22 = .ok (.aload_n 0, 1) := by decide +kernel
theorem d_Cl_drawn_23 : decode method_5_code 23 = .ok (.iconst 0, 1) := by decide +kernel
theorem d_Cl_drawn_24 : decode method_5_code 24 = .ok (.putfield 41, 3) := by decide +kernel
theorem d_Cl_drawn_27 : decode method_5_code 27 = .ok (.aload_n 0, 1) := by decide +kernel
theorem d_Cl_drawn_28 : decode method_5_code 28 = .ok (.aload_n 0, 1) := by decide +kernel
theorem d_Cl_drawn_29 : decode method_5_code 29 = .ok (.getfield 45, 3) := by decide +kernel
theorem d_Cl_drawn_32 : decode method_5_code 32 = .ok (.iconst 4, 1) := by decide +kernel
theorem d_Cl_drawn_33 : decode method_5_code 33 = .ok (.iaload, 1) := by decide +kernel
theorem d_Cl_drawn_34 : decode method_5_code 34 = .ok (.putfield 49, 3) := by decide +kernel
theorem d_Cl_drawn_37 : decode method_5_code 37 = .ok (.aload_n 1, 1) := by decide +kernel
theorem d_Cl_drawn_38 : decode method_5_code 38 = .ok (.bipush 6, 2) := by decide +kernel
theorem d_Cl_drawn_40 : decode method_5_code 40 = .ok (.invokestatic 52, 3) := by decide +kernel
theorem d_Cl_drawn_43 : decode method_5_code 43 = .ok (.ifCond .ne 11, 3) := by decide +kernel
theorem d_Cl_drawn_46 : decode method_5_code 46 = .ok (.aload_n 1, 1) := by decide +kernel
theorem d_Cl_drawn_47 : decode method_5_code 47 = .ok (.iconst 3, 1) := by decide +kernel
theorem d_Cl_drawn_48 : decode method_5_code 48 = .ok (.invokestatic 52, 3) := by decide +kernel
theorem d_Cl_drawn_51 : decode method_5_code 51 = .ok (.goto 11, 3) := by decide +kernel
theorem d_Cl_drawn_54 : decode method_5_code 54 = .ok (.iconst 3, 1) := by decide +kernel
theorem d_Cl_drawn_55 : decode method_5_code 55 = .ok (.aload_n 1, 1) := by decide +kernel
theorem d_Cl_drawn_56 : decode method_5_code 56 = .ok (.bipush 26, 2) := by decide +kernel
theorem d_Cl_drawn_58 : decode method_5_code 58 = .ok (.invokestatic 52, 3) := by decide +kernel
theorem d_Cl_drawn_61 : decode method_5_code 61 = .ok (.iadd, 1) := by decide +kernel
theorem d_Cl_drawn_62 : decode method_5_code 62 = .ok (.istore_n 3, 1) := by decide +kernel
theorem d_Cl_drawn_63 : decode method_5_code 63 = .ok (.aload_n 1, 1) := by decide +kernel
theorem d_Cl_drawn_64 : decode method_5_code 64 = .ok (.iconst 3, 1) := by decide +kernel
theorem d_Cl_drawn_65 : decode method_5_code 65 = .ok (.invokestatic 52, 3) := by decide +kernel
theorem d_Cl_drawn_68 : decode method_5_code 68 = .ok (.ifCond .ne 9, 3) := by decide +kernel
theorem d_Cl_drawn_71 : decode method_5_code 71 = .ok (.sipush 900, 3) := by decide +kernel
theorem d_Cl_drawn_74 : decode method_5_code 74 = .ok (.goto 6, 3) := by decide +kernel
theorem d_Cl_drawn_77 : decode method_5_code 77 = .ok (.sipush 180, 3) := by decide +kernel
theorem d_Cl_drawn_80 : decode method_5_code 80 = .ok (.istore 4, 2) := by decide +kernel
theorem d_Cl_drawn_82 : decode method_5_code 82 = .ok (.iload_n 3, 1) := by decide +kernel
theorem d_Cl_drawn_83 : decode method_5_code 83 = .ok (.iinc 3 (-1), 3) := by decide +kernel
theorem d_Cl_drawn_86 : decode method_5_code 86 = .ok (.ifCond .le 345, 3) := by decide +kernel
theorem d_Cl_drawn_89 : decode method_5_code 89 = .ok (.aload_n 2, 1) := by decide +kernel
theorem d_Cl_drawn_90 : decode method_5_code 90 = .ok (.invokevirtual 58, 3) := by decide +kernel
theorem d_Cl_drawn_93 : decode method_5_code 93 = .ok (.sipush 860, 3) := by decide +kernel
theorem d_Cl_drawn_96 : decode method_5_code 96 = .ok (.if_icmp .ge 335, 3) := by decide +kernel
theorem d_Cl_drawn_99 : decode method_5_code 99 = .ok (.aload_n 0, 1) := by decide +kernel
theorem d_Cl_drawn_100 : decode method_5_code 100 = .ok (.getfield 27, 3) := by decide +kernel
theorem d_Cl_drawn_103 : decode method_5_code 103 = .ok (.invokevirtual 59, 3) := by decide +kernel
theorem d_Cl_drawn_106 : decode method_5_code 106 = .ok (.ifCond .ne 11, 3) := by decide +kernel
theorem d_Cl_drawn_109 : decode method_5_code 109 = .ok (.aload_n 1, 1) := by decide +kernel
theorem d_Cl_drawn_110 : decode method_5_code 110 = .ok (.iconst 4, 1) := by decide +kernel
theorem d_Cl_drawn_111 : decode method_5_code 111 = .ok (.invokestatic 52, 3) := by decide +kernel
theorem d_Cl_drawn_114 : decode method_5_code 114 = .ok (.ifCond .le 7, 3) := by decide +kernel
theorem d_Cl_drawn_117 : decode method_5_code 117 = .ok (.aconst_null, 1) := by decide +kernel
theorem d_Cl_drawn_118 : decode method_5_code 118 = .ok (.goto 24, 3) := by decide +kernel
theorem d_Cl_drawn_121 : decode method_5_code 121 = .ok (.aload_n 0, 1) := by decide +kernel
theorem d_Cl_drawn_122 : decode method_5_code 122 = .ok (.getfield 27, 3) := by decide +kernel
theorem d_Cl_drawn_125 : decode method_5_code 125 = .ok (.aload_n 1, 1) := by decide +kernel
theorem d_Cl_drawn_126 : decode method_5_code 126 = .ok (.aload_n 0, 1) := by decide +kernel
theorem d_Cl_drawn_127 : decode method_5_code 127 = .ok (.getfield 27, 3) := by decide +kernel
theorem d_Cl_drawn_130 : decode method_5_code 130 = .ok (.invokevirtual 63, 3) := by decide +kernel
theorem d_Cl_drawn_133 : decode method_5_code 133 = .ok (.invokestatic 52, 3) := by decide +kernel
theorem d_Cl_drawn_136 : decode method_5_code 136 = .ok (.invokevirtual 66, 3) := by decide +kernel
theorem d_Cl_drawn_139 : decode method_5_code 139 = .ok (.checkcast 70, 3) := by decide +kernel
theorem d_Cl_drawn_142 : decode method_5_code 142 = .ok (.astore 5, 2) := by decide +kernel
theorem d_Cl_drawn_144 : decode method_5_code 144 = .ok (.aload 5, 2) := by decide +kernel
theorem d_Cl_drawn_146 : decode method_5_code 146 = .ok (.ifnull 98, 3) := by decide +kernel
theorem d_Cl_drawn_149 : decode method_5_code 149 = .ok (.aload 5, 2) := by decide +kernel
theorem d_Cl_drawn_151 : decode method_5_code 151 = .ok (.getfield 72, 3) := by decide +kernel
theorem d_Cl_drawn_154 : decode method_5_code 154 = .ok (.iconst 1, 1) := by decide +kernel
theorem d_Cl_drawn_155 : decode method_5_code 155 = .ok (.if_icmp .ge 6, 3) := by decide +kernel
theorem d_Cl_drawn_158 : decode method_5_code 158 = .ok (.goto (-76), 3) := by decide +kernel
theorem d_Cl_drawn_161 : decode method_5_code 161 = .ok (.aload 5, 2) := by decide +kernel
theorem d_Cl_drawn_163 : decode method_5_code 163 = .ok (.aload_n 1, 1) := by decide +kernel
theorem d_Cl_drawn_164 : decode method_5_code 164 = .ok (.iconst 3, 1) := by decide +kernel
theorem d_Cl_drawn_165 : decode method_5_code 165 = .ok (.invokestatic 52, 3) := by decide +kernel
theorem d_Cl_drawn_168 : decode method_5_code 168 = .ok (.ifCond .ne 11, 3) := by decide +kernel
theorem d_Cl_drawn_171 : decode method_5_code 171 = .ok (.aload 5, 2) := by decide +kernel
theorem d_Cl_drawn_173 : decode method_5_code 173 = .ok (.getfield 72, 3) := by decide +kernel
theorem d_Cl_drawn_176 : decode method_5_code 176 = .ok (.goto 16, 3) := by decide +kernel
theorem d_Cl_drawn_179 : decode method_5_code 179 = .ok (.aload_n 1, 1) := by decide +kernel
theorem d_Cl_drawn_180 : decode method_5_code 180 = .ok (.iconst 2, 1) := by decide +kernel
theorem d_Cl_drawn_181 : decode method_5_code 181 = .ok (.aload 5, 2) := by decide +kernel
theorem d_Cl_drawn_183 : decode method_5_code 183 = .ok (.getfield 72, 3) := by decide +kernel
theorem d_Cl_drawn_186 : decode method_5_code 186 = .ok (.imul, 1) := by decide +kernel
theorem d_Cl_drawn_187 : decode method_5_code 187 = .ok (.iconst 1, 1) := by decide +kernel
theorem d_Cl_drawn_188 : decode method_5_code 188 = .ok (.iadd, 1) := by decide +kernel
theorem d_Cl_drawn_189 : decode method_5_code 189 = .ok (.invokestatic 52, 3) := by decide +kernel
theorem d_Cl_drawn_192 : decode method_5_code 192 = .ok (.putfield 75, 3) := by decide +kernel
theorem d_Cl_drawn_195 : decode method_5_code 195 = .ok (.aload_n 2, 1) := by decide +kernel
theorem d_Cl_drawn_196 : decode method_5_code 196 = .ok (.ldc 78, 2) := by decide +kernel
theorem d_Cl_drawn_198 : decode method_5_code 198 = .ok (.invokevirtual 80, 3) := by decide +kernel
theorem d_Cl_drawn_201 : decode method_5_code 201 = .ok (.aload 5, 2) := by decide +kernel
theorem d_Cl_drawn_203 : decode method_5_code 203 = .ok (.getfield 84, 3) := by decide +kernel
theorem d_Cl_drawn_206 : decode method_5_code 206 = .ok (.invokevirtual 87, 3) := by decide +kernel
theorem d_Cl_drawn_209 : decode method_5_code 209 = .ok (.bipush 32, 2) := by decide +kernel
theorem d_Cl_drawn_211 : decode method_5_code 211 = .ok (.invokevirtual 90, 3) := by decide +kernel
theorem d_Cl_drawn_214 : decode method_5_code 214 = .ok (.aload 5, 2) := by decide +kernel
theorem d_Cl_drawn_216 : decode method_5_code 216 = .ok (.getfield 93, 3) := by decide +kernel
theorem d_Cl_drawn_219 : decode method_5_code 219 = .ok (.invokevirtual 87, 3) := by decide +kernel
theorem d_Cl_drawn_222 : decode method_5_code 222 = .ok (.ldc 96, 2) := by decide +kernel
theorem d_Cl_drawn_224 : decode method_5_code 224 = .ok (.invokevirtual 80, 3) := by decide +kernel
theorem d_Cl_drawn_227 : decode method_5_code 227 = .ok (.aload 5, 2) := by decide +kernel
theorem d_Cl_drawn_229 : decode method_5_code 229 = .ok (.getfield 75, 3) := by decide +kernel
theorem d_Cl_drawn_232 : decode method_5_code 232 = .ok (.invokevirtual 87, 3) := by decide +kernel
theorem d_Cl_drawn_235 : decode method_5_code 235 = .ok (.bipush 59, 2) := by decide +kernel
theorem d_Cl_drawn_237 : decode method_5_code 237 = .ok (.invokevirtual 90, 3) := by decide +kernel
theorem d_Cl_drawn_240 : decode method_5_code 240 = .ok (.pop, 1) := by decide +kernel
theorem d_Cl_drawn_241 : decode method_5_code 241 = .ok (.goto (-159), 3) := by decide +kernel
theorem d_Cl_drawn_244 : decode method_5_code 244 = .ok (.new 70, 3) := by decide +kernel
theorem d_Cl_drawn_247 : decode method_5_code 247 = .ok (.dup, 1) := by decide +kernel
theorem d_Cl_drawn_248 : decode method_5_code 248 = .ok (.invokespecial 98, 3) := by decide +kernel
theorem d_Cl_drawn_251 : decode method_5_code 251 = .ok (.astore 5, 2) := by decide +kernel
theorem d_Cl_drawn_253 : decode method_5_code 253 = .ok (.aload 5, 2) := by decide +kernel
