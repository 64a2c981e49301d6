-- instructions, decoded
theorem d_Lm_init_11 : decode prog_54_method_14_code 11 = .ok (.aload_n 0, 1) := by decide +kernel
theorem d_Lm_init_12 : decode prog_54_method_14_code 12 = .ok (.iconst 0, 1) := by decide +kernel
theorem d_Lm_init_13 : decode prog_54_method_14_code 13 = .ok (.putfield 64, 3) := by decide +kernel
theorem d_Lm_init_16 : decode prog_54_method_14_code 16 = .ok (.return_, 1) := by decide +kernel
theorem d_Lm_sequencedKeySet_0 : decode prog_54_method_25_code 0 = .ok (.aload_n 0, 1) := by decide +kernel
theorem d_Lm_sequencedKeySet_1 : decode prog_54_method_25_code 1 = .ok (.getfield 117, 3) := by decide +kernel
theorem d_Lm_sequencedKeySet_4 : decode prog_54_method_25_code 4 = .ok (.astore_n 1, 1) := by decide +kernel
theorem d_Lm_sequencedKeySet_5 : decode prog_54_method_25_code 5 = .ok (.aload_n 1, 1) := by decide +kernel
theorem d_Lm_sequencedKeySet_6 : decode prog_54_method_25_code 6 = .ok (.ifnonnull 20, 3) := by decide +kernel
theorem d_Lm_sequencedKeySet_9 : decode prog_54_method_25_code 9 = .ok (.new 121, 3) := by decide +kernel
theorem d_Lm_sequencedKeySet_12 : decode prog_54_method_25_code 12 = .ok (.dup, 1) := by decide +kernel
theorem d_Lm_sequencedKeySet_13 : decode prog_54_method_25_code 13 = .ok (.aload_n 0, 1) := by decide +kernel
theorem d_Lm_sequencedKeySet_14 : decode prog_54_method_25_code 14 = .ok (.iconst 0, 1) := by decide +kernel
theorem d_Lm_sequencedKeySet_15 : decode prog_54_method_25_code 15 = .ok (.invokespecial 123, 3) := by decide +kernel
theorem d_Lm_sequencedKeySet_18 : decode prog_54_method_25_code 18 = .ok (.astore_n 2, 1) := by decide +kernel
theorem d_Lm_sequencedKeySet_19 : decode prog_54_method_25_code 19 = .ok (.aload_n 0, 1) := by decide +kernel
theorem d_Lm_sequencedKeySet_20 : decode prog_54_method_25_code 20 = .ok (.aload_n 2, 1) := by decide +kernel
theorem d_Lm_sequencedKeySet_21 : decode prog_54_method_25_code 21 = .ok (.putfield 117, 3) := by decide +kernel
theorem d_Lm_sequencedKeySet_24 : decode prog_54_method_25_code 24 = .ok (.aload_n 2, 1) := by decide +kernel
theorem d_Lm_sequencedKeySet_25 : decode prog_54_method_25_code 25 = .ok (.areturn, 1) := by decide +kernel
theorem d_Lk_init_0 : decode prog_57_method_1_code 0 = .ok (.aload_n 0, 1) := by decide +kernel
theorem d_Lk_init_1 : decode prog_57_method_1_code 1 = .ok (.aload_n 1, 1) := by decide +kernel
theorem d_Lk_init_2 : decode prog_57_method_1_code 2 = .ok (.iload_n 2, 1) := by decide +kernel
theorem d_Lk_init_3 : decode prog_57_method_1_code 3 = .ok (.invokespecial 1, 3) := by decide +kernel
theorem d_Lk_init_6 : decode prog_57_method_1_code 6 = .ok (.return_, 1) := by decide +kernel
theorem d_Nu_init_0 : decode prog_29_method_1_code 0 = .ok (.aload_n 0, 1) := by decide +kernel
theorem d_Nu_init_1 : decode prog_29_method_1_code 1 = .ok (.invokespecial 1, 3) := by decide +kernel
theorem d_Nu_init_4 : decode prog_29_method_1_code 4 = .ok (.return_, 1) := by decide +kernel
theorem d_Hm_hash_0 : decode prog_46_method_1_code 0 = .ok (.aload_n 0, 1) := by decide +kernel
theorem d_Hm_hash_1 : decode prog_46_method_1_code 1 = .ok (.ifnonnull 7, 3) := by decide +kernel
theorem d_Hm_hash_8 : decode prog_46_method_1_code 8 = .ok (.aload_n 0, 1) := by decide +kernel
theorem d_Hm_hash_9 : decode prog_46_method_1_code 9 = .ok (.invokevirtual 1, 3) := by decide +kernel
theorem d_Hm_hash_12 : decode prog_46_method_1_code 12 = .ok (.dup, 1) := by decide +kernel
theorem d_Hm_hash_13 : decode prog_46_method_1_code 13 = .ok (.istore_n 1, 1) := by decide +kernel
theorem d_Hm_hash_14 : decode prog_46_method_1_code 14 = .ok (.iload_n 1, 1) := by decide +kernel
theorem d_Hm_hash_15 : decode prog_46_method_1_code 15 = .ok (.bipush 16, 2) := by decide +kernel
theorem d_Hm_hash_17 : decode prog_46_method_1_code 17 = .ok (.iushr, 1) := by decide +kernel
theorem d_Hm_hash_18 : decode prog_46_method_1_code 18 = .ok (.ixor, 1) := by decide +kernel
theorem d_Hm_hash_19 : decode prog_46_method_1_code 19 = .ok (.ireturn, 1) := by decide +kernel
theorem d_Hm_putVal_0 : decode prog_46_method_16_code 0 = .ok (.aload_n 0, 1) := by decide +kernel
theorem d_Hm_putVal_1 : decode prog_46_method_16_code 1 = .ok (.getfield 105, 3) := by decide +kernel
theorem d_Hm_putVal_4 : decode prog_46_method_16_code 4 = .ok (.dup, 1) := by decide +kernel
theorem d_Hm_putVal_5 : decode prog_46_method_16_code 5 = .ok (.astore 6, 2) := by decide +kernel
theorem d_Hm_putVal_7 : decode prog_46_method_16_code 7 = .ok (.ifnull 12, 3) := by decide +kernel
theorem d_Hm_putVal_10 : decode prog_46_method_16_code 10 = .ok (.aload 6, 2) := by decide +kernel
theorem d_Hm_putVal_12 : decode prog_46_method_16_code 12 = .ok (.arraylength, 1) := by decide +kernel
theorem d_Hm_putVal_13 : decode prog_46_method_16_code 13 = .ok (.dup, 1) := by decide +kernel
theorem d_Hm_putVal_14 : decode prog_46_method_16_code 14 = .ok (.istore 8, 2) := by decide +kernel
theorem d_Hm_putVal_16 : decode prog_46_method_16_code 16 = .ok (.ifCond .ne 13, 3) := by decide +kernel
theorem d_Hm_putVal_19 : decode prog_46_method_16_code 19 = .ok (.aload_n 0, 1) := by decide +kernel
theorem d_Hm_putVal_20 : decode prog_46_method_16_code 20 = .ok (.invokevirtual 117, 3) := by decide +kernel
theorem d_Hm_putVal_23 : decode prog_46_method_16_code 23 = .ok (.dup, 1) := by decide +kernel
theorem d_Hm_putVal_24 : decode prog_46_method_16_code 24 = .ok (.astore 6, 2) := by decide +kernel
theorem d_Hm_putVal_26 : decode prog_46_method_16_code 26 = .ok (.arraylength, 1) := by decide +kernel
theorem d_Hm_putVal_27 : decode prog_46_method_16_code 27 = .ok (.istore 8, 2) := by decide +kernel
theorem d_Hm_putVal_29 : decode prog_46_method_16_code 29 = .ok (.aload 6, 2) := by decide +kernel
theorem d_Hm_putVal_31 : decode prog_46_method_16_code 31 = .ok (.iload 8, 2) := by decide +kernel
theorem d_Hm_putVal_33 : decode prog_46_method_16_code 33 = .ok (.iconst 1, 1) := by decide +kernel
theorem d_Hm_putVal_34 : decode prog_46_method_16_code 34 = .ok (.isub, 1) := by decide +kernel
theorem d_Hm_putVal_35 : decode prog_46_method_16_code 35 = .ok (.iload_n 1, 1) := by decide +kernel
theorem d_Hm_putVal_36 : decode prog_46_method_16_code 36 = .ok (.iand, 1) := by decide +kernel
theorem d_Hm_putVal_37 : decode prog_46_method_16_code 37 = .ok (.dup, 1) := by decide +kernel
theorem d_Hm_putVal_38 : decode prog_46_method_16_code 38 = .ok (.istore 9, 2) := by decide +kernel
theorem d_Hm_putVal_40 : decode prog_46_method_16_code 40 = .ok (.aaload, 1) := by decide +kernel
theorem d_Hm_putVal_41 : decode prog_46_method_16_code 41 = .ok (.dup, 1) := by decide +kernel
theorem d_Hm_putVal_42 : decode prog_46_method_16_code 42 = .ok (.astore 7, 2) := by decide +kernel
theorem d_Hm_putVal_44 : decode prog_46_method_16_code 44 = .ok (.ifnonnull 19, 3) := by decide +kernel
theorem d_Hm_putVal_47 : decode prog_46_method_16_code 47 = .ok (.aload 6, 2) := by decide +kernel
theorem d_Hm_putVal_49 : decode prog_46_method_16_code 49 = .ok (.iload 9, 2) := by decide +kernel
theorem d_Hm_putVal_51 : decode prog_46_method_16_code 51 = .ok (.aload_n 0, 1) := by decide +kernel
theorem d_Hm_putVal_52 : decode prog_46_method_16_code 52 = .ok (.iload_n 1, 1) := by decide +kernel
theorem d_Hm_putVal_53 : decode prog_46_method_16_code 53 = .ok (.aload_n 2, 1) := by decide +kernel
theorem d_Hm_putVal_54 : decode prog_46_method_16_code 54 = .ok (.aload_n 3, 1) := by decide +kernel
theorem d_Hm_putVal_55 : decode prog_46_method_16_code 55 = .ok (.aconst_null, 1) := by decide +kernel
theorem d_Hm_putVal_56 : decode prog_46_method_16_code 56 = .ok (.invokevirtual 186, 3) := by decide +kernel
theorem d_Hm_putVal_59 : decode prog_46_method_16_code 59 = .ok (.aastore, 1) := by decide +kernel
theorem d_Hm_putVal_60 : decode prog_46_method_16_code 60 = .ok (.goto 199, 3) := by decide +kernel
theorem d_Hm_putVal_63 : decode prog_46_method_16_code 63 = .ok (.aload 7, 2) := by decide +kernel
theorem d_Hm_putVal_65 : decode prog_46_method_16_code 65 = .ok (.getfield 168, 3) := by decide +kernel
theorem d_Hm_putVal_68 : decode prog_46_method_16_code 68 = .ok (.iload_n 1, 1) := by decide +kernel
theorem d_Hm_putVal_69 : decode prog_46_method_16_code 69 = .ok (.if_icmp .ne 35, 3) := by decide +kernel
theorem d_Hm_putVal_72 : decode prog_46_method_16_code 72 = .ok (.aload 7, 2) := by decide +kernel
theorem d_Hm_putVal_74 : decode prog_46_method_16_code 74 = .ok (.getfield 170, 3) := by decide +kernel
theorem d_Hm_putVal_77 : decode prog_46_method_16_code 77 = .ok (.dup, 1) := by decide +kernel
theorem d_Hm_putVal_78 : decode prog_46_method_16_code 78 = .ok (.astore 11, 2) := by decide +kernel
theorem d_Hm_putVal_80 : decode prog_46_method_16_code 80 = .ok (.aload_n 2, 1) := by decide +kernel
theorem d_Hm_putVal_81 : decode prog_46_method_16_code 81 = .ok (.if_acmp .eq 16, 3) := by decide +kernel
theorem d_Hm_putVal_97 : decode prog_46_method_16_code 97 = .ok (.aload 7, 2) := by decide +kernel
theorem d_Hm_putVal_99 : decode prog_46_method_16_code 99 = .ok (.astore 10, 2) := by decide +kernel
theorem d_Hm_putVal_101 : decode prog_46_method_16_code 101 = .ok (.goto 121, 3) := by decide +kernel
theorem d_Hm_putVal_222 : decode prog_46_method_16_code 222 = .ok (.aload 10, 2) := by decide +kernel
theorem d_Hm_putVal_224 : decode prog_46_method_16_code 224 = .ok (.ifnull 35, 3) := by decide +kernel
theorem d_Hm_putVal_227 : decode prog_46_method_16_code 227 = .ok (.aload 10, 2) := by decide +kernel
theorem d_Hm_putVal_229 : decode prog_46_method_16_code 229 = .ok (.getfield 162, 3) := by decide +kernel
theorem d_Hm_putVal_232 : decode prog_46_method_16_code 232 = .ok (.astore 12, 2) := by decide +kernel
theorem d_Hm_putVal_234 : decode prog_46_method_16_code 234 = .ok (.iload 4, 2) := by decide +kernel
theorem d_Hm_putVal_236 : decode prog_46_method_16_code 236 = .ok (.ifCond .eq 8, 3) := by decide +kernel
theorem d_Hm_putVal_239 : decode prog_46_method_16_code 239 = .ok (.aload 12, 2) := by decide +kernel
theorem d_Hm_putVal_241 : decode prog_46_method_16_code 241 = .ok (.ifnonnull 9, 3) := by decide +kernel
theorem d_Hm_putVal_244 : decode prog_46_method_16_code 244 = .ok (.aload 10, 2) := by decide +kernel
theorem d_Hm_putVal_246 : decode prog_46_method_16_code 246 = .ok (.aload_n 3, 1) := by decide +kernel
theorem d_Hm_putVal_247 : decode prog_46_method_16_code 247 = .ok (.putfield 162, 3) := by decide +kernel
theorem d_Hm_putVal_250 : decode prog_46_method_16_code 250 = .ok (.aload_n 0, 1) := by decide +kernel
theorem d_Hm_putVal_251 : decode prog_46_method_16_code 251 = .ok (.aload 10, 2) := by decide +kernel
theorem d_Hm_putVal_253 : decode prog_46_method_16_code 253 = .ok (.invokevirtual 198, 3) := by decide +kernel
theorem d_Hm_putVal_256 : decode prog_46_method_16_code 256 = .ok (.aload 12, 2) := by decide +kernel
theorem d_Hm_putVal_258 : decode prog_46_method_16_code 258 = .ok (.areturn, 1) := by decide +kernel
theorem d_Hm_putVal_259 : decode prog_46_method_16_code 259 = .ok (.aload_n 0, 1) := by decide +kernel
theorem d_Hm_putVal_260 : decode prog_46_method_16_code 260 = .ok (.dup, 1) := by decide +kernel
theorem d_Hm_putVal_261 : decode prog_46_method_16_code 261 = .ok (.getfield 202, 3) := by decide +kernel
theorem d_Hm_putVal_264 : decode prog_46_method_16_code 264 = .ok (.iconst 1, 1) := by decide +kernel
theorem d_Hm_putVal_265 : decode prog_46_method_16_code 265 = .ok (.iadd, 1) := by decide +kernel
theorem d_Hm_putVal_266 : decode prog_46_method_16_code 266 = .ok (.putfield 202, 3) := by decide +kernel
theorem d_Hm_putVal_269 : decode prog_46_method_16_code 269 = .ok (.aload_n 0, 1) := by decide +kernel
theorem d_Hm_putVal_270 : decode prog_46_method_16_code 270 = .ok (.dup, 1) := by decide +kernel
theorem d_Hm_putVal_271 : decode prog_46_method_16_code 271 = .ok (.getfield 156, 3) := by decide +kernel
theorem d_Hm_putVal_274 : decode prog_46_method_16_code 274 = .ok (.iconst 1, 1) := by decide +kernel
theorem d_Hm_putVal_275 : decode prog_46_method_16_code 275 = .ok (.iadd, 1) := by decide +kernel
theorem d_Hm_putVal_276 : decode prog_46_method_16_code 276 = .ok (.dup_x1, 1) := by decide +kernel
theorem d_Hm_putVal_277 : decode prog_46_method_16_code 277 = .ok (.putfield 156, 3) := by decide +kernel
theorem d_Hm_putVal_280 : decode prog_46_method_16_code 280 = .ok (.aload_n 0, 1) := by decide +kernel
theorem d_Hm_putVal_281 : decode prog_46_method_16_code 281 = .ok (.getfield 88, 3) := by decide +kernel
theorem d_Hm_putVal_284 : decode prog_46_method_16_code 284 = .ok (.if_icmp .le 8, 3) := by decide +kernel
theorem d_Hm_putVal_292 : decode prog_46_method_16_code 292 = .ok (.aload_n 0, 1) := by decide +kernel
theorem d_Hm_putVal_293 : decode prog_46_method_16_code 293 = .ok (.iload 5, 2) := by decide +kernel
theorem d_Hm_putVal_295 : decode prog_46_method_16_code 295 = .ok (.invokevirtual 205, 3) := by decide +kernel
theorem d_Hm_putVal_298 : decode prog_46_method_16_code 298 = .ok (.aconst_null, 1) := by decide +kernel
theorem d_Hm_putVal_299 : decode prog_46_method_16_code 299 = .ok (.areturn, 1) := by decide +kernel
theorem d_In_stringSize_0 : decode prog_24_method_13_code 0 = .ok (.iconst 1, 1) := by decide +kernel
theorem d_In_stringSize_1 : decode prog_24_method_13_code 1 = .ok (.istore_n 1, 1) := by decide +kernel
theorem d_In_stringSize_2 : decode prog_24_method_13_code 2 = .ok (.iload_n 0, 1) := by decide +kernel
theorem d_In_stringSize_3 : decode prog_24_method_13_code 3 = .ok (.ifCond .lt 8, 3) := by decide +kernel
theorem d_In_stringSize_6 : decode prog_24_method_13_code 6 = .ok (.iconst 0, 1) := by decide +kernel
theorem d_In_stringSize_7 : decode prog_24_method_13_code 7 = .ok (.istore_n 1, 1) := by decide +kernel
theorem d_In_stringSize_8 : decode prog_24_method_13_code 8 = .ok (.iload_n 0, 1) := by decide +kernel
theorem d_In_stringSize_9 : decode prog_24_method_13_code 9 = .ok (.ineg, 1) := by decide +kernel
theorem d_In_stringSize_10 : decode prog_24_method_13_code 10 = .ok (.istore_n 0, 1) := by decide +kernel
theorem d_In_stringSize_11 : decode prog_24_method_13_code 11 = .ok (.bipush (-10), 2) := by decide +kernel
theorem d_In_stringSize_13 : decode prog_24_method_13_code 13 = .ok (.istore_n 2, 1) := by decide +kernel
theorem d_In_stringSize_14 : decode prog_24_method_13_code 14 = .ok (.iconst 1, 1) := by decide +kernel
theorem d_In_stringSize_15 : decode prog_24_method_13_code 15 = .ok (.istore_n 3, 1) := by decide +kernel
theorem d_In_stringSize_16 : decode prog_24_method_13_code 16 = .ok (.iload_n 3, 1) := by decide +kernel
theorem d_In_stringSize_17 : decode prog_24_method_13_code 17 = .ok (.bipush 10, 2) := by decide +kernel
theorem d_In_stringSize_19 : decode prog_24_method_13_code 19 = .ok (.if_icmp .ge 23, 3) := by decide +kernel
theorem d_In_stringSize_22 : decode prog_24_method_13_code 22 = .ok (.iload_n 0, 1) := by decide +kernel
theorem d_In_stringSize_23 : decode prog_24_method_13_code 23 = .ok (.iload_n 2, 1) := by decide +kernel
theorem d_In_stringSize_24 : decode prog_24_method_13_code 24 = .ok (.if_icmp .le 7, 3) := by decide +kernel
theorem d_In_stringSize_27 : decode prog_24_method_13_code 27 = .ok (.iload_n 3, 1) := by decide +kernel
theorem d_In_stringSize_28 : decode prog_24_method_13_code 28 = .ok (.iload_n 1, 1) := by decide +kernel
theorem d_In_stringSize_29 : decode prog_24_method_13_code 29 = .ok (.iadd, 1) := by decide +kernel
theorem d_In_stringSize_30 : decode prog_24_method_13_code 30 = .ok (.ireturn, 1) := by decide +kernel
theorem d_In_stringSize_31 : decode prog_24_method_13_code 31 = .ok (.bipush 10, 2) := by decide +kernel
theorem d_In_stringSize_33 : decode prog_24_method_13_code 33 = .ok (.iload_n 2, 1) := by decide +kernel
theorem d_In_stringSize_34 : decode prog_24_method_13_code 34 = .ok (.imul, 1) := by decide +kernel
theorem d_In_stringSize_35 : decode prog_24_method_13_code 35 = .ok (.istore_n 2, 1) := by decide +kernel
theorem d_In_stringSize_36 : decode prog_24_method_13_code 36 = .ok (.iinc 3 1, 3) := by decide +kernel
theorem d_In_stringSize_39 : decode prog_24_method_13_code 39 = .ok (.goto (-23), 3) := by decide +kernel
theorem d_In_stringSize_42 : decode prog_24_method_13_code 42 = .ok (.bipush 10, 2) := by decide +kernel
theorem d_In_stringSize_44 : decode prog_24_method_13_code 44 = .ok (.iload_n 1, 1) := by decide +kernel
theorem d_In_stringSize_45 : decode prog_24_method_13_code 45 = .ok (.iadd, 1) := by decide +kernel
theorem d_In_stringSize_46 : decode prog_24_method_13_code 46 = .ok (.ireturn, 1) := by decide +kernel
theorem d_As_ensureCapacityInternal_0 : decode prog_18_method_9_code 0 = .ok (.aload_n 0, 1) := by decide +kernel
theorem d_As_ensureCapacityInternal_1 : decode prog_18_method_9_code 1 = .ok (.getfield 15, 3) := by decide +kernel
theorem d_As_ensureCapacityInternal_4 : decode prog_18_method_9_code 4 = .ok (.arraylength, 1) := by decide +kernel
theorem d_As_ensureCapacityInternal_5 : decode prog_18_method_9_code 5 = .ok (.aload_n 0, 1) := by decide +kernel
theorem d_As_ensureCapacityInternal_6 : decode prog_18_method_9_code 6 = .ok (.getfield 22, 3) := by decide +kernel
theorem d_As_ensureCapacityInternal_9 : decode prog_18_method_9_code 9 = .ok (.ishr, 1) := by decide +kernel
theorem d_As_ensureCapacityInternal_10 : decode prog_18_method_9_code 10 = .ok (.istore_n 2, 1) := by decide +kernel
theorem d_As_ensureCapacityInternal_11 : decode prog_18_method_9_code 11 = .ok (.iload_n 1, 1) := by decide +kernel
theorem d_As_ensureCapacityInternal_12 : decode prog_18_method_9_code 12 = .ok (.iload_n 2, 1) := by decide +kernel
theorem d_As_ensureCapacityInternal_13 : decode prog_18_method_9_code 13 = .ok (.isub, 1) := by decide +kernel
theorem d_As_ensureCapacityInternal_14 : decode prog_18_method_9_code 14 = .ok (.ifCond .le 24, 3) := by decide +kernel
theorem d_As_ensureCapacityInternal_17 : decode prog_18_method_9_code 17 = .ok (.aload_n 0, 1) := by decide +kernel
theorem d_As_ensureCapacityInternal_18 : decode prog_18_method_9_code 18 = .ok (.aload_n 0, 1) := by decide +kernel
theorem d_As_ensureCapacityInternal_19 : decode prog_18_method_9_code 19 = .ok (.getfield 15, 3) := by decide +kernel
theorem d_As_ensureCapacityInternal_22 : decode prog_18_method_9_code 22 = .ok (.aload_n 0, 1) := by decide +kernel
theorem d_As_ensureCapacityInternal_23 : decode prog_18_method_9_code 23 = .ok (.iload_n 1, 1) := by decide +kernel
theorem d_As_ensureCapacityInternal_24 : decode prog_18_method_9_code 24 = .ok (.invokevirtual 104, 3) := by decide +kernel
theorem d_As_ensureCapacityInternal_27 : decode prog_18_method_9_code 27 = .ok (.aload_n 0, 1) := by decide +kernel
theorem d_As_ensureCapacityInternal_28 : decode prog_18_method_9_code 28 = .ok (.getfield 22, 3) := by decide +kernel
theorem d_As_ensureCapacityInternal_31 : decode prog_18_method_9_code 31 = .ok (.ishl, 1) := by decide +kernel
theorem d_As_ensureCapacityInternal_32 : decode prog_18_method_9_code 32 = .ok (.invokestatic 108, 3) := by decide +kernel
theorem d_As_ensureCapacityInternal_35 : decode prog_18_method_9_code 35 = .ok (.putfield 15, 3) := by decide +kernel
theorem d_As_ensureCapacityInternal_38 : decode prog_18_method_9_code 38 = .ok (.return_, 1) := by decide +kernel
theorem d_As_isLatin1_0 : decode prog_18_method_68_code 0 = .ok (.getstatic 18, 3) := by decide +kernel
theorem d_As_isLatin1_3 : decode prog_18_method_68_code 3 = .ok (.ifCond .eq 14, 3) := by decide +kernel
theorem d_As_isLatin1_6 : decode prog_18_method_68_code 6 = .ok (.aload_n 0, 1) := by decide +kernel
theorem d_As_isLatin1_7 : decode prog_18_method_68_code 7 = .ok (.getfield 22, 3) := by decide +kernel
theorem d_As_isLatin1_10 : decode prog_18_method_68_code 10 = .ok (.ifCond .ne 7, 3) := by decide +kernel
theorem d_As_isLatin1_13 : decode prog_18_method_68_code 13 = .ok (.iconst 1, 1) := by decide +kernel
theorem d_As_isLatin1_14 : decode prog_18_method_68_code 14 = .ok (.goto 4, 3) := by decide +kernel
theorem d_As_isLatin1_18 : decode prog_18_method_68_code 18 = .ok (.ireturn, 1) := by decide +kernel
theorem d_In_getChars_0 : decode prog_24_method_12_code 0 = .ok (.iload_n 1, 1) := by decide +kernel
theorem d_In_getChars_1 : decode prog_24_method_12_code 1 = .ok (.istore 5, 2) := by decide +kernel
theorem d_In_getChars_3 : decode prog_24_method_12_code 3 = .ok (.iload_n 0, 1) := by decide +kernel
theorem d_In_getChars_4 : decode prog_24_method_12_code 4 = .ok (.ifCond .ge 7, 3) := by decide +kernel
theorem d_In_getChars_7 : decode prog_24_method_12_code 7 = .ok (.iconst 1, 1) := by decide +kernel
theorem d_In_getChars_8 : decode prog_24_method_12_code 8 = .ok (.goto 4, 3) := by decide +kernel
theorem d_In_getChars_11 : decode prog_24_method_12_code 11 = .ok (.iconst 0, 1) := by decide +kernel
theorem d_In_getChars_12 : decode prog_24_method_12_code 12 = .ok (.istore 6, 2) := by decide +kernel
theorem d_In_getChars_14 : decode prog_24_method_12_code 14 = .ok (.iload 6, 2) := by decide +kernel
theorem d_In_getChars_16 : decode prog_24_method_12_code 16 = .ok (.ifCond .ne 6, 3) := by decide +kernel
theorem d_In_getChars_19 : decode prog_24_method_12_code 19 = .ok (.iload_n 0, 1) := by decide +kernel
theorem d_In_getChars_20 : decode prog_24_method_12_code 20 = .ok (.ineg, 1) := by decide +kernel
theorem d_In_getChars_21 : decode prog_24_method_12_code 21 = .ok (.istore_n 0, 1) := by decide +kernel
theorem d_In_getChars_22 : decode prog_24_method_12_code 22 = .ok (.iload_n 0, 1) := by decide +kernel
theorem d_In_getChars_23 : decode prog_24_method_12_code 23 = .ok (.bipush (-100), 2) := by decide +kernel
theorem d_In_getChars_25 : decode prog_24_method_12_code 25 = .ok (.if_icmp .gt 47, 3) := by decide +kernel
theorem d_In_getChars_28 : decode prog_24_method_12_code 28 = .ok (.iload_n 0, 1) := by decide +kernel
theorem d_In_getChars_29 : decode prog_24_method_12_code 29 = .ok (.bipush 100, 2) := by decide +kernel
theorem d_In_getChars_31 : decode prog_24_method_12_code 31 = .ok (.idiv, 1) := by decide +kernel
theorem d_In_getChars_32 : decode prog_24_method_12_code 32 = .ok (.istore_n 3, 1) := by decide +kernel
theorem d_In_getChars_33 : decode prog_24_method_12_code 33 = .ok (.iload_n 3, 1) := by decide +kernel
theorem d_In_getChars_34 : decode prog_24_method_12_code 34 = .ok (.bipush 100, 2) := by decide +kernel
theorem d_In_getChars_36 : decode prog_24_method_12_code 36 = .ok (.imul, 1) := by decide +kernel
theorem d_In_getChars_37 : decode prog_24_method_12_code 37 = .ok (.iload_n 0, 1) := by decide +kernel
theorem d_In_getChars_38 : decode prog_24_method_12_code 38 = .ok (.isub, 1) := by decide +kernel
theorem d_In_getChars_39 : decode prog_24_method_12_code 39 = .ok (.istore 4, 2) := by decide +kernel
theorem d_In_getChars_41 : decode prog_24_method_12_code 41 = .ok (.iload_n 3, 1) := by decide +kernel
theorem d_In_getChars_42 : decode prog_24_method_12_code 42 = .ok (.istore_n 0, 1) := by decide +kernel
theorem d_In_getChars_43 : decode prog_24_method_12_code 43 = .ok (.aload_n 2, 1) := by decide +kernel
theorem d_In_getChars_44 : decode prog_24_method_12_code 44 = .ok (.iinc 5 (-1), 3) := by decide +kernel
theorem d_In_getChars_47 : decode prog_24_method_12_code 47 = .ok (.iload 5, 2) := by decide +kernel
theorem d_In_getChars_49 : decode prog_24_method_12_code 49 = .ok (.getstatic 83, 3) := by decide +kernel
theorem d_In_getChars_52 : decode prog_24_method_12_code 52 = .ok (.iload 4, 2) := by decide +kernel
theorem d_In_getChars_54 : decode prog_24_method_12_code 54 = .ok (.baload, 1) := by decide +kernel
theorem d_In_getChars_55 : decode prog_24_method_12_code 55 = .ok (.bastore, 1) := by decide +kernel
theorem d_In_getChars_56 : decode prog_24_method_12_code 56 = .ok (.aload_n 2, 1) := by decide +kernel
theorem d_In_getChars_57 : decode prog_24_method_12_code 57 = .ok (.iinc 5 (-1), 3) := by decide +kernel
theorem d_In_getChars_60 : decode prog_24_method_12_code 60 = .ok (.iload 5, 2) := by decide +kernel
theorem d_In_getChars_62 : decode prog_24_method_12_code 62 = .ok (.getstatic 87, 3) := by decide +kernel
theorem d_In_getChars_65 : decode prog_24_method_12_code 65 = .ok (.iload 4, 2) := by decide +kernel
theorem d_In_getChars_67 : decode prog_24_method_12_code 67 = .ok (.baload, 1) := by decide +kernel
theorem d_In_getChars_68 : decode prog_24_method_12_code 68 = .ok (.bastore, 1) := by decide +kernel
theorem d_In_getChars_69 : decode prog_24_method_12_code 69 = .ok (.goto (-47), 3) := by decide +kernel
theorem d_In_getChars_72 : decode prog_24_method_12_code 72 = .ok (.aload_n 2, 1) := by decide +kernel
theorem d_In_getChars_73 : decode prog_24_method_12_code 73 = .ok (.iinc 5 (-1), 3) := by decide +kernel
theorem d_In_getChars_76 : decode prog_24_method_12_code 76 = .ok (.iload 5, 2) := by decide +kernel
theorem d_In_getChars_78 : decode prog_24_method_12_code 78 = .ok (.getstatic 83, 3) := by decide +kernel
theorem d_In_getChars_81 : decode prog_24_method_12_code 81 = .ok (.iload_n 0, 1) := by decide +kernel
theorem d_In_getChars_82 : decode prog_24_method_12_code 82 = .ok (.ineg, 1) := by decide +kernel
theorem d_In_getChars_83 : decode prog_24_method_12_code 83 = .ok (.baload, 1) := by decide +kernel
theorem d_In_getChars_84 : decode prog_24_method_12_code 84 = .ok (.bastore, 1) := by decide +kernel
theorem d_In_getChars_85 : decode prog_24_method_12_code 85 = .ok (.iload_n 0, 1) := by decide +kernel
theorem d_In_getChars_86 : decode prog_24_method_12_code 86 = .ok (.bipush (-9), 2) := by decide +kernel
theorem d_In_getChars_88 : decode prog_24_method_12_code 88 = .ok (.if_icmp .ge 16, 3) := by decide +kernel
theorem d_In_getChars_91 : decode prog_24_method_12_code 91 = .ok (.aload_n 2, 1) := by decide +kernel
theorem d_In_getChars_92 : decode prog_24_method_12_code 92 = .ok (.iinc 5 (-1), 3) := by decide +kernel
theorem d_In_getChars_95 : decode prog_24_method_12_code 95 = .ok (.iload 5, 2) := by decide +kernel
theorem d_In_getChars_97 : decode prog_24_method_12_code 97 = .ok (.getstatic 87, 3) := by decide +kernel
theorem d_In_getChars_100 : decode prog_24_method_12_code 100 = .ok (.iload_n 0, 1) := by decide +kernel
theorem d_In_getChars_101 : decode prog_24_method_12_code 101 = .ok (.ineg, 1) := by decide +kernel
theorem d_In_getChars_102 : decode prog_24_method_12_code 102 = .ok (.baload, 1) := by decide +kernel
theorem d_In_getChars_103 : decode prog_24_method_12_code 103 = .ok (.bastore, 1) := by decide +kernel
theorem d_In_getChars_104 : decode prog_24_method_12_code 104 = .ok (.iload 6, 2) := by decide +kernel
theorem d_In_getChars_106 : decode prog_24_method_12_code 106 = .ok (.ifCond .eq 12, 3) := by decide +kernel
theorem d_In_getChars_109 : decode prog_24_method_12_code 109 = .ok (.aload_n 2, 1) := by decide +kernel
theorem d_In_getChars_110 : decode prog_24_method_12_code 110 = .ok (.iinc 5 (-1), 3) := by decide +kernel
theorem d_In_getChars_113 : decode prog_24_method_12_code 113 = .ok (.iload 5, 2) := by decide +kernel
theorem d_In_getChars_115 : decode prog_24_method_12_code 115 = .ok (.bipush 45, 2) := by decide +kernel
theorem d_In_getChars_117 : decode prog_24_method_12_code 117 = .ok (.bastore, 1) := by decide +kernel
theorem d_In_getChars_118 : decode prog_24_method_12_code 118 = .ok (.iload 5, 2) := by decide +kernel
theorem d_In_getChars_120 : decode prog_24_method_12_code 120 = .ok (.ireturn, 1) := by decide +kernel
theorem d_As_putStringAt_0 : decode prog_18_method_73_code 0 = .ok (.aload_n 0, 1) := by decide +kernel
theorem d_As_putStringAt_1 : decode prog_18_method_73_code 1 = .ok (.aload_n 2, 1) := by decide +kernel
theorem d_As_putStringAt_2 : decode prog_18_method_73_code 2 = .ok (.invokevirtual 397, 3) := by decide +kernel
theorem d_As_putStringAt_5 : decode prog_18_method_73_code 5 = .ok (.aload_n 2, 1) := by decide +kernel
theorem d_As_putStringAt_6 : decode prog_18_method_73_code 6 = .ok (.aload_n 0, 1) := by decide +kernel
theorem d_As_putStringAt_7 : decode prog_18_method_73_code 7 = .ok (.getfield 15, 3) := by decide +kernel
theorem d_As_putStringAt_10 : decode prog_18_method_73_code 10 = .ok (.iload_n 1, 1) := by decide +kernel
theorem d_As_putStringAt_11 : decode prog_18_method_73_code 11 = .ok (.aload_n 0, 1) := by decide +kernel
theorem d_As_putStringAt_12 : decode prog_18_method_73_code 12 = .ok (.getfield 22, 3) := by decide +kernel
theorem d_As_putStringAt_15 : decode prog_18_method_73_code 15 = .ok (.invokevirtual 399, 3) := by decide +kernel
theorem d_As_putStringAt_18 : decode prog_18_method_73_code 18 = .ok (.return_, 1) := by decide +kernel
theorem d_Sg_init_db425_0 : decode prog_30_method_150_code 0 = .ok (.aload_n 0, 1) := by decide +kernel
theorem d_Sg_init_db425_1 : decode prog_30_method_150_code 1 = .ok (.invokespecial 1, 3) := by decide +kernel
theorem d_Sg_init_db425_4 : decode prog_30_method_150_code 4 = .ok (.aload_n 1, 1) := by decide +kernel
theorem d_Sg_init_db425_5 : decode prog_30_method_150_code 5 = .ok (.invokevirtual 552, 3) := by decide +kernel
theorem d_Sg_init_db425_8 : decode prog_30_method_150_code 8 = .ok (.astore_n 3, 1) := by decide +kernel
theorem d_Sg_init_db425_9 : decode prog_30_method_150_code 9 = .ok (.aload_n 1, 1) := by decide +kernel
theorem d_Sg_init_db425_10 : decode prog_30_method_150_code 10 = .ok (.invokevirtual 549, 3) := by decide +kernel
theorem d_Sg_init_db425_13 : decode prog_30_method_150_code 13 = .ok (.istore 4, 2) := by decide +kernel
theorem d_Sg_init_db425_15 : decode prog_30_method_150_code 15 = .ok (.aload_n 1, 1) := by decide +kernel
theorem d_Sg_init_db425_16 : decode prog_30_method_150_code 16 = .ok (.invokevirtual 1047, 3) := by decide +kernel
theorem d_Sg_init_db425_19 : decode prog_30_method_150_code 19 = .ok (.ifCond .eq 22, 3) := by decide +kernel
theorem d_Sg_init_db425_22 : decode prog_30_method_150_code 22 = .ok (.aload_n 0, 1) := by decide +kernel
theorem d_Sg_init_db425_23 : decode prog_30_method_150_code 23 = .ok (.iconst 0, 1) := by decide +kernel
theorem d_Sg_init_db425_24 : decode prog_30_method_150_code 24 = .ok (.putfield 15, 3) := by decide +kernel
theorem d_Sg_init_db425_27 : decode prog_30_method_150_code 27 = .ok (.aload_n 0, 1) := by decide +kernel
theorem d_Sg_init_db425_28 : decode prog_30_method_150_code 28 = .ok (.aload_n 3, 1) := by decide +kernel
theorem d_Sg_init_db425_29 : decode prog_30_method_150_code 29 = .ok (.iconst 0, 1) := by decide +kernel
theorem d_Sg_init_db425_30 : decode prog_30_method_150_code 30 = .ok (.iload 4, 2) := by decide +kernel
theorem d_Sg_init_db425_32 : decode prog_30_method_150_code 32 = .ok (.invokestatic 54, 3) := by decide +kernel
theorem d_Sg_init_db425_35 : decode prog_30_method_150_code 35 = .ok (.putfield 9, 3) := by decide +kernel
theorem d_Sg_init_db425_38 : decode prog_30_method_150_code 38 = .ok (.goto 59, 3) := by decide +kernel
theorem d_Sg_init_db425_97 : decode prog_30_method_150_code 97 = .ok (.return_, 1) := by decide +kernel
theorem d_Al_rangeCheckForAdd_0 : decode prog_42_method_45_code 0 = .ok (.iload_n 1, 1) := by decide +kernel
theorem d_Al_rangeCheckForAdd_1 : decode prog_42_method_45_code 1 = .ok (.aload_n 0, 1) := by decide +kernel
theorem d_Al_rangeCheckForAdd_2 : decode prog_42_method_45_code 2 = .ok (.getfield 48, 3) := by decide +kernel
theorem d_Al_rangeCheckForAdd_5 : decode prog_42_method_45_code 5 = .ok (.if_icmp .gt 7, 3) := by decide +kernel
theorem d_Al_rangeCheckForAdd_8 : decode prog_42_method_45_code 8 = .ok (.iload_n 1, 1) := by decide +kernel
theorem d_Al_rangeCheckForAdd_9 : decode prog_42_method_45_code 9 = .ok (.ifCond .ge 16, 3) := by decide +kernel
theorem d_Al_rangeCheckForAdd_25 : decode prog_42_method_45_code 25 = .ok (.return_, 1) := by decide +kernel
theorem d_In_equals_0 : decode prog_24_method_34_code 0 = .ok (.aload_n 1, 1) := by decide +kernel
theorem d_In_equals_1 : decode prog_24_method_34_code 1 = .ok (.instanceof 1, 3) := by decide +kernel
theorem d_In_equals_4 : decode prog_24_method_34_code 4 = .ok (.ifCond .eq 23, 3) := by decide +kernel
theorem d_In_equals_7 : decode prog_24_method_34_code 7 = .ok (.aload_n 0, 1) := by decide +kernel
theorem d_In_equals_8 : decode prog_24_method_34_code 8 = .ok (.getfield 205, 3) := by decide +kernel
theorem d_In_equals_11 : decode prog_24_method_34_code 11 = .ok (.aload_n 1, 1) := by decide +kernel
theorem d_In_equals_12 : decode prog_24_method_34_code 12 = .ok (.checkcast 1, 3) := by decide +kernel
theorem d_In_equals_15 : decode prog_24_method_34_code 15 = .ok (.invokevirtual 211, 3) := by decide +kernel
theorem d_In_equals_18 : decode prog_24_method_34_code 18 = .ok (.if_icmp .ne 7, 3) := by decide +kernel
theorem d_In_equals_21 : decode prog_24_method_34_code 21 = .ok (.iconst 1, 1) := by decide +kernel
theorem d_In_equals_22 : decode prog_24_method_34_code 22 = .ok (.goto 4, 3) := by decide +kernel
theorem d_In_equals_25 : decode prog_24_method_34_code 25 = .ok (.iconst 0, 1) := by decide +kernel
theorem d_In_equals_26 : decode prog_24_method_34_code 26 = .ok (.ireturn, 1) := by decide +kernel
theorem d_Sl_canEncode_0 : decode prog_32_method_3_code 0 = .ok (.iload_n 0, 1) := by decide +kernel
theorem d_Sl_canEncode_1 : decode prog_32_method_3_code 1 = .ok (.sipush 255, 3) := by decide +kernel
theorem d_Sl_canEncode_4 : decode prog_32_method_3_code 4 = .ok (.if_icmp .gt 7, 3) := by decide +kernel
theorem d_Sl_canEncode_7 : decode prog_32_method_3_code 7 = .ok (.iconst 1, 1) := by decide +kernel
theorem d_Sl_canEncode_8 : decode prog_32_method_3_code 8 = .ok (.goto 4, 3) := by decide +kernel
theorem d_Sl_canEncode_11 : decode prog_32_method_3_code 11 = .ok (.iconst 0, 1) := by decide +kernel
theorem d_Sl_canEncode_12 : decode prog_32_method_3_code 12 = .ok (.ireturn, 1) := by decide +kernel
theorem d_Al_grow_92f84_0 : decode prog_42_method_6_code 0 = .ok (.aload_n 0, 1) := by decide +kernel
theorem d_Al_grow_92f84_1 : decode prog_42_method_6_code 1 = .ok (.getfield 9, 3) := by decide +kernel
theorem d_Al_grow_92f84_4 : decode prog_42_method_6_code 4 = .ok (.arraylength, 1) := by decide +kernel
theorem d_Al_grow_92f84_5 : decode prog_42_method_6_code 5 = .ok (.istore_n 2, 1) := by decide +kernel
theorem d_Al_grow_92f84_6 : decode prog_42_method_6_code 6 = .ok (.iload_n 2, 1) := by decide +kernel
theorem d_Al_grow_92f84_7 : decode prog_42_method_6_code 7 = .ok (.ifCond .gt 13, 3) := by decide +kernel
theorem d_Al_grow_92f84_10 : decode prog_42_method_6_code 10 = .ok (.aload_n 0, 1) := by decide +kernel
theorem d_Al_grow_92f84_11 : decode prog_42_method_6_code 11 = .ok (.getfield 9, 3) := by decide +kernel
theorem d_Al_grow_92f84_14 : decode prog_42_method_6_code 14 = .ok (.getstatic 39, 3) := by decide +kernel
theorem d_Al_grow_92f84_17 : decode prog_42_method_6_code 17 = .ok (.if_acmp .eq 28, 3) := by decide +kernel
theorem d_Al_grow_92f84_20 : decode prog_42_method_6_code 20 = .ok (.iload_n 2, 1) := by decide +kernel
theorem d_Al_grow_92f84_21 : decode prog_42_method_6_code 21 = .ok (.iload_n 1, 1) := by decide +kernel
theorem d_Al_grow_92f84_22 : decode prog_42_method_6_code 22 = .ok (.iload_n 2, 1) := by decide +kernel
theorem d_Al_grow_92f84_23 : decode prog_42_method_6_code 23 = .ok (.isub, 1) := by decide +kernel
theorem d_Al_grow_92f84_24 : decode prog_42_method_6_code 24 = .ok (.iload_n 2, 1) := by decide +kernel
theorem d_Al_grow_92f84_25 : decode prog_42_method_6_code 25 = .ok (.iconst 1, 1) := by decide +kernel
theorem d_Al_grow_92f84_26 : decode prog_42_method_6_code 26 = .ok (.ishr, 1) := by decide +kernel
theorem d_Al_grow_92f84_27 : decode prog_42_method_6_code 27 = .ok (.invokestatic 73, 3) := by decide +kernel
theorem d_Al_grow_92f84_30 : decode prog_42_method_6_code 30 = .ok (.istore_n 3, 1) := by decide +kernel
theorem d_Al_grow_92f84_31 : decode prog_42_method_6_code 31 = .ok (.aload_n 0, 1) := by decide +kernel
theorem d_Al_grow_92f84_32 : decode prog_42_method_6_code 32 = .ok (.aload_n 0, 1) := by decide +kernel
theorem d_Al_grow_92f84_33 : decode prog_42_method_6_code 33 = .ok (.getfield 9, 3) := by decide +kernel
theorem d_Al_grow_92f84_36 : decode prog_42_method_6_code 36 = .ok (.iload_n 3, 1) := by decide +kernel
theorem d_Al_grow_92f84_37 : decode prog_42_method_6_code 37 = .ok (.invokestatic 66, 3) := by decide +kernel
theorem d_Al_grow_92f84_40 : decode prog_42_method_6_code 40 = .ok (.dup_x1, 1) := by decide +kernel
theorem d_Al_grow_92f84_41 : decode prog_42_method_6_code 41 = .ok (.putfield 9, 3) := by decide +kernel
theorem d_Al_grow_92f84_44 : decode prog_42_method_6_code 44 = .ok (.areturn, 1) := by decide +kernel
theorem d_Al_grow_92f84_45 : decode prog_42_method_6_code 45 = .ok (.aload_n 0, 1) := by decide +kernel
theorem d_Al_grow_92f84_46 : decode prog_42_method_6_code 46 = .ok (.bipush 10, 2) := by decide +kernel
theorem d_Al_grow_92f84_48 : decode prog_42_method_6_code 48 = .ok (.iload_n 1, 1) := by decide +kernel
theorem d_Al_grow_92f84_49 : decode prog_42_method_6_code 49 = .ok (.invokestatic 79, 3) := by decide +kernel
theorem d_Al_grow_92f84_52 : decode prog_42_method_6_code 52 = .ok (.anewarray 7, 3) := by decide +kernel
theorem d_Al_grow_92f84_55 : decode prog_42_method_6_code 55 = .ok (.dup_x1, 1) := by decide +kernel
theorem d_Al_grow_92f84_56 : decode prog_42_method_6_code 56 = .ok (.putfield 9, 3) := by decide +kernel
theorem d_Al_grow_92f84_59 : decode prog_42_method_6_code 59 = .ok (.areturn, 1) := by decide +kernel
theorem d_Hm_init_0 : decode prog_46_method_5_code 0 = .ok (.aload_n 0, 1) := by decide +kernel
theorem d_Hm_init_1 : decode prog_46_method_5_code 1 = .ok (.invokespecial 43, 3) := by decide +kernel
theorem d_Hm_init_4 : decode prog_46_method_5_code 4 = .ok (.iload_n 1, 1) := by decide +kernel
theorem d_Hm_init_5 : decode prog_46_method_5_code 5 = .ok (.ifCond .ge 30, 3) := by decide +kernel
theorem d_Hm_init_35 : decode prog_46_method_5_code 35 = .ok (.iload_n 1, 1) := by decide +kernel
theorem d_Hm_init_36 : decode prog_46_method_5_code 36 = .ok (.ldc 42, 2) := by decide +kernel
theorem d_Hm_init_38 : decode prog_46_method_5_code 38 = .ok (.if_icmp .le 6, 3) := by decide +kernel
theorem d_Hm_init_41 : decode prog_46_method_5_code 41 = .ok (.ldc 42, 2) := by decide +kernel
theorem d_Hm_init_43 : decode prog_46_method_5_code 43 = .ok (.istore_n 1, 1) := by decide +kernel
theorem d_Hm_init_44 : decode prog_46_method_5_code 44 = .ok (.fload_n 2, 1) := by decide +kernel
theorem d_Hm_init_45 : decode prog_46_method_5_code 45 = .ok (.fconst 0, 1) := by decide +kernel
theorem d_Hm_init_46 : decode prog_46_method_5_code 46 = .ok (.fcmp .g, 1) := by decide +kernel
theorem d_Hm_init_47 : decode prog_46_method_5_code 47 = .ok (.ifCond .le 10, 3) := by decide +kernel
theorem d_Hm_init_50 : decode prog_46_method_5_code 50 = .ok (.fload_n 2, 1) := by decide +kernel
theorem d_Hm_init_51 : decode prog_46_method_5_code 51 = .ok (.invokestatic 70, 3) := by decide +kernel
theorem d_Hm_init_54 : decode prog_46_method_5_code 54 = .ok (.ifCond .eq 30, 3) := by decide +kernel
theorem d_Hm_init_84 : decode prog_46_method_5_code 84 = .ok (.aload_n 0, 1) := by decide +kernel
theorem d_Hm_init_85 : decode prog_46_method_5_code 85 = .ok (.fload_n 2, 1) := by decide +kernel
theorem d_Hm_init_86 : decode prog_46_method_5_code 86 = .ok (.putfield 81, 3) := by decide +kernel
theorem d_Hm_init_89 : decode prog_46_method_5_code 89 = .ok (.aload_n 0, 1) := by decide +kernel
theorem d_Hm_init_90 : decode prog_46_method_5_code 90 = .ok (.iload_n 1, 1) := by decide +kernel
theorem d_Hm_init_91 : decode prog_46_method_5_code 91 = .ok (.invokestatic 85, 3) := by decide +kernel
theorem d_Hm_init_94 : decode prog_46_method_5_code 94 = .ok (.putfield 88, 3) := by decide +kernel
theorem d_Hm_init_97 : decode prog_46_method_5_code 97 = .ok (.return_, 1) := by decide +kernel
theorem d_Lq_init_0 : decode prog_58_method_1_code 0 = .ok (.aload_n 0, 1) := by decide +kernel
theorem d_Lq_init_1 : decode prog_58_method_1_code 1 = .ok (.aload_n 1, 1) := by decide +kernel
theorem d_Lq_init_2 : decode prog_58_method_1_code 2 = .ok (.putfield 1, 3) := by decide +kernel
theorem d_Lq_init_5 : decode prog_58_method_1_code 5 = .ok (.aload_n 0, 1) := by decide +kernel
theorem d_Lq_init_6 : decode prog_58_method_1_code 6 = .ok (.invokespecial 7, 3) := by decide +kernel
theorem d_Lq_init_9 : decode prog_58_method_1_code 9 = .ok (.aload_n 0, 1) := by decide +kernel
theorem d_Lq_init_10 : decode prog_58_method_1_code 10 = .ok (.iload_n 2, 1) := by decide +kernel
theorem d_Lq_init_11 : decode prog_58_method_1_code 11 = .ok (.putfield 13, 3) := by decide +kernel
theorem d_Lq_init_14 : decode prog_58_method_1_code 14 = .ok (.return_, 1) := by decide +kernel
theorem d_Lh_init_0 : decode prog_56_method_1_code 0 = .ok (.aload_n 0, 1) := by decide +kernel
theorem d_Lh_init_1 : decode prog_56_method_1_code 1 = .ok (.aload_n 1, 1) := by decide +kernel
theorem d_Lh_init_2 : decode prog_56_method_1_code 2 = .ok (.putfield 1, 3) := by decide +kernel
theorem d_Lh_init_5 : decode prog_56_method_1_code 5 = .ok (.aload_n 0, 1) := by decide +kernel
theorem d_Lh_init_6 : decode prog_56_method_1_code 6 = .ok (.invokespecial 7, 3) := by decide +kernel
theorem d_Lh_init_9 : decode prog_56_method_1_code 9 = .ok (.aload_n 0, 1) := by decide +kernel
theorem d_Lh_init_10 : decode prog_56_method_1_code 10 = .ok (.iload_n 2, 1) := by decide +kernel
theorem d_Lh_init_11 : decode prog_56_method_1_code 11 = .ok (.putfield 13, 3) := by decide +kernel
theorem d_Lh_init_14 : decode prog_56_method_1_code 14 = .ok (.aload_n 0, 1) := by decide +kernel
theorem d_Lh_init_15 : decode prog_56_method_1_code 15 = .ok (.iload_n 2, 1) := by decide +kernel
theorem d_Lh_init_16 : decode prog_56_method_1_code 16 = .ok (.ifCond .eq 10, 3) := by decide +kernel
theorem d_Lh_init_19 : decode prog_56_method_1_code 19 = .ok (.aload_n 1, 1) := by decide +kernel
theorem d_Lh_init_20 : decode prog_56_method_1_code 20 = .ok (.getfield 17, 3) := by decide +kernel
theorem d_Lh_init_23 : decode prog_56_method_1_code 23 = .ok (.goto 7, 3) := by decide +kernel
theorem d_Lh_init_26 : decode prog_56_method_1_code 26 = .ok (.aload_n 1, 1) := by decide +kernel
theorem d_Lh_init_27 : decode prog_56_method_1_code 27 = .ok (.getfield 23, 3) := by decide +kernel
theorem d_Lh_init_30 : decode prog_56_method_1_code 30 = .ok (.putfield 26, 3) := by decide +kernel
theorem d_Lh_init_33 : decode prog_56_method_1_code 33 = .ok (.aload_n 0, 1) := by decide +kernel
theorem d_Lh_init_34 : decode prog_56_method_1_code 34 = .ok (.aload_n 1, 1) := by decide +kernel
theorem d_Lh_init_35 : decode prog_56_method_1_code 35 = .ok (.getfield 29, 3) := by decide +kernel
theorem d_Lh_init_38 : decode prog_56_method_1_code 38 = .ok (.putfield 33, 3) := by decide +kernel
theorem d_Lh_init_41 : decode prog_56_method_1_code 41 = .ok (.aload_n 0, 1) := by decide +kernel
theorem d_Lh_init_42 : decode prog_56_method_1_code 42 = .ok (.aconst_null, 1) := by decide +kernel
theorem d_Lh_init_43 : decode prog_56_method_1_code 43 = .ok (.putfield 36, 3) := by decide +kernel
theorem d_Lh_init_46 : decode prog_56_method_1_code 46 = .ok (.return_, 1) := by decide +kernel
theorem d_In_hashCode_8abf5_0 : decode prog_24_method_32_code 0 = .ok (.aload_n 0, 1) := by decide +kernel
theorem d_In_hashCode_8abf5_1 : decode prog_24_method_32_code 1 = .ok (.getfield 205, 3) := by decide +kernel
theorem d_In_hashCode_8abf5_4 : decode prog_24_method_32_code 4 = .ok (.invokestatic 208, 3) := by decide +kernel
theorem d_In_hashCode_8abf5_7 : decode prog_24_method_32_code 7 = .ok (.ireturn, 1) := by decide +kernel
theorem d_Hm_resize_0 : decode prog_46_method_17_code 0 = .ok (.aload_n 0, 1) := by decide +kernel
theorem d_Hm_resize_1 : decode prog_46_method_17_code 1 = .ok (.getfield 105, 3) := by decide +kernel
theorem d_Hm_resize_4 : decode prog_46_method_17_code 4 = .ok (.astore_n 1, 1) := by decide +kernel
theorem d_Hm_resize_5 : decode prog_46_method_17_code 5 = .ok (.aload_n 1, 1) := by decide +kernel
theorem d_Hm_resize_6 : decode prog_46_method_17_code 6 = .ok (.ifnonnull 7, 3) := by decide +kernel
theorem d_Hm_resize_9 : decode prog_46_method_17_code 9 = .ok (.iconst 0, 1) := by decide +kernel
theorem d_Hm_resize_10 : decode prog_46_method_17_code 10 = .ok (.goto 5, 3) := by decide +kernel
theorem d_Hm_resize_15 : decode prog_46_method_17_code 15 = .ok (.istore_n 2, 1) := by decide +kernel
theorem d_Hm_resize_16 : decode prog_46_method_17_code 16 = .ok (.aload_n 0, 1) := by decide +kernel
theorem d_Hm_resize_17 : decode prog_46_method_17_code 17 = .ok (.getfield 88, 3) := by decide +kernel
theorem d_Hm_resize_20 : decode prog_46_method_17_code 20 = .ok (.istore_n 3, 1) := by decide +kernel
theorem d_Hm_resize_21 : decode prog_46_method_17_code 21 = .ok (.iconst 0, 1) := by decide +kernel
theorem d_Hm_resize_22 : decode prog_46_method_17_code 22 = .ok (.istore 5, 2) := by decide +kernel
theorem d_Hm_resize_24 : decode prog_46_method_17_code 24 = .ok (.iload_n 2, 1) := by decide +kernel
theorem d_Hm_resize_25 : decode prog_46_method_17_code 25 = .ok (.ifCond .le 42, 3) := by decide +kernel
theorem d_Hm_resize_67 : decode prog_46_method_17_code 67 = .ok (.iload_n 3, 1) := by decide +kernel
theorem d_Hm_resize_68 : decode prog_46_method_17_code 68 = .ok (.ifCond .le 9, 3) := by decide +kernel
theorem d_Hm_resize_71 : decode prog_46_method_17_code 71 = .ok (.iload_n 3, 1) := by decide +kernel
theorem d_Hm_resize_72 : decode prog_46_method_17_code 72 = .ok (.istore 4, 2) := by decide +kernel
theorem d_Hm_resize_74 : decode prog_46_method_17_code 74 = .ok (.goto 11, 3) := by decide +kernel
theorem d_Hm_resize_77 : decode prog_46_method_17_code 77 = .ok (.bipush 16, 2) := by decide +kernel
theorem d_Hm_resize_79 : decode prog_46_method_17_code 79 = .ok (.istore 4, 2) := by decide +kernel
theorem d_Hm_resize_81 : decode prog_46_method_17_code 81 = .ok (.bipush 12, 2) := by decide +kernel
theorem d_Hm_resize_83 : decode prog_46_method_17_code 83 = .ok (.istore 5, 2) := by decide +kernel
theorem d_Hm_resize_85 : decode prog_46_method_17_code 85 = .ok (.iload 5, 2) := by decide +kernel
theorem d_Hm_resize_87 : decode prog_46_method_17_code 87 = .ok (.ifCond .ne 38, 3) := by decide +kernel
theorem d_Hm_resize_90 : decode prog_46_method_17_code 90 = .ok (.iload 4, 2) := by decide +kernel
theorem d_Hm_resize_92 : decode prog_46_method_17_code 92 = .ok (.i2f, 1) := by decide +kernel
theorem d_Hm_resize_93 : decode prog_46_method_17_code 93 = .ok (.aload_n 0, 1) := by decide +kernel
theorem d_Hm_resize_94 : decode prog_46_method_17_code 94 = .ok (.getfield 81, 3) := by decide +kernel
theorem d_Hm_resize_97 : decode prog_46_method_17_code 97 = .ok (.fmul, 1) := by decide +kernel
theorem d_Hm_resize_98 : decode prog_46_method_17_code 98 = .ok (.fstore 6, 2) := by decide +kernel
theorem d_Hm_resize_100 : decode prog_46_method_17_code 100 = .ok (.iload 4, 2) := by decide +kernel
theorem d_Hm_resize_102 : decode prog_46_method_17_code 102 = .ok (.ldc 42, 2) := by decide +kernel
theorem d_Hm_resize_104 : decode prog_46_method_17_code 104 = .ok (.if_icmp .ge 17, 3) := by decide +kernel
theorem d_Hm_resize_107 : decode prog_46_method_17_code 107 = .ok (.fload 6, 2) := by decide +kernel
theorem d_Hm_resize_109 : decode prog_46_method_17_code 109 = .ok (.ldc 210, 2) := by decide +kernel
theorem d_Hm_resize_111 : decode prog_46_method_17_code 111 = .ok (.fcmp .g, 1) := by decide +kernel
theorem d_Hm_resize_112 : decode prog_46_method_17_code 112 = .ok (.ifCond .ge 9, 3) := by decide +kernel
theorem d_Hm_resize_115 : decode prog_46_method_17_code 115 = .ok (.fload 6, 2) := by decide +kernel
theorem d_Hm_resize_117 : decode prog_46_method_17_code 117 = .ok (.f2i, 1) := by decide +kernel
theorem d_Hm_resize_118 : decode prog_46_method_17_code 118 = .ok (.goto 5, 3) := by decide +kernel
theorem d_Hm_resize_121 : decode prog_46_method_17_code 121 = .ok (.ldc 209, 2) := by decide +kernel
theorem d_Hm_resize_123 : decode prog_46_method_17_code 123 = .ok (.istore 5, 2) := by decide +kernel
theorem d_Hm_resize_125 : decode prog_46_method_17_code 125 = .ok (.aload_n 0, 1) := by decide +kernel
theorem d_Hm_resize_126 : decode prog_46_method_17_code 126 = .ok (.iload 5, 2) := by decide +kernel
theorem d_Hm_resize_128 : decode prog_46_method_17_code 128 = .ok (.putfield 88, 3) := by decide +kernel
theorem d_Hm_resize_131 : decode prog_46_method_17_code 131 = .ok (.iload 4, 2) := by decide +kernel
theorem d_Hm_resize_133 : decode prog_46_method_17_code 133 = .ok (.anewarray 163, 3) := by decide +kernel
theorem d_Hm_resize_136 : decode prog_46_method_17_code 136 = .ok (.astore 6, 2) := by decide +kernel
theorem d_Hm_resize_138 : decode prog_46_method_17_code 138 = .ok (.aload_n 0, 1) := by decide +kernel
theorem d_Hm_resize_139 : decode prog_46_method_17_code 139 = .ok (.aload 6, 2) := by decide +kernel
theorem d_Hm_resize_141 : decode prog_46_method_17_code 141 = .ok (.putfield 105, 3) := by decide +kernel
theorem d_Hm_resize_144 : decode prog_46_method_17_code 144 = .ok (.aload_n 1, 1) := by decide +kernel
theorem d_Hm_resize_145 : decode prog_46_method_17_code 145 = .ok (.ifnull 208, 3) := by decide +kernel
theorem d_Hm_resize_353 : decode prog_46_method_17_code 353 = .ok (.aload 6, 2) := by decide +kernel
theorem d_Hm_resize_355 : decode prog_46_method_17_code 355 = .ok (.areturn, 1) := by decide +kernel
theorem d_Lm_newNode_0 : decode prog_54_method_4_code 0 = .ok (.new 15, 3) := by decide +kernel
theorem d_Lm_newNode_3 : decode prog_54_method_4_code 3 = .ok (.dup, 1) := by decide +kernel
theorem d_Lm_newNode_4 : decode prog_54_method_4_code 4 = .ok (.iload_n 1, 1) := by decide +kernel
theorem d_Lm_newNode_5 : decode prog_54_method_4_code 5 = .ok (.aload_n 2, 1) := by decide +kernel
theorem d_Lm_newNode_6 : decode prog_54_method_4_code 6 = .ok (.aload_n 3, 1) := by decide +kernel
theorem d_Lm_newNode_7 : decode prog_54_method_4_code 7 = .ok (.aload 4, 2) := by decide +kernel
theorem d_Lm_newNode_9 : decode prog_54_method_4_code 9 = .ok (.invokespecial 28, 3) := by decide +kernel
theorem d_Lm_newNode_12 : decode prog_54_method_4_code 12 = .ok (.astore 5, 2) := by decide +kernel
theorem d_Lm_newNode_14 : decode prog_54_method_4_code 14 = .ok (.aload_n 0, 1) := by decide +kernel
theorem d_Lm_newNode_15 : decode prog_54_method_4_code 15 = .ok (.aload 5, 2) := by decide +kernel
theorem d_Lm_newNode_17 : decode prog_54_method_4_code 17 = .ok (.invokevirtual 32, 3) := by decide +kernel
theorem d_Lm_newNode_20 : decode prog_54_method_4_code 20 = .ok (.aload 5, 2) := by decide +kernel
theorem d_Lm_newNode_22 : decode prog_54_method_4_code 22 = .ok (.areturn, 1) := by decide +kernel
theorem d_Lm_afterNodeInsertion_0 : decode prog_54_method_9_code 0 = .ok (.iload_n 1, 1) := by decide +kernel
theorem d_Lm_afterNodeInsertion_1 : decode prog_54_method_9_code 1 = .ok (.ifCond .eq 38, 3) := by decide +kernel
theorem d_Lm_afterNodeInsertion_4 : decode prog_54_method_9_code 4 = .ok (.aload_n 0, 1) := by decide +kernel
theorem d_Lm_afterNodeInsertion_5 : decode prog_54_method_9_code 5 = .ok (.getfield 7, 3) := by decide +kernel
theorem d_Lm_afterNodeInsertion_8 : decode prog_54_method_9_code 8 = .ok (.dup, 1) := by decide +kernel
theorem d_Lm_afterNodeInsertion_9 : decode prog_54_method_9_code 9 = .ok (.astore_n 2, 1) := by decide +kernel
theorem d_Lm_afterNodeInsertion_10 : decode prog_54_method_9_code 10 = .ok (.ifnull 29, 3) := by decide +kernel
theorem d_Lm_afterNodeInsertion_13 : decode prog_54_method_9_code 13 = .ok (.aload_n 0, 1) := by decide +kernel
theorem d_Lm_afterNodeInsertion_14 : decode prog_54_method_9_code 14 = .ok (.aload_n 2, 1) := by decide +kernel
theorem d_Lm_afterNodeInsertion_15 : decode prog_54_method_9_code 15 = .ok (.invokevirtual 53, 3) := by decide +kernel
theorem d_Lm_afterNodeInsertion_18 : decode prog_54_method_9_code 18 = .ok (.ifCond .eq 21, 3) := by decide +kernel
theorem d_Lm_afterNodeInsertion_39 : decode prog_54_method_9_code 39 = .ok (.return_, 1) := by decide +kernel
theorem d_Lm_afterNodeAccess_0 : decode prog_54_method_10_code 0 = .ok (.aload_n 0, 1) := by decide +kernel
theorem d_Lm_afterNodeAccess_1 : decode prog_54_method_10_code 1 = .ok (.getfield 1, 3) := by decide +kernel
theorem d_Lm_afterNodeAccess_4 : decode prog_54_method_10_code 4 = .ok (.iconst 2, 1) := by decide +kernel
theorem d_Lm_afterNodeAccess_5 : decode prog_54_method_10_code 5 = .ok (.if_icmp .eq 17, 3) := by decide +kernel
theorem d_Lm_afterNodeAccess_8 : decode prog_54_method_10_code 8 = .ok (.aload_n 0, 1) := by decide +kernel
theorem d_Lm_afterNodeAccess_9 : decode prog_54_method_10_code 9 = .ok (.getfield 1, 3) := by decide +kernel
theorem d_Lm_afterNodeAccess_12 : decode prog_54_method_10_code 12 = .ok (.ifCond .ne 129, 3) := by decide +kernel
theorem d_Lm_afterNodeAccess_15 : decode prog_54_method_10_code 15 = .ok (.aload_n 0, 1) := by decide +kernel
theorem d_Lm_afterNodeAccess_16 : decode prog_54_method_10_code 16 = .ok (.getfield 64, 3) := by decide +kernel
theorem d_Lm_afterNodeAccess_19 : decode prog_54_method_10_code 19 = .ok (.ifCond .eq 122, 3) := by decide +kernel
theorem d_Lm_afterNodeAccess_141 : decode prog_54_method_10_code 141 = .ok (.aload_n 0, 1) := by decide +kernel
theorem d_Lm_afterNodeAccess_142 : decode prog_54_method_10_code 142 = .ok (.getfield 1, 3) := by decide +kernel
theorem d_Lm_afterNodeAccess_145 : decode prog_54_method_10_code 145 = .ok (.iconst 1, 1) := by decide +kernel
theorem d_Lm_afterNodeAccess_146 : decode prog_54_method_10_code 146 = .ok (.if_icmp .ne 119, 3) := by decide +kernel
theorem d_Lm_afterNodeAccess_265 : decode prog_54_method_10_code 265 = .ok (.return_, 1) := by decide +kernel
theorem d_As_newCapacity_0 : decode prog_18_method_10_code 0 = .ok (.aload_n 0, 1) := by decide +kernel
theorem d_As_newCapacity_1 : decode prog_18_method_10_code 1 = .ok (.getfield 15, 3) := by decide +kernel
theorem d_As_newCapacity_4 : decode prog_18_method_10_code 4 = .ok (.arraylength, 1) := by decide +kernel
theorem d_As_newCapacity_5 : decode prog_18_method_10_code 5 = .ok (.istore_n 2, 1) := by decide +kernel
theorem d_As_newCapacity_6 : decode prog_18_method_10_code 6 = .ok (.iload_n 1, 1) := by decide +kernel
theorem d_As_newCapacity_7 : decode prog_18_method_10_code 7 = .ok (.aload_n 0, 1) := by decide +kernel
theorem d_As_newCapacity_8 : decode prog_18_method_10_code 8 = .ok (.getfield 22, 3) := by decide +kernel
theorem d_As_newCapacity_11 : decode prog_18_method_10_code 11 = .ok (.ishl, 1) := by decide +kernel
theorem d_As_newCapacity_12 : decode prog_18_method_10_code 12 = .ok (.istore_n 3, 1) := by decide +kernel
theorem d_As_newCapacity_13 : decode prog_18_method_10_code 13 = .ok (.iload_n 3, 1) := by decide +kernel
theorem d_As_newCapacity_14 : decode prog_18_method_10_code 14 = .ok (.iload_n 2, 1) := by decide +kernel
theorem d_As_newCapacity_15 : decode prog_18_method_10_code 15 = .ok (.isub, 1) := by decide +kernel
theorem d_As_newCapacity_16 : decode prog_18_method_10_code 16 = .ok (.istore 4, 2) := by decide +kernel
theorem d_As_newCapacity_18 : decode prog_18_method_10_code 18 = .ok (.iload_n 2, 1) := by decide +kernel
theorem d_As_newCapacity_19 : decode prog_18_method_10_code 19 = .ok (.iload 4, 2) := by decide +kernel
theorem d_As_newCapacity_21 : decode prog_18_method_10_code 21 = .ok (.iload_n 2, 1) := by decide +kernel
theorem d_As_newCapacity_22 : decode prog_18_method_10_code 22 = .ok (.iconst 2, 1) := by decide +kernel
theorem d_As_newCapacity_23 : decode prog_18_method_10_code 23 = .ok (.aload_n 0, 1) := by decide +kernel
theorem d_As_newCapacity_24 : decode prog_18_method_10_code 24 = .ok (.getfield 22, 3) := by decide +kernel
theorem d_As_newCapacity_27 : decode prog_18_method_10_code 27 = .ok (.ishl, 1) := by decide +kernel
theorem d_As_newCapacity_28 : decode prog_18_method_10_code 28 = .ok (.iadd, 1) := by decide +kernel
theorem d_As_newCapacity_29 : decode prog_18_method_10_code 29 = .ok (.invokestatic 114, 3) := by decide +kernel
theorem d_As_newCapacity_32 : decode prog_18_method_10_code 32 = .ok (.istore 5, 2) := by decide +kernel
theorem d_As_newCapacity_34 : decode prog_18_method_10_code 34 = .ok (.iload 5, 2) := by decide +kernel
theorem d_As_newCapacity_36 : decode prog_18_method_10_code 36 = .ok (.ldc 39, 2) := by decide +kernel
theorem d_As_newCapacity_38 : decode prog_18_method_10_code 38 = .ok (.if_icmp .ne 13, 3) := by decide +kernel
theorem d_As_newCapacity_51 : decode prog_18_method_10_code 51 = .ok (.iload 5, 2) := by decide +kernel
theorem d_As_newCapacity_53 : decode prog_18_method_10_code 53 = .ok (.aload_n 0, 1) := by decide +kernel
theorem d_As_newCapacity_54 : decode prog_18_method_10_code 54 = .ok (.getfield 22, 3) := by decide +kernel
theorem d_As_newCapacity_57 : decode prog_18_method_10_code 57 = .ok (.ishr, 1) := by decide +kernel
theorem d_As_newCapacity_58 : decode prog_18_method_10_code 58 = .ok (.ireturn, 1) := by decide +kernel
theorem d_Ar_copyOf_9075b_0 : decode prog_44_method_121_code 0 = .ok (.iload_n 1, 1) := by decide +kernel
theorem d_Ar_copyOf_9075b_1 : decode prog_44_method_121_code 1 = .ok (.aload_n 0, 1) := by decide +kernel
theorem d_Ar_copyOf_9075b_2 : decode prog_44_method_121_code 2 = .ok (.arraylength, 1) := by decide +kernel
theorem d_Ar_copyOf_9075b_3 : decode prog_44_method_121_code 3 = .ok (.if_icmp .ne 11, 3) := by decide +kernel
theorem d_Ar_copyOf_9075b_6 : decode prog_44_method_121_code 6 = .ok (.aload_n 0, 1) := by decide +kernel
theorem d_Ar_copyOf_9075b_7 : decode prog_44_method_121_code 7 = .ok (.invokevirtual 310, 3) := by decide +kernel
theorem d_Ar_copyOf_9075b_10 : decode prog_44_method_121_code 10 = .ok (.checkcast 311, 3) := by decide +kernel
theorem d_Ar_copyOf_9075b_13 : decode prog_44_method_121_code 13 = .ok (.areturn, 1) := by decide +kernel
theorem d_Ar_copyOf_9075b_14 : decode prog_44_method_121_code 14 = .ok (.iload_n 1, 1) := by decide +kernel
theorem d_Ar_copyOf_9075b_15 : decode prog_44_method_121_code 15 = .ok (.newarray .byte, 2) := by decide +kernel
theorem d_Ar_copyOf_9075b_17 : decode prog_44_method_121_code 17 = .ok (.astore_n 2, 1) := by decide +kernel
theorem d_Ar_copyOf_9075b_18 : decode prog_44_method_121_code 18 = .ok (.aload_n 0, 1) := by decide +kernel
theorem d_Ar_copyOf_9075b_19 : decode prog_44_method_121_code 19 = .ok (.iconst 0, 1) := by decide +kernel
theorem d_Ar_copyOf_9075b_20 : decode prog_44_method_121_code 20 = .ok (.aload_n 2, 1) := by decide +kernel
theorem d_Ar_copyOf_9075b_21 : decode prog_44_method_121_code 21 = .ok (.iconst 0, 1) := by decide +kernel
theorem d_Ar_copyOf_9075b_22 : decode prog_44_method_121_code 22 = .ok (.aload_n 0, 1) := by decide +kernel
theorem d_Ar_copyOf_9075b_23 : decode prog_44_method_121_code 23 = .ok (.arraylength, 1) := by decide +kernel
theorem d_Ar_copyOf_9075b_24 : decode prog_44_method_121_code 24 = .ok (.iload_n 1, 1) := by decide +kernel
theorem d_Ar_copyOf_9075b_25 : decode prog_44_method_121_code 25 = .ok (.invokestatic 304, 3) := by decide +kernel
theorem d_Ar_copyOf_9075b_28 : decode prog_44_method_121_code 28 = .ok (.invokestatic 150, 3) := by decide +kernel
theorem d_Ar_copyOf_9075b_31 : decode prog_44_method_121_code 31 = .ok (.aload_n 2, 1) := by decide +kernel
theorem d_Ar_copyOf_9075b_32 : decode prog_44_method_121_code 32 = .ok (.areturn, 1) := by decide +kernel
theorem d_As_inflateIfNeededFor_0 : decode prog_18_method_71_code 0 = .ok (.getstatic 18, 3) := by decide +kernel
theorem d_As_inflateIfNeededFor_3 : decode prog_18_method_71_code 3 = .ok (.ifCond .eq 18, 3) := by decide +kernel
theorem d_As_inflateIfNeededFor_6 : decode prog_18_method_71_code 6 = .ok (.aload_n 0, 1) := by decide +kernel
theorem d_As_inflateIfNeededFor_7 : decode prog_18_method_71_code 7 = .ok (.getfield 22, 3) := by decide +kernel
theorem d_As_inflateIfNeededFor_10 : decode prog_18_method_71_code 10 = .ok (.aload_n 1, 1) := by decide +kernel
theorem d_As_inflateIfNeededFor_11 : decode prog_18_method_71_code 11 = .ok (.invokevirtual 40, 3) := by decide +kernel
theorem d_As_inflateIfNeededFor_14 : decode prog_18_method_71_code 14 = .ok (.if_icmp .eq 7, 3) := by decide +kernel
theorem d_As_inflateIfNeededFor_21 : decode prog_18_method_71_code 21 = .ok (.return_, 1) := by decide +kernel
theorem d_Sg_getBytes_0 : decode prog_30_method_147_code 0 = .ok (.aload_n 0, 1) := by decide +kernel
theorem d_Sg_getBytes_1 : decode prog_30_method_147_code 1 = .ok (.invokevirtual 335, 3) := by decide +kernel
theorem d_Sg_getBytes_4 : decode prog_30_method_147_code 4 = .ok (.iload_n 3, 1) := by decide +kernel
theorem d_Sg_getBytes_5 : decode prog_30_method_147_code 5 = .ok (.if_icmp .ne 23, 3) := by decide +kernel
theorem d_Sg_getBytes_8 : decode prog_30_method_147_code 8 = .ok (.aload_n 0, 1) := by decide +kernel
theorem d_Sg_getBytes_9 : decode prog_30_method_147_code 9 = .ok (.getfield 9, 3) := by decide +kernel
theorem d_Sg_getBytes_12 : decode prog_30_method_147_code 12 = .ok (.iconst 0, 1) := by decide +kernel
theorem d_Sg_getBytes_13 : decode prog_30_method_147_code 13 = .ok (.aload_n 1, 1) := by decide +kernel
theorem d_Sg_getBytes_14 : decode prog_30_method_147_code 14 = .ok (.iload_n 2, 1) := by decide +kernel
theorem d_Sg_getBytes_15 : decode prog_30_method_147_code 15 = .ok (.iload_n 3, 1) := by decide +kernel
theorem d_Sg_getBytes_16 : decode prog_30_method_147_code 16 = .ok (.ishl, 1) := by decide +kernel
theorem d_Sg_getBytes_17 : decode prog_30_method_147_code 17 = .ok (.aload_n 0, 1) := by decide +kernel
theorem d_Sg_getBytes_18 : decode prog_30_method_147_code 18 = .ok (.getfield 9, 3) := by decide +kernel
theorem d_Sg_getBytes_21 : decode prog_30_method_147_code 21 = .ok (.arraylength, 1) := by decide +kernel
theorem d_Sg_getBytes_22 : decode prog_30_method_147_code 22 = .ok (.invokestatic 212, 3) := by decide +kernel
theorem d_Sg_getBytes_25 : decode prog_30_method_147_code 25 = .ok (.goto 18, 3) := by decide +kernel
theorem d_Sg_getBytes_43 : decode prog_30_method_147_code 43 = .ok (.return_, 1) := by decide +kernel
theorem d_As_getValue_0 : decode prog_18_method_64_code 0 = .ok (.aload_n 0, 1) := by decide +kernel
theorem d_As_getValue_1 : decode prog_18_method_64_code 1 = .ok (.getfield 15, 3) := by decide +kernel
theorem d_As_getValue_4 : decode prog_18_method_64_code 4 = .ok (.areturn, 1) := by decide +kernel
theorem d_Ar_copyOfRange_0 : decode prog_44_method_132_code 0 = .ok (.iload_n 1, 1) := by decide +kernel
theorem d_Ar_copyOfRange_1 : decode prog_44_method_132_code 1 = .ok (.ifCond .ne 9, 3) := by decide +kernel
theorem d_Ar_copyOfRange_4 : decode prog_44_method_132_code 4 = .ok (.iload_n 2, 1) := by decide +kernel
theorem d_Ar_copyOfRange_5 : decode prog_44_method_132_code 5 = .ok (.aload_n 0, 1) := by decide +kernel
theorem d_Ar_copyOfRange_6 : decode prog_44_method_132_code 6 = .ok (.arraylength, 1) := by decide +kernel
theorem d_Ar_copyOfRange_7 : decode prog_44_method_132_code 7 = .ok (.if_icmp .eq 10, 3) := by decide +kernel
theorem d_Ar_copyOfRange_10 : decode prog_44_method_132_code 10 = .ok (.aload_n 0, 1) := by decide +kernel
theorem d_Ar_copyOfRange_11 : decode prog_44_method_132_code 11 = .ok (.iload_n 1, 1) := by decide +kernel
theorem d_Ar_copyOfRange_12 : decode prog_44_method_132_code 12 = .ok (.iload_n 2, 1) := by decide +kernel
theorem d_Ar_copyOfRange_13 : decode prog_44_method_132_code 13 = .ok (.invokestatic 339, 3) := by decide +kernel
theorem d_Ar_copyOfRange_16 : decode prog_44_method_132_code 16 = .ok (.areturn, 1) := by decide +kernel
theorem d_Ar_copyOfRange_17 : decode prog_44_method_132_code 17 = .ok (.aload_n 0, 1) := by decide +kernel
theorem d_Ar_copyOfRange_18 : decode prog_44_method_132_code 18 = .ok (.invokevirtual 310, 3) := by decide +kernel
theorem d_Ar_copyOfRange_21 : decode prog_44_method_132_code 21 = .ok (.checkcast 311, 3) := by decide +kernel
theorem d_Ar_copyOfRange_24 : decode prog_44_method_132_code 24 = .ok (.areturn, 1) := by decide +kernel
theorem d_Ss_newLength_0 : decode prog_72_method_27_code 0 = .ok (.iload_n 0, 1) := by decide +kernel
theorem d_Ss_newLength_1 : decode prog_72_method_27_code 1 = .ok (.iload_n 1, 1) := by decide +kernel
theorem d_Ss_newLength_2 : decode prog_72_method_27_code 2 = .ok (.iload_n 2, 1) := by decide +kernel
theorem d_Ss_newLength_3 : decode prog_72_method_27_code 3 = .ok (.invokestatic 194, 3) := by decide +kernel
theorem d_Ss_newLength_6 : decode prog_72_method_27_code 6 = .ok (.iadd, 1) := by decide +kernel
theorem d_Ss_newLength_7 : decode prog_72_method_27_code 7 = .ok (.istore_n 3, 1) := by decide +kernel
theorem d_Ss_newLength_8 : decode prog_72_method_27_code 8 = .ok (.iconst 0, 1) := by decide +kernel
theorem d_Ss_newLength_9 : decode prog_72_method_27_code 9 = .ok (.iload_n 3, 1) := by decide +kernel
theorem d_Ss_newLength_10 : decode prog_72_method_27_code 10 = .ok (.if_icmp .ge 11, 3) := by decide +kernel
theorem d_Ss_newLength_13 : decode prog_72_method_27_code 13 = .ok (.iload_n 3, 1) := by decide +kernel
theorem d_Ss_newLength_14 : decode prog_72_method_27_code 14 = .ok (.ldc 200, 2) := by decide +kernel
theorem d_Ss_newLength_16 : decode prog_72_method_27_code 16 = .ok (.if_icmp .gt 5, 3) := by decide +kernel
theorem d_Ss_newLength_19 : decode prog_72_method_27_code 19 = .ok (.iload_n 3, 1) := by decide +kernel
theorem d_Ss_newLength_20 : decode prog_72_method_27_code 20 = .ok (.ireturn, 1) := by decide +kernel
theorem d_Ss_newLength_21 : decode prog_72_method_27_code 21 = .ok (.iload_n 0, 1) := by decide +kernel
theorem d_Ss_newLength_22 : decode prog_72_method_27_code 22 = .ok (.iload_n 1, 1) := by decide +kernel
theorem d_Ss_newLength_23 : decode prog_72_method_27_code 23 = .ok (.invokestatic 201, 3) := by decide +kernel
theorem d_Ss_newLength_26 : decode prog_72_method_27_code 26 = .ok (.ireturn, 1) := by decide +kernel
theorem d_Ar_copyOf_1904c_0 : decode prog_44_method_119_code 0 = .ok (.aload_n 0, 1) := by decide +kernel
theorem d_Ar_copyOf_1904c_1 : decode prog_44_method_119_code 1 = .ok (.iload_n 1, 1) := by decide +kernel
theorem d_Ar_copyOf_1904c_2 : decode prog_44_method_119_code 2 = .ok (.aload_n 0, 1) := by decide +kernel
theorem d_Ar_copyOf_1904c_3 : decode prog_44_method_119_code 3 = .ok (.invokevirtual 86, 3) := by decide +kernel
theorem d_Ar_copyOf_1904c_6 : decode prog_44_method_119_code 6 = .ok (.invokestatic 300, 3) := by decide +kernel
theorem d_Ar_copyOf_1904c_9 : decode prog_44_method_119_code 9 = .ok (.areturn, 1) := by decide +kernel
theorem d_Am_init_0 : decode prog_40_method_1_code 0 = .ok (.aload_n 0, 1) := by decide +kernel
theorem d_Am_init_1 : decode prog_40_method_1_code 1 = .ok (.invokespecial 1, 3) := by decide +kernel
theorem d_Am_init_4 : decode prog_40_method_1_code 4 = .ok (.return_, 1) := by decide +kernel
theorem d_Jxf58ca_isNaN_0 : decode prog_23_method_6_code 0 = .ok (.fload_n 0, 1) := by decide +kernel
theorem d_Jxf58ca_isNaN_1 : decode prog_23_method_6_code 1 = .ok (.fload_n 0, 1) := by decide +kernel
theorem d_Jxf58ca_isNaN_2 : decode prog_23_method_6_code 2 = .ok (.fcmp .l, 1) := by decide +kernel
theorem d_Jxf58ca_isNaN_3 : decode prog_23_method_6_code 3 = .ok (.ifCond .eq 7, 3) := by decide +kernel
theorem d_Jxf58ca_isNaN_6 : decode prog_23_method_6_code 6 = .ok (.iconst 1, 1) := by decide +kernel
theorem d_Jxf58ca_isNaN_7 : decode prog_23_method_6_code 7 = .ok (.goto 4, 3) := by decide +kernel
theorem d_Jxf58ca_isNaN_10 : decode prog_23_method_6_code 10 = .ok (.iconst 0, 1) := by decide +kernel
theorem d_Jxf58ca_isNaN_11 : decode prog_23_method_6_code 11 = .ok (.ireturn, 1) := by decide +kernel
theorem d_Hm_tableSizeFor_0 : decode prog_46_method_4_code 0 = .ok (.iconst (-1), 1) := by decide +kernel
theorem d_Hm_tableSizeFor_1 : decode prog_46_method_4_code 1 = .ok (.iload_n 0, 1) := by decide +kernel
theorem d_Hm_tableSizeFor_2 : decode prog_46_method_4_code 2 = .ok (.iconst 1, 1) := by decide +kernel
theorem d_Hm_tableSizeFor_3 : decode prog_46_method_4_code 3 = .ok (.isub, 1) := by decide +kernel
theorem d_Hm_tableSizeFor_4 : decode prog_46_method_4_code 4 = .ok (.invokestatic 34, 3) := by decide +kernel
theorem d_Hm_tableSizeFor_7 : decode prog_46_method_4_code 7 = .ok (.iushr, 1) := by decide +kernel
theorem d_Hm_tableSizeFor_8 : decode prog_46_method_4_code 8 = .ok (.istore_n 1, 1) := by decide +kernel
theorem d_Hm_tableSizeFor_9 : decode prog_46_method_4_code 9 = .ok (.iload_n 1, 1) := by decide +kernel
theorem d_Hm_tableSizeFor_10 : decode prog_46_method_4_code 10 = .ok (.ifCond .ge 7, 3) := by decide +kernel
theorem d_Hm_tableSizeFor_13 : decode prog_46_method_4_code 13 = .ok (.iconst 1, 1) := by decide +kernel
theorem d_Hm_tableSizeFor_14 : decode prog_46_method_4_code 14 = .ok (.goto 17, 3) := by decide +kernel
theorem d_Hm_tableSizeFor_17 : decode prog_46_method_4_code 17 = .ok (.iload_n 1, 1) := by decide +kernel
theorem d_Hm_tableSizeFor_18 : decode prog_46_method_4_code 18 = .ok (.ldc 42, 2) := by decide +kernel
theorem d_Hm_tableSizeFor_20 : decode prog_46_method_4_code 20 = .ok (.if_icmp .lt 8, 3) := by decide +kernel
theorem d_Hm_tableSizeFor_23 : decode prog_46_method_4_code 23 = .ok (.ldc 42, 2) := by decide +kernel
theorem d_Hm_tableSizeFor_25 : decode prog_46_method_4_code 25 = .ok (.goto 6, 3) := by decide +kernel
theorem d_Hm_tableSizeFor_28 : decode prog_46_method_4_code 28 = .ok (.iload_n 1, 1) := by decide +kernel
theorem d_Hm_tableSizeFor_29 : decode prog_46_method_4_code 29 = .ok (.iconst 1, 1) := by decide +kernel
theorem d_Hm_tableSizeFor_30 : decode prog_46_method_4_code 30 = .ok (.iadd, 1) := by decide +kernel
theorem d_Hm_tableSizeFor_31 : decode prog_46_method_4_code 31 = .ok (.ireturn, 1) := by decide +kernel
theorem d_In_hashCode_0f7a4_0 : decode prog_24_method_33_code 0 = .ok (.iload_n 0, 1) := by decide +kernel
theorem d_In_hashCode_0f7a4_1 : decode prog_24_method_33_code 1 = .ok (.ireturn, 1) := by decide +kernel
theorem d_Ln_init_0 : decode prog_55_method_1_code 0 = .ok (.aload_n 0, 1) := by decide +kernel
theorem d_Ln_init_1 : decode prog_55_method_1_code 1 = .ok (.iload_n 1, 1) := by decide +kernel
theorem d_Ln_init_2 : decode prog_55_method_1_code 2 = .ok (.aload_n 2, 1) := by decide +kernel
theorem d_Ln_init_3 : decode prog_55_method_1_code 3 = .ok (.aload_n 3, 1) := by decide +kernel
theorem d_Ln_init_4 : decode prog_55_method_1_code 4 = .ok (.aload 4, 2) := by decide +kernel
theorem d_Ln_init_6 : decode prog_55_method_1_code 6 = .ok (.invokespecial 1, 3) := by decide +kernel
theorem d_Ln_init_9 : decode prog_55_method_1_code 9 = .ok (.return_, 1) := by decide +kernel
theorem d_Lm_linkNodeAtEnd_0 : decode prog_54_method_1_code 0 = .ok (.aload_n 0, 1) := by decide +kernel
theorem d_Lm_linkNodeAtEnd_1 : decode prog_54_method_1_code 1 = .ok (.getfield 1, 3) := by decide +kernel
theorem d_Lm_linkNodeAtEnd_4 : decode prog_54_method_1_code 4 = .ok (.iconst 1, 1) := by decide +kernel
theorem d_Lm_linkNodeAtEnd_5 : decode prog_54_method_1_code 5 = .ok (.if_icmp .ne 38, 3) := by decide +kernel
theorem d_Lm_linkNodeAtEnd_43 : decode prog_54_method_1_code 43 = .ok (.aload_n 0, 1) := by decide +kernel
theorem d_Lm_linkNodeAtEnd_44 : decode prog_54_method_1_code 44 = .ok (.getfield 11, 3) := by decide +kernel
theorem d_Lm_linkNodeAtEnd_47 : decode prog_54_method_1_code 47 = .ok (.astore_n 2, 1) := by decide +kernel
theorem d_Lm_linkNodeAtEnd_48 : decode prog_54_method_1_code 48 = .ok (.aload_n 0, 1) := by decide +kernel
theorem d_Lm_linkNodeAtEnd_49 : decode prog_54_method_1_code 49 = .ok (.aload_n 1, 1) := by decide +kernel
theorem d_Lm_linkNodeAtEnd_50 : decode prog_54_method_1_code 50 = .ok (.putfield 11, 3) := by decide +kernel
theorem d_Lm_linkNodeAtEnd_53 : decode prog_54_method_1_code 53 = .ok (.aload_n 2, 1) := by decide +kernel
theorem d_Lm_linkNodeAtEnd_54 : decode prog_54_method_1_code 54 = .ok (.ifnonnull 11, 3) := by decide +kernel
theorem d_Lm_linkNodeAtEnd_57 : decode prog_54_method_1_code 57 = .ok (.aload_n 0, 1) := by decide +kernel
theorem d_Lm_linkNodeAtEnd_58 : decode prog_54_method_1_code 58 = .ok (.aload_n 1, 1) := by decide +kernel
theorem d_Lm_linkNodeAtEnd_59 : decode prog_54_method_1_code 59 = .ok (.putfield 7, 3) := by decide +kernel
theorem d_Lm_linkNodeAtEnd_62 : decode prog_54_method_1_code 62 = .ok (.goto 13, 3) := by decide +kernel
theorem d_Lm_linkNodeAtEnd_65 : decode prog_54_method_1_code 65 = .ok (.aload_n 1, 1) := by decide +kernel
theorem d_Lm_linkNodeAtEnd_66 : decode prog_54_method_1_code 66 = .ok (.aload_n 2, 1) := by decide +kernel
theorem d_Lm_linkNodeAtEnd_67 : decode prog_54_method_1_code 67 = .ok (.putfield 19, 3) := by decide +kernel
theorem d_Lm_linkNodeAtEnd_70 : decode prog_54_method_1_code 70 = .ok (.aload_n 2, 1) := by decide +kernel
theorem d_Lm_linkNodeAtEnd_71 : decode prog_54_method_1_code 71 = .ok (.aload_n 1, 1) := by decide +kernel
theorem d_Lm_linkNodeAtEnd_72 : decode prog_54_method_1_code 72 = .ok (.putfield 14, 3) := by decide +kernel
theorem d_Lm_linkNodeAtEnd_75 : decode prog_54_method_1_code 75 = .ok (.return_, 1) := by decide +kernel
