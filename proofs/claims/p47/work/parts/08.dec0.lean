-- the instructions, decoded (X0 X1 X2 X3 X4 X5 X6 X7 X8 X9 J0 J1 J3 J7 J9)
theorem d_Es_init_0 : decode prog_2_method_1_code 0 = .ok (.aload_n 0, 1) := by decide +kernel
theorem d_Es_init_1 : decode prog_2_method_1_code 1 = .ok (.invokespecial 3, 3) := by decide +kernel
theorem d_Es_init_4 : decode prog_2_method_1_code 4 = .ok (.aload_n 0, 1) := by decide +kernel
theorem d_Es_init_5 : decode prog_2_method_1_code 5 = .ok (.sipush 240, 3) := by decide +kernel
theorem d_Es_init_8 : decode prog_2_method_1_code 8 = .ok (.newarray .int, 2) := by decide +kernel
theorem d_Es_init_10 : decode prog_2_method_1_code 10 = .ok (.putfield 9, 3) := by decide +kernel
theorem d_Es_init_13 : decode prog_2_method_1_code 13 = .ok (.aload_n 0, 1) := by decide +kernel
theorem d_Es_init_14 : decode prog_2_method_1_code 14 = .ok (.sipush 240, 3) := by decide +kernel
theorem d_Es_init_17 : decode prog_2_method_1_code 17 = .ok (.newarray .int, 2) := by decide +kernel
theorem d_Es_init_19 : decode prog_2_method_1_code 19 = .ok (.putfield 15, 3) := by decide +kernel
theorem d_Es_init_22 : decode prog_2_method_1_code 22 = .ok (.aload_n 0, 1) := by decide +kernel
theorem d_Es_init_23 : decode prog_2_method_1_code 23 = .ok (.aload_n 1, 1) := by decide +kernel
theorem d_Es_init_24 : decode prog_2_method_1_code 24 = .ok (.putfield 18, 3) := by decide +kernel
theorem d_Es_init_27 : decode prog_2_method_1_code 27 = .ok (.aload_n 0, 1) := by decide +kernel
theorem d_Es_init_28 : decode prog_2_method_1_code 28 = .ok (.aload_n 2, 1) := by decide +kernel
theorem d_Es_init_29 : decode prog_2_method_1_code 29 = .ok (.putfield 22, 3) := by decide +kernel
theorem d_Es_init_32 : decode prog_2_method_1_code 32 = .ok (.aload_n 0, 1) := by decide +kernel
theorem d_Es_init_33 : decode prog_2_method_1_code 33 = .ok (.aload_n 3, 1) := by decide +kernel
theorem d_Es_init_34 : decode prog_2_method_1_code 34 = .ok (.putfield 26, 3) := by decide +kernel
theorem d_Es_init_37 : decode prog_2_method_1_code 37 = .ok (.aload_n 0, 1) := by decide +kernel
theorem d_Es_init_38 : decode prog_2_method_1_code 38 = .ok (.aload 4, 2) := by decide +kernel
theorem d_Es_init_40 : decode prog_2_method_1_code 40 = .ok (.putfield 30, 3) := by decide +kernel
theorem d_Es_init_43 : decode prog_2_method_1_code 43 = .ok (.aload_n 0, 1) := by decide +kernel
theorem d_Es_init_44 : decode prog_2_method_1_code 44 = .ok (.aload 5, 2) := by decide +kernel
theorem d_Es_init_46 : decode prog_2_method_1_code 46 = .ok (.putfield 34, 3) := by decide +kernel
theorem d_Es_init_49 : decode prog_2_method_1_code 49 = .ok (.return_, 1) := by decide +kernel
theorem d_Es_supposeNothing_0 : decode prog_2_method_2_code 0 = .ok (.aload_n 0, 1) := by decide +kernel
theorem d_Es_supposeNothing_1 : decode prog_2_method_2_code 1 = .ok (.aload_n 0, 1) := by decide +kernel
theorem d_Es_supposeNothing_2 : decode prog_2_method_2_code 2 = .ok (.getfield 26, 3) := by decide +kernel
theorem d_Es_supposeNothing_5 : decode prog_2_method_2_code 5 = .ok (.getfield 38, 3) := by decide +kernel
theorem d_Es_supposeNothing_8 : decode prog_2_method_2_code 8 = .ok (.iconst 0, 1) := by decide +kernel
theorem d_Es_supposeNothing_9 : decode prog_2_method_2_code 9 = .ok (.aload_n 0, 1) := by decide +kernel
theorem d_Es_supposeNothing_10 : decode prog_2_method_2_code 10 = .ok (.getfield 30, 3) := by decide +kernel
theorem d_Es_supposeNothing_13 : decode prog_2_method_2_code 13 = .ok (.iconst 1, 1) := by decide +kernel
theorem d_Es_supposeNothing_14 : decode prog_2_method_2_code 14 = .ok (.invokevirtual 44, 3) := by decide +kernel
theorem d_Es_supposeNothing_17 : decode prog_2_method_2_code 17 = .ok (.invokevirtual 50, 3) := by decide +kernel
theorem d_Es_supposeNothing_20 : decode prog_2_method_2_code 20 = .ok (.return_, 1) := by decide +kernel
theorem d_Es_suppose_0 : decode prog_2_method_3_code 0 = .ok (.aload_n 0, 1) := by decide +kernel
theorem d_Es_suppose_1 : decode prog_2_method_3_code 1 = .ok (.iload_n 1, 1) := by decide +kernel
theorem d_Es_suppose_2 : decode prog_2_method_3_code 2 = .ok (.putfield 54, 3) := by decide +kernel
theorem d_Es_suppose_5 : decode prog_2_method_3_code 5 = .ok (.aload_n 0, 1) := by decide +kernel
theorem d_Es_suppose_6 : decode prog_2_method_3_code 6 = .ok (.aload_n 0, 1) := by decide +kernel
theorem d_Es_suppose_7 : decode prog_2_method_3_code 7 = .ok (.getfield 26, 3) := by decide +kernel
theorem d_Es_suppose_10 : decode prog_2_method_3_code 10 = .ok (.iload_n 1, 1) := by decide +kernel
theorem d_Es_suppose_11 : decode prog_2_method_3_code 11 = .ok (.invokevirtual 55, 3) := by decide +kernel
theorem d_Es_suppose_14 : decode prog_2_method_3_code 14 = .ok (.putfield 58, 3) := by decide +kernel
theorem d_Es_suppose_17 : decode prog_2_method_3_code 17 = .ok (.aload_n 0, 1) := by decide +kernel
theorem d_Es_suppose_18 : decode prog_2_method_3_code 18 = .ok (.aload_n 0, 1) := by decide +kernel
theorem d_Es_suppose_19 : decode prog_2_method_3_code 19 = .ok (.getfield 58, 3) := by decide +kernel
theorem d_Es_suppose_22 : decode prog_2_method_3_code 22 = .ok (.iload_n 2, 1) := by decide +kernel
theorem d_Es_suppose_23 : decode prog_2_method_3_code 23 = .ok (.iadd, 1) := by decide +kernel
theorem d_Es_suppose_24 : decode prog_2_method_3_code 24 = .ok (.putfield 61, 3) := by decide +kernel
theorem d_Es_suppose_27 : decode prog_2_method_3_code 27 = .ok (.aload_n 0, 1) := by decide +kernel
theorem d_Es_suppose_28 : decode prog_2_method_3_code 28 = .ok (.iload_n 3, 1) := by decide +kernel
theorem d_Es_suppose_29 : decode prog_2_method_3_code 29 = .ok (.putfield 64, 3) := by decide +kernel
theorem d_Es_suppose_32 : decode prog_2_method_3_code 32 = .ok (.return_, 1) := by decide +kernel
theorem d_Es_projectionOfHit_0 : decode prog_2_method_4_code 0 = .ok (.aload_n 0, 1) := by decide +kernel
theorem d_Es_projectionOfHit_1 : decode prog_2_method_4_code 1 = .ok (.getfield 54, 3) := by decide +kernel
theorem d_Es_projectionOfHit_4 : decode prog_2_method_4_code 4 = .ok (.ifCond .gt 5, 3) := by decide +kernel
theorem d_Es_projectionOfHit_7 : decode prog_2_method_4_code 7 = .ok (.iconst 0, 1) := by decide +kernel
theorem d_Es_projectionOfHit_8 : decode prog_2_method_4_code 8 = .ok (.ireturn, 1) := by decide +kernel
theorem d_Es_projectionOfHit_9 : decode prog_2_method_4_code 9 = .ok (.aload_n 0, 1) := by decide +kernel
theorem d_Es_projectionOfHit_10 : decode prog_2_method_4_code 10 = .ok (.getfield 18, 3) := by decide +kernel
theorem d_Es_projectionOfHit_13 : decode prog_2_method_4_code 13 = .ok (.iload_n 1, 1) := by decide +kernel
theorem d_Es_projectionOfHit_14 : decode prog_2_method_4_code 14 = .ok (.invokevirtual 67, 3) := by decide +kernel
theorem d_Es_projectionOfHit_17 : decode prog_2_method_4_code 17 = .ok (.i2l, 1) := by decide +kernel
theorem d_Es_projectionOfHit_18 : decode prog_2_method_4_code 18 = .ok (.aload_n 0, 1) := by decide +kernel
theorem d_Es_projectionOfHit_19 : decode prog_2_method_4_code 19 = .ok (.getfield 22, 3) := by decide +kernel
theorem d_Es_projectionOfHit_22 : decode prog_2_method_4_code 22 = .ok (.getfield 72, 3) := by decide +kernel
theorem d_Es_projectionOfHit_25 : decode prog_2_method_4_code 25 = .ok (.i2l, 1) := by decide +kernel
theorem d_Es_projectionOfHit_26 : decode prog_2_method_4_code 26 = .ok (.lmul, 1) := by decide +kernel
theorem d_Es_projectionOfHit_27 : decode prog_2_method_4_code 27 = .ok (.sipush 10000, 3) := by decide +kernel
theorem d_Es_projectionOfHit_30 : decode prog_2_method_4_code 30 = .ok (.aload_n 0, 1) := by decide +kernel
theorem d_Es_projectionOfHit_31 : decode prog_2_method_4_code 31 = .ok (.getfield 54, 3) := by decide +kernel
theorem d_Es_projectionOfHit_34 : decode prog_2_method_4_code 34 = .ok (.imul, 1) := by decide +kernel
theorem d_Es_projectionOfHit_35 : decode prog_2_method_4_code 35 = .ok (.i2l, 1) := by decide +kernel
theorem d_Es_projectionOfHit_36 : decode prog_2_method_4_code 36 = .ok (.ldiv, 1) := by decide +kernel
theorem d_Es_projectionOfHit_37 : decode prog_2_method_4_code 37 = .ok (.l2i, 1) := by decide +kernel
theorem d_Es_projectionOfHit_38 : decode prog_2_method_4_code 38 = .ok (.ireturn, 1) := by decide +kernel
theorem d_Es_projection_0 : decode prog_2_method_5_code 0 = .ok (.iconst 0, 1) := by decide +kernel
theorem d_Es_projection_1 : decode prog_2_method_5_code 1 = .ok (.istore_n 2, 1) := by decide +kernel
theorem d_Es_projection_2 : decode prog_2_method_5_code 2 = .ok (.iconst 0, 1) := by decide +kernel
theorem d_Es_projection_3 : decode prog_2_method_5_code 3 = .ok (.istore_n 3, 1) := by decide +kernel
theorem d_Es_projection_4 : decode prog_2_method_5_code 4 = .ok (.iload_n 3, 1) := by decide +kernel
theorem d_Es_projection_5 : decode prog_2_method_5_code 5 = .ok (.aload_n 0, 1) := by decide +kernel
theorem d_Es_projection_6 : decode prog_2_method_5_code 6 = .ok (.getfield 58, 3) := by decide +kernel
theorem d_Es_projection_9 : decode prog_2_method_5_code 9 = .ok (.if_icmp .ge 42, 3) := by decide +kernel
theorem d_Es_projection_12 : decode prog_2_method_5_code 12 = .ok (.aload_n 0, 1) := by decide +kernel
theorem d_Es_projection_13 : decode prog_2_method_5_code 13 = .ok (.getfield 26, 3) := by decide +kernel
theorem d_Es_projection_16 : decode prog_2_method_5_code 16 = .ok (.iload_n 3, 1) := by decide +kernel
theorem d_Es_projection_17 : decode prog_2_method_5_code 17 = .ok (.invokevirtual 77, 3) := by decide +kernel
theorem d_Es_projection_20 : decode prog_2_method_5_code 20 = .ok (.ifCond .eq 31, 3) := by decide +kernel
theorem d_Es_projection_23 : decode prog_2_method_5_code 23 = .ok (.iload_n 2, 1) := by decide +kernel
theorem d_Es_projection_24 : decode prog_2_method_5_code 24 = .ok (.iconst 0, 1) := by decide +kernel
theorem d_Es_projection_25 : decode prog_2_method_5_code 25 = .ok (.iload_n 1, 1) := by decide +kernel
theorem d_Es_projection_26 : decode prog_2_method_5_code 26 = .ok (.aload_n 0, 1) := by decide +kernel
theorem d_Es_projection_27 : decode prog_2_method_5_code 27 = .ok (.aload_n 0, 1) := by decide +kernel
theorem d_Es_projection_28 : decode prog_2_method_5_code 28 = .ok (.getfield 26, 3) := by decide +kernel
theorem d_Es_projection_31 : decode prog_2_method_5_code 31 = .ok (.getfield 81, 3) := by decide +kernel
theorem d_Es_projection_34 : decode prog_2_method_5_code 34 = .ok (.iload_n 3, 1) := by decide +kernel
theorem d_Es_projection_35 : decode prog_2_method_5_code 35 = .ok (.iaload, 1) := by decide +kernel
theorem d_Es_projection_36 : decode prog_2_method_5_code 36 = .ok (.invokevirtual 84, 3) := by decide +kernel
theorem d_Es_projection_39 : decode prog_2_method_5_code 39 = .ok (.imul, 1) := by decide +kernel
theorem d_Es_projection_40 : decode prog_2_method_5_code 40 = .ok (.invokestatic 87, 3) := by decide +kernel
theorem d_Es_projection_43 : decode prog_2_method_5_code 43 = .ok (.iadd, 1) := by decide +kernel
theorem d_Es_projection_44 : decode prog_2_method_5_code 44 = .ok (.istore_n 2, 1) := by decide +kernel
theorem d_Es_projection_45 : decode prog_2_method_5_code 45 = .ok (.iinc 3 1, 3) := by decide +kernel
theorem d_Es_projection_48 : decode prog_2_method_5_code 48 = .ok (.goto (-44), 3) := by decide +kernel
theorem d_Es_projection_51 : decode prog_2_method_5_code 51 = .ok (.iload_n 2, 1) := by decide +kernel
theorem d_Es_projection_52 : decode prog_2_method_5_code 52 = .ok (.ireturn, 1) := by decide +kernel
theorem d_Es_known_0 : decode prog_2_method_6_code 0 = .ok (.iconst 0, 1) := by decide +kernel
theorem d_Es_known_1 : decode prog_2_method_6_code 1 = .ok (.istore_n 2, 1) := by decide +kernel
theorem d_Es_known_2 : decode prog_2_method_6_code 2 = .ok (.iconst 0, 1) := by decide +kernel
theorem d_Es_known_3 : decode prog_2_method_6_code 3 = .ok (.istore_n 3, 1) := by decide +kernel
theorem d_Es_known_4 : decode prog_2_method_6_code 4 = .ok (.iload_n 3, 1) := by decide +kernel
theorem d_Es_known_5 : decode prog_2_method_6_code 5 = .ok (.aload_n 0, 1) := by decide +kernel
theorem d_Es_known_6 : decode prog_2_method_6_code 6 = .ok (.getfield 18, 3) := by decide +kernel
theorem d_Es_known_9 : decode prog_2_method_6_code 9 = .ok (.getfield 93, 3) := by decide +kernel
theorem d_Es_known_12 : decode prog_2_method_6_code 12 = .ok (.if_icmp .ge 37, 3) := by decide +kernel
theorem d_Es_known_15 : decode prog_2_method_6_code 15 = .ok (.aload_n 0, 1) := by decide +kernel
theorem d_Es_known_16 : decode prog_2_method_6_code 16 = .ok (.getfield 22, 3) := by decide +kernel
theorem d_Es_known_19 : decode prog_2_method_6_code 19 = .ok (.iload_n 3, 1) := by decide +kernel
theorem d_Es_known_20 : decode prog_2_method_6_code 20 = .ok (.invokevirtual 96, 3) := by decide +kernel
theorem d_Es_known_23 : decode prog_2_method_6_code 23 = .ok (.ifCond .eq 20, 3) := by decide +kernel
theorem d_Es_known_26 : decode prog_2_method_6_code 26 = .ok (.iload_n 2, 1) := by decide +kernel
theorem d_Es_known_27 : decode prog_2_method_6_code 27 = .ok (.iconst 0, 1) := by decide +kernel
theorem d_Es_known_28 : decode prog_2_method_6_code 28 = .ok (.iload_n 1, 1) := by decide +kernel
theorem d_Es_known_29 : decode prog_2_method_6_code 29 = .ok (.aload_n 0, 1) := by decide +kernel
theorem d_Es_known_30 : decode prog_2_method_6_code 30 = .ok (.getfield 18, 3) := by decide +kernel
theorem d_Es_known_33 : decode prog_2_method_6_code 33 = .ok (.iload_n 3, 1) := by decide +kernel
theorem d_Es_known_34 : decode prog_2_method_6_code 34 = .ok (.invokevirtual 99, 3) := by decide +kernel
theorem d_Es_known_37 : decode prog_2_method_6_code 37 = .ok (.imul, 1) := by decide +kernel
theorem d_Es_known_38 : decode prog_2_method_6_code 38 = .ok (.invokestatic 87, 3) := by decide +kernel
theorem d_Es_known_41 : decode prog_2_method_6_code 41 = .ok (.iadd, 1) := by decide +kernel
theorem d_Es_known_42 : decode prog_2_method_6_code 42 = .ok (.istore_n 2, 1) := by decide +kernel
theorem d_Es_known_43 : decode prog_2_method_6_code 43 = .ok (.iinc 3 1, 3) := by decide +kernel
theorem d_Es_known_46 : decode prog_2_method_6_code 46 = .ok (.goto (-42), 3) := by decide +kernel
theorem d_Es_known_49 : decode prog_2_method_6_code 49 = .ok (.iload_n 2, 1) := by decide +kernel
theorem d_Es_known_50 : decode prog_2_method_6_code 50 = .ok (.ireturn, 1) := by decide +kernel
theorem d_Es_basic_0 : decode prog_2_method_7_code 0 = .ok (.aload_n 0, 1) := by decide +kernel
theorem d_Es_basic_1 : decode prog_2_method_7_code 1 = .ok (.getfield 22, 3) := by decide +kernel
theorem d_Es_basic_4 : decode prog_2_method_7_code 4 = .ok (.getfield 102, 3) := by decide +kernel
theorem d_Es_basic_7 : decode prog_2_method_7_code 7 = .ok (.i2l, 1) := by decide +kernel
theorem d_Es_basic_8 : decode prog_2_method_7_code 8 = .ok (.aload_n 0, 1) := by decide +kernel
theorem d_Es_basic_9 : decode prog_2_method_7_code 9 = .ok (.getfield 34, 3) := by decide +kernel
theorem d_Es_basic_12 : decode prog_2_method_7_code 12 = .ok (.aload_n 0, 1) := by decide +kernel
theorem d_Es_basic_13 : decode prog_2_method_7_code 13 = .ok (.getfield 61, 3) := by decide +kernel
theorem d_Es_basic_16 : decode prog_2_method_7_code 16 = .ok (.iconst 0, 1) := by decide +kernel
theorem d_Es_basic_17 : decode prog_2_method_7_code 17 = .ok (.aload_n 0, 1) := by decide +kernel
theorem d_Es_basic_18 : decode prog_2_method_7_code 18 = .ok (.getfield 64, 3) := by decide +kernel
theorem d_Es_basic_21 : decode prog_2_method_7_code 21 = .ok (.invokevirtual 105, 3) := by decide +kernel
theorem d_Es_basic_24 : decode prog_2_method_7_code 24 = .ok (.i2l, 1) := by decide +kernel
theorem d_Es_basic_25 : decode prog_2_method_7_code 25 = .ok (.lmul, 1) := by decide +kernel
theorem d_Es_basic_26 : decode prog_2_method_7_code 26 = .ok (.ldc2_w 111, 3) := by decide +kernel
theorem d_Es_basic_29 : decode prog_2_method_7_code 29 = .ok (.ldiv, 1) := by decide +kernel
theorem d_Es_basic_30 : decode prog_2_method_7_code 30 = .ok (.l2i, 1) := by decide +kernel
theorem d_Es_basic_31 : decode prog_2_method_7_code 31 = .ok (.ireturn, 1) := by decide +kernel
theorem d_Es_rank_0 : decode prog_2_method_8_code 0 = .ok (.aload_n 0, 1) := by decide +kernel
theorem d_Es_rank_1 : decode prog_2_method_8_code 1 = .ok (.iconst 0, 1) := by decide +kernel
theorem d_Es_rank_2 : decode prog_2_method_8_code 2 = .ok (.putfield 113, 3) := by decide +kernel
theorem d_Es_rank_5 : decode prog_2_method_8_code 5 = .ok (.iconst 0, 1) := by decide +kernel
theorem d_Es_rank_6 : decode prog_2_method_8_code 6 = .ok (.istore_n 2, 1) := by decide +kernel
theorem d_Es_rank_7 : decode prog_2_method_8_code 7 = .ok (.iload_n 2, 1) := by decide +kernel
theorem d_Es_rank_8 : decode prog_2_method_8_code 8 = .ok (.aload_n 0, 1) := by decide +kernel
theorem d_Es_rank_9 : decode prog_2_method_8_code 9 = .ok (.getfield 58, 3) := by decide +kernel
theorem d_Es_rank_12 : decode prog_2_method_8_code 12 = .ok (.if_icmp .ge 141, 3) := by decide +kernel
theorem d_Es_rank_15 : decode prog_2_method_8_code 15 = .ok (.aload_n 0, 1) := by decide +kernel
theorem d_Es_rank_16 : decode prog_2_method_8_code 16 = .ok (.getfield 26, 3) := by decide +kernel
theorem d_Es_rank_19 : decode prog_2_method_8_code 19 = .ok (.iload_n 2, 1) := by decide +kernel
theorem d_Es_rank_20 : decode prog_2_method_8_code 20 = .ok (.invokevirtual 77, 3) := by decide +kernel
theorem d_Es_rank_23 : decode prog_2_method_8_code 23 = .ok (.ifCond .eq 130, 3) := by decide +kernel
theorem d_Es_rank_26 : decode prog_2_method_8_code 26 = .ok (.aload_n 0, 1) := by decide +kernel
theorem d_Es_rank_27 : decode prog_2_method_8_code 27 = .ok (.getfield 113, 3) := by decide +kernel
theorem d_Es_rank_30 : decode prog_2_method_8_code 30 = .ok (.sipush 240, 3) := by decide +kernel
theorem d_Es_rank_33 : decode prog_2_method_8_code 33 = .ok (.if_icmp .ge 120, 3) := by decide +kernel
theorem d_Es_rank_36 : decode prog_2_method_8_code 36 = .ok (.iload_n 1, 1) := by decide +kernel
theorem d_Es_rank_37 : decode prog_2_method_8_code 37 = .ok (.aload_n 0, 1) := by decide +kernel
theorem d_Es_rank_38 : decode prog_2_method_8_code 38 = .ok (.getfield 18, 3) := by decide +kernel
theorem d_Es_rank_41 : decode prog_2_method_8_code 41 = .ok (.aload_n 0, 1) := by decide +kernel
theorem d_Es_rank_42 : decode prog_2_method_8_code 42 = .ok (.getfield 26, 3) := by decide +kernel
theorem d_Es_rank_45 : decode prog_2_method_8_code 45 = .ok (.getfield 81, 3) := by decide +kernel
theorem d_Es_rank_48 : decode prog_2_method_8_code 48 = .ok (.iload_n 2, 1) := by decide +kernel
theorem d_Es_rank_49 : decode prog_2_method_8_code 49 = .ok (.iaload, 1) := by decide +kernel
theorem d_Es_rank_50 : decode prog_2_method_8_code 50 = .ok (.invokevirtual 67, 3) := by decide +kernel
theorem d_Es_rank_53 : decode prog_2_method_8_code 53 = .ok (.imul, 1) := by decide +kernel
theorem d_Es_rank_54 : decode prog_2_method_8_code 54 = .ok (.istore_n 3, 1) := by decide +kernel
theorem d_Es_rank_55 : decode prog_2_method_8_code 55 = .ok (.iload_n 3, 1) := by decide +kernel
theorem d_Es_rank_56 : decode prog_2_method_8_code 56 = .ok (.ifCond .le 91, 3) := by decide +kernel
theorem d_Es_rank_59 : decode prog_2_method_8_code 59 = .ok (.aload_n 0, 1) := by decide +kernel
theorem d_Es_rank_60 : decode prog_2_method_8_code 60 = .ok (.getfield 113, 3) := by decide +kernel
theorem d_Es_rank_63 : decode prog_2_method_8_code 63 = .ok (.istore 4, 2) := by decide +kernel
theorem d_Es_rank_65 : decode prog_2_method_8_code 65 = .ok (.iload 4, 2) := by decide +kernel
theorem d_Es_rank_67 : decode prog_2_method_8_code 67 = .ok (.ifCond .le 54, 3) := by decide +kernel
theorem d_Es_rank_70 : decode prog_2_method_8_code 70 = .ok (.aload_n 0, 1) := by decide +kernel
theorem d_Es_rank_71 : decode prog_2_method_8_code 71 = .ok (.getfield 15, 3) := by decide +kernel
theorem d_Es_rank_74 : decode prog_2_method_8_code 74 = .ok (.iload 4, 2) := by decide +kernel
theorem d_Es_rank_76 : decode prog_2_method_8_code 76 = .ok (.iconst 1, 1) := by decide +kernel
theorem d_Es_rank_77 : decode prog_2_method_8_code 77 = .ok (.isub, 1) := by decide +kernel
theorem d_Es_rank_78 : decode prog_2_method_8_code 78 = .ok (.iaload, 1) := by decide +kernel
theorem d_Es_rank_79 : decode prog_2_method_8_code 79 = .ok (.iload_n 3, 1) := by decide +kernel
theorem d_Es_rank_80 : decode prog_2_method_8_code 80 = .ok (.if_icmp .ge 41, 3) := by decide +kernel
theorem d_Es_rank_83 : decode prog_2_method_8_code 83 = .ok (.aload_n 0, 1) := by decide +kernel
theorem d_Es_rank_84 : decode prog_2_method_8_code 84 = .ok (.getfield 9, 3) := by decide +kernel
theorem d_Es_rank_87 : decode prog_2_method_8_code 87 = .ok (.iload 4, 2) := by decide +kernel
theorem d_Es_rank_89 : decode prog_2_method_8_code 89 = .ok (.aload_n 0, 1) := by decide +kernel
theorem d_Es_rank_90 : decode prog_2_method_8_code 90 = .ok (.getfield 9, 3) := by decide +kernel
theorem d_Es_rank_93 : decode prog_2_method_8_code 93 = .ok (.iload 4, 2) := by decide +kernel
theorem d_Es_rank_95 : decode prog_2_method_8_code 95 = .ok (.iconst 1, 1) := by decide +kernel
theorem d_Es_rank_96 : decode prog_2_method_8_code 96 = .ok (.isub, 1) := by decide +kernel
theorem d_Es_rank_97 : decode prog_2_method_8_code 97 = .ok (.iaload, 1) := by decide +kernel
theorem d_Es_rank_98 : decode prog_2_method_8_code 98 = .ok (.iastore, 1) := by decide +kernel
theorem d_Es_rank_99 : decode prog_2_method_8_code 99 = .ok (.aload_n 0, 1) := by decide +kernel
theorem d_Es_rank_100 : decode prog_2_method_8_code 100 = .ok (.getfield 15, 3) := by decide +kernel
theorem d_Es_rank_103 : decode prog_2_method_8_code 103 = .ok (.iload 4, 2) := by decide +kernel
theorem d_Es_rank_105 : decode prog_2_method_8_code 105 = .ok (.aload_n 0, 1) := by decide +kernel
theorem d_Es_rank_106 : decode prog_2_method_8_code 106 = .ok (.getfield 15, 3) := by decide +kernel
theorem d_Es_rank_109 : decode prog_2_method_8_code 109 = .ok (.iload 4, 2) := by decide +kernel
theorem d_Es_rank_111 : decode prog_2_method_8_code 111 = .ok (.iconst 1, 1) := by decide +kernel
theorem d_Es_rank_112 : decode prog_2_method_8_code 112 = .ok (.isub, 1) := by decide +kernel
theorem d_Es_rank_113 : decode prog_2_method_8_code 113 = .ok (.iaload, 1) := by decide +kernel
theorem d_Es_rank_114 : decode prog_2_method_8_code 114 = .ok (.iastore, 1) := by decide +kernel
theorem d_Es_rank_115 : decode prog_2_method_8_code 115 = .ok (.iinc 4 (-1), 3) := by decide +kernel
theorem d_Es_rank_118 : decode prog_2_method_8_code 118 = .ok (.goto (-53), 3) := by decide +kernel
theorem d_Es_rank_121 : decode prog_2_method_8_code 121 = .ok (.aload_n 0, 1) := by decide +kernel
theorem d_Es_rank_122 : decode prog_2_method_8_code 122 = .ok (.getfield 9, 3) := by decide +kernel
theorem d_Es_rank_125 : decode prog_2_method_8_code 125 = .ok (.iload 4, 2) := by decide +kernel
theorem d_Es_rank_127 : decode prog_2_method_8_code 127 = .ok (.iload_n 2, 1) := by decide +kernel
theorem d_Es_rank_128 : decode prog_2_method_8_code 128 = .ok (.iastore, 1) := by decide +kernel
theorem d_Es_rank_129 : decode prog_2_method_8_code 129 = .ok (.aload_n 0, 1) := by decide +kernel
theorem d_Es_rank_130 : decode prog_2_method_8_code 130 = .ok (.getfield 15, 3) := by decide +kernel
theorem d_Es_rank_133 : decode prog_2_method_8_code 133 = .ok (.iload 4, 2) := by decide +kernel
theorem d_Es_rank_135 : decode prog_2_method_8_code 135 = .ok (.iload_n 3, 1) := by decide +kernel
theorem d_Es_rank_136 : decode prog_2_method_8_code 136 = .ok (.iastore, 1) := by decide +kernel
theorem d_Es_rank_137 : decode prog_2_method_8_code 137 = .ok (.aload_n 0, 1) := by decide +kernel
theorem d_Es_rank_138 : decode prog_2_method_8_code 138 = .ok (.dup, 1) := by decide +kernel
theorem d_Es_rank_139 : decode prog_2_method_8_code 139 = .ok (.getfield 113, 3) := by decide +kernel
theorem d_Es_rank_142 : decode prog_2_method_8_code 142 = .ok (.iconst 1, 1) := by decide +kernel
theorem d_Es_rank_143 : decode prog_2_method_8_code 143 = .ok (.iadd, 1) := by decide +kernel
theorem d_Es_rank_144 : decode prog_2_method_8_code 144 = .ok (.putfield 113, 3) := by decide +kernel
theorem d_Es_rank_147 : decode prog_2_method_8_code 147 = .ok (.iinc 2 1, 3) := by decide +kernel
theorem d_Es_rank_150 : decode prog_2_method_8_code 150 = .ok (.goto (-143), 3) := by decide +kernel
theorem d_Es_rank_153 : decode prog_2_method_8_code 153 = .ok (.return_, 1) := by decide +kernel
theorem d_Es_hasRank_0 : decode prog_2_method_9_code 0 = .ok (.iload_n 1, 1) := by decide +kernel
theorem d_Es_hasRank_1 : decode prog_2_method_9_code 1 = .ok (.ifCond .lt 15, 3) := by decide +kernel
theorem d_Es_hasRank_4 : decode prog_2_method_9_code 4 = .ok (.iload_n 1, 1) := by decide +kernel
theorem d_Es_hasRank_5 : decode prog_2_method_9_code 5 = .ok (.aload_n 0, 1) := by decide +kernel
theorem d_Es_hasRank_6 : decode prog_2_method_9_code 6 = .ok (.getfield 113, 3) := by decide +kernel
theorem d_Es_hasRank_9 : decode prog_2_method_9_code 9 = .ok (.if_icmp .ge 7, 3) := by decide +kernel
theorem d_Es_hasRank_12 : decode prog_2_method_9_code 12 = .ok (.iconst 1, 1) := by decide +kernel
theorem d_Es_hasRank_13 : decode prog_2_method_9_code 13 = .ok (.goto 4, 3) := by decide +kernel
theorem d_Es_hasRank_16 : decode prog_2_method_9_code 16 = .ok (.iconst 0, 1) := by decide +kernel
theorem d_Es_hasRank_17 : decode prog_2_method_9_code 17 = .ok (.ireturn, 1) := by decide +kernel
theorem d_Es_rise_0 : decode prog_2_method_10_code 0 = .ok (.aload_n 0, 1) := by decide +kernel
theorem d_Es_rise_1 : decode prog_2_method_10_code 1 = .ok (.iload_n 1, 1) := by decide +kernel
theorem d_Es_rise_2 : decode prog_2_method_10_code 2 = .ok (.invokevirtual 116, 3) := by decide +kernel
theorem d_Es_rise_5 : decode prog_2_method_10_code 5 = .ok (.ifCond .ne 5, 3) := by decide +kernel
theorem d_Es_rise_8 : decode prog_2_method_10_code 8 = .ok (.iconst 0, 1) := by decide +kernel
theorem d_Es_rise_9 : decode prog_2_method_10_code 9 = .ok (.ireturn, 1) := by decide +kernel
theorem d_Es_rise_10 : decode prog_2_method_10_code 10 = .ok (.aload_n 0, 1) := by decide +kernel
theorem d_Es_rise_11 : decode prog_2_method_10_code 11 = .ok (.getfield 34, 3) := by decide +kernel
theorem d_Es_rise_14 : decode prog_2_method_10_code 14 = .ok (.aload_n 0, 1) := by decide +kernel
theorem d_Es_rise_15 : decode prog_2_method_10_code 15 = .ok (.getfield 61, 3) := by decide +kernel
theorem d_Es_rise_18 : decode prog_2_method_10_code 18 = .ok (.iload_n 1, 1) := by decide +kernel
theorem d_Es_rise_19 : decode prog_2_method_10_code 19 = .ok (.iconst 1, 1) := by decide +kernel
theorem d_Es_rise_20 : decode prog_2_method_10_code 20 = .ok (.iadd, 1) := by decide +kernel
theorem d_Es_rise_21 : decode prog_2_method_10_code 21 = .ok (.aload_n 0, 1) := by decide +kernel
theorem d_Es_rise_22 : decode prog_2_method_10_code 22 = .ok (.getfield 64, 3) := by decide +kernel
theorem d_Es_rise_25 : decode prog_2_method_10_code 25 = .ok (.invokevirtual 105, 3) := by decide +kernel
theorem d_Es_rise_28 : decode prog_2_method_10_code 28 = .ok (.aload_n 0, 1) := by decide +kernel
theorem d_Es_rise_29 : decode prog_2_method_10_code 29 = .ok (.getfield 34, 3) := by decide +kernel
theorem d_Es_rise_32 : decode prog_2_method_10_code 32 = .ok (.aload_n 0, 1) := by decide +kernel
theorem d_Es_rise_33 : decode prog_2_method_10_code 33 = .ok (.getfield 61, 3) := by decide +kernel
theorem d_Es_rise_36 : decode prog_2_method_10_code 36 = .ok (.iload_n 1, 1) := by decide +kernel
theorem d_Es_rise_37 : decode prog_2_method_10_code 37 = .ok (.aload_n 0, 1) := by decide +kernel
theorem d_Es_rise_38 : decode prog_2_method_10_code 38 = .ok (.getfield 64, 3) := by decide +kernel
theorem d_Es_rise_41 : decode prog_2_method_10_code 41 = .ok (.invokevirtual 105, 3) := by decide +kernel
theorem d_Es_rise_44 : decode prog_2_method_10_code 44 = .ok (.isub, 1) := by decide +kernel
theorem d_Es_rise_45 : decode prog_2_method_10_code 45 = .ok (.i2l, 1) := by decide +kernel
theorem d_Es_rise_46 : decode prog_2_method_10_code 46 = .ok (.lstore_n 2, 1) := by decide +kernel
theorem d_Es_rise_47 : decode prog_2_method_10_code 47 = .ok (.aload_n 0, 1) := by decide +kernel
theorem d_Es_rise_48 : decode prog_2_method_10_code 48 = .ok (.getfield 22, 3) := by decide +kernel
theorem d_Es_rise_51 : decode prog_2_method_10_code 51 = .ok (.getfield 102, 3) := by decide +kernel
theorem d_Es_rise_54 : decode prog_2_method_10_code 54 = .ok (.i2l, 1) := by decide +kernel
theorem d_Es_rise_55 : decode prog_2_method_10_code 55 = .ok (.lload_n 2, 1) := by decide +kernel
theorem d_Es_rise_56 : decode prog_2_method_10_code 56 = .ok (.lmul, 1) := by decide +kernel
theorem d_Es_rise_57 : decode prog_2_method_10_code 57 = .ok (.aload_n 0, 1) := by decide +kernel
theorem d_Es_rise_58 : decode prog_2_method_10_code 58 = .ok (.getfield 15, 3) := by decide +kernel
theorem d_Es_rise_61 : decode prog_2_method_10_code 61 = .ok (.iload_n 1, 1) := by decide +kernel
theorem d_Es_rise_62 : decode prog_2_method_10_code 62 = .ok (.iaload, 1) := by decide +kernel
theorem d_Es_rise_63 : decode prog_2_method_10_code 63 = .ok (.i2l, 1) := by decide +kernel
theorem d_Es_rise_64 : decode prog_2_method_10_code 64 = .ok (.lmul, 1) := by decide +kernel
theorem d_Es_rise_65 : decode prog_2_method_10_code 65 = .ok (.ldc2_w 119, 3) := by decide +kernel
theorem d_Es_rise_68 : decode prog_2_method_10_code 68 = .ok (.ldiv, 1) := by decide +kernel
theorem d_Es_rise_69 : decode prog_2_method_10_code 69 = .ok (.l2i, 1) := by decide +kernel
theorem d_Es_rise_70 : decode prog_2_method_10_code 70 = .ok (.ireturn, 1) := by decide +kernel
theorem d_Es_rises_0 : decode prog_2_method_11_code 0 = .ok (.aload_n 0, 1) := by decide +kernel
theorem d_Es_rises_1 : decode prog_2_method_11_code 1 = .ok (.iload_n 1, 1) := by decide +kernel
theorem d_Es_rises_2 : decode prog_2_method_11_code 2 = .ok (.invokevirtual 121, 3) := by decide +kernel
theorem d_Es_rises_5 : decode prog_2_method_11_code 5 = .ok (.iconst 0, 1) := by decide +kernel
theorem d_Es_rises_6 : decode prog_2_method_11_code 6 = .ok (.istore_n 2, 1) := by decide +kernel
theorem d_Es_rises_7 : decode prog_2_method_11_code 7 = .ok (.iconst 0, 1) := by decide +kernel
theorem d_Es_rises_8 : decode prog_2_method_11_code 8 = .ok (.istore_n 3, 1) := by decide +kernel
theorem d_Es_rises_9 : decode prog_2_method_11_code 9 = .ok (.iload_n 3, 1) := by decide +kernel
theorem d_Es_rises_10 : decode prog_2_method_11_code 10 = .ok (.aload_n 0, 1) := by decide +kernel
theorem d_Es_rises_11 : decode prog_2_method_11_code 11 = .ok (.getfield 113, 3) := by decide +kernel
theorem d_Es_rises_14 : decode prog_2_method_11_code 14 = .ok (.if_icmp .ge 17, 3) := by decide +kernel
theorem d_Es_rises_17 : decode prog_2_method_11_code 17 = .ok (.iload_n 2, 1) := by decide +kernel
theorem d_Es_rises_18 : decode prog_2_method_11_code 18 = .ok (.aload_n 0, 1) := by decide +kernel
theorem d_Es_rises_19 : decode prog_2_method_11_code 19 = .ok (.iload_n 3, 1) := by decide +kernel
theorem d_Es_rises_20 : decode prog_2_method_11_code 20 = .ok (.invokevirtual 125, 3) := by decide +kernel
theorem d_Es_rises_23 : decode prog_2_method_11_code 23 = .ok (.iadd, 1) := by decide +kernel
theorem d_Es_rises_24 : decode prog_2_method_11_code 24 = .ok (.istore_n 2, 1) := by decide +kernel
theorem d_Es_rises_25 : decode prog_2_method_11_code 25 = .ok (.iinc 3 1, 3) := by decide +kernel
theorem d_Es_rises_28 : decode prog_2_method_11_code 28 = .ok (.goto (-19), 3) := by decide +kernel
theorem d_Es_rises_31 : decode prog_2_method_11_code 31 = .ok (.iload_n 2, 1) := by decide +kernel
theorem d_Es_rises_32 : decode prog_2_method_11_code 32 = .ok (.ireturn, 1) := by decide +kernel
theorem d_Es_limit_0 : decode prog_2_method_12_code 0 = .ok (.aload_n 0, 1) := by decide +kernel
theorem d_Es_limit_1 : decode prog_2_method_12_code 1 = .ok (.invokevirtual 128, 3) := by decide +kernel
theorem d_Es_limit_4 : decode prog_2_method_12_code 4 = .ok (.aload_n 0, 1) := by decide +kernel
theorem d_Es_limit_5 : decode prog_2_method_12_code 5 = .ok (.iload_n 1, 1) := by decide +kernel
theorem d_Es_limit_6 : decode prog_2_method_12_code 6 = .ok (.invokevirtual 132, 3) := by decide +kernel
theorem d_Es_limit_9 : decode prog_2_method_12_code 9 = .ok (.iadd, 1) := by decide +kernel
theorem d_Es_limit_10 : decode prog_2_method_12_code 10 = .ok (.aload_n 0, 1) := by decide +kernel
theorem d_Es_limit_11 : decode prog_2_method_12_code 11 = .ok (.iload_n 1, 1) := by decide +kernel
theorem d_Es_limit_12 : decode prog_2_method_12_code 12 = .ok (.invokevirtual 135, 3) := by decide +kernel
theorem d_Es_limit_15 : decode prog_2_method_12_code 15 = .ok (.iadd, 1) := by decide +kernel
theorem d_Es_limit_16 : decode prog_2_method_12_code 16 = .ok (.istore_n 2, 1) := by decide +kernel
theorem d_Es_limit_17 : decode prog_2_method_12_code 17 = .ok (.aload_n 0, 1) := by decide +kernel
theorem d_Es_limit_18 : decode prog_2_method_12_code 18 = .ok (.getfield 30, 3) := by decide +kernel
theorem d_Es_limit_21 : decode prog_2_method_12_code 21 = .ok (.iconst 3, 1) := by decide +kernel
theorem d_Es_limit_22 : decode prog_2_method_12_code 22 = .ok (.invokevirtual 44, 3) := by decide +kernel
theorem d_Es_limit_25 : decode prog_2_method_12_code 25 = .ok (.ifCond .ne 5, 3) := by decide +kernel
theorem d_Es_limit_28 : decode prog_2_method_12_code 28 = .ok (.iload_n 2, 1) := by decide +kernel
theorem d_Es_limit_29 : decode prog_2_method_12_code 29 = .ok (.ireturn, 1) := by decide +kernel
theorem d_Es_limit_30 : decode prog_2_method_12_code 30 = .ok (.iload_n 2, 1) := by decide +kernel
theorem d_Es_limit_31 : decode prog_2_method_12_code 31 = .ok (.aload_n 0, 1) := by decide +kernel
theorem d_Es_limit_32 : decode prog_2_method_12_code 32 = .ok (.iload_n 1, 1) := by decide +kernel
theorem d_Es_limit_33 : decode prog_2_method_12_code 33 = .ok (.ineg, 1) := by decide +kernel
theorem d_Es_limit_34 : decode prog_2_method_12_code 34 = .ok (.invokevirtual 135, 3) := by decide +kernel
theorem d_Es_limit_37 : decode prog_2_method_12_code 37 = .ok (.isub, 1) := by decide +kernel
theorem d_Es_limit_38 : decode prog_2_method_12_code 38 = .ok (.aload_n 0, 1) := by decide +kernel
theorem d_Es_limit_39 : decode prog_2_method_12_code 39 = .ok (.iload_n 1, 1) := by decide +kernel
theorem d_Es_limit_40 : decode prog_2_method_12_code 40 = .ok (.ineg, 1) := by decide +kernel
theorem d_Es_limit_41 : decode prog_2_method_12_code 41 = .ok (.invokevirtual 138, 3) := by decide +kernel
theorem d_Es_limit_44 : decode prog_2_method_12_code 44 = .ok (.isub, 1) := by decide +kernel
theorem d_Es_limit_45 : decode prog_2_method_12_code 45 = .ok (.ireturn, 1) := by decide +kernel
theorem d_Es_partOf_0 : decode prog_2_method_13_code 0 = .ok (.iload_n 1, 1) := by decide +kernel
theorem d_Es_partOf_1 : decode prog_2_method_13_code 1 = .ok (.tableswitch 44 0 2 #[27, 32, 38], 27) := by decide +kernel
theorem d_Es_partOf_28 : decode prog_2_method_13_code 28 = .ok (.aload_n 0, 1) := by decide +kernel
theorem d_Es_partOf_29 : decode prog_2_method_13_code 29 = .ok (.invokevirtual 128, 3) := by decide +kernel
theorem d_Es_partOf_32 : decode prog_2_method_13_code 32 = .ok (.ireturn, 1) := by decide +kernel
theorem d_Es_partOf_33 : decode prog_2_method_13_code 33 = .ok (.aload_n 0, 1) := by decide +kernel
theorem d_Es_partOf_34 : decode prog_2_method_13_code 34 = .ok (.iload_n 2, 1) := by decide +kernel
theorem d_Es_partOf_35 : decode prog_2_method_13_code 35 = .ok (.invokevirtual 132, 3) := by decide +kernel
theorem d_Es_partOf_38 : decode prog_2_method_13_code 38 = .ok (.ireturn, 1) := by decide +kernel
theorem d_Es_partOf_39 : decode prog_2_method_13_code 39 = .ok (.aload_n 0, 1) := by decide +kernel
theorem d_Es_partOf_40 : decode prog_2_method_13_code 40 = .ok (.iload_n 2, 1) := by decide +kernel
theorem d_Es_partOf_41 : decode prog_2_method_13_code 41 = .ok (.invokevirtual 135, 3) := by decide +kernel
theorem d_Es_partOf_44 : decode prog_2_method_13_code 44 = .ok (.ireturn, 1) := by decide +kernel
theorem d_Es_partOf_45 : decode prog_2_method_13_code 45 = .ok (.aload_n 0, 1) := by decide +kernel
theorem d_Es_partOf_46 : decode prog_2_method_13_code 46 = .ok (.iload_n 2, 1) := by decide +kernel
theorem d_Es_partOf_47 : decode prog_2_method_13_code 47 = .ok (.invokevirtual 141, 3) := by decide +kernel
theorem d_Es_partOf_50 : decode prog_2_method_13_code 50 = .ok (.ireturn, 1) := by decide +kernel
theorem d_Es_isAccepted_0 : decode prog_2_method_14_code 0 = .ok (.aload_n 0, 1) := by decide +kernel
theorem d_Es_isAccepted_1 : decode prog_2_method_14_code 1 = .ok (.iconst 1, 1) := by decide +kernel
theorem d_Es_isAccepted_2 : decode prog_2_method_14_code 2 = .ok (.invokevirtual 141, 3) := by decide +kernel
theorem d_Es_isAccepted_5 : decode prog_2_method_14_code 5 = .ok (.aload_n 0, 1) := by decide +kernel
theorem d_Es_isAccepted_6 : decode prog_2_method_14_code 6 = .ok (.getfield 30, 3) := by decide +kernel
theorem d_Es_isAccepted_9 : decode prog_2_method_14_code 9 = .ok (.iconst 0, 1) := by decide +kernel
theorem d_Es_isAccepted_10 : decode prog_2_method_14_code 10 = .ok (.invokevirtual 44, 3) := by decide +kernel
theorem d_Es_isAccepted_13 : decode prog_2_method_14_code 13 = .ok (.if_icmp .gt 7, 3) := by decide +kernel
theorem d_Es_isAccepted_16 : decode prog_2_method_14_code 16 = .ok (.iconst 1, 1) := by decide +kernel
theorem d_Es_isAccepted_17 : decode prog_2_method_14_code 17 = .ok (.goto 4, 3) := by decide +kernel
theorem d_Es_isAccepted_20 : decode prog_2_method_14_code 20 = .ok (.iconst 0, 1) := by decide +kernel
theorem d_Es_isAccepted_21 : decode prog_2_method_14_code 21 = .ok (.ireturn, 1) := by decide +kernel
theorem d_Fa_init_0 : decode prog_3_method_1_code 0 = .ok (.aload_n 0, 1) := by decide +kernel
theorem d_Fa_init_1 : decode prog_3_method_1_code 1 = .ok (.invokespecial 3, 3) := by decide +kernel
theorem d_Fa_init_4 : decode prog_3_method_1_code 4 = .ok (.aload_n 0, 1) := by decide +kernel
theorem d_Fa_init_5 : decode prog_3_method_1_code 5 = .ok (.sipush 401, 3) := by decide +kernel
theorem d_Fa_init_8 : decode prog_3_method_1_code 8 = .ok (.newarray .int, 2) := by decide +kernel
theorem d_Fa_init_10 : decode prog_3_method_1_code 10 = .ok (.putfield 9, 3) := by decide +kernel
theorem d_Fa_init_13 : decode prog_3_method_1_code 13 = .ok (.aload_n 0, 1) := by decide +kernel
theorem d_Fa_init_14 : decode prog_3_method_1_code 14 = .ok (.iconst (-1), 1) := by decide +kernel
theorem d_Fa_init_15 : decode prog_3_method_1_code 15 = .ok (.putfield 15, 3) := by decide +kernel
theorem d_Fa_init_18 : decode prog_3_method_1_code 18 = .ok (.aload_n 0, 1) := by decide +kernel
theorem d_Fa_init_19 : decode prog_3_method_1_code 19 = .ok (.iconst (-1), 1) := by decide +kernel
theorem d_Fa_init_20 : decode prog_3_method_1_code 20 = .ok (.putfield 19, 3) := by decide +kernel
theorem d_Fa_init_23 : decode prog_3_method_1_code 23 = .ok (.return_, 1) := by decide +kernel
theorem d_Fa_upperOf_0 : decode prog_3_method_2_code 0 = .ok (.iload_n 2, 1) := by decide +kernel
theorem d_Fa_upperOf_1 : decode prog_3_method_2_code 1 = .ok (.ifCond .lt 10, 3) := by decide +kernel
theorem d_Fa_upperOf_4 : decode prog_3_method_2_code 4 = .ok (.iload_n 2, 1) := by decide +kernel
theorem d_Fa_upperOf_5 : decode prog_3_method_2_code 5 = .ok (.sipush 400, 3) := by decide +kernel
theorem d_Fa_upperOf_8 : decode prog_3_method_2_code 8 = .ok (.if_icmp .le 6, 3) := by decide +kernel
theorem d_Fa_upperOf_11 : decode prog_3_method_2_code 11 = .ok (.ldc 22, 2) := by decide +kernel
theorem d_Fa_upperOf_13 : decode prog_3_method_2_code 13 = .ok (.ireturn, 1) := by decide +kernel
theorem d_Fa_upperOf_14 : decode prog_3_method_2_code 14 = .ok (.iload_n 1, 1) := by decide +kernel
theorem d_Fa_upperOf_15 : decode prog_3_method_2_code 15 = .ok (.aload_n 0, 1) := by decide +kernel
theorem d_Fa_upperOf_16 : decode prog_3_method_2_code 16 = .ok (.getfield 15, 3) := by decide +kernel
theorem d_Fa_upperOf_19 : decode prog_3_method_2_code 19 = .ok (.if_icmp .ne 11, 3) := by decide +kernel
theorem d_Fa_upperOf_22 : decode prog_3_method_2_code 22 = .ok (.iload_n 3, 1) := by decide +kernel
theorem d_Fa_upperOf_23 : decode prog_3_method_2_code 23 = .ok (.aload_n 0, 1) := by decide +kernel
theorem d_Fa_upperOf_24 : decode prog_3_method_2_code 24 = .ok (.getfield 19, 3) := by decide +kernel
theorem d_Fa_upperOf_27 : decode prog_3_method_2_code 27 = .ok (.if_icmp .eq 21, 3) := by decide +kernel
theorem d_Fa_upperOf_30 : decode prog_3_method_2_code 30 = .ok (.aload_n 0, 1) := by decide +kernel
theorem d_Fa_upperOf_31 : decode prog_3_method_2_code 31 = .ok (.getfield 9, 3) := by decide +kernel
theorem d_Fa_upperOf_34 : decode prog_3_method_2_code 34 = .ok (.iconst 0, 1) := by decide +kernel
theorem d_Fa_upperOf_35 : decode prog_3_method_2_code 35 = .ok (.invokestatic 23, 3) := by decide +kernel
theorem d_Fa_upperOf_38 : decode prog_3_method_2_code 38 = .ok (.aload_n 0, 1) := by decide +kernel
theorem d_Fa_upperOf_39 : decode prog_3_method_2_code 39 = .ok (.iload_n 1, 1) := by decide +kernel
theorem d_Fa_upperOf_40 : decode prog_3_method_2_code 40 = .ok (.putfield 15, 3) := by decide +kernel
theorem d_Fa_upperOf_43 : decode prog_3_method_2_code 43 = .ok (.aload_n 0, 1) := by decide +kernel
theorem d_Fa_upperOf_44 : decode prog_3_method_2_code 44 = .ok (.iload_n 3, 1) := by decide +kernel
theorem d_Fa_upperOf_45 : decode prog_3_method_2_code 45 = .ok (.putfield 19, 3) := by decide +kernel
theorem d_Fa_upperOf_48 : decode prog_3_method_2_code 48 = .ok (.aload_n 0, 1) := by decide +kernel
theorem d_Fa_upperOf_49 : decode prog_3_method_2_code 49 = .ok (.getfield 9, 3) := by decide +kernel
theorem d_Fa_upperOf_52 : decode prog_3_method_2_code 52 = .ok (.iload_n 2, 1) := by decide +kernel
theorem d_Fa_upperOf_53 : decode prog_3_method_2_code 53 = .ok (.iaload, 1) := by decide +kernel
theorem d_Fa_upperOf_54 : decode prog_3_method_2_code 54 = .ok (.ifCond .ne 16, 3) := by decide +kernel
theorem d_Fa_upperOf_57 : decode prog_3_method_2_code 57 = .ok (.aload_n 0, 1) := by decide +kernel
theorem d_Fa_upperOf_58 : decode prog_3_method_2_code 58 = .ok (.getfield 9, 3) := by decide +kernel
theorem d_Fa_upperOf_61 : decode prog_3_method_2_code 61 = .ok (.iload_n 2, 1) := by decide +kernel
theorem d_Fa_upperOf_62 : decode prog_3_method_2_code 62 = .ok (.aload_n 0, 1) := by decide +kernel
theorem d_Fa_upperOf_63 : decode prog_3_method_2_code 63 = .ok (.iload_n 1, 1) := by decide +kernel
theorem d_Fa_upperOf_64 : decode prog_3_method_2_code 64 = .ok (.iload_n 2, 1) := by decide +kernel
theorem d_Fa_upperOf_65 : decode prog_3_method_2_code 65 = .ok (.iload_n 3, 1) := by decide +kernel
theorem d_Fa_upperOf_66 : decode prog_3_method_2_code 66 = .ok (.invokevirtual 29, 3) := by decide +kernel
theorem d_Fa_upperOf_69 : decode prog_3_method_2_code 69 = .ok (.iastore, 1) := by decide +kernel
theorem d_Fa_upperOf_70 : decode prog_3_method_2_code 70 = .ok (.aload_n 0, 1) := by decide +kernel
theorem d_Fa_upperOf_71 : decode prog_3_method_2_code 71 = .ok (.getfield 9, 3) := by decide +kernel
theorem d_Fa_upperOf_74 : decode prog_3_method_2_code 74 = .ok (.iload_n 2, 1) := by decide +kernel
theorem d_Fa_upperOf_75 : decode prog_3_method_2_code 75 = .ok (.iaload, 1) := by decide +kernel
theorem d_Fa_upperOf_76 : decode prog_3_method_2_code 76 = .ok (.ireturn, 1) := by decide +kernel
theorem d_Fa_halved_0 : decode prog_3_method_3_code 0 = .ok (.iload_n 2, 1) := by decide +kernel
theorem d_Fa_halved_1 : decode prog_3_method_3_code 1 = .ok (.iload_n 1, 1) := by decide +kernel
theorem d_Fa_halved_2 : decode prog_3_method_3_code 2 = .ok (.if_icmp .lt 6, 3) := by decide +kernel
theorem d_Fa_halved_5 : decode prog_3_method_3_code 5 = .ok (.ldc 22, 2) := by decide +kernel
theorem d_Fa_halved_7 : decode prog_3_method_3_code 7 = .ok (.ireturn, 1) := by decide +kernel
theorem d_Fa_halved_8 : decode prog_3_method_3_code 8 = .ok (.iload_n 3, 1) := by decide +kernel
theorem d_Fa_halved_9 : decode prog_3_method_3_code 9 = .ok (.i2d, 1) := by decide +kernel
theorem d_Fa_halved_10 : decode prog_3_method_3_code 10 = .ok (.ldc2_w 33, 3) := by decide +kernel
theorem d_Fa_halved_13 : decode prog_3_method_3_code 13 = .ok (.ddiv, 1) := by decide +kernel
theorem d_Fa_halved_14 : decode prog_3_method_3_code 14 = .ok (.dstore 4, 2) := by decide +kernel
theorem d_Fa_halved_16 : decode prog_3_method_3_code 16 = .ok (.iconst 0, 1) := by decide +kernel
theorem d_Fa_halved_17 : decode prog_3_method_3_code 17 = .ok (.istore 6, 2) := by decide +kernel
theorem d_Fa_halved_19 : decode prog_3_method_3_code 19 = .ok (.ldc 22, 2) := by decide +kernel
theorem d_Fa_halved_21 : decode prog_3_method_3_code 21 = .ok (.istore 7, 2) := by decide +kernel
theorem d_Fa_halved_23 : decode prog_3_method_3_code 23 = .ok (.iconst 0, 1) := by decide +kernel
theorem d_Fa_halved_24 : decode prog_3_method_3_code 24 = .ok (.istore 8, 2) := by decide +kernel
theorem d_Fa_halved_26 : decode prog_3_method_3_code 26 = .ok (.iload 8, 2) := by decide +kernel
theorem d_Fa_halved_28 : decode prog_3_method_3_code 28 = .ok (.bipush 60, 2) := by decide +kernel
theorem d_Fa_halved_30 : decode prog_3_method_3_code 30 = .ok (.if_icmp .ge 51, 3) := by decide +kernel
theorem d_Fa_halved_33 : decode prog_3_method_3_code 33 = .ok (.iload 7, 2) := by decide +kernel
theorem d_Fa_halved_35 : decode prog_3_method_3_code 35 = .ok (.iload 6, 2) := by decide +kernel
theorem d_Fa_halved_37 : decode prog_3_method_3_code 37 = .ok (.isub, 1) := by decide +kernel
theorem d_Fa_halved_38 : decode prog_3_method_3_code 38 = .ok (.iconst 1, 1) := by decide +kernel
theorem d_Fa_halved_39 : decode prog_3_method_3_code 39 = .ok (.if_icmp .le 42, 3) := by decide +kernel
theorem d_Fa_halved_42 : decode prog_3_method_3_code 42 = .ok (.iload 6, 2) := by decide +kernel
theorem d_Fa_halved_44 : decode prog_3_method_3_code 44 = .ok (.iload 7, 2) := by decide +kernel
theorem d_Fa_halved_46 : decode prog_3_method_3_code 46 = .ok (.iadd, 1) := by decide +kernel
theorem d_Fa_halved_47 : decode prog_3_method_3_code 47 = .ok (.iconst 2, 1) := by decide +kernel
theorem d_Fa_halved_48 : decode prog_3_method_3_code 48 = .ok (.idiv, 1) := by decide +kernel
theorem d_Fa_halved_49 : decode prog_3_method_3_code 49 = .ok (.istore 9, 2) := by decide +kernel
theorem d_Fa_halved_51 : decode prog_3_method_3_code 51 = .ok (.aload_n 0, 1) := by decide +kernel
theorem d_Fa_halved_52 : decode prog_3_method_3_code 52 = .ok (.dload 4, 2) := by decide +kernel
theorem d_Fa_halved_54 : decode prog_3_method_3_code 54 = .ok (.iload_n 1, 1) := by decide +kernel
theorem d_Fa_halved_55 : decode prog_3_method_3_code 55 = .ok (.iload_n 2, 1) := by decide +kernel
theorem d_Fa_halved_56 : decode prog_3_method_3_code 56 = .ok (.iload 9, 2) := by decide +kernel
theorem d_Fa_halved_58 : decode prog_3_method_3_code 58 = .ok (.invokevirtual 35, 3) := by decide +kernel
theorem d_Fa_halved_61 : decode prog_3_method_3_code 61 = .ok (.ifCond .eq 10, 3) := by decide +kernel
theorem d_Fa_halved_64 : decode prog_3_method_3_code 64 = .ok (.iload 9, 2) := by decide +kernel
theorem d_Fa_halved_66 : decode prog_3_method_3_code 66 = .ok (.istore 7, 2) := by decide +kernel
theorem d_Fa_halved_68 : decode prog_3_method_3_code 68 = .ok (.goto 7, 3) := by decide +kernel
theorem d_Fa_halved_71 : decode prog_3_method_3_code 71 = .ok (.iload 9, 2) := by decide +kernel
theorem d_Fa_halved_73 : decode prog_3_method_3_code 73 = .ok (.istore 6, 2) := by decide +kernel
theorem d_Fa_halved_75 : decode prog_3_method_3_code 75 = .ok (.iinc 8 1, 3) := by decide +kernel
theorem d_Fa_halved_78 : decode prog_3_method_3_code 78 = .ok (.goto (-52), 3) := by decide +kernel
theorem d_Fa_halved_81 : decode prog_3_method_3_code 81 = .ok (.iload 7, 2) := by decide +kernel
theorem d_Fa_halved_83 : decode prog_3_method_3_code 83 = .ok (.ireturn, 1) := by decide +kernel
theorem d_Fa_isWithin_0 : decode prog_3_method_4_code 0 = .ok (.iload 5, 2) := by decide +kernel
theorem d_Fa_isWithin_2 : decode prog_3_method_4_code 2 = .ok (.i2d, 1) := by decide +kernel
theorem d_Fa_isWithin_3 : decode prog_3_method_4_code 3 = .ok (.ldc2_w 39, 3) := by decide +kernel
theorem d_Fa_isWithin_6 : decode prog_3_method_4_code 6 = .ok (.ddiv, 1) := by decide +kernel
theorem d_Fa_isWithin_7 : decode prog_3_method_4_code 7 = .ok (.dstore 6, 2) := by decide +kernel
theorem d_Fa_isWithin_9 : decode prog_3_method_4_code 9 = .ok (.dconst 1, 1) := by decide +kernel
theorem d_Fa_isWithin_10 : decode prog_3_method_4_code 10 = .ok (.dload 6, 2) := by decide +kernel
theorem d_Fa_isWithin_12 : decode prog_3_method_4_code 12 = .ok (.dsub, 1) := by decide +kernel
theorem d_Fa_isWithin_13 : decode prog_3_method_4_code 13 = .ok (.dstore 8, 2) := by decide +kernel
theorem d_Fa_isWithin_15 : decode prog_3_method_4_code 15 = .ok (.dload 8, 2) := by decide +kernel
theorem d_Fa_isWithin_17 : decode prog_3_method_4_code 17 = .ok (.dconst 0, 1) := by decide +kernel
theorem d_Fa_isWithin_18 : decode prog_3_method_4_code 18 = .ok (.dcmp .g, 1) := by decide +kernel
theorem d_Fa_isWithin_19 : decode prog_3_method_4_code 19 = .ok (.ifCond .gt 5, 3) := by decide +kernel
theorem d_Fa_isWithin_22 : decode prog_3_method_4_code 22 = .ok (.iconst 1, 1) := by decide +kernel
theorem d_Fa_isWithin_23 : decode prog_3_method_4_code 23 = .ok (.ireturn, 1) := by decide +kernel
theorem d_Fa_isWithin_24 : decode prog_3_method_4_code 24 = .ok (.dconst 1, 1) := by decide +kernel
theorem d_Fa_isWithin_25 : decode prog_3_method_4_code 25 = .ok (.dstore 10, 2) := by decide +kernel
theorem d_Fa_isWithin_27 : decode prog_3_method_4_code 27 = .ok (.iconst 0, 1) := by decide +kernel
theorem d_Fa_isWithin_28 : decode prog_3_method_4_code 28 = .ok (.istore 12, 2) := by decide +kernel
theorem d_Fa_isWithin_30 : decode prog_3_method_4_code 30 = .ok (.iload 12, 2) := by decide +kernel
theorem d_Fa_isWithin_32 : decode prog_3_method_4_code 32 = .ok (.iload_n 3, 1) := by decide +kernel
theorem d_Fa_isWithin_33 : decode prog_3_method_4_code 33 = .ok (.if_icmp .ge 16, 3) := by decide +kernel
theorem d_Fa_isWithin_36 : decode prog_3_method_4_code 36 = .ok (.dload 10, 2) := by decide +kernel
theorem d_Fa_isWithin_38 : decode prog_3_method_4_code 38 = .ok (.dload 8, 2) := by decide +kernel
theorem d_Fa_isWithin_40 : decode prog_3_method_4_code 40 = .ok (.dmul, 1) := by decide +kernel
theorem d_Fa_isWithin_41 : decode prog_3_method_4_code 41 = .ok (.dstore 10, 2) := by decide +kernel
theorem d_Fa_isWithin_43 : decode prog_3_method_4_code 43 = .ok (.iinc 12 1, 3) := by decide +kernel
theorem d_Fa_isWithin_46 : decode prog_3_method_4_code 46 = .ok (.goto (-16), 3) := by decide +kernel
theorem d_Fa_isWithin_49 : decode prog_3_method_4_code 49 = .ok (.dload 10, 2) := by decide +kernel
theorem d_Fa_isWithin_51 : decode prog_3_method_4_code 51 = .ok (.dstore 12, 2) := by decide +kernel
theorem d_Fa_isWithin_53 : decode prog_3_method_4_code 53 = .ok (.iconst 1, 1) := by decide +kernel
theorem d_Fa_isWithin_54 : decode prog_3_method_4_code 54 = .ok (.istore 14, 2) := by decide +kernel
theorem d_Fa_isWithin_56 : decode prog_3_method_4_code 56 = .ok (.iload 14, 2) := by decide +kernel
theorem d_Fa_isWithin_58 : decode prog_3_method_4_code 58 = .ok (.iload 4, 2) := by decide +kernel
theorem d_Fa_isWithin_60 : decode prog_3_method_4_code 60 = .ok (.if_icmp .gt 45, 3) := by decide +kernel
theorem d_Fa_isWithin_63 : decode prog_3_method_4_code 63 = .ok (.dload 12, 2) := by decide +kernel
theorem d_Fa_isWithin_65 : decode prog_3_method_4_code 65 = .ok (.dload_n 1, 1) := by decide +kernel
theorem d_Fa_isWithin_66 : decode prog_3_method_4_code 66 = .ok (.dcmp .g, 1) := by decide +kernel
theorem d_Fa_isWithin_67 : decode prog_3_method_4_code 67 = .ok (.ifCond .gt 38, 3) := by decide +kernel
theorem d_Fa_isWithin_70 : decode prog_3_method_4_code 70 = .ok (.dload 10, 2) := by decide +kernel
theorem d_Fa_isWithin_72 : decode prog_3_method_4_code 72 = .ok (.iload_n 3, 1) := by decide +kernel
theorem d_Fa_isWithin_73 : decode prog_3_method_4_code 73 = .ok (.iload 14, 2) := by decide +kernel
theorem d_Fa_isWithin_75 : decode prog_3_method_4_code 75 = .ok (.isub, 1) := by decide +kernel
theorem d_Fa_isWithin_76 : decode prog_3_method_4_code 76 = .ok (.iconst 1, 1) := by decide +kernel
theorem d_Fa_isWithin_77 : decode prog_3_method_4_code 77 = .ok (.iadd, 1) := by decide +kernel
theorem d_Fa_isWithin_78 : decode prog_3_method_4_code 78 = .ok (.i2d, 1) := by decide +kernel
theorem d_Fa_isWithin_79 : decode prog_3_method_4_code 79 = .ok (.dmul, 1) := by decide +kernel
theorem d_Fa_isWithin_80 : decode prog_3_method_4_code 80 = .ok (.iload 14, 2) := by decide +kernel
theorem d_Fa_isWithin_82 : decode prog_3_method_4_code 82 = .ok (.i2d, 1) := by decide +kernel
theorem d_Fa_isWithin_83 : decode prog_3_method_4_code 83 = .ok (.ddiv, 1) := by decide +kernel
theorem d_Fa_isWithin_84 : decode prog_3_method_4_code 84 = .ok (.dload 6, 2) := by decide +kernel
theorem d_Fa_isWithin_86 : decode prog_3_method_4_code 86 = .ok (.dmul, 1) := by decide +kernel
theorem d_Fa_isWithin_87 : decode prog_3_method_4_code 87 = .ok (.dload 8, 2) := by decide +kernel
theorem d_Fa_isWithin_89 : decode prog_3_method_4_code 89 = .ok (.ddiv, 1) := by decide +kernel
theorem d_Fa_isWithin_90 : decode prog_3_method_4_code 90 = .ok (.dstore 10, 2) := by decide +kernel
theorem d_Fa_isWithin_92 : decode prog_3_method_4_code 92 = .ok (.dload 12, 2) := by decide +kernel
theorem d_Fa_isWithin_94 : decode prog_3_method_4_code 94 = .ok (.dload 10, 2) := by decide +kernel
theorem d_Fa_isWithin_96 : decode prog_3_method_4_code 96 = .ok (.dadd, 1) := by decide +kernel
theorem d_Fa_isWithin_97 : decode prog_3_method_4_code 97 = .ok (.dstore 12, 2) := by decide +kernel
theorem d_Fa_isWithin_99 : decode prog_3_method_4_code 99 = .ok (.iinc 14 1, 3) := by decide +kernel
theorem d_Fa_isWithin_102 : decode prog_3_method_4_code 102 = .ok (.goto (-46), 3) := by decide +kernel
theorem d_Fa_isWithin_105 : decode prog_3_method_4_code 105 = .ok (.dload 12, 2) := by decide +kernel
theorem d_Fa_isWithin_107 : decode prog_3_method_4_code 107 = .ok (.dload_n 1, 1) := by decide +kernel
theorem d_Fa_isWithin_108 : decode prog_3_method_4_code 108 = .ok (.dcmp .g, 1) := by decide +kernel
theorem d_Fa_isWithin_109 : decode prog_3_method_4_code 109 = .ok (.ifCond .gt 7, 3) := by decide +kernel
theorem d_Fa_isWithin_112 : decode prog_3_method_4_code 112 = .ok (.iconst 1, 1) := by decide +kernel
theorem d_Fa_isWithin_113 : decode prog_3_method_4_code 113 = .ok (.goto 4, 3) := by decide +kernel
theorem d_Fa_isWithin_116 : decode prog_3_method_4_code 116 = .ok (.iconst 0, 1) := by decide +kernel
theorem d_Fa_isWithin_117 : decode prog_3_method_4_code 117 = .ok (.ireturn, 1) := by decide +kernel
theorem d_Fa_leastN_0 : decode prog_3_method_5_code 0 = .ok (.iconst 0, 1) := by decide +kernel
theorem d_Fa_leastN_1 : decode prog_3_method_5_code 1 = .ok (.istore 5, 2) := by decide +kernel
theorem d_Fa_leastN_3 : decode prog_3_method_5_code 3 = .ok (.sipush 401, 3) := by decide +kernel
theorem d_Fa_leastN_6 : decode prog_3_method_5_code 6 = .ok (.istore 6, 2) := by decide +kernel
theorem d_Fa_leastN_8 : decode prog_3_method_5_code 8 = .ok (.iconst 0, 1) := by decide +kernel
theorem d_Fa_leastN_9 : decode prog_3_method_5_code 9 = .ok (.istore 7, 2) := by decide +kernel
theorem d_Fa_leastN_11 : decode prog_3_method_5_code 11 = .ok (.iload 7, 2) := by decide +kernel
theorem d_Fa_leastN_13 : decode prog_3_method_5_code 13 = .ok (.bipush 60, 2) := by decide +kernel
theorem d_Fa_leastN_15 : decode prog_3_method_5_code 15 = .ok (.if_icmp .ge 61, 3) := by decide +kernel
theorem d_Fa_leastN_18 : decode prog_3_method_5_code 18 = .ok (.iload 6, 2) := by decide +kernel
theorem d_Fa_leastN_20 : decode prog_3_method_5_code 20 = .ok (.iload 5, 2) := by decide +kernel
theorem d_Fa_leastN_22 : decode prog_3_method_5_code 22 = .ok (.isub, 1) := by decide +kernel
theorem d_Fa_leastN_23 : decode prog_3_method_5_code 23 = .ok (.iconst 1, 1) := by decide +kernel
theorem d_Fa_leastN_24 : decode prog_3_method_5_code 24 = .ok (.if_icmp .le 52, 3) := by decide +kernel
theorem d_Fa_leastN_27 : decode prog_3_method_5_code 27 = .ok (.iload 5, 2) := by decide +kernel
theorem d_Fa_leastN_29 : decode prog_3_method_5_code 29 = .ok (.iload 6, 2) := by decide +kernel
theorem d_Fa_leastN_31 : decode prog_3_method_5_code 31 = .ok (.iadd, 1) := by decide +kernel
theorem d_Fa_leastN_32 : decode prog_3_method_5_code 32 = .ok (.iconst 2, 1) := by decide +kernel
theorem d_Fa_leastN_33 : decode prog_3_method_5_code 33 = .ok (.idiv, 1) := by decide +kernel
theorem d_Fa_leastN_34 : decode prog_3_method_5_code 34 = .ok (.istore 8, 2) := by decide +kernel
theorem d_Fa_leastN_36 : decode prog_3_method_5_code 36 = .ok (.iload_n 1, 1) := by decide +kernel
theorem d_Fa_leastN_37 : decode prog_3_method_5_code 37 = .ok (.i2l, 1) := by decide +kernel
theorem d_Fa_leastN_38 : decode prog_3_method_5_code 38 = .ok (.aload_n 0, 1) := by decide +kernel
theorem d_Fa_leastN_39 : decode prog_3_method_5_code 39 = .ok (.iload 8, 2) := by decide +kernel
theorem d_Fa_leastN_41 : decode prog_3_method_5_code 41 = .ok (.iload_n 3, 1) := by decide +kernel
theorem d_Fa_leastN_42 : decode prog_3_method_5_code 42 = .ok (.iload 4, 2) := by decide +kernel
theorem d_Fa_leastN_44 : decode prog_3_method_5_code 44 = .ok (.invokevirtual 29, 3) := by decide +kernel
theorem d_Fa_leastN_47 : decode prog_3_method_5_code 47 = .ok (.i2l, 1) := by decide +kernel
theorem d_Fa_leastN_48 : decode prog_3_method_5_code 48 = .ok (.lmul, 1) := by decide +kernel
theorem d_Fa_leastN_49 : decode prog_3_method_5_code 49 = .ok (.ldc2_w 41, 3) := by decide +kernel
theorem d_Fa_leastN_52 : decode prog_3_method_5_code 52 = .ok (.ldiv, 1) := by decide +kernel
theorem d_Fa_leastN_53 : decode prog_3_method_5_code 53 = .ok (.iload_n 2, 1) := by decide +kernel
theorem d_Fa_leastN_54 : decode prog_3_method_5_code 54 = .ok (.i2l, 1) := by decide +kernel
theorem d_Fa_leastN_55 : decode prog_3_method_5_code 55 = .ok (.lcmp, 1) := by decide +kernel
theorem d_Fa_leastN_56 : decode prog_3_method_5_code 56 = .ok (.ifCond .gt 10, 3) := by decide +kernel
theorem d_Fa_leastN_59 : decode prog_3_method_5_code 59 = .ok (.iload 8, 2) := by decide +kernel
theorem d_Fa_leastN_61 : decode prog_3_method_5_code 61 = .ok (.istore 6, 2) := by decide +kernel
theorem d_Fa_leastN_63 : decode prog_3_method_5_code 63 = .ok (.goto 7, 3) := by decide +kernel
theorem d_Fa_leastN_66 : decode prog_3_method_5_code 66 = .ok (.iload 8, 2) := by decide +kernel
theorem d_Fa_leastN_68 : decode prog_3_method_5_code 68 = .ok (.istore 5, 2) := by decide +kernel
theorem d_Fa_leastN_70 : decode prog_3_method_5_code 70 = .ok (.iinc 7 1, 3) := by decide +kernel
theorem d_Fa_leastN_73 : decode prog_3_method_5_code 73 = .ok (.goto (-62), 3) := by decide +kernel
theorem d_Fa_leastN_76 : decode prog_3_method_5_code 76 = .ok (.iload 6, 2) := by decide +kernel
theorem d_Fa_leastN_78 : decode prog_3_method_5_code 78 = .ok (.sipush 400, 3) := by decide +kernel
theorem d_Fa_leastN_81 : decode prog_3_method_5_code 81 = .ok (.if_icmp .le 7, 3) := by decide +kernel
theorem d_Fa_leastN_84 : decode prog_3_method_5_code 84 = .ok (.iconst (-1), 1) := by decide +kernel
theorem d_Fa_leastN_85 : decode prog_3_method_5_code 85 = .ok (.goto 5, 3) := by decide +kernel
theorem d_Fa_leastN_88 : decode prog_3_method_5_code 88 = .ok (.iload 6, 2) := by decide +kernel
theorem d_Fa_leastN_90 : decode prog_3_method_5_code 90 = .ok (.ireturn, 1) := by decide +kernel
theorem d_La_init_0 : decode prog_4_method_1_code 0 = .ok (.aload_n 0, 1) := by decide +kernel
theorem d_La_init_1 : decode prog_4_method_1_code 1 = .ok (.invokespecial 3, 3) := by decide +kernel
theorem d_La_init_4 : decode prog_4_method_1_code 4 = .ok (.aload_n 0, 1) := by decide +kernel
theorem d_La_init_5 : decode prog_4_method_1_code 5 = .ok (.bipush 48, 2) := by decide +kernel
theorem d_La_init_7 : decode prog_4_method_1_code 7 = .ok (.newarray .int, 2) := by decide +kernel
theorem d_La_init_9 : decode prog_4_method_1_code 9 = .ok (.putfield 9, 3) := by decide +kernel
theorem d_La_init_12 : decode prog_4_method_1_code 12 = .ok (.aload_n 0, 1) := by decide +kernel
theorem d_La_init_13 : decode prog_4_method_1_code 13 = .ok (.bipush 48, 2) := by decide +kernel
theorem d_La_init_15 : decode prog_4_method_1_code 15 = .ok (.newarray .int, 2) := by decide +kernel
theorem d_La_init_17 : decode prog_4_method_1_code 17 = .ok (.putfield 15, 3) := by decide +kernel
theorem d_La_init_20 : decode prog_4_method_1_code 20 = .ok (.aload_n 0, 1) := by decide +kernel
theorem d_La_init_21 : decode prog_4_method_1_code 21 = .ok (.aload_n 1, 1) := by decide +kernel
theorem d_La_init_22 : decode prog_4_method_1_code 22 = .ok (.putfield 18, 3) := by decide +kernel
theorem d_La_init_25 : decode prog_4_method_1_code 25 = .ok (.return_, 1) := by decide +kernel
theorem d_La_lay_0 : decode prog_4_method_2_code 0 = .ok (.aload_n 0, 1) := by decide +kernel
theorem d_La_lay_1 : decode prog_4_method_2_code 1 = .ok (.iload_n 1, 1) := by decide +kernel
theorem d_La_lay_2 : decode prog_4_method_2_code 2 = .ok (.putfield 22, 3) := by decide +kernel
theorem d_La_lay_5 : decode prog_4_method_2_code 5 = .ok (.aload_n 0, 1) := by decide +kernel
theorem d_La_lay_6 : decode prog_4_method_2_code 6 = .ok (.iconst 0, 1) := by decide +kernel
theorem d_La_lay_7 : decode prog_4_method_2_code 7 = .ok (.putfield 26, 3) := by decide +kernel
theorem d_La_lay_10 : decode prog_4_method_2_code 10 = .ok (.aload_n 0, 1) := by decide +kernel
theorem d_La_lay_11 : decode prog_4_method_2_code 11 = .ok (.iconst 0, 1) := by decide +kernel
theorem d_La_lay_12 : decode prog_4_method_2_code 12 = .ok (.putfield 29, 3) := by decide +kernel
theorem d_La_lay_15 : decode prog_4_method_2_code 15 = .ok (.iconst 0, 1) := by decide +kernel
theorem d_La_lay_16 : decode prog_4_method_2_code 16 = .ok (.istore_n 2, 1) := by decide +kernel
theorem d_La_lay_17 : decode prog_4_method_2_code 17 = .ok (.iload_n 2, 1) := by decide +kernel
theorem d_La_lay_18 : decode prog_4_method_2_code 18 = .ok (.aload_n 0, 1) := by decide +kernel
theorem d_La_lay_19 : decode prog_4_method_2_code 19 = .ok (.getfield 18, 3) := by decide +kernel
theorem d_La_lay_22 : decode prog_4_method_2_code 22 = .ok (.getfield 32, 3) := by decide +kernel
theorem d_La_lay_25 : decode prog_4_method_2_code 25 = .ok (.if_icmp .ge 94, 3) := by decide +kernel
theorem d_La_lay_28 : decode prog_4_method_2_code 28 = .ok (.aload_n 0, 1) := by decide +kernel
theorem d_La_lay_29 : decode prog_4_method_2_code 29 = .ok (.getfield 9, 3) := by decide +kernel
theorem d_La_lay_32 : decode prog_4_method_2_code 32 = .ok (.iload_n 2, 1) := by decide +kernel
theorem d_La_lay_33 : decode prog_4_method_2_code 33 = .ok (.iconst 0, 1) := by decide +kernel
theorem d_La_lay_34 : decode prog_4_method_2_code 34 = .ok (.iastore, 1) := by decide +kernel
theorem d_La_lay_35 : decode prog_4_method_2_code 35 = .ok (.aload_n 0, 1) := by decide +kernel
theorem d_La_lay_36 : decode prog_4_method_2_code 36 = .ok (.getfield 15, 3) := by decide +kernel
theorem d_La_lay_39 : decode prog_4_method_2_code 39 = .ok (.iload_n 2, 1) := by decide +kernel
theorem d_La_lay_40 : decode prog_4_method_2_code 40 = .ok (.iconst 0, 1) := by decide +kernel
theorem d_La_lay_41 : decode prog_4_method_2_code 41 = .ok (.iastore, 1) := by decide +kernel
theorem d_La_lay_42 : decode prog_4_method_2_code 42 = .ok (.aload_n 0, 1) := by decide +kernel
theorem d_La_lay_43 : decode prog_4_method_2_code 43 = .ok (.iload_n 2, 1) := by decide +kernel
theorem d_La_lay_44 : decode prog_4_method_2_code 44 = .ok (.invokevirtual 37, 3) := by decide +kernel
theorem d_La_lay_47 : decode prog_4_method_2_code 47 = .ok (.ifCond .eq 16, 3) := by decide +kernel
theorem d_La_lay_50 : decode prog_4_method_2_code 50 = .ok (.aload_n 0, 1) := by decide +kernel
theorem d_La_lay_51 : decode prog_4_method_2_code 51 = .ok (.dup, 1) := by decide +kernel
theorem d_La_lay_52 : decode prog_4_method_2_code 52 = .ok (.getfield 29, 3) := by decide +kernel
theorem d_La_lay_55 : decode prog_4_method_2_code 55 = .ok (.iconst 1, 1) := by decide +kernel
theorem d_La_lay_56 : decode prog_4_method_2_code 56 = .ok (.iadd, 1) := by decide +kernel
theorem d_La_lay_57 : decode prog_4_method_2_code 57 = .ok (.putfield 29, 3) := by decide +kernel
theorem d_La_lay_60 : decode prog_4_method_2_code 60 = .ok (.goto 53, 3) := by decide +kernel
theorem d_La_lay_63 : decode prog_4_method_2_code 63 = .ok (.aload_n 0, 1) := by decide +kernel
theorem d_La_lay_64 : decode prog_4_method_2_code 64 = .ok (.getfield 18, 3) := by decide +kernel
theorem d_La_lay_67 : decode prog_4_method_2_code 67 = .ok (.iload_n 2, 1) := by decide +kernel
theorem d_La_lay_68 : decode prog_4_method_2_code 68 = .ok (.invokevirtual 41, 3) := by decide +kernel
theorem d_La_lay_71 : decode prog_4_method_2_code 71 = .ok (.ifCond .le 42, 3) := by decide +kernel
theorem d_La_lay_74 : decode prog_4_method_2_code 74 = .ok (.aload_n 0, 1) := by decide +kernel
theorem d_La_lay_75 : decode prog_4_method_2_code 75 = .ok (.getfield 9, 3) := by decide +kernel
theorem d_La_lay_78 : decode prog_4_method_2_code 78 = .ok (.iload_n 2, 1) := by decide +kernel
theorem d_La_lay_79 : decode prog_4_method_2_code 79 = .ok (.aload_n 0, 1) := by decide +kernel
theorem d_La_lay_80 : decode prog_4_method_2_code 80 = .ok (.getfield 26, 3) := by decide +kernel
theorem d_La_lay_83 : decode prog_4_method_2_code 83 = .ok (.iconst 1, 1) := by decide +kernel
theorem d_La_lay_84 : decode prog_4_method_2_code 84 = .ok (.iadd, 1) := by decide +kernel
theorem d_La_lay_85 : decode prog_4_method_2_code 85 = .ok (.iastore, 1) := by decide +kernel
theorem d_La_lay_86 : decode prog_4_method_2_code 86 = .ok (.aload_n 0, 1) := by decide +kernel
theorem d_La_lay_87 : decode prog_4_method_2_code 87 = .ok (.dup, 1) := by decide +kernel
theorem d_La_lay_88 : decode prog_4_method_2_code 88 = .ok (.getfield 26, 3) := by decide +kernel
theorem d_La_lay_91 : decode prog_4_method_2_code 91 = .ok (.aload_n 0, 1) := by decide +kernel
theorem d_La_lay_92 : decode prog_4_method_2_code 92 = .ok (.getfield 18, 3) := by decide +kernel
theorem d_La_lay_95 : decode prog_4_method_2_code 95 = .ok (.iload_n 2, 1) := by decide +kernel
theorem d_La_lay_96 : decode prog_4_method_2_code 96 = .ok (.invokevirtual 41, 3) := by decide +kernel
theorem d_La_lay_99 : decode prog_4_method_2_code 99 = .ok (.iadd, 1) := by decide +kernel
theorem d_La_lay_100 : decode prog_4_method_2_code 100 = .ok (.putfield 26, 3) := by decide +kernel
theorem d_La_lay_103 : decode prog_4_method_2_code 103 = .ok (.aload_n 0, 1) := by decide +kernel
theorem d_La_lay_104 : decode prog_4_method_2_code 104 = .ok (.getfield 15, 3) := by decide +kernel
theorem d_La_lay_107 : decode prog_4_method_2_code 107 = .ok (.iload_n 2, 1) := by decide +kernel
theorem d_La_lay_108 : decode prog_4_method_2_code 108 = .ok (.aload_n 0, 1) := by decide +kernel
theorem d_La_lay_109 : decode prog_4_method_2_code 109 = .ok (.getfield 26, 3) := by decide +kernel
theorem d_La_lay_112 : decode prog_4_method_2_code 112 = .ok (.iastore, 1) := by decide +kernel
theorem d_La_lay_113 : decode prog_4_method_2_code 113 = .ok (.iinc 2 1, 3) := by decide +kernel
theorem d_La_lay_116 : decode prog_4_method_2_code 116 = .ok (.goto (-99), 3) := by decide +kernel
theorem d_La_lay_119 : decode prog_4_method_2_code 119 = .ok (.return_, 1) := by decide +kernel
theorem d_La_isCertain_0 : decode prog_4_method_3_code 0 = .ok (.aload_n 0, 1) := by decide +kernel
theorem d_La_isCertain_1 : decode prog_4_method_3_code 1 = .ok (.getfield 22, 3) := by decide +kernel
theorem d_La_isCertain_4 : decode prog_4_method_3_code 4 = .ok (.ifCond .le 22, 3) := by decide +kernel
theorem d_La_isCertain_7 : decode prog_4_method_3_code 7 = .ok (.aload_n 0, 1) := by decide +kernel
theorem d_La_isCertain_8 : decode prog_4_method_3_code 8 = .ok (.getfield 18, 3) := by decide +kernel
theorem d_La_isCertain_11 : decode prog_4_method_3_code 11 = .ok (.iload_n 1, 1) := by decide +kernel
theorem d_La_isCertain_12 : decode prog_4_method_3_code 12 = .ok (.invokevirtual 41, 3) := by decide +kernel
theorem d_La_isCertain_15 : decode prog_4_method_3_code 15 = .ok (.aload_n 0, 1) := by decide +kernel
theorem d_La_isCertain_16 : decode prog_4_method_3_code 16 = .ok (.getfield 22, 3) := by decide +kernel
theorem d_La_isCertain_19 : decode prog_4_method_3_code 19 = .ok (.if_icmp .lt 7, 3) := by decide +kernel
theorem d_La_isCertain_22 : decode prog_4_method_3_code 22 = .ok (.iconst 1, 1) := by decide +kernel
theorem d_La_isCertain_23 : decode prog_4_method_3_code 23 = .ok (.goto 4, 3) := by decide +kernel
theorem d_La_isCertain_26 : decode prog_4_method_3_code 26 = .ok (.iconst 0, 1) := by decide +kernel
theorem d_La_isCertain_27 : decode prog_4_method_3_code 27 = .ok (.ireturn, 1) := by decide +kernel
theorem d_La_firstCoin_0 : decode prog_4_method_4_code 0 = .ok (.aload_n 0, 1) := by decide +kernel
theorem d_La_firstCoin_1 : decode prog_4_method_4_code 1 = .ok (.getfield 18, 3) := by decide +kernel
theorem d_La_firstCoin_4 : decode prog_4_method_4_code 4 = .ok (.iload_n 1, 1) := by decide +kernel
theorem d_La_firstCoin_5 : decode prog_4_method_4_code 5 = .ok (.invokevirtual 45, 3) := by decide +kernel
theorem d_La_firstCoin_8 : decode prog_4_method_4_code 8 = .ok (.ifCond .eq 12, 3) := by decide +kernel
theorem d_La_firstCoin_11 : decode prog_4_method_4_code 11 = .ok (.aload_n 0, 1) := by decide +kernel
theorem d_La_firstCoin_12 : decode prog_4_method_4_code 12 = .ok (.getfield 9, 3) := by decide +kernel
theorem d_La_firstCoin_15 : decode prog_4_method_4_code 15 = .ok (.iload_n 1, 1) := by decide +kernel
theorem d_La_firstCoin_16 : decode prog_4_method_4_code 16 = .ok (.iaload, 1) := by decide +kernel
theorem d_La_firstCoin_17 : decode prog_4_method_4_code 17 = .ok (.goto 4, 3) := by decide +kernel
theorem d_La_firstCoin_20 : decode prog_4_method_4_code 20 = .ok (.iconst 0, 1) := by decide +kernel
theorem d_La_firstCoin_21 : decode prog_4_method_4_code 21 = .ok (.ireturn, 1) := by decide +kernel
theorem d_La_lastCoin_0 : decode prog_4_method_5_code 0 = .ok (.aload_n 0, 1) := by decide +kernel
theorem d_La_lastCoin_1 : decode prog_4_method_5_code 1 = .ok (.getfield 18, 3) := by decide +kernel
theorem d_La_lastCoin_4 : decode prog_4_method_5_code 4 = .ok (.iload_n 1, 1) := by decide +kernel
theorem d_La_lastCoin_5 : decode prog_4_method_5_code 5 = .ok (.invokevirtual 45, 3) := by decide +kernel
theorem d_La_lastCoin_8 : decode prog_4_method_5_code 8 = .ok (.ifCond .eq 12, 3) := by decide +kernel
theorem d_La_lastCoin_11 : decode prog_4_method_5_code 11 = .ok (.aload_n 0, 1) := by decide +kernel
theorem d_La_lastCoin_12 : decode prog_4_method_5_code 12 = .ok (.getfield 15, 3) := by decide +kernel
theorem d_La_lastCoin_15 : decode prog_4_method_5_code 15 = .ok (.iload_n 1, 1) := by decide +kernel
theorem d_La_lastCoin_16 : decode prog_4_method_5_code 16 = .ok (.iaload, 1) := by decide +kernel
theorem d_La_lastCoin_17 : decode prog_4_method_5_code 17 = .ok (.goto 4, 3) := by decide +kernel
theorem d_La_lastCoin_20 : decode prog_4_method_5_code 20 = .ok (.iconst 0, 1) := by decide +kernel
theorem d_La_lastCoin_21 : decode prog_4_method_5_code 21 = .ok (.ireturn, 1) := by decide +kernel
theorem d_La_ownerOf_0 : decode prog_4_method_6_code 0 = .ok (.iconst 0, 1) := by decide +kernel
theorem d_La_ownerOf_1 : decode prog_4_method_6_code 1 = .ok (.istore_n 2, 1) := by decide +kernel
theorem d_La_ownerOf_2 : decode prog_4_method_6_code 2 = .ok (.iload_n 2, 1) := by decide +kernel
theorem d_La_ownerOf_3 : decode prog_4_method_6_code 3 = .ok (.aload_n 0, 1) := by decide +kernel
theorem d_La_ownerOf_4 : decode prog_4_method_6_code 4 = .ok (.getfield 18, 3) := by decide +kernel
theorem d_La_ownerOf_7 : decode prog_4_method_6_code 7 = .ok (.getfield 32, 3) := by decide +kernel
theorem d_La_ownerOf_10 : decode prog_4_method_6_code 10 = .ok (.if_icmp .ge 40, 3) := by decide +kernel
theorem d_La_ownerOf_13 : decode prog_4_method_6_code 13 = .ok (.aload_n 0, 1) := by decide +kernel
theorem d_La_ownerOf_14 : decode prog_4_method_6_code 14 = .ok (.getfield 9, 3) := by decide +kernel
theorem d_La_ownerOf_17 : decode prog_4_method_6_code 17 = .ok (.iload_n 2, 1) := by decide +kernel
theorem d_La_ownerOf_18 : decode prog_4_method_6_code 18 = .ok (.iaload, 1) := by decide +kernel
theorem d_La_ownerOf_19 : decode prog_4_method_6_code 19 = .ok (.ifCond .le 25, 3) := by decide +kernel
theorem d_La_ownerOf_22 : decode prog_4_method_6_code 22 = .ok (.iload_n 1, 1) := by decide +kernel
theorem d_La_ownerOf_23 : decode prog_4_method_6_code 23 = .ok (.aload_n 0, 1) := by decide +kernel
theorem d_La_ownerOf_24 : decode prog_4_method_6_code 24 = .ok (.getfield 9, 3) := by decide +kernel
theorem d_La_ownerOf_27 : decode prog_4_method_6_code 27 = .ok (.iload_n 2, 1) := by decide +kernel
theorem d_La_ownerOf_28 : decode prog_4_method_6_code 28 = .ok (.iaload, 1) := by decide +kernel
theorem d_La_ownerOf_29 : decode prog_4_method_6_code 29 = .ok (.if_icmp .lt 15, 3) := by decide +kernel
theorem d_La_ownerOf_32 : decode prog_4_method_6_code 32 = .ok (.iload_n 1, 1) := by decide +kernel
theorem d_La_ownerOf_33 : decode prog_4_method_6_code 33 = .ok (.aload_n 0, 1) := by decide +kernel
theorem d_La_ownerOf_34 : decode prog_4_method_6_code 34 = .ok (.getfield 15, 3) := by decide +kernel
theorem d_La_ownerOf_37 : decode prog_4_method_6_code 37 = .ok (.iload_n 2, 1) := by decide +kernel
theorem d_La_ownerOf_38 : decode prog_4_method_6_code 38 = .ok (.iaload, 1) := by decide +kernel
theorem d_La_ownerOf_39 : decode prog_4_method_6_code 39 = .ok (.if_icmp .gt 5, 3) := by decide +kernel
theorem d_La_ownerOf_42 : decode prog_4_method_6_code 42 = .ok (.iload_n 2, 1) := by decide +kernel
theorem d_La_ownerOf_43 : decode prog_4_method_6_code 43 = .ok (.ireturn, 1) := by decide +kernel
theorem d_La_ownerOf_44 : decode prog_4_method_6_code 44 = .ok (.iinc 2 1, 3) := by decide +kernel
theorem d_La_ownerOf_47 : decode prog_4_method_6_code 47 = .ok (.goto (-45), 3) := by decide +kernel
theorem d_La_ownerOf_50 : decode prog_4_method_6_code 50 = .ok (.iconst (-1), 1) := by decide +kernel
theorem d_La_ownerOf_51 : decode prog_4_method_6_code 51 = .ok (.ireturn, 1) := by decide +kernel
theorem d_La_hitsFrom_0 : decode prog_4_method_7_code 0 = .ok (.aload_n 0, 1) := by decide +kernel
theorem d_La_hitsFrom_1 : decode prog_4_method_7_code 1 = .ok (.getfield 22, 3) := by decide +kernel
theorem d_La_hitsFrom_4 : decode prog_4_method_7_code 4 = .ok (.ifCond .eq 11, 3) := by decide +kernel
theorem d_La_hitsFrom_7 : decode prog_4_method_7_code 7 = .ok (.iload_n 1, 1) := by decide +kernel
theorem d_La_hitsFrom_8 : decode prog_4_method_7_code 8 = .ok (.aload_n 0, 1) := by decide +kernel
theorem d_La_hitsFrom_9 : decode prog_4_method_7_code 9 = .ok (.getfield 26, 3) := by decide +kernel
theorem d_La_hitsFrom_12 : decode prog_4_method_7_code 12 = .ok (.if_icmp .le 7, 3) := by decide +kernel
theorem d_La_hitsFrom_15 : decode prog_4_method_7_code 15 = .ok (.iconst 0, 1) := by decide +kernel
theorem d_La_hitsFrom_16 : decode prog_4_method_7_code 16 = .ok (.goto 16, 3) := by decide +kernel
theorem d_La_hitsFrom_19 : decode prog_4_method_7_code 19 = .ok (.aload_n 0, 1) := by decide +kernel
theorem d_La_hitsFrom_20 : decode prog_4_method_7_code 20 = .ok (.getfield 26, 3) := by decide +kernel
theorem d_La_hitsFrom_23 : decode prog_4_method_7_code 23 = .ok (.iload_n 1, 1) := by decide +kernel
theorem d_La_hitsFrom_24 : decode prog_4_method_7_code 24 = .ok (.isub, 1) := by decide +kernel
theorem d_La_hitsFrom_25 : decode prog_4_method_7_code 25 = .ok (.aload_n 0, 1) := by decide +kernel
theorem d_La_hitsFrom_26 : decode prog_4_method_7_code 26 = .ok (.getfield 22, 3) := by decide +kernel
theorem d_La_hitsFrom_29 : decode prog_4_method_7_code 29 = .ok (.idiv, 1) := by decide +kernel
theorem d_La_hitsFrom_30 : decode prog_4_method_7_code 30 = .ok (.iconst 1, 1) := by decide +kernel
theorem d_La_hitsFrom_31 : decode prog_4_method_7_code 31 = .ok (.iadd, 1) := by decide +kernel
theorem d_La_hitsFrom_32 : decode prog_4_method_7_code 32 = .ok (.ireturn, 1) := by decide +kernel
theorem d_La_strikes_0 : decode prog_4_method_9_code 0 = .ok (.aload_n 0, 1) := by decide +kernel
theorem d_La_strikes_1 : decode prog_4_method_9_code 1 = .ok (.iload_n 2, 1) := by decide +kernel
theorem d_La_strikes_2 : decode prog_4_method_9_code 2 = .ok (.invokevirtual 51, 3) := by decide +kernel
theorem d_La_strikes_5 : decode prog_4_method_9_code 5 = .ok (.istore_n 3, 1) := by decide +kernel
theorem d_La_strikes_6 : decode prog_4_method_9_code 6 = .ok (.aload_n 0, 1) := by decide +kernel
theorem d_La_strikes_7 : decode prog_4_method_9_code 7 = .ok (.getfield 22, 3) := by decide +kernel
theorem d_La_strikes_10 : decode prog_4_method_9_code 10 = .ok (.ifCond .eq 7, 3) := by decide +kernel
theorem d_La_strikes_13 : decode prog_4_method_9_code 13 = .ok (.iload_n 3, 1) := by decide +kernel
theorem d_La_strikes_14 : decode prog_4_method_9_code 14 = .ok (.ifCond .ne 5, 3) := by decide +kernel
theorem d_La_strikes_17 : decode prog_4_method_9_code 17 = .ok (.iconst 0, 1) := by decide +kernel
theorem d_La_strikes_18 : decode prog_4_method_9_code 18 = .ok (.ireturn, 1) := by decide +kernel
theorem d_La_strikes_19 : decode prog_4_method_9_code 19 = .ok (.iload_n 3, 1) := by decide +kernel
theorem d_La_strikes_20 : decode prog_4_method_9_code 20 = .ok (.iload_n 1, 1) := by decide +kernel
theorem d_La_strikes_21 : decode prog_4_method_9_code 21 = .ok (.iload_n 3, 1) := by decide +kernel
theorem d_La_strikes_22 : decode prog_4_method_9_code 22 = .ok (.isub, 1) := by decide +kernel
theorem d_La_strikes_23 : decode prog_4_method_9_code 23 = .ok (.aload_n 0, 1) := by decide +kernel
theorem d_La_strikes_24 : decode prog_4_method_9_code 24 = .ok (.getfield 22, 3) := by decide +kernel
theorem d_La_strikes_27 : decode prog_4_method_9_code 27 = .ok (.invokestatic 54, 3) := by decide +kernel
theorem d_La_strikes_30 : decode prog_4_method_9_code 30 = .ok (.iadd, 1) := by decide +kernel
theorem d_La_strikes_31 : decode prog_4_method_9_code 31 = .ok (.aload_n 0, 1) := by decide +kernel
theorem d_La_strikes_32 : decode prog_4_method_9_code 32 = .ok (.iload_n 2, 1) := by decide +kernel
theorem d_La_strikes_33 : decode prog_4_method_9_code 33 = .ok (.invokevirtual 60, 3) := by decide +kernel
theorem d_La_strikes_36 : decode prog_4_method_9_code 36 = .ok (.if_icmp .gt 7, 3) := by decide +kernel
theorem d_La_strikes_39 : decode prog_4_method_9_code 39 = .ok (.iconst 1, 1) := by decide +kernel
theorem d_La_strikes_40 : decode prog_4_method_9_code 40 = .ok (.goto 4, 3) := by decide +kernel
theorem d_La_strikes_43 : decode prog_4_method_9_code 43 = .ok (.iconst 0, 1) := by decide +kernel
theorem d_La_strikes_44 : decode prog_4_method_9_code 44 = .ok (.ireturn, 1) := by decide +kernel
theorem d_Le_init_0 : decode prog_5_method_1_code 0 = .ok (.aload_n 0, 1) := by decide +kernel
theorem d_Le_init_1 : decode prog_5_method_1_code 1 = .ok (.invokespecial 3, 3) := by decide +kernel
theorem d_Le_init_4 : decode prog_5_method_1_code 4 = .ok (.aload_n 0, 1) := by decide +kernel
theorem d_Le_init_5 : decode prog_5_method_1_code 5 = .ok (.bipush 48, 2) := by decide +kernel
theorem d_Le_init_7 : decode prog_5_method_1_code 7 = .ok (.newarray .int, 2) := by decide +kernel
theorem d_Le_init_9 : decode prog_5_method_1_code 9 = .ok (.putfield 9, 3) := by decide +kernel
theorem d_Le_init_12 : decode prog_5_method_1_code 12 = .ok (.aload_n 0, 1) := by decide +kernel
theorem d_Le_init_13 : decode prog_5_method_1_code 13 = .ok (.bipush 48, 2) := by decide +kernel
theorem d_Le_init_15 : decode prog_5_method_1_code 15 = .ok (.newarray .int, 2) := by decide +kernel
theorem d_Le_init_17 : decode prog_5_method_1_code 17 = .ok (.putfield 15, 3) := by decide +kernel
theorem d_Le_init_20 : decode prog_5_method_1_code 20 = .ok (.aload_n 0, 1) := by decide +kernel
theorem d_Le_init_21 : decode prog_5_method_1_code 21 = .ok (.bipush 48, 2) := by decide +kernel
theorem d_Le_init_23 : decode prog_5_method_1_code 23 = .ok (.newarray .int, 2) := by decide +kernel
theorem d_Le_init_25 : decode prog_5_method_1_code 25 = .ok (.putfield 18, 3) := by decide +kernel
theorem d_Le_init_28 : decode prog_5_method_1_code 28 = .ok (.aload_n 0, 1) := by decide +kernel
theorem d_Le_init_29 : decode prog_5_method_1_code 29 = .ok (.bipush 48, 2) := by decide +kernel
theorem d_Le_init_31 : decode prog_5_method_1_code 31 = .ok (.newarray .int, 2) := by decide +kernel
theorem d_Le_init_33 : decode prog_5_method_1_code 33 = .ok (.putfield 21, 3) := by decide +kernel
theorem d_Le_init_36 : decode prog_5_method_1_code 36 = .ok (.return_, 1) := by decide +kernel
theorem d_Le_holds_0 : decode prog_5_method_2_code 0 = .ok (.iload_n 1, 1) := by decide +kernel
theorem d_Le_holds_1 : decode prog_5_method_2_code 1 = .ok (.ifCond .lt 15, 3) := by decide +kernel
theorem d_Le_holds_4 : decode prog_5_method_2_code 4 = .ok (.iload_n 1, 1) := by decide +kernel
theorem d_Le_holds_5 : decode prog_5_method_2_code 5 = .ok (.aload_n 0, 1) := by decide +kernel
theorem d_Le_holds_6 : decode prog_5_method_2_code 6 = .ok (.getfield 24, 3) := by decide +kernel
theorem d_Le_holds_9 : decode prog_5_method_2_code 9 = .ok (.if_icmp .ge 7, 3) := by decide +kernel
theorem d_Le_holds_12 : decode prog_5_method_2_code 12 = .ok (.iconst 1, 1) := by decide +kernel
theorem d_Le_holds_13 : decode prog_5_method_2_code 13 = .ok (.goto 4, 3) := by decide +kernel
theorem d_Le_holds_16 : decode prog_5_method_2_code 16 = .ok (.iconst 0, 1) := by decide +kernel
theorem d_Le_holds_17 : decode prog_5_method_2_code 17 = .ok (.ireturn, 1) := by decide +kernel
theorem d_Le_isFull_0 : decode prog_5_method_3_code 0 = .ok (.aload_n 0, 1) := by decide +kernel
theorem d_Le_isFull_1 : decode prog_5_method_3_code 1 = .ok (.getfield 24, 3) := by decide +kernel
theorem d_Le_isFull_4 : decode prog_5_method_3_code 4 = .ok (.bipush 48, 2) := by decide +kernel
theorem d_Le_isFull_6 : decode prog_5_method_3_code 6 = .ok (.if_icmp .lt 7, 3) := by decide +kernel
theorem d_Le_isFull_9 : decode prog_5_method_3_code 9 = .ok (.iconst 1, 1) := by decide +kernel
theorem d_Le_isFull_10 : decode prog_5_method_3_code 10 = .ok (.goto 4, 3) := by decide +kernel
theorem d_Le_isFull_13 : decode prog_5_method_3_code 13 = .ok (.iconst 0, 1) := by decide +kernel
theorem d_Le_isFull_14 : decode prog_5_method_3_code 14 = .ok (.ireturn, 1) := by decide +kernel
theorem d_Le_append_0 : decode prog_5_method_4_code 0 = .ok (.aload_n 0, 1) := by decide +kernel
theorem d_Le_append_1 : decode prog_5_method_4_code 1 = .ok (.invokevirtual 28, 3) := by decide +kernel
theorem d_Le_append_4 : decode prog_5_method_4_code 4 = .ok (.ifCond .eq 4, 3) := by decide +kernel
theorem d_Le_append_7 : decode prog_5_method_4_code 7 = .ok (.return_, 1) := by decide +kernel
theorem d_Le_append_8 : decode prog_5_method_4_code 8 = .ok (.aload_n 0, 1) := by decide +kernel
theorem d_Le_append_9 : decode prog_5_method_4_code 9 = .ok (.getfield 9, 3) := by decide +kernel
theorem d_Le_append_12 : decode prog_5_method_4_code 12 = .ok (.aload_n 0, 1) := by decide +kernel
theorem d_Le_append_13 : decode prog_5_method_4_code 13 = .ok (.getfield 24, 3) := by decide +kernel
theorem d_Le_append_16 : decode prog_5_method_4_code 16 = .ok (.iload_n 1, 1) := by decide +kernel
theorem d_Le_append_17 : decode prog_5_method_4_code 17 = .ok (.iastore, 1) := by decide +kernel
theorem d_Le_append_18 : decode prog_5_method_4_code 18 = .ok (.aload_n 0, 1) := by decide +kernel
theorem d_Le_append_19 : decode prog_5_method_4_code 19 = .ok (.getfield 15, 3) := by decide +kernel
theorem d_Le_append_22 : decode prog_5_method_4_code 22 = .ok (.aload_n 0, 1) := by decide +kernel
theorem d_Le_append_23 : decode prog_5_method_4_code 23 = .ok (.getfield 24, 3) := by decide +kernel
theorem d_Le_append_26 : decode prog_5_method_4_code 26 = .ok (.iload_n 2, 1) := by decide +kernel
theorem d_Le_append_27 : decode prog_5_method_4_code 27 = .ok (.iastore, 1) := by decide +kernel
theorem d_Le_append_28 : decode prog_5_method_4_code 28 = .ok (.aload_n 0, 1) := by decide +kernel
theorem d_Le_append_29 : decode prog_5_method_4_code 29 = .ok (.getfield 18, 3) := by decide +kernel
theorem d_Le_append_32 : decode prog_5_method_4_code 32 = .ok (.aload_n 0, 1) := by decide +kernel
theorem d_Le_append_33 : decode prog_5_method_4_code 33 = .ok (.getfield 24, 3) := by decide +kernel
theorem d_Le_append_36 : decode prog_5_method_4_code 36 = .ok (.iload_n 3, 1) := by decide +kernel
theorem d_Le_append_37 : decode prog_5_method_4_code 37 = .ok (.iastore, 1) := by decide +kernel
theorem d_Le_append_38 : decode prog_5_method_4_code 38 = .ok (.aload_n 0, 1) := by decide +kernel
theorem d_Le_append_39 : decode prog_5_method_4_code 39 = .ok (.getfield 21, 3) := by decide +kernel
theorem d_Le_append_42 : decode prog_5_method_4_code 42 = .ok (.aload_n 0, 1) := by decide +kernel
theorem d_Le_append_43 : decode prog_5_method_4_code 43 = .ok (.getfield 24, 3) := by decide +kernel
theorem d_Le_append_46 : decode prog_5_method_4_code 46 = .ok (.iconst (-1), 1) := by decide +kernel
theorem d_Le_append_47 : decode prog_5_method_4_code 47 = .ok (.iastore, 1) := by decide +kernel
theorem d_Le_append_48 : decode prog_5_method_4_code 48 = .ok (.aload_n 0, 1) := by decide +kernel
theorem d_Le_append_49 : decode prog_5_method_4_code 49 = .ok (.dup, 1) := by decide +kernel
theorem d_Le_append_50 : decode prog_5_method_4_code 50 = .ok (.getfield 24, 3) := by decide +kernel
theorem d_Le_append_53 : decode prog_5_method_4_code 53 = .ok (.iconst 1, 1) := by decide +kernel
theorem d_Le_append_54 : decode prog_5_method_4_code 54 = .ok (.iadd, 1) := by decide +kernel
theorem d_Le_append_55 : decode prog_5_method_4_code 55 = .ok (.putfield 24, 3) := by decide +kernel
theorem d_Le_append_58 : decode prog_5_method_4_code 58 = .ok (.return_, 1) := by decide +kernel
theorem d_Le_become_0 : decode prog_5_method_5_code 0 = .ok (.aload_n 0, 1) := by decide +kernel
theorem d_Le_become_1 : decode prog_5_method_5_code 1 = .ok (.iconst 0, 1) := by decide +kernel
theorem d_Le_become_2 : decode prog_5_method_5_code 2 = .ok (.putfield 24, 3) := by decide +kernel
theorem d_Le_become_5 : decode prog_5_method_5_code 5 = .ok (.iconst 0, 1) := by decide +kernel
theorem d_Le_become_6 : decode prog_5_method_5_code 6 = .ok (.istore_n 2, 1) := by decide +kernel
theorem d_Le_become_7 : decode prog_5_method_5_code 7 = .ok (.iload_n 2, 1) := by decide +kernel
theorem d_Le_become_8 : decode prog_5_method_5_code 8 = .ok (.aload_n 1, 1) := by decide +kernel
theorem d_Le_become_9 : decode prog_5_method_5_code 9 = .ok (.getfield 24, 3) := by decide +kernel
theorem d_Le_become_12 : decode prog_5_method_5_code 12 = .ok (.if_icmp .ge 43, 3) := by decide +kernel
theorem d_Le_become_15 : decode prog_5_method_5_code 15 = .ok (.aload_n 0, 1) := by decide +kernel
theorem d_Le_become_16 : decode prog_5_method_5_code 16 = .ok (.aload_n 1, 1) := by decide +kernel
theorem d_Le_become_17 : decode prog_5_method_5_code 17 = .ok (.getfield 9, 3) := by decide +kernel
theorem d_Le_become_20 : decode prog_5_method_5_code 20 = .ok (.iload_n 2, 1) := by decide +kernel
theorem d_Le_become_21 : decode prog_5_method_5_code 21 = .ok (.iaload, 1) := by decide +kernel
theorem d_Le_become_22 : decode prog_5_method_5_code 22 = .ok (.aload_n 1, 1) := by decide +kernel
theorem d_Le_become_23 : decode prog_5_method_5_code 23 = .ok (.getfield 15, 3) := by decide +kernel
theorem d_Le_become_26 : decode prog_5_method_5_code 26 = .ok (.iload_n 2, 1) := by decide +kernel
theorem d_Le_become_27 : decode prog_5_method_5_code 27 = .ok (.iaload, 1) := by decide +kernel
theorem d_Le_become_28 : decode prog_5_method_5_code 28 = .ok (.aload_n 1, 1) := by decide +kernel
theorem d_Le_become_29 : decode prog_5_method_5_code 29 = .ok (.getfield 18, 3) := by decide +kernel
theorem d_Le_become_32 : decode prog_5_method_5_code 32 = .ok (.iload_n 2, 1) := by decide +kernel
theorem d_Le_become_33 : decode prog_5_method_5_code 33 = .ok (.iaload, 1) := by decide +kernel
theorem d_Le_become_34 : decode prog_5_method_5_code 34 = .ok (.invokevirtual 32, 3) := by decide +kernel
theorem d_Le_become_37 : decode prog_5_method_5_code 37 = .ok (.aload_n 0, 1) := by decide +kernel
theorem d_Le_become_38 : decode prog_5_method_5_code 38 = .ok (.getfield 21, 3) := by decide +kernel
theorem d_Le_become_41 : decode prog_5_method_5_code 41 = .ok (.iload_n 2, 1) := by decide +kernel
theorem d_Le_become_42 : decode prog_5_method_5_code 42 = .ok (.aload_n 1, 1) := by decide +kernel
theorem d_Le_become_43 : decode prog_5_method_5_code 43 = .ok (.getfield 21, 3) := by decide +kernel
theorem d_Le_become_46 : decode prog_5_method_5_code 46 = .ok (.iload_n 2, 1) := by decide +kernel
theorem d_Le_become_47 : decode prog_5_method_5_code 47 = .ok (.iaload, 1) := by decide +kernel
theorem d_Le_become_48 : decode prog_5_method_5_code 48 = .ok (.iastore, 1) := by decide +kernel
theorem d_Le_become_49 : decode prog_5_method_5_code 49 = .ok (.iinc 2 1, 3) := by decide +kernel
theorem d_Le_become_52 : decode prog_5_method_5_code 52 = .ok (.goto (-45), 3) := by decide +kernel
theorem d_Le_become_55 : decode prog_5_method_5_code 55 = .ok (.return_, 1) := by decide +kernel
theorem d_Le_indexOf_0 : decode prog_5_method_6_code 0 = .ok (.iconst 0, 1) := by decide +kernel
theorem d_Le_indexOf_1 : decode prog_5_method_6_code 1 = .ok (.istore_n 3, 1) := by decide +kernel
theorem d_Le_indexOf_2 : decode prog_5_method_6_code 2 = .ok (.iload_n 3, 1) := by decide +kernel
theorem d_Le_indexOf_3 : decode prog_5_method_6_code 3 = .ok (.aload_n 0, 1) := by decide +kernel
theorem d_Le_indexOf_4 : decode prog_5_method_6_code 4 = .ok (.getfield 24, 3) := by decide +kernel
theorem d_Le_indexOf_7 : decode prog_5_method_6_code 7 = .ok (.if_icmp .ge 31, 3) := by decide +kernel
theorem d_Le_indexOf_10 : decode prog_5_method_6_code 10 = .ok (.aload_n 0, 1) := by decide +kernel
theorem d_Le_indexOf_11 : decode prog_5_method_6_code 11 = .ok (.getfield 9, 3) := by decide +kernel
theorem d_Le_indexOf_14 : decode prog_5_method_6_code 14 = .ok (.iload_n 3, 1) := by decide +kernel
theorem d_Le_indexOf_15 : decode prog_5_method_6_code 15 = .ok (.iaload, 1) := by decide +kernel
theorem d_Le_indexOf_16 : decode prog_5_method_6_code 16 = .ok (.iload_n 1, 1) := by decide +kernel
theorem d_Le_indexOf_17 : decode prog_5_method_6_code 17 = .ok (.if_icmp .ne 15, 3) := by decide +kernel
theorem d_Le_indexOf_20 : decode prog_5_method_6_code 20 = .ok (.aload_n 0, 1) := by decide +kernel
theorem d_Le_indexOf_21 : decode prog_5_method_6_code 21 = .ok (.getfield 15, 3) := by decide +kernel
theorem d_Le_indexOf_24 : decode prog_5_method_6_code 24 = .ok (.iload_n 3, 1) := by decide +kernel
theorem d_Le_indexOf_25 : decode prog_5_method_6_code 25 = .ok (.iaload, 1) := by decide +kernel
theorem d_Le_indexOf_26 : decode prog_5_method_6_code 26 = .ok (.iload_n 2, 1) := by decide +kernel
theorem d_Le_indexOf_27 : decode prog_5_method_6_code 27 = .ok (.if_icmp .ne 5, 3) := by decide +kernel
theorem d_Le_indexOf_30 : decode prog_5_method_6_code 30 = .ok (.iload_n 3, 1) := by decide +kernel
theorem d_Le_indexOf_31 : decode prog_5_method_6_code 31 = .ok (.ireturn, 1) := by decide +kernel
theorem d_Le_indexOf_32 : decode prog_5_method_6_code 32 = .ok (.iinc 3 1, 3) := by decide +kernel
theorem d_Le_indexOf_35 : decode prog_5_method_6_code 35 = .ok (.goto (-33), 3) := by decide +kernel
theorem d_Le_indexOf_38 : decode prog_5_method_6_code 38 = .ok (.iconst (-1), 1) := by decide +kernel
theorem d_Le_indexOf_39 : decode prog_5_method_6_code 39 = .ok (.ireturn, 1) := by decide +kernel
theorem d_Le_isFirstOfAccount_0 : decode prog_5_method_7_code 0 = .ok (.iconst 0, 1) := by decide +kernel
theorem d_Le_isFirstOfAccount_1 : decode prog_5_method_7_code 1 = .ok (.istore_n 2, 1) := by decide +kernel
theorem d_Le_isFirstOfAccount_2 : decode prog_5_method_7_code 2 = .ok (.iload_n 2, 1) := by decide +kernel
theorem d_Le_isFirstOfAccount_3 : decode prog_5_method_7_code 3 = .ok (.iload_n 1, 1) := by decide +kernel
theorem d_Le_isFirstOfAccount_4 : decode prog_5_method_7_code 4 = .ok (.if_icmp .ge 34, 3) := by decide +kernel
theorem d_Le_isFirstOfAccount_7 : decode prog_5_method_7_code 7 = .ok (.iload_n 1, 1) := by decide +kernel
theorem d_Le_isFirstOfAccount_8 : decode prog_5_method_7_code 8 = .ok (.aload_n 0, 1) := by decide +kernel
theorem d_Le_isFirstOfAccount_9 : decode prog_5_method_7_code 9 = .ok (.getfield 24, 3) := by decide +kernel
theorem d_Le_isFirstOfAccount_12 : decode prog_5_method_7_code 12 = .ok (.if_icmp .ge 26, 3) := by decide +kernel
theorem d_Le_isFirstOfAccount_15 : decode prog_5_method_7_code 15 = .ok (.aload_n 0, 1) := by decide +kernel
theorem d_Le_isFirstOfAccount_16 : decode prog_5_method_7_code 16 = .ok (.getfield 9, 3) := by decide +kernel
theorem d_Le_isFirstOfAccount_19 : decode prog_5_method_7_code 19 = .ok (.iload_n 2, 1) := by decide +kernel
theorem d_Le_isFirstOfAccount_20 : decode prog_5_method_7_code 20 = .ok (.iaload, 1) := by decide +kernel
theorem d_Le_isFirstOfAccount_21 : decode prog_5_method_7_code 21 = .ok (.aload_n 0, 1) := by decide +kernel
theorem d_Le_isFirstOfAccount_22 : decode prog_5_method_7_code 22 = .ok (.getfield 9, 3) := by decide +kernel
theorem d_Le_isFirstOfAccount_25 : decode prog_5_method_7_code 25 = .ok (.iload_n 1, 1) := by decide +kernel
theorem d_Le_isFirstOfAccount_26 : decode prog_5_method_7_code 26 = .ok (.iaload, 1) := by decide +kernel
theorem d_Le_isFirstOfAccount_27 : decode prog_5_method_7_code 27 = .ok (.if_icmp .ne 5, 3) := by decide +kernel
theorem d_Le_isFirstOfAccount_30 : decode prog_5_method_7_code 30 = .ok (.iconst 0, 1) := by decide +kernel
theorem d_Le_isFirstOfAccount_31 : decode prog_5_method_7_code 31 = .ok (.ireturn, 1) := by decide +kernel
theorem d_Le_isFirstOfAccount_32 : decode prog_5_method_7_code 32 = .ok (.iinc 2 1, 3) := by decide +kernel
theorem d_Le_isFirstOfAccount_35 : decode prog_5_method_7_code 35 = .ok (.goto (-33), 3) := by decide +kernel
theorem d_Le_isFirstOfAccount_38 : decode prog_5_method_7_code 38 = .ok (.aload_n 0, 1) := by decide +kernel
theorem d_Le_isFirstOfAccount_39 : decode prog_5_method_7_code 39 = .ok (.iload_n 1, 1) := by decide +kernel
theorem d_Le_isFirstOfAccount_40 : decode prog_5_method_7_code 40 = .ok (.invokevirtual 36, 3) := by decide +kernel
theorem d_Le_isFirstOfAccount_43 : decode prog_5_method_7_code 43 = .ok (.ireturn, 1) := by decide +kernel
theorem d_Le_coinsOf_0 : decode prog_5_method_8_code 0 = .ok (.aload_n 0, 1) := by decide +kernel
theorem d_Le_coinsOf_1 : decode prog_5_method_8_code 1 = .ok (.iload_n 1, 1) := by decide +kernel
theorem d_Le_coinsOf_2 : decode prog_5_method_8_code 2 = .ok (.invokevirtual 36, 3) := by decide +kernel
theorem d_Le_coinsOf_5 : decode prog_5_method_8_code 5 = .ok (.ifCond .eq 16, 3) := by decide +kernel
theorem d_Le_coinsOf_8 : decode prog_5_method_8_code 8 = .ok (.aload_n 0, 1) := by decide +kernel
theorem d_Le_coinsOf_9 : decode prog_5_method_8_code 9 = .ok (.getfield 18, 3) := by decide +kernel
theorem d_Le_coinsOf_12 : decode prog_5_method_8_code 12 = .ok (.iload_n 1, 1) := by decide +kernel
theorem d_Le_coinsOf_13 : decode prog_5_method_8_code 13 = .ok (.iaload, 1) := by decide +kernel
theorem d_Le_coinsOf_14 : decode prog_5_method_8_code 14 = .ok (.iconst 0, 1) := by decide +kernel
theorem d_Le_coinsOf_15 : decode prog_5_method_8_code 15 = .ok (.invokestatic 40, 3) := by decide +kernel
theorem d_Le_coinsOf_18 : decode prog_5_method_8_code 18 = .ok (.goto 4, 3) := by decide +kernel
theorem d_Le_coinsOf_21 : decode prog_5_method_8_code 21 = .ok (.iconst 0, 1) := by decide +kernel
theorem d_Le_coinsOf_22 : decode prog_5_method_8_code 22 = .ok (.ireturn, 1) := by decide +kernel
theorem d_Le_allCoins_0 : decode prog_5_method_9_code 0 = .ok (.iconst 0, 1) := by decide +kernel
theorem d_Le_allCoins_1 : decode prog_5_method_9_code 1 = .ok (.istore_n 1, 1) := by decide +kernel
theorem d_Le_allCoins_2 : decode prog_5_method_9_code 2 = .ok (.iconst 0, 1) := by decide +kernel
theorem d_Le_allCoins_3 : decode prog_5_method_9_code 3 = .ok (.istore_n 2, 1) := by decide +kernel
theorem d_Le_allCoins_4 : decode prog_5_method_9_code 4 = .ok (.iload_n 2, 1) := by decide +kernel
theorem d_Le_allCoins_5 : decode prog_5_method_9_code 5 = .ok (.aload_n 0, 1) := by decide +kernel
theorem d_Le_allCoins_6 : decode prog_5_method_9_code 6 = .ok (.getfield 24, 3) := by decide +kernel
theorem d_Le_allCoins_9 : decode prog_5_method_9_code 9 = .ok (.if_icmp .ge 17, 3) := by decide +kernel
theorem d_Le_allCoins_12 : decode prog_5_method_9_code 12 = .ok (.iload_n 1, 1) := by decide +kernel
theorem d_Le_allCoins_13 : decode prog_5_method_9_code 13 = .ok (.aload_n 0, 1) := by decide +kernel
theorem d_Le_allCoins_14 : decode prog_5_method_9_code 14 = .ok (.iload_n 2, 1) := by decide +kernel
theorem d_Le_allCoins_15 : decode prog_5_method_9_code 15 = .ok (.invokevirtual 46, 3) := by decide +kernel
theorem d_Le_allCoins_18 : decode prog_5_method_9_code 18 = .ok (.iadd, 1) := by decide +kernel
theorem d_Le_allCoins_19 : decode prog_5_method_9_code 19 = .ok (.istore_n 1, 1) := by decide +kernel
theorem d_Le_allCoins_20 : decode prog_5_method_9_code 20 = .ok (.iinc 2 1, 3) := by decide +kernel
theorem d_Le_allCoins_23 : decode prog_5_method_9_code 23 = .ok (.goto (-19), 3) := by decide +kernel
theorem d_Le_allCoins_26 : decode prog_5_method_9_code 26 = .ok (.iload_n 1, 1) := by decide +kernel
theorem d_Le_allCoins_27 : decode prog_5_method_9_code 27 = .ok (.ireturn, 1) := by decide +kernel
theorem d_Le_mayBeWorth_0 : decode prog_5_method_10_code 0 = .ok (.aload_n 0, 1) := by decide +kernel
theorem d_Le_mayBeWorth_1 : decode prog_5_method_10_code 1 = .ok (.iload_n 1, 1) := by decide +kernel
theorem d_Le_mayBeWorth_2 : decode prog_5_method_10_code 2 = .ok (.invokevirtual 36, 3) := by decide +kernel
theorem d_Le_mayBeWorth_5 : decode prog_5_method_10_code 5 = .ok (.ifCond .eq 23, 3) := by decide +kernel
theorem d_Le_mayBeWorth_8 : decode prog_5_method_10_code 8 = .ok (.iload_n 2, 1) := by decide +kernel
theorem d_Le_mayBeWorth_9 : decode prog_5_method_10_code 9 = .ok (.ifCond .lt 19, 3) := by decide +kernel
theorem d_Le_mayBeWorth_12 : decode prog_5_method_10_code 12 = .ok (.iload_n 2, 1) := by decide +kernel
theorem d_Le_mayBeWorth_13 : decode prog_5_method_10_code 13 = .ok (.iconst 2, 1) := by decide +kernel
theorem d_Le_mayBeWorth_14 : decode prog_5_method_10_code 14 = .ok (.aload_n 0, 1) := by decide +kernel
theorem d_Le_mayBeWorth_15 : decode prog_5_method_10_code 15 = .ok (.getfield 18, 3) := by decide +kernel
theorem d_Le_mayBeWorth_18 : decode prog_5_method_10_code 18 = .ok (.iload_n 1, 1) := by decide +kernel
theorem d_Le_mayBeWorth_19 : decode prog_5_method_10_code 19 = .ok (.iaload, 1) := by decide +kernel
theorem d_Le_mayBeWorth_20 : decode prog_5_method_10_code 20 = .ok (.imul, 1) := by decide +kernel
theorem d_Le_mayBeWorth_21 : decode prog_5_method_10_code 21 = .ok (.if_icmp .gt 7, 3) := by decide +kernel
theorem d_Le_mayBeWorth_24 : decode prog_5_method_10_code 24 = .ok (.iconst 1, 1) := by decide +kernel
theorem d_Le_mayBeWorth_25 : decode prog_5_method_10_code 25 = .ok (.goto 4, 3) := by decide +kernel
theorem d_Le_mayBeWorth_28 : decode prog_5_method_10_code 28 = .ok (.iconst 0, 1) := by decide +kernel
theorem d_Le_mayBeWorth_29 : decode prog_5_method_10_code 29 = .ok (.ireturn, 1) := by decide +kernel
theorem d_Le_isAudited_0 : decode prog_5_method_11_code 0 = .ok (.iload_n 1, 1) := by decide +kernel
theorem d_Le_isAudited_1 : decode prog_5_method_11_code 1 = .ok (.ifCond .lt 25, 3) := by decide +kernel
theorem d_Le_isAudited_4 : decode prog_5_method_11_code 4 = .ok (.iload_n 1, 1) := by decide +kernel
theorem d_Le_isAudited_5 : decode prog_5_method_11_code 5 = .ok (.aload_n 0, 1) := by decide +kernel
theorem d_Le_isAudited_6 : decode prog_5_method_11_code 6 = .ok (.getfield 24, 3) := by decide +kernel
theorem d_Le_isAudited_9 : decode prog_5_method_11_code 9 = .ok (.if_icmp .ge 17, 3) := by decide +kernel
theorem d_Le_isAudited_12 : decode prog_5_method_11_code 12 = .ok (.aload_n 0, 1) := by decide +kernel
theorem d_Le_isAudited_13 : decode prog_5_method_11_code 13 = .ok (.getfield 21, 3) := by decide +kernel
theorem d_Le_isAudited_16 : decode prog_5_method_11_code 16 = .ok (.iload_n 1, 1) := by decide +kernel
theorem d_Le_isAudited_17 : decode prog_5_method_11_code 17 = .ok (.iaload, 1) := by decide +kernel
theorem d_Le_isAudited_18 : decode prog_5_method_11_code 18 = .ok (.iconst (-1), 1) := by decide +kernel
theorem d_Le_isAudited_19 : decode prog_5_method_11_code 19 = .ok (.if_icmp .eq 7, 3) := by decide +kernel
theorem d_Le_isAudited_22 : decode prog_5_method_11_code 22 = .ok (.iconst 1, 1) := by decide +kernel
theorem d_Le_isAudited_23 : decode prog_5_method_11_code 23 = .ok (.goto 4, 3) := by decide +kernel
theorem d_Le_isAudited_26 : decode prog_5_method_11_code 26 = .ok (.iconst 0, 1) := by decide +kernel
theorem d_Le_isAudited_27 : decode prog_5_method_11_code 27 = .ok (.ireturn, 1) := by decide +kernel
theorem d_Le_auditedItems_0 : decode prog_5_method_12_code 0 = .ok (.iconst 0, 1) := by decide +kernel
theorem d_Le_auditedItems_1 : decode prog_5_method_12_code 1 = .ok (.istore_n 1, 1) := by decide +kernel
theorem d_Le_auditedItems_2 : decode prog_5_method_12_code 2 = .ok (.iconst 0, 1) := by decide +kernel
theorem d_Le_auditedItems_3 : decode prog_5_method_12_code 3 = .ok (.istore_n 2, 1) := by decide +kernel
theorem d_Le_auditedItems_4 : decode prog_5_method_12_code 4 = .ok (.iload_n 2, 1) := by decide +kernel
theorem d_Le_auditedItems_5 : decode prog_5_method_12_code 5 = .ok (.aload_n 0, 1) := by decide +kernel
theorem d_Le_auditedItems_6 : decode prog_5_method_12_code 6 = .ok (.getfield 24, 3) := by decide +kernel
theorem d_Le_auditedItems_9 : decode prog_5_method_12_code 9 = .ok (.if_icmp .ge 20, 3) := by decide +kernel
theorem d_Le_auditedItems_12 : decode prog_5_method_12_code 12 = .ok (.aload_n 0, 1) := by decide +kernel
theorem d_Le_auditedItems_13 : decode prog_5_method_12_code 13 = .ok (.iload_n 2, 1) := by decide +kernel
theorem d_Le_auditedItems_14 : decode prog_5_method_12_code 14 = .ok (.invokevirtual 50, 3) := by decide +kernel
theorem d_Le_auditedItems_17 : decode prog_5_method_12_code 17 = .ok (.ifCond .eq 6, 3) := by decide +kernel
theorem d_Le_auditedItems_20 : decode prog_5_method_12_code 20 = .ok (.iinc 1 1, 3) := by decide +kernel
theorem d_Le_auditedItems_23 : decode prog_5_method_12_code 23 = .ok (.iinc 2 1, 3) := by decide +kernel
theorem d_Le_auditedItems_26 : decode prog_5_method_12_code 26 = .ok (.goto (-22), 3) := by decide +kernel
theorem d_Le_auditedItems_29 : decode prog_5_method_12_code 29 = .ok (.iload_n 1, 1) := by decide +kernel
theorem d_Le_auditedItems_30 : decode prog_5_method_12_code 30 = .ok (.ireturn, 1) := by decide +kernel
theorem d_Le_errorOf_0 : decode prog_5_method_13_code 0 = .ok (.aload_n 0, 1) := by decide +kernel
theorem d_Le_errorOf_1 : decode prog_5_method_13_code 1 = .ok (.iload_n 1, 1) := by decide +kernel
theorem d_Le_errorOf_2 : decode prog_5_method_13_code 2 = .ok (.invokevirtual 50, 3) := by decide +kernel
theorem d_Le_errorOf_5 : decode prog_5_method_13_code 5 = .ok (.ifCond .eq 19, 3) := by decide +kernel
theorem d_Le_errorOf_8 : decode prog_5_method_13_code 8 = .ok (.aload_n 0, 1) := by decide +kernel
theorem d_Le_errorOf_9 : decode prog_5_method_13_code 9 = .ok (.getfield 18, 3) := by decide +kernel
theorem d_Le_errorOf_12 : decode prog_5_method_13_code 12 = .ok (.iload_n 1, 1) := by decide +kernel
theorem d_Le_errorOf_13 : decode prog_5_method_13_code 13 = .ok (.iaload, 1) := by decide +kernel
theorem d_Le_errorOf_14 : decode prog_5_method_13_code 14 = .ok (.aload_n 0, 1) := by decide +kernel
theorem d_Le_errorOf_15 : decode prog_5_method_13_code 15 = .ok (.getfield 21, 3) := by decide +kernel
theorem d_Le_errorOf_18 : decode prog_5_method_13_code 18 = .ok (.iload_n 1, 1) := by decide +kernel
theorem d_Le_errorOf_19 : decode prog_5_method_13_code 19 = .ok (.iaload, 1) := by decide +kernel
theorem d_Le_errorOf_20 : decode prog_5_method_13_code 20 = .ok (.isub, 1) := by decide +kernel
theorem d_Le_errorOf_21 : decode prog_5_method_13_code 21 = .ok (.goto 4, 3) := by decide +kernel
theorem d_Le_errorOf_24 : decode prog_5_method_13_code 24 = .ok (.iconst 0, 1) := by decide +kernel
theorem d_Le_errorOf_25 : decode prog_5_method_13_code 25 = .ok (.ireturn, 1) := by decide +kernel
theorem d_Le_taintOf_0 : decode prog_5_method_14_code 0 = .ok (.aload_n 0, 1) := by decide +kernel
theorem d_Le_taintOf_1 : decode prog_5_method_14_code 1 = .ok (.iload_n 1, 1) := by decide +kernel
theorem d_Le_taintOf_2 : decode prog_5_method_14_code 2 = .ok (.invokevirtual 46, 3) := by decide +kernel
theorem d_Le_taintOf_5 : decode prog_5_method_14_code 5 = .ok (.istore_n 2, 1) := by decide +kernel
theorem d_Le_taintOf_6 : decode prog_5_method_14_code 6 = .ok (.iload_n 2, 1) := by decide +kernel
theorem d_Le_taintOf_7 : decode prog_5_method_14_code 7 = .ok (.ifCond .ne 7, 3) := by decide +kernel
theorem d_Le_taintOf_10 : decode prog_5_method_14_code 10 = .ok (.iconst 0, 1) := by decide +kernel
theorem d_Le_taintOf_11 : decode prog_5_method_14_code 11 = .ok (.goto 17, 3) := by decide +kernel
theorem d_Le_taintOf_14 : decode prog_5_method_14_code 14 = .ok (.ldc2_w 53, 3) := by decide +kernel
theorem d_Le_taintOf_17 : decode prog_5_method_14_code 17 = .ok (.aload_n 0, 1) := by decide +kernel
theorem d_Le_taintOf_18 : decode prog_5_method_14_code 18 = .ok (.iload_n 1, 1) := by decide +kernel
theorem d_Le_taintOf_19 : decode prog_5_method_14_code 19 = .ok (.invokevirtual 55, 3) := by decide +kernel
theorem d_Le_taintOf_22 : decode prog_5_method_14_code 22 = .ok (.i2l, 1) := by decide +kernel
theorem d_Le_taintOf_23 : decode prog_5_method_14_code 23 = .ok (.lmul, 1) := by decide +kernel
theorem d_Le_taintOf_24 : decode prog_5_method_14_code 24 = .ok (.iload_n 2, 1) := by decide +kernel
theorem d_Le_taintOf_25 : decode prog_5_method_14_code 25 = .ok (.i2l, 1) := by decide +kernel
theorem d_Le_taintOf_26 : decode prog_5_method_14_code 26 = .ok (.ldiv, 1) := by decide +kernel
theorem d_Le_taintOf_27 : decode prog_5_method_14_code 27 = .ok (.l2i, 1) := by decide +kernel
theorem d_Le_taintOf_28 : decode prog_5_method_14_code 28 = .ok (.ireturn, 1) := by decide +kernel
theorem d_Li_init_0 : decode prog_6_method_1_code 0 = .ok (.aload_n 0, 1) := by decide +kernel
theorem d_Li_init_1 : decode prog_6_method_1_code 1 = .ok (.invokespecial 3, 3) := by decide +kernel
theorem d_Li_init_4 : decode prog_6_method_1_code 4 = .ok (.aload_n 0, 1) := by decide +kernel
theorem d_Li_init_5 : decode prog_6_method_1_code 5 = .ok (.bipush 32, 2) := by decide +kernel
theorem d_Li_init_7 : decode prog_6_method_1_code 7 = .ok (.newarray .char, 2) := by decide +kernel
theorem d_Li_init_9 : decode prog_6_method_1_code 9 = .ok (.putfield 9, 3) := by decide +kernel
theorem d_Li_init_12 : decode prog_6_method_1_code 12 = .ok (.return_, 1) := by decide +kernel
theorem d_Li_sign_0 : decode prog_6_method_2_code 0 = .ok (.aload_n 0, 1) := by decide +kernel
theorem d_Li_sign_1 : decode prog_6_method_2_code 1 = .ok (.getfield 15, 3) := by decide +kernel
theorem d_Li_sign_4 : decode prog_6_method_2_code 4 = .ok (.aload_n 0, 1) := by decide +kernel
theorem d_Li_sign_5 : decode prog_6_method_2_code 5 = .ok (.getfield 9, 3) := by decide +kernel
theorem d_Li_sign_8 : decode prog_6_method_2_code 8 = .ok (.arraylength, 1) := by decide +kernel
theorem d_Li_sign_9 : decode prog_6_method_2_code 9 = .ok (.if_icmp .ge 23, 3) := by decide +kernel
theorem d_Li_sign_12 : decode prog_6_method_2_code 12 = .ok (.aload_n 0, 1) := by decide +kernel
theorem d_Li_sign_13 : decode prog_6_method_2_code 13 = .ok (.getfield 9, 3) := by decide +kernel
theorem d_Li_sign_16 : decode prog_6_method_2_code 16 = .ok (.aload_n 0, 1) := by decide +kernel
theorem d_Li_sign_17 : decode prog_6_method_2_code 17 = .ok (.getfield 15, 3) := by decide +kernel
theorem d_Li_sign_20 : decode prog_6_method_2_code 20 = .ok (.iload_n 1, 1) := by decide +kernel
theorem d_Li_sign_21 : decode prog_6_method_2_code 21 = .ok (.castore, 1) := by decide +kernel
theorem d_Li_sign_22 : decode prog_6_method_2_code 22 = .ok (.aload_n 0, 1) := by decide +kernel
theorem d_Li_sign_23 : decode prog_6_method_2_code 23 = .ok (.dup, 1) := by decide +kernel
theorem d_Li_sign_24 : decode prog_6_method_2_code 24 = .ok (.getfield 15, 3) := by decide +kernel
theorem d_Li_sign_27 : decode prog_6_method_2_code 27 = .ok (.iconst 1, 1) := by decide +kernel
theorem d_Li_sign_28 : decode prog_6_method_2_code 28 = .ok (.iadd, 1) := by decide +kernel
theorem d_Li_sign_29 : decode prog_6_method_2_code 29 = .ok (.putfield 15, 3) := by decide +kernel
theorem d_Li_sign_32 : decode prog_6_method_2_code 32 = .ok (.return_, 1) := by decide +kernel
theorem d_Li_number_0 : decode prog_6_method_3_code 0 = .ok (.iconst 1, 1) := by decide +kernel
theorem d_Li_number_1 : decode prog_6_method_3_code 1 = .ok (.istore_n 2, 1) := by decide +kernel
theorem d_Li_number_2 : decode prog_6_method_3_code 2 = .ok (.iconst 1, 1) := by decide +kernel
theorem d_Li_number_3 : decode prog_6_method_3_code 3 = .ok (.istore_n 3, 1) := by decide +kernel
theorem d_Li_number_4 : decode prog_6_method_3_code 4 = .ok (.iload_n 3, 1) := by decide +kernel
theorem d_Li_number_5 : decode prog_6_method_3_code 5 = .ok (.bipush 10, 2) := by decide +kernel
theorem d_Li_number_7 : decode prog_6_method_3_code 7 = .ok (.if_icmp .ge 22, 3) := by decide +kernel
theorem d_Li_number_10 : decode prog_6_method_3_code 10 = .ok (.iload_n 2, 1) := by decide +kernel
theorem d_Li_number_11 : decode prog_6_method_3_code 11 = .ok (.iload_n 1, 1) := by decide +kernel
theorem d_Li_number_12 : decode prog_6_method_3_code 12 = .ok (.bipush 10, 2) := by decide +kernel
theorem d_Li_number_14 : decode prog_6_method_3_code 14 = .ok (.idiv, 1) := by decide +kernel
theorem d_Li_number_15 : decode prog_6_method_3_code 15 = .ok (.if_icmp .gt 14, 3) := by decide +kernel
theorem d_Li_number_18 : decode prog_6_method_3_code 18 = .ok (.iload_n 2, 1) := by decide +kernel
theorem d_Li_number_19 : decode prog_6_method_3_code 19 = .ok (.bipush 10, 2) := by decide +kernel
theorem d_Li_number_21 : decode prog_6_method_3_code 21 = .ok (.imul, 1) := by decide +kernel
theorem d_Li_number_22 : decode prog_6_method_3_code 22 = .ok (.istore_n 2, 1) := by decide +kernel
theorem d_Li_number_23 : decode prog_6_method_3_code 23 = .ok (.iinc 3 1, 3) := by decide +kernel
theorem d_Li_number_26 : decode prog_6_method_3_code 26 = .ok (.goto (-22), 3) := by decide +kernel
theorem d_Li_number_29 : decode prog_6_method_3_code 29 = .ok (.iload_n 2, 1) := by decide +kernel
theorem d_Li_number_30 : decode prog_6_method_3_code 30 = .ok (.ifCond .le 25, 3) := by decide +kernel
theorem d_Li_number_33 : decode prog_6_method_3_code 33 = .ok (.aload_n 0, 1) := by decide +kernel
theorem d_Li_number_34 : decode prog_6_method_3_code 34 = .ok (.bipush 48, 2) := by decide +kernel
theorem d_Li_number_36 : decode prog_6_method_3_code 36 = .ok (.iload_n 1, 1) := by decide +kernel
theorem d_Li_number_37 : decode prog_6_method_3_code 37 = .ok (.iload_n 2, 1) := by decide +kernel
theorem d_Li_number_38 : decode prog_6_method_3_code 38 = .ok (.idiv, 1) := by decide +kernel
theorem d_Li_number_39 : decode prog_6_method_3_code 39 = .ok (.bipush 10, 2) := by decide +kernel
theorem d_Li_number_41 : decode prog_6_method_3_code 41 = .ok (.irem, 1) := by decide +kernel
theorem d_Li_number_42 : decode prog_6_method_3_code 42 = .ok (.iadd, 1) := by decide +kernel
theorem d_Li_number_43 : decode prog_6_method_3_code 43 = .ok (.i2c, 1) := by decide +kernel
theorem d_Li_number_44 : decode prog_6_method_3_code 44 = .ok (.invokevirtual 19, 3) := by decide +kernel
theorem d_Li_number_47 : decode prog_6_method_3_code 47 = .ok (.iload_n 2, 1) := by decide +kernel
theorem d_Li_number_48 : decode prog_6_method_3_code 48 = .ok (.bipush 10, 2) := by decide +kernel
theorem d_Li_number_50 : decode prog_6_method_3_code 50 = .ok (.idiv, 1) := by decide +kernel
theorem d_Li_number_51 : decode prog_6_method_3_code 51 = .ok (.istore_n 2, 1) := by decide +kernel
theorem d_Li_number_52 : decode prog_6_method_3_code 52 = .ok (.goto (-23), 3) := by decide +kernel
theorem d_Li_number_55 : decode prog_6_method_3_code 55 = .ok (.return_, 1) := by decide +kernel
theorem d_Li_signAt_0 : decode prog_6_method_4_code 0 = .ok (.iload_n 1, 1) := by decide +kernel
theorem d_Li_signAt_1 : decode prog_6_method_4_code 1 = .ok (.ifCond .lt 29, 3) := by decide +kernel
theorem d_Li_signAt_4 : decode prog_6_method_4_code 4 = .ok (.iload_n 1, 1) := by decide +kernel
theorem d_Li_signAt_5 : decode prog_6_method_4_code 5 = .ok (.aload_n 0, 1) := by decide +kernel
theorem d_Li_signAt_6 : decode prog_6_method_4_code 6 = .ok (.getfield 15, 3) := by decide +kernel
theorem d_Li_signAt_9 : decode prog_6_method_4_code 9 = .ok (.if_icmp .ge 21, 3) := by decide +kernel
theorem d_Li_signAt_12 : decode prog_6_method_4_code 12 = .ok (.iload_n 1, 1) := by decide +kernel
theorem d_Li_signAt_13 : decode prog_6_method_4_code 13 = .ok (.aload_n 0, 1) := by decide +kernel
theorem d_Li_signAt_14 : decode prog_6_method_4_code 14 = .ok (.getfield 9, 3) := by decide +kernel
theorem d_Li_signAt_17 : decode prog_6_method_4_code 17 = .ok (.arraylength, 1) := by decide +kernel
theorem d_Li_signAt_18 : decode prog_6_method_4_code 18 = .ok (.if_icmp .ge 12, 3) := by decide +kernel
theorem d_Li_signAt_21 : decode prog_6_method_4_code 21 = .ok (.aload_n 0, 1) := by decide +kernel
theorem d_Li_signAt_22 : decode prog_6_method_4_code 22 = .ok (.getfield 9, 3) := by decide +kernel
theorem d_Li_signAt_25 : decode prog_6_method_4_code 25 = .ok (.iload_n 1, 1) := by decide +kernel
theorem d_Li_signAt_26 : decode prog_6_method_4_code 26 = .ok (.caload, 1) := by decide +kernel
theorem d_Li_signAt_27 : decode prog_6_method_4_code 27 = .ok (.goto 4, 3) := by decide +kernel
theorem d_Li_signAt_30 : decode prog_6_method_4_code 30 = .ok (.iconst (-1), 1) := by decide +kernel
theorem d_Li_signAt_31 : decode prog_6_method_4_code 31 = .ok (.ireturn, 1) := by decide +kernel
theorem d_Re_init_0 : decode prog_7_method_1_code 0 = .ok (.aload_n 0, 1) := by decide +kernel
theorem d_Re_init_1 : decode prog_7_method_1_code 1 = .ok (.invokespecial 3, 3) := by decide +kernel
theorem d_Re_init_4 : decode prog_7_method_1_code 4 = .ok (.aload_n 0, 1) := by decide +kernel
theorem d_Re_init_5 : decode prog_7_method_1_code 5 = .ok (.new 9, 3) := by decide +kernel
theorem d_Re_init_8 : decode prog_7_method_1_code 8 = .ok (.dup, 1) := by decide +kernel
theorem d_Re_init_9 : decode prog_7_method_1_code 9 = .ok (.invokespecial 11, 3) := by decide +kernel
theorem d_Re_init_12 : decode prog_7_method_1_code 12 = .ok (.putfield 12, 3) := by decide +kernel
theorem d_Re_init_15 : decode prog_7_method_1_code 15 = .ok (.aload_n 0, 1) := by decide +kernel
theorem d_Re_init_16 : decode prog_7_method_1_code 16 = .ok (.iconst (-1), 1) := by decide +kernel
theorem d_Re_init_17 : decode prog_7_method_1_code 17 = .ok (.putfield 18, 3) := by decide +kernel
theorem d_Re_init_20 : decode prog_7_method_1_code 20 = .ok (.aload_n 0, 1) := by decide +kernel
theorem d_Re_init_21 : decode prog_7_method_1_code 21 = .ok (.aload_n 1, 1) := by decide +kernel
theorem d_Re_init_22 : decode prog_7_method_1_code 22 = .ok (.putfield 22, 3) := by decide +kernel
theorem d_Re_init_25 : decode prog_7_method_1_code 25 = .ok (.return_, 1) := by decide +kernel
theorem d_Re_read_0 : decode prog_7_method_2_code 0 = .ok (.aload_n 0, 1) := by decide +kernel
theorem d_Re_read_1 : decode prog_7_method_2_code 1 = .ok (.getfield 12, 3) := by decide +kernel
theorem d_Re_read_4 : decode prog_7_method_2_code 4 = .ok (.iconst 0, 1) := by decide +kernel
theorem d_Re_read_5 : decode prog_7_method_2_code 5 = .ok (.putfield 26, 3) := by decide +kernel
theorem d_Re_read_8 : decode prog_7_method_2_code 8 = .ok (.aload_n 0, 1) := by decide +kernel
theorem d_Re_read_9 : decode prog_7_method_2_code 9 = .ok (.iconst 0, 1) := by decide +kernel
theorem d_Re_read_10 : decode prog_7_method_2_code 10 = .ok (.putfield 29, 3) := by decide +kernel
theorem d_Re_read_13 : decode prog_7_method_2_code 13 = .ok (.aload_n 0, 1) := by decide +kernel
theorem d_Re_read_14 : decode prog_7_method_2_code 14 = .ok (.iconst (-1), 1) := by decide +kernel
theorem d_Re_read_15 : decode prog_7_method_2_code 15 = .ok (.putfield 18, 3) := by decide +kernel
theorem d_Re_read_18 : decode prog_7_method_2_code 18 = .ok (.aload_n 0, 1) := by decide +kernel
theorem d_Re_read_19 : decode prog_7_method_2_code 19 = .ok (.iload_n 1, 1) := by decide +kernel
theorem d_Re_read_20 : decode prog_7_method_2_code 20 = .ok (.putfield 32, 3) := by decide +kernel
theorem d_Re_read_23 : decode prog_7_method_2_code 23 = .ok (.aload_n 0, 1) := by decide +kernel
theorem d_Re_read_24 : decode prog_7_method_2_code 24 = .ok (.iconst 0, 1) := by decide +kernel
theorem d_Re_read_25 : decode prog_7_method_2_code 25 = .ok (.putfield 35, 3) := by decide +kernel
theorem d_Re_read_28 : decode prog_7_method_2_code 28 = .ok (.aload_n 0, 1) := by decide +kernel
theorem d_Re_read_29 : decode prog_7_method_2_code 29 = .ok (.invokevirtual 38, 3) := by decide +kernel
theorem d_Re_read_32 : decode prog_7_method_2_code 32 = .ok (.iconst 0, 1) := by decide +kernel
theorem d_Re_read_33 : decode prog_7_method_2_code 33 = .ok (.istore_n 2, 1) := by decide +kernel
theorem d_Re_read_34 : decode prog_7_method_2_code 34 = .ok (.iload_n 2, 1) := by decide +kernel
theorem d_Re_read_35 : decode prog_7_method_2_code 35 = .ok (.sipush 900, 3) := by decide +kernel
theorem d_Re_read_38 : decode prog_7_method_2_code 38 = .ok (.if_icmp .ge 35, 3) := by decide +kernel
theorem d_Re_read_41 : decode prog_7_method_2_code 41 = .ok (.aload_n 0, 1) := by decide +kernel
theorem d_Re_read_42 : decode prog_7_method_2_code 42 = .ok (.getfield 35, 3) := by decide +kernel
theorem d_Re_read_45 : decode prog_7_method_2_code 45 = .ok (.aload_n 0, 1) := by decide +kernel
theorem d_Re_read_46 : decode prog_7_method_2_code 46 = .ok (.getfield 32, 3) := by decide +kernel
theorem d_Re_read_49 : decode prog_7_method_2_code 49 = .ok (.if_icmp .ge 24, 3) := by decide +kernel
theorem d_Re_read_52 : decode prog_7_method_2_code 52 = .ok (.aload_n 0, 1) := by decide +kernel
theorem d_Re_read_53 : decode prog_7_method_2_code 53 = .ok (.getfield 29, 3) := by decide +kernel
theorem d_Re_read_56 : decode prog_7_method_2_code 56 = .ok (.ifCond .ne 17, 3) := by decide +kernel
theorem d_Re_read_59 : decode prog_7_method_2_code 59 = .ok (.aload_n 0, 1) := by decide +kernel
theorem d_Re_read_60 : decode prog_7_method_2_code 60 = .ok (.invokevirtual 41, 3) := by decide +kernel
theorem d_Re_read_63 : decode prog_7_method_2_code 63 = .ok (.aload_n 0, 1) := by decide +kernel
theorem d_Re_read_64 : decode prog_7_method_2_code 64 = .ok (.invokevirtual 38, 3) := by decide +kernel
theorem d_Re_read_67 : decode prog_7_method_2_code 67 = .ok (.iinc 2 1, 3) := by decide +kernel
theorem d_Re_read_70 : decode prog_7_method_2_code 70 = .ok (.goto (-36), 3) := by decide +kernel
theorem d_Re_read_73 : decode prog_7_method_2_code 73 = .ok (.return_, 1) := by decide +kernel
theorem d_Re_readLine_0 : decode prog_7_method_3_code 0 = .ok (.aload_n 0, 1) := by decide +kernel
theorem d_Re_readLine_1 : decode prog_7_method_3_code 1 = .ok (.getfield 35, 3) := by decide +kernel
theorem d_Re_readLine_4 : decode prog_7_method_3_code 4 = .ok (.istore_n 1, 1) := by decide +kernel
theorem d_Re_readLine_5 : decode prog_7_method_3_code 5 = .ok (.aload_n 0, 1) := by decide +kernel
theorem d_Re_readLine_6 : decode prog_7_method_3_code 6 = .ok (.invokevirtual 44, 3) := by decide +kernel
theorem d_Re_readLine_9 : decode prog_7_method_3_code 9 = .ok (.aload_n 0, 1) := by decide +kernel
theorem d_Re_readLine_10 : decode prog_7_method_3_code 10 = .ok (.iload_n 1, 1) := by decide +kernel
theorem d_Re_readLine_11 : decode prog_7_method_3_code 11 = .ok (.ldc 47, 2) := by decide +kernel
theorem d_Re_readLine_13 : decode prog_7_method_3_code 13 = .ok (.invokevirtual 49, 3) := by decide +kernel
theorem d_Re_readLine_16 : decode prog_7_method_3_code 16 = .ok (.istore_n 2, 1) := by decide +kernel
theorem d_Re_readLine_17 : decode prog_7_method_3_code 17 = .ok (.iload_n 2, 1) := by decide +kernel
theorem d_Re_readLine_18 : decode prog_7_method_3_code 18 = .ok (.ifCond .ne 19, 3) := by decide +kernel
theorem d_Re_readLine_21 : decode prog_7_method_3_code 21 = .ok (.aload_n 0, 1) := by decide +kernel
theorem d_Re_readLine_22 : decode prog_7_method_3_code 22 = .ok (.iload_n 1, 1) := by decide +kernel
theorem d_Re_readLine_23 : decode prog_7_method_3_code 23 = .ok (.ldc 53, 2) := by decide +kernel
theorem d_Re_readLine_25 : decode prog_7_method_3_code 25 = .ok (.invokevirtual 49, 3) := by decide +kernel
theorem d_Re_readLine_28 : decode prog_7_method_3_code 28 = .ok (.ifCond .ne 9, 3) := by decide +kernel
theorem d_Re_readLine_31 : decode prog_7_method_3_code 31 = .ok (.aload_n 0, 1) := by decide +kernel
theorem d_Re_readLine_32 : decode prog_7_method_3_code 32 = .ok (.iconst 1, 1) := by decide +kernel
theorem d_Re_readLine_33 : decode prog_7_method_3_code 33 = .ok (.iload_n 1, 1) := by decide +kernel
theorem d_Re_readLine_34 : decode prog_7_method_3_code 34 = .ok (.invokevirtual 55, 3) := by decide +kernel
theorem d_Re_readLine_37 : decode prog_7_method_3_code 37 = .ok (.aload_n 0, 1) := by decide +kernel
theorem d_Re_readLine_38 : decode prog_7_method_3_code 38 = .ok (.bipush 99, 2) := by decide +kernel
theorem d_Re_readLine_40 : decode prog_7_method_3_code 40 = .ok (.invokevirtual 59, 3) := by decide +kernel
theorem d_Re_readLine_43 : decode prog_7_method_3_code 43 = .ok (.istore_n 3, 1) := by decide +kernel
theorem d_Re_readLine_44 : decode prog_7_method_3_code 44 = .ok (.aload_n 0, 1) := by decide +kernel
theorem d_Re_readLine_45 : decode prog_7_method_3_code 45 = .ok (.sipush 9999, 3) := by decide +kernel
theorem d_Re_readLine_48 : decode prog_7_method_3_code 48 = .ok (.invokevirtual 59, 3) := by decide +kernel
theorem d_Re_readLine_51 : decode prog_7_method_3_code 51 = .ok (.istore 4, 2) := by decide +kernel
theorem d_Re_readLine_53 : decode prog_7_method_3_code 53 = .ok (.iload_n 2, 1) := by decide +kernel
theorem d_Re_readLine_54 : decode prog_7_method_3_code 54 = .ok (.ifCond .eq 16, 3) := by decide +kernel
theorem d_Re_readLine_57 : decode prog_7_method_3_code 57 = .ok (.aload_n 0, 1) := by decide +kernel
theorem d_Re_readLine_58 : decode prog_7_method_3_code 58 = .ok (.bipush 45, 2) := by decide +kernel
theorem d_Re_readLine_60 : decode prog_7_method_3_code 60 = .ok (.invokevirtual 63, 3) := by decide +kernel
theorem d_Re_readLine_63 : decode prog_7_method_3_code 63 = .ok (.ifCond .eq 7, 3) := by decide +kernel
theorem d_Re_readLine_66 : decode prog_7_method_3_code 66 = .ok (.iconst 1, 1) := by decide +kernel
theorem d_Re_readLine_67 : decode prog_7_method_3_code 67 = .ok (.goto 4, 3) := by decide +kernel
theorem d_Re_readLine_70 : decode prog_7_method_3_code 70 = .ok (.iconst 0, 1) := by decide +kernel
theorem d_Re_readLine_71 : decode prog_7_method_3_code 71 = .ok (.istore 5, 2) := by decide +kernel
theorem d_Re_readLine_73 : decode prog_7_method_3_code 73 = .ok (.aload_n 0, 1) := by decide +kernel
theorem d_Re_readLine_74 : decode prog_7_method_3_code 74 = .ok (.ldc 67, 2) := by decide +kernel
theorem d_Re_readLine_76 : decode prog_7_method_3_code 76 = .ok (.invokevirtual 59, 3) := by decide +kernel
theorem d_Re_readLine_79 : decode prog_7_method_3_code 79 = .ok (.istore 6, 2) := by decide +kernel
theorem d_Re_readLine_81 : decode prog_7_method_3_code 81 = .ok (.aload_n 0, 1) := by decide +kernel
theorem d_Re_readLine_82 : decode prog_7_method_3_code 82 = .ok (.getfield 29, 3) := by decide +kernel
theorem d_Re_readLine_85 : decode prog_7_method_3_code 85 = .ok (.ifCond .eq 4, 3) := by decide +kernel
theorem d_Re_readLine_88 : decode prog_7_method_3_code 88 = .ok (.return_, 1) := by decide +kernel
theorem d_Re_readLine_89 : decode prog_7_method_3_code 89 = .ok (.iload_n 2, 1) := by decide +kernel
theorem d_Re_readLine_90 : decode prog_7_method_3_code 90 = .ok (.ifCond .eq 26, 3) := by decide +kernel
theorem d_Re_readLine_93 : decode prog_7_method_3_code 93 = .ok (.aload_n 0, 1) := by decide +kernel
theorem d_Re_readLine_94 : decode prog_7_method_3_code 94 = .ok (.iload_n 3, 1) := by decide +kernel
theorem d_Re_readLine_95 : decode prog_7_method_3_code 95 = .ok (.iload 4, 2) := by decide +kernel
theorem d_Re_readLine_97 : decode prog_7_method_3_code 97 = .ok (.iload 5, 2) := by decide +kernel
theorem d_Re_readLine_99 : decode prog_7_method_3_code 99 = .ok (.ifCond .eq 9, 3) := by decide +kernel
theorem d_Re_readLine_102 : decode prog_7_method_3_code 102 = .ok (.iload 6, 2) := by decide +kernel
theorem d_Re_readLine_104 : decode prog_7_method_3_code 104 = .ok (.ineg, 1) := by decide +kernel
theorem d_Re_readLine_105 : decode prog_7_method_3_code 105 = .ok (.goto 5, 3) := by decide +kernel
theorem d_Re_readLine_108 : decode prog_7_method_3_code 108 = .ok (.iload 6, 2) := by decide +kernel
theorem d_Re_readLine_110 : decode prog_7_method_3_code 110 = .ok (.invokevirtual 68, 3) := by decide +kernel
theorem d_Re_readLine_113 : decode prog_7_method_3_code 113 = .ok (.goto 12, 3) := by decide +kernel
theorem d_Re_readLine_116 : decode prog_7_method_3_code 116 = .ok (.aload_n 0, 1) := by decide +kernel
theorem d_Re_readLine_117 : decode prog_7_method_3_code 117 = .ok (.iload_n 3, 1) := by decide +kernel
theorem d_Re_readLine_118 : decode prog_7_method_3_code 118 = .ok (.iload 4, 2) := by decide +kernel
theorem d_Re_readLine_120 : decode prog_7_method_3_code 120 = .ok (.iload 6, 2) := by decide +kernel
theorem d_Re_readLine_122 : decode prog_7_method_3_code 122 = .ok (.invokevirtual 72, 3) := by decide +kernel
theorem d_Re_readLine_125 : decode prog_7_method_3_code 125 = .ok (.istore 7, 2) := by decide +kernel
theorem d_Re_readLine_127 : decode prog_7_method_3_code 127 = .ok (.iload 7, 2) := by decide +kernel
theorem d_Re_readLine_129 : decode prog_7_method_3_code 129 = .ok (.ifCond .ne 12, 3) := by decide +kernel
theorem d_Re_readLine_132 : decode prog_7_method_3_code 132 = .ok (.aload_n 0, 1) := by decide +kernel
theorem d_Re_readLine_133 : decode prog_7_method_3_code 133 = .ok (.iconst 3, 1) := by decide +kernel
theorem d_Re_readLine_134 : decode prog_7_method_3_code 134 = .ok (.iload_n 1, 1) := by decide +kernel
theorem d_Re_readLine_135 : decode prog_7_method_3_code 135 = .ok (.invokevirtual 55, 3) := by decide +kernel
theorem d_Re_readLine_138 : decode prog_7_method_3_code 138 = .ok (.goto 21, 3) := by decide +kernel
theorem d_Re_readLine_141 : decode prog_7_method_3_code 141 = .ok (.aload_n 0, 1) := by decide +kernel
theorem d_Re_readLine_142 : decode prog_7_method_3_code 142 = .ok (.bipush 59, 2) := by decide +kernel
theorem d_Re_readLine_144 : decode prog_7_method_3_code 144 = .ok (.invokevirtual 63, 3) := by decide +kernel
theorem d_Re_readLine_147 : decode prog_7_method_3_code 147 = .ok (.ifCond .ne 12, 3) := by decide +kernel
theorem d_Re_readLine_150 : decode prog_7_method_3_code 150 = .ok (.aload_n 0, 1) := by decide +kernel
theorem d_Re_readLine_151 : decode prog_7_method_3_code 151 = .ok (.iconst 1, 1) := by decide +kernel
theorem d_Re_readLine_152 : decode prog_7_method_3_code 152 = .ok (.aload_n 0, 1) := by decide +kernel
theorem d_Re_readLine_153 : decode prog_7_method_3_code 153 = .ok (.getfield 35, 3) := by decide +kernel
theorem d_Re_readLine_156 : decode prog_7_method_3_code 156 = .ok (.invokevirtual 55, 3) := by decide +kernel
theorem d_Re_readLine_159 : decode prog_7_method_3_code 159 = .ok (.return_, 1) := by decide +kernel
theorem d_Re_takeItem_0 : decode prog_7_method_4_code 0 = .ok (.aload_n 0, 1) := by decide +kernel
theorem d_Re_takeItem_1 : decode prog_7_method_4_code 1 = .ok (.getfield 12, 3) := by decide +kernel
theorem d_Re_takeItem_4 : decode prog_7_method_4_code 4 = .ok (.invokevirtual 75, 3) := by decide +kernel
theorem d_Re_takeItem_7 : decode prog_7_method_4_code 7 = .ok (.ifCond .ne 16, 3) := by decide +kernel
theorem d_Re_takeItem_10 : decode prog_7_method_4_code 10 = .ok (.aload_n 0, 1) := by decide +kernel
theorem d_Re_takeItem_11 : decode prog_7_method_4_code 11 = .ok (.getfield 12, 3) := by decide +kernel
theorem d_Re_takeItem_14 : decode prog_7_method_4_code 14 = .ok (.iload_n 1, 1) := by decide +kernel
theorem d_Re_takeItem_15 : decode prog_7_method_4_code 15 = .ok (.iload_n 2, 1) := by decide +kernel
theorem d_Re_takeItem_16 : decode prog_7_method_4_code 16 = .ok (.invokevirtual 79, 3) := by decide +kernel
theorem d_Re_takeItem_19 : decode prog_7_method_4_code 19 = .ok (.iconst (-1), 1) := by decide +kernel
theorem d_Re_takeItem_20 : decode prog_7_method_4_code 20 = .ok (.if_icmp .eq 5, 3) := by decide +kernel
theorem d_Re_takeItem_23 : decode prog_7_method_4_code 23 = .ok (.iconst 0, 1) := by decide +kernel
theorem d_Re_takeItem_24 : decode prog_7_method_4_code 24 = .ok (.ireturn, 1) := by decide +kernel
theorem d_Re_takeItem_25 : decode prog_7_method_4_code 25 = .ok (.aload_n 0, 1) := by decide +kernel
theorem d_Re_takeItem_26 : decode prog_7_method_4_code 26 = .ok (.getfield 12, 3) := by decide +kernel
theorem d_Re_takeItem_29 : decode prog_7_method_4_code 29 = .ok (.iload_n 1, 1) := by decide +kernel
theorem d_Re_takeItem_30 : decode prog_7_method_4_code 30 = .ok (.iload_n 2, 1) := by decide +kernel
theorem d_Re_takeItem_31 : decode prog_7_method_4_code 31 = .ok (.iload_n 3, 1) := by decide +kernel
theorem d_Re_takeItem_32 : decode prog_7_method_4_code 32 = .ok (.invokevirtual 83, 3) := by decide +kernel
theorem d_Re_takeItem_35 : decode prog_7_method_4_code 35 = .ok (.iconst 1, 1) := by decide +kernel
theorem d_Re_takeItem_36 : decode prog_7_method_4_code 36 = .ok (.ireturn, 1) := by decide +kernel
theorem d_Re_takeAudit_0 : decode prog_7_method_5_code 0 = .ok (.aload_n 0, 1) := by decide +kernel
theorem d_Re_takeAudit_1 : decode prog_7_method_5_code 1 = .ok (.getfield 12, 3) := by decide +kernel
theorem d_Re_takeAudit_4 : decode prog_7_method_5_code 4 = .ok (.iload_n 1, 1) := by decide +kernel
theorem d_Re_takeAudit_5 : decode prog_7_method_5_code 5 = .ok (.iload_n 2, 1) := by decide +kernel
theorem d_Re_takeAudit_6 : decode prog_7_method_5_code 6 = .ok (.invokevirtual 79, 3) := by decide +kernel
theorem d_Re_takeAudit_9 : decode prog_7_method_5_code 9 = .ok (.istore 4, 2) := by decide +kernel
theorem d_Re_takeAudit_11 : decode prog_7_method_5_code 11 = .ok (.aload_n 0, 1) := by decide +kernel
theorem d_Re_takeAudit_12 : decode prog_7_method_5_code 12 = .ok (.getfield 12, 3) := by decide +kernel
theorem d_Re_takeAudit_15 : decode prog_7_method_5_code 15 = .ok (.iload 4, 2) := by decide +kernel
theorem d_Re_takeAudit_17 : decode prog_7_method_5_code 17 = .ok (.invokevirtual 87, 3) := by decide +kernel
theorem d_Re_takeAudit_20 : decode prog_7_method_5_code 20 = .ok (.ifCond .eq 16, 3) := by decide +kernel
theorem d_Re_takeAudit_23 : decode prog_7_method_5_code 23 = .ok (.aload_n 0, 1) := by decide +kernel
theorem d_Re_takeAudit_24 : decode prog_7_method_5_code 24 = .ok (.getfield 12, 3) := by decide +kernel
theorem d_Re_takeAudit_27 : decode prog_7_method_5_code 27 = .ok (.iload 4, 2) := by decide +kernel
theorem d_Re_takeAudit_29 : decode prog_7_method_5_code 29 = .ok (.iload_n 3, 1) := by decide +kernel
theorem d_Re_takeAudit_30 : decode prog_7_method_5_code 30 = .ok (.invokevirtual 90, 3) := by decide +kernel
theorem d_Re_takeAudit_33 : decode prog_7_method_5_code 33 = .ok (.ifCond .ne 5, 3) := by decide +kernel
theorem d_Re_takeAudit_36 : decode prog_7_method_5_code 36 = .ok (.iconst 0, 1) := by decide +kernel
theorem d_Re_takeAudit_37 : decode prog_7_method_5_code 37 = .ok (.ireturn, 1) := by decide +kernel
theorem d_Re_takeAudit_38 : decode prog_7_method_5_code 38 = .ok (.aload_n 0, 1) := by decide +kernel
theorem d_Re_takeAudit_39 : decode prog_7_method_5_code 39 = .ok (.getfield 12, 3) := by decide +kernel
theorem d_Re_takeAudit_42 : decode prog_7_method_5_code 42 = .ok (.getfield 94, 3) := by decide +kernel
theorem d_Re_takeAudit_45 : decode prog_7_method_5_code 45 = .ok (.iload 4, 2) := by decide +kernel
theorem d_Re_takeAudit_47 : decode prog_7_method_5_code 47 = .ok (.iload_n 3, 1) := by decide +kernel
theorem d_Re_takeAudit_48 : decode prog_7_method_5_code 48 = .ok (.iastore, 1) := by decide +kernel
theorem d_Re_takeAudit_49 : decode prog_7_method_5_code 49 = .ok (.iconst 1, 1) := by decide +kernel
theorem d_Re_takeAudit_50 : decode prog_7_method_5_code 50 = .ok (.ireturn, 1) := by decide +kernel
theorem d_Re_fail_0 : decode prog_7_method_6_code 0 = .ok (.aload_n 0, 1) := by decide +kernel
theorem d_Re_fail_1 : decode prog_7_method_6_code 1 = .ok (.getfield 29, 3) := by decide +kernel
theorem d_Re_fail_4 : decode prog_7_method_6_code 4 = .ok (.ifCond .ne 13, 3) := by decide +kernel
theorem d_Re_fail_7 : decode prog_7_method_6_code 7 = .ok (.aload_n 0, 1) := by decide +kernel
theorem d_Re_fail_8 : decode prog_7_method_6_code 8 = .ok (.iload_n 1, 1) := by decide +kernel
theorem d_Re_fail_9 : decode prog_7_method_6_code 9 = .ok (.putfield 29, 3) := by decide +kernel
theorem d_Re_fail_12 : decode prog_7_method_6_code 12 = .ok (.aload_n 0, 1) := by decide +kernel
theorem d_Re_fail_13 : decode prog_7_method_6_code 13 = .ok (.iload_n 2, 1) := by decide +kernel
theorem d_Re_fail_14 : decode prog_7_method_6_code 14 = .ok (.putfield 18, 3) := by decide +kernel
theorem d_Re_fail_17 : decode prog_7_method_6_code 17 = .ok (.return_, 1) := by decide +kernel
theorem d_Re_here_0 : decode prog_7_method_7_code 0 = .ok (.aload_n 0, 1) := by decide +kernel
theorem d_Re_here_1 : decode prog_7_method_7_code 1 = .ok (.getfield 35, 3) := by decide +kernel
theorem d_Re_here_4 : decode prog_7_method_7_code 4 = .ok (.aload_n 0, 1) := by decide +kernel
theorem d_Re_here_5 : decode prog_7_method_7_code 5 = .ok (.getfield 32, 3) := by decide +kernel
theorem d_Re_here_8 : decode prog_7_method_7_code 8 = .ok (.if_icmp .ge 17, 3) := by decide +kernel
theorem d_Re_here_11 : decode prog_7_method_7_code 11 = .ok (.aload_n 0, 1) := by decide +kernel
theorem d_Re_here_12 : decode prog_7_method_7_code 12 = .ok (.getfield 22, 3) := by decide +kernel
theorem d_Re_here_15 : decode prog_7_method_7_code 15 = .ok (.aload_n 0, 1) := by decide +kernel
theorem d_Re_here_16 : decode prog_7_method_7_code 16 = .ok (.getfield 35, 3) := by decide +kernel
theorem d_Re_here_19 : decode prog_7_method_7_code 19 = .ok (.invokevirtual 98, 3) := by decide +kernel
theorem d_Re_here_22 : decode prog_7_method_7_code 22 = .ok (.goto 4, 3) := by decide +kernel
theorem d_Re_here_25 : decode prog_7_method_7_code 25 = .ok (.iconst (-1), 1) := by decide +kernel
theorem d_Re_here_26 : decode prog_7_method_7_code 26 = .ok (.ireturn, 1) := by decide +kernel
theorem d_Re_skipBlanks_0 : decode prog_7_method_8_code 0 = .ok (.aload_n 0, 1) := by decide +kernel
theorem d_Re_skipBlanks_1 : decode prog_7_method_8_code 1 = .ok (.getfield 35, 3) := by decide +kernel
theorem d_Re_skipBlanks_4 : decode prog_7_method_8_code 4 = .ok (.aload_n 0, 1) := by decide +kernel
theorem d_Re_skipBlanks_5 : decode prog_7_method_8_code 5 = .ok (.getfield 32, 3) := by decide +kernel
theorem d_Re_skipBlanks_8 : decode prog_7_method_8_code 8 = .ok (.if_icmp .ge 25, 3) := by decide +kernel
theorem d_Re_skipBlanks_11 : decode prog_7_method_8_code 11 = .ok (.aload_n 0, 1) := by decide +kernel
theorem d_Re_skipBlanks_12 : decode prog_7_method_8_code 12 = .ok (.invokevirtual 103, 3) := by decide +kernel
theorem d_Re_skipBlanks_15 : decode prog_7_method_8_code 15 = .ok (.bipush 32, 2) := by decide +kernel
theorem d_Re_skipBlanks_17 : decode prog_7_method_8_code 17 = .ok (.if_icmp .ne 16, 3) := by decide +kernel
theorem d_Re_skipBlanks_20 : decode prog_7_method_8_code 20 = .ok (.aload_n 0, 1) := by decide +kernel
theorem d_Re_skipBlanks_21 : decode prog_7_method_8_code 21 = .ok (.dup, 1) := by decide +kernel
theorem d_Re_skipBlanks_22 : decode prog_7_method_8_code 22 = .ok (.getfield 35, 3) := by decide +kernel
theorem d_Re_skipBlanks_25 : decode prog_7_method_8_code 25 = .ok (.iconst 1, 1) := by decide +kernel
theorem d_Re_skipBlanks_26 : decode prog_7_method_8_code 26 = .ok (.iadd, 1) := by decide +kernel
theorem d_Re_skipBlanks_27 : decode prog_7_method_8_code 27 = .ok (.putfield 35, 3) := by decide +kernel
theorem d_Re_skipBlanks_30 : decode prog_7_method_8_code 30 = .ok (.goto (-30), 3) := by decide +kernel
theorem d_Re_skipBlanks_33 : decode prog_7_method_8_code 33 = .ok (.return_, 1) := by decide +kernel
theorem d_Re_skipWord_0 : decode prog_7_method_9_code 0 = .ok (.aload_n 0, 1) := by decide +kernel
theorem d_Re_skipWord_1 : decode prog_7_method_9_code 1 = .ok (.getfield 35, 3) := by decide +kernel
theorem d_Re_skipWord_4 : decode prog_7_method_9_code 4 = .ok (.aload_n 0, 1) := by decide +kernel
theorem d_Re_skipWord_5 : decode prog_7_method_9_code 5 = .ok (.getfield 32, 3) := by decide +kernel
theorem d_Re_skipWord_8 : decode prog_7_method_9_code 8 = .ok (.if_icmp .ge 34, 3) := by decide +kernel
theorem d_Re_skipWord_11 : decode prog_7_method_9_code 11 = .ok (.aload_n 0, 1) := by decide +kernel
theorem d_Re_skipWord_12 : decode prog_7_method_9_code 12 = .ok (.invokevirtual 103, 3) := by decide +kernel
theorem d_Re_skipWord_15 : decode prog_7_method_9_code 15 = .ok (.bipush 97, 2) := by decide +kernel
theorem d_Re_skipWord_17 : decode prog_7_method_9_code 17 = .ok (.if_icmp .lt 25, 3) := by decide +kernel
theorem d_Re_skipWord_20 : decode prog_7_method_9_code 20 = .ok (.aload_n 0, 1) := by decide +kernel
theorem d_Re_skipWord_21 : decode prog_7_method_9_code 21 = .ok (.invokevirtual 103, 3) := by decide +kernel
theorem d_Re_skipWord_24 : decode prog_7_method_9_code 24 = .ok (.bipush 122, 2) := by decide +kernel
theorem d_Re_skipWord_26 : decode prog_7_method_9_code 26 = .ok (.if_icmp .gt 16, 3) := by decide +kernel
theorem d_Re_skipWord_29 : decode prog_7_method_9_code 29 = .ok (.aload_n 0, 1) := by decide +kernel
theorem d_Re_skipWord_30 : decode prog_7_method_9_code 30 = .ok (.dup, 1) := by decide +kernel
theorem d_Re_skipWord_31 : decode prog_7_method_9_code 31 = .ok (.getfield 35, 3) := by decide +kernel
theorem d_Re_skipWord_34 : decode prog_7_method_9_code 34 = .ok (.iconst 1, 1) := by decide +kernel
theorem d_Re_skipWord_35 : decode prog_7_method_9_code 35 = .ok (.iadd, 1) := by decide +kernel
theorem d_Re_skipWord_36 : decode prog_7_method_9_code 36 = .ok (.putfield 35, 3) := by decide +kernel
theorem d_Re_skipWord_39 : decode prog_7_method_9_code 39 = .ok (.goto (-39), 3) := by decide +kernel
theorem d_Re_skipWord_42 : decode prog_7_method_9_code 42 = .ok (.return_, 1) := by decide +kernel
theorem d_Re_isWord_0 : decode prog_7_method_10_code 0 = .ok (.aload_n 0, 1) := by decide +kernel
theorem d_Re_isWord_1 : decode prog_7_method_10_code 1 = .ok (.getfield 35, 3) := by decide +kernel
theorem d_Re_isWord_4 : decode prog_7_method_10_code 4 = .ok (.iload_n 1, 1) := by decide +kernel
theorem d_Re_isWord_5 : decode prog_7_method_10_code 5 = .ok (.isub, 1) := by decide +kernel
theorem d_Re_isWord_6 : decode prog_7_method_10_code 6 = .ok (.aload_n 2, 1) := by decide +kernel
theorem d_Re_isWord_7 : decode prog_7_method_10_code 7 = .ok (.invokevirtual 107, 3) := by decide +kernel
theorem d_Re_isWord_10 : decode prog_7_method_10_code 10 = .ok (.if_icmp .eq 5, 3) := by decide +kernel
theorem d_Re_isWord_13 : decode prog_7_method_10_code 13 = .ok (.iconst 0, 1) := by decide +kernel
theorem d_Re_isWord_14 : decode prog_7_method_10_code 14 = .ok (.ireturn, 1) := by decide +kernel
theorem d_Re_isWord_15 : decode prog_7_method_10_code 15 = .ok (.iconst 0, 1) := by decide +kernel
theorem d_Re_isWord_16 : decode prog_7_method_10_code 16 = .ok (.istore_n 3, 1) := by decide +kernel
theorem d_Re_isWord_17 : decode prog_7_method_10_code 17 = .ok (.iload_n 3, 1) := by decide +kernel
theorem d_Re_isWord_18 : decode prog_7_method_10_code 18 = .ok (.aload_n 2, 1) := by decide +kernel
theorem d_Re_isWord_19 : decode prog_7_method_10_code 19 = .ok (.invokevirtual 107, 3) := by decide +kernel
theorem d_Re_isWord_22 : decode prog_7_method_10_code 22 = .ok (.if_icmp .ge 29, 3) := by decide +kernel
theorem d_Re_isWord_25 : decode prog_7_method_10_code 25 = .ok (.aload_n 0, 1) := by decide +kernel
theorem d_Re_isWord_26 : decode prog_7_method_10_code 26 = .ok (.getfield 22, 3) := by decide +kernel
theorem d_Re_isWord_29 : decode prog_7_method_10_code 29 = .ok (.iload_n 1, 1) := by decide +kernel
theorem d_Re_isWord_30 : decode prog_7_method_10_code 30 = .ok (.iload_n 3, 1) := by decide +kernel
theorem d_Re_isWord_31 : decode prog_7_method_10_code 31 = .ok (.iadd, 1) := by decide +kernel
theorem d_Re_isWord_32 : decode prog_7_method_10_code 32 = .ok (.invokevirtual 98, 3) := by decide +kernel
theorem d_Re_isWord_35 : decode prog_7_method_10_code 35 = .ok (.aload_n 2, 1) := by decide +kernel
theorem d_Re_isWord_36 : decode prog_7_method_10_code 36 = .ok (.iload_n 3, 1) := by decide +kernel
theorem d_Re_isWord_37 : decode prog_7_method_10_code 37 = .ok (.invokevirtual 112, 3) := by decide +kernel
theorem d_Re_isWord_40 : decode prog_7_method_10_code 40 = .ok (.if_icmp .eq 5, 3) := by decide +kernel
theorem d_Re_isWord_43 : decode prog_7_method_10_code 43 = .ok (.iconst 0, 1) := by decide +kernel
theorem d_Re_isWord_44 : decode prog_7_method_10_code 44 = .ok (.ireturn, 1) := by decide +kernel
theorem d_Re_isWord_45 : decode prog_7_method_10_code 45 = .ok (.iinc 3 1, 3) := by decide +kernel
theorem d_Re_isWord_48 : decode prog_7_method_10_code 48 = .ok (.goto (-31), 3) := by decide +kernel
theorem d_Re_isWord_51 : decode prog_7_method_10_code 51 = .ok (.iconst 1, 1) := by decide +kernel
theorem d_Re_isWord_52 : decode prog_7_method_10_code 52 = .ok (.ireturn, 1) := by decide +kernel
theorem d_Re_skipSign_0 : decode prog_7_method_11_code 0 = .ok (.aload_n 0, 1) := by decide +kernel
theorem d_Re_skipSign_1 : decode prog_7_method_11_code 1 = .ok (.invokevirtual 38, 3) := by decide +kernel
theorem d_Re_skipSign_4 : decode prog_7_method_11_code 4 = .ok (.aload_n 0, 1) := by decide +kernel
theorem d_Re_skipSign_5 : decode prog_7_method_11_code 5 = .ok (.invokevirtual 103, 3) := by decide +kernel
theorem d_Re_skipSign_8 : decode prog_7_method_11_code 8 = .ok (.iload_n 1, 1) := by decide +kernel
theorem d_Re_skipSign_9 : decode prog_7_method_11_code 9 = .ok (.if_icmp .eq 5, 3) := by decide +kernel
theorem d_Re_skipSign_12 : decode prog_7_method_11_code 12 = .ok (.iconst 0, 1) := by decide +kernel
theorem d_Re_skipSign_13 : decode prog_7_method_11_code 13 = .ok (.ireturn, 1) := by decide +kernel
theorem d_Re_skipSign_14 : decode prog_7_method_11_code 14 = .ok (.aload_n 0, 1) := by decide +kernel
theorem d_Re_skipSign_15 : decode prog_7_method_11_code 15 = .ok (.dup, 1) := by decide +kernel
theorem d_Re_skipSign_16 : decode prog_7_method_11_code 16 = .ok (.getfield 35, 3) := by decide +kernel
theorem d_Re_skipSign_19 : decode prog_7_method_11_code 19 = .ok (.iconst 1, 1) := by decide +kernel
theorem d_Re_skipSign_20 : decode prog_7_method_11_code 20 = .ok (.iadd, 1) := by decide +kernel
theorem d_Re_skipSign_21 : decode prog_7_method_11_code 21 = .ok (.putfield 35, 3) := by decide +kernel
theorem d_Re_skipSign_24 : decode prog_7_method_11_code 24 = .ok (.iconst 1, 1) := by decide +kernel
theorem d_Re_skipSign_25 : decode prog_7_method_11_code 25 = .ok (.ireturn, 1) := by decide +kernel
theorem d_Re_readNumber_0 : decode prog_7_method_12_code 0 = .ok (.aload_n 0, 1) := by decide +kernel
theorem d_Re_readNumber_1 : decode prog_7_method_12_code 1 = .ok (.invokevirtual 38, 3) := by decide +kernel
theorem d_Re_readNumber_4 : decode prog_7_method_12_code 4 = .ok (.aload_n 0, 1) := by decide +kernel
theorem d_Re_readNumber_5 : decode prog_7_method_12_code 5 = .ok (.getfield 35, 3) := by decide +kernel
theorem d_Re_readNumber_8 : decode prog_7_method_12_code 8 = .ok (.istore_n 2, 1) := by decide +kernel
theorem d_Re_readNumber_9 : decode prog_7_method_12_code 9 = .ok (.iconst 0, 1) := by decide +kernel
theorem d_Re_readNumber_10 : decode prog_7_method_12_code 10 = .ok (.istore_n 3, 1) := by decide +kernel
theorem d_Re_readNumber_11 : decode prog_7_method_12_code 11 = .ok (.aload_n 0, 1) := by decide +kernel
theorem d_Re_readNumber_12 : decode prog_7_method_12_code 12 = .ok (.getfield 35, 3) := by decide +kernel
theorem d_Re_readNumber_15 : decode prog_7_method_12_code 15 = .ok (.aload_n 0, 1) := by decide +kernel
theorem d_Re_readNumber_16 : decode prog_7_method_12_code 16 = .ok (.getfield 32, 3) := by decide +kernel
theorem d_Re_readNumber_19 : decode prog_7_method_12_code 19 = .ok (.if_icmp .ge 57, 3) := by decide +kernel
theorem d_Re_readNumber_22 : decode prog_7_method_12_code 22 = .ok (.aload_n 0, 1) := by decide +kernel
theorem d_Re_readNumber_23 : decode prog_7_method_12_code 23 = .ok (.invokevirtual 103, 3) := by decide +kernel
theorem d_Re_readNumber_26 : decode prog_7_method_12_code 26 = .ok (.bipush 48, 2) := by decide +kernel
theorem d_Re_readNumber_28 : decode prog_7_method_12_code 28 = .ok (.if_icmp .lt 48, 3) := by decide +kernel
theorem d_Re_readNumber_31 : decode prog_7_method_12_code 31 = .ok (.aload_n 0, 1) := by decide +kernel
theorem d_Re_readNumber_32 : decode prog_7_method_12_code 32 = .ok (.invokevirtual 103, 3) := by decide +kernel
theorem d_Re_readNumber_35 : decode prog_7_method_12_code 35 = .ok (.bipush 57, 2) := by decide +kernel
theorem d_Re_readNumber_37 : decode prog_7_method_12_code 37 = .ok (.if_icmp .gt 39, 3) := by decide +kernel
theorem d_Re_readNumber_40 : decode prog_7_method_12_code 40 = .ok (.aload_n 0, 1) := by decide +kernel
theorem d_Re_readNumber_41 : decode prog_7_method_12_code 41 = .ok (.getfield 35, 3) := by decide +kernel
theorem d_Re_readNumber_44 : decode prog_7_method_12_code 44 = .ok (.iload_n 2, 1) := by decide +kernel
theorem d_Re_readNumber_45 : decode prog_7_method_12_code 45 = .ok (.isub, 1) := by decide +kernel
theorem d_Re_readNumber_46 : decode prog_7_method_12_code 46 = .ok (.iconst 5, 1) := by decide +kernel
theorem d_Re_readNumber_47 : decode prog_7_method_12_code 47 = .ok (.if_icmp .ge 16, 3) := by decide +kernel
theorem d_Re_readNumber_50 : decode prog_7_method_12_code 50 = .ok (.bipush 10, 2) := by decide +kernel
theorem d_Re_readNumber_52 : decode prog_7_method_12_code 52 = .ok (.iload_n 3, 1) := by decide +kernel
theorem d_Re_readNumber_53 : decode prog_7_method_12_code 53 = .ok (.imul, 1) := by decide +kernel
theorem d_Re_readNumber_54 : decode prog_7_method_12_code 54 = .ok (.aload_n 0, 1) := by decide +kernel
theorem d_Re_readNumber_55 : decode prog_7_method_12_code 55 = .ok (.invokevirtual 103, 3) := by decide +kernel
theorem d_Re_readNumber_58 : decode prog_7_method_12_code 58 = .ok (.iadd, 1) := by decide +kernel
theorem d_Re_readNumber_59 : decode prog_7_method_12_code 59 = .ok (.bipush 48, 2) := by decide +kernel
theorem d_Re_readNumber_61 : decode prog_7_method_12_code 61 = .ok (.isub, 1) := by decide +kernel
theorem d_Re_readNumber_62 : decode prog_7_method_12_code 62 = .ok (.istore_n 3, 1) := by decide +kernel
theorem d_Re_readNumber_63 : decode prog_7_method_12_code 63 = .ok (.aload_n 0, 1) := by decide +kernel
theorem d_Re_readNumber_64 : decode prog_7_method_12_code 64 = .ok (.dup, 1) := by decide +kernel
theorem d_Re_readNumber_65 : decode prog_7_method_12_code 65 = .ok (.getfield 35, 3) := by decide +kernel
theorem d_Re_readNumber_68 : decode prog_7_method_12_code 68 = .ok (.iconst 1, 1) := by decide +kernel
theorem d_Re_readNumber_69 : decode prog_7_method_12_code 69 = .ok (.iadd, 1) := by decide +kernel
theorem d_Re_readNumber_70 : decode prog_7_method_12_code 70 = .ok (.putfield 35, 3) := by decide +kernel
theorem d_Re_readNumber_73 : decode prog_7_method_12_code 73 = .ok (.goto (-62), 3) := by decide +kernel
theorem d_Re_readNumber_76 : decode prog_7_method_12_code 76 = .ok (.aload_n 0, 1) := by decide +kernel
theorem d_Re_readNumber_77 : decode prog_7_method_12_code 77 = .ok (.getfield 35, 3) := by decide +kernel
theorem d_Re_readNumber_80 : decode prog_7_method_12_code 80 = .ok (.iload_n 2, 1) := by decide +kernel
theorem d_Re_readNumber_81 : decode prog_7_method_12_code 81 = .ok (.if_icmp .ne 12, 3) := by decide +kernel
theorem d_Re_readNumber_84 : decode prog_7_method_12_code 84 = .ok (.aload_n 0, 1) := by decide +kernel
theorem d_Re_readNumber_85 : decode prog_7_method_12_code 85 = .ok (.iconst 1, 1) := by decide +kernel
theorem d_Re_readNumber_86 : decode prog_7_method_12_code 86 = .ok (.iload_n 2, 1) := by decide +kernel
theorem d_Re_readNumber_87 : decode prog_7_method_12_code 87 = .ok (.invokevirtual 55, 3) := by decide +kernel
theorem d_Re_readNumber_90 : decode prog_7_method_12_code 90 = .ok (.goto 24, 3) := by decide +kernel
theorem d_Re_readNumber_93 : decode prog_7_method_12_code 93 = .ok (.aload_n 0, 1) := by decide +kernel
theorem d_Re_readNumber_94 : decode prog_7_method_12_code 94 = .ok (.getfield 35, 3) := by decide +kernel
theorem d_Re_readNumber_97 : decode prog_7_method_12_code 97 = .ok (.iload_n 2, 1) := by decide +kernel
theorem d_Re_readNumber_98 : decode prog_7_method_12_code 98 = .ok (.isub, 1) := by decide +kernel
theorem d_Re_readNumber_99 : decode prog_7_method_12_code 99 = .ok (.iconst 5, 1) := by decide +kernel
theorem d_Re_readNumber_100 : decode prog_7_method_12_code 100 = .ok (.if_icmp .gt 8, 3) := by decide +kernel
theorem d_Re_readNumber_103 : decode prog_7_method_12_code 103 = .ok (.iload_n 3, 1) := by decide +kernel
theorem d_Re_readNumber_104 : decode prog_7_method_12_code 104 = .ok (.iload_n 1, 1) := by decide +kernel
theorem d_Re_readNumber_105 : decode prog_7_method_12_code 105 = .ok (.if_icmp .le 9, 3) := by decide +kernel
theorem d_Re_readNumber_108 : decode prog_7_method_12_code 108 = .ok (.aload_n 0, 1) := by decide +kernel
theorem d_Re_readNumber_109 : decode prog_7_method_12_code 109 = .ok (.iconst 2, 1) := by decide +kernel
theorem d_Re_readNumber_110 : decode prog_7_method_12_code 110 = .ok (.iload_n 2, 1) := by decide +kernel
theorem d_Re_readNumber_111 : decode prog_7_method_12_code 111 = .ok (.invokevirtual 55, 3) := by decide +kernel
theorem d_Re_readNumber_114 : decode prog_7_method_12_code 114 = .ok (.iload_n 3, 1) := by decide +kernel
theorem d_Re_readNumber_115 : decode prog_7_method_12_code 115 = .ok (.ireturn, 1) := by decide +kernel
theorem d_St_init_0 : decode prog_8_method_1_code 0 = .ok (.aload_n 0, 1) := by decide +kernel
theorem d_St_init_1 : decode prog_8_method_1_code 1 = .ok (.invokespecial 3, 3) := by decide +kernel
theorem d_St_init_4 : decode prog_8_method_1_code 4 = .ok (.aload_n 0, 1) := by decide +kernel
theorem d_St_init_5 : decode prog_8_method_1_code 5 = .ok (.bipush 48, 2) := by decide +kernel
theorem d_St_init_7 : decode prog_8_method_1_code 7 = .ok (.newarray .boolean, 2) := by decide +kernel
theorem d_St_init_9 : decode prog_8_method_1_code 9 = .ok (.putfield 9, 3) := by decide +kernel
theorem d_St_init_12 : decode prog_8_method_1_code 12 = .ok (.aload_n 0, 1) := by decide +kernel
theorem d_St_init_13 : decode prog_8_method_1_code 13 = .ok (.bipush 49, 2) := by decide +kernel
theorem d_St_init_15 : decode prog_8_method_1_code 15 = .ok (.newarray .int, 2) := by decide +kernel
theorem d_St_init_17 : decode prog_8_method_1_code 17 = .ok (.putfield 15, 3) := by decide +kernel
theorem d_St_init_20 : decode prog_8_method_1_code 20 = .ok (.aload_n 0, 1) := by decide +kernel
theorem d_St_init_21 : decode prog_8_method_1_code 21 = .ok (.aload_n 1, 1) := by decide +kernel
theorem d_St_init_22 : decode prog_8_method_1_code 22 = .ok (.putfield 19, 3) := by decide +kernel
theorem d_St_init_25 : decode prog_8_method_1_code 25 = .ok (.aload_n 0, 1) := by decide +kernel
theorem d_St_init_26 : decode prog_8_method_1_code 26 = .ok (.aload_n 2, 1) := by decide +kernel
theorem d_St_init_27 : decode prog_8_method_1_code 27 = .ok (.putfield 23, 3) := by decide +kernel
theorem d_St_init_30 : decode prog_8_method_1_code 30 = .ok (.return_, 1) := by decide +kernel
theorem d_Ta_init_0 : decode prog_9_method_1_code 0 = .ok (.aload_n 0, 1) := by decide +kernel
theorem d_Ta_init_1 : decode prog_9_method_1_code 1 = .ok (.invokespecial 3, 3) := by decide +kernel
theorem d_Ta_init_4 : decode prog_9_method_1_code 4 = .ok (.aload_n 0, 1) := by decide +kernel
theorem d_Ta_init_5 : decode prog_9_method_1_code 5 = .ok (.sipush 900, 3) := by decide +kernel
theorem d_Ta_init_8 : decode prog_9_method_1_code 8 = .ok (.newarray .byte, 2) := by decide +kernel
theorem d_Ta_init_10 : decode prog_9_method_1_code 10 = .ok (.putfield 9, 3) := by decide +kernel
theorem d_Ta_init_13 : decode prog_9_method_1_code 13 = .ok (.return_, 1) := by decide +kernel
theorem d_Ta_write_0 : decode prog_9_method_2_code 0 = .ok (.bipush 24, 2) := by decide +kernel
theorem d_Ta_write_2 : decode prog_9_method_2_code 2 = .ok (.istore_n 2, 1) := by decide +kernel
theorem d_Ta_write_3 : decode prog_9_method_2_code 3 = .ok (.iload_n 2, 1) := by decide +kernel
theorem d_Ta_write_4 : decode prog_9_method_2_code 4 = .ok (.ifCond .lt 42, 3) := by decide +kernel
theorem d_Ta_write_7 : decode prog_9_method_2_code 7 = .ok (.aload_n 0, 1) := by decide +kernel
theorem d_Ta_write_8 : decode prog_9_method_2_code 8 = .ok (.getfield 15, 3) := by decide +kernel
theorem d_Ta_write_11 : decode prog_9_method_2_code 11 = .ok (.sipush 900, 3) := by decide +kernel
theorem d_Ta_write_14 : decode prog_9_method_2_code 14 = .ok (.if_icmp .ge 32, 3) := by decide +kernel
theorem d_Ta_write_17 : decode prog_9_method_2_code 17 = .ok (.aload_n 0, 1) := by decide +kernel
theorem d_Ta_write_18 : decode prog_9_method_2_code 18 = .ok (.getfield 9, 3) := by decide +kernel
theorem d_Ta_write_21 : decode prog_9_method_2_code 21 = .ok (.aload_n 0, 1) := by decide +kernel
theorem d_Ta_write_22 : decode prog_9_method_2_code 22 = .ok (.getfield 15, 3) := by decide +kernel
theorem d_Ta_write_25 : decode prog_9_method_2_code 25 = .ok (.iload_n 1, 1) := by decide +kernel
theorem d_Ta_write_26 : decode prog_9_method_2_code 26 = .ok (.iload_n 2, 1) := by decide +kernel
theorem d_Ta_write_27 : decode prog_9_method_2_code 27 = .ok (.ishr, 1) := by decide +kernel
theorem d_Ta_write_28 : decode prog_9_method_2_code 28 = .ok (.i2b, 1) := by decide +kernel
theorem d_Ta_write_29 : decode prog_9_method_2_code 29 = .ok (.bastore, 1) := by decide +kernel
theorem d_Ta_write_30 : decode prog_9_method_2_code 30 = .ok (.aload_n 0, 1) := by decide +kernel
theorem d_Ta_write_31 : decode prog_9_method_2_code 31 = .ok (.dup, 1) := by decide +kernel
theorem d_Ta_write_32 : decode prog_9_method_2_code 32 = .ok (.getfield 15, 3) := by decide +kernel
theorem d_Ta_write_35 : decode prog_9_method_2_code 35 = .ok (.iconst 1, 1) := by decide +kernel
theorem d_Ta_write_36 : decode prog_9_method_2_code 36 = .ok (.iadd, 1) := by decide +kernel
theorem d_Ta_write_37 : decode prog_9_method_2_code 37 = .ok (.putfield 15, 3) := by decide +kernel
theorem d_Ta_write_40 : decode prog_9_method_2_code 40 = .ok (.iinc 2 (-8), 3) := by decide +kernel
theorem d_Ta_write_43 : decode prog_9_method_2_code 43 = .ok (.goto (-40), 3) := by decide +kernel
theorem d_Ta_write_46 : decode prog_9_method_2_code 46 = .ok (.return_, 1) := by decide +kernel
theorem d_Ta_byteAt_0 : decode prog_9_method_3_code 0 = .ok (.iload_n 1, 1) := by decide +kernel
theorem d_Ta_byteAt_1 : decode prog_9_method_3_code 1 = .ok (.ifCond .lt 24, 3) := by decide +kernel
theorem d_Ta_byteAt_4 : decode prog_9_method_3_code 4 = .ok (.iload_n 1, 1) := by decide +kernel
theorem d_Ta_byteAt_5 : decode prog_9_method_3_code 5 = .ok (.aload_n 0, 1) := by decide +kernel
theorem d_Ta_byteAt_6 : decode prog_9_method_3_code 6 = .ok (.getfield 15, 3) := by decide +kernel
theorem d_Ta_byteAt_9 : decode prog_9_method_3_code 9 = .ok (.if_icmp .ge 16, 3) := by decide +kernel
theorem d_Ta_byteAt_12 : decode prog_9_method_3_code 12 = .ok (.aload_n 0, 1) := by decide +kernel
theorem d_Ta_byteAt_13 : decode prog_9_method_3_code 13 = .ok (.getfield 9, 3) := by decide +kernel
theorem d_Ta_byteAt_16 : decode prog_9_method_3_code 16 = .ok (.iload_n 1, 1) := by decide +kernel
theorem d_Ta_byteAt_17 : decode prog_9_method_3_code 17 = .ok (.baload, 1) := by decide +kernel
theorem d_Ta_byteAt_18 : decode prog_9_method_3_code 18 = .ok (.sipush 255, 3) := by decide +kernel
theorem d_Ta_byteAt_21 : decode prog_9_method_3_code 21 = .ok (.iand, 1) := by decide +kernel
theorem d_Ta_byteAt_22 : decode prog_9_method_3_code 22 = .ok (.goto 4, 3) := by decide +kernel
theorem d_Ta_byteAt_25 : decode prog_9_method_3_code 25 = .ok (.iconst (-1), 1) := by decide +kernel
theorem d_Ta_byteAt_26 : decode prog_9_method_3_code 26 = .ok (.ireturn, 1) := by decide +kernel
theorem d_Te_init_0 : decode prog_10_method_1_code 0 = .ok (.aload_n 0, 1) := by decide +kernel
theorem d_Te_init_1 : decode prog_10_method_1_code 1 = .ok (.invokespecial 3, 3) := by decide +kernel
theorem d_Te_init_4 : decode prog_10_method_1_code 4 = .ok (.aload_n 0, 1) := by decide +kernel
theorem d_Te_init_5 : decode prog_10_method_1_code 5 = .ok (.iconst 5, 1) := by decide +kernel
theorem d_Te_init_6 : decode prog_10_method_1_code 6 = .ok (.newarray .int, 2) := by decide +kernel
theorem d_Te_init_8 : decode prog_10_method_1_code 8 = .ok (.dup, 1) := by decide +kernel
theorem d_Te_init_9 : decode prog_10_method_1_code 9 = .ok (.iconst 0, 1) := by decide +kernel
theorem d_Te_init_10 : decode prog_10_method_1_code 10 = .ok (.ldc 9, 2) := by decide +kernel
theorem d_Te_init_12 : decode prog_10_method_1_code 12 = .ok (.iastore, 1) := by decide +kernel
theorem d_Te_init_13 : decode prog_10_method_1_code 13 = .ok (.dup, 1) := by decide +kernel
theorem d_Te_init_14 : decode prog_10_method_1_code 14 = .ok (.iconst 1, 1) := by decide +kernel
theorem d_Te_init_15 : decode prog_10_method_1_code 15 = .ok (.bipush 50, 2) := by decide +kernel
theorem d_Te_init_17 : decode prog_10_method_1_code 17 = .ok (.iastore, 1) := by decide +kernel
theorem d_Te_init_18 : decode prog_10_method_1_code 18 = .ok (.dup, 1) := by decide +kernel
theorem d_Te_init_19 : decode prog_10_method_1_code 19 = .ok (.iconst 2, 1) := by decide +kernel
theorem d_Te_init_20 : decode prog_10_method_1_code 20 = .ok (.iconst 0, 1) := by decide +kernel
theorem d_Te_init_21 : decode prog_10_method_1_code 21 = .ok (.iastore, 1) := by decide +kernel
theorem d_Te_init_22 : decode prog_10_method_1_code 22 = .ok (.dup, 1) := by decide +kernel
theorem d_Te_init_23 : decode prog_10_method_1_code 23 = .ok (.iconst 3, 1) := by decide +kernel
theorem d_Te_init_24 : decode prog_10_method_1_code 24 = .ok (.iconst 0, 1) := by decide +kernel
theorem d_Te_init_25 : decode prog_10_method_1_code 25 = .ok (.iastore, 1) := by decide +kernel
theorem d_Te_init_26 : decode prog_10_method_1_code 26 = .ok (.dup, 1) := by decide +kernel
theorem d_Te_init_27 : decode prog_10_method_1_code 27 = .ok (.iconst 4, 1) := by decide +kernel
theorem d_Te_init_28 : decode prog_10_method_1_code 28 = .ok (.bipush 7, 2) := by decide +kernel
theorem d_Te_init_30 : decode prog_10_method_1_code 30 = .ok (.iastore, 1) := by decide +kernel
theorem d_Te_init_31 : decode prog_10_method_1_code 31 = .ok (.putfield 10, 3) := by decide +kernel
theorem d_Te_init_34 : decode prog_10_method_1_code 34 = .ok (.return_, 1) := by decide +kernel
theorem d_Te_has_0 : decode prog_10_method_2_code 0 = .ok (.iload_n 1, 1) := by decide +kernel
theorem d_Te_has_1 : decode prog_10_method_2_code 1 = .ok (.ifCond .lt 12, 3) := by decide +kernel
theorem d_Te_has_4 : decode prog_10_method_2_code 4 = .ok (.iload_n 1, 1) := by decide +kernel
theorem d_Te_has_5 : decode prog_10_method_2_code 5 = .ok (.iconst 5, 1) := by decide +kernel
theorem d_Te_has_6 : decode prog_10_method_2_code 6 = .ok (.if_icmp .ge 7, 3) := by decide +kernel
theorem d_Te_has_9 : decode prog_10_method_2_code 9 = .ok (.iconst 1, 1) := by decide +kernel
theorem d_Te_has_10 : decode prog_10_method_2_code 10 = .ok (.goto 4, 3) := by decide +kernel
theorem d_Te_has_13 : decode prog_10_method_2_code 13 = .ok (.iconst 0, 1) := by decide +kernel
theorem d_Te_has_14 : decode prog_10_method_2_code 14 = .ok (.ireturn, 1) := by decide +kernel
theorem d_Te_allows_0 : decode prog_10_method_3_code 0 = .ok (.aload_n 0, 1) := by decide +kernel
theorem d_Te_allows_1 : decode prog_10_method_3_code 1 = .ok (.iload_n 1, 1) := by decide +kernel
theorem d_Te_allows_2 : decode prog_10_method_3_code 2 = .ok (.invokevirtual 16, 3) := by decide +kernel
theorem d_Te_allows_5 : decode prog_10_method_3_code 5 = .ok (.ifCond .eq 25, 3) := by decide +kernel
theorem d_Te_allows_8 : decode prog_10_method_3_code 8 = .ok (.iload_n 2, 1) := by decide +kernel
theorem d_Te_allows_9 : decode prog_10_method_3_code 9 = .ok (.getstatic 20, 3) := by decide +kernel
theorem d_Te_allows_12 : decode prog_10_method_3_code 12 = .ok (.iload_n 1, 1) := by decide +kernel
theorem d_Te_allows_13 : decode prog_10_method_3_code 13 = .ok (.iaload, 1) := by decide +kernel
theorem d_Te_allows_14 : decode prog_10_method_3_code 14 = .ok (.if_icmp .lt 16, 3) := by decide +kernel
theorem d_Te_allows_17 : decode prog_10_method_3_code 17 = .ok (.iload_n 2, 1) := by decide +kernel
theorem d_Te_allows_18 : decode prog_10_method_3_code 18 = .ok (.getstatic 23, 3) := by decide +kernel
theorem d_Te_allows_21 : decode prog_10_method_3_code 21 = .ok (.iload_n 1, 1) := by decide +kernel
theorem d_Te_allows_22 : decode prog_10_method_3_code 22 = .ok (.iaload, 1) := by decide +kernel
theorem d_Te_allows_23 : decode prog_10_method_3_code 23 = .ok (.if_icmp .gt 7, 3) := by decide +kernel
theorem d_Te_allows_26 : decode prog_10_method_3_code 26 = .ok (.iconst 1, 1) := by decide +kernel
theorem d_Te_allows_27 : decode prog_10_method_3_code 27 = .ok (.goto 4, 3) := by decide +kernel
theorem d_Te_allows_30 : decode prog_10_method_3_code 30 = .ok (.iconst 0, 1) := by decide +kernel
theorem d_Te_allows_31 : decode prog_10_method_3_code 31 = .ok (.ireturn, 1) := by decide +kernel
theorem d_Te_of_0 : decode prog_10_method_5_code 0 = .ok (.aload_n 0, 1) := by decide +kernel
theorem d_Te_of_1 : decode prog_10_method_5_code 1 = .ok (.iload_n 1, 1) := by decide +kernel
theorem d_Te_of_2 : decode prog_10_method_5_code 2 = .ok (.invokevirtual 16, 3) := by decide +kernel
theorem d_Te_of_5 : decode prog_10_method_5_code 5 = .ok (.ifCond .eq 12, 3) := by decide +kernel
theorem d_Te_of_8 : decode prog_10_method_5_code 8 = .ok (.aload_n 0, 1) := by decide +kernel
theorem d_Te_of_9 : decode prog_10_method_5_code 9 = .ok (.getfield 10, 3) := by decide +kernel
theorem d_Te_of_12 : decode prog_10_method_5_code 12 = .ok (.iload_n 1, 1) := by decide +kernel
theorem d_Te_of_13 : decode prog_10_method_5_code 13 = .ok (.iaload, 1) := by decide +kernel
theorem d_Te_of_14 : decode prog_10_method_5_code 14 = .ok (.goto 4, 3) := by decide +kernel
theorem d_Te_of_17 : decode prog_10_method_5_code 17 = .ok (.iconst (-1), 1) := by decide +kernel
theorem d_Te_of_18 : decode prog_10_method_5_code 18 = .ok (.ireturn, 1) := by decide +kernel
theorem d_Te_tell_0 : decode prog_10_method_6_code 0 = .ok (.aload_n 0, 1) := by decide +kernel
theorem d_Te_tell_1 : decode prog_10_method_6_code 1 = .ok (.iload_n 1, 1) := by decide +kernel
theorem d_Te_tell_2 : decode prog_10_method_6_code 2 = .ok (.invokevirtual 16, 3) := by decide +kernel
theorem d_Te_tell_5 : decode prog_10_method_6_code 5 = .ok (.ifCond .eq 10, 3) := by decide +kernel
theorem d_Te_tell_8 : decode prog_10_method_6_code 8 = .ok (.aload_n 0, 1) := by decide +kernel
theorem d_Te_tell_9 : decode prog_10_method_6_code 9 = .ok (.getfield 10, 3) := by decide +kernel
theorem d_Te_tell_12 : decode prog_10_method_6_code 12 = .ok (.iload_n 1, 1) := by decide +kernel
theorem d_Te_tell_13 : decode prog_10_method_6_code 13 = .ok (.iload_n 2, 1) := by decide +kernel
theorem d_Te_tell_14 : decode prog_10_method_6_code 14 = .ok (.iastore, 1) := by decide +kernel
theorem d_Te_tell_15 : decode prog_10_method_6_code 15 = .ok (.return_, 1) := by decide +kernel
theorem d_Wa_init_0 : decode prog_11_method_1_code 0 = .ok (.aload_n 0, 1) := by decide +kernel
theorem d_Wa_init_1 : decode prog_11_method_1_code 1 = .ok (.invokespecial 3, 3) := by decide +kernel
theorem d_Wa_init_4 : decode prog_11_method_1_code 4 = .ok (.aload_n 0, 1) := by decide +kernel
theorem d_Wa_init_5 : decode prog_11_method_1_code 5 = .ok (.iconst 5, 1) := by decide +kernel
theorem d_Wa_init_6 : decode prog_11_method_1_code 6 = .ok (.newarray .int, 2) := by decide +kernel
theorem d_Wa_init_8 : decode prog_11_method_1_code 8 = .ok (.putfield 9, 3) := by decide +kernel
theorem d_Wa_init_11 : decode prog_11_method_1_code 11 = .ok (.aload_n 0, 1) := by decide +kernel
theorem d_Wa_init_12 : decode prog_11_method_1_code 12 = .ok (.sipush 240, 3) := by decide +kernel
theorem d_Wa_init_15 : decode prog_11_method_1_code 15 = .ok (.newarray .int, 2) := by decide +kernel
theorem d_Wa_init_17 : decode prog_11_method_1_code 17 = .ok (.putfield 15, 3) := by decide +kernel
theorem d_Wa_init_20 : decode prog_11_method_1_code 20 = .ok (.aload_n 0, 1) := by decide +kernel
theorem d_Wa_init_21 : decode prog_11_method_1_code 21 = .ok (.sipush 240, 3) := by decide +kernel
theorem d_Wa_init_24 : decode prog_11_method_1_code 24 = .ok (.newarray .int, 2) := by decide +kernel
theorem d_Wa_init_26 : decode prog_11_method_1_code 26 = .ok (.putfield 18, 3) := by decide +kernel
theorem d_Wa_init_29 : decode prog_11_method_1_code 29 = .ok (.aload_n 0, 1) := by decide +kernel
theorem d_Wa_init_30 : decode prog_11_method_1_code 30 = .ok (.sipush 240, 3) := by decide +kernel
theorem d_Wa_init_33 : decode prog_11_method_1_code 33 = .ok (.newarray .int, 2) := by decide +kernel
theorem d_Wa_init_35 : decode prog_11_method_1_code 35 = .ok (.putfield 21, 3) := by decide +kernel
theorem d_Wa_init_38 : decode prog_11_method_1_code 38 = .ok (.aload_n 0, 1) := by decide +kernel
theorem d_Wa_init_39 : decode prog_11_method_1_code 39 = .ok (.iconst 5, 1) := by decide +kernel
theorem d_Wa_init_40 : decode prog_11_method_1_code 40 = .ok (.newarray .int, 2) := by decide +kernel
theorem d_Wa_init_42 : decode prog_11_method_1_code 42 = .ok (.putfield 24, 3) := by decide +kernel
theorem d_Wa_init_45 : decode prog_11_method_1_code 45 = .ok (.aload_n 0, 1) := by decide +kernel
theorem d_Wa_init_46 : decode prog_11_method_1_code 46 = .ok (.aload_n 1, 1) := by decide +kernel
theorem d_Wa_init_47 : decode prog_11_method_1_code 47 = .ok (.putfield 27, 3) := by decide +kernel
theorem d_Wa_init_50 : decode prog_11_method_1_code 50 = .ok (.return_, 1) := by decide +kernel
theorem d_Wa_forgetRuns_0 : decode prog_11_method_2_code 0 = .ok (.aload_n 0, 1) := by decide +kernel
theorem d_Wa_forgetRuns_1 : decode prog_11_method_2_code 1 = .ok (.iconst 0, 1) := by decide +kernel
theorem d_Wa_forgetRuns_2 : decode prog_11_method_2_code 2 = .ok (.putfield 31, 3) := by decide +kernel
theorem d_Wa_forgetRuns_5 : decode prog_11_method_2_code 5 = .ok (.return_, 1) := by decide +kernel
theorem d_Wa_hasRun_0 : decode prog_11_method_3_code 0 = .ok (.iload_n 1, 1) := by decide +kernel
theorem d_Wa_hasRun_1 : decode prog_11_method_3_code 1 = .ok (.ifCond .lt 15, 3) := by decide +kernel
theorem d_Wa_hasRun_4 : decode prog_11_method_3_code 4 = .ok (.iload_n 1, 1) := by decide +kernel
theorem d_Wa_hasRun_5 : decode prog_11_method_3_code 5 = .ok (.aload_n 0, 1) := by decide +kernel
theorem d_Wa_hasRun_6 : decode prog_11_method_3_code 6 = .ok (.getfield 31, 3) := by decide +kernel
theorem d_Wa_hasRun_9 : decode prog_11_method_3_code 9 = .ok (.if_icmp .ge 7, 3) := by decide +kernel
theorem d_Wa_hasRun_12 : decode prog_11_method_3_code 12 = .ok (.iconst 1, 1) := by decide +kernel
theorem d_Wa_hasRun_13 : decode prog_11_method_3_code 13 = .ok (.goto 4, 3) := by decide +kernel
theorem d_Wa_hasRun_16 : decode prog_11_method_3_code 16 = .ok (.iconst 0, 1) := by decide +kernel
theorem d_Wa_hasRun_17 : decode prog_11_method_3_code 17 = .ok (.ireturn, 1) := by decide +kernel
theorem d_Wa_hasHit_0 : decode prog_11_method_4_code 0 = .ok (.iload_n 1, 1) := by decide +kernel
theorem d_Wa_hasHit_1 : decode prog_11_method_4_code 1 = .ok (.ifCond .lt 19, 3) := by decide +kernel
theorem d_Wa_hasHit_4 : decode prog_11_method_4_code 4 = .ok (.iload_n 1, 1) := by decide +kernel
theorem d_Wa_hasHit_5 : decode prog_11_method_4_code 5 = .ok (.aload_n 0, 1) := by decide +kernel
theorem d_Wa_hasHit_6 : decode prog_11_method_4_code 6 = .ok (.aload_n 0, 1) := by decide +kernel
theorem d_Wa_hasHit_7 : decode prog_11_method_4_code 7 = .ok (.getfield 31, 3) := by decide +kernel
theorem d_Wa_hasHit_10 : decode prog_11_method_4_code 10 = .ok (.invokevirtual 35, 3) := by decide +kernel
theorem d_Wa_hasHit_13 : decode prog_11_method_4_code 13 = .ok (.if_icmp .ge 7, 3) := by decide +kernel
theorem d_Wa_hasHit_16 : decode prog_11_method_4_code 16 = .ok (.iconst 1, 1) := by decide +kernel
theorem d_Wa_hasHit_17 : decode prog_11_method_4_code 17 = .ok (.goto 4, 3) := by decide +kernel
theorem d_Wa_hasHit_20 : decode prog_11_method_4_code 20 = .ok (.iconst 0, 1) := by decide +kernel
theorem d_Wa_hasHit_21 : decode prog_11_method_4_code 21 = .ok (.ireturn, 1) := by decide +kernel
theorem d_Wa_hitsOf_0 : decode prog_11_method_5_code 0 = .ok (.aload_n 0, 1) := by decide +kernel
theorem d_Wa_hitsOf_1 : decode prog_11_method_5_code 1 = .ok (.iload_n 1, 1) := by decide +kernel
theorem d_Wa_hitsOf_2 : decode prog_11_method_5_code 2 = .ok (.iconst 1, 1) := by decide +kernel
theorem d_Wa_hitsOf_3 : decode prog_11_method_5_code 3 = .ok (.isub, 1) := by decide +kernel
theorem d_Wa_hitsOf_4 : decode prog_11_method_5_code 4 = .ok (.invokevirtual 39, 3) := by decide +kernel
theorem d_Wa_hitsOf_7 : decode prog_11_method_5_code 7 = .ok (.ifCond .eq 14, 3) := by decide +kernel
theorem d_Wa_hitsOf_10 : decode prog_11_method_5_code 10 = .ok (.aload_n 0, 1) := by decide +kernel
theorem d_Wa_hitsOf_11 : decode prog_11_method_5_code 11 = .ok (.getfield 24, 3) := by decide +kernel
theorem d_Wa_hitsOf_14 : decode prog_11_method_5_code 14 = .ok (.iload_n 1, 1) := by decide +kernel
theorem d_Wa_hitsOf_15 : decode prog_11_method_5_code 15 = .ok (.iconst 1, 1) := by decide +kernel
theorem d_Wa_hitsOf_16 : decode prog_11_method_5_code 16 = .ok (.isub, 1) := by decide +kernel
theorem d_Wa_hitsOf_17 : decode prog_11_method_5_code 17 = .ok (.iaload, 1) := by decide +kernel
theorem d_Wa_hitsOf_18 : decode prog_11_method_5_code 18 = .ok (.goto 4, 3) := by decide +kernel
theorem d_Wa_hitsOf_21 : decode prog_11_method_5_code 21 = .ok (.iconst 0, 1) := by decide +kernel
theorem d_Wa_hitsOf_22 : decode prog_11_method_5_code 22 = .ok (.ireturn, 1) := by decide +kernel
theorem d_Wa_drawStart_0 : decode prog_11_method_6_code 0 = .ok (.aload_n 0, 1) := by decide +kernel
theorem d_Wa_drawStart_1 : decode prog_11_method_6_code 1 = .ok (.getfield 27, 3) := by decide +kernel
theorem d_Wa_drawStart_4 : decode prog_11_method_6_code 4 = .ok (.getfield 43, 3) := by decide +kernel
theorem d_Wa_drawStart_7 : decode prog_11_method_6_code 7 = .ok (.ifCond .ne 5, 3) := by decide +kernel
theorem d_Wa_drawStart_10 : decode prog_11_method_6_code 10 = .ok (.iconst (-1), 1) := by decide +kernel
theorem d_Wa_drawStart_11 : decode prog_11_method_6_code 11 = .ok (.ireturn, 1) := by decide +kernel
theorem d_Wa_drawStart_12 : decode prog_11_method_6_code 12 = .ok (.iconst 0, 1) := by decide +kernel
theorem d_Wa_drawStart_13 : decode prog_11_method_6_code 13 = .ok (.istore_n 1, 1) := by decide +kernel
theorem d_Wa_drawStart_14 : decode prog_11_method_6_code 14 = .ok (.iload_n 1, 1) := by decide +kernel
theorem d_Wa_drawStart_15 : decode prog_11_method_6_code 15 = .ok (.bipush 50, 2) := by decide +kernel
theorem d_Wa_drawStart_17 : decode prog_11_method_6_code 17 = .ok (.if_icmp .ge 56, 3) := by decide +kernel
theorem d_Wa_drawStart_20 : decode prog_11_method_6_code 20 = .ok (.aload_n 0, 1) := by decide +kernel
theorem d_Wa_drawStart_21 : decode prog_11_method_6_code 21 = .ok (.aload_n 0, 1) := by decide +kernel
theorem d_Wa_drawStart_22 : decode prog_11_method_6_code 22 = .ok (.getfield 48, 3) := by decide +kernel
theorem d_Wa_drawStart_25 : decode prog_11_method_6_code 25 = .ok (.i2l, 1) := by decide +kernel
theorem d_Wa_drawStart_26 : decode prog_11_method_6_code 26 = .ok (.ldc2_w 51, 3) := by decide +kernel
theorem d_Wa_drawStart_29 : decode prog_11_method_6_code 29 = .ok (.lmul, 1) := by decide +kernel
theorem d_Wa_drawStart_30 : decode prog_11_method_6_code 30 = .ok (.ldc2_w 53, 3) := by decide +kernel
theorem d_Wa_drawStart_33 : decode prog_11_method_6_code 33 = .ok (.ladd, 1) := by decide +kernel
theorem d_Wa_drawStart_34 : decode prog_11_method_6_code 34 = .ok (.ldc2_w 55, 3) := by decide +kernel
theorem d_Wa_drawStart_37 : decode prog_11_method_6_code 37 = .ok (.lrem, 1) := by decide +kernel
theorem d_Wa_drawStart_38 : decode prog_11_method_6_code 38 = .ok (.l2i, 1) := by decide +kernel
theorem d_Wa_drawStart_39 : decode prog_11_method_6_code 39 = .ok (.putfield 48, 3) := by decide +kernel
theorem d_Wa_drawStart_42 : decode prog_11_method_6_code 42 = .ok (.aload_n 0, 1) := by decide +kernel
theorem d_Wa_drawStart_43 : decode prog_11_method_6_code 43 = .ok (.getfield 48, 3) := by decide +kernel
theorem d_Wa_drawStart_46 : decode prog_11_method_6_code 46 = .ok (.aload_n 0, 1) := by decide +kernel
theorem d_Wa_drawStart_47 : decode prog_11_method_6_code 47 = .ok (.getfield 27, 3) := by decide +kernel
theorem d_Wa_drawStart_50 : decode prog_11_method_6_code 50 = .ok (.getfield 43, 3) := by decide +kernel
theorem d_Wa_drawStart_53 : decode prog_11_method_6_code 53 = .ok (.irem, 1) := by decide +kernel
theorem d_Wa_drawStart_54 : decode prog_11_method_6_code 54 = .ok (.iconst 1, 1) := by decide +kernel
theorem d_Wa_drawStart_55 : decode prog_11_method_6_code 55 = .ok (.iadd, 1) := by decide +kernel
theorem d_Wa_drawStart_56 : decode prog_11_method_6_code 56 = .ok (.istore_n 2, 1) := by decide +kernel
theorem d_Wa_drawStart_57 : decode prog_11_method_6_code 57 = .ok (.aload_n 0, 1) := by decide +kernel
theorem d_Wa_drawStart_58 : decode prog_11_method_6_code 58 = .ok (.iload_n 2, 1) := by decide +kernel
theorem d_Wa_drawStart_59 : decode prog_11_method_6_code 59 = .ok (.invokevirtual 57, 3) := by decide +kernel
theorem d_Wa_drawStart_62 : decode prog_11_method_6_code 62 = .ok (.ifCond .ne 5, 3) := by decide +kernel
theorem d_Wa_drawStart_65 : decode prog_11_method_6_code 65 = .ok (.iload_n 2, 1) := by decide +kernel
theorem d_Wa_drawStart_66 : decode prog_11_method_6_code 66 = .ok (.ireturn, 1) := by decide +kernel
theorem d_Wa_drawStart_67 : decode prog_11_method_6_code 67 = .ok (.iinc 1 1, 3) := by decide +kernel
theorem d_Wa_drawStart_70 : decode prog_11_method_6_code 70 = .ok (.goto (-56), 3) := by decide +kernel
theorem d_Wa_drawStart_73 : decode prog_11_method_6_code 73 = .ok (.aload_n 0, 1) := by decide +kernel
theorem d_Wa_drawStart_74 : decode prog_11_method_6_code 74 = .ok (.invokevirtual 60, 3) := by decide +kernel
theorem d_Wa_drawStart_77 : decode prog_11_method_6_code 77 = .ok (.ireturn, 1) := by decide +kernel
theorem d_Wa_isStart_0 : decode prog_11_method_7_code 0 = .ok (.iconst 0, 1) := by decide +kernel
theorem d_Wa_isStart_1 : decode prog_11_method_7_code 1 = .ok (.istore_n 2, 1) := by decide +kernel
theorem d_Wa_isStart_2 : decode prog_11_method_7_code 2 = .ok (.iload_n 2, 1) := by decide +kernel
theorem d_Wa_isStart_3 : decode prog_11_method_7_code 3 = .ok (.aload_n 0, 1) := by decide +kernel
theorem d_Wa_isStart_4 : decode prog_11_method_7_code 4 = .ok (.getfield 31, 3) := by decide +kernel
theorem d_Wa_isStart_7 : decode prog_11_method_7_code 7 = .ok (.if_icmp .ge 21, 3) := by decide +kernel
theorem d_Wa_isStart_10 : decode prog_11_method_7_code 10 = .ok (.aload_n 0, 1) := by decide +kernel
theorem d_Wa_isStart_11 : decode prog_11_method_7_code 11 = .ok (.getfield 9, 3) := by decide +kernel
theorem d_Wa_isStart_14 : decode prog_11_method_7_code 14 = .ok (.iload_n 2, 1) := by decide +kernel
theorem d_Wa_isStart_15 : decode prog_11_method_7_code 15 = .ok (.iaload, 1) := by decide +kernel
theorem d_Wa_isStart_16 : decode prog_11_method_7_code 16 = .ok (.iload_n 1, 1) := by decide +kernel
theorem d_Wa_isStart_17 : decode prog_11_method_7_code 17 = .ok (.if_icmp .ne 5, 3) := by decide +kernel
theorem d_Wa_isStart_20 : decode prog_11_method_7_code 20 = .ok (.iconst 1, 1) := by decide +kernel
theorem d_Wa_isStart_21 : decode prog_11_method_7_code 21 = .ok (.ireturn, 1) := by decide +kernel
theorem d_Wa_isStart_22 : decode prog_11_method_7_code 22 = .ok (.iinc 2 1, 3) := by decide +kernel
theorem d_Wa_isStart_25 : decode prog_11_method_7_code 25 = .ok (.goto (-23), 3) := by decide +kernel
theorem d_Wa_isStart_28 : decode prog_11_method_7_code 28 = .ok (.iconst 0, 1) := by decide +kernel
theorem d_Wa_isStart_29 : decode prog_11_method_7_code 29 = .ok (.ireturn, 1) := by decide +kernel
theorem d_Wa_lowestFree_0 : decode prog_11_method_8_code 0 = .ok (.iconst 1, 1) := by decide +kernel
theorem d_Wa_lowestFree_1 : decode prog_11_method_8_code 1 = .ok (.istore_n 1, 1) := by decide +kernel
theorem d_Wa_lowestFree_2 : decode prog_11_method_8_code 2 = .ok (.iload_n 1, 1) := by decide +kernel
theorem d_Wa_lowestFree_3 : decode prog_11_method_8_code 3 = .ok (.aload_n 0, 1) := by decide +kernel
theorem d_Wa_lowestFree_4 : decode prog_11_method_8_code 4 = .ok (.getfield 31, 3) := by decide +kernel
theorem d_Wa_lowestFree_7 : decode prog_11_method_8_code 7 = .ok (.if_icmp .gt 17, 3) := by decide +kernel
theorem d_Wa_lowestFree_10 : decode prog_11_method_8_code 10 = .ok (.aload_n 0, 1) := by decide +kernel
theorem d_Wa_lowestFree_11 : decode prog_11_method_8_code 11 = .ok (.iload_n 1, 1) := by decide +kernel
theorem d_Wa_lowestFree_12 : decode prog_11_method_8_code 12 = .ok (.invokevirtual 57, 3) := by decide +kernel
theorem d_Wa_lowestFree_15 : decode prog_11_method_8_code 15 = .ok (.ifCond .eq 9, 3) := by decide +kernel
theorem d_Wa_lowestFree_18 : decode prog_11_method_8_code 18 = .ok (.iinc 1 1, 3) := by decide +kernel
theorem d_Wa_lowestFree_21 : decode prog_11_method_8_code 21 = .ok (.goto (-19), 3) := by decide +kernel
theorem d_Wa_lowestFree_24 : decode prog_11_method_8_code 24 = .ok (.iload_n 1, 1) := by decide +kernel
theorem d_Wa_lowestFree_25 : decode prog_11_method_8_code 25 = .ok (.ireturn, 1) := by decide +kernel
theorem d_Wa_follow_0 : decode prog_11_method_9_code 0 = .ok (.aload_n 0, 1) := by decide +kernel
theorem d_Wa_follow_1 : decode prog_11_method_9_code 1 = .ok (.getfield 31, 3) := by decide +kernel
theorem d_Wa_follow_4 : decode prog_11_method_9_code 4 = .ok (.iconst 5, 1) := by decide +kernel
theorem d_Wa_follow_5 : decode prog_11_method_9_code 5 = .ok (.if_icmp .lt 4, 3) := by decide +kernel
theorem d_Wa_follow_8 : decode prog_11_method_9_code 8 = .ok (.return_, 1) := by decide +kernel
theorem d_Wa_follow_9 : decode prog_11_method_9_code 9 = .ok (.aload_n 0, 1) := by decide +kernel
theorem d_Wa_follow_10 : decode prog_11_method_9_code 10 = .ok (.aload_n 0, 1) := by decide +kernel
theorem d_Wa_follow_11 : decode prog_11_method_9_code 11 = .ok (.getfield 31, 3) := by decide +kernel
theorem d_Wa_follow_14 : decode prog_11_method_9_code 14 = .ok (.invokevirtual 35, 3) := by decide +kernel
theorem d_Wa_follow_17 : decode prog_11_method_9_code 17 = .ok (.istore_n 2, 1) := by decide +kernel
theorem d_Wa_follow_18 : decode prog_11_method_9_code 18 = .ok (.aload_n 0, 1) := by decide +kernel
theorem d_Wa_follow_19 : decode prog_11_method_9_code 19 = .ok (.getfield 27, 3) := by decide +kernel
theorem d_Wa_follow_22 : decode prog_11_method_9_code 22 = .ok (.iload_n 1, 1) := by decide +kernel
theorem d_Wa_follow_23 : decode prog_11_method_9_code 23 = .ok (.invokevirtual 64, 3) := by decide +kernel
theorem d_Wa_follow_26 : decode prog_11_method_9_code 26 = .ok (.istore_n 3, 1) := by decide +kernel
theorem d_Wa_follow_27 : decode prog_11_method_9_code 27 = .ok (.iconst 0, 1) := by decide +kernel
theorem d_Wa_follow_28 : decode prog_11_method_9_code 28 = .ok (.istore 4, 2) := by decide +kernel
theorem d_Wa_follow_30 : decode prog_11_method_9_code 30 = .ok (.iload 4, 2) := by decide +kernel
theorem d_Wa_follow_32 : decode prog_11_method_9_code 32 = .ok (.iload_n 3, 1) := by decide +kernel
theorem d_Wa_follow_33 : decode prog_11_method_9_code 33 = .ok (.if_icmp .ge 66, 3) := by decide +kernel
theorem d_Wa_follow_36 : decode prog_11_method_9_code 36 = .ok (.iload_n 2, 1) := by decide +kernel
theorem d_Wa_follow_37 : decode prog_11_method_9_code 37 = .ok (.sipush 240, 3) := by decide +kernel
theorem d_Wa_follow_40 : decode prog_11_method_9_code 40 = .ok (.if_icmp .ge 59, 3) := by decide +kernel
theorem d_Wa_follow_43 : decode prog_11_method_9_code 43 = .ok (.aload_n 0, 1) := by decide +kernel
theorem d_Wa_follow_44 : decode prog_11_method_9_code 44 = .ok (.getfield 18, 3) := by decide +kernel
theorem d_Wa_follow_47 : decode prog_11_method_9_code 47 = .ok (.iload_n 2, 1) := by decide +kernel
theorem d_Wa_follow_48 : decode prog_11_method_9_code 48 = .ok (.iload_n 1, 1) := by decide +kernel
theorem d_Wa_follow_49 : decode prog_11_method_9_code 49 = .ok (.iload 4, 2) := by decide +kernel
theorem d_Wa_follow_51 : decode prog_11_method_9_code 51 = .ok (.aload_n 0, 1) := by decide +kernel
theorem d_Wa_follow_52 : decode prog_11_method_9_code 52 = .ok (.getfield 27, 3) := by decide +kernel
theorem d_Wa_follow_55 : decode prog_11_method_9_code 55 = .ok (.getfield 43, 3) := by decide +kernel
theorem d_Wa_follow_58 : decode prog_11_method_9_code 58 = .ok (.imul, 1) := by decide +kernel
theorem d_Wa_follow_59 : decode prog_11_method_9_code 59 = .ok (.iadd, 1) := by decide +kernel
theorem d_Wa_follow_60 : decode prog_11_method_9_code 60 = .ok (.iastore, 1) := by decide +kernel
theorem d_Wa_follow_61 : decode prog_11_method_9_code 61 = .ok (.aload_n 0, 1) := by decide +kernel
theorem d_Wa_follow_62 : decode prog_11_method_9_code 62 = .ok (.getfield 15, 3) := by decide +kernel
theorem d_Wa_follow_65 : decode prog_11_method_9_code 65 = .ok (.iload_n 2, 1) := by decide +kernel
theorem d_Wa_follow_66 : decode prog_11_method_9_code 66 = .ok (.aload_n 0, 1) := by decide +kernel
theorem d_Wa_follow_67 : decode prog_11_method_9_code 67 = .ok (.getfield 27, 3) := by decide +kernel
theorem d_Wa_follow_70 : decode prog_11_method_9_code 70 = .ok (.aload_n 0, 1) := by decide +kernel
theorem d_Wa_follow_71 : decode prog_11_method_9_code 71 = .ok (.getfield 18, 3) := by decide +kernel
theorem d_Wa_follow_74 : decode prog_11_method_9_code 74 = .ok (.iload_n 2, 1) := by decide +kernel
theorem d_Wa_follow_75 : decode prog_11_method_9_code 75 = .ok (.iaload, 1) := by decide +kernel
theorem d_Wa_follow_76 : decode prog_11_method_9_code 76 = .ok (.invokevirtual 67, 3) := by decide +kernel
theorem d_Wa_follow_79 : decode prog_11_method_9_code 79 = .ok (.iastore, 1) := by decide +kernel
theorem d_Wa_follow_80 : decode prog_11_method_9_code 80 = .ok (.aload_n 0, 1) := by decide +kernel
theorem d_Wa_follow_81 : decode prog_11_method_9_code 81 = .ok (.getfield 21, 3) := by decide +kernel
theorem d_Wa_follow_84 : decode prog_11_method_9_code 84 = .ok (.iload_n 2, 1) := by decide +kernel
theorem d_Wa_follow_85 : decode prog_11_method_9_code 85 = .ok (.aload_n 0, 1) := by decide +kernel
theorem d_Wa_follow_86 : decode prog_11_method_9_code 86 = .ok (.getfield 31, 3) := by decide +kernel
theorem d_Wa_follow_89 : decode prog_11_method_9_code 89 = .ok (.iastore, 1) := by decide +kernel
theorem d_Wa_follow_90 : decode prog_11_method_9_code 90 = .ok (.iinc 2 1, 3) := by decide +kernel
theorem d_Wa_follow_93 : decode prog_11_method_9_code 93 = .ok (.iinc 4 1, 3) := by decide +kernel
theorem d_Wa_follow_96 : decode prog_11_method_9_code 96 = .ok (.goto (-66), 3) := by decide +kernel
theorem d_Wa_follow_99 : decode prog_11_method_9_code 99 = .ok (.aload_n 0, 1) := by decide +kernel
theorem d_Wa_follow_100 : decode prog_11_method_9_code 100 = .ok (.getfield 9, 3) := by decide +kernel
theorem d_Wa_follow_103 : decode prog_11_method_9_code 103 = .ok (.aload_n 0, 1) := by decide +kernel
theorem d_Wa_follow_104 : decode prog_11_method_9_code 104 = .ok (.getfield 31, 3) := by decide +kernel
theorem d_Wa_follow_107 : decode prog_11_method_9_code 107 = .ok (.iload_n 1, 1) := by decide +kernel
theorem d_Wa_follow_108 : decode prog_11_method_9_code 108 = .ok (.iastore, 1) := by decide +kernel
theorem d_Wa_follow_109 : decode prog_11_method_9_code 109 = .ok (.aload_n 0, 1) := by decide +kernel
theorem d_Wa_follow_110 : decode prog_11_method_9_code 110 = .ok (.getfield 24, 3) := by decide +kernel
theorem d_Wa_follow_113 : decode prog_11_method_9_code 113 = .ok (.aload_n 0, 1) := by decide +kernel
theorem d_Wa_follow_114 : decode prog_11_method_9_code 114 = .ok (.getfield 31, 3) := by decide +kernel
theorem d_Wa_follow_117 : decode prog_11_method_9_code 117 = .ok (.iload_n 2, 1) := by decide +kernel
theorem d_Wa_follow_118 : decode prog_11_method_9_code 118 = .ok (.iastore, 1) := by decide +kernel
theorem d_Wa_follow_119 : decode prog_11_method_9_code 119 = .ok (.aload_n 0, 1) := by decide +kernel
theorem d_Wa_follow_120 : decode prog_11_method_9_code 120 = .ok (.dup, 1) := by decide +kernel
theorem d_Wa_follow_121 : decode prog_11_method_9_code 121 = .ok (.getfield 31, 3) := by decide +kernel
theorem d_Wa_follow_124 : decode prog_11_method_9_code 124 = .ok (.iconst 1, 1) := by decide +kernel
theorem d_Wa_follow_125 : decode prog_11_method_9_code 125 = .ok (.iadd, 1) := by decide +kernel
theorem d_Wa_follow_126 : decode prog_11_method_9_code 126 = .ok (.putfield 31, 3) := by decide +kernel
theorem d_Wa_follow_129 : decode prog_11_method_9_code 129 = .ok (.return_, 1) := by decide +kernel
theorem d_Wa_timesHit_0 : decode prog_11_method_10_code 0 = .ok (.iconst 0, 1) := by decide +kernel
theorem d_Wa_timesHit_1 : decode prog_11_method_10_code 1 = .ok (.istore_n 3, 1) := by decide +kernel
theorem d_Wa_timesHit_2 : decode prog_11_method_10_code 2 = .ok (.iconst 0, 1) := by decide +kernel
theorem d_Wa_timesHit_3 : decode prog_11_method_10_code 3 = .ok (.istore 4, 2) := by decide +kernel
theorem d_Wa_timesHit_5 : decode prog_11_method_10_code 5 = .ok (.iload 4, 2) := by decide +kernel
theorem d_Wa_timesHit_7 : decode prog_11_method_10_code 7 = .ok (.iload_n 2, 1) := by decide +kernel
theorem d_Wa_timesHit_8 : decode prog_11_method_10_code 8 = .ok (.if_icmp .ge 39, 3) := by decide +kernel
theorem d_Wa_timesHit_11 : decode prog_11_method_10_code 11 = .ok (.iload 4, 2) := by decide +kernel
theorem d_Wa_timesHit_13 : decode prog_11_method_10_code 13 = .ok (.aload_n 0, 1) := by decide +kernel
theorem d_Wa_timesHit_14 : decode prog_11_method_10_code 14 = .ok (.getfield 31, 3) := by decide +kernel
theorem d_Wa_timesHit_17 : decode prog_11_method_10_code 17 = .ok (.if_icmp .ge 30, 3) := by decide +kernel
theorem d_Wa_timesHit_20 : decode prog_11_method_10_code 20 = .ok (.aload_n 0, 1) := by decide +kernel
theorem d_Wa_timesHit_21 : decode prog_11_method_10_code 21 = .ok (.getfield 27, 3) := by decide +kernel
theorem d_Wa_timesHit_24 : decode prog_11_method_10_code 24 = .ok (.aload_n 0, 1) := by decide +kernel
theorem d_Wa_timesHit_25 : decode prog_11_method_10_code 25 = .ok (.getfield 9, 3) := by decide +kernel
theorem d_Wa_timesHit_28 : decode prog_11_method_10_code 28 = .ok (.iload 4, 2) := by decide +kernel
theorem d_Wa_timesHit_30 : decode prog_11_method_10_code 30 = .ok (.iaload, 1) := by decide +kernel
theorem d_Wa_timesHit_31 : decode prog_11_method_10_code 31 = .ok (.iload_n 1, 1) := by decide +kernel
theorem d_Wa_timesHit_32 : decode prog_11_method_10_code 32 = .ok (.invokevirtual 70, 3) := by decide +kernel
theorem d_Wa_timesHit_35 : decode prog_11_method_10_code 35 = .ok (.ifCond .eq 6, 3) := by decide +kernel
theorem d_Wa_timesHit_38 : decode prog_11_method_10_code 38 = .ok (.iinc 3 1, 3) := by decide +kernel
theorem d_Wa_timesHit_41 : decode prog_11_method_10_code 41 = .ok (.iinc 4 1, 3) := by decide +kernel
theorem d_Wa_timesHit_44 : decode prog_11_method_10_code 44 = .ok (.goto (-39), 3) := by decide +kernel
theorem d_Wa_timesHit_47 : decode prog_11_method_10_code 47 = .ok (.iload_n 3, 1) := by decide +kernel
theorem d_Wa_timesHit_48 : decode prog_11_method_10_code 48 = .ok (.ireturn, 1) := by decide +kernel
theorem d_Wa_timesCoinHit_0 : decode prog_11_method_11_code 0 = .ok (.iconst 0, 1) := by decide +kernel
theorem d_Wa_timesCoinHit_1 : decode prog_11_method_11_code 1 = .ok (.istore_n 2, 1) := by decide +kernel
theorem d_Wa_timesCoinHit_2 : decode prog_11_method_11_code 2 = .ok (.iconst 0, 1) := by decide +kernel
theorem d_Wa_timesCoinHit_3 : decode prog_11_method_11_code 3 = .ok (.istore_n 3, 1) := by decide +kernel
theorem d_Wa_timesCoinHit_4 : decode prog_11_method_11_code 4 = .ok (.iload_n 3, 1) := by decide +kernel
theorem d_Wa_timesCoinHit_5 : decode prog_11_method_11_code 5 = .ok (.aload_n 0, 1) := by decide +kernel
theorem d_Wa_timesCoinHit_6 : decode prog_11_method_11_code 6 = .ok (.aload_n 0, 1) := by decide +kernel
theorem d_Wa_timesCoinHit_7 : decode prog_11_method_11_code 7 = .ok (.getfield 31, 3) := by decide +kernel
theorem d_Wa_timesCoinHit_10 : decode prog_11_method_11_code 10 = .ok (.invokevirtual 35, 3) := by decide +kernel
theorem d_Wa_timesCoinHit_13 : decode prog_11_method_11_code 13 = .ok (.if_icmp .ge 22, 3) := by decide +kernel
theorem d_Wa_timesCoinHit_16 : decode prog_11_method_11_code 16 = .ok (.aload_n 0, 1) := by decide +kernel
theorem d_Wa_timesCoinHit_17 : decode prog_11_method_11_code 17 = .ok (.getfield 18, 3) := by decide +kernel
theorem d_Wa_timesCoinHit_20 : decode prog_11_method_11_code 20 = .ok (.iload_n 3, 1) := by decide +kernel
theorem d_Wa_timesCoinHit_21 : decode prog_11_method_11_code 21 = .ok (.iaload, 1) := by decide +kernel
theorem d_Wa_timesCoinHit_22 : decode prog_11_method_11_code 22 = .ok (.iload_n 1, 1) := by decide +kernel
theorem d_Wa_timesCoinHit_23 : decode prog_11_method_11_code 23 = .ok (.if_icmp .ne 6, 3) := by decide +kernel
theorem d_Wa_timesCoinHit_26 : decode prog_11_method_11_code 26 = .ok (.iinc 2 1, 3) := by decide +kernel
theorem d_Wa_timesCoinHit_29 : decode prog_11_method_11_code 29 = .ok (.iinc 3 1, 3) := by decide +kernel
theorem d_Wa_timesCoinHit_32 : decode prog_11_method_11_code 32 = .ok (.goto (-28), 3) := by decide +kernel
theorem d_Wa_timesCoinHit_35 : decode prog_11_method_11_code 35 = .ok (.iload_n 2, 1) := by decide +kernel
theorem d_Wa_timesCoinHit_36 : decode prog_11_method_11_code 36 = .ok (.ireturn, 1) := by decide +kernel
theorem d_Wa_isLookedAt_0 : decode prog_11_method_12_code 0 = .ok (.aload_n 0, 1) := by decide +kernel
theorem d_Wa_isLookedAt_1 : decode prog_11_method_12_code 1 = .ok (.getfield 27, 3) := by decide +kernel
theorem d_Wa_isLookedAt_4 : decode prog_11_method_12_code 4 = .ok (.iload_n 1, 1) := by decide +kernel
theorem d_Wa_isLookedAt_5 : decode prog_11_method_12_code 5 = .ok (.invokevirtual 74, 3) := by decide +kernel
theorem d_Wa_isLookedAt_8 : decode prog_11_method_12_code 8 = .ok (.ifCond .ne 12, 3) := by decide +kernel
theorem d_Wa_isLookedAt_11 : decode prog_11_method_12_code 11 = .ok (.aload_n 0, 1) := by decide +kernel
theorem d_Wa_isLookedAt_12 : decode prog_11_method_12_code 12 = .ok (.iload_n 1, 1) := by decide +kernel
theorem d_Wa_isLookedAt_13 : decode prog_11_method_12_code 13 = .ok (.iload_n 2, 1) := by decide +kernel
theorem d_Wa_isLookedAt_14 : decode prog_11_method_12_code 14 = .ok (.invokevirtual 77, 3) := by decide +kernel
theorem d_Wa_isLookedAt_17 : decode prog_11_method_12_code 17 = .ok (.ifCond .le 7, 3) := by decide +kernel
theorem d_Wa_isLookedAt_20 : decode prog_11_method_12_code 20 = .ok (.iconst 1, 1) := by decide +kernel
theorem d_Wa_isLookedAt_21 : decode prog_11_method_12_code 21 = .ok (.goto 4, 3) := by decide +kernel
theorem d_Wa_isLookedAt_24 : decode prog_11_method_12_code 24 = .ok (.iconst 0, 1) := by decide +kernel
theorem d_Wa_isLookedAt_25 : decode prog_11_method_12_code 25 = .ok (.ireturn, 1) := by decide +kernel
theorem d_Wa_lackingBy_0 : decode prog_11_method_13_code 0 = .ok (.iconst 0, 1) := by decide +kernel
theorem d_Wa_lackingBy_1 : decode prog_11_method_13_code 1 = .ok (.istore_n 3, 1) := by decide +kernel
theorem d_Wa_lackingBy_2 : decode prog_11_method_13_code 2 = .ok (.iconst 0, 1) := by decide +kernel
theorem d_Wa_lackingBy_3 : decode prog_11_method_13_code 3 = .ok (.istore 4, 2) := by decide +kernel
theorem d_Wa_lackingBy_5 : decode prog_11_method_13_code 5 = .ok (.iload 4, 2) := by decide +kernel
theorem d_Wa_lackingBy_7 : decode prog_11_method_13_code 7 = .ok (.aload_n 1, 1) := by decide +kernel
theorem d_Wa_lackingBy_8 : decode prog_11_method_13_code 8 = .ok (.getfield 81, 3) := by decide +kernel
theorem d_Wa_lackingBy_11 : decode prog_11_method_13_code 11 = .ok (.if_icmp .ge 31, 3) := by decide +kernel
theorem d_Wa_lackingBy_14 : decode prog_11_method_13_code 14 = .ok (.aload_n 1, 1) := by decide +kernel
theorem d_Wa_lackingBy_15 : decode prog_11_method_13_code 15 = .ok (.iload 4, 2) := by decide +kernel
theorem d_Wa_lackingBy_17 : decode prog_11_method_13_code 17 = .ok (.invokevirtual 86, 3) := by decide +kernel
theorem d_Wa_lackingBy_20 : decode prog_11_method_13_code 20 = .ok (.ifCond .ne 16, 3) := by decide +kernel
theorem d_Wa_lackingBy_23 : decode prog_11_method_13_code 23 = .ok (.aload_n 0, 1) := by decide +kernel
theorem d_Wa_lackingBy_24 : decode prog_11_method_13_code 24 = .ok (.iload 4, 2) := by decide +kernel
theorem d_Wa_lackingBy_26 : decode prog_11_method_13_code 26 = .ok (.iload_n 2, 1) := by decide +kernel
theorem d_Wa_lackingBy_27 : decode prog_11_method_13_code 27 = .ok (.invokevirtual 89, 3) := by decide +kernel
theorem d_Wa_lackingBy_30 : decode prog_11_method_13_code 30 = .ok (.ifCond .eq 6, 3) := by decide +kernel
theorem d_Wa_lackingBy_33 : decode prog_11_method_13_code 33 = .ok (.iinc 3 1, 3) := by decide +kernel
theorem d_Wa_lackingBy_36 : decode prog_11_method_13_code 36 = .ok (.iinc 4 1, 3) := by decide +kernel
theorem d_Wa_lackingBy_39 : decode prog_11_method_13_code 39 = .ok (.goto (-34), 3) := by decide +kernel
theorem d_Wa_lackingBy_42 : decode prog_11_method_13_code 42 = .ok (.iload_n 3, 1) := by decide +kernel
theorem d_Wa_lackingBy_43 : decode prog_11_method_13_code 43 = .ok (.ireturn, 1) := by decide +kernel
theorem d_Ma_floorMod_0 : decode prog_28_method_50_code 0 = .ok (.iload_n 0, 1) := by decide +kernel
theorem d_Ma_floorMod_1 : decode prog_28_method_50_code 1 = .ok (.iload_n 1, 1) := by decide +kernel
theorem d_Ma_floorMod_2 : decode prog_28_method_50_code 2 = .ok (.irem, 1) := by decide +kernel
theorem d_Ma_floorMod_3 : decode prog_28_method_50_code 3 = .ok (.istore_n 2, 1) := by decide +kernel
theorem d_Ma_floorMod_4 : decode prog_28_method_50_code 4 = .ok (.iload_n 0, 1) := by decide +kernel
theorem d_Ma_floorMod_5 : decode prog_28_method_50_code 5 = .ok (.iload_n 1, 1) := by decide +kernel
theorem d_Ma_floorMod_6 : decode prog_28_method_50_code 6 = .ok (.ixor, 1) := by decide +kernel
theorem d_Ma_floorMod_7 : decode prog_28_method_50_code 7 = .ok (.ifCond .ge 11, 3) := by decide +kernel
theorem d_Ma_floorMod_10 : decode prog_28_method_50_code 10 = .ok (.iload_n 2, 1) := by decide +kernel
theorem d_Ma_floorMod_11 : decode prog_28_method_50_code 11 = .ok (.ifCond .eq 7, 3) := by decide +kernel
theorem d_Ma_floorMod_14 : decode prog_28_method_50_code 14 = .ok (.iload_n 2, 1) := by decide +kernel
theorem d_Ma_floorMod_15 : decode prog_28_method_50_code 15 = .ok (.iload_n 1, 1) := by decide +kernel
theorem d_Ma_floorMod_16 : decode prog_28_method_50_code 16 = .ok (.iadd, 1) := by decide +kernel
theorem d_Ma_floorMod_17 : decode prog_28_method_50_code 17 = .ok (.ireturn, 1) := by decide +kernel
theorem d_Ma_floorMod_18 : decode prog_28_method_50_code 18 = .ok (.iload_n 2, 1) := by decide +kernel
theorem d_Ma_floorMod_19 : decode prog_28_method_50_code 19 = .ok (.ireturn, 1) := by decide +kernel
theorem d_Ma_max_0 : decode prog_28_method_65_code 0 = .ok (.iload_n 0, 1) := by decide +kernel
theorem d_Ma_max_1 : decode prog_28_method_65_code 1 = .ok (.iload_n 1, 1) := by decide +kernel
theorem d_Ma_max_2 : decode prog_28_method_65_code 2 = .ok (.if_icmp .lt 7, 3) := by decide +kernel
theorem d_Ma_max_5 : decode prog_28_method_65_code 5 = .ok (.iload_n 0, 1) := by decide +kernel
theorem d_Ma_max_6 : decode prog_28_method_65_code 6 = .ok (.goto 4, 3) := by decide +kernel
theorem d_Ma_max_9 : decode prog_28_method_65_code 9 = .ok (.iload_n 1, 1) := by decide +kernel
theorem d_Ma_max_10 : decode prog_28_method_65_code 10 = .ok (.ireturn, 1) := by decide +kernel
theorem d_Sg_length_0 : decode prog_30_method_54_code 0 = .ok (.aload_n 0, 1) := by decide +kernel
theorem d_Sg_length_1 : decode prog_30_method_54_code 1 = .ok (.getfield 9, 3) := by decide +kernel
theorem d_Sg_length_4 : decode prog_30_method_54_code 4 = .ok (.arraylength, 1) := by decide +kernel
theorem d_Sg_length_5 : decode prog_30_method_54_code 5 = .ok (.aload_n 0, 1) := by decide +kernel
theorem d_Sg_length_6 : decode prog_30_method_54_code 6 = .ok (.invokevirtual 335, 3) := by decide +kernel
theorem d_Sg_length_9 : decode prog_30_method_54_code 9 = .ok (.ishr, 1) := by decide +kernel
theorem d_Sg_length_10 : decode prog_30_method_54_code 10 = .ok (.ireturn, 1) := by decide +kernel
theorem d_Sg_charAt_0 : decode prog_30_method_56_code 0 = .ok (.aload_n 0, 1) := by decide +kernel
theorem d_Sg_charAt_1 : decode prog_30_method_56_code 1 = .ok (.invokevirtual 492, 3) := by decide +kernel
theorem d_Sg_charAt_4 : decode prog_30_method_56_code 4 = .ok (.ifCond .eq 12, 3) := by decide +kernel
theorem d_Sg_charAt_7 : decode prog_30_method_56_code 7 = .ok (.aload_n 0, 1) := by decide +kernel
theorem d_Sg_charAt_8 : decode prog_30_method_56_code 8 = .ok (.getfield 9, 3) := by decide +kernel
theorem d_Sg_charAt_11 : decode prog_30_method_56_code 11 = .ok (.iload_n 1, 1) := by decide +kernel
theorem d_Sg_charAt_12 : decode prog_30_method_56_code 12 = .ok (.invokestatic 495, 3) := by decide +kernel
theorem d_Sg_charAt_15 : decode prog_30_method_56_code 15 = .ok (.ireturn, 1) := by decide +kernel
theorem d_Sg_charAt_16 : decode prog_30_method_56_code 16 = .ok (.aload_n 0, 1) := by decide +kernel
theorem d_Sg_charAt_17 : decode prog_30_method_56_code 17 = .ok (.getfield 9, 3) := by decide +kernel
theorem d_Sg_charAt_20 : decode prog_30_method_56_code 20 = .ok (.iload_n 1, 1) := by decide +kernel
theorem d_Sg_charAt_21 : decode prog_30_method_56_code 21 = .ok (.invokestatic 498, 3) := by decide +kernel
theorem d_Sg_charAt_24 : decode prog_30_method_56_code 24 = .ok (.ireturn, 1) := by decide +kernel
theorem d_Sg_coder_0 : decode prog_30_method_152_code 0 = .ok (.getstatic 38, 3) := by decide +kernel
theorem d_Sg_coder_3 : decode prog_30_method_152_code 3 = .ok (.ifCond .eq 10, 3) := by decide +kernel
theorem d_Sg_coder_6 : decode prog_30_method_152_code 6 = .ok (.aload_n 0, 1) := by decide +kernel
theorem d_Sg_coder_7 : decode prog_30_method_152_code 7 = .ok (.getfield 15, 3) := by decide +kernel
theorem d_Sg_coder_10 : decode prog_30_method_152_code 10 = .ok (.goto 4, 3) := by decide +kernel
theorem d_Sg_coder_13 : decode prog_30_method_152_code 13 = .ok (.iconst 1, 1) := by decide +kernel
theorem d_Sg_coder_14 : decode prog_30_method_152_code 14 = .ok (.ireturn, 1) := by decide +kernel
theorem d_Sg_isLatin1_0 : decode prog_30_method_154_code 0 = .ok (.getstatic 38, 3) := by decide +kernel
theorem d_Sg_isLatin1_3 : decode prog_30_method_154_code 3 = .ok (.ifCond .eq 14, 3) := by decide +kernel
theorem d_Sg_isLatin1_6 : decode prog_30_method_154_code 6 = .ok (.aload_n 0, 1) := by decide +kernel
theorem d_Sg_isLatin1_7 : decode prog_30_method_154_code 7 = .ok (.getfield 15, 3) := by decide +kernel
theorem d_Sg_isLatin1_10 : decode prog_30_method_154_code 10 = .ok (.ifCond .ne 7, 3) := by decide +kernel
theorem d_Sg_isLatin1_13 : decode prog_30_method_154_code 13 = .ok (.iconst 1, 1) := by decide +kernel
theorem d_Sg_isLatin1_14 : decode prog_30_method_154_code 14 = .ok (.goto 4, 3) := by decide +kernel
theorem d_Sg_isLatin1_17 : decode prog_30_method_154_code 17 = .ok (.iconst 0, 1) := by decide +kernel
theorem d_Sg_isLatin1_18 : decode prog_30_method_154_code 18 = .ok (.ireturn, 1) := by decide +kernel
theorem d_Sg_checkIndex_0 : decode prog_30_method_155_code 0 = .ok (.iload_n 0, 1) := by decide +kernel
theorem d_Sg_checkIndex_1 : decode prog_30_method_155_code 1 = .ok (.iload_n 1, 1) := by decide +kernel
theorem d_Sg_checkIndex_2 : decode prog_30_method_155_code 2 = .ok (.getstatic 1053, 3) := by decide +kernel
theorem d_Sg_checkIndex_5 : decode prog_30_method_155_code 5 = .ok (.invokestatic 1059, 3) := by decide +kernel
theorem d_Sg_checkIndex_8 : decode prog_30_method_155_code 8 = .ok (.pop, 1) := by decide +kernel
theorem d_Sg_checkIndex_9 : decode prog_30_method_155_code 9 = .ok (.return_, 1) := by decide +kernel
theorem d_Sl_charAt_0 : decode prog_32_method_2_code 0 = .ok (.iload_n 1, 1) := by decide +kernel
theorem d_Sl_charAt_1 : decode prog_32_method_2_code 1 = .ok (.aload_n 0, 1) := by decide +kernel
theorem d_Sl_charAt_2 : decode prog_32_method_2_code 2 = .ok (.arraylength, 1) := by decide +kernel
theorem d_Sl_charAt_3 : decode prog_32_method_2_code 3 = .ok (.invokestatic 9, 3) := by decide +kernel
theorem d_Sl_charAt_6 : decode prog_32_method_2_code 6 = .ok (.aload_n 0, 1) := by decide +kernel
theorem d_Sl_charAt_7 : decode prog_32_method_2_code 7 = .ok (.iload_n 1, 1) := by decide +kernel
theorem d_Sl_charAt_8 : decode prog_32_method_2_code 8 = .ok (.baload, 1) := by decide +kernel
theorem d_Sl_charAt_9 : decode prog_32_method_2_code 9 = .ok (.sipush 255, 3) := by decide +kernel
theorem d_Sl_charAt_12 : decode prog_32_method_2_code 12 = .ok (.iand, 1) := by decide +kernel
theorem d_Sl_charAt_13 : decode prog_32_method_2_code 13 = .ok (.i2c, 1) := by decide +kernel
theorem d_Sl_charAt_14 : decode prog_32_method_2_code 14 = .ok (.ireturn, 1) := by decide +kernel
theorem d_Ar_fill_0 : decode prog_44_method_103_code 0 = .ok (.iconst 0, 1) := by decide +kernel
theorem d_Ar_fill_1 : decode prog_44_method_103_code 1 = .ok (.istore_n 2, 1) := by decide +kernel
theorem d_Ar_fill_2 : decode prog_44_method_103_code 2 = .ok (.aload_n 0, 1) := by decide +kernel
theorem d_Ar_fill_3 : decode prog_44_method_103_code 3 = .ok (.arraylength, 1) := by decide +kernel
theorem d_Ar_fill_4 : decode prog_44_method_103_code 4 = .ok (.istore_n 3, 1) := by decide +kernel
theorem d_Ar_fill_5 : decode prog_44_method_103_code 5 = .ok (.iload_n 2, 1) := by decide +kernel
theorem d_Ar_fill_6 : decode prog_44_method_103_code 6 = .ok (.iload_n 3, 1) := by decide +kernel
theorem d_Ar_fill_7 : decode prog_44_method_103_code 7 = .ok (.if_icmp .ge 13, 3) := by decide +kernel
theorem d_Ar_fill_10 : decode prog_44_method_103_code 10 = .ok (.aload_n 0, 1) := by decide +kernel
theorem d_Ar_fill_11 : decode prog_44_method_103_code 11 = .ok (.iload_n 2, 1) := by decide +kernel
theorem d_Ar_fill_12 : decode prog_44_method_103_code 12 = .ok (.iload_n 1, 1) := by decide +kernel
theorem d_Ar_fill_13 : decode prog_44_method_103_code 13 = .ok (.iastore, 1) := by decide +kernel
theorem d_Ar_fill_14 : decode prog_44_method_103_code 14 = .ok (.iinc 2 1, 3) := by decide +kernel
theorem d_Ar_fill_17 : decode prog_44_method_103_code 17 = .ok (.goto (-12), 3) := by decide +kernel
theorem d_Ar_fill_20 : decode prog_44_method_103_code 20 = .ok (.return_, 1) := by decide +kernel
theorem d_Pc_checkIndex_0 : decode prog_73_method_11_code 0 = .ok (.iload_n 0, 1) := by decide +kernel
theorem d_Pc_checkIndex_1 : decode prog_73_method_11_code 1 = .ok (.ifCond .lt 8, 3) := by decide +kernel
theorem d_Pc_checkIndex_4 : decode prog_73_method_11_code 4 = .ok (.iload_n 0, 1) := by decide +kernel
theorem d_Pc_checkIndex_5 : decode prog_73_method_11_code 5 = .ok (.iload_n 1, 1) := by decide +kernel
theorem d_Pc_checkIndex_6 : decode prog_73_method_11_code 6 = .ok (.if_icmp .lt 10, 3) := by decide +kernel
theorem d_Pc_checkIndex_9 : decode prog_73_method_11_code 9 = .ok (.aload_n 2, 1) := by decide +kernel
theorem d_Pc_checkIndex_10 : decode prog_73_method_11_code 10 = .ok (.iload_n 0, 1) := by decide +kernel
theorem d_Pc_checkIndex_11 : decode prog_73_method_11_code 11 = .ok (.iload_n 1, 1) := by decide +kernel
theorem d_Pc_checkIndex_12 : decode prog_73_method_11_code 12 = .ok (.invokestatic 95, 3) := by decide +kernel
theorem d_Pc_checkIndex_15 : decode prog_73_method_11_code 15 = .ok (.athrow, 1) := by decide +kernel
theorem d_Pc_checkIndex_16 : decode prog_73_method_11_code 16 = .ok (.iload_n 0, 1) := by decide +kernel
theorem d_Pc_checkIndex_17 : decode prog_73_method_11_code 17 = .ok (.ireturn, 1) := by decide +kernel
