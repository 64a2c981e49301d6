-- instructions, decoded
theorem d_Bo_projected_19 : decode prog_13_method_12_code 19 = .ok (.aload 5, 2) := by decide +kernel
theorem d_Bo_projected_21 : decode prog_13_method_12_code 21 = .ok (.invokeinterface 46 1, 5) := by decide +kernel
theorem d_Bo_projected_26 : decode prog_13_method_12_code 26 = .ok (.checkcast 87, 3) := by decide +kernel
theorem d_Bo_projected_29 : decode prog_13_method_12_code 29 = .ok (.astore 6, 2) := by decide +kernel
theorem d_Bo_projected_31 : decode prog_13_method_12_code 31 = .ok (.iload 4, 2) := by decide +kernel
theorem d_Bo_projected_33 : decode prog_13_method_12_code 33 = .ok (.iconst 0, 1) := by decide +kernel
theorem d_Bo_projected_34 : decode prog_13_method_12_code 34 = .ok (.iload_n 3, 1) := by decide +kernel
theorem d_Bo_projected_35 : decode prog_13_method_12_code 35 = .ok (.aload_n 0, 1) := by decide +kernel
theorem d_Bo_projected_36 : decode prog_13_method_12_code 36 = .ok (.aload 6, 2) := by decide +kernel
theorem d_Bo_projected_38 : decode prog_13_method_12_code 38 = .ok (.iload_n 2, 1) := by decide +kernel
theorem d_Bo_projected_39 : decode prog_13_method_12_code 39 = .ok (.invokevirtual 124, 3) := by decide +kernel
theorem d_Bo_projected_42 : decode prog_13_method_12_code 42 = .ok (.imul, 1) := by decide +kernel
theorem d_Bo_projected_43 : decode prog_13_method_12_code 43 = .ok (.invokestatic 128, 3) := by decide +kernel
theorem d_Bo_projected_46 : decode prog_13_method_12_code 46 = .ok (.iadd, 1) := by decide +kernel
theorem d_Bo_projected_47 : decode prog_13_method_12_code 47 = .ok (.istore 4, 2) := by decide +kernel
theorem d_Bo_projected_49 : decode prog_13_method_12_code 49 = .ok (.goto (-40), 3) := by decide +kernel
theorem d_Bo_projected_52 : decode prog_13_method_12_code 52 = .ok (.iload 4, 2) := by decide +kernel
theorem d_Bo_projected_54 : decode prog_13_method_12_code 54 = .ok (.ireturn, 1) := by decide +kernel
theorem d_Bo_known_0 : decode prog_13_method_13_code 0 = .ok (.iconst 0, 1) := by decide +kernel
theorem d_Bo_known_1 : decode prog_13_method_13_code 1 = .ok (.istore_n 2, 1) := by decide +kernel
theorem d_Bo_known_2 : decode prog_13_method_13_code 2 = .ok (.aload_n 0, 1) := by decide +kernel
theorem d_Bo_known_3 : decode prog_13_method_13_code 3 = .ok (.getfield 10, 3) := by decide +kernel
theorem d_Bo_known_6 : decode prog_13_method_13_code 6 = .ok (.invokevirtual 36, 3) := by decide +kernel
theorem d_Bo_known_9 : decode prog_13_method_13_code 9 = .ok (.astore_n 3, 1) := by decide +kernel
theorem d_Bo_known_10 : decode prog_13_method_13_code 10 = .ok (.aload_n 3, 1) := by decide +kernel
theorem d_Bo_known_11 : decode prog_13_method_13_code 11 = .ok (.invokeinterface 40 1, 5) := by decide +kernel
theorem d_Bo_known_16 : decode prog_13_method_13_code 16 = .ok (.ifCond .eq 40, 3) := by decide +kernel
theorem d_Bo_known_19 : decode prog_13_method_13_code 19 = .ok (.aload_n 3, 1) := by decide +kernel
theorem d_Bo_known_20 : decode prog_13_method_13_code 20 = .ok (.invokeinterface 46 1, 5) := by decide +kernel
theorem d_Bo_known_25 : decode prog_13_method_13_code 25 = .ok (.checkcast 32, 3) := by decide +kernel
theorem d_Bo_known_28 : decode prog_13_method_13_code 28 = .ok (.astore 4, 2) := by decide +kernel
theorem d_Bo_known_30 : decode prog_13_method_13_code 30 = .ok (.aload_n 0, 1) := by decide +kernel
theorem d_Bo_known_31 : decode prog_13_method_13_code 31 = .ok (.aload 4, 2) := by decide +kernel
theorem d_Bo_known_33 : decode prog_13_method_13_code 33 = .ok (.invokevirtual 54, 3) := by decide +kernel
theorem d_Bo_known_36 : decode prog_13_method_13_code 36 = .ok (.ifCond .eq 17, 3) := by decide +kernel
theorem d_Bo_known_39 : decode prog_13_method_13_code 39 = .ok (.iload_n 2, 1) := by decide +kernel
theorem d_Bo_known_40 : decode prog_13_method_13_code 40 = .ok (.iconst 0, 1) := by decide +kernel
theorem d_Bo_known_41 : decode prog_13_method_13_code 41 = .ok (.iload_n 1, 1) := by decide +kernel
theorem d_Bo_known_42 : decode prog_13_method_13_code 42 = .ok (.aload 4, 2) := by decide +kernel
theorem d_Bo_known_44 : decode prog_13_method_13_code 44 = .ok (.invokevirtual 134, 3) := by decide +kernel
theorem d_Bo_known_47 : decode prog_13_method_13_code 47 = .ok (.imul, 1) := by decide +kernel
theorem d_Bo_known_48 : decode prog_13_method_13_code 48 = .ok (.invokestatic 128, 3) := by decide +kernel
theorem d_Bo_known_51 : decode prog_13_method_13_code 51 = .ok (.iadd, 1) := by decide +kernel
theorem d_Bo_known_52 : decode prog_13_method_13_code 52 = .ok (.istore_n 2, 1) := by decide +kernel
theorem d_Bo_known_53 : decode prog_13_method_13_code 53 = .ok (.goto (-43), 3) := by decide +kernel
theorem d_Bo_known_56 : decode prog_13_method_13_code 56 = .ok (.iload_n 2, 1) := by decide +kernel
theorem d_Bo_known_57 : decode prog_13_method_13_code 57 = .ok (.ireturn, 1) := by decide +kernel
theorem d_Bo_bound_0 : decode prog_13_method_18_code 0 = .ok (.aload_n 0, 1) := by decide +kernel
theorem d_Bo_bound_1 : decode prog_13_method_18_code 1 = .ok (.iload_n 2, 1) := by decide +kernel
theorem d_Bo_bound_2 : decode prog_13_method_18_code 2 = .ok (.invokevirtual 74, 3) := by decide +kernel
theorem d_Bo_bound_5 : decode prog_13_method_18_code 5 = .ok (.astore 4, 2) := by decide +kernel
theorem d_Bo_bound_7 : decode prog_13_method_18_code 7 = .ok (.aload 4, 2) := by decide +kernel
theorem d_Bo_bound_9 : decode prog_13_method_18_code 9 = .ok (.invokevirtual 67, 3) := by decide +kernel
theorem d_Bo_bound_12 : decode prog_13_method_18_code 12 = .ok (.iload_n 3, 1) := by decide +kernel
theorem d_Bo_bound_13 : decode prog_13_method_18_code 13 = .ok (.iadd, 1) := by decide +kernel
theorem d_Bo_bound_14 : decode prog_13_method_18_code 14 = .ok (.istore 5, 2) := by decide +kernel
theorem d_Bo_bound_16 : decode prog_13_method_18_code 16 = .ok (.aload_n 0, 1) := by decide +kernel
theorem d_Bo_bound_17 : decode prog_13_method_18_code 17 = .ok (.iload 5, 2) := by decide +kernel
theorem d_Bo_bound_19 : decode prog_13_method_18_code 19 = .ok (.invokevirtual 150, 3) := by decide +kernel
theorem d_Bo_bound_22 : decode prog_13_method_18_code 22 = .ok (.aload_n 0, 1) := by decide +kernel
theorem d_Bo_bound_23 : decode prog_13_method_18_code 23 = .ok (.aload 4, 2) := by decide +kernel
theorem d_Bo_bound_25 : decode prog_13_method_18_code 25 = .ok (.iload_n 1, 1) := by decide +kernel
theorem d_Bo_bound_26 : decode prog_13_method_18_code 26 = .ok (.iload 5, 2) := by decide +kernel
theorem d_Bo_bound_28 : decode prog_13_method_18_code 28 = .ok (.invokevirtual 153, 3) := by decide +kernel
theorem d_Bo_bound_31 : decode prog_13_method_18_code 31 = .ok (.iadd, 1) := by decide +kernel
theorem d_Bo_bound_32 : decode prog_13_method_18_code 32 = .ok (.aload_n 0, 1) := by decide +kernel
theorem d_Bo_bound_33 : decode prog_13_method_18_code 33 = .ok (.iload_n 1, 1) := by decide +kernel
theorem d_Bo_bound_34 : decode prog_13_method_18_code 34 = .ok (.invokevirtual 157, 3) := by decide +kernel
theorem d_Bo_bound_37 : decode prog_13_method_18_code 37 = .ok (.iadd, 1) := by decide +kernel
theorem d_Bo_bound_38 : decode prog_13_method_18_code 38 = .ok (.istore 6, 2) := by decide +kernel
theorem d_Bo_bound_40 : decode prog_13_method_18_code 40 = .ok (.aload_n 0, 1) := by decide +kernel
theorem d_Bo_bound_41 : decode prog_13_method_18_code 41 = .ok (.getfield 20, 3) := by decide +kernel
theorem d_Bo_bound_44 : decode prog_13_method_18_code 44 = .ok (.iconst 3, 1) := by decide +kernel
theorem d_Bo_bound_45 : decode prog_13_method_18_code 45 = .ok (.iaload, 1) := by decide +kernel
theorem d_Bo_bound_46 : decode prog_13_method_18_code 46 = .ok (.ifCond .ne 8, 3) := by decide +kernel
theorem d_Bo_bound_49 : decode prog_13_method_18_code 49 = .ok (.iload 6, 2) := by decide +kernel
theorem d_Bo_bound_51 : decode prog_13_method_18_code 51 = .ok (.goto 22, 3) := by decide +kernel
theorem d_Bo_bound_54 : decode prog_13_method_18_code 54 = .ok (.iload 6, 2) := by decide +kernel
theorem d_Bo_bound_56 : decode prog_13_method_18_code 56 = .ok (.aload_n 0, 1) := by decide +kernel
theorem d_Bo_bound_57 : decode prog_13_method_18_code 57 = .ok (.iload_n 1, 1) := by decide +kernel
theorem d_Bo_bound_58 : decode prog_13_method_18_code 58 = .ok (.ineg, 1) := by decide +kernel
theorem d_Bo_bound_59 : decode prog_13_method_18_code 59 = .ok (.invokevirtual 157, 3) := by decide +kernel
theorem d_Bo_bound_62 : decode prog_13_method_18_code 62 = .ok (.isub, 1) := by decide +kernel
theorem d_Bo_bound_63 : decode prog_13_method_18_code 63 = .ok (.aload_n 0, 1) := by decide +kernel
theorem d_Bo_bound_64 : decode prog_13_method_18_code 64 = .ok (.aload 4, 2) := by decide +kernel
theorem d_Bo_bound_66 : decode prog_13_method_18_code 66 = .ok (.iload_n 2, 1) := by decide +kernel
theorem d_Bo_bound_67 : decode prog_13_method_18_code 67 = .ok (.iload_n 1, 1) := by decide +kernel
theorem d_Bo_bound_68 : decode prog_13_method_18_code 68 = .ok (.ineg, 1) := by decide +kernel
theorem d_Bo_bound_69 : decode prog_13_method_18_code 69 = .ok (.invokevirtual 160, 3) := by decide +kernel
theorem d_Bo_bound_72 : decode prog_13_method_18_code 72 = .ok (.isub, 1) := by decide +kernel
theorem d_Bo_bound_73 : decode prog_13_method_18_code 73 = .ok (.ireturn, 1) := by decide +kernel
theorem d_Bo_basic_0 : decode prog_13_method_17_code 0 = .ok (.aload_n 0, 1) := by decide +kernel
theorem d_Bo_basic_1 : decode prog_13_method_17_code 1 = .ok (.invokevirtual 78, 3) := by decide +kernel
theorem d_Bo_basic_4 : decode prog_13_method_17_code 4 = .ok (.arraylength, 1) := by decide +kernel
theorem d_Bo_basic_5 : decode prog_13_method_17_code 5 = .ok (.i2l, 1) := by decide +kernel
theorem d_Bo_basic_6 : decode prog_13_method_17_code 6 = .ok (.iload_n 1, 1) := by decide +kernel
theorem d_Bo_basic_7 : decode prog_13_method_17_code 7 = .ok (.iconst 0, 1) := by decide +kernel
theorem d_Bo_basic_8 : decode prog_13_method_17_code 8 = .ok (.aload_n 0, 1) := by decide +kernel
theorem d_Bo_basic_9 : decode prog_13_method_17_code 9 = .ok (.getfield 20, 3) := by decide +kernel
theorem d_Bo_basic_12 : decode prog_13_method_17_code 12 = .ok (.iconst 1, 1) := by decide +kernel
theorem d_Bo_basic_13 : decode prog_13_method_17_code 13 = .ok (.iaload, 1) := by decide +kernel
theorem d_Bo_basic_14 : decode prog_13_method_17_code 14 = .ok (.invokestatic 113, 3) := by decide +kernel
theorem d_Bo_basic_17 : decode prog_13_method_17_code 17 = .ok (.i2l, 1) := by decide +kernel
theorem d_Bo_basic_18 : decode prog_13_method_17_code 18 = .ok (.lmul, 1) := by decide +kernel
theorem d_Bo_basic_19 : decode prog_13_method_17_code 19 = .ok (.ldc2_w 117, 3) := by decide +kernel
theorem d_Bo_basic_22 : decode prog_13_method_17_code 22 = .ok (.ldiv, 1) := by decide +kernel
theorem d_Bo_basic_23 : decode prog_13_method_17_code 23 = .ok (.l2i, 1) := by decide +kernel
theorem d_Bo_basic_24 : decode prog_13_method_17_code 24 = .ok (.ireturn, 1) := by decide +kernel
theorem d_Bo_rises_0 : decode prog_13_method_16_code 0 = .ok (.aload_n 0, 1) := by decide +kernel
theorem d_Bo_rises_1 : decode prog_13_method_16_code 1 = .ok (.aload_n 1, 1) := by decide +kernel
theorem d_Bo_rises_2 : decode prog_13_method_16_code 2 = .ok (.iload_n 2, 1) := by decide +kernel
theorem d_Bo_rises_3 : decode prog_13_method_16_code 3 = .ok (.invokevirtual 146, 3) := by decide +kernel
theorem d_Bo_rises_6 : decode prog_13_method_16_code 6 = .ok (.astore 4, 2) := by decide +kernel
theorem d_Bo_rises_8 : decode prog_13_method_16_code 8 = .ok (.iconst 0, 1) := by decide +kernel
theorem d_Bo_rises_9 : decode prog_13_method_16_code 9 = .ok (.istore 5, 2) := by decide +kernel
theorem d_Bo_rises_11 : decode prog_13_method_16_code 11 = .ok (.aload_n 0, 1) := by decide +kernel
theorem d_Bo_rises_12 : decode prog_13_method_16_code 12 = .ok (.invokevirtual 78, 3) := by decide +kernel
theorem d_Bo_rises_15 : decode prog_13_method_16_code 15 = .ok (.arraylength, 1) := by decide +kernel
theorem d_Bo_rises_16 : decode prog_13_method_16_code 16 = .ok (.istore 6, 2) := by decide +kernel
theorem d_Bo_rises_18 : decode prog_13_method_16_code 18 = .ok (.iload_n 3, 1) := by decide +kernel
theorem d_Bo_rises_19 : decode prog_13_method_16_code 19 = .ok (.iconst 0, 1) := by decide +kernel
theorem d_Bo_rises_20 : decode prog_13_method_16_code 20 = .ok (.aload_n 0, 1) := by decide +kernel
theorem d_Bo_rises_21 : decode prog_13_method_16_code 21 = .ok (.getfield 20, 3) := by decide +kernel
theorem d_Bo_rises_24 : decode prog_13_method_16_code 24 = .ok (.iconst 1, 1) := by decide +kernel
theorem d_Bo_rises_25 : decode prog_13_method_16_code 25 = .ok (.iaload, 1) := by decide +kernel
theorem d_Bo_rises_26 : decode prog_13_method_16_code 26 = .ok (.invokestatic 113, 3) := by decide +kernel
theorem d_Bo_rises_29 : decode prog_13_method_16_code 29 = .ok (.istore 7, 2) := by decide +kernel
theorem d_Bo_rises_31 : decode prog_13_method_16_code 31 = .ok (.iconst 1, 1) := by decide +kernel
theorem d_Bo_rises_32 : decode prog_13_method_16_code 32 = .ok (.istore 8, 2) := by decide +kernel
theorem d_Bo_rises_34 : decode prog_13_method_16_code 34 = .ok (.iload 8, 2) := by decide +kernel
theorem d_Bo_rises_36 : decode prog_13_method_16_code 36 = .ok (.aload 4, 2) := by decide +kernel
theorem d_Bo_rises_38 : decode prog_13_method_16_code 38 = .ok (.invokevirtual 67, 3) := by decide +kernel
theorem d_Bo_rises_41 : decode prog_13_method_16_code 41 = .ok (.if_icmp .gt 80, 3) := by decide +kernel
theorem d_Bo_rises_44 : decode prog_13_method_16_code 44 = .ok (.iload_n 3, 1) := by decide +kernel
theorem d_Bo_rises_45 : decode prog_13_method_16_code 45 = .ok (.iload 8, 2) := by decide +kernel
theorem d_Bo_rises_47 : decode prog_13_method_16_code 47 = .ok (.aload_n 0, 1) := by decide +kernel
theorem d_Bo_rises_48 : decode prog_13_method_16_code 48 = .ok (.getfield 20, 3) := by decide +kernel
theorem d_Bo_rises_51 : decode prog_13_method_16_code 51 = .ok (.iconst 1, 1) := by decide +kernel
theorem d_Bo_rises_52 : decode prog_13_method_16_code 52 = .ok (.iaload, 1) := by decide +kernel
theorem d_Bo_rises_53 : decode prog_13_method_16_code 53 = .ok (.invokestatic 113, 3) := by decide +kernel
theorem d_Bo_rises_56 : decode prog_13_method_16_code 56 = .ok (.istore 9, 2) := by decide +kernel
theorem d_Bo_rises_58 : decode prog_13_method_16_code 58 = .ok (.iload 5, 2) := by decide +kernel
theorem d_Bo_rises_60 : decode prog_13_method_16_code 60 = .ok (.iload 6, 2) := by decide +kernel
theorem d_Bo_rises_62 : decode prog_13_method_16_code 62 = .ok (.i2l, 1) := by decide +kernel
theorem d_Bo_rises_63 : decode prog_13_method_16_code 63 = .ok (.iload 9, 2) := by decide +kernel
theorem d_Bo_rises_65 : decode prog_13_method_16_code 65 = .ok (.iload 7, 2) := by decide +kernel
theorem d_Bo_rises_67 : decode prog_13_method_16_code 67 = .ok (.isub, 1) := by decide +kernel
theorem d_Bo_rises_68 : decode prog_13_method_16_code 68 = .ok (.i2l, 1) := by decide +kernel
theorem d_Bo_rises_69 : decode prog_13_method_16_code 69 = .ok (.lmul, 1) := by decide +kernel
theorem d_Bo_rises_70 : decode prog_13_method_16_code 70 = .ok (.aload_n 0, 1) := by decide +kernel
theorem d_Bo_rises_71 : decode prog_13_method_16_code 71 = .ok (.getfield 10, 3) := by decide +kernel
theorem d_Bo_rises_74 : decode prog_13_method_16_code 74 = .ok (.aload 4, 2) := by decide +kernel
theorem d_Bo_rises_76 : decode prog_13_method_16_code 76 = .ok (.iload 8, 2) := by decide +kernel
theorem d_Bo_rises_78 : decode prog_13_method_16_code 78 = .ok (.iconst 1, 1) := by decide +kernel
theorem d_Bo_rises_79 : decode prog_13_method_16_code 79 = .ok (.isub, 1) := by decide +kernel
theorem d_Bo_rises_80 : decode prog_13_method_16_code 80 = .ok (.invokevirtual 70, 3) := by decide +kernel
theorem d_Bo_rises_83 : decode prog_13_method_16_code 83 = .ok (.checkcast 87, 3) := by decide +kernel
theorem d_Bo_rises_86 : decode prog_13_method_16_code 86 = .ok (.getfield 96, 3) := by decide +kernel
theorem d_Bo_rises_89 : decode prog_13_method_16_code 89 = .ok (.invokevirtual 70, 3) := by decide +kernel
theorem d_Bo_rises_92 : decode prog_13_method_16_code 92 = .ok (.checkcast 32, 3) := by decide +kernel
theorem d_Bo_rises_95 : decode prog_13_method_16_code 95 = .ok (.invokevirtual 119, 3) := by decide +kernel
theorem d_Bo_rises_98 : decode prog_13_method_16_code 98 = .ok (.invokestatic 140, 3) := by decide +kernel
theorem d_Bo_rises_101 : decode prog_13_method_16_code 101 = .ok (.i2l, 1) := by decide +kernel
theorem d_Bo_rises_102 : decode prog_13_method_16_code 102 = .ok (.lmul, 1) := by decide +kernel
theorem d_Bo_rises_103 : decode prog_13_method_16_code 103 = .ok (.ldc2_w 144, 3) := by decide +kernel
theorem d_Bo_rises_106 : decode prog_13_method_16_code 106 = .ok (.ldiv, 1) := by decide +kernel
theorem d_Bo_rises_107 : decode prog_13_method_16_code 107 = .ok (.l2i, 1) := by decide +kernel
theorem d_Bo_rises_108 : decode prog_13_method_16_code 108 = .ok (.iadd, 1) := by decide +kernel
theorem d_Bo_rises_109 : decode prog_13_method_16_code 109 = .ok (.istore 5, 2) := by decide +kernel
theorem d_Bo_rises_111 : decode prog_13_method_16_code 111 = .ok (.iload 9, 2) := by decide +kernel
theorem d_Bo_rises_113 : decode prog_13_method_16_code 113 = .ok (.istore 7, 2) := by decide +kernel
theorem d_Bo_rises_115 : decode prog_13_method_16_code 115 = .ok (.iinc 8 1, 3) := by decide +kernel
theorem d_Bo_rises_118 : decode prog_13_method_16_code 118 = .ok (.goto (-84), 3) := by decide +kernel
theorem d_Bo_rises_121 : decode prog_13_method_16_code 121 = .ok (.iload 5, 2) := by decide +kernel
theorem d_Bo_rises_123 : decode prog_13_method_16_code 123 = .ok (.ireturn, 1) := by decide +kernel
theorem d_Bo_ranked_0 : decode prog_13_method_14_code 0 = .ok (.new 7, 3) := by decide +kernel
theorem d_Bo_ranked_3 : decode prog_13_method_14_code 3 = .ok (.dup, 1) := by decide +kernel
theorem d_Bo_ranked_4 : decode prog_13_method_14_code 4 = .ok (.invokespecial 9, 3) := by decide +kernel
theorem d_Bo_ranked_7 : decode prog_13_method_14_code 7 = .ok (.astore_n 3, 1) := by decide +kernel
theorem d_Bo_ranked_8 : decode prog_13_method_14_code 8 = .ok (.aload_n 1, 1) := by decide +kernel
theorem d_Bo_ranked_9 : decode prog_13_method_14_code 9 = .ok (.invokevirtual 36, 3) := by decide +kernel
theorem d_Bo_ranked_12 : decode prog_13_method_14_code 12 = .ok (.astore 4, 2) := by decide +kernel
theorem d_Bo_ranked_14 : decode prog_13_method_14_code 14 = .ok (.aload 4, 2) := by decide +kernel
theorem d_Bo_ranked_16 : decode prog_13_method_14_code 16 = .ok (.invokeinterface 40 1, 5) := by decide +kernel
theorem d_Bo_ranked_21 : decode prog_13_method_14_code 21 = .ok (.ifCond .eq 107, 3) := by decide +kernel
theorem d_Bo_ranked_24 : decode prog_13_method_14_code 24 = .ok (.aload 4, 2) := by decide +kernel
theorem d_Bo_ranked_26 : decode prog_13_method_14_code 26 = .ok (.invokeinterface 46 1, 5) := by decide +kernel
theorem d_Bo_ranked_31 : decode prog_13_method_14_code 31 = .ok (.checkcast 87, 3) := by decide +kernel
theorem d_Bo_ranked_34 : decode prog_13_method_14_code 34 = .ok (.astore 5, 2) := by decide +kernel
theorem d_Bo_ranked_36 : decode prog_13_method_14_code 36 = .ok (.iload_n 2, 1) := by decide +kernel
theorem d_Bo_ranked_37 : decode prog_13_method_14_code 37 = .ok (.aload_n 0, 1) := by decide +kernel
theorem d_Bo_ranked_38 : decode prog_13_method_14_code 38 = .ok (.getfield 10, 3) := by decide +kernel
theorem d_Bo_ranked_41 : decode prog_13_method_14_code 41 = .ok (.aload 5, 2) := by decide +kernel
theorem d_Bo_ranked_43 : decode prog_13_method_14_code 43 = .ok (.getfield 96, 3) := by decide +kernel
theorem d_Bo_ranked_46 : decode prog_13_method_14_code 46 = .ok (.invokevirtual 70, 3) := by decide +kernel
theorem d_Bo_ranked_49 : decode prog_13_method_14_code 49 = .ok (.checkcast 32, 3) := by decide +kernel
theorem d_Bo_ranked_52 : decode prog_13_method_14_code 52 = .ok (.invokevirtual 119, 3) := by decide +kernel
theorem d_Bo_ranked_55 : decode prog_13_method_14_code 55 = .ok (.imul, 1) := by decide +kernel
theorem d_Bo_ranked_56 : decode prog_13_method_14_code 56 = .ok (.istore 6, 2) := by decide +kernel
theorem d_Bo_ranked_58 : decode prog_13_method_14_code 58 = .ok (.aload_n 3, 1) := by decide +kernel
theorem d_Bo_ranked_59 : decode prog_13_method_14_code 59 = .ok (.invokevirtual 67, 3) := by decide +kernel
theorem d_Bo_ranked_62 : decode prog_13_method_14_code 62 = .ok (.istore 7, 2) := by decide +kernel
theorem d_Bo_ranked_64 : decode prog_13_method_14_code 64 = .ok (.iload 6, 2) := by decide +kernel
theorem d_Bo_ranked_66 : decode prog_13_method_14_code 66 = .ok (.ifCond .gt 6, 3) := by decide +kernel
theorem d_Bo_ranked_69 : decode prog_13_method_14_code 69 = .ok (.goto (-55), 3) := by decide +kernel
theorem d_Bo_ranked_72 : decode prog_13_method_14_code 72 = .ok (.iload 7, 2) := by decide +kernel
theorem d_Bo_ranked_74 : decode prog_13_method_14_code 74 = .ok (.ifCond .le 43, 3) := by decide +kernel
theorem d_Bo_ranked_77 : decode prog_13_method_14_code 77 = .ok (.iload_n 2, 1) := by decide +kernel
theorem d_Bo_ranked_78 : decode prog_13_method_14_code 78 = .ok (.aload_n 0, 1) := by decide +kernel
theorem d_Bo_ranked_79 : decode prog_13_method_14_code 79 = .ok (.getfield 10, 3) := by decide +kernel
theorem d_Bo_ranked_82 : decode prog_13_method_14_code 82 = .ok (.aload_n 3, 1) := by decide +kernel
theorem d_Bo_ranked_83 : decode prog_13_method_14_code 83 = .ok (.iload 7, 2) := by decide +kernel
theorem d_Bo_ranked_85 : decode prog_13_method_14_code 85 = .ok (.iconst 1, 1) := by decide +kernel
theorem d_Bo_ranked_86 : decode prog_13_method_14_code 86 = .ok (.isub, 1) := by decide +kernel
theorem d_Bo_ranked_87 : decode prog_13_method_14_code 87 = .ok (.invokevirtual 70, 3) := by decide +kernel
theorem d_Bo_ranked_90 : decode prog_13_method_14_code 90 = .ok (.checkcast 87, 3) := by decide +kernel
theorem d_Bo_ranked_93 : decode prog_13_method_14_code 93 = .ok (.getfield 96, 3) := by decide +kernel
theorem d_Bo_ranked_96 : decode prog_13_method_14_code 96 = .ok (.invokevirtual 70, 3) := by decide +kernel
theorem d_Bo_ranked_99 : decode prog_13_method_14_code 99 = .ok (.checkcast 32, 3) := by decide +kernel
theorem d_Bo_ranked_102 : decode prog_13_method_14_code 102 = .ok (.invokevirtual 119, 3) := by decide +kernel
theorem d_Bo_ranked_105 : decode prog_13_method_14_code 105 = .ok (.imul, 1) := by decide +kernel
theorem d_Bo_ranked_106 : decode prog_13_method_14_code 106 = .ok (.iload 6, 2) := by decide +kernel
theorem d_Bo_ranked_108 : decode prog_13_method_14_code 108 = .ok (.if_icmp .ge 9, 3) := by decide +kernel
theorem d_Bo_ranked_111 : decode prog_13_method_14_code 111 = .ok (.iinc 7 (-1), 3) := by decide +kernel
theorem d_Bo_ranked_114 : decode prog_13_method_14_code 114 = .ok (.goto (-42), 3) := by decide +kernel
theorem d_Bo_ranked_117 : decode prog_13_method_14_code 117 = .ok (.aload_n 3, 1) := by decide +kernel
theorem d_Bo_ranked_118 : decode prog_13_method_14_code 118 = .ok (.iload 7, 2) := by decide +kernel
theorem d_Bo_ranked_120 : decode prog_13_method_14_code 120 = .ok (.aload 5, 2) := by decide +kernel
theorem d_Bo_ranked_122 : decode prog_13_method_14_code 122 = .ok (.invokevirtual 137, 3) := by decide +kernel
theorem d_Bo_ranked_125 : decode prog_13_method_14_code 125 = .ok (.goto (-111), 3) := by decide +kernel
theorem d_Bo_ranked_128 : decode prog_13_method_14_code 128 = .ok (.aload_n 3, 1) := by decide +kernel
theorem d_Bo_ranked_129 : decode prog_13_method_14_code 129 = .ok (.areturn, 1) := by decide +kernel
theorem d_Al_indexOf_0 : decode prog_42_method_11_code 0 = .ok (.aload_n 0, 1) := by decide +kernel
theorem d_Al_indexOf_1 : decode prog_42_method_11_code 1 = .ok (.aload_n 1, 1) := by decide +kernel
theorem d_Al_indexOf_2 : decode prog_42_method_11_code 2 = .ok (.iconst 0, 1) := by decide +kernel
theorem d_Al_indexOf_3 : decode prog_42_method_11_code 3 = .ok (.aload_n 0, 1) := by decide +kernel
theorem d_Al_indexOf_4 : decode prog_42_method_11_code 4 = .ok (.getfield 48, 3) := by decide +kernel
theorem d_Al_indexOf_7 : decode prog_42_method_11_code 7 = .ok (.invokevirtual 89, 3) := by decide +kernel
theorem d_Al_indexOf_10 : decode prog_42_method_11_code 10 = .ok (.ireturn, 1) := by decide +kernel
theorem d_Bo_rise_0 : decode prog_13_method_15_code 0 = .ok (.iload_n 3, 1) := by decide +kernel
theorem d_Bo_rise_1 : decode prog_13_method_15_code 1 = .ok (.iload_n 2, 1) := by decide +kernel
theorem d_Bo_rise_2 : decode prog_13_method_15_code 2 = .ok (.aload_n 0, 1) := by decide +kernel
theorem d_Bo_rise_3 : decode prog_13_method_15_code 3 = .ok (.getfield 20, 3) := by decide +kernel
theorem d_Bo_rise_6 : decode prog_13_method_15_code 6 = .ok (.iconst 1, 1) := by decide +kernel
theorem d_Bo_rise_7 : decode prog_13_method_15_code 7 = .ok (.iaload, 1) := by decide +kernel
theorem d_Bo_rise_8 : decode prog_13_method_15_code 8 = .ok (.invokestatic 113, 3) := by decide +kernel
theorem d_Bo_rise_11 : decode prog_13_method_15_code 11 = .ok (.iload_n 3, 1) := by decide +kernel
theorem d_Bo_rise_12 : decode prog_13_method_15_code 12 = .ok (.iload_n 2, 1) := by decide +kernel
theorem d_Bo_rise_13 : decode prog_13_method_15_code 13 = .ok (.iconst 1, 1) := by decide +kernel
theorem d_Bo_rise_14 : decode prog_13_method_15_code 14 = .ok (.isub, 1) := by decide +kernel
theorem d_Bo_rise_15 : decode prog_13_method_15_code 15 = .ok (.aload_n 0, 1) := by decide +kernel
theorem d_Bo_rise_16 : decode prog_13_method_15_code 16 = .ok (.getfield 20, 3) := by decide +kernel
theorem d_Bo_rise_19 : decode prog_13_method_15_code 19 = .ok (.iconst 1, 1) := by decide +kernel
theorem d_Bo_rise_20 : decode prog_13_method_15_code 20 = .ok (.iaload, 1) := by decide +kernel
theorem d_Bo_rise_21 : decode prog_13_method_15_code 21 = .ok (.invokestatic 113, 3) := by decide +kernel
theorem d_Bo_rise_24 : decode prog_13_method_15_code 24 = .ok (.isub, 1) := by decide +kernel
theorem d_Bo_rise_25 : decode prog_13_method_15_code 25 = .ok (.i2l, 1) := by decide +kernel
theorem d_Bo_rise_26 : decode prog_13_method_15_code 26 = .ok (.lstore 5, 2) := by decide +kernel
theorem d_Bo_rise_28 : decode prog_13_method_15_code 28 = .ok (.iload 4, 2) := by decide +kernel
theorem d_Bo_rise_30 : decode prog_13_method_15_code 30 = .ok (.i2l, 1) := by decide +kernel
theorem d_Bo_rise_31 : decode prog_13_method_15_code 31 = .ok (.lload 5, 2) := by decide +kernel
theorem d_Bo_rise_33 : decode prog_13_method_15_code 33 = .ok (.lmul, 1) := by decide +kernel
theorem d_Bo_rise_34 : decode prog_13_method_15_code 34 = .ok (.aload_n 0, 1) := by decide +kernel
theorem d_Bo_rise_35 : decode prog_13_method_15_code 35 = .ok (.getfield 10, 3) := by decide +kernel
theorem d_Bo_rise_38 : decode prog_13_method_15_code 38 = .ok (.aload_n 1, 1) := by decide +kernel
theorem d_Bo_rise_39 : decode prog_13_method_15_code 39 = .ok (.iload_n 2, 1) := by decide +kernel
theorem d_Bo_rise_40 : decode prog_13_method_15_code 40 = .ok (.iconst 1, 1) := by decide +kernel
theorem d_Bo_rise_41 : decode prog_13_method_15_code 41 = .ok (.isub, 1) := by decide +kernel
theorem d_Bo_rise_42 : decode prog_13_method_15_code 42 = .ok (.invokevirtual 70, 3) := by decide +kernel
theorem d_Bo_rise_45 : decode prog_13_method_15_code 45 = .ok (.checkcast 87, 3) := by decide +kernel
theorem d_Bo_rise_48 : decode prog_13_method_15_code 48 = .ok (.getfield 96, 3) := by decide +kernel
theorem d_Bo_rise_51 : decode prog_13_method_15_code 51 = .ok (.invokevirtual 70, 3) := by decide +kernel
theorem d_Bo_rise_54 : decode prog_13_method_15_code 54 = .ok (.checkcast 32, 3) := by decide +kernel
theorem d_Bo_rise_57 : decode prog_13_method_15_code 57 = .ok (.invokevirtual 119, 3) := by decide +kernel
theorem d_Bo_rise_60 : decode prog_13_method_15_code 60 = .ok (.invokestatic 140, 3) := by decide +kernel
theorem d_Bo_rise_63 : decode prog_13_method_15_code 63 = .ok (.i2l, 1) := by decide +kernel
theorem d_Bo_rise_64 : decode prog_13_method_15_code 64 = .ok (.lmul, 1) := by decide +kernel
theorem d_Bo_rise_65 : decode prog_13_method_15_code 65 = .ok (.ldc2_w 144, 3) := by decide +kernel
theorem d_Bo_rise_68 : decode prog_13_method_15_code 68 = .ok (.ldiv, 1) := by decide +kernel
theorem d_Bo_rise_69 : decode prog_13_method_15_code 69 = .ok (.l2i, 1) := by decide +kernel
theorem d_Bo_rise_70 : decode prog_13_method_15_code 70 = .ok (.ireturn, 1) := by decide +kernel
theorem d_Ak_init_0 : decode prog_39_method_1_code 0 = .ok (.aload_n 0, 1) := by decide +kernel
theorem d_Ak_init_1 : decode prog_39_method_1_code 1 = .ok (.invokespecial 1, 3) := by decide +kernel
theorem d_Ak_init_4 : decode prog_39_method_1_code 4 = .ok (.aload_n 0, 1) := by decide +kernel
theorem d_Ak_init_5 : decode prog_39_method_1_code 5 = .ok (.iconst 0, 1) := by decide +kernel
theorem d_Ak_init_6 : decode prog_39_method_1_code 6 = .ok (.putfield 7, 3) := by decide +kernel
theorem d_Ak_init_9 : decode prog_39_method_1_code 9 = .ok (.return_, 1) := by decide +kernel
theorem d_Hi_init_0 : decode prog_14_method_1_code 0 = .ok (.aload_n 0, 1) := by decide +kernel
theorem d_Hi_init_1 : decode prog_14_method_1_code 1 = .ok (.invokespecial 1, 3) := by decide +kernel
theorem d_Hi_init_4 : decode prog_14_method_1_code 4 = .ok (.aload_n 0, 1) := by decide +kernel
theorem d_Hi_init_5 : decode prog_14_method_1_code 5 = .ok (.iload_n 1, 1) := by decide +kernel
theorem d_Hi_init_6 : decode prog_14_method_1_code 6 = .ok (.putfield 7, 3) := by decide +kernel
theorem d_Hi_init_9 : decode prog_14_method_1_code 9 = .ok (.aload_n 0, 1) := by decide +kernel
theorem d_Hi_init_10 : decode prog_14_method_1_code 10 = .ok (.iload_n 2, 1) := by decide +kernel
theorem d_Hi_init_11 : decode prog_14_method_1_code 11 = .ok (.putfield 13, 3) := by decide +kernel
theorem d_Hi_init_14 : decode prog_14_method_1_code 14 = .ok (.aload_n 0, 1) := by decide +kernel
theorem d_Hi_init_15 : decode prog_14_method_1_code 15 = .ok (.iload_n 3, 1) := by decide +kernel
theorem d_Hi_init_16 : decode prog_14_method_1_code 16 = .ok (.putfield 16, 3) := by decide +kernel
theorem d_Hi_init_19 : decode prog_14_method_1_code 19 = .ok (.return_, 1) := by decide +kernel
theorem d_Ob_checkIndex_0 : decode prog_63_method_17_code 0 = .ok (.iload_n 0, 1) := by decide +kernel
theorem d_Ob_checkIndex_1 : decode prog_63_method_17_code 1 = .ok (.iload_n 1, 1) := by decide +kernel
theorem d_Ob_checkIndex_2 : decode prog_63_method_17_code 2 = .ok (.aconst_null, 1) := by decide +kernel
theorem d_Ob_checkIndex_3 : decode prog_63_method_17_code 3 = .ok (.invokestatic 105, 3) := by decide +kernel
theorem d_Ob_checkIndex_6 : decode prog_63_method_17_code 6 = .ok (.ireturn, 1) := by decide +kernel
theorem d_Al_elementData_0 : decode prog_42_method_18_code 0 = .ok (.aload_n 0, 1) := by decide +kernel
theorem d_Al_elementData_1 : decode prog_42_method_18_code 1 = .ok (.getfield 9, 3) := by decide +kernel
theorem d_Al_elementData_4 : decode prog_42_method_18_code 4 = .ok (.iload_n 1, 1) := by decide +kernel
theorem d_Al_elementData_5 : decode prog_42_method_18_code 5 = .ok (.aaload, 1) := by decide +kernel
theorem d_Al_elementData_6 : decode prog_42_method_18_code 6 = .ok (.areturn, 1) := by decide +kernel
theorem d_Sb_length_0 : decode prog_31_method_93_code 0 = .ok (.aload_n 0, 1) := by decide +kernel
theorem d_Sb_length_1 : decode prog_31_method_93_code 1 = .ok (.invokespecial 343, 3) := by decide +kernel
theorem d_Sb_length_4 : decode prog_31_method_93_code 4 = .ok (.ireturn, 1) := by decide +kernel
theorem d_Sb_append_cf468_0 : decode prog_31_method_14_code 0 = .ok (.aload_n 0, 1) := by decide +kernel
theorem d_Sb_append_cf468_1 : decode prog_31_method_14_code 1 = .ok (.iload_n 1, 1) := by decide +kernel
theorem d_Sb_append_cf468_2 : decode prog_31_method_14_code 2 = .ok (.invokespecial 50, 3) := by decide +kernel
theorem d_Sb_append_cf468_5 : decode prog_31_method_14_code 5 = .ok (.pop, 1) := by decide +kernel
theorem d_Sb_append_cf468_6 : decode prog_31_method_14_code 6 = .ok (.aload_n 0, 1) := by decide +kernel
theorem d_Sb_append_cf468_7 : decode prog_31_method_14_code 7 = .ok (.areturn, 1) := by decide +kernel
theorem d_Ma_abs_0 : decode prog_28_method_59_code 0 = .ok (.iload_n 0, 1) := by decide +kernel
theorem d_Ma_abs_1 : decode prog_28_method_59_code 1 = .ok (.ifCond .ge 8, 3) := by decide +kernel
theorem d_Ma_abs_4 : decode prog_28_method_59_code 4 = .ok (.iload_n 0, 1) := by decide +kernel
theorem d_Ma_abs_5 : decode prog_28_method_59_code 5 = .ok (.ineg, 1) := by decide +kernel
theorem d_Ma_abs_6 : decode prog_28_method_59_code 6 = .ok (.goto 4, 3) := by decide +kernel
theorem d_Ma_abs_9 : decode prog_28_method_59_code 9 = .ok (.iload_n 0, 1) := by decide +kernel
theorem d_Ma_abs_10 : decode prog_28_method_59_code 10 = .ok (.ireturn, 1) := by decide +kernel
theorem d_Bo_upper_0 : decode prog_13_method_9_code 0 = .ok (.iload_n 1, 1) := by decide +kernel
theorem d_Bo_upper_1 : decode prog_13_method_9_code 1 = .ok (.iload_n 0, 1) := by decide +kernel
theorem d_Bo_upper_2 : decode prog_13_method_9_code 2 = .ok (.if_icmp .lt 6, 3) := by decide +kernel
theorem d_Bo_upper_5 : decode prog_13_method_9_code 5 = .ok (.ldc 105, 2) := by decide +kernel
theorem d_Bo_upper_7 : decode prog_13_method_9_code 7 = .ok (.ireturn, 1) := by decide +kernel
theorem d_Bo_upper_8 : decode prog_13_method_9_code 8 = .ok (.iconst 0, 1) := by decide +kernel
theorem d_Bo_upper_9 : decode prog_13_method_9_code 9 = .ok (.istore_n 3, 1) := by decide +kernel
theorem d_Bo_upper_10 : decode prog_13_method_9_code 10 = .ok (.ldc 105, 2) := by decide +kernel
theorem d_Bo_upper_12 : decode prog_13_method_9_code 12 = .ok (.istore 4, 2) := by decide +kernel
theorem d_Bo_upper_14 : decode prog_13_method_9_code 14 = .ok (.iload 4, 2) := by decide +kernel
theorem d_Bo_upper_16 : decode prog_13_method_9_code 16 = .ok (.iload_n 3, 1) := by decide +kernel
theorem d_Bo_upper_17 : decode prog_13_method_9_code 17 = .ok (.isub, 1) := by decide +kernel
theorem d_Bo_upper_18 : decode prog_13_method_9_code 18 = .ok (.iconst 1, 1) := by decide +kernel
theorem d_Bo_upper_19 : decode prog_13_method_9_code 19 = .ok (.if_icmp .le 123, 3) := by decide +kernel
theorem d_Bo_upper_22 : decode prog_13_method_9_code 22 = .ok (.iload_n 3, 1) := by decide +kernel
theorem d_Bo_upper_23 : decode prog_13_method_9_code 23 = .ok (.iload 4, 2) := by decide +kernel
theorem d_Bo_upper_25 : decode prog_13_method_9_code 25 = .ok (.iadd, 1) := by decide +kernel
theorem d_Bo_upper_26 : decode prog_13_method_9_code 26 = .ok (.iconst 2, 1) := by decide +kernel
theorem d_Bo_upper_27 : decode prog_13_method_9_code 27 = .ok (.idiv, 1) := by decide +kernel
theorem d_Bo_upper_28 : decode prog_13_method_9_code 28 = .ok (.istore 5, 2) := by decide +kernel
theorem d_Bo_upper_30 : decode prog_13_method_9_code 30 = .ok (.iload 5, 2) := by decide +kernel
theorem d_Bo_upper_32 : decode prog_13_method_9_code 32 = .ok (.i2d, 1) := by decide +kernel
theorem d_Bo_upper_33 : decode prog_13_method_9_code 33 = .ok (.ldc2_w 106, 3) := by decide +kernel
theorem d_Bo_upper_36 : decode prog_13_method_9_code 36 = .ok (.ddiv, 1) := by decide +kernel
theorem d_Bo_upper_37 : decode prog_13_method_9_code 37 = .ok (.dstore 6, 2) := by decide +kernel
theorem d_Bo_upper_39 : decode prog_13_method_9_code 39 = .ok (.dconst 1, 1) := by decide +kernel
theorem d_Bo_upper_40 : decode prog_13_method_9_code 40 = .ok (.dload 6, 2) := by decide +kernel
theorem d_Bo_upper_42 : decode prog_13_method_9_code 42 = .ok (.dsub, 1) := by decide +kernel
theorem d_Bo_upper_43 : decode prog_13_method_9_code 43 = .ok (.dstore 8, 2) := by decide +kernel
theorem d_Bo_upper_45 : decode prog_13_method_9_code 45 = .ok (.dconst 1, 1) := by decide +kernel
theorem d_Bo_upper_46 : decode prog_13_method_9_code 46 = .ok (.dstore 10, 2) := by decide +kernel
theorem d_Bo_upper_48 : decode prog_13_method_9_code 48 = .ok (.iload_n 0, 1) := by decide +kernel
theorem d_Bo_upper_49 : decode prog_13_method_9_code 49 = .ok (.istore 12, 2) := by decide +kernel
theorem d_Bo_upper_51 : decode prog_13_method_9_code 51 = .ok (.iload 12, 2) := by decide +kernel
theorem d_Bo_upper_53 : decode prog_13_method_9_code 53 = .ok (.ifCond .le 16, 3) := by decide +kernel
theorem d_Bo_upper_56 : decode prog_13_method_9_code 56 = .ok (.dload 10, 2) := by decide +kernel
theorem d_Bo_upper_58 : decode prog_13_method_9_code 58 = .ok (.dload 8, 2) := by decide +kernel
theorem d_Bo_upper_60 : decode prog_13_method_9_code 60 = .ok (.dmul, 1) := by decide +kernel
theorem d_Bo_upper_61 : decode prog_13_method_9_code 61 = .ok (.dstore 10, 2) := by decide +kernel
theorem d_Bo_upper_63 : decode prog_13_method_9_code 63 = .ok (.iinc 12 (-1), 3) := by decide +kernel
theorem d_Bo_upper_66 : decode prog_13_method_9_code 66 = .ok (.goto (-15), 3) := by decide +kernel
theorem d_Bo_upper_69 : decode prog_13_method_9_code 69 = .ok (.dload 10, 2) := by decide +kernel
theorem d_Bo_upper_71 : decode prog_13_method_9_code 71 = .ok (.dstore 12, 2) := by decide +kernel
theorem d_Bo_upper_73 : decode prog_13_method_9_code 73 = .ok (.iconst 1, 1) := by decide +kernel
theorem d_Bo_upper_74 : decode prog_13_method_9_code 74 = .ok (.istore 14, 2) := by decide +kernel
theorem d_Bo_upper_76 : decode prog_13_method_9_code 76 = .ok (.iload 14, 2) := by decide +kernel
theorem d_Bo_upper_78 : decode prog_13_method_9_code 78 = .ok (.iload_n 1, 1) := by decide +kernel
theorem d_Bo_upper_79 : decode prog_13_method_9_code 79 = .ok (.if_icmp .gt 38, 3) := by decide +kernel
theorem d_Bo_upper_82 : decode prog_13_method_9_code 82 = .ok (.dload 10, 2) := by decide +kernel
theorem d_Bo_upper_84 : decode prog_13_method_9_code 84 = .ok (.iload_n 0, 1) := by decide +kernel
theorem d_Bo_upper_85 : decode prog_13_method_9_code 85 = .ok (.iload 14, 2) := by decide +kernel
theorem d_Bo_upper_87 : decode prog_13_method_9_code 87 = .ok (.isub, 1) := by decide +kernel
theorem d_Bo_upper_88 : decode prog_13_method_9_code 88 = .ok (.iconst 1, 1) := by decide +kernel
theorem d_Bo_upper_89 : decode prog_13_method_9_code 89 = .ok (.iadd, 1) := by decide +kernel
theorem d_Bo_upper_90 : decode prog_13_method_9_code 90 = .ok (.i2d, 1) := by decide +kernel
theorem d_Bo_upper_91 : decode prog_13_method_9_code 91 = .ok (.dmul, 1) := by decide +kernel
theorem d_Bo_upper_92 : decode prog_13_method_9_code 92 = .ok (.iload 14, 2) := by decide +kernel
theorem d_Bo_upper_94 : decode prog_13_method_9_code 94 = .ok (.i2d, 1) := by decide +kernel
theorem d_Bo_upper_95 : decode prog_13_method_9_code 95 = .ok (.ddiv, 1) := by decide +kernel
theorem d_Bo_upper_96 : decode prog_13_method_9_code 96 = .ok (.dload 6, 2) := by decide +kernel
theorem d_Bo_upper_98 : decode prog_13_method_9_code 98 = .ok (.dmul, 1) := by decide +kernel
theorem d_Bo_upper_99 : decode prog_13_method_9_code 99 = .ok (.dload 8, 2) := by decide +kernel
theorem d_Bo_upper_101 : decode prog_13_method_9_code 101 = .ok (.ddiv, 1) := by decide +kernel
theorem d_Bo_upper_102 : decode prog_13_method_9_code 102 = .ok (.dstore 10, 2) := by decide +kernel
theorem d_Bo_upper_104 : decode prog_13_method_9_code 104 = .ok (.dload 12, 2) := by decide +kernel
theorem d_Bo_upper_106 : decode prog_13_method_9_code 106 = .ok (.dload 10, 2) := by decide +kernel
theorem d_Bo_upper_108 : decode prog_13_method_9_code 108 = .ok (.dadd, 1) := by decide +kernel
theorem d_Bo_upper_109 : decode prog_13_method_9_code 109 = .ok (.dstore 12, 2) := by decide +kernel
theorem d_Bo_upper_111 : decode prog_13_method_9_code 111 = .ok (.iinc 14 1, 3) := by decide +kernel
theorem d_Bo_upper_114 : decode prog_13_method_9_code 114 = .ok (.goto (-38), 3) := by decide +kernel
theorem d_Bo_upper_117 : decode prog_13_method_9_code 117 = .ok (.dload 12, 2) := by decide +kernel
theorem d_Bo_upper_119 : decode prog_13_method_9_code 119 = .ok (.iload_n 2, 1) := by decide +kernel
theorem d_Bo_upper_120 : decode prog_13_method_9_code 120 = .ok (.i2d, 1) := by decide +kernel
theorem d_Bo_upper_121 : decode prog_13_method_9_code 121 = .ok (.ldc2_w 108, 3) := by decide +kernel
theorem d_Bo_upper_124 : decode prog_13_method_9_code 124 = .ok (.ddiv, 1) := by decide +kernel
theorem d_Bo_upper_125 : decode prog_13_method_9_code 125 = .ok (.dcmp .g, 1) := by decide +kernel
theorem d_Bo_upper_126 : decode prog_13_method_9_code 126 = .ok (.ifCond .gt 10, 3) := by decide +kernel
theorem d_Bo_upper_129 : decode prog_13_method_9_code 129 = .ok (.iload 5, 2) := by decide +kernel
theorem d_Bo_upper_131 : decode prog_13_method_9_code 131 = .ok (.istore 4, 2) := by decide +kernel
theorem d_Bo_upper_133 : decode prog_13_method_9_code 133 = .ok (.goto 6, 3) := by decide +kernel
theorem d_Bo_upper_136 : decode prog_13_method_9_code 136 = .ok (.iload 5, 2) := by decide +kernel
theorem d_Bo_upper_138 : decode prog_13_method_9_code 138 = .ok (.istore_n 3, 1) := by decide +kernel
theorem d_Bo_upper_139 : decode prog_13_method_9_code 139 = .ok (.goto (-125), 3) := by decide +kernel
theorem d_Bo_upper_142 : decode prog_13_method_9_code 142 = .ok (.iload 4, 2) := by decide +kernel
theorem d_Bo_upper_144 : decode prog_13_method_9_code 144 = .ok (.ireturn, 1) := by decide +kernel
theorem d_Al_contains_0 : decode prog_42_method_10_code 0 = .ok (.aload_n 0, 1) := by decide +kernel
theorem d_Al_contains_1 : decode prog_42_method_10_code 1 = .ok (.aload_n 1, 1) := by decide +kernel
theorem d_Al_contains_2 : decode prog_42_method_10_code 2 = .ok (.invokevirtual 85, 3) := by decide +kernel
theorem d_Al_contains_5 : decode prog_42_method_10_code 5 = .ok (.ifCond .lt 7, 3) := by decide +kernel
theorem d_Al_contains_8 : decode prog_42_method_10_code 8 = .ok (.iconst 1, 1) := by decide +kernel
theorem d_Al_contains_9 : decode prog_42_method_10_code 9 = .ok (.goto 4, 3) := by decide +kernel
theorem d_Al_contains_12 : decode prog_42_method_10_code 12 = .ok (.iconst 0, 1) := by decide +kernel
theorem d_Al_contains_13 : decode prog_42_method_10_code 13 = .ok (.ireturn, 1) := by decide +kernel
theorem d_Ai_init_0 : decode prog_43_method_1_code 0 = .ok (.aload_n 0, 1) := by decide +kernel
theorem d_Ai_init_1 : decode prog_43_method_1_code 1 = .ok (.aload_n 1, 1) := by decide +kernel
theorem d_Ai_init_2 : decode prog_43_method_1_code 2 = .ok (.putfield 1, 3) := by decide +kernel
theorem d_Ai_init_5 : decode prog_43_method_1_code 5 = .ok (.aload_n 0, 1) := by decide +kernel
theorem d_Ai_init_6 : decode prog_43_method_1_code 6 = .ok (.invokespecial 7, 3) := by decide +kernel
theorem d_Ai_init_9 : decode prog_43_method_1_code 9 = .ok (.aload_n 0, 1) := by decide +kernel
theorem d_Ai_init_10 : decode prog_43_method_1_code 10 = .ok (.iconst (-1), 1) := by decide +kernel
theorem d_Ai_init_11 : decode prog_43_method_1_code 11 = .ok (.putfield 13, 3) := by decide +kernel
theorem d_Ai_init_14 : decode prog_43_method_1_code 14 = .ok (.aload_n 0, 1) := by decide +kernel
theorem d_Ai_init_15 : decode prog_43_method_1_code 15 = .ok (.aload_n 0, 1) := by decide +kernel
theorem d_Ai_init_16 : decode prog_43_method_1_code 16 = .ok (.getfield 1, 3) := by decide +kernel
theorem d_Ai_init_19 : decode prog_43_method_1_code 19 = .ok (.getfield 17, 3) := by decide +kernel
theorem d_Ai_init_22 : decode prog_43_method_1_code 22 = .ok (.putfield 22, 3) := by decide +kernel
theorem d_Ai_init_25 : decode prog_43_method_1_code 25 = .ok (.return_, 1) := by decide +kernel
theorem d_Ai_checkForComodification_0 : decode prog_43_method_6_code 0 = .ok (.aload_n 0, 1) := by decide +kernel
theorem d_Ai_checkForComodification_1 : decode prog_43_method_6_code 1 = .ok (.getfield 1, 3) := by decide +kernel
theorem d_Ai_checkForComodification_4 : decode prog_43_method_6_code 4 = .ok (.getfield 17, 3) := by decide +kernel
theorem d_Ai_checkForComodification_7 : decode prog_43_method_6_code 7 = .ok (.aload_n 0, 1) := by decide +kernel
theorem d_Ai_checkForComodification_8 : decode prog_43_method_6_code 8 = .ok (.getfield 22, 3) := by decide +kernel
theorem d_Ai_checkForComodification_11 : decode prog_43_method_6_code 11 = .ok (.if_icmp .eq 11, 3) := by decide +kernel
theorem d_Ai_checkForComodification_22 : decode prog_43_method_6_code 22 = .ok (.return_, 1) := by decide +kernel
theorem d_Al_add_72be8_0 : decode prog_42_method_24_code 0 = .ok (.iload_n 3, 1) := by decide +kernel
theorem d_Al_add_72be8_1 : decode prog_42_method_24_code 1 = .ok (.aload_n 2, 1) := by decide +kernel
theorem d_Al_add_72be8_2 : decode prog_42_method_24_code 2 = .ok (.arraylength, 1) := by decide +kernel
theorem d_Al_add_72be8_3 : decode prog_42_method_24_code 3 = .ok (.if_icmp .ne 8, 3) := by decide +kernel
theorem d_Al_add_72be8_6 : decode prog_42_method_24_code 6 = .ok (.aload_n 0, 1) := by decide +kernel
theorem d_Al_add_72be8_7 : decode prog_42_method_24_code 7 = .ok (.invokevirtual 129, 3) := by decide +kernel
theorem d_Al_add_72be8_10 : decode prog_42_method_24_code 10 = .ok (.astore_n 2, 1) := by decide +kernel
theorem d_Al_add_72be8_11 : decode prog_42_method_24_code 11 = .ok (.aload_n 2, 1) := by decide +kernel
theorem d_Al_add_72be8_12 : decode prog_42_method_24_code 12 = .ok (.iload_n 3, 1) := by decide +kernel
theorem d_Al_add_72be8_13 : decode prog_42_method_24_code 13 = .ok (.aload_n 1, 1) := by decide +kernel
theorem d_Al_add_72be8_14 : decode prog_42_method_24_code 14 = .ok (.aastore, 1) := by decide +kernel
theorem d_Al_add_72be8_15 : decode prog_42_method_24_code 15 = .ok (.aload_n 0, 1) := by decide +kernel
theorem d_Al_add_72be8_16 : decode prog_42_method_24_code 16 = .ok (.iload_n 3, 1) := by decide +kernel
theorem d_Al_add_72be8_17 : decode prog_42_method_24_code 17 = .ok (.iconst 1, 1) := by decide +kernel
theorem d_Al_add_72be8_18 : decode prog_42_method_24_code 18 = .ok (.iadd, 1) := by decide +kernel
theorem d_Al_add_72be8_19 : decode prog_42_method_24_code 19 = .ok (.putfield 48, 3) := by decide +kernel
theorem d_Al_add_72be8_22 : decode prog_42_method_24_code 22 = .ok (.return_, 1) := by decide +kernel
theorem d_Hs_init_0 : decode prog_52_method_5_code 0 = .ok (.aload_n 0, 1) := by decide +kernel
theorem d_Hs_init_1 : decode prog_52_method_5_code 1 = .ok (.invokespecial 1, 3) := by decide +kernel
theorem d_Hs_init_4 : decode prog_52_method_5_code 4 = .ok (.aload_n 0, 1) := by decide +kernel
theorem d_Hs_init_5 : decode prog_52_method_5_code 5 = .ok (.new 42, 3) := by decide +kernel
theorem d_Hs_init_8 : decode prog_52_method_5_code 8 = .ok (.dup, 1) := by decide +kernel
theorem d_Hs_init_9 : decode prog_52_method_5_code 9 = .ok (.iload_n 1, 1) := by decide +kernel
theorem d_Hs_init_10 : decode prog_52_method_5_code 10 = .ok (.fload_n 2, 1) := by decide +kernel
theorem d_Hs_init_11 : decode prog_52_method_5_code 11 = .ok (.invokespecial 44, 3) := by decide +kernel
theorem d_Hs_init_14 : decode prog_52_method_5_code 14 = .ok (.putfield 10, 3) := by decide +kernel
theorem d_Hs_init_17 : decode prog_52_method_5_code 17 = .ok (.return_, 1) := by decide +kernel
theorem d_Lm_keySet_0 : decode prog_54_method_24_code 0 = .ok (.aload_n 0, 1) := by decide +kernel
theorem d_Lm_keySet_1 : decode prog_54_method_24_code 1 = .ok (.invokevirtual 113, 3) := by decide +kernel
theorem d_Lm_keySet_4 : decode prog_54_method_24_code 4 = .ok (.areturn, 1) := by decide +kernel
theorem d_Lq_iterator_0 : decode prog_58_method_4_code 0 = .ok (.new 26, 3) := by decide +kernel
theorem d_Lq_iterator_3 : decode prog_58_method_4_code 3 = .ok (.dup, 1) := by decide +kernel
theorem d_Lq_iterator_4 : decode prog_58_method_4_code 4 = .ok (.aload_n 0, 1) := by decide +kernel
theorem d_Lq_iterator_5 : decode prog_58_method_4_code 5 = .ok (.getfield 1, 3) := by decide +kernel
theorem d_Lq_iterator_8 : decode prog_58_method_4_code 8 = .ok (.aload_n 0, 1) := by decide +kernel
theorem d_Lq_iterator_9 : decode prog_58_method_4_code 9 = .ok (.getfield 13, 3) := by decide +kernel
theorem d_Lq_iterator_12 : decode prog_58_method_4_code 12 = .ok (.invokespecial 28, 3) := by decide +kernel
theorem d_Lq_iterator_15 : decode prog_58_method_4_code 15 = .ok (.areturn, 1) := by decide +kernel
theorem d_Lh_nextNode_0 : decode prog_56_method_3_code 0 = .ok (.aload_n 0, 1) := by decide +kernel
theorem d_Lh_nextNode_1 : decode prog_56_method_3_code 1 = .ok (.getfield 26, 3) := by decide +kernel
theorem d_Lh_nextNode_4 : decode prog_56_method_3_code 4 = .ok (.astore_n 1, 1) := by decide +kernel
theorem d_Lh_nextNode_5 : decode prog_56_method_3_code 5 = .ok (.aload_n 0, 1) := by decide +kernel
theorem d_Lh_nextNode_6 : decode prog_56_method_3_code 6 = .ok (.getfield 1, 3) := by decide +kernel
theorem d_Lh_nextNode_9 : decode prog_56_method_3_code 9 = .ok (.getfield 29, 3) := by decide +kernel
theorem d_Lh_nextNode_12 : decode prog_56_method_3_code 12 = .ok (.aload_n 0, 1) := by decide +kernel
theorem d_Lh_nextNode_13 : decode prog_56_method_3_code 13 = .ok (.getfield 33, 3) := by decide +kernel
theorem d_Lh_nextNode_16 : decode prog_56_method_3_code 16 = .ok (.if_icmp .eq 11, 3) := by decide +kernel
theorem d_Lh_nextNode_27 : decode prog_56_method_3_code 27 = .ok (.aload_n 1, 1) := by decide +kernel
theorem d_Lh_nextNode_28 : decode prog_56_method_3_code 28 = .ok (.ifnonnull 11, 3) := by decide +kernel
theorem d_Lh_nextNode_39 : decode prog_56_method_3_code 39 = .ok (.aload_n 0, 1) := by decide +kernel
theorem d_Lh_nextNode_40 : decode prog_56_method_3_code 40 = .ok (.aload_n 1, 1) := by decide +kernel
theorem d_Lh_nextNode_41 : decode prog_56_method_3_code 41 = .ok (.putfield 36, 3) := by decide +kernel
theorem d_Lh_nextNode_44 : decode prog_56_method_3_code 44 = .ok (.aload_n 0, 1) := by decide +kernel
theorem d_Lh_nextNode_45 : decode prog_56_method_3_code 45 = .ok (.aload_n 0, 1) := by decide +kernel
theorem d_Lh_nextNode_46 : decode prog_56_method_3_code 46 = .ok (.getfield 13, 3) := by decide +kernel
theorem d_Lh_nextNode_49 : decode prog_56_method_3_code 49 = .ok (.ifCond .eq 10, 3) := by decide +kernel
theorem d_Lh_nextNode_59 : decode prog_56_method_3_code 59 = .ok (.aload_n 1, 1) := by decide +kernel
theorem d_Lh_nextNode_60 : decode prog_56_method_3_code 60 = .ok (.getfield 50, 3) := by decide +kernel
theorem d_Lh_nextNode_63 : decode prog_56_method_3_code 63 = .ok (.putfield 26, 3) := by decide +kernel
theorem d_Lh_nextNode_66 : decode prog_56_method_3_code 66 = .ok (.aload_n 1, 1) := by decide +kernel
theorem d_Lh_nextNode_67 : decode prog_56_method_3_code 67 = .ok (.areturn, 1) := by decide +kernel
theorem d_Hn_getKey_0 : decode prog_50_method_2_code 0 = .ok (.aload_n 0, 1) := by decide +kernel
theorem d_Hn_getKey_1 : decode prog_50_method_2_code 1 = .ok (.getfield 13, 3) := by decide +kernel
theorem d_Hn_getKey_4 : decode prog_50_method_2_code 4 = .ok (.areturn, 1) := by decide +kernel
theorem d_In_init_0 : decode prog_24_method_23_code 0 = .ok (.aload_n 0, 1) := by decide +kernel
theorem d_In_init_1 : decode prog_24_method_23_code 1 = .ok (.invokespecial 202, 3) := by decide +kernel
theorem d_In_init_4 : decode prog_24_method_23_code 4 = .ok (.aload_n 0, 1) := by decide +kernel
theorem d_In_init_5 : decode prog_24_method_23_code 5 = .ok (.iload_n 1, 1) := by decide +kernel
theorem d_In_init_6 : decode prog_24_method_23_code 6 = .ok (.putfield 205, 3) := by decide +kernel
theorem d_In_init_9 : decode prog_24_method_23_code 9 = .ok (.return_, 1) := by decide +kernel
theorem d_Hm_put_0 : decode prog_46_method_15_code 0 = .ok (.aload_n 0, 1) := by decide +kernel
theorem d_Hm_put_1 : decode prog_46_method_15_code 1 = .ok (.aload_n 1, 1) := by decide +kernel
theorem d_Hm_put_2 : decode prog_46_method_15_code 2 = .ok (.invokestatic 149, 3) := by decide +kernel
theorem d_Hm_put_5 : decode prog_46_method_15_code 5 = .ok (.aload_n 1, 1) := by decide +kernel
theorem d_Hm_put_6 : decode prog_46_method_15_code 6 = .ok (.aload_n 2, 1) := by decide +kernel
theorem d_Hm_put_7 : decode prog_46_method_15_code 7 = .ok (.iconst 0, 1) := by decide +kernel
theorem d_Hm_put_8 : decode prog_46_method_15_code 8 = .ok (.iconst 1, 1) := by decide +kernel
theorem d_Hm_put_9 : decode prog_46_method_15_code 9 = .ok (.invokevirtual 152, 3) := by decide +kernel
theorem d_Hm_put_12 : decode prog_46_method_15_code 12 = .ok (.areturn, 1) := by decide +kernel
theorem d_As_init_0 : decode prog_18_method_2_code 0 = .ok (.aload_n 0, 1) := by decide +kernel
theorem d_As_init_1 : decode prog_18_method_2_code 1 = .ok (.invokespecial 3, 3) := by decide +kernel
theorem d_As_init_4 : decode prog_18_method_2_code 4 = .ok (.getstatic 18, 3) := by decide +kernel
theorem d_As_init_7 : decode prog_18_method_2_code 7 = .ok (.ifCond .eq 18, 3) := by decide +kernel
theorem d_As_init_10 : decode prog_18_method_2_code 10 = .ok (.aload_n 0, 1) := by decide +kernel
theorem d_As_init_11 : decode prog_18_method_2_code 11 = .ok (.iload_n 1, 1) := by decide +kernel
theorem d_As_init_12 : decode prog_18_method_2_code 12 = .ok (.newarray .byte, 2) := by decide +kernel
theorem d_As_init_14 : decode prog_18_method_2_code 14 = .ok (.putfield 15, 3) := by decide +kernel
theorem d_As_init_17 : decode prog_18_method_2_code 17 = .ok (.aload_n 0, 1) := by decide +kernel
theorem d_As_init_18 : decode prog_18_method_2_code 18 = .ok (.iconst 0, 1) := by decide +kernel
theorem d_As_init_19 : decode prog_18_method_2_code 19 = .ok (.putfield 22, 3) := by decide +kernel
theorem d_As_init_22 : decode prog_18_method_2_code 22 = .ok (.goto 16, 3) := by decide +kernel
theorem d_As_init_38 : decode prog_18_method_2_code 38 = .ok (.return_, 1) := by decide +kernel
theorem d_As_append_c97b9_0 : decode prog_18_method_32_code 0 = .ok (.aload_n 0, 1) := by decide +kernel
theorem d_As_append_c97b9_1 : decode prog_18_method_32_code 1 = .ok (.getfield 79, 3) := by decide +kernel
theorem d_As_append_c97b9_4 : decode prog_18_method_32_code 4 = .ok (.istore_n 2, 1) := by decide +kernel
theorem d_As_append_c97b9_5 : decode prog_18_method_32_code 5 = .ok (.iload_n 2, 1) := by decide +kernel
theorem d_As_append_c97b9_6 : decode prog_18_method_32_code 6 = .ok (.iload_n 1, 1) := by decide +kernel
theorem d_As_append_c97b9_7 : decode prog_18_method_32_code 7 = .ok (.invokestatic 245, 3) := by decide +kernel
theorem d_As_append_c97b9_10 : decode prog_18_method_32_code 10 = .ok (.iadd, 1) := by decide +kernel
theorem d_As_append_c97b9_11 : decode prog_18_method_32_code 11 = .ok (.istore_n 3, 1) := by decide +kernel
theorem d_As_append_c97b9_12 : decode prog_18_method_32_code 12 = .ok (.aload_n 0, 1) := by decide +kernel
theorem d_As_append_c97b9_13 : decode prog_18_method_32_code 13 = .ok (.iload_n 3, 1) := by decide +kernel
theorem d_As_append_c97b9_14 : decode prog_18_method_32_code 14 = .ok (.invokevirtual 100, 3) := by decide +kernel
theorem d_As_append_c97b9_17 : decode prog_18_method_32_code 17 = .ok (.aload_n 0, 1) := by decide +kernel
theorem d_As_append_c97b9_18 : decode prog_18_method_32_code 18 = .ok (.invokevirtual 83, 3) := by decide +kernel
theorem d_As_append_c97b9_21 : decode prog_18_method_32_code 21 = .ok (.ifCond .eq 16, 3) := by decide +kernel
theorem d_As_append_c97b9_24 : decode prog_18_method_32_code 24 = .ok (.iload_n 1, 1) := by decide +kernel
theorem d_As_append_c97b9_25 : decode prog_18_method_32_code 25 = .ok (.iload_n 3, 1) := by decide +kernel
theorem d_As_append_c97b9_26 : decode prog_18_method_32_code 26 = .ok (.aload_n 0, 1) := by decide +kernel
theorem d_As_append_c97b9_27 : decode prog_18_method_32_code 27 = .ok (.getfield 15, 3) := by decide +kernel
theorem d_As_append_c97b9_30 : decode prog_18_method_32_code 30 = .ok (.invokestatic 248, 3) := by decide +kernel
theorem d_As_append_c97b9_33 : decode prog_18_method_32_code 33 = .ok (.pop, 1) := by decide +kernel
theorem d_As_append_c97b9_34 : decode prog_18_method_32_code 34 = .ok (.goto 14, 3) := by decide +kernel
theorem d_As_append_c97b9_48 : decode prog_18_method_32_code 48 = .ok (.aload_n 0, 1) := by decide +kernel
theorem d_As_append_c97b9_49 : decode prog_18_method_32_code 49 = .ok (.iload_n 3, 1) := by decide +kernel
theorem d_As_append_c97b9_50 : decode prog_18_method_32_code 50 = .ok (.putfield 79, 3) := by decide +kernel
theorem d_As_append_c97b9_53 : decode prog_18_method_32_code 53 = .ok (.aload_n 0, 1) := by decide +kernel
theorem d_As_append_c97b9_54 : decode prog_18_method_32_code 54 = .ok (.areturn, 1) := by decide +kernel
theorem d_As_append_cf1ce_0 : decode prog_18_method_22_code 0 = .ok (.aload_n 1, 1) := by decide +kernel
theorem d_As_append_cf1ce_1 : decode prog_18_method_22_code 1 = .ok (.ifnonnull 8, 3) := by decide +kernel
theorem d_As_append_cf1ce_9 : decode prog_18_method_22_code 9 = .ok (.aload_n 1, 1) := by decide +kernel
theorem d_As_append_cf1ce_10 : decode prog_18_method_22_code 10 = .ok (.invokevirtual 32, 3) := by decide +kernel
theorem d_As_append_cf1ce_13 : decode prog_18_method_22_code 13 = .ok (.istore_n 2, 1) := by decide +kernel
theorem d_As_append_cf1ce_14 : decode prog_18_method_22_code 14 = .ok (.aload_n 0, 1) := by decide +kernel
theorem d_As_append_cf1ce_15 : decode prog_18_method_22_code 15 = .ok (.aload_n 0, 1) := by decide +kernel
theorem d_As_append_cf1ce_16 : decode prog_18_method_22_code 16 = .ok (.getfield 79, 3) := by decide +kernel
theorem d_As_append_cf1ce_19 : decode prog_18_method_22_code 19 = .ok (.iload_n 2, 1) := by decide +kernel
theorem d_As_append_cf1ce_20 : decode prog_18_method_22_code 20 = .ok (.iadd, 1) := by decide +kernel
theorem d_As_append_cf1ce_21 : decode prog_18_method_22_code 21 = .ok (.invokevirtual 100, 3) := by decide +kernel
theorem d_As_append_cf1ce_24 : decode prog_18_method_22_code 24 = .ok (.aload_n 0, 1) := by decide +kernel
theorem d_As_append_cf1ce_25 : decode prog_18_method_22_code 25 = .ok (.aload_n 0, 1) := by decide +kernel
theorem d_As_append_cf1ce_26 : decode prog_18_method_22_code 26 = .ok (.getfield 79, 3) := by decide +kernel
theorem d_As_append_cf1ce_29 : decode prog_18_method_22_code 29 = .ok (.aload_n 1, 1) := by decide +kernel
theorem d_As_append_cf1ce_30 : decode prog_18_method_22_code 30 = .ok (.invokevirtual 208, 3) := by decide +kernel
theorem d_As_append_cf1ce_33 : decode prog_18_method_22_code 33 = .ok (.aload_n 0, 1) := by decide +kernel
theorem d_As_append_cf1ce_34 : decode prog_18_method_22_code 34 = .ok (.dup, 1) := by decide +kernel
theorem d_As_append_cf1ce_35 : decode prog_18_method_22_code 35 = .ok (.getfield 79, 3) := by decide +kernel
theorem d_As_append_cf1ce_38 : decode prog_18_method_22_code 38 = .ok (.iload_n 2, 1) := by decide +kernel
theorem d_As_append_cf1ce_39 : decode prog_18_method_22_code 39 = .ok (.iadd, 1) := by decide +kernel
theorem d_As_append_cf1ce_40 : decode prog_18_method_22_code 40 = .ok (.putfield 79, 3) := by decide +kernel
theorem d_As_append_cf1ce_43 : decode prog_18_method_22_code 43 = .ok (.aload_n 0, 1) := by decide +kernel
theorem d_As_append_cf1ce_44 : decode prog_18_method_22_code 44 = .ok (.areturn, 1) := by decide +kernel
theorem d_Sg_init_81219_0 : decode prog_30_method_53_code 0 = .ok (.aload_n 0, 1) := by decide +kernel
theorem d_Sg_init_81219_1 : decode prog_30_method_53_code 1 = .ok (.aload_n 1, 1) := by decide +kernel
theorem d_Sg_init_81219_2 : decode prog_30_method_53_code 2 = .ok (.aconst_null, 1) := by decide +kernel
theorem d_Sg_init_81219_3 : decode prog_30_method_53_code 3 = .ok (.invokespecial 489, 3) := by decide +kernel
theorem d_Sg_init_81219_6 : decode prog_30_method_53_code 6 = .ok (.return_, 1) := by decide +kernel
theorem d_Al_add_7a177_0 : decode prog_42_method_26_code 0 = .ok (.aload_n 0, 1) := by decide +kernel
theorem d_Al_add_7a177_1 : decode prog_42_method_26_code 1 = .ok (.iload_n 1, 1) := by decide +kernel
theorem d_Al_add_7a177_2 : decode prog_42_method_26_code 2 = .ok (.invokevirtual 135, 3) := by decide +kernel
theorem d_Al_add_7a177_5 : decode prog_42_method_26_code 5 = .ok (.aload_n 0, 1) := by decide +kernel
theorem d_Al_add_7a177_6 : decode prog_42_method_26_code 6 = .ok (.dup, 1) := by decide +kernel
theorem d_Al_add_7a177_7 : decode prog_42_method_26_code 7 = .ok (.getfield 63, 3) := by decide +kernel
theorem d_Al_add_7a177_10 : decode prog_42_method_26_code 10 = .ok (.iconst 1, 1) := by decide +kernel
theorem d_Al_add_7a177_11 : decode prog_42_method_26_code 11 = .ok (.iadd, 1) := by decide +kernel
theorem d_Al_add_7a177_12 : decode prog_42_method_26_code 12 = .ok (.putfield 63, 3) := by decide +kernel
theorem d_Al_add_7a177_15 : decode prog_42_method_26_code 15 = .ok (.aload_n 0, 1) := by decide +kernel
theorem d_Al_add_7a177_16 : decode prog_42_method_26_code 16 = .ok (.getfield 48, 3) := by decide +kernel
theorem d_Al_add_7a177_19 : decode prog_42_method_26_code 19 = .ok (.dup, 1) := by decide +kernel
theorem d_Al_add_7a177_20 : decode prog_42_method_26_code 20 = .ok (.istore_n 3, 1) := by decide +kernel
theorem d_Al_add_7a177_21 : decode prog_42_method_26_code 21 = .ok (.aload_n 0, 1) := by decide +kernel
theorem d_Al_add_7a177_22 : decode prog_42_method_26_code 22 = .ok (.getfield 9, 3) := by decide +kernel
theorem d_Al_add_7a177_25 : decode prog_42_method_26_code 25 = .ok (.dup, 1) := by decide +kernel
theorem d_Al_add_7a177_26 : decode prog_42_method_26_code 26 = .ok (.astore 4, 2) := by decide +kernel
theorem d_Al_add_7a177_28 : decode prog_42_method_26_code 28 = .ok (.arraylength, 1) := by decide +kernel
theorem d_Al_add_7a177_29 : decode prog_42_method_26_code 29 = .ok (.if_icmp .ne 9, 3) := by decide +kernel
theorem d_Al_add_7a177_32 : decode prog_42_method_26_code 32 = .ok (.aload_n 0, 1) := by decide +kernel
theorem d_Al_add_7a177_33 : decode prog_42_method_26_code 33 = .ok (.invokevirtual 129, 3) := by decide +kernel
theorem d_Al_add_7a177_36 : decode prog_42_method_26_code 36 = .ok (.astore 4, 2) := by decide +kernel
theorem d_Al_add_7a177_38 : decode prog_42_method_26_code 38 = .ok (.aload 4, 2) := by decide +kernel
theorem d_Al_add_7a177_40 : decode prog_42_method_26_code 40 = .ok (.iload_n 1, 1) := by decide +kernel
theorem d_Al_add_7a177_41 : decode prog_42_method_26_code 41 = .ok (.aload 4, 2) := by decide +kernel
theorem d_Al_add_7a177_43 : decode prog_42_method_26_code 43 = .ok (.iload_n 1, 1) := by decide +kernel
theorem d_Al_add_7a177_44 : decode prog_42_method_26_code 44 = .ok (.iconst 1, 1) := by decide +kernel
theorem d_Al_add_7a177_45 : decode prog_42_method_26_code 45 = .ok (.iadd, 1) := by decide +kernel
theorem d_Al_add_7a177_46 : decode prog_42_method_26_code 46 = .ok (.iload_n 3, 1) := by decide +kernel
theorem d_Al_add_7a177_47 : decode prog_42_method_26_code 47 = .ok (.iload_n 1, 1) := by decide +kernel
theorem d_Al_add_7a177_48 : decode prog_42_method_26_code 48 = .ok (.isub, 1) := by decide +kernel
theorem d_Al_add_7a177_49 : decode prog_42_method_26_code 49 = .ok (.invokestatic 112, 3) := by decide +kernel
theorem d_Al_add_7a177_52 : decode prog_42_method_26_code 52 = .ok (.aload 4, 2) := by decide +kernel
theorem d_Al_add_7a177_54 : decode prog_42_method_26_code 54 = .ok (.iload_n 1, 1) := by decide +kernel
theorem d_Al_add_7a177_55 : decode prog_42_method_26_code 55 = .ok (.aload_n 2, 1) := by decide +kernel
theorem d_Al_add_7a177_56 : decode prog_42_method_26_code 56 = .ok (.aastore, 1) := by decide +kernel
theorem d_Al_add_7a177_57 : decode prog_42_method_26_code 57 = .ok (.aload_n 0, 1) := by decide +kernel
theorem d_Al_add_7a177_58 : decode prog_42_method_26_code 58 = .ok (.iload_n 3, 1) := by decide +kernel
theorem d_Al_add_7a177_59 : decode prog_42_method_26_code 59 = .ok (.iconst 1, 1) := by decide +kernel
theorem d_Al_add_7a177_60 : decode prog_42_method_26_code 60 = .ok (.iadd, 1) := by decide +kernel
theorem d_Al_add_7a177_61 : decode prog_42_method_26_code 61 = .ok (.putfield 48, 3) := by decide +kernel
theorem d_Al_add_7a177_64 : decode prog_42_method_26_code 64 = .ok (.return_, 1) := by decide +kernel
theorem d_Al_indexOfRange_0 : decode prog_42_method_12_code 0 = .ok (.aload_n 0, 1) := by decide +kernel
theorem d_Al_indexOfRange_1 : decode prog_42_method_12_code 1 = .ok (.getfield 9, 3) := by decide +kernel
theorem d_Al_indexOfRange_4 : decode prog_42_method_12_code 4 = .ok (.astore 4, 2) := by decide +kernel
theorem d_Al_indexOfRange_6 : decode prog_42_method_12_code 6 = .ok (.aload_n 1, 1) := by decide +kernel
theorem d_Al_indexOfRange_7 : decode prog_42_method_12_code 7 = .ok (.ifnonnull 32, 3) := by decide +kernel
theorem d_Al_indexOfRange_39 : decode prog_42_method_12_code 39 = .ok (.iload_n 2, 1) := by decide +kernel
theorem d_Al_indexOfRange_40 : decode prog_42_method_12_code 40 = .ok (.istore 5, 2) := by decide +kernel
theorem d_Al_indexOfRange_42 : decode prog_42_method_12_code 42 = .ok (.iload 5, 2) := by decide +kernel
theorem d_Al_indexOfRange_44 : decode prog_42_method_12_code 44 = .ok (.iload_n 3, 1) := by decide +kernel
theorem d_Al_indexOfRange_45 : decode prog_42_method_12_code 45 = .ok (.if_icmp .ge 24, 3) := by decide +kernel
theorem d_Al_indexOfRange_48 : decode prog_42_method_12_code 48 = .ok (.aload_n 1, 1) := by decide +kernel
theorem d_Al_indexOfRange_49 : decode prog_42_method_12_code 49 = .ok (.aload 4, 2) := by decide +kernel
theorem d_Al_indexOfRange_51 : decode prog_42_method_12_code 51 = .ok (.iload 5, 2) := by decide +kernel
theorem d_Al_indexOfRange_53 : decode prog_42_method_12_code 53 = .ok (.aaload, 1) := by decide +kernel
theorem d_Al_indexOfRange_54 : decode prog_42_method_12_code 54 = .ok (.invokevirtual 93, 3) := by decide +kernel
theorem d_Al_indexOfRange_57 : decode prog_42_method_12_code 57 = .ok (.ifCond .eq 6, 3) := by decide +kernel
theorem d_Al_indexOfRange_60 : decode prog_42_method_12_code 60 = .ok (.iload 5, 2) := by decide +kernel
theorem d_Al_indexOfRange_62 : decode prog_42_method_12_code 62 = .ok (.ireturn, 1) := by decide +kernel
theorem d_Al_indexOfRange_63 : decode prog_42_method_12_code 63 = .ok (.iinc 5 1, 3) := by decide +kernel
theorem d_Al_indexOfRange_66 : decode prog_42_method_12_code 66 = .ok (.goto (-24), 3) := by decide +kernel
theorem d_Al_indexOfRange_69 : decode prog_42_method_12_code 69 = .ok (.iconst (-1), 1) := by decide +kernel
theorem d_Al_indexOfRange_70 : decode prog_42_method_12_code 70 = .ok (.ireturn, 1) := by decide +kernel
theorem d_Ac_init_0 : decode prog_38_method_1_code 0 = .ok (.aload_n 0, 1) := by decide +kernel
theorem d_Ac_init_1 : decode prog_38_method_1_code 1 = .ok (.invokespecial 1, 3) := by decide +kernel
theorem d_Ac_init_4 : decode prog_38_method_1_code 4 = .ok (.return_, 1) := by decide +kernel
theorem d_As_length_0 : decode prog_18_method_6_code 0 = .ok (.aload_n 0, 1) := by decide +kernel
theorem d_As_length_1 : decode prog_18_method_6_code 1 = .ok (.getfield 79, 3) := by decide +kernel
theorem d_As_length_4 : decode prog_18_method_6_code 4 = .ok (.ireturn, 1) := by decide +kernel
theorem d_As_append_3fe6f_0 : decode prog_18_method_31_code 0 = .ok (.aload_n 0, 1) := by decide +kernel
theorem d_As_append_3fe6f_1 : decode prog_18_method_31_code 1 = .ok (.aload_n 0, 1) := by decide +kernel
theorem d_As_append_3fe6f_2 : decode prog_18_method_31_code 2 = .ok (.getfield 79, 3) := by decide +kernel
theorem d_As_append_3fe6f_5 : decode prog_18_method_31_code 5 = .ok (.iconst 1, 1) := by decide +kernel
theorem d_As_append_3fe6f_6 : decode prog_18_method_31_code 6 = .ok (.iadd, 1) := by decide +kernel
theorem d_As_append_3fe6f_7 : decode prog_18_method_31_code 7 = .ok (.invokevirtual 100, 3) := by decide +kernel
theorem d_As_append_3fe6f_10 : decode prog_18_method_31_code 10 = .ok (.aload_n 0, 1) := by decide +kernel
theorem d_As_append_3fe6f_11 : decode prog_18_method_31_code 11 = .ok (.invokevirtual 83, 3) := by decide +kernel
theorem d_As_append_3fe6f_14 : decode prog_18_method_31_code 14 = .ok (.ifCond .eq 31, 3) := by decide +kernel
theorem d_As_append_3fe6f_17 : decode prog_18_method_31_code 17 = .ok (.iload_n 1, 1) := by decide +kernel
theorem d_As_append_3fe6f_18 : decode prog_18_method_31_code 18 = .ok (.invokestatic 191, 3) := by decide +kernel
theorem d_As_append_3fe6f_21 : decode prog_18_method_31_code 21 = .ok (.ifCond .eq 24, 3) := by decide +kernel
theorem d_As_append_3fe6f_24 : decode prog_18_method_31_code 24 = .ok (.aload_n 0, 1) := by decide +kernel
theorem d_As_append_3fe6f_25 : decode prog_18_method_31_code 25 = .ok (.getfield 15, 3) := by decide +kernel
theorem d_As_append_3fe6f_28 : decode prog_18_method_31_code 28 = .ok (.aload_n 0, 1) := by decide +kernel
theorem d_As_append_3fe6f_29 : decode prog_18_method_31_code 29 = .ok (.dup, 1) := by decide +kernel
theorem d_As_append_3fe6f_30 : decode prog_18_method_31_code 30 = .ok (.getfield 79, 3) := by decide +kernel
theorem d_As_append_3fe6f_33 : decode prog_18_method_31_code 33 = .ok (.dup_x1, 1) := by decide +kernel
theorem d_As_append_3fe6f_34 : decode prog_18_method_31_code 34 = .ok (.iconst 1, 1) := by decide +kernel
theorem d_As_append_3fe6f_35 : decode prog_18_method_31_code 35 = .ok (.iadd, 1) := by decide +kernel
theorem d_As_append_3fe6f_36 : decode prog_18_method_31_code 36 = .ok (.putfield 79, 3) := by decide +kernel
theorem d_As_append_3fe6f_39 : decode prog_18_method_31_code 39 = .ok (.iload_n 1, 1) := by decide +kernel
theorem d_As_append_3fe6f_40 : decode prog_18_method_31_code 40 = .ok (.i2b, 1) := by decide +kernel
theorem d_As_append_3fe6f_41 : decode prog_18_method_31_code 41 = .ok (.bastore, 1) := by decide +kernel
theorem d_As_append_3fe6f_42 : decode prog_18_method_31_code 42 = .ok (.goto 33, 3) := by decide +kernel
theorem d_As_append_3fe6f_75 : decode prog_18_method_31_code 75 = .ok (.aload_n 0, 1) := by decide +kernel
theorem d_As_append_3fe6f_76 : decode prog_18_method_31_code 76 = .ok (.areturn, 1) := by decide +kernel
theorem d_Al_grow_d5877_0 : decode prog_42_method_7_code 0 = .ok (.aload_n 0, 1) := by decide +kernel
theorem d_Al_grow_d5877_1 : decode prog_42_method_7_code 1 = .ok (.aload_n 0, 1) := by decide +kernel
theorem d_Al_grow_d5877_2 : decode prog_42_method_7_code 2 = .ok (.getfield 48, 3) := by decide +kernel
theorem d_Al_grow_d5877_5 : decode prog_42_method_7_code 5 = .ok (.iconst 1, 1) := by decide +kernel
theorem d_Al_grow_d5877_6 : decode prog_42_method_7_code 6 = .ok (.iadd, 1) := by decide +kernel
theorem d_Al_grow_d5877_7 : decode prog_42_method_7_code 7 = .ok (.invokevirtual 69, 3) := by decide +kernel
theorem d_Al_grow_d5877_10 : decode prog_42_method_7_code 10 = .ok (.areturn, 1) := by decide +kernel
theorem d_Ab_init_0 : decode prog_41_method_1_code 0 = .ok (.aload_n 0, 1) := by decide +kernel
theorem d_Ab_init_1 : decode prog_41_method_1_code 1 = .ok (.invokespecial 1, 3) := by decide +kernel
theorem d_Ab_init_4 : decode prog_41_method_1_code 4 = .ok (.return_, 1) := by decide +kernel
theorem d_Lm_init_0 : decode prog_54_method_14_code 0 = .ok (.aload_n 0, 1) := by decide +kernel
theorem d_Lm_init_1 : decode prog_54_method_14_code 1 = .ok (.iload_n 1, 1) := by decide +kernel
theorem d_Lm_init_2 : decode prog_54_method_14_code 2 = .ok (.fload_n 2, 1) := by decide +kernel
theorem d_Lm_init_3 : decode prog_54_method_14_code 3 = .ok (.invokespecial 81, 3) := by decide +kernel
theorem d_Lm_init_6 : decode prog_54_method_14_code 6 = .ok (.aload_n 0, 1) := by decide +kernel
theorem d_Lm_init_7 : decode prog_54_method_14_code 7 = .ok (.iconst 0, 1) := by decide +kernel
theorem d_Lm_init_8 : decode prog_54_method_14_code 8 = .ok (.putfield 1, 3) := by decide +kernel
