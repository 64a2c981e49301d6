-- the instructions, decoded (X10)
theorem d_Cs_init_0 : decode prog_1_method_1_code 0 = .ok (.aload_n 0, 1) := by decide +kernel
theorem d_Cs_init_1 : decode prog_1_method_1_code 1 = .ok (.invokespecial 3, 3) := by decide +kernel
theorem d_Cs_init_4 : decode prog_1_method_1_code 4 = .ok (.aload_n 0, 1) := by decide +kernel
theorem d_Cs_init_5 : decode prog_1_method_1_code 5 = .ok (.new 9, 3) := by decide +kernel
theorem d_Cs_init_8 : decode prog_1_method_1_code 8 = .ok (.dup, 1) := by decide +kernel
theorem d_Cs_init_9 : decode prog_1_method_1_code 9 = .ok (.invokespecial 11, 3) := by decide +kernel
theorem d_Cs_init_12 : decode prog_1_method_1_code 12 = .ok (.putfield 12, 3) := by decide +kernel
theorem d_Cs_init_15 : decode prog_1_method_1_code 15 = .ok (.aload_n 0, 1) := by decide +kernel
theorem d_Cs_init_16 : decode prog_1_method_1_code 16 = .ok (.new 16, 3) := by decide +kernel
theorem d_Cs_init_19 : decode prog_1_method_1_code 19 = .ok (.dup, 1) := by decide +kernel
theorem d_Cs_init_20 : decode prog_1_method_1_code 20 = .ok (.invokespecial 18, 3) := by decide +kernel
theorem d_Cs_init_23 : decode prog_1_method_1_code 23 = .ok (.putfield 19, 3) := by decide +kernel
theorem d_Cs_init_26 : decode prog_1_method_1_code 26 = .ok (.aload_n 0, 1) := by decide +kernel
theorem d_Cs_init_27 : decode prog_1_method_1_code 27 = .ok (.new 23, 3) := by decide +kernel
theorem d_Cs_init_30 : decode prog_1_method_1_code 30 = .ok (.dup, 1) := by decide +kernel
theorem d_Cs_init_31 : decode prog_1_method_1_code 31 = .ok (.aload_n 0, 1) := by decide +kernel
theorem d_Cs_init_32 : decode prog_1_method_1_code 32 = .ok (.getfield 12, 3) := by decide +kernel
theorem d_Cs_init_35 : decode prog_1_method_1_code 35 = .ok (.invokespecial 25, 3) := by decide +kernel
theorem d_Cs_init_38 : decode prog_1_method_1_code 38 = .ok (.putfield 28, 3) := by decide +kernel
theorem d_Cs_init_41 : decode prog_1_method_1_code 41 = .ok (.aload_n 0, 1) := by decide +kernel
theorem d_Cs_init_42 : decode prog_1_method_1_code 42 = .ok (.new 32, 3) := by decide +kernel
theorem d_Cs_init_45 : decode prog_1_method_1_code 45 = .ok (.dup, 1) := by decide +kernel
theorem d_Cs_init_46 : decode prog_1_method_1_code 46 = .ok (.invokespecial 34, 3) := by decide +kernel
theorem d_Cs_init_49 : decode prog_1_method_1_code 49 = .ok (.putfield 35, 3) := by decide +kernel
theorem d_Cs_init_52 : decode prog_1_method_1_code 52 = .ok (.aload_n 0, 1) := by decide +kernel
theorem d_Cs_init_53 : decode prog_1_method_1_code 53 = .ok (.new 39, 3) := by decide +kernel
theorem d_Cs_init_56 : decode prog_1_method_1_code 56 = .ok (.dup, 1) := by decide +kernel
theorem d_Cs_init_57 : decode prog_1_method_1_code 57 = .ok (.aload_n 0, 1) := by decide +kernel
theorem d_Cs_init_58 : decode prog_1_method_1_code 58 = .ok (.getfield 19, 3) := by decide +kernel
theorem d_Cs_init_61 : decode prog_1_method_1_code 61 = .ok (.invokespecial 41, 3) := by decide +kernel
theorem d_Cs_init_64 : decode prog_1_method_1_code 64 = .ok (.putfield 44, 3) := by decide +kernel
theorem d_Cs_init_67 : decode prog_1_method_1_code 67 = .ok (.aload_n 0, 1) := by decide +kernel
theorem d_Cs_init_68 : decode prog_1_method_1_code 68 = .ok (.new 39, 3) := by decide +kernel
theorem d_Cs_init_71 : decode prog_1_method_1_code 71 = .ok (.dup, 1) := by decide +kernel
theorem d_Cs_init_72 : decode prog_1_method_1_code 72 = .ok (.aload_n 0, 1) := by decide +kernel
theorem d_Cs_init_73 : decode prog_1_method_1_code 73 = .ok (.getfield 19, 3) := by decide +kernel
theorem d_Cs_init_76 : decode prog_1_method_1_code 76 = .ok (.invokespecial 41, 3) := by decide +kernel
theorem d_Cs_init_79 : decode prog_1_method_1_code 79 = .ok (.putfield 48, 3) := by decide +kernel
theorem d_Cs_init_82 : decode prog_1_method_1_code 82 = .ok (.aload_n 0, 1) := by decide +kernel
theorem d_Cs_init_83 : decode prog_1_method_1_code 83 = .ok (.new 51, 3) := by decide +kernel
theorem d_Cs_init_86 : decode prog_1_method_1_code 86 = .ok (.dup, 1) := by decide +kernel
theorem d_Cs_init_87 : decode prog_1_method_1_code 87 = .ok (.aload_n 0, 1) := by decide +kernel
theorem d_Cs_init_88 : decode prog_1_method_1_code 88 = .ok (.getfield 44, 3) := by decide +kernel
theorem d_Cs_init_91 : decode prog_1_method_1_code 91 = .ok (.invokespecial 53, 3) := by decide +kernel
theorem d_Cs_init_94 : decode prog_1_method_1_code 94 = .ok (.putfield 56, 3) := by decide +kernel
theorem d_Cs_init_97 : decode prog_1_method_1_code 97 = .ok (.aload_n 0, 1) := by decide +kernel
theorem d_Cs_init_98 : decode prog_1_method_1_code 98 = .ok (.new 60, 3) := by decide +kernel
theorem d_Cs_init_101 : decode prog_1_method_1_code 101 = .ok (.dup, 1) := by decide +kernel
theorem d_Cs_init_102 : decode prog_1_method_1_code 102 = .ok (.invokespecial 62, 3) := by decide +kernel
theorem d_Cs_init_105 : decode prog_1_method_1_code 105 = .ok (.putfield 63, 3) := by decide +kernel
theorem d_Cs_init_108 : decode prog_1_method_1_code 108 = .ok (.aload_n 0, 1) := by decide +kernel
theorem d_Cs_init_109 : decode prog_1_method_1_code 109 = .ok (.new 67, 3) := by decide +kernel
theorem d_Cs_init_112 : decode prog_1_method_1_code 112 = .ok (.dup, 1) := by decide +kernel
theorem d_Cs_init_113 : decode prog_1_method_1_code 113 = .ok (.aload_n 0, 1) := by decide +kernel
theorem d_Cs_init_114 : decode prog_1_method_1_code 114 = .ok (.getfield 19, 3) := by decide +kernel
theorem d_Cs_init_117 : decode prog_1_method_1_code 117 = .ok (.aload_n 0, 1) := by decide +kernel
theorem d_Cs_init_118 : decode prog_1_method_1_code 118 = .ok (.getfield 44, 3) := by decide +kernel
theorem d_Cs_init_121 : decode prog_1_method_1_code 121 = .ok (.aload_n 0, 1) := by decide +kernel
theorem d_Cs_init_122 : decode prog_1_method_1_code 122 = .ok (.getfield 56, 3) := by decide +kernel
theorem d_Cs_init_125 : decode prog_1_method_1_code 125 = .ok (.aload_n 0, 1) := by decide +kernel
theorem d_Cs_init_126 : decode prog_1_method_1_code 126 = .ok (.getfield 35, 3) := by decide +kernel
theorem d_Cs_init_129 : decode prog_1_method_1_code 129 = .ok (.aload_n 0, 1) := by decide +kernel
theorem d_Cs_init_130 : decode prog_1_method_1_code 130 = .ok (.getfield 63, 3) := by decide +kernel
theorem d_Cs_init_133 : decode prog_1_method_1_code 133 = .ok (.invokespecial 69, 3) := by decide +kernel
theorem d_Cs_init_136 : decode prog_1_method_1_code 136 = .ok (.putfield 72, 3) := by decide +kernel
theorem d_Cs_init_139 : decode prog_1_method_1_code 139 = .ok (.aload_n 0, 1) := by decide +kernel
theorem d_Cs_init_140 : decode prog_1_method_1_code 140 = .ok (.new 76, 3) := by decide +kernel
theorem d_Cs_init_143 : decode prog_1_method_1_code 143 = .ok (.dup, 1) := by decide +kernel
theorem d_Cs_init_144 : decode prog_1_method_1_code 144 = .ok (.aload_n 0, 1) := by decide +kernel
theorem d_Cs_init_145 : decode prog_1_method_1_code 145 = .ok (.getfield 19, 3) := by decide +kernel
theorem d_Cs_init_148 : decode prog_1_method_1_code 148 = .ok (.aload_n 0, 1) := by decide +kernel
theorem d_Cs_init_149 : decode prog_1_method_1_code 149 = .ok (.getfield 44, 3) := by decide +kernel
theorem d_Cs_init_152 : decode prog_1_method_1_code 152 = .ok (.invokespecial 78, 3) := by decide +kernel
theorem d_Cs_init_155 : decode prog_1_method_1_code 155 = .ok (.putfield 81, 3) := by decide +kernel
theorem d_Cs_init_158 : decode prog_1_method_1_code 158 = .ok (.aload_n 0, 1) := by decide +kernel
theorem d_Cs_init_159 : decode prog_1_method_1_code 159 = .ok (.new 85, 3) := by decide +kernel
theorem d_Cs_init_162 : decode prog_1_method_1_code 162 = .ok (.dup, 1) := by decide +kernel
theorem d_Cs_init_163 : decode prog_1_method_1_code 163 = .ok (.invokespecial 87, 3) := by decide +kernel
theorem d_Cs_init_166 : decode prog_1_method_1_code 166 = .ok (.putfield 88, 3) := by decide +kernel
theorem d_Cs_init_169 : decode prog_1_method_1_code 169 = .ok (.aload_n 0, 1) := by decide +kernel
theorem d_Cs_init_170 : decode prog_1_method_1_code 170 = .ok (.getfield 56, 3) := by decide +kernel
theorem d_Cs_init_173 : decode prog_1_method_1_code 173 = .ok (.aload_n 0, 1) := by decide +kernel
theorem d_Cs_init_174 : decode prog_1_method_1_code 174 = .ok (.getfield 35, 3) := by decide +kernel
theorem d_Cs_init_177 : decode prog_1_method_1_code 177 = .ok (.iconst 4, 1) := by decide +kernel
theorem d_Cs_init_178 : decode prog_1_method_1_code 178 = .ok (.invokevirtual 92, 3) := by decide +kernel
theorem d_Cs_init_181 : decode prog_1_method_1_code 181 = .ok (.putfield 96, 3) := by decide +kernel
theorem d_Cs_init_184 : decode prog_1_method_1_code 184 = .ok (.return_, 1) := by decide +kernel
theorem d_Cs_feed_0 : decode prog_1_method_2_code 0 = .ok (.aload_n 0, 1) := by decide +kernel
theorem d_Cs_feed_1 : decode prog_1_method_2_code 1 = .ok (.getfield 12, 3) := by decide +kernel
theorem d_Cs_feed_4 : decode prog_1_method_2_code 4 = .ok (.getfield 100, 3) := by decide +kernel
theorem d_Cs_feed_7 : decode prog_1_method_2_code 7 = .ok (.bipush 20, 2) := by decide +kernel
theorem d_Cs_feed_9 : decode prog_1_method_2_code 9 = .ok (.iadd, 1) := by decide +kernel
theorem d_Cs_feed_10 : decode prog_1_method_2_code 10 = .ok (.sipush 900, 3) := by decide +kernel
theorem d_Cs_feed_13 : decode prog_1_method_2_code 13 = .ok (.if_icmp .le 6, 3) := by decide +kernel
theorem d_Cs_feed_16 : decode prog_1_method_2_code 16 = .ok (.bipush (-4), 2) := by decide +kernel
theorem d_Cs_feed_18 : decode prog_1_method_2_code 18 = .ok (.ireturn, 1) := by decide +kernel
theorem d_Cs_feed_19 : decode prog_1_method_2_code 19 = .ok (.aload_n 0, 1) := by decide +kernel
theorem d_Cs_feed_20 : decode prog_1_method_2_code 20 = .ok (.getfield 12, 3) := by decide +kernel
theorem d_Cs_feed_23 : decode prog_1_method_2_code 23 = .ok (.iload_n 1, 1) := by decide +kernel
theorem d_Cs_feed_24 : decode prog_1_method_2_code 24 = .ok (.invokevirtual 103, 3) := by decide +kernel
theorem d_Cs_feed_27 : decode prog_1_method_2_code 27 = .ok (.aload_n 0, 1) := by decide +kernel
theorem d_Cs_feed_28 : decode prog_1_method_2_code 28 = .ok (.getfield 12, 3) := by decide +kernel
theorem d_Cs_feed_31 : decode prog_1_method_2_code 31 = .ok (.iload_n 2, 1) := by decide +kernel
theorem d_Cs_feed_32 : decode prog_1_method_2_code 32 = .ok (.invokevirtual 103, 3) := by decide +kernel
theorem d_Cs_feed_35 : decode prog_1_method_2_code 35 = .ok (.aload_n 0, 1) := by decide +kernel
theorem d_Cs_feed_36 : decode prog_1_method_2_code 36 = .ok (.getfield 12, 3) := by decide +kernel
theorem d_Cs_feed_39 : decode prog_1_method_2_code 39 = .ok (.iload_n 3, 1) := by decide +kernel
theorem d_Cs_feed_40 : decode prog_1_method_2_code 40 = .ok (.invokevirtual 103, 3) := by decide +kernel
theorem d_Cs_feed_43 : decode prog_1_method_2_code 43 = .ok (.aload_n 0, 1) := by decide +kernel
theorem d_Cs_feed_44 : decode prog_1_method_2_code 44 = .ok (.getfield 12, 3) := by decide +kernel
theorem d_Cs_feed_47 : decode prog_1_method_2_code 47 = .ok (.iload 4, 2) := by decide +kernel
theorem d_Cs_feed_49 : decode prog_1_method_2_code 49 = .ok (.invokevirtual 103, 3) := by decide +kernel
theorem d_Cs_feed_52 : decode prog_1_method_2_code 52 = .ok (.aload_n 0, 1) := by decide +kernel
theorem d_Cs_feed_53 : decode prog_1_method_2_code 53 = .ok (.getfield 12, 3) := by decide +kernel
theorem d_Cs_feed_56 : decode prog_1_method_2_code 56 = .ok (.iload 5, 2) := by decide +kernel
theorem d_Cs_feed_58 : decode prog_1_method_2_code 58 = .ok (.invokevirtual 103, 3) := by decide +kernel
theorem d_Cs_feed_61 : decode prog_1_method_2_code 61 = .ok (.aload_n 0, 1) := by decide +kernel
theorem d_Cs_feed_62 : decode prog_1_method_2_code 62 = .ok (.getfield 12, 3) := by decide +kernel
theorem d_Cs_feed_65 : decode prog_1_method_2_code 65 = .ok (.getfield 100, 3) := by decide +kernel
theorem d_Cs_feed_68 : decode prog_1_method_2_code 68 = .ok (.ireturn, 1) := by decide +kernel
theorem d_Cs_text_0 : decode prog_1_method_3_code 0 = .ok (.iload_n 1, 1) := by decide +kernel
theorem d_Cs_text_1 : decode prog_1_method_3_code 1 = .ok (.ifCond .lt 14, 3) := by decide +kernel
theorem d_Cs_text_4 : decode prog_1_method_3_code 4 = .ok (.iload_n 1, 1) := by decide +kernel
theorem d_Cs_text_5 : decode prog_1_method_3_code 5 = .ok (.aload_n 0, 1) := by decide +kernel
theorem d_Cs_text_6 : decode prog_1_method_3_code 6 = .ok (.getfield 12, 3) := by decide +kernel
theorem d_Cs_text_9 : decode prog_1_method_3_code 9 = .ok (.getfield 100, 3) := by decide +kernel
theorem d_Cs_text_12 : decode prog_1_method_3_code 12 = .ok (.if_icmp .le 6, 3) := by decide +kernel
theorem d_Cs_text_15 : decode prog_1_method_3_code 15 = .ok (.bipush (-3), 2) := by decide +kernel
theorem d_Cs_text_17 : decode prog_1_method_3_code 17 = .ok (.ireturn, 1) := by decide +kernel
theorem d_Cs_text_18 : decode prog_1_method_3_code 18 = .ok (.aload_n 0, 1) := by decide +kernel
theorem d_Cs_text_19 : decode prog_1_method_3_code 19 = .ok (.getfield 28, 3) := by decide +kernel
theorem d_Cs_text_22 : decode prog_1_method_3_code 22 = .ok (.iload_n 1, 1) := by decide +kernel
theorem d_Cs_text_23 : decode prog_1_method_3_code 23 = .ok (.invokevirtual 107, 3) := by decide +kernel
theorem d_Cs_text_26 : decode prog_1_method_3_code 26 = .ok (.aload_n 0, 1) := by decide +kernel
theorem d_Cs_text_27 : decode prog_1_method_3_code 27 = .ok (.getfield 12, 3) := by decide +kernel
theorem d_Cs_text_30 : decode prog_1_method_3_code 30 = .ok (.iconst 0, 1) := by decide +kernel
theorem d_Cs_text_31 : decode prog_1_method_3_code 31 = .ok (.putfield 100, 3) := by decide +kernel
theorem d_Cs_text_34 : decode prog_1_method_3_code 34 = .ok (.aload_n 0, 1) := by decide +kernel
theorem d_Cs_text_35 : decode prog_1_method_3_code 35 = .ok (.getfield 28, 3) := by decide +kernel
theorem d_Cs_text_38 : decode prog_1_method_3_code 38 = .ok (.getfield 110, 3) := by decide +kernel
theorem d_Cs_text_41 : decode prog_1_method_3_code 41 = .ok (.ifCond .eq 14, 3) := by decide +kernel
theorem d_Cs_text_44 : decode prog_1_method_3_code 44 = .ok (.bipush (-30), 2) := by decide +kernel
theorem d_Cs_text_46 : decode prog_1_method_3_code 46 = .ok (.aload_n 0, 1) := by decide +kernel
theorem d_Cs_text_47 : decode prog_1_method_3_code 47 = .ok (.getfield 28, 3) := by decide +kernel
theorem d_Cs_text_50 : decode prog_1_method_3_code 50 = .ok (.getfield 110, 3) := by decide +kernel
theorem d_Cs_text_53 : decode prog_1_method_3_code 53 = .ok (.isub, 1) := by decide +kernel
theorem d_Cs_text_54 : decode prog_1_method_3_code 54 = .ok (.ireturn, 1) := by decide +kernel
theorem d_Cs_text_55 : decode prog_1_method_3_code 55 = .ok (.aload_n 0, 1) := by decide +kernel
theorem d_Cs_text_56 : decode prog_1_method_3_code 56 = .ok (.getfield 19, 3) := by decide +kernel
theorem d_Cs_text_59 : decode prog_1_method_3_code 59 = .ok (.aload_n 0, 1) := by decide +kernel
theorem d_Cs_text_60 : decode prog_1_method_3_code 60 = .ok (.getfield 28, 3) := by decide +kernel
theorem d_Cs_text_63 : decode prog_1_method_3_code 63 = .ok (.getfield 113, 3) := by decide +kernel
theorem d_Cs_text_66 : decode prog_1_method_3_code 66 = .ok (.invokevirtual 116, 3) := by decide +kernel
theorem d_Cs_text_69 : decode prog_1_method_3_code 69 = .ok (.aload_n 0, 1) := by decide +kernel
theorem d_Cs_text_70 : decode prog_1_method_3_code 70 = .ok (.getfield 56, 3) := by decide +kernel
theorem d_Cs_text_73 : decode prog_1_method_3_code 73 = .ok (.invokevirtual 119, 3) := by decide +kernel
theorem d_Cs_text_76 : decode prog_1_method_3_code 76 = .ok (.aload_n 0, 1) := by decide +kernel
theorem d_Cs_text_77 : decode prog_1_method_3_code 77 = .ok (.getfield 56, 3) := by decide +kernel
theorem d_Cs_text_80 : decode prog_1_method_3_code 80 = .ok (.aload_n 0, 1) := by decide +kernel
theorem d_Cs_text_81 : decode prog_1_method_3_code 81 = .ok (.getfield 35, 3) := by decide +kernel
theorem d_Cs_text_84 : decode prog_1_method_3_code 84 = .ok (.iconst 4, 1) := by decide +kernel
theorem d_Cs_text_85 : decode prog_1_method_3_code 85 = .ok (.invokevirtual 92, 3) := by decide +kernel
theorem d_Cs_text_88 : decode prog_1_method_3_code 88 = .ok (.putfield 96, 3) := by decide +kernel
theorem d_Cs_text_91 : decode prog_1_method_3_code 91 = .ok (.aload_n 0, 1) := by decide +kernel
theorem d_Cs_text_92 : decode prog_1_method_3_code 92 = .ok (.getfield 44, 3) := by decide +kernel
theorem d_Cs_text_95 : decode prog_1_method_3_code 95 = .ok (.iconst 0, 1) := by decide +kernel
theorem d_Cs_text_96 : decode prog_1_method_3_code 96 = .ok (.invokevirtual 122, 3) := by decide +kernel
theorem d_Cs_text_99 : decode prog_1_method_3_code 99 = .ok (.aload_n 0, 1) := by decide +kernel
theorem d_Cs_text_100 : decode prog_1_method_3_code 100 = .ok (.getfield 19, 3) := by decide +kernel
theorem d_Cs_text_103 : decode prog_1_method_3_code 103 = .ok (.getfield 125, 3) := by decide +kernel
theorem d_Cs_text_106 : decode prog_1_method_3_code 106 = .ok (.ireturn, 1) := by decide +kernel
theorem d_Cs_fault_0 : decode prog_1_method_4_code 0 = .ok (.iload_n 1, 1) := by decide +kernel
theorem d_Cs_fault_1 : decode prog_1_method_4_code 1 = .ok (.ifCond .ne 13, 3) := by decide +kernel
theorem d_Cs_fault_4 : decode prog_1_method_4_code 4 = .ok (.aload_n 0, 1) := by decide +kernel
theorem d_Cs_fault_5 : decode prog_1_method_4_code 5 = .ok (.getfield 28, 3) := by decide +kernel
theorem d_Cs_fault_8 : decode prog_1_method_4_code 8 = .ok (.getfield 110, 3) := by decide +kernel
theorem d_Cs_fault_11 : decode prog_1_method_4_code 11 = .ok (.goto 19, 3) := by decide +kernel
theorem d_Cs_fault_14 : decode prog_1_method_4_code 14 = .ok (.iload_n 1, 1) := by decide +kernel
theorem d_Cs_fault_15 : decode prog_1_method_4_code 15 = .ok (.iconst 1, 1) := by decide +kernel
theorem d_Cs_fault_16 : decode prog_1_method_4_code 16 = .ok (.if_icmp .ne 13, 3) := by decide +kernel
theorem d_Cs_fault_19 : decode prog_1_method_4_code 19 = .ok (.aload_n 0, 1) := by decide +kernel
theorem d_Cs_fault_20 : decode prog_1_method_4_code 20 = .ok (.getfield 28, 3) := by decide +kernel
theorem d_Cs_fault_23 : decode prog_1_method_4_code 23 = .ok (.getfield 128, 3) := by decide +kernel
theorem d_Cs_fault_26 : decode prog_1_method_4_code 26 = .ok (.goto 4, 3) := by decide +kernel
theorem d_Cs_fault_29 : decode prog_1_method_4_code 29 = .ok (.iconst (-1), 1) := by decide +kernel
theorem d_Cs_fault_30 : decode prog_1_method_4_code 30 = .ok (.ireturn, 1) := by decide +kernel
theorem d_Cs_terms_0 : decode prog_1_method_5_code 0 = .ok (.aload_n 0, 1) := by decide +kernel
theorem d_Cs_terms_1 : decode prog_1_method_5_code 1 = .ok (.getfield 35, 3) := by decide +kernel
theorem d_Cs_terms_4 : decode prog_1_method_5_code 4 = .ok (.iload_n 1, 1) := by decide +kernel
theorem d_Cs_terms_5 : decode prog_1_method_5_code 5 = .ok (.invokevirtual 131, 3) := by decide +kernel
theorem d_Cs_terms_8 : decode prog_1_method_5_code 8 = .ok (.ifCond .ne 6, 3) := by decide +kernel
theorem d_Cs_terms_11 : decode prog_1_method_5_code 11 = .ok (.bipush (-2), 2) := by decide +kernel
theorem d_Cs_terms_13 : decode prog_1_method_5_code 13 = .ok (.ireturn, 1) := by decide +kernel
theorem d_Cs_terms_14 : decode prog_1_method_5_code 14 = .ok (.aload_n 0, 1) := by decide +kernel
theorem d_Cs_terms_15 : decode prog_1_method_5_code 15 = .ok (.getfield 35, 3) := by decide +kernel
theorem d_Cs_terms_18 : decode prog_1_method_5_code 18 = .ok (.iload_n 1, 1) := by decide +kernel
theorem d_Cs_terms_19 : decode prog_1_method_5_code 19 = .ok (.iload_n 2, 1) := by decide +kernel
theorem d_Cs_terms_20 : decode prog_1_method_5_code 20 = .ok (.invokevirtual 135, 3) := by decide +kernel
theorem d_Cs_terms_23 : decode prog_1_method_5_code 23 = .ok (.ifCond .ne 6, 3) := by decide +kernel
theorem d_Cs_terms_26 : decode prog_1_method_5_code 26 = .ok (.bipush (-3), 2) := by decide +kernel
theorem d_Cs_terms_28 : decode prog_1_method_5_code 28 = .ok (.ireturn, 1) := by decide +kernel
theorem d_Cs_terms_29 : decode prog_1_method_5_code 29 = .ok (.aload_n 0, 1) := by decide +kernel
theorem d_Cs_terms_30 : decode prog_1_method_5_code 30 = .ok (.getfield 35, 3) := by decide +kernel
theorem d_Cs_terms_33 : decode prog_1_method_5_code 33 = .ok (.iload_n 1, 1) := by decide +kernel
theorem d_Cs_terms_34 : decode prog_1_method_5_code 34 = .ok (.invokevirtual 92, 3) := by decide +kernel
theorem d_Cs_terms_37 : decode prog_1_method_5_code 37 = .ok (.istore_n 3, 1) := by decide +kernel
theorem d_Cs_terms_38 : decode prog_1_method_5_code 38 = .ok (.aload_n 0, 1) := by decide +kernel
theorem d_Cs_terms_39 : decode prog_1_method_5_code 39 = .ok (.getfield 35, 3) := by decide +kernel
theorem d_Cs_terms_42 : decode prog_1_method_5_code 42 = .ok (.iload_n 1, 1) := by decide +kernel
theorem d_Cs_terms_43 : decode prog_1_method_5_code 43 = .ok (.iload_n 2, 1) := by decide +kernel
theorem d_Cs_terms_44 : decode prog_1_method_5_code 44 = .ok (.invokevirtual 139, 3) := by decide +kernel
theorem d_Cs_terms_47 : decode prog_1_method_5_code 47 = .ok (.iload_n 1, 1) := by decide +kernel
theorem d_Cs_terms_48 : decode prog_1_method_5_code 48 = .ok (.iconst 4, 1) := by decide +kernel
theorem d_Cs_terms_49 : decode prog_1_method_5_code 49 = .ok (.if_icmp .ne 11, 3) := by decide +kernel
theorem d_Cs_terms_52 : decode prog_1_method_5_code 52 = .ok (.aload_n 0, 1) := by decide +kernel
theorem d_Cs_terms_53 : decode prog_1_method_5_code 53 = .ok (.getfield 56, 3) := by decide +kernel
theorem d_Cs_terms_56 : decode prog_1_method_5_code 56 = .ok (.iload_n 2, 1) := by decide +kernel
theorem d_Cs_terms_57 : decode prog_1_method_5_code 57 = .ok (.putfield 96, 3) := by decide +kernel
theorem d_Cs_terms_60 : decode prog_1_method_5_code 60 = .ok (.iload_n 3, 1) := by decide +kernel
theorem d_Cs_terms_61 : decode prog_1_method_5_code 61 = .ok (.ireturn, 1) := by decide +kernel
theorem d_Cs_add_0 : decode prog_1_method_6_code 0 = .ok (.iload_n 1, 1) := by decide +kernel
theorem d_Cs_add_1 : decode prog_1_method_6_code 1 = .ok (.ifCond .lt 27, 3) := by decide +kernel
theorem d_Cs_add_4 : decode prog_1_method_6_code 4 = .ok (.iload_n 1, 1) := by decide +kernel
theorem d_Cs_add_5 : decode prog_1_method_6_code 5 = .ok (.bipush 99, 2) := by decide +kernel
theorem d_Cs_add_7 : decode prog_1_method_6_code 7 = .ok (.if_icmp .gt 21, 3) := by decide +kernel
theorem d_Cs_add_10 : decode prog_1_method_6_code 10 = .ok (.iload_n 2, 1) := by decide +kernel
theorem d_Cs_add_11 : decode prog_1_method_6_code 11 = .ok (.ifCond .lt 17, 3) := by decide +kernel
theorem d_Cs_add_14 : decode prog_1_method_6_code 14 = .ok (.iload_n 2, 1) := by decide +kernel
theorem d_Cs_add_15 : decode prog_1_method_6_code 15 = .ok (.sipush 9999, 3) := by decide +kernel
theorem d_Cs_add_18 : decode prog_1_method_6_code 18 = .ok (.if_icmp .gt 10, 3) := by decide +kernel
theorem d_Cs_add_21 : decode prog_1_method_6_code 21 = .ok (.iload_n 3, 1) := by decide +kernel
theorem d_Cs_add_22 : decode prog_1_method_6_code 22 = .ok (.invokestatic 143, 3) := by decide +kernel
theorem d_Cs_add_25 : decode prog_1_method_6_code 25 = .ok (.ifCond .ne 6, 3) := by decide +kernel
theorem d_Cs_add_28 : decode prog_1_method_6_code 28 = .ok (.bipush (-3), 2) := by decide +kernel
theorem d_Cs_add_30 : decode prog_1_method_6_code 30 = .ok (.ireturn, 1) := by decide +kernel
theorem d_Cs_add_31 : decode prog_1_method_6_code 31 = .ok (.aload_n 0, 1) := by decide +kernel
theorem d_Cs_add_32 : decode prog_1_method_6_code 32 = .ok (.getfield 19, 3) := by decide +kernel
theorem d_Cs_add_35 : decode prog_1_method_6_code 35 = .ok (.invokevirtual 146, 3) := by decide +kernel
theorem d_Cs_add_38 : decode prog_1_method_6_code 38 = .ok (.ifCond .eq 6, 3) := by decide +kernel
theorem d_Cs_add_41 : decode prog_1_method_6_code 41 = .ok (.bipush (-4), 2) := by decide +kernel
theorem d_Cs_add_43 : decode prog_1_method_6_code 43 = .ok (.ireturn, 1) := by decide +kernel
theorem d_Cs_add_44 : decode prog_1_method_6_code 44 = .ok (.aload_n 0, 1) := by decide +kernel
theorem d_Cs_add_45 : decode prog_1_method_6_code 45 = .ok (.getfield 19, 3) := by decide +kernel
theorem d_Cs_add_48 : decode prog_1_method_6_code 48 = .ok (.iload_n 1, 1) := by decide +kernel
theorem d_Cs_add_49 : decode prog_1_method_6_code 49 = .ok (.iload_n 2, 1) := by decide +kernel
theorem d_Cs_add_50 : decode prog_1_method_6_code 50 = .ok (.invokevirtual 150, 3) := by decide +kernel
theorem d_Cs_add_53 : decode prog_1_method_6_code 53 = .ok (.iconst (-1), 1) := by decide +kernel
theorem d_Cs_add_54 : decode prog_1_method_6_code 54 = .ok (.if_icmp .ne 13, 3) := by decide +kernel
theorem d_Cs_add_57 : decode prog_1_method_6_code 57 = .ok (.aload_n 0, 1) := by decide +kernel
theorem d_Cs_add_58 : decode prog_1_method_6_code 58 = .ok (.getfield 56, 3) := by decide +kernel
theorem d_Cs_add_61 : decode prog_1_method_6_code 61 = .ok (.getfield 154, 3) := by decide +kernel
theorem d_Cs_add_64 : decode prog_1_method_6_code 64 = .ok (.ifCond .le 6, 3) := by decide +kernel
theorem d_Cs_add_67 : decode prog_1_method_6_code 67 = .ok (.bipush (-5), 2) := by decide +kernel
theorem d_Cs_add_69 : decode prog_1_method_6_code 69 = .ok (.ireturn, 1) := by decide +kernel
theorem d_Cs_add_70 : decode prog_1_method_6_code 70 = .ok (.aload_n 0, 1) := by decide +kernel
theorem d_Cs_add_71 : decode prog_1_method_6_code 71 = .ok (.getfield 19, 3) := by decide +kernel
theorem d_Cs_add_74 : decode prog_1_method_6_code 74 = .ok (.iload_n 1, 1) := by decide +kernel
theorem d_Cs_add_75 : decode prog_1_method_6_code 75 = .ok (.iload_n 2, 1) := by decide +kernel
theorem d_Cs_add_76 : decode prog_1_method_6_code 76 = .ok (.iload_n 3, 1) := by decide +kernel
theorem d_Cs_add_77 : decode prog_1_method_6_code 77 = .ok (.invokevirtual 157, 3) := by decide +kernel
theorem d_Cs_add_80 : decode prog_1_method_6_code 80 = .ok (.aload_n 0, 1) := by decide +kernel
theorem d_Cs_add_81 : decode prog_1_method_6_code 81 = .ok (.getfield 44, 3) := by decide +kernel
theorem d_Cs_add_84 : decode prog_1_method_6_code 84 = .ok (.aload_n 0, 1) := by decide +kernel
theorem d_Cs_add_85 : decode prog_1_method_6_code 85 = .ok (.getfield 44, 3) := by decide +kernel
theorem d_Cs_add_88 : decode prog_1_method_6_code 88 = .ok (.getfield 161, 3) := by decide +kernel
theorem d_Cs_add_91 : decode prog_1_method_6_code 91 = .ok (.invokevirtual 122, 3) := by decide +kernel
theorem d_Cs_add_94 : decode prog_1_method_6_code 94 = .ok (.aload_n 0, 1) := by decide +kernel
theorem d_Cs_add_95 : decode prog_1_method_6_code 95 = .ok (.getfield 19, 3) := by decide +kernel
theorem d_Cs_add_98 : decode prog_1_method_6_code 98 = .ok (.getfield 125, 3) := by decide +kernel
theorem d_Cs_add_101 : decode prog_1_method_6_code 101 = .ok (.iconst 1, 1) := by decide +kernel
theorem d_Cs_add_102 : decode prog_1_method_6_code 102 = .ok (.isub, 1) := by decide +kernel
theorem d_Cs_add_103 : decode prog_1_method_6_code 103 = .ok (.ireturn, 1) := by decide +kernel
theorem d_Cs_post_0 : decode prog_1_method_7_code 0 = .ok (.aload_n 0, 1) := by decide +kernel
theorem d_Cs_post_1 : decode prog_1_method_7_code 1 = .ok (.getfield 19, 3) := by decide +kernel
theorem d_Cs_post_4 : decode prog_1_method_7_code 4 = .ok (.iload_n 1, 1) := by decide +kernel
theorem d_Cs_post_5 : decode prog_1_method_7_code 5 = .ok (.invokevirtual 164, 3) := by decide +kernel
theorem d_Cs_post_8 : decode prog_1_method_7_code 8 = .ok (.ifCond .eq 20, 3) := by decide +kernel
theorem d_Cs_post_11 : decode prog_1_method_7_code 11 = .ok (.iload_n 2, 1) := by decide +kernel
theorem d_Cs_post_12 : decode prog_1_method_7_code 12 = .ok (.invokestatic 143, 3) := by decide +kernel
theorem d_Cs_post_15 : decode prog_1_method_7_code 15 = .ok (.ifCond .eq 13, 3) := by decide +kernel
theorem d_Cs_post_18 : decode prog_1_method_7_code 18 = .ok (.aload_n 0, 1) := by decide +kernel
theorem d_Cs_post_19 : decode prog_1_method_7_code 19 = .ok (.getfield 56, 3) := by decide +kernel
theorem d_Cs_post_22 : decode prog_1_method_7_code 22 = .ok (.getfield 154, 3) := by decide +kernel
theorem d_Cs_post_25 : decode prog_1_method_7_code 25 = .ok (.ifCond .le 6, 3) := by decide +kernel
theorem d_Cs_post_28 : decode prog_1_method_7_code 28 = .ok (.ldc 167, 2) := by decide +kernel
theorem d_Cs_post_30 : decode prog_1_method_7_code 30 = .ok (.ireturn, 1) := by decide +kernel
theorem d_Cs_post_31 : decode prog_1_method_7_code 31 = .ok (.aload_n 0, 1) := by decide +kernel
theorem d_Cs_post_32 : decode prog_1_method_7_code 32 = .ok (.getfield 19, 3) := by decide +kernel
theorem d_Cs_post_35 : decode prog_1_method_7_code 35 = .ok (.getfield 168, 3) := by decide +kernel
theorem d_Cs_post_38 : decode prog_1_method_7_code 38 = .ok (.iload_n 1, 1) := by decide +kernel
theorem d_Cs_post_39 : decode prog_1_method_7_code 39 = .ok (.iaload, 1) := by decide +kernel
theorem d_Cs_post_40 : decode prog_1_method_7_code 40 = .ok (.istore_n 3, 1) := by decide +kernel
theorem d_Cs_post_41 : decode prog_1_method_7_code 41 = .ok (.aload_n 0, 1) := by decide +kernel
theorem d_Cs_post_42 : decode prog_1_method_7_code 42 = .ok (.getfield 19, 3) := by decide +kernel
theorem d_Cs_post_45 : decode prog_1_method_7_code 45 = .ok (.getfield 168, 3) := by decide +kernel
theorem d_Cs_post_48 : decode prog_1_method_7_code 48 = .ok (.iload_n 1, 1) := by decide +kernel
theorem d_Cs_post_49 : decode prog_1_method_7_code 49 = .ok (.iload_n 2, 1) := by decide +kernel
theorem d_Cs_post_50 : decode prog_1_method_7_code 50 = .ok (.iastore, 1) := by decide +kernel
theorem d_Cs_post_51 : decode prog_1_method_7_code 51 = .ok (.aload_n 0, 1) := by decide +kernel
theorem d_Cs_post_52 : decode prog_1_method_7_code 52 = .ok (.getfield 19, 3) := by decide +kernel
theorem d_Cs_post_55 : decode prog_1_method_7_code 55 = .ok (.getfield 172, 3) := by decide +kernel
theorem d_Cs_post_58 : decode prog_1_method_7_code 58 = .ok (.iload_n 1, 1) := by decide +kernel
theorem d_Cs_post_59 : decode prog_1_method_7_code 59 = .ok (.iconst (-1), 1) := by decide +kernel
theorem d_Cs_post_60 : decode prog_1_method_7_code 60 = .ok (.iastore, 1) := by decide +kernel
theorem d_Cs_post_61 : decode prog_1_method_7_code 61 = .ok (.aload_n 0, 1) := by decide +kernel
theorem d_Cs_post_62 : decode prog_1_method_7_code 62 = .ok (.getfield 44, 3) := by decide +kernel
theorem d_Cs_post_65 : decode prog_1_method_7_code 65 = .ok (.aload_n 0, 1) := by decide +kernel
theorem d_Cs_post_66 : decode prog_1_method_7_code 66 = .ok (.getfield 44, 3) := by decide +kernel
theorem d_Cs_post_69 : decode prog_1_method_7_code 69 = .ok (.getfield 161, 3) := by decide +kernel
theorem d_Cs_post_72 : decode prog_1_method_7_code 72 = .ok (.invokevirtual 122, 3) := by decide +kernel
theorem d_Cs_post_75 : decode prog_1_method_7_code 75 = .ok (.iload_n 3, 1) := by decide +kernel
theorem d_Cs_post_76 : decode prog_1_method_7_code 76 = .ok (.ireturn, 1) := by decide +kernel
theorem d_Cs_audit_0 : decode prog_1_method_8_code 0 = .ok (.aload_n 0, 1) := by decide +kernel
theorem d_Cs_audit_1 : decode prog_1_method_8_code 1 = .ok (.getfield 19, 3) := by decide +kernel
theorem d_Cs_audit_4 : decode prog_1_method_8_code 4 = .ok (.iload_n 1, 1) := by decide +kernel
theorem d_Cs_audit_5 : decode prog_1_method_8_code 5 = .ok (.invokevirtual 164, 3) := by decide +kernel
theorem d_Cs_audit_8 : decode prog_1_method_8_code 8 = .ok (.ifCond .ne 6, 3) := by decide +kernel
theorem d_Cs_audit_11 : decode prog_1_method_8_code 11 = .ok (.bipush (-2), 2) := by decide +kernel
theorem d_Cs_audit_13 : decode prog_1_method_8_code 13 = .ok (.ireturn, 1) := by decide +kernel
theorem d_Cs_audit_14 : decode prog_1_method_8_code 14 = .ok (.aload_n 0, 1) := by decide +kernel
theorem d_Cs_audit_15 : decode prog_1_method_8_code 15 = .ok (.getfield 19, 3) := by decide +kernel
theorem d_Cs_audit_18 : decode prog_1_method_8_code 18 = .ok (.iload_n 1, 1) := by decide +kernel
theorem d_Cs_audit_19 : decode prog_1_method_8_code 19 = .ok (.iload_n 2, 1) := by decide +kernel
theorem d_Cs_audit_20 : decode prog_1_method_8_code 20 = .ok (.invokevirtual 175, 3) := by decide +kernel
theorem d_Cs_audit_23 : decode prog_1_method_8_code 23 = .ok (.ifCond .ne 6, 3) := by decide +kernel
theorem d_Cs_audit_26 : decode prog_1_method_8_code 26 = .ok (.bipush (-3), 2) := by decide +kernel
theorem d_Cs_audit_28 : decode prog_1_method_8_code 28 = .ok (.ireturn, 1) := by decide +kernel
theorem d_Cs_audit_29 : decode prog_1_method_8_code 29 = .ok (.aload_n 0, 1) := by decide +kernel
theorem d_Cs_audit_30 : decode prog_1_method_8_code 30 = .ok (.getfield 19, 3) := by decide +kernel
theorem d_Cs_audit_33 : decode prog_1_method_8_code 33 = .ok (.iload_n 1, 1) := by decide +kernel
theorem d_Cs_audit_34 : decode prog_1_method_8_code 34 = .ok (.invokevirtual 178, 3) := by decide +kernel
theorem d_Cs_audit_37 : decode prog_1_method_8_code 37 = .ok (.ifCond .ne 6, 3) := by decide +kernel
theorem d_Cs_audit_40 : decode prog_1_method_8_code 40 = .ok (.bipush (-5), 2) := by decide +kernel
theorem d_Cs_audit_42 : decode prog_1_method_8_code 42 = .ok (.ireturn, 1) := by decide +kernel
theorem d_Cs_audit_43 : decode prog_1_method_8_code 43 = .ok (.aload_n 0, 1) := by decide +kernel
theorem d_Cs_audit_44 : decode prog_1_method_8_code 44 = .ok (.getfield 19, 3) := by decide +kernel
theorem d_Cs_audit_47 : decode prog_1_method_8_code 47 = .ok (.getfield 172, 3) := by decide +kernel
theorem d_Cs_audit_50 : decode prog_1_method_8_code 50 = .ok (.iload_n 1, 1) := by decide +kernel
theorem d_Cs_audit_51 : decode prog_1_method_8_code 51 = .ok (.iaload, 1) := by decide +kernel
theorem d_Cs_audit_52 : decode prog_1_method_8_code 52 = .ok (.istore_n 3, 1) := by decide +kernel
theorem d_Cs_audit_53 : decode prog_1_method_8_code 53 = .ok (.aload_n 0, 1) := by decide +kernel
theorem d_Cs_audit_54 : decode prog_1_method_8_code 54 = .ok (.getfield 19, 3) := by decide +kernel
theorem d_Cs_audit_57 : decode prog_1_method_8_code 57 = .ok (.getfield 172, 3) := by decide +kernel
theorem d_Cs_audit_60 : decode prog_1_method_8_code 60 = .ok (.iload_n 1, 1) := by decide +kernel
theorem d_Cs_audit_61 : decode prog_1_method_8_code 61 = .ok (.iload_n 2, 1) := by decide +kernel
theorem d_Cs_audit_62 : decode prog_1_method_8_code 62 = .ok (.iastore, 1) := by decide +kernel
theorem d_Cs_audit_63 : decode prog_1_method_8_code 63 = .ok (.iload_n 3, 1) := by decide +kernel
theorem d_Cs_audit_64 : decode prog_1_method_8_code 64 = .ok (.ireturn, 1) := by decide +kernel
theorem d_Cs_forget_0 : decode prog_1_method_9_code 0 = .ok (.aload_n 0, 1) := by decide +kernel
theorem d_Cs_forget_1 : decode prog_1_method_9_code 1 = .ok (.getfield 19, 3) := by decide +kernel
theorem d_Cs_forget_4 : decode prog_1_method_9_code 4 = .ok (.iload_n 1, 1) := by decide +kernel
theorem d_Cs_forget_5 : decode prog_1_method_9_code 5 = .ok (.invokevirtual 164, 3) := by decide +kernel
theorem d_Cs_forget_8 : decode prog_1_method_9_code 8 = .ok (.ifCond .ne 6, 3) := by decide +kernel
theorem d_Cs_forget_11 : decode prog_1_method_9_code 11 = .ok (.bipush (-2), 2) := by decide +kernel
theorem d_Cs_forget_13 : decode prog_1_method_9_code 13 = .ok (.ireturn, 1) := by decide +kernel
theorem d_Cs_forget_14 : decode prog_1_method_9_code 14 = .ok (.aload_n 0, 1) := by decide +kernel
theorem d_Cs_forget_15 : decode prog_1_method_9_code 15 = .ok (.getfield 19, 3) := by decide +kernel
theorem d_Cs_forget_18 : decode prog_1_method_9_code 18 = .ok (.getfield 172, 3) := by decide +kernel
theorem d_Cs_forget_21 : decode prog_1_method_9_code 21 = .ok (.iload_n 1, 1) := by decide +kernel
theorem d_Cs_forget_22 : decode prog_1_method_9_code 22 = .ok (.iaload, 1) := by decide +kernel
theorem d_Cs_forget_23 : decode prog_1_method_9_code 23 = .ok (.istore_n 2, 1) := by decide +kernel
theorem d_Cs_forget_24 : decode prog_1_method_9_code 24 = .ok (.aload_n 0, 1) := by decide +kernel
theorem d_Cs_forget_25 : decode prog_1_method_9_code 25 = .ok (.getfield 19, 3) := by decide +kernel
theorem d_Cs_forget_28 : decode prog_1_method_9_code 28 = .ok (.getfield 172, 3) := by decide +kernel
theorem d_Cs_forget_31 : decode prog_1_method_9_code 31 = .ok (.iload_n 1, 1) := by decide +kernel
theorem d_Cs_forget_32 : decode prog_1_method_9_code 32 = .ok (.iconst (-1), 1) := by decide +kernel
theorem d_Cs_forget_33 : decode prog_1_method_9_code 33 = .ok (.iastore, 1) := by decide +kernel
theorem d_Cs_forget_34 : decode prog_1_method_9_code 34 = .ok (.iload_n 2, 1) := by decide +kernel
theorem d_Cs_forget_35 : decode prog_1_method_9_code 35 = .ok (.ireturn, 1) := by decide +kernel
theorem d_Cs_interval_0 : decode prog_1_method_10_code 0 = .ok (.iload_n 1, 1) := by decide +kernel
theorem d_Cs_interval_1 : decode prog_1_method_10_code 1 = .ok (.iconst 1, 1) := by decide +kernel
theorem d_Cs_interval_2 : decode prog_1_method_10_code 2 = .ok (.if_icmp .lt 9, 3) := by decide +kernel
theorem d_Cs_interval_5 : decode prog_1_method_10_code 5 = .ok (.iload_n 1, 1) := by decide +kernel
theorem d_Cs_interval_6 : decode prog_1_method_10_code 6 = .ok (.ldc 181, 2) := by decide +kernel
theorem d_Cs_interval_8 : decode prog_1_method_10_code 8 = .ok (.if_icmp .le 6, 3) := by decide +kernel
theorem d_Cs_interval_11 : decode prog_1_method_10_code 11 = .ok (.bipush (-3), 2) := by decide +kernel
theorem d_Cs_interval_13 : decode prog_1_method_10_code 13 = .ok (.ireturn, 1) := by decide +kernel
theorem d_Cs_interval_14 : decode prog_1_method_10_code 14 = .ok (.aload_n 0, 1) := by decide +kernel
theorem d_Cs_interval_15 : decode prog_1_method_10_code 15 = .ok (.getfield 56, 3) := by decide +kernel
theorem d_Cs_interval_18 : decode prog_1_method_10_code 18 = .ok (.getfield 154, 3) := by decide +kernel
theorem d_Cs_interval_21 : decode prog_1_method_10_code 21 = .ok (.ifCond .le 6, 3) := by decide +kernel
theorem d_Cs_interval_24 : decode prog_1_method_10_code 24 = .ok (.bipush (-5), 2) := by decide +kernel
theorem d_Cs_interval_26 : decode prog_1_method_10_code 26 = .ok (.ireturn, 1) := by decide +kernel
theorem d_Cs_interval_27 : decode prog_1_method_10_code 27 = .ok (.aload_n 0, 1) := by decide +kernel
theorem d_Cs_interval_28 : decode prog_1_method_10_code 28 = .ok (.getfield 44, 3) := by decide +kernel
theorem d_Cs_interval_31 : decode prog_1_method_10_code 31 = .ok (.iload_n 1, 1) := by decide +kernel
theorem d_Cs_interval_32 : decode prog_1_method_10_code 32 = .ok (.invokevirtual 122, 3) := by decide +kernel
theorem d_Cs_interval_35 : decode prog_1_method_10_code 35 = .ok (.aload_n 0, 1) := by decide +kernel
theorem d_Cs_interval_36 : decode prog_1_method_10_code 36 = .ok (.getfield 44, 3) := by decide +kernel
theorem d_Cs_interval_39 : decode prog_1_method_10_code 39 = .ok (.getfield 182, 3) := by decide +kernel
theorem d_Cs_interval_42 : decode prog_1_method_10_code 42 = .ok (.ireturn, 1) := by decide +kernel
theorem d_Cs_plan_0 : decode prog_1_method_11_code 0 = .ok (.aload_n 0, 1) := by decide +kernel
theorem d_Cs_plan_1 : decode prog_1_method_11_code 1 = .ok (.getfield 19, 3) := by decide +kernel
theorem d_Cs_plan_4 : decode prog_1_method_11_code 4 = .ok (.invokevirtual 185, 3) := by decide +kernel
theorem d_Cs_plan_7 : decode prog_1_method_11_code 7 = .ok (.istore_n 1, 1) := by decide +kernel
theorem d_Cs_plan_8 : decode prog_1_method_11_code 8 = .ok (.aload_n 0, 1) := by decide +kernel
theorem d_Cs_plan_9 : decode prog_1_method_11_code 9 = .ok (.getfield 63, 3) := by decide +kernel
theorem d_Cs_plan_12 : decode prog_1_method_11_code 12 = .ok (.iload_n 1, 1) := by decide +kernel
theorem d_Cs_plan_13 : decode prog_1_method_11_code 13 = .ok (.aload_n 0, 1) := by decide +kernel
theorem d_Cs_plan_14 : decode prog_1_method_11_code 14 = .ok (.getfield 35, 3) := by decide +kernel
theorem d_Cs_plan_17 : decode prog_1_method_11_code 17 = .ok (.iconst 0, 1) := by decide +kernel
theorem d_Cs_plan_18 : decode prog_1_method_11_code 18 = .ok (.invokevirtual 92, 3) := by decide +kernel
theorem d_Cs_plan_21 : decode prog_1_method_11_code 21 = .ok (.aload_n 0, 1) := by decide +kernel
theorem d_Cs_plan_22 : decode prog_1_method_11_code 22 = .ok (.getfield 35, 3) := by decide +kernel
theorem d_Cs_plan_25 : decode prog_1_method_11_code 25 = .ok (.iconst 2, 1) := by decide +kernel
theorem d_Cs_plan_26 : decode prog_1_method_11_code 26 = .ok (.invokevirtual 92, 3) := by decide +kernel
theorem d_Cs_plan_29 : decode prog_1_method_11_code 29 = .ok (.aload_n 0, 1) := by decide +kernel
theorem d_Cs_plan_30 : decode prog_1_method_11_code 30 = .ok (.getfield 35, 3) := by decide +kernel
theorem d_Cs_plan_33 : decode prog_1_method_11_code 33 = .ok (.iconst 1, 1) := by decide +kernel
theorem d_Cs_plan_34 : decode prog_1_method_11_code 34 = .ok (.invokevirtual 92, 3) := by decide +kernel
theorem d_Cs_plan_37 : decode prog_1_method_11_code 37 = .ok (.invokevirtual 189, 3) := by decide +kernel
theorem d_Cs_plan_40 : decode prog_1_method_11_code 40 = .ok (.istore_n 2, 1) := by decide +kernel
theorem d_Cs_plan_41 : decode prog_1_method_11_code 41 = .ok (.iload_n 2, 1) := by decide +kernel
theorem d_Cs_plan_42 : decode prog_1_method_11_code 42 = .ok (.iconst (-1), 1) := by decide +kernel
theorem d_Cs_plan_43 : decode prog_1_method_11_code 43 = .ok (.if_icmp .ne 6, 3) := by decide +kernel
theorem d_Cs_plan_46 : decode prog_1_method_11_code 46 = .ok (.bipush (-4), 2) := by decide +kernel
theorem d_Cs_plan_48 : decode prog_1_method_11_code 48 = .ok (.ireturn, 1) := by decide +kernel
theorem d_Cs_plan_49 : decode prog_1_method_11_code 49 = .ok (.iload_n 2, 1) := by decide +kernel
theorem d_Cs_plan_50 : decode prog_1_method_11_code 50 = .ok (.iconst 1, 1) := by decide +kernel
theorem d_Cs_plan_51 : decode prog_1_method_11_code 51 = .ok (.if_icmp .lt 17, 3) := by decide +kernel
theorem d_Cs_plan_54 : decode prog_1_method_11_code 54 = .ok (.iload_n 1, 1) := by decide +kernel
theorem d_Cs_plan_55 : decode prog_1_method_11_code 55 = .ok (.ifCond .eq 13, 3) := by decide +kernel
theorem d_Cs_plan_58 : decode prog_1_method_11_code 58 = .ok (.aload_n 0, 1) := by decide +kernel
theorem d_Cs_plan_59 : decode prog_1_method_11_code 59 = .ok (.getfield 56, 3) := by decide +kernel
theorem d_Cs_plan_62 : decode prog_1_method_11_code 62 = .ok (.getfield 154, 3) := by decide +kernel
theorem d_Cs_plan_65 : decode prog_1_method_11_code 65 = .ok (.ifCond .le 6, 3) := by decide +kernel
theorem d_Cs_plan_68 : decode prog_1_method_11_code 68 = .ok (.bipush (-5), 2) := by decide +kernel
theorem d_Cs_plan_70 : decode prog_1_method_11_code 70 = .ok (.ireturn, 1) := by decide +kernel
theorem d_Cs_plan_71 : decode prog_1_method_11_code 71 = .ok (.aload_n 0, 1) := by decide +kernel
theorem d_Cs_plan_72 : decode prog_1_method_11_code 72 = .ok (.getfield 44, 3) := by decide +kernel
theorem d_Cs_plan_75 : decode prog_1_method_11_code 75 = .ok (.iconst 1, 1) := by decide +kernel
theorem d_Cs_plan_76 : decode prog_1_method_11_code 76 = .ok (.iload_n 1, 1) := by decide +kernel
theorem d_Cs_plan_77 : decode prog_1_method_11_code 77 = .ok (.iload_n 2, 1) := by decide +kernel
theorem d_Cs_plan_78 : decode prog_1_method_11_code 78 = .ok (.idiv, 1) := by decide +kernel
theorem d_Cs_plan_79 : decode prog_1_method_11_code 79 = .ok (.invokestatic 193, 3) := by decide +kernel
theorem d_Cs_plan_82 : decode prog_1_method_11_code 82 = .ok (.invokevirtual 122, 3) := by decide +kernel
theorem d_Cs_plan_85 : decode prog_1_method_11_code 85 = .ok (.iload_n 2, 1) := by decide +kernel
theorem d_Cs_plan_86 : decode prog_1_method_11_code 86 = .ok (.ireturn, 1) := by decide +kernel
theorem d_Cs_draw_0 : decode prog_1_method_12_code 0 = .ok (.aload_n 0, 1) := by decide +kernel
theorem d_Cs_draw_1 : decode prog_1_method_12_code 1 = .ok (.getfield 44, 3) := by decide +kernel
theorem d_Cs_draw_4 : decode prog_1_method_12_code 4 = .ok (.getfield 161, 3) := by decide +kernel
theorem d_Cs_draw_7 : decode prog_1_method_12_code 7 = .ok (.ifCond .ne 6, 3) := by decide +kernel
theorem d_Cs_draw_10 : decode prog_1_method_12_code 10 = .ok (.bipush (-5), 2) := by decide +kernel
theorem d_Cs_draw_12 : decode prog_1_method_12_code 12 = .ok (.ireturn, 1) := by decide +kernel
theorem d_Cs_draw_13 : decode prog_1_method_12_code 13 = .ok (.aload_n 0, 1) := by decide +kernel
theorem d_Cs_draw_14 : decode prog_1_method_12_code 14 = .ok (.getfield 56, 3) := by decide +kernel
theorem d_Cs_draw_17 : decode prog_1_method_12_code 17 = .ok (.getfield 154, 3) := by decide +kernel
theorem d_Cs_draw_20 : decode prog_1_method_12_code 20 = .ok (.iconst 5, 1) := by decide +kernel
theorem d_Cs_draw_21 : decode prog_1_method_12_code 21 = .ok (.if_icmp .ge 20, 3) := by decide +kernel
theorem d_Cs_draw_24 : decode prog_1_method_12_code 24 = .ok (.aload_n 0, 1) := by decide +kernel
theorem d_Cs_draw_25 : decode prog_1_method_12_code 25 = .ok (.getfield 56, 3) := by decide +kernel
theorem d_Cs_draw_28 : decode prog_1_method_12_code 28 = .ok (.getfield 154, 3) := by decide +kernel
theorem d_Cs_draw_31 : decode prog_1_method_12_code 31 = .ok (.aload_n 0, 1) := by decide +kernel
theorem d_Cs_draw_32 : decode prog_1_method_12_code 32 = .ok (.getfield 44, 3) := by decide +kernel
theorem d_Cs_draw_35 : decode prog_1_method_12_code 35 = .ok (.getfield 161, 3) := by decide +kernel
theorem d_Cs_draw_38 : decode prog_1_method_12_code 38 = .ok (.if_icmp .lt 6, 3) := by decide +kernel
theorem d_Cs_draw_41 : decode prog_1_method_12_code 41 = .ok (.bipush (-4), 2) := by decide +kernel
theorem d_Cs_draw_43 : decode prog_1_method_12_code 43 = .ok (.ireturn, 1) := by decide +kernel
theorem d_Cs_draw_44 : decode prog_1_method_12_code 44 = .ok (.aload_n 0, 1) := by decide +kernel
theorem d_Cs_draw_45 : decode prog_1_method_12_code 45 = .ok (.getfield 56, 3) := by decide +kernel
theorem d_Cs_draw_48 : decode prog_1_method_12_code 48 = .ok (.invokevirtual 198, 3) := by decide +kernel
theorem d_Cs_draw_51 : decode prog_1_method_12_code 51 = .ok (.istore_n 1, 1) := by decide +kernel
theorem d_Cs_draw_52 : decode prog_1_method_12_code 52 = .ok (.aload_n 0, 1) := by decide +kernel
theorem d_Cs_draw_53 : decode prog_1_method_12_code 53 = .ok (.getfield 56, 3) := by decide +kernel
theorem d_Cs_draw_56 : decode prog_1_method_12_code 56 = .ok (.iload_n 1, 1) := by decide +kernel
theorem d_Cs_draw_57 : decode prog_1_method_12_code 57 = .ok (.invokevirtual 201, 3) := by decide +kernel
theorem d_Cs_draw_60 : decode prog_1_method_12_code 60 = .ok (.iload_n 1, 1) := by decide +kernel
theorem d_Cs_draw_61 : decode prog_1_method_12_code 61 = .ok (.ireturn, 1) := by decide +kernel
theorem d_Cs_clear_0 : decode prog_1_method_13_code 0 = .ok (.aload_n 0, 1) := by decide +kernel
theorem d_Cs_clear_1 : decode prog_1_method_13_code 1 = .ok (.getfield 56, 3) := by decide +kernel
theorem d_Cs_clear_4 : decode prog_1_method_13_code 4 = .ok (.getfield 154, 3) := by decide +kernel
theorem d_Cs_clear_7 : decode prog_1_method_13_code 7 = .ok (.istore_n 1, 1) := by decide +kernel
theorem d_Cs_clear_8 : decode prog_1_method_13_code 8 = .ok (.aload_n 0, 1) := by decide +kernel
theorem d_Cs_clear_9 : decode prog_1_method_13_code 9 = .ok (.getfield 56, 3) := by decide +kernel
theorem d_Cs_clear_12 : decode prog_1_method_13_code 12 = .ok (.invokevirtual 119, 3) := by decide +kernel
theorem d_Cs_clear_15 : decode prog_1_method_13_code 15 = .ok (.iload_n 1, 1) := by decide +kernel
theorem d_Cs_clear_16 : decode prog_1_method_13_code 16 = .ok (.ireturn, 1) := by decide +kernel
theorem d_Cs_find_0 : decode prog_1_method_14_code 0 = .ok (.aload_n 0, 1) := by decide +kernel
theorem d_Cs_find_1 : decode prog_1_method_14_code 1 = .ok (.getfield 19, 3) := by decide +kernel
theorem d_Cs_find_4 : decode prog_1_method_14_code 4 = .ok (.iload_n 1, 1) := by decide +kernel
theorem d_Cs_find_5 : decode prog_1_method_14_code 5 = .ok (.iload_n 2, 1) := by decide +kernel
theorem d_Cs_find_6 : decode prog_1_method_14_code 6 = .ok (.invokevirtual 150, 3) := by decide +kernel
theorem d_Cs_find_9 : decode prog_1_method_14_code 9 = .ok (.ireturn, 1) := by decide +kernel
theorem d_Cs_item_0 : decode prog_1_method_15_code 0 = .ok (.aload_n 0, 1) := by decide +kernel
theorem d_Cs_item_1 : decode prog_1_method_15_code 1 = .ok (.getfield 19, 3) := by decide +kernel
theorem d_Cs_item_4 : decode prog_1_method_15_code 4 = .ok (.iload_n 1, 1) := by decide +kernel
theorem d_Cs_item_5 : decode prog_1_method_15_code 5 = .ok (.invokevirtual 164, 3) := by decide +kernel
theorem d_Cs_item_8 : decode prog_1_method_15_code 8 = .ok (.ifCond .ne 6, 3) := by decide +kernel
theorem d_Cs_item_11 : decode prog_1_method_15_code 11 = .ok (.ldc 167, 2) := by decide +kernel
theorem d_Cs_item_13 : decode prog_1_method_15_code 13 = .ok (.ireturn, 1) := by decide +kernel
theorem d_Cs_item_14 : decode prog_1_method_15_code 14 = .ok (.iload_n 2, 1) := by decide +kernel
theorem d_Cs_item_15 : decode prog_1_method_15_code 15 = .ok (.tableswitch 149 0 8 #[49, 59, 69, 79, 89, 98, 107, 124, 140], 49) := by decide +kernel
theorem d_Cs_item_64 : decode prog_1_method_15_code 64 = .ok (.aload_n 0, 1) := by decide +kernel
theorem d_Cs_item_65 : decode prog_1_method_15_code 65 = .ok (.getfield 19, 3) := by decide +kernel
theorem d_Cs_item_68 : decode prog_1_method_15_code 68 = .ok (.getfield 204, 3) := by decide +kernel
theorem d_Cs_item_71 : decode prog_1_method_15_code 71 = .ok (.iload_n 1, 1) := by decide +kernel
theorem d_Cs_item_72 : decode prog_1_method_15_code 72 = .ok (.iaload, 1) := by decide +kernel
theorem d_Cs_item_73 : decode prog_1_method_15_code 73 = .ok (.ireturn, 1) := by decide +kernel
theorem d_Cs_item_74 : decode prog_1_method_15_code 74 = .ok (.aload_n 0, 1) := by decide +kernel
theorem d_Cs_item_75 : decode prog_1_method_15_code 75 = .ok (.getfield 19, 3) := by decide +kernel
theorem d_Cs_item_78 : decode prog_1_method_15_code 78 = .ok (.getfield 207, 3) := by decide +kernel
theorem d_Cs_item_81 : decode prog_1_method_15_code 81 = .ok (.iload_n 1, 1) := by decide +kernel
theorem d_Cs_item_82 : decode prog_1_method_15_code 82 = .ok (.iaload, 1) := by decide +kernel
theorem d_Cs_item_83 : decode prog_1_method_15_code 83 = .ok (.ireturn, 1) := by decide +kernel
theorem d_Cs_item_84 : decode prog_1_method_15_code 84 = .ok (.aload_n 0, 1) := by decide +kernel
theorem d_Cs_item_85 : decode prog_1_method_15_code 85 = .ok (.getfield 19, 3) := by decide +kernel
theorem d_Cs_item_88 : decode prog_1_method_15_code 88 = .ok (.getfield 168, 3) := by decide +kernel
theorem d_Cs_item_91 : decode prog_1_method_15_code 91 = .ok (.iload_n 1, 1) := by decide +kernel
theorem d_Cs_item_92 : decode prog_1_method_15_code 92 = .ok (.iaload, 1) := by decide +kernel
theorem d_Cs_item_93 : decode prog_1_method_15_code 93 = .ok (.ireturn, 1) := by decide +kernel
theorem d_Cs_item_94 : decode prog_1_method_15_code 94 = .ok (.aload_n 0, 1) := by decide +kernel
theorem d_Cs_item_95 : decode prog_1_method_15_code 95 = .ok (.getfield 19, 3) := by decide +kernel
theorem d_Cs_item_98 : decode prog_1_method_15_code 98 = .ok (.getfield 172, 3) := by decide +kernel
theorem d_Cs_item_101 : decode prog_1_method_15_code 101 = .ok (.iload_n 1, 1) := by decide +kernel
theorem d_Cs_item_102 : decode prog_1_method_15_code 102 = .ok (.iaload, 1) := by decide +kernel
theorem d_Cs_item_103 : decode prog_1_method_15_code 103 = .ok (.ireturn, 1) := by decide +kernel
theorem d_Cs_item_104 : decode prog_1_method_15_code 104 = .ok (.aload_n 0, 1) := by decide +kernel
theorem d_Cs_item_105 : decode prog_1_method_15_code 105 = .ok (.getfield 19, 3) := by decide +kernel
theorem d_Cs_item_108 : decode prog_1_method_15_code 108 = .ok (.iload_n 1, 1) := by decide +kernel
theorem d_Cs_item_109 : decode prog_1_method_15_code 109 = .ok (.invokevirtual 210, 3) := by decide +kernel
theorem d_Cs_item_112 : decode prog_1_method_15_code 112 = .ok (.ireturn, 1) := by decide +kernel
theorem d_Cs_item_113 : decode prog_1_method_15_code 113 = .ok (.aload_n 0, 1) := by decide +kernel
theorem d_Cs_item_114 : decode prog_1_method_15_code 114 = .ok (.getfield 19, 3) := by decide +kernel
theorem d_Cs_item_117 : decode prog_1_method_15_code 117 = .ok (.iload_n 1, 1) := by decide +kernel
theorem d_Cs_item_118 : decode prog_1_method_15_code 118 = .ok (.invokevirtual 213, 3) := by decide +kernel
theorem d_Cs_item_121 : decode prog_1_method_15_code 121 = .ok (.ireturn, 1) := by decide +kernel
theorem d_Cs_item_122 : decode prog_1_method_15_code 122 = .ok (.aload_n 0, 1) := by decide +kernel
theorem d_Cs_item_123 : decode prog_1_method_15_code 123 = .ok (.getfield 44, 3) := by decide +kernel
theorem d_Cs_item_126 : decode prog_1_method_15_code 126 = .ok (.iload_n 1, 1) := by decide +kernel
theorem d_Cs_item_127 : decode prog_1_method_15_code 127 = .ok (.invokevirtual 216, 3) := by decide +kernel
theorem d_Cs_item_130 : decode prog_1_method_15_code 130 = .ok (.ifCond .eq 7, 3) := by decide +kernel
theorem d_Cs_item_133 : decode prog_1_method_15_code 133 = .ok (.iconst 1, 1) := by decide +kernel
theorem d_Cs_item_134 : decode prog_1_method_15_code 134 = .ok (.goto 4, 3) := by decide +kernel
theorem d_Cs_item_137 : decode prog_1_method_15_code 137 = .ok (.iconst 0, 1) := by decide +kernel
theorem d_Cs_item_138 : decode prog_1_method_15_code 138 = .ok (.ireturn, 1) := by decide +kernel
theorem d_Cs_item_139 : decode prog_1_method_15_code 139 = .ok (.aload_n 0, 1) := by decide +kernel
theorem d_Cs_item_140 : decode prog_1_method_15_code 140 = .ok (.getfield 56, 3) := by decide +kernel
theorem d_Cs_item_143 : decode prog_1_method_15_code 143 = .ok (.iload_n 1, 1) := by decide +kernel
theorem d_Cs_item_144 : decode prog_1_method_15_code 144 = .ok (.aload_n 0, 1) := by decide +kernel
theorem d_Cs_item_145 : decode prog_1_method_15_code 145 = .ok (.getfield 56, 3) := by decide +kernel
theorem d_Cs_item_148 : decode prog_1_method_15_code 148 = .ok (.getfield 154, 3) := by decide +kernel
theorem d_Cs_item_151 : decode prog_1_method_15_code 151 = .ok (.invokevirtual 219, 3) := by decide +kernel
theorem d_Cs_item_154 : decode prog_1_method_15_code 154 = .ok (.ireturn, 1) := by decide +kernel
theorem d_Cs_item_155 : decode prog_1_method_15_code 155 = .ok (.aload_n 0, 1) := by decide +kernel
theorem d_Cs_item_156 : decode prog_1_method_15_code 156 = .ok (.getfield 44, 3) := by decide +kernel
theorem d_Cs_item_159 : decode prog_1_method_15_code 159 = .ok (.iload_n 1, 1) := by decide +kernel
theorem d_Cs_item_160 : decode prog_1_method_15_code 160 = .ok (.invokevirtual 222, 3) := by decide +kernel
theorem d_Cs_item_163 : decode prog_1_method_15_code 163 = .ok (.ireturn, 1) := by decide +kernel
theorem d_Cs_item_164 : decode prog_1_method_15_code 164 = .ok (.ldc 167, 2) := by decide +kernel
theorem d_Cs_item_166 : decode prog_1_method_15_code 166 = .ok (.ireturn, 1) := by decide +kernel
theorem d_Cs_coin_0 : decode prog_1_method_16_code 0 = .ok (.aload_n 0, 1) := by decide +kernel
theorem d_Cs_coin_1 : decode prog_1_method_16_code 1 = .ok (.getfield 44, 3) := by decide +kernel
theorem d_Cs_coin_4 : decode prog_1_method_16_code 4 = .ok (.iload_n 1, 1) := by decide +kernel
theorem d_Cs_coin_5 : decode prog_1_method_16_code 5 = .ok (.invokevirtual 225, 3) := by decide +kernel
theorem d_Cs_coin_8 : decode prog_1_method_16_code 8 = .ok (.istore_n 3, 1) := by decide +kernel
theorem d_Cs_coin_9 : decode prog_1_method_16_code 9 = .ok (.iload_n 3, 1) := by decide +kernel
theorem d_Cs_coin_10 : decode prog_1_method_16_code 10 = .ok (.iconst (-1), 1) := by decide +kernel
theorem d_Cs_coin_11 : decode prog_1_method_16_code 11 = .ok (.if_icmp .eq 12, 3) := by decide +kernel
theorem d_Cs_coin_14 : decode prog_1_method_16_code 14 = .ok (.iload_n 2, 1) := by decide +kernel
theorem d_Cs_coin_15 : decode prog_1_method_16_code 15 = .ok (.ifCond .lt 8, 3) := by decide +kernel
theorem d_Cs_coin_18 : decode prog_1_method_16_code 18 = .ok (.iload_n 2, 1) := by decide +kernel
theorem d_Cs_coin_19 : decode prog_1_method_16_code 19 = .ok (.iconst 2, 1) := by decide +kernel
theorem d_Cs_coin_20 : decode prog_1_method_16_code 20 = .ok (.if_icmp .le 6, 3) := by decide +kernel
theorem d_Cs_coin_23 : decode prog_1_method_16_code 23 = .ok (.bipush (-2), 2) := by decide +kernel
theorem d_Cs_coin_25 : decode prog_1_method_16_code 25 = .ok (.ireturn, 1) := by decide +kernel
theorem d_Cs_coin_26 : decode prog_1_method_16_code 26 = .ok (.aload_n 0, 1) := by decide +kernel
theorem d_Cs_coin_27 : decode prog_1_method_16_code 27 = .ok (.getfield 44, 3) := by decide +kernel
theorem d_Cs_coin_30 : decode prog_1_method_16_code 30 = .ok (.getfield 161, 3) := by decide +kernel
theorem d_Cs_coin_33 : decode prog_1_method_16_code 33 = .ok (.ifCond .ne 6, 3) := by decide +kernel
theorem d_Cs_coin_36 : decode prog_1_method_16_code 36 = .ok (.bipush (-5), 2) := by decide +kernel
theorem d_Cs_coin_38 : decode prog_1_method_16_code 38 = .ok (.ireturn, 1) := by decide +kernel
theorem d_Cs_coin_39 : decode prog_1_method_16_code 39 = .ok (.iload_n 2, 1) := by decide +kernel
theorem d_Cs_coin_40 : decode prog_1_method_16_code 40 = .ok (.lookupswitch 42 #[(0, 28), (1, 30)], 28) := by decide +kernel
theorem d_Cs_coin_68 : decode prog_1_method_16_code 68 = .ok (.iload_n 3, 1) := by decide +kernel
theorem d_Cs_coin_69 : decode prog_1_method_16_code 69 = .ok (.ireturn, 1) := by decide +kernel
theorem d_Cs_coin_70 : decode prog_1_method_16_code 70 = .ok (.iload_n 1, 1) := by decide +kernel
theorem d_Cs_coin_71 : decode prog_1_method_16_code 71 = .ok (.iconst 1, 1) := by decide +kernel
theorem d_Cs_coin_72 : decode prog_1_method_16_code 72 = .ok (.isub, 1) := by decide +kernel
theorem d_Cs_coin_73 : decode prog_1_method_16_code 73 = .ok (.aload_n 0, 1) := by decide +kernel
theorem d_Cs_coin_74 : decode prog_1_method_16_code 74 = .ok (.getfield 44, 3) := by decide +kernel
theorem d_Cs_coin_77 : decode prog_1_method_16_code 77 = .ok (.getfield 161, 3) := by decide +kernel
theorem d_Cs_coin_80 : decode prog_1_method_16_code 80 = .ok (.idiv, 1) := by decide +kernel
theorem d_Cs_coin_81 : decode prog_1_method_16_code 81 = .ok (.ireturn, 1) := by decide +kernel
theorem d_Cs_coin_82 : decode prog_1_method_16_code 82 = .ok (.aload_n 0, 1) := by decide +kernel
theorem d_Cs_coin_83 : decode prog_1_method_16_code 83 = .ok (.getfield 56, 3) := by decide +kernel
theorem d_Cs_coin_86 : decode prog_1_method_16_code 86 = .ok (.iload_n 1, 1) := by decide +kernel
theorem d_Cs_coin_87 : decode prog_1_method_16_code 87 = .ok (.invokevirtual 228, 3) := by decide +kernel
theorem d_Cs_coin_90 : decode prog_1_method_16_code 90 = .ok (.ireturn, 1) := by decide +kernel
theorem d_Cs_hit_0 : decode prog_1_method_17_code 0 = .ok (.aload_n 0, 1) := by decide +kernel
theorem d_Cs_hit_1 : decode prog_1_method_17_code 1 = .ok (.getfield 56, 3) := by decide +kernel
theorem d_Cs_hit_4 : decode prog_1_method_17_code 4 = .ok (.iload_n 1, 1) := by decide +kernel
theorem d_Cs_hit_5 : decode prog_1_method_17_code 5 = .ok (.invokevirtual 231, 3) := by decide +kernel
theorem d_Cs_hit_8 : decode prog_1_method_17_code 8 = .ok (.ifCond .ne 6, 3) := by decide +kernel
theorem d_Cs_hit_11 : decode prog_1_method_17_code 11 = .ok (.bipush (-2), 2) := by decide +kernel
theorem d_Cs_hit_13 : decode prog_1_method_17_code 13 = .ok (.ireturn, 1) := by decide +kernel
theorem d_Cs_hit_14 : decode prog_1_method_17_code 14 = .ok (.iload_n 2, 1) := by decide +kernel
theorem d_Cs_hit_15 : decode prog_1_method_17_code 15 = .ok (.tableswitch 80 0 3 #[29, 39, 49, 59], 29) := by decide +kernel
theorem d_Cs_hit_44 : decode prog_1_method_17_code 44 = .ok (.aload_n 0, 1) := by decide +kernel
theorem d_Cs_hit_45 : decode prog_1_method_17_code 45 = .ok (.getfield 56, 3) := by decide +kernel
theorem d_Cs_hit_48 : decode prog_1_method_17_code 48 = .ok (.getfield 234, 3) := by decide +kernel
theorem d_Cs_hit_51 : decode prog_1_method_17_code 51 = .ok (.iload_n 1, 1) := by decide +kernel
theorem d_Cs_hit_52 : decode prog_1_method_17_code 52 = .ok (.iaload, 1) := by decide +kernel
theorem d_Cs_hit_53 : decode prog_1_method_17_code 53 = .ok (.ireturn, 1) := by decide +kernel
theorem d_Cs_hit_54 : decode prog_1_method_17_code 54 = .ok (.aload_n 0, 1) := by decide +kernel
theorem d_Cs_hit_55 : decode prog_1_method_17_code 55 = .ok (.getfield 56, 3) := by decide +kernel
theorem d_Cs_hit_58 : decode prog_1_method_17_code 58 = .ok (.getfield 237, 3) := by decide +kernel
theorem d_Cs_hit_61 : decode prog_1_method_17_code 61 = .ok (.iload_n 1, 1) := by decide +kernel
theorem d_Cs_hit_62 : decode prog_1_method_17_code 62 = .ok (.iaload, 1) := by decide +kernel
theorem d_Cs_hit_63 : decode prog_1_method_17_code 63 = .ok (.ireturn, 1) := by decide +kernel
theorem d_Cs_hit_64 : decode prog_1_method_17_code 64 = .ok (.aload_n 0, 1) := by decide +kernel
theorem d_Cs_hit_65 : decode prog_1_method_17_code 65 = .ok (.getfield 56, 3) := by decide +kernel
theorem d_Cs_hit_68 : decode prog_1_method_17_code 68 = .ok (.getfield 240, 3) := by decide +kernel
theorem d_Cs_hit_71 : decode prog_1_method_17_code 71 = .ok (.iload_n 1, 1) := by decide +kernel
theorem d_Cs_hit_72 : decode prog_1_method_17_code 72 = .ok (.iaload, 1) := by decide +kernel
theorem d_Cs_hit_73 : decode prog_1_method_17_code 73 = .ok (.ireturn, 1) := by decide +kernel
theorem d_Cs_hit_74 : decode prog_1_method_17_code 74 = .ok (.aload_n 0, 1) := by decide +kernel
theorem d_Cs_hit_75 : decode prog_1_method_17_code 75 = .ok (.getfield 19, 3) := by decide +kernel
theorem d_Cs_hit_78 : decode prog_1_method_17_code 78 = .ok (.aload_n 0, 1) := by decide +kernel
theorem d_Cs_hit_79 : decode prog_1_method_17_code 79 = .ok (.getfield 56, 3) := by decide +kernel
theorem d_Cs_hit_82 : decode prog_1_method_17_code 82 = .ok (.getfield 234, 3) := by decide +kernel
theorem d_Cs_hit_85 : decode prog_1_method_17_code 85 = .ok (.iload_n 1, 1) := by decide +kernel
theorem d_Cs_hit_86 : decode prog_1_method_17_code 86 = .ok (.iaload, 1) := by decide +kernel
theorem d_Cs_hit_87 : decode prog_1_method_17_code 87 = .ok (.invokevirtual 213, 3) := by decide +kernel
theorem d_Cs_hit_90 : decode prog_1_method_17_code 90 = .ok (.sipush 10000, 3) := by decide +kernel
theorem d_Cs_hit_93 : decode prog_1_method_17_code 93 = .ok (.iadd, 1) := by decide +kernel
theorem d_Cs_hit_94 : decode prog_1_method_17_code 94 = .ok (.ireturn, 1) := by decide +kernel
theorem d_Cs_hit_95 : decode prog_1_method_17_code 95 = .ok (.bipush (-2), 2) := by decide +kernel
theorem d_Cs_hit_97 : decode prog_1_method_17_code 97 = .ok (.ireturn, 1) := by decide +kernel
theorem d_Cs_start_0 : decode prog_1_method_18_code 0 = .ok (.aload_n 0, 1) := by decide +kernel
theorem d_Cs_start_1 : decode prog_1_method_18_code 1 = .ok (.getfield 56, 3) := by decide +kernel
theorem d_Cs_start_4 : decode prog_1_method_18_code 4 = .ok (.iload_n 1, 1) := by decide +kernel
theorem d_Cs_start_5 : decode prog_1_method_18_code 5 = .ok (.invokevirtual 243, 3) := by decide +kernel
theorem d_Cs_start_8 : decode prog_1_method_18_code 8 = .ok (.ifCond .eq 15, 3) := by decide +kernel
theorem d_Cs_start_11 : decode prog_1_method_18_code 11 = .ok (.aload_n 0, 1) := by decide +kernel
theorem d_Cs_start_12 : decode prog_1_method_18_code 12 = .ok (.getfield 56, 3) := by decide +kernel
theorem d_Cs_start_15 : decode prog_1_method_18_code 15 = .ok (.getfield 246, 3) := by decide +kernel
theorem d_Cs_start_18 : decode prog_1_method_18_code 18 = .ok (.iload_n 1, 1) := by decide +kernel
theorem d_Cs_start_19 : decode prog_1_method_18_code 19 = .ok (.iaload, 1) := by decide +kernel
theorem d_Cs_start_20 : decode prog_1_method_18_code 20 = .ok (.goto 5, 3) := by decide +kernel
theorem d_Cs_start_23 : decode prog_1_method_18_code 23 = .ok (.bipush (-2), 2) := by decide +kernel
theorem d_Cs_start_25 : decode prog_1_method_18_code 25 = .ok (.ireturn, 1) := by decide +kernel
theorem d_Cs_certain_0 : decode prog_1_method_19_code 0 = .ok (.aload_n 0, 1) := by decide +kernel
theorem d_Cs_certain_1 : decode prog_1_method_19_code 1 = .ok (.iconst 0, 1) := by decide +kernel
theorem d_Cs_certain_2 : decode prog_1_method_19_code 2 = .ok (.iload_n 1, 1) := by decide +kernel
theorem d_Cs_certain_3 : decode prog_1_method_19_code 3 = .ok (.invokevirtual 248, 3) := by decide +kernel
theorem d_Cs_certain_6 : decode prog_1_method_19_code 6 = .ok (.ireturn, 1) := by decide +kernel
theorem d_Cs_lacking_0 : decode prog_1_method_20_code 0 = .ok (.aload_n 0, 1) := by decide +kernel
theorem d_Cs_lacking_1 : decode prog_1_method_20_code 1 = .ok (.iconst 1, 1) := by decide +kernel
theorem d_Cs_lacking_2 : decode prog_1_method_20_code 2 = .ok (.iload_n 1, 1) := by decide +kernel
theorem d_Cs_lacking_3 : decode prog_1_method_20_code 3 = .ok (.invokevirtual 248, 3) := by decide +kernel
theorem d_Cs_lacking_6 : decode prog_1_method_20_code 6 = .ok (.ireturn, 1) := by decide +kernel
theorem d_Cs_account_0 : decode prog_1_method_21_code 0 = .ok (.iload_n 1, 1) := by decide +kernel
theorem d_Cs_account_1 : decode prog_1_method_21_code 1 = .ok (.ifCond .lt 18, 3) := by decide +kernel
theorem d_Cs_account_4 : decode prog_1_method_21_code 4 = .ok (.iload_n 1, 1) := by decide +kernel
theorem d_Cs_account_5 : decode prog_1_method_21_code 5 = .ok (.bipush 99, 2) := by decide +kernel
theorem d_Cs_account_7 : decode prog_1_method_21_code 7 = .ok (.if_icmp .gt 12, 3) := by decide +kernel
theorem d_Cs_account_10 : decode prog_1_method_21_code 10 = .ok (.iload_n 2, 1) := by decide +kernel
theorem d_Cs_account_11 : decode prog_1_method_21_code 11 = .ok (.ifCond .lt 8, 3) := by decide +kernel
theorem d_Cs_account_14 : decode prog_1_method_21_code 14 = .ok (.iload_n 2, 1) := by decide +kernel
theorem d_Cs_account_15 : decode prog_1_method_21_code 15 = .ok (.iconst 5, 1) := by decide +kernel
theorem d_Cs_account_16 : decode prog_1_method_21_code 16 = .ok (.if_icmp .le 6, 3) := by decide +kernel
theorem d_Cs_account_19 : decode prog_1_method_21_code 19 = .ok (.ldc 167, 2) := by decide +kernel
theorem d_Cs_account_21 : decode prog_1_method_21_code 21 = .ok (.ireturn, 1) := by decide +kernel
theorem d_Cs_account_22 : decode prog_1_method_21_code 22 = .ok (.iload_n 2, 1) := by decide +kernel
theorem d_Cs_account_23 : decode prog_1_method_21_code 23 = .ok (.iconst 5, 1) := by decide +kernel
theorem d_Cs_account_24 : decode prog_1_method_21_code 24 = .ok (.if_icmp .ne 10, 3) := by decide +kernel
theorem d_Cs_account_27 : decode prog_1_method_21_code 27 = .ok (.aload_n 0, 1) := by decide +kernel
theorem d_Cs_account_28 : decode prog_1_method_21_code 28 = .ok (.getfield 72, 3) := by decide +kernel
theorem d_Cs_account_31 : decode prog_1_method_21_code 31 = .ok (.invokevirtual 251, 3) := by decide +kernel
theorem d_Cs_account_34 : decode prog_1_method_21_code 34 = .ok (.iconst 0, 1) := by decide +kernel
theorem d_Cs_account_35 : decode prog_1_method_21_code 35 = .ok (.istore_n 3, 1) := by decide +kernel
theorem d_Cs_account_36 : decode prog_1_method_21_code 36 = .ok (.iconst 0, 1) := by decide +kernel
theorem d_Cs_account_37 : decode prog_1_method_21_code 37 = .ok (.istore 4, 2) := by decide +kernel
theorem d_Cs_account_39 : decode prog_1_method_21_code 39 = .ok (.iload 4, 2) := by decide +kernel
theorem d_Cs_account_41 : decode prog_1_method_21_code 41 = .ok (.aload_n 0, 1) := by decide +kernel
theorem d_Cs_account_42 : decode prog_1_method_21_code 42 = .ok (.getfield 19, 3) := by decide +kernel
theorem d_Cs_account_45 : decode prog_1_method_21_code 45 = .ok (.getfield 125, 3) := by decide +kernel
theorem d_Cs_account_48 : decode prog_1_method_21_code 48 = .ok (.if_icmp .ge 33, 3) := by decide +kernel
theorem d_Cs_account_51 : decode prog_1_method_21_code 51 = .ok (.aload_n 0, 1) := by decide +kernel
theorem d_Cs_account_52 : decode prog_1_method_21_code 52 = .ok (.getfield 19, 3) := by decide +kernel
theorem d_Cs_account_55 : decode prog_1_method_21_code 55 = .ok (.getfield 204, 3) := by decide +kernel
theorem d_Cs_account_58 : decode prog_1_method_21_code 58 = .ok (.iload 4, 2) := by decide +kernel
theorem d_Cs_account_60 : decode prog_1_method_21_code 60 = .ok (.iaload, 1) := by decide +kernel
theorem d_Cs_account_61 : decode prog_1_method_21_code 61 = .ok (.iload_n 1, 1) := by decide +kernel
theorem d_Cs_account_62 : decode prog_1_method_21_code 62 = .ok (.if_icmp .ne 13, 3) := by decide +kernel
theorem d_Cs_account_65 : decode prog_1_method_21_code 65 = .ok (.iload_n 3, 1) := by decide +kernel
theorem d_Cs_account_66 : decode prog_1_method_21_code 66 = .ok (.aload_n 0, 1) := by decide +kernel
theorem d_Cs_account_67 : decode prog_1_method_21_code 67 = .ok (.iload 4, 2) := by decide +kernel
theorem d_Cs_account_69 : decode prog_1_method_21_code 69 = .ok (.iload_n 2, 1) := by decide +kernel
theorem d_Cs_account_70 : decode prog_1_method_21_code 70 = .ok (.invokevirtual 254, 3) := by decide +kernel
theorem d_Cs_account_73 : decode prog_1_method_21_code 73 = .ok (.iadd, 1) := by decide +kernel
theorem d_Cs_account_74 : decode prog_1_method_21_code 74 = .ok (.istore_n 3, 1) := by decide +kernel
theorem d_Cs_account_75 : decode prog_1_method_21_code 75 = .ok (.iinc 4 1, 3) := by decide +kernel
theorem d_Cs_account_78 : decode prog_1_method_21_code 78 = .ok (.goto (-39), 3) := by decide +kernel
theorem d_Cs_account_81 : decode prog_1_method_21_code 81 = .ok (.iload_n 3, 1) := by decide +kernel
theorem d_Cs_account_82 : decode prog_1_method_21_code 82 = .ok (.ireturn, 1) := by decide +kernel
theorem d_Cs_accounts_0 : decode prog_1_method_22_code 0 = .ok (.iload_n 1, 1) := by decide +kernel
theorem d_Cs_accounts_1 : decode prog_1_method_22_code 1 = .ok (.iconst (-1), 1) := by decide +kernel
theorem d_Cs_accounts_2 : decode prog_1_method_22_code 2 = .ok (.if_icmp .ge 6, 3) := by decide +kernel
theorem d_Cs_accounts_5 : decode prog_1_method_22_code 5 = .ok (.bipush (-3), 2) := by decide +kernel
theorem d_Cs_accounts_7 : decode prog_1_method_22_code 7 = .ok (.ireturn, 1) := by decide +kernel
theorem d_Cs_accounts_8 : decode prog_1_method_22_code 8 = .ok (.iconst 0, 1) := by decide +kernel
theorem d_Cs_accounts_9 : decode prog_1_method_22_code 9 = .ok (.istore_n 2, 1) := by decide +kernel
theorem d_Cs_accounts_10 : decode prog_1_method_22_code 10 = .ok (.iconst 0, 1) := by decide +kernel
theorem d_Cs_accounts_11 : decode prog_1_method_22_code 11 = .ok (.istore_n 3, 1) := by decide +kernel
theorem d_Cs_accounts_12 : decode prog_1_method_22_code 12 = .ok (.iload_n 3, 1) := by decide +kernel
theorem d_Cs_accounts_13 : decode prog_1_method_22_code 13 = .ok (.aload_n 0, 1) := by decide +kernel
theorem d_Cs_accounts_14 : decode prog_1_method_22_code 14 = .ok (.getfield 19, 3) := by decide +kernel
theorem d_Cs_accounts_17 : decode prog_1_method_22_code 17 = .ok (.getfield 125, 3) := by decide +kernel
theorem d_Cs_accounts_20 : decode prog_1_method_22_code 20 = .ok (.if_icmp .ge 38, 3) := by decide +kernel
theorem d_Cs_accounts_23 : decode prog_1_method_22_code 23 = .ok (.aload_n 0, 1) := by decide +kernel
theorem d_Cs_accounts_24 : decode prog_1_method_22_code 24 = .ok (.getfield 19, 3) := by decide +kernel
theorem d_Cs_accounts_27 : decode prog_1_method_22_code 27 = .ok (.iload_n 3, 1) := by decide +kernel
theorem d_Cs_accounts_28 : decode prog_1_method_22_code 28 = .ok (.invokevirtual 257, 3) := by decide +kernel
theorem d_Cs_accounts_31 : decode prog_1_method_22_code 31 = .ok (.ifCond .eq 21, 3) := by decide +kernel
theorem d_Cs_accounts_34 : decode prog_1_method_22_code 34 = .ok (.iload_n 2, 1) := by decide +kernel
theorem d_Cs_accounts_35 : decode prog_1_method_22_code 35 = .ok (.iload_n 1, 1) := by decide +kernel
theorem d_Cs_accounts_36 : decode prog_1_method_22_code 36 = .ok (.if_icmp .ne 13, 3) := by decide +kernel
theorem d_Cs_accounts_39 : decode prog_1_method_22_code 39 = .ok (.aload_n 0, 1) := by decide +kernel
theorem d_Cs_accounts_40 : decode prog_1_method_22_code 40 = .ok (.getfield 19, 3) := by decide +kernel
theorem d_Cs_accounts_43 : decode prog_1_method_22_code 43 = .ok (.getfield 204, 3) := by decide +kernel
theorem d_Cs_accounts_46 : decode prog_1_method_22_code 46 = .ok (.iload_n 3, 1) := by decide +kernel
theorem d_Cs_accounts_47 : decode prog_1_method_22_code 47 = .ok (.iaload, 1) := by decide +kernel
theorem d_Cs_accounts_48 : decode prog_1_method_22_code 48 = .ok (.ireturn, 1) := by decide +kernel
theorem d_Cs_accounts_49 : decode prog_1_method_22_code 49 = .ok (.iinc 2 1, 3) := by decide +kernel
theorem d_Cs_accounts_52 : decode prog_1_method_22_code 52 = .ok (.iinc 3 1, 3) := by decide +kernel
theorem d_Cs_accounts_55 : decode prog_1_method_22_code 55 = .ok (.goto (-43), 3) := by decide +kernel
theorem d_Cs_accounts_58 : decode prog_1_method_22_code 58 = .ok (.iload_n 1, 1) := by decide +kernel
theorem d_Cs_accounts_59 : decode prog_1_method_22_code 59 = .ok (.iconst (-1), 1) := by decide +kernel
theorem d_Cs_accounts_60 : decode prog_1_method_22_code 60 = .ok (.if_icmp .ne 7, 3) := by decide +kernel
theorem d_Cs_accounts_63 : decode prog_1_method_22_code 63 = .ok (.iload_n 2, 1) := by decide +kernel
theorem d_Cs_accounts_64 : decode prog_1_method_22_code 64 = .ok (.goto 4, 3) := by decide +kernel
theorem d_Cs_accounts_67 : decode prog_1_method_22_code 67 = .ok (.iconst (-1), 1) := by decide +kernel
theorem d_Cs_accounts_68 : decode prog_1_method_22_code 68 = .ok (.ireturn, 1) := by decide +kernel
theorem d_Cs_drawn_0 : decode prog_1_method_23_code 0 = .ok (.aload_n 0, 1) := by decide +kernel
theorem d_Cs_drawn_1 : decode prog_1_method_23_code 1 = .ok (.iconst 2, 1) := by decide +kernel
theorem d_Cs_drawn_2 : decode prog_1_method_23_code 2 = .ok (.iload_n 1, 1) := by decide +kernel
theorem d_Cs_drawn_3 : decode prog_1_method_23_code 3 = .ok (.invokevirtual 248, 3) := by decide +kernel
theorem d_Cs_drawn_6 : decode prog_1_method_23_code 6 = .ok (.ireturn, 1) := by decide +kernel
theorem d_Cs_line_0 : decode prog_1_method_24_code 0 = .ok (.iload_n 1, 1) := by decide +kernel
theorem d_Cs_line_1 : decode prog_1_method_24_code 1 = .ok (.ifCond .ge 7, 3) := by decide +kernel
theorem d_Cs_line_4 : decode prog_1_method_24_code 4 = .ok (.iconst (-1), 1) := by decide +kernel
theorem d_Cs_line_5 : decode prog_1_method_24_code 5 = .ok (.goto 9, 3) := by decide +kernel
theorem d_Cs_line_8 : decode prog_1_method_24_code 8 = .ok (.aload_n 0, 1) := by decide +kernel
theorem d_Cs_line_9 : decode prog_1_method_24_code 9 = .ok (.iconst 2, 1) := by decide +kernel
theorem d_Cs_line_10 : decode prog_1_method_24_code 10 = .ok (.iload_n 1, 1) := by decide +kernel
theorem d_Cs_line_11 : decode prog_1_method_24_code 11 = .ok (.invokevirtual 248, 3) := by decide +kernel
theorem d_Cs_line_14 : decode prog_1_method_24_code 14 = .ok (.istore_n 3, 1) := by decide +kernel
theorem d_Cs_line_15 : decode prog_1_method_24_code 15 = .ok (.iload_n 3, 1) := by decide +kernel
theorem d_Cs_line_16 : decode prog_1_method_24_code 16 = .ok (.iconst (-1), 1) := by decide +kernel
theorem d_Cs_line_17 : decode prog_1_method_24_code 17 = .ok (.if_icmp .ne 6, 3) := by decide +kernel
theorem d_Cs_line_20 : decode prog_1_method_24_code 20 = .ok (.bipush (-2), 2) := by decide +kernel
theorem d_Cs_line_22 : decode prog_1_method_24_code 22 = .ok (.ireturn, 1) := by decide +kernel
theorem d_Cs_line_23 : decode prog_1_method_24_code 23 = .ok (.iload_n 2, 1) := by decide +kernel
theorem d_Cs_line_24 : decode prog_1_method_24_code 24 = .ok (.ifCond .ge 6, 3) := by decide +kernel
theorem d_Cs_line_27 : decode prog_1_method_24_code 27 = .ok (.bipush (-3), 2) := by decide +kernel
theorem d_Cs_line_29 : decode prog_1_method_24_code 29 = .ok (.ireturn, 1) := by decide +kernel
theorem d_Cs_line_30 : decode prog_1_method_24_code 30 = .ok (.aload_n 0, 1) := by decide +kernel
theorem d_Cs_line_31 : decode prog_1_method_24_code 31 = .ok (.iload_n 3, 1) := by decide +kernel
theorem d_Cs_line_32 : decode prog_1_method_24_code 32 = .ok (.invokevirtual 260, 3) := by decide +kernel
theorem d_Cs_line_35 : decode prog_1_method_24_code 35 = .ok (.aload_n 0, 1) := by decide +kernel
theorem d_Cs_line_36 : decode prog_1_method_24_code 36 = .ok (.getfield 88, 3) := by decide +kernel
theorem d_Cs_line_39 : decode prog_1_method_24_code 39 = .ok (.iload_n 2, 1) := by decide +kernel
theorem d_Cs_line_40 : decode prog_1_method_24_code 40 = .ok (.invokevirtual 263, 3) := by decide +kernel
theorem d_Cs_line_43 : decode prog_1_method_24_code 43 = .ok (.ireturn, 1) := by decide +kernel
theorem d_Cs_projected_0 : decode prog_1_method_27_code 0 = .ok (.aload_n 0, 1) := by decide +kernel
theorem d_Cs_projected_1 : decode prog_1_method_27_code 1 = .ok (.getfield 56, 3) := by decide +kernel
theorem d_Cs_projected_4 : decode prog_1_method_27_code 4 = .ok (.getfield 154, 3) := by decide +kernel
theorem d_Cs_projected_7 : decode prog_1_method_27_code 7 = .ok (.ifCond .ne 6, 3) := by decide +kernel
theorem d_Cs_projected_10 : decode prog_1_method_27_code 10 = .ok (.ldc 167, 2) := by decide +kernel
theorem d_Cs_projected_12 : decode prog_1_method_27_code 12 = .ok (.ireturn, 1) := by decide +kernel
theorem d_Cs_projected_13 : decode prog_1_method_27_code 13 = .ok (.aload_n 0, 1) := by decide +kernel
theorem d_Cs_projected_14 : decode prog_1_method_27_code 14 = .ok (.getfield 72, 3) := by decide +kernel
theorem d_Cs_projected_17 : decode prog_1_method_27_code 17 = .ok (.invokevirtual 251, 3) := by decide +kernel
theorem d_Cs_projected_20 : decode prog_1_method_27_code 20 = .ok (.iload_n 1, 1) := by decide +kernel
theorem d_Cs_projected_21 : decode prog_1_method_27_code 21 = .ok (.tableswitch 107 0 4 #[35, 44, 53, 62, 71], 35) := by decide +kernel
theorem d_Cs_projected_56 : decode prog_1_method_27_code 56 = .ok (.aload_n 0, 1) := by decide +kernel
theorem d_Cs_projected_57 : decode prog_1_method_27_code 57 = .ok (.getfield 72, 3) := by decide +kernel
theorem d_Cs_projected_60 : decode prog_1_method_27_code 60 = .ok (.iconst 1, 1) := by decide +kernel
theorem d_Cs_projected_61 : decode prog_1_method_27_code 61 = .ok (.invokevirtual 273, 3) := by decide +kernel
theorem d_Cs_projected_64 : decode prog_1_method_27_code 64 = .ok (.ireturn, 1) := by decide +kernel
theorem d_Cs_projected_65 : decode prog_1_method_27_code 65 = .ok (.aload_n 0, 1) := by decide +kernel
theorem d_Cs_projected_66 : decode prog_1_method_27_code 66 = .ok (.getfield 72, 3) := by decide +kernel
theorem d_Cs_projected_69 : decode prog_1_method_27_code 69 = .ok (.iconst (-1), 1) := by decide +kernel
theorem d_Cs_projected_70 : decode prog_1_method_27_code 70 = .ok (.invokevirtual 273, 3) := by decide +kernel
theorem d_Cs_projected_73 : decode prog_1_method_27_code 73 = .ok (.ireturn, 1) := by decide +kernel
theorem d_Cs_projected_74 : decode prog_1_method_27_code 74 = .ok (.aload_n 0, 1) := by decide +kernel
theorem d_Cs_projected_75 : decode prog_1_method_27_code 75 = .ok (.getfield 72, 3) := by decide +kernel
theorem d_Cs_projected_78 : decode prog_1_method_27_code 78 = .ok (.iconst 1, 1) := by decide +kernel
theorem d_Cs_projected_79 : decode prog_1_method_27_code 79 = .ok (.invokevirtual 276, 3) := by decide +kernel
theorem d_Cs_projected_82 : decode prog_1_method_27_code 82 = .ok (.ireturn, 1) := by decide +kernel
theorem d_Cs_projected_83 : decode prog_1_method_27_code 83 = .ok (.aload_n 0, 1) := by decide +kernel
theorem d_Cs_projected_84 : decode prog_1_method_27_code 84 = .ok (.getfield 72, 3) := by decide +kernel
theorem d_Cs_projected_87 : decode prog_1_method_27_code 87 = .ok (.iconst (-1), 1) := by decide +kernel
theorem d_Cs_projected_88 : decode prog_1_method_27_code 88 = .ok (.invokevirtual 276, 3) := by decide +kernel
theorem d_Cs_projected_91 : decode prog_1_method_27_code 91 = .ok (.ireturn, 1) := by decide +kernel
theorem d_Cs_projected_92 : decode prog_1_method_27_code 92 = .ok (.aload_n 0, 1) := by decide +kernel
theorem d_Cs_projected_93 : decode prog_1_method_27_code 93 = .ok (.getfield 72, 3) := by decide +kernel
theorem d_Cs_projected_96 : decode prog_1_method_27_code 96 = .ok (.iconst 1, 1) := by decide +kernel
theorem d_Cs_projected_97 : decode prog_1_method_27_code 97 = .ok (.invokevirtual 273, 3) := by decide +kernel
theorem d_Cs_projected_100 : decode prog_1_method_27_code 100 = .ok (.aload_n 0, 1) := by decide +kernel
theorem d_Cs_projected_101 : decode prog_1_method_27_code 101 = .ok (.getfield 72, 3) := by decide +kernel
theorem d_Cs_projected_104 : decode prog_1_method_27_code 104 = .ok (.iconst 1, 1) := by decide +kernel
theorem d_Cs_projected_105 : decode prog_1_method_27_code 105 = .ok (.invokevirtual 276, 3) := by decide +kernel
theorem d_Cs_projected_108 : decode prog_1_method_27_code 108 = .ok (.iadd, 1) := by decide +kernel
theorem d_Cs_projected_109 : decode prog_1_method_27_code 109 = .ok (.aload_n 0, 1) := by decide +kernel
theorem d_Cs_projected_110 : decode prog_1_method_27_code 110 = .ok (.getfield 72, 3) := by decide +kernel
theorem d_Cs_projected_113 : decode prog_1_method_27_code 113 = .ok (.iconst (-1), 1) := by decide +kernel
theorem d_Cs_projected_114 : decode prog_1_method_27_code 114 = .ok (.invokevirtual 273, 3) := by decide +kernel
theorem d_Cs_projected_117 : decode prog_1_method_27_code 117 = .ok (.isub, 1) := by decide +kernel
theorem d_Cs_projected_118 : decode prog_1_method_27_code 118 = .ok (.aload_n 0, 1) := by decide +kernel
theorem d_Cs_projected_119 : decode prog_1_method_27_code 119 = .ok (.getfield 72, 3) := by decide +kernel
theorem d_Cs_projected_122 : decode prog_1_method_27_code 122 = .ok (.iconst (-1), 1) := by decide +kernel
theorem d_Cs_projected_123 : decode prog_1_method_27_code 123 = .ok (.invokevirtual 276, 3) := by decide +kernel
theorem d_Cs_projected_126 : decode prog_1_method_27_code 126 = .ok (.isub, 1) := by decide +kernel
theorem d_Cs_projected_127 : decode prog_1_method_27_code 127 = .ok (.ireturn, 1) := by decide +kernel
theorem d_Cs_projected_128 : decode prog_1_method_27_code 128 = .ok (.ldc 167, 2) := by decide +kernel
theorem d_Cs_projected_130 : decode prog_1_method_27_code 130 = .ok (.ireturn, 1) := by decide +kernel
theorem d_Cs_taint_0 : decode prog_1_method_28_code 0 = .ok (.aload_n 0, 1) := by decide +kernel
theorem d_Cs_taint_1 : decode prog_1_method_28_code 1 = .ok (.getfield 72, 3) := by decide +kernel
theorem d_Cs_taint_4 : decode prog_1_method_28_code 4 = .ok (.invokevirtual 251, 3) := by decide +kernel
theorem d_Cs_taint_7 : decode prog_1_method_28_code 7 = .ok (.aload_n 0, 1) := by decide +kernel
theorem d_Cs_taint_8 : decode prog_1_method_28_code 8 = .ok (.getfield 72, 3) := by decide +kernel
theorem d_Cs_taint_11 : decode prog_1_method_28_code 11 = .ok (.iconst 1, 1) := by decide +kernel
theorem d_Cs_taint_12 : decode prog_1_method_28_code 12 = .ok (.invokevirtual 279, 3) := by decide +kernel
theorem d_Cs_taint_15 : decode prog_1_method_28_code 15 = .ok (.aload_n 0, 1) := by decide +kernel
theorem d_Cs_taint_16 : decode prog_1_method_28_code 16 = .ok (.getfield 72, 3) := by decide +kernel
theorem d_Cs_taint_19 : decode prog_1_method_28_code 19 = .ok (.iload_n 1, 1) := by decide +kernel
theorem d_Cs_taint_20 : decode prog_1_method_28_code 20 = .ok (.invokevirtual 282, 3) := by decide +kernel
theorem d_Cs_taint_23 : decode prog_1_method_28_code 23 = .ok (.ifCond .ne 6, 3) := by decide +kernel
theorem d_Cs_taint_26 : decode prog_1_method_28_code 26 = .ok (.bipush (-2), 2) := by decide +kernel
theorem d_Cs_taint_28 : decode prog_1_method_28_code 28 = .ok (.ireturn, 1) := by decide +kernel
theorem d_Cs_taint_29 : decode prog_1_method_28_code 29 = .ok (.iload_n 2, 1) := by decide +kernel
theorem d_Cs_taint_30 : decode prog_1_method_28_code 30 = .ok (.tableswitch 55 0 2 #[26, 36, 46], 26) := by decide +kernel
theorem d_Cs_taint_56 : decode prog_1_method_28_code 56 = .ok (.aload_n 0, 1) := by decide +kernel
theorem d_Cs_taint_57 : decode prog_1_method_28_code 57 = .ok (.getfield 72, 3) := by decide +kernel
theorem d_Cs_taint_60 : decode prog_1_method_28_code 60 = .ok (.getfield 285, 3) := by decide +kernel
theorem d_Cs_taint_63 : decode prog_1_method_28_code 63 = .ok (.iload_n 1, 1) := by decide +kernel
theorem d_Cs_taint_64 : decode prog_1_method_28_code 64 = .ok (.iaload, 1) := by decide +kernel
theorem d_Cs_taint_65 : decode prog_1_method_28_code 65 = .ok (.ireturn, 1) := by decide +kernel
theorem d_Cs_taint_66 : decode prog_1_method_28_code 66 = .ok (.aload_n 0, 1) := by decide +kernel
theorem d_Cs_taint_67 : decode prog_1_method_28_code 67 = .ok (.getfield 72, 3) := by decide +kernel
theorem d_Cs_taint_70 : decode prog_1_method_28_code 70 = .ok (.getfield 288, 3) := by decide +kernel
theorem d_Cs_taint_73 : decode prog_1_method_28_code 73 = .ok (.iload_n 1, 1) := by decide +kernel
theorem d_Cs_taint_74 : decode prog_1_method_28_code 74 = .ok (.iaload, 1) := by decide +kernel
theorem d_Cs_taint_75 : decode prog_1_method_28_code 75 = .ok (.ireturn, 1) := by decide +kernel
theorem d_Cs_taint_76 : decode prog_1_method_28_code 76 = .ok (.aload_n 0, 1) := by decide +kernel
theorem d_Cs_taint_77 : decode prog_1_method_28_code 77 = .ok (.getfield 72, 3) := by decide +kernel
theorem d_Cs_taint_80 : decode prog_1_method_28_code 80 = .ok (.iload_n 1, 1) := by decide +kernel
theorem d_Cs_taint_81 : decode prog_1_method_28_code 81 = .ok (.invokevirtual 291, 3) := by decide +kernel
theorem d_Cs_taint_84 : decode prog_1_method_28_code 84 = .ok (.ireturn, 1) := by decide +kernel
theorem d_Cs_taint_85 : decode prog_1_method_28_code 85 = .ok (.bipush (-2), 2) := by decide +kernel
theorem d_Cs_taint_87 : decode prog_1_method_28_code 87 = .ok (.ireturn, 1) := by decide +kernel
theorem d_Cs_bound_0 : decode prog_1_method_29_code 0 = .ok (.iload_n 1, 1) := by decide +kernel
theorem d_Cs_bound_1 : decode prog_1_method_29_code 1 = .ok (.ifCond .lt 18, 3) := by decide +kernel
theorem d_Cs_bound_4 : decode prog_1_method_29_code 4 = .ok (.iload_n 1, 1) := by decide +kernel
theorem d_Cs_bound_5 : decode prog_1_method_29_code 5 = .ok (.iconst 4, 1) := by decide +kernel
theorem d_Cs_bound_6 : decode prog_1_method_29_code 6 = .ok (.if_icmp .gt 13, 3) := by decide +kernel
theorem d_Cs_bound_9 : decode prog_1_method_29_code 9 = .ok (.aload_n 0, 1) := by decide +kernel
theorem d_Cs_bound_10 : decode prog_1_method_29_code 10 = .ok (.getfield 56, 3) := by decide +kernel
theorem d_Cs_bound_13 : decode prog_1_method_29_code 13 = .ok (.getfield 154, 3) := by decide +kernel
theorem d_Cs_bound_16 : decode prog_1_method_29_code 16 = .ok (.ifCond .ne 6, 3) := by decide +kernel
theorem d_Cs_bound_19 : decode prog_1_method_29_code 19 = .ok (.ldc 167, 2) := by decide +kernel
theorem d_Cs_bound_21 : decode prog_1_method_29_code 21 = .ok (.ireturn, 1) := by decide +kernel
theorem d_Cs_bound_22 : decode prog_1_method_29_code 22 = .ok (.aload_n 0, 1) := by decide +kernel
theorem d_Cs_bound_23 : decode prog_1_method_29_code 23 = .ok (.getfield 72, 3) := by decide +kernel
theorem d_Cs_bound_26 : decode prog_1_method_29_code 26 = .ok (.invokevirtual 251, 3) := by decide +kernel
theorem d_Cs_bound_29 : decode prog_1_method_29_code 29 = .ok (.iload_n 1, 1) := by decide +kernel
theorem d_Cs_bound_30 : decode prog_1_method_29_code 30 = .ok (.iconst 4, 1) := by decide +kernel
theorem d_Cs_bound_31 : decode prog_1_method_29_code 31 = .ok (.if_icmp .ne 23, 3) := by decide +kernel
theorem d_Cs_bound_34 : decode prog_1_method_29_code 34 = .ok (.aload_n 0, 1) := by decide +kernel
theorem d_Cs_bound_35 : decode prog_1_method_29_code 35 = .ok (.getfield 35, 3) := by decide +kernel
theorem d_Cs_bound_38 : decode prog_1_method_29_code 38 = .ok (.iconst 0, 1) := by decide +kernel
theorem d_Cs_bound_39 : decode prog_1_method_29_code 39 = .ok (.invokevirtual 92, 3) := by decide +kernel
theorem d_Cs_bound_42 : decode prog_1_method_29_code 42 = .ok (.aload_n 0, 1) := by decide +kernel
theorem d_Cs_bound_43 : decode prog_1_method_29_code 43 = .ok (.getfield 72, 3) := by decide +kernel
theorem d_Cs_bound_46 : decode prog_1_method_29_code 46 = .ok (.iconst 1, 1) := by decide +kernel
theorem d_Cs_bound_47 : decode prog_1_method_29_code 47 = .ok (.invokevirtual 294, 3) := by decide +kernel
theorem d_Cs_bound_50 : decode prog_1_method_29_code 50 = .ok (.isub, 1) := by decide +kernel
theorem d_Cs_bound_51 : decode prog_1_method_29_code 51 = .ok (.goto 12, 3) := by decide +kernel
theorem d_Cs_bound_54 : decode prog_1_method_29_code 54 = .ok (.aload_n 0, 1) := by decide +kernel
theorem d_Cs_bound_55 : decode prog_1_method_29_code 55 = .ok (.getfield 72, 3) := by decide +kernel
theorem d_Cs_bound_58 : decode prog_1_method_29_code 58 = .ok (.iload_n 1, 1) := by decide +kernel
theorem d_Cs_bound_59 : decode prog_1_method_29_code 59 = .ok (.iconst 1, 1) := by decide +kernel
theorem d_Cs_bound_60 : decode prog_1_method_29_code 60 = .ok (.invokevirtual 297, 3) := by decide +kernel
theorem d_Cs_bound_63 : decode prog_1_method_29_code 63 = .ok (.ireturn, 1) := by decide +kernel
theorem d_Cs_below_0 : decode prog_1_method_30_code 0 = .ok (.iload_n 1, 1) := by decide +kernel
theorem d_Cs_below_1 : decode prog_1_method_30_code 1 = .ok (.ifCond .lt 18, 3) := by decide +kernel
theorem d_Cs_below_4 : decode prog_1_method_30_code 4 = .ok (.iload_n 1, 1) := by decide +kernel
theorem d_Cs_below_5 : decode prog_1_method_30_code 5 = .ok (.iconst 3, 1) := by decide +kernel
theorem d_Cs_below_6 : decode prog_1_method_30_code 6 = .ok (.if_icmp .gt 13, 3) := by decide +kernel
theorem d_Cs_below_9 : decode prog_1_method_30_code 9 = .ok (.aload_n 0, 1) := by decide +kernel
theorem d_Cs_below_10 : decode prog_1_method_30_code 10 = .ok (.getfield 56, 3) := by decide +kernel
theorem d_Cs_below_13 : decode prog_1_method_30_code 13 = .ok (.getfield 154, 3) := by decide +kernel
theorem d_Cs_below_16 : decode prog_1_method_30_code 16 = .ok (.ifCond .ne 6, 3) := by decide +kernel
theorem d_Cs_below_19 : decode prog_1_method_30_code 19 = .ok (.ldc 167, 2) := by decide +kernel
theorem d_Cs_below_21 : decode prog_1_method_30_code 21 = .ok (.ireturn, 1) := by decide +kernel
theorem d_Cs_below_22 : decode prog_1_method_30_code 22 = .ok (.aload_n 0, 1) := by decide +kernel
theorem d_Cs_below_23 : decode prog_1_method_30_code 23 = .ok (.getfield 72, 3) := by decide +kernel
theorem d_Cs_below_26 : decode prog_1_method_30_code 26 = .ok (.invokevirtual 251, 3) := by decide +kernel
theorem d_Cs_below_29 : decode prog_1_method_30_code 29 = .ok (.aload_n 0, 1) := by decide +kernel
theorem d_Cs_below_30 : decode prog_1_method_30_code 30 = .ok (.getfield 72, 3) := by decide +kernel
theorem d_Cs_below_33 : decode prog_1_method_30_code 33 = .ok (.iload_n 1, 1) := by decide +kernel
theorem d_Cs_below_34 : decode prog_1_method_30_code 34 = .ok (.iconst (-1), 1) := by decide +kernel
theorem d_Cs_below_35 : decode prog_1_method_30_code 35 = .ok (.invokevirtual 297, 3) := by decide +kernel
theorem d_Cs_below_38 : decode prog_1_method_30_code 38 = .ok (.ireturn, 1) := by decide +kernel
theorem d_Cs_judged_0 : decode prog_1_method_31_code 0 = .ok (.aload_n 0, 1) := by decide +kernel
theorem d_Cs_judged_1 : decode prog_1_method_31_code 1 = .ok (.getfield 56, 3) := by decide +kernel
theorem d_Cs_judged_4 : decode prog_1_method_31_code 4 = .ok (.getfield 154, 3) := by decide +kernel
theorem d_Cs_judged_7 : decode prog_1_method_31_code 7 = .ok (.ifCond .ne 5, 3) := by decide +kernel
theorem d_Cs_judged_10 : decode prog_1_method_31_code 10 = .ok (.iconst 0, 1) := by decide +kernel
theorem d_Cs_judged_11 : decode prog_1_method_31_code 11 = .ok (.ireturn, 1) := by decide +kernel
theorem d_Cs_judged_12 : decode prog_1_method_31_code 12 = .ok (.aload_n 0, 1) := by decide +kernel
theorem d_Cs_judged_13 : decode prog_1_method_31_code 13 = .ok (.getfield 56, 3) := by decide +kernel
theorem d_Cs_judged_16 : decode prog_1_method_31_code 16 = .ok (.aload_n 0, 1) := by decide +kernel
theorem d_Cs_judged_17 : decode prog_1_method_31_code 17 = .ok (.getfield 19, 3) := by decide +kernel
theorem d_Cs_judged_20 : decode prog_1_method_31_code 20 = .ok (.aload_n 0, 1) := by decide +kernel
theorem d_Cs_judged_21 : decode prog_1_method_31_code 21 = .ok (.getfield 56, 3) := by decide +kernel
theorem d_Cs_judged_24 : decode prog_1_method_31_code 24 = .ok (.getfield 154, 3) := by decide +kernel
theorem d_Cs_judged_27 : decode prog_1_method_31_code 27 = .ok (.invokevirtual 300, 3) := by decide +kernel
theorem d_Cs_judged_30 : decode prog_1_method_31_code 30 = .ok (.ifCond .le 5, 3) := by decide +kernel
theorem d_Cs_judged_33 : decode prog_1_method_31_code 33 = .ok (.iconst 1, 1) := by decide +kernel
theorem d_Cs_judged_34 : decode prog_1_method_31_code 34 = .ok (.ireturn, 1) := by decide +kernel
theorem d_Cs_judged_35 : decode prog_1_method_31_code 35 = .ok (.aload_n 0, 1) := by decide +kernel
theorem d_Cs_judged_36 : decode prog_1_method_31_code 36 = .ok (.getfield 72, 3) := by decide +kernel
theorem d_Cs_judged_39 : decode prog_1_method_31_code 39 = .ok (.invokevirtual 251, 3) := by decide +kernel
theorem d_Cs_judged_42 : decode prog_1_method_31_code 42 = .ok (.aload_n 0, 1) := by decide +kernel
theorem d_Cs_judged_43 : decode prog_1_method_31_code 43 = .ok (.getfield 72, 3) := by decide +kernel
theorem d_Cs_judged_46 : decode prog_1_method_31_code 46 = .ok (.invokevirtual 304, 3) := by decide +kernel
theorem d_Cs_judged_49 : decode prog_1_method_31_code 49 = .ok (.ifCond .eq 7, 3) := by decide +kernel
theorem d_Cs_judged_52 : decode prog_1_method_31_code 52 = .ok (.iconst 2, 1) := by decide +kernel
theorem d_Cs_judged_53 : decode prog_1_method_31_code 53 = .ok (.goto 4, 3) := by decide +kernel
theorem d_Cs_judged_56 : decode prog_1_method_31_code 56 = .ok (.iconst 3, 1) := by decide +kernel
theorem d_Cs_judged_57 : decode prog_1_method_31_code 57 = .ok (.ireturn, 1) := by decide +kernel
theorem d_Cs_covered_0 : decode prog_1_method_39_code 0 = .ok (.aload_n 0, 1) := by decide +kernel
theorem d_Cs_covered_1 : decode prog_1_method_39_code 1 = .ok (.getfield 19, 3) := by decide +kernel
theorem d_Cs_covered_4 : decode prog_1_method_39_code 4 = .ok (.invokevirtual 185, 3) := by decide +kernel
theorem d_Cs_covered_7 : decode prog_1_method_39_code 7 = .ok (.istore_n 1, 1) := by decide +kernel
theorem d_Cs_covered_8 : decode prog_1_method_39_code 8 = .ok (.iload_n 1, 1) := by decide +kernel
theorem d_Cs_covered_9 : decode prog_1_method_39_code 9 = .ok (.ifCond .ne 5, 3) := by decide +kernel
theorem d_Cs_covered_12 : decode prog_1_method_39_code 12 = .ok (.iconst 0, 1) := by decide +kernel
theorem d_Cs_covered_13 : decode prog_1_method_39_code 13 = .ok (.ireturn, 1) := by decide +kernel
theorem d_Cs_covered_14 : decode prog_1_method_39_code 14 = .ok (.lconst 0, 1) := by decide +kernel
theorem d_Cs_covered_15 : decode prog_1_method_39_code 15 = .ok (.lstore_n 2, 1) := by decide +kernel
theorem d_Cs_covered_16 : decode prog_1_method_39_code 16 = .ok (.iconst 0, 1) := by decide +kernel
theorem d_Cs_covered_17 : decode prog_1_method_39_code 17 = .ok (.istore 4, 2) := by decide +kernel
theorem d_Cs_covered_19 : decode prog_1_method_39_code 19 = .ok (.iload 4, 2) := by decide +kernel
theorem d_Cs_covered_21 : decode prog_1_method_39_code 21 = .ok (.aload_n 0, 1) := by decide +kernel
theorem d_Cs_covered_22 : decode prog_1_method_39_code 22 = .ok (.getfield 19, 3) := by decide +kernel
theorem d_Cs_covered_25 : decode prog_1_method_39_code 25 = .ok (.getfield 125, 3) := by decide +kernel
theorem d_Cs_covered_28 : decode prog_1_method_39_code 28 = .ok (.if_icmp .ge 41, 3) := by decide +kernel
theorem d_Cs_covered_31 : decode prog_1_method_39_code 31 = .ok (.aload_n 0, 1) := by decide +kernel
theorem d_Cs_covered_32 : decode prog_1_method_39_code 32 = .ok (.getfield 56, 3) := by decide +kernel
theorem d_Cs_covered_35 : decode prog_1_method_39_code 35 = .ok (.iload 4, 2) := by decide +kernel
theorem d_Cs_covered_37 : decode prog_1_method_39_code 37 = .ok (.aload_n 0, 1) := by decide +kernel
theorem d_Cs_covered_38 : decode prog_1_method_39_code 38 = .ok (.getfield 56, 3) := by decide +kernel
theorem d_Cs_covered_41 : decode prog_1_method_39_code 41 = .ok (.getfield 154, 3) := by decide +kernel
theorem d_Cs_covered_44 : decode prog_1_method_39_code 44 = .ok (.invokevirtual 310, 3) := by decide +kernel
theorem d_Cs_covered_47 : decode prog_1_method_39_code 47 = .ok (.ifCond .eq 16, 3) := by decide +kernel
theorem d_Cs_covered_50 : decode prog_1_method_39_code 50 = .ok (.lload_n 2, 1) := by decide +kernel
theorem d_Cs_covered_51 : decode prog_1_method_39_code 51 = .ok (.aload_n 0, 1) := by decide +kernel
theorem d_Cs_covered_52 : decode prog_1_method_39_code 52 = .ok (.getfield 19, 3) := by decide +kernel
theorem d_Cs_covered_55 : decode prog_1_method_39_code 55 = .ok (.iload 4, 2) := by decide +kernel
theorem d_Cs_covered_57 : decode prog_1_method_39_code 57 = .ok (.invokevirtual 178, 3) := by decide +kernel
theorem d_Cs_covered_60 : decode prog_1_method_39_code 60 = .ok (.i2l, 1) := by decide +kernel
theorem d_Cs_covered_61 : decode prog_1_method_39_code 61 = .ok (.ladd, 1) := by decide +kernel
theorem d_Cs_covered_62 : decode prog_1_method_39_code 62 = .ok (.lstore_n 2, 1) := by decide +kernel
theorem d_Cs_covered_63 : decode prog_1_method_39_code 63 = .ok (.iinc 4 1, 3) := by decide +kernel
theorem d_Cs_covered_66 : decode prog_1_method_39_code 66 = .ok (.goto (-47), 3) := by decide +kernel
theorem d_Cs_covered_69 : decode prog_1_method_39_code 69 = .ok (.lload_n 2, 1) := by decide +kernel
theorem d_Cs_covered_70 : decode prog_1_method_39_code 70 = .ok (.ldc2_w 337, 3) := by decide +kernel
theorem d_Cs_covered_73 : decode prog_1_method_39_code 73 = .ok (.lmul, 1) := by decide +kernel
theorem d_Cs_covered_74 : decode prog_1_method_39_code 74 = .ok (.iload_n 1, 1) := by decide +kernel
theorem d_Cs_covered_75 : decode prog_1_method_39_code 75 = .ok (.i2l, 1) := by decide +kernel
theorem d_Cs_covered_76 : decode prog_1_method_39_code 76 = .ok (.ldiv, 1) := by decide +kernel
theorem d_Cs_covered_77 : decode prog_1_method_39_code 77 = .ok (.l2i, 1) := by decide +kernel
theorem d_Cs_covered_78 : decode prog_1_method_39_code 78 = .ok (.ireturn, 1) := by decide +kernel
theorem d_Cs_count_0 : decode prog_1_method_45_code 0 = .ok (.iload_n 1, 1) := by decide +kernel
theorem d_Cs_count_1 : decode prog_1_method_45_code 1 = .ok (.bipush 10, 2) := by decide +kernel
theorem d_Cs_count_3 : decode prog_1_method_45_code 3 = .ok (.if_icmp .lt 29, 3) := by decide +kernel
theorem d_Cs_count_6 : decode prog_1_method_45_code 6 = .ok (.aload_n 0, 1) := by decide +kernel
theorem d_Cs_count_7 : decode prog_1_method_45_code 7 = .ok (.getfield 35, 3) := by decide +kernel
theorem d_Cs_count_10 : decode prog_1_method_45_code 10 = .ok (.iload_n 1, 1) := by decide +kernel
theorem d_Cs_count_11 : decode prog_1_method_45_code 11 = .ok (.bipush 10, 2) := by decide +kernel
theorem d_Cs_count_13 : decode prog_1_method_45_code 13 = .ok (.isub, 1) := by decide +kernel
theorem d_Cs_count_14 : decode prog_1_method_45_code 14 = .ok (.invokevirtual 131, 3) := by decide +kernel
theorem d_Cs_count_17 : decode prog_1_method_45_code 17 = .ok (.ifCond .eq 15, 3) := by decide +kernel
theorem d_Cs_count_20 : decode prog_1_method_45_code 20 = .ok (.aload_n 0, 1) := by decide +kernel
theorem d_Cs_count_21 : decode prog_1_method_45_code 21 = .ok (.getfield 35, 3) := by decide +kernel
theorem d_Cs_count_24 : decode prog_1_method_45_code 24 = .ok (.iload_n 1, 1) := by decide +kernel
theorem d_Cs_count_25 : decode prog_1_method_45_code 25 = .ok (.bipush 10, 2) := by decide +kernel
theorem d_Cs_count_27 : decode prog_1_method_45_code 27 = .ok (.isub, 1) := by decide +kernel
theorem d_Cs_count_28 : decode prog_1_method_45_code 28 = .ok (.invokevirtual 92, 3) := by decide +kernel
theorem d_Cs_count_31 : decode prog_1_method_45_code 31 = .ok (.ireturn, 1) := by decide +kernel
theorem d_Cs_count_32 : decode prog_1_method_45_code 32 = .ok (.iload_n 1, 1) := by decide +kernel
theorem d_Cs_count_33 : decode prog_1_method_45_code 33 = .ok (.tableswitch 139 0 9 #[55, 63, 71, 79, 87, 95, 110, 115, 123, 131], 55) := by decide +kernel
theorem d_Cs_count_88 : decode prog_1_method_45_code 88 = .ok (.aload_n 0, 1) := by decide +kernel
theorem d_Cs_count_89 : decode prog_1_method_45_code 89 = .ok (.getfield 19, 3) := by decide +kernel
theorem d_Cs_count_92 : decode prog_1_method_45_code 92 = .ok (.getfield 125, 3) := by decide +kernel
theorem d_Cs_count_95 : decode prog_1_method_45_code 95 = .ok (.ireturn, 1) := by decide +kernel
theorem d_Cs_count_96 : decode prog_1_method_45_code 96 = .ok (.aload_n 0, 1) := by decide +kernel
theorem d_Cs_count_97 : decode prog_1_method_45_code 97 = .ok (.getfield 19, 3) := by decide +kernel
theorem d_Cs_count_100 : decode prog_1_method_45_code 100 = .ok (.invokevirtual 185, 3) := by decide +kernel
theorem d_Cs_count_103 : decode prog_1_method_45_code 103 = .ok (.ireturn, 1) := by decide +kernel
theorem d_Cs_count_104 : decode prog_1_method_45_code 104 = .ok (.aload_n 0, 1) := by decide +kernel
theorem d_Cs_count_105 : decode prog_1_method_45_code 105 = .ok (.getfield 44, 3) := by decide +kernel
theorem d_Cs_count_108 : decode prog_1_method_45_code 108 = .ok (.getfield 313, 3) := by decide +kernel
theorem d_Cs_count_111 : decode prog_1_method_45_code 111 = .ok (.ireturn, 1) := by decide +kernel
theorem d_Cs_count_112 : decode prog_1_method_45_code 112 = .ok (.aload_n 0, 1) := by decide +kernel
theorem d_Cs_count_113 : decode prog_1_method_45_code 113 = .ok (.getfield 44, 3) := by decide +kernel
theorem d_Cs_count_116 : decode prog_1_method_45_code 116 = .ok (.getfield 161, 3) := by decide +kernel
theorem d_Cs_count_119 : decode prog_1_method_45_code 119 = .ok (.ireturn, 1) := by decide +kernel
theorem d_Cs_count_120 : decode prog_1_method_45_code 120 = .ok (.aload_n 0, 1) := by decide +kernel
theorem d_Cs_count_121 : decode prog_1_method_45_code 121 = .ok (.getfield 56, 3) := by decide +kernel
theorem d_Cs_count_124 : decode prog_1_method_45_code 124 = .ok (.getfield 154, 3) := by decide +kernel
theorem d_Cs_count_127 : decode prog_1_method_45_code 127 = .ok (.ireturn, 1) := by decide +kernel
theorem d_Cs_count_128 : decode prog_1_method_45_code 128 = .ok (.aload_n 0, 1) := by decide +kernel
theorem d_Cs_count_129 : decode prog_1_method_45_code 129 = .ok (.getfield 56, 3) := by decide +kernel
theorem d_Cs_count_132 : decode prog_1_method_45_code 132 = .ok (.aload_n 0, 1) := by decide +kernel
theorem d_Cs_count_133 : decode prog_1_method_45_code 133 = .ok (.getfield 56, 3) := by decide +kernel
theorem d_Cs_count_136 : decode prog_1_method_45_code 136 = .ok (.getfield 154, 3) := by decide +kernel
theorem d_Cs_count_139 : decode prog_1_method_45_code 139 = .ok (.invokevirtual 319, 3) := by decide +kernel
theorem d_Cs_count_142 : decode prog_1_method_45_code 142 = .ok (.ireturn, 1) := by decide +kernel
theorem d_Cs_count_143 : decode prog_1_method_45_code 143 = .ok (.aload_n 0, 1) := by decide +kernel
theorem d_Cs_count_144 : decode prog_1_method_45_code 144 = .ok (.invokevirtual 358, 3) := by decide +kernel
theorem d_Cs_count_147 : decode prog_1_method_45_code 147 = .ok (.ireturn, 1) := by decide +kernel
theorem d_Cs_count_148 : decode prog_1_method_45_code 148 = .ok (.aload_n 0, 1) := by decide +kernel
theorem d_Cs_count_149 : decode prog_1_method_45_code 149 = .ok (.getfield 12, 3) := by decide +kernel
theorem d_Cs_count_152 : decode prog_1_method_45_code 152 = .ok (.getfield 100, 3) := by decide +kernel
theorem d_Cs_count_155 : decode prog_1_method_45_code 155 = .ok (.ireturn, 1) := by decide +kernel
theorem d_Cs_count_156 : decode prog_1_method_45_code 156 = .ok (.aload_n 0, 1) := by decide +kernel
theorem d_Cs_count_157 : decode prog_1_method_45_code 157 = .ok (.getfield 19, 3) := by decide +kernel
theorem d_Cs_count_160 : decode prog_1_method_45_code 160 = .ok (.invokevirtual 361, 3) := by decide +kernel
theorem d_Cs_count_163 : decode prog_1_method_45_code 163 = .ok (.ireturn, 1) := by decide +kernel
theorem d_Cs_count_164 : decode prog_1_method_45_code 164 = .ok (.aload_n 0, 1) := by decide +kernel
theorem d_Cs_count_165 : decode prog_1_method_45_code 165 = .ok (.getfield 56, 3) := by decide +kernel
theorem d_Cs_count_168 : decode prog_1_method_45_code 168 = .ok (.getfield 96, 3) := by decide +kernel
theorem d_Cs_count_171 : decode prog_1_method_45_code 171 = .ok (.ireturn, 1) := by decide +kernel
theorem d_Cs_count_172 : decode prog_1_method_45_code 172 = .ok (.iconst (-1), 1) := by decide +kernel
theorem d_Cs_count_173 : decode prog_1_method_45_code 173 = .ok (.ireturn, 1) := by decide +kernel
theorem d_Cs_isBook_0 : decode prog_1_method_46_code 0 = .ok (.iload_n 0, 1) := by decide +kernel
theorem d_Cs_isBook_1 : decode prog_1_method_46_code 1 = .ok (.ldc_w 364, 3) := by decide +kernel
theorem d_Cs_isBook_4 : decode prog_1_method_46_code 4 = .ok (.if_icmp .lt 13, 3) := by decide +kernel
theorem d_Cs_isBook_7 : decode prog_1_method_46_code 7 = .ok (.iload_n 0, 1) := by decide +kernel
theorem d_Cs_isBook_8 : decode prog_1_method_46_code 8 = .ok (.ldc 181, 2) := by decide +kernel
theorem d_Cs_isBook_10 : decode prog_1_method_46_code 10 = .ok (.if_icmp .gt 7, 3) := by decide +kernel
theorem d_Cs_isBook_13 : decode prog_1_method_46_code 13 = .ok (.iconst 1, 1) := by decide +kernel
theorem d_Cs_isBook_14 : decode prog_1_method_46_code 14 = .ok (.goto 4, 3) := by decide +kernel
theorem d_Cs_isBook_17 : decode prog_1_method_46_code 17 = .ok (.iconst 0, 1) := by decide +kernel
theorem d_Cs_isBook_18 : decode prog_1_method_46_code 18 = .ok (.ireturn, 1) := by decide +kernel
theorem d_Cs_listed_0 : decode prog_1_method_48_code 0 = .ok (.iload_n 2, 1) := by decide +kernel
theorem d_Cs_listed_1 : decode prog_1_method_48_code 1 = .ok (.iconst (-1), 1) := by decide +kernel
theorem d_Cs_listed_2 : decode prog_1_method_48_code 2 = .ok (.if_icmp .ge 6, 3) := by decide +kernel
theorem d_Cs_listed_5 : decode prog_1_method_48_code 5 = .ok (.bipush (-3), 2) := by decide +kernel
theorem d_Cs_listed_7 : decode prog_1_method_48_code 7 = .ok (.ireturn, 1) := by decide +kernel
theorem d_Cs_listed_8 : decode prog_1_method_48_code 8 = .ok (.iconst 0, 1) := by decide +kernel
theorem d_Cs_listed_9 : decode prog_1_method_48_code 9 = .ok (.istore_n 3, 1) := by decide +kernel
theorem d_Cs_listed_10 : decode prog_1_method_48_code 10 = .ok (.iconst 0, 1) := by decide +kernel
theorem d_Cs_listed_11 : decode prog_1_method_48_code 11 = .ok (.istore 4, 2) := by decide +kernel
theorem d_Cs_listed_13 : decode prog_1_method_48_code 13 = .ok (.iload 4, 2) := by decide +kernel
theorem d_Cs_listed_15 : decode prog_1_method_48_code 15 = .ok (.aload_n 0, 1) := by decide +kernel
theorem d_Cs_listed_16 : decode prog_1_method_48_code 16 = .ok (.getfield 19, 3) := by decide +kernel
theorem d_Cs_listed_19 : decode prog_1_method_48_code 19 = .ok (.getfield 125, 3) := by decide +kernel
theorem d_Cs_listed_22 : decode prog_1_method_48_code 22 = .ok (.if_icmp .ge 30, 3) := by decide +kernel
theorem d_Cs_listed_25 : decode prog_1_method_48_code 25 = .ok (.aload_n 0, 1) := by decide +kernel
theorem d_Cs_listed_26 : decode prog_1_method_48_code 26 = .ok (.iload_n 1, 1) := by decide +kernel
theorem d_Cs_listed_27 : decode prog_1_method_48_code 27 = .ok (.iload 4, 2) := by decide +kernel
theorem d_Cs_listed_29 : decode prog_1_method_48_code 29 = .ok (.invokevirtual 365, 3) := by decide +kernel
theorem d_Cs_listed_32 : decode prog_1_method_48_code 32 = .ok (.ifCond .eq 14, 3) := by decide +kernel
theorem d_Cs_listed_35 : decode prog_1_method_48_code 35 = .ok (.iload_n 3, 1) := by decide +kernel
theorem d_Cs_listed_36 : decode prog_1_method_48_code 36 = .ok (.iload_n 2, 1) := by decide +kernel
theorem d_Cs_listed_37 : decode prog_1_method_48_code 37 = .ok (.if_icmp .ne 6, 3) := by decide +kernel
theorem d_Cs_listed_40 : decode prog_1_method_48_code 40 = .ok (.iload 4, 2) := by decide +kernel
theorem d_Cs_listed_42 : decode prog_1_method_48_code 42 = .ok (.ireturn, 1) := by decide +kernel
theorem d_Cs_listed_43 : decode prog_1_method_48_code 43 = .ok (.iinc 3 1, 3) := by decide +kernel
theorem d_Cs_listed_46 : decode prog_1_method_48_code 46 = .ok (.iinc 4 1, 3) := by decide +kernel
theorem d_Cs_listed_49 : decode prog_1_method_48_code 49 = .ok (.goto (-36), 3) := by decide +kernel
theorem d_Cs_listed_52 : decode prog_1_method_48_code 52 = .ok (.iload_n 2, 1) := by decide +kernel
theorem d_Cs_listed_53 : decode prog_1_method_48_code 53 = .ok (.iconst (-1), 1) := by decide +kernel
theorem d_Cs_listed_54 : decode prog_1_method_48_code 54 = .ok (.if_icmp .ne 7, 3) := by decide +kernel
theorem d_Cs_listed_57 : decode prog_1_method_48_code 57 = .ok (.iload_n 3, 1) := by decide +kernel
theorem d_Cs_listed_58 : decode prog_1_method_48_code 58 = .ok (.goto 4, 3) := by decide +kernel
theorem d_Cs_listed_61 : decode prog_1_method_48_code 61 = .ok (.iconst (-1), 1) := by decide +kernel
theorem d_Cs_listed_62 : decode prog_1_method_48_code 62 = .ok (.ireturn, 1) := by decide +kernel
theorem d_Cs_isOfKind_0 : decode prog_1_method_49_code 0 = .ok (.iload_n 1, 1) := by decide +kernel
theorem d_Cs_isOfKind_1 : decode prog_1_method_49_code 1 = .ok (.lookupswitch 71 #[(0, 27), (1, 36)], 27) := by decide +kernel
theorem d_Cs_isOfKind_28 : decode prog_1_method_49_code 28 = .ok (.aload_n 0, 1) := by decide +kernel
theorem d_Cs_isOfKind_29 : decode prog_1_method_49_code 29 = .ok (.getfield 44, 3) := by decide +kernel
theorem d_Cs_isOfKind_32 : decode prog_1_method_49_code 32 = .ok (.iload_n 2, 1) := by decide +kernel
theorem d_Cs_isOfKind_33 : decode prog_1_method_49_code 33 = .ok (.invokevirtual 216, 3) := by decide +kernel
theorem d_Cs_isOfKind_36 : decode prog_1_method_49_code 36 = .ok (.ireturn, 1) := by decide +kernel
theorem d_Cs_isOfKind_37 : decode prog_1_method_49_code 37 = .ok (.aload_n 0, 1) := by decide +kernel
theorem d_Cs_isOfKind_38 : decode prog_1_method_49_code 38 = .ok (.getfield 19, 3) := by decide +kernel
theorem d_Cs_isOfKind_41 : decode prog_1_method_49_code 41 = .ok (.iload_n 2, 1) := by decide +kernel
theorem d_Cs_isOfKind_42 : decode prog_1_method_49_code 42 = .ok (.invokevirtual 368, 3) := by decide +kernel
theorem d_Cs_isOfKind_45 : decode prog_1_method_49_code 45 = .ok (.ifCond .ne 25, 3) := by decide +kernel
theorem d_Cs_isOfKind_48 : decode prog_1_method_49_code 48 = .ok (.aload_n 0, 1) := by decide +kernel
theorem d_Cs_isOfKind_49 : decode prog_1_method_49_code 49 = .ok (.getfield 56, 3) := by decide +kernel
theorem d_Cs_isOfKind_52 : decode prog_1_method_49_code 52 = .ok (.iload_n 2, 1) := by decide +kernel
theorem d_Cs_isOfKind_53 : decode prog_1_method_49_code 53 = .ok (.aload_n 0, 1) := by decide +kernel
theorem d_Cs_isOfKind_54 : decode prog_1_method_49_code 54 = .ok (.getfield 56, 3) := by decide +kernel
theorem d_Cs_isOfKind_57 : decode prog_1_method_49_code 57 = .ok (.getfield 154, 3) := by decide +kernel
theorem d_Cs_isOfKind_60 : decode prog_1_method_49_code 60 = .ok (.invokevirtual 310, 3) := by decide +kernel
theorem d_Cs_isOfKind_63 : decode prog_1_method_49_code 63 = .ok (.ifCond .eq 7, 3) := by decide +kernel
theorem d_Cs_isOfKind_66 : decode prog_1_method_49_code 66 = .ok (.iconst 1, 1) := by decide +kernel
theorem d_Cs_isOfKind_67 : decode prog_1_method_49_code 67 = .ok (.goto 4, 3) := by decide +kernel
theorem d_Cs_isOfKind_70 : decode prog_1_method_49_code 70 = .ok (.iconst 0, 1) := by decide +kernel
theorem d_Cs_isOfKind_71 : decode prog_1_method_49_code 71 = .ok (.ireturn, 1) := by decide +kernel
theorem d_Cs_isOfKind_72 : decode prog_1_method_49_code 72 = .ok (.aload_n 0, 1) := by decide +kernel
theorem d_Cs_isOfKind_73 : decode prog_1_method_49_code 73 = .ok (.getfield 56, 3) := by decide +kernel
theorem d_Cs_isOfKind_76 : decode prog_1_method_49_code 76 = .ok (.iload_n 2, 1) := by decide +kernel
theorem d_Cs_isOfKind_77 : decode prog_1_method_49_code 77 = .ok (.aload_n 0, 1) := by decide +kernel
theorem d_Cs_isOfKind_78 : decode prog_1_method_49_code 78 = .ok (.getfield 56, 3) := by decide +kernel
theorem d_Cs_isOfKind_81 : decode prog_1_method_49_code 81 = .ok (.getfield 154, 3) := by decide +kernel
theorem d_Cs_isOfKind_84 : decode prog_1_method_49_code 84 = .ok (.invokevirtual 310, 3) := by decide +kernel
theorem d_Cs_isOfKind_87 : decode prog_1_method_49_code 87 = .ok (.ireturn, 1) := by decide +kernel
theorem d_Cs_shareOf_0 : decode prog_1_method_50_code 0 = .ok (.iload_n 2, 1) := by decide +kernel
theorem d_Cs_shareOf_1 : decode prog_1_method_50_code 1 = .ok (.tableswitch 89 0 4 #[35, 37, 47, 63, 72], 35) := by decide +kernel
theorem d_Cs_shareOf_36 : decode prog_1_method_50_code 36 = .ok (.iconst 1, 1) := by decide +kernel
theorem d_Cs_shareOf_37 : decode prog_1_method_50_code 37 = .ok (.ireturn, 1) := by decide +kernel
theorem d_Cs_shareOf_38 : decode prog_1_method_50_code 38 = .ok (.aload_n 0, 1) := by decide +kernel
theorem d_Cs_shareOf_39 : decode prog_1_method_50_code 39 = .ok (.getfield 19, 3) := by decide +kernel
theorem d_Cs_shareOf_42 : decode prog_1_method_50_code 42 = .ok (.getfield 168, 3) := by decide +kernel
theorem d_Cs_shareOf_45 : decode prog_1_method_50_code 45 = .ok (.iload_n 1, 1) := by decide +kernel
theorem d_Cs_shareOf_46 : decode prog_1_method_50_code 46 = .ok (.iaload, 1) := by decide +kernel
theorem d_Cs_shareOf_47 : decode prog_1_method_50_code 47 = .ok (.ireturn, 1) := by decide +kernel
theorem d_Cs_shareOf_48 : decode prog_1_method_50_code 48 = .ok (.aload_n 0, 1) := by decide +kernel
theorem d_Cs_shareOf_49 : decode prog_1_method_50_code 49 = .ok (.getfield 56, 3) := by decide +kernel
theorem d_Cs_shareOf_52 : decode prog_1_method_50_code 52 = .ok (.iload_n 1, 1) := by decide +kernel
theorem d_Cs_shareOf_53 : decode prog_1_method_50_code 53 = .ok (.aload_n 0, 1) := by decide +kernel
theorem d_Cs_shareOf_54 : decode prog_1_method_50_code 54 = .ok (.getfield 56, 3) := by decide +kernel
theorem d_Cs_shareOf_57 : decode prog_1_method_50_code 57 = .ok (.getfield 154, 3) := by decide +kernel
theorem d_Cs_shareOf_60 : decode prog_1_method_50_code 60 = .ok (.invokevirtual 219, 3) := by decide +kernel
theorem d_Cs_shareOf_63 : decode prog_1_method_50_code 63 = .ok (.ireturn, 1) := by decide +kernel
theorem d_Cs_shareOf_64 : decode prog_1_method_50_code 64 = .ok (.aload_n 0, 1) := by decide +kernel
theorem d_Cs_shareOf_65 : decode prog_1_method_50_code 65 = .ok (.getfield 19, 3) := by decide +kernel
theorem d_Cs_shareOf_68 : decode prog_1_method_50_code 68 = .ok (.iload_n 1, 1) := by decide +kernel
theorem d_Cs_shareOf_69 : decode prog_1_method_50_code 69 = .ok (.invokevirtual 210, 3) := by decide +kernel
theorem d_Cs_shareOf_72 : decode prog_1_method_50_code 72 = .ok (.ireturn, 1) := by decide +kernel
theorem d_Cs_shareOf_73 : decode prog_1_method_50_code 73 = .ok (.aload_n 0, 1) := by decide +kernel
theorem d_Cs_shareOf_74 : decode prog_1_method_50_code 74 = .ok (.getfield 44, 3) := by decide +kernel
theorem d_Cs_shareOf_77 : decode prog_1_method_50_code 77 = .ok (.iload_n 1, 1) := by decide +kernel
theorem d_Cs_shareOf_78 : decode prog_1_method_50_code 78 = .ok (.invokevirtual 216, 3) := by decide +kernel
theorem d_Cs_shareOf_81 : decode prog_1_method_50_code 81 = .ok (.ifCond .eq 7, 3) := by decide +kernel
theorem d_Cs_shareOf_84 : decode prog_1_method_50_code 84 = .ok (.iconst 1, 1) := by decide +kernel
theorem d_Cs_shareOf_85 : decode prog_1_method_50_code 85 = .ok (.goto 4, 3) := by decide +kernel
theorem d_Cs_shareOf_88 : decode prog_1_method_50_code 88 = .ok (.iconst 0, 1) := by decide +kernel
theorem d_Cs_shareOf_89 : decode prog_1_method_50_code 89 = .ok (.ireturn, 1) := by decide +kernel
theorem d_Cs_shareOf_90 : decode prog_1_method_50_code 90 = .ok (.aload_n 0, 1) := by decide +kernel
theorem d_Cs_shareOf_91 : decode prog_1_method_50_code 91 = .ok (.getfield 72, 3) := by decide +kernel
theorem d_Cs_shareOf_94 : decode prog_1_method_50_code 94 = .ok (.iload_n 1, 1) := by decide +kernel
theorem d_Cs_shareOf_95 : decode prog_1_method_50_code 95 = .ok (.invokevirtual 371, 3) := by decide +kernel
theorem d_Cs_shareOf_98 : decode prog_1_method_50_code 98 = .ok (.aload_n 0, 1) := by decide +kernel
theorem d_Cs_shareOf_99 : decode prog_1_method_50_code 99 = .ok (.getfield 56, 3) := by decide +kernel
theorem d_Cs_shareOf_102 : decode prog_1_method_50_code 102 = .ok (.iload_n 1, 1) := by decide +kernel
theorem d_Cs_shareOf_103 : decode prog_1_method_50_code 103 = .ok (.aload_n 0, 1) := by decide +kernel
theorem d_Cs_shareOf_104 : decode prog_1_method_50_code 104 = .ok (.getfield 56, 3) := by decide +kernel
theorem d_Cs_shareOf_107 : decode prog_1_method_50_code 107 = .ok (.getfield 154, 3) := by decide +kernel
theorem d_Cs_shareOf_110 : decode prog_1_method_50_code 110 = .ok (.invokevirtual 219, 3) := by decide +kernel
theorem d_Cs_shareOf_113 : decode prog_1_method_50_code 113 = .ok (.imul, 1) := by decide +kernel
theorem d_Cs_shareOf_114 : decode prog_1_method_50_code 114 = .ok (.ireturn, 1) := by decide +kernel
theorem d_Cs_writeLine_0 : decode prog_1_method_51_code 0 = .ok (.aload_n 0, 1) := by decide +kernel
theorem d_Cs_writeLine_1 : decode prog_1_method_51_code 1 = .ok (.getfield 88, 3) := by decide +kernel
theorem d_Cs_writeLine_4 : decode prog_1_method_51_code 4 = .ok (.iconst 0, 1) := by decide +kernel
theorem d_Cs_writeLine_5 : decode prog_1_method_51_code 5 = .ok (.putfield 374, 3) := by decide +kernel
theorem d_Cs_writeLine_8 : decode prog_1_method_51_code 8 = .ok (.aload_n 0, 1) := by decide +kernel
theorem d_Cs_writeLine_9 : decode prog_1_method_51_code 9 = .ok (.getfield 88, 3) := by decide +kernel
theorem d_Cs_writeLine_12 : decode prog_1_method_51_code 12 = .ok (.aload_n 0, 1) := by decide +kernel
theorem d_Cs_writeLine_13 : decode prog_1_method_51_code 13 = .ok (.getfield 19, 3) := by decide +kernel
theorem d_Cs_writeLine_16 : decode prog_1_method_51_code 16 = .ok (.getfield 204, 3) := by decide +kernel
theorem d_Cs_writeLine_19 : decode prog_1_method_51_code 19 = .ok (.iload_n 1, 1) := by decide +kernel
theorem d_Cs_writeLine_20 : decode prog_1_method_51_code 20 = .ok (.iaload, 1) := by decide +kernel
theorem d_Cs_writeLine_21 : decode prog_1_method_51_code 21 = .ok (.invokevirtual 375, 3) := by decide +kernel
theorem d_Cs_writeLine_24 : decode prog_1_method_51_code 24 = .ok (.aload_n 0, 1) := by decide +kernel
theorem d_Cs_writeLine_25 : decode prog_1_method_51_code 25 = .ok (.getfield 88, 3) := by decide +kernel
theorem d_Cs_writeLine_28 : decode prog_1_method_51_code 28 = .ok (.bipush 47, 2) := by decide +kernel
theorem d_Cs_writeLine_30 : decode prog_1_method_51_code 30 = .ok (.invokevirtual 378, 3) := by decide +kernel
theorem d_Cs_writeLine_33 : decode prog_1_method_51_code 33 = .ok (.aload_n 0, 1) := by decide +kernel
theorem d_Cs_writeLine_34 : decode prog_1_method_51_code 34 = .ok (.getfield 88, 3) := by decide +kernel
theorem d_Cs_writeLine_37 : decode prog_1_method_51_code 37 = .ok (.aload_n 0, 1) := by decide +kernel
theorem d_Cs_writeLine_38 : decode prog_1_method_51_code 38 = .ok (.getfield 19, 3) := by decide +kernel
theorem d_Cs_writeLine_41 : decode prog_1_method_51_code 41 = .ok (.getfield 207, 3) := by decide +kernel
theorem d_Cs_writeLine_44 : decode prog_1_method_51_code 44 = .ok (.iload_n 1, 1) := by decide +kernel
theorem d_Cs_writeLine_45 : decode prog_1_method_51_code 45 = .ok (.iaload, 1) := by decide +kernel
theorem d_Cs_writeLine_46 : decode prog_1_method_51_code 46 = .ok (.invokevirtual 375, 3) := by decide +kernel
theorem d_Cs_writeLine_49 : decode prog_1_method_51_code 49 = .ok (.aload_n 0, 1) := by decide +kernel
theorem d_Cs_writeLine_50 : decode prog_1_method_51_code 50 = .ok (.getfield 88, 3) := by decide +kernel
theorem d_Cs_writeLine_53 : decode prog_1_method_51_code 53 = .ok (.bipush 32, 2) := by decide +kernel
theorem d_Cs_writeLine_55 : decode prog_1_method_51_code 55 = .ok (.invokevirtual 378, 3) := by decide +kernel
theorem d_Cs_writeLine_58 : decode prog_1_method_51_code 58 = .ok (.aload_n 0, 1) := by decide +kernel
theorem d_Cs_writeLine_59 : decode prog_1_method_51_code 59 = .ok (.getfield 88, 3) := by decide +kernel
theorem d_Cs_writeLine_62 : decode prog_1_method_51_code 62 = .ok (.aload_n 0, 1) := by decide +kernel
theorem d_Cs_writeLine_63 : decode prog_1_method_51_code 63 = .ok (.getfield 19, 3) := by decide +kernel
theorem d_Cs_writeLine_66 : decode prog_1_method_51_code 66 = .ok (.getfield 168, 3) := by decide +kernel
theorem d_Cs_writeLine_69 : decode prog_1_method_51_code 69 = .ok (.iload_n 1, 1) := by decide +kernel
theorem d_Cs_writeLine_70 : decode prog_1_method_51_code 70 = .ok (.iaload, 1) := by decide +kernel
theorem d_Cs_writeLine_71 : decode prog_1_method_51_code 71 = .ok (.invokevirtual 375, 3) := by decide +kernel
theorem d_Cs_writeLine_74 : decode prog_1_method_51_code 74 = .ok (.aload_n 0, 1) := by decide +kernel
theorem d_Cs_writeLine_75 : decode prog_1_method_51_code 75 = .ok (.getfield 44, 3) := by decide +kernel
theorem d_Cs_writeLine_78 : decode prog_1_method_51_code 78 = .ok (.iload_n 1, 1) := by decide +kernel
theorem d_Cs_writeLine_79 : decode prog_1_method_51_code 79 = .ok (.invokevirtual 216, 3) := by decide +kernel
theorem d_Cs_writeLine_82 : decode prog_1_method_51_code 82 = .ok (.ifCond .eq 15, 3) := by decide +kernel
theorem d_Cs_writeLine_85 : decode prog_1_method_51_code 85 = .ok (.aload_n 0, 1) := by decide +kernel
theorem d_Cs_writeLine_86 : decode prog_1_method_51_code 86 = .ok (.getfield 88, 3) := by decide +kernel
theorem d_Cs_writeLine_89 : decode prog_1_method_51_code 89 = .ok (.bipush 33, 2) := by decide +kernel
theorem d_Cs_writeLine_91 : decode prog_1_method_51_code 91 = .ok (.invokevirtual 378, 3) := by decide +kernel
theorem d_Cs_writeLine_94 : decode prog_1_method_51_code 94 = .ok (.goto 34, 3) := by decide +kernel
theorem d_Cs_writeLine_97 : decode prog_1_method_51_code 97 = .ok (.aload_n 0, 1) := by decide +kernel
theorem d_Cs_writeLine_98 : decode prog_1_method_51_code 98 = .ok (.getfield 88, 3) := by decide +kernel
theorem d_Cs_writeLine_101 : decode prog_1_method_51_code 101 = .ok (.bipush 120, 2) := by decide +kernel
theorem d_Cs_writeLine_103 : decode prog_1_method_51_code 103 = .ok (.invokevirtual 378, 3) := by decide +kernel
theorem d_Cs_writeLine_106 : decode prog_1_method_51_code 106 = .ok (.aload_n 0, 1) := by decide +kernel
theorem d_Cs_writeLine_107 : decode prog_1_method_51_code 107 = .ok (.getfield 88, 3) := by decide +kernel
theorem d_Cs_writeLine_110 : decode prog_1_method_51_code 110 = .ok (.aload_n 0, 1) := by decide +kernel
theorem d_Cs_writeLine_111 : decode prog_1_method_51_code 111 = .ok (.getfield 56, 3) := by decide +kernel
theorem d_Cs_writeLine_114 : decode prog_1_method_51_code 114 = .ok (.iload_n 1, 1) := by decide +kernel
theorem d_Cs_writeLine_115 : decode prog_1_method_51_code 115 = .ok (.aload_n 0, 1) := by decide +kernel
theorem d_Cs_writeLine_116 : decode prog_1_method_51_code 116 = .ok (.getfield 56, 3) := by decide +kernel
theorem d_Cs_writeLine_119 : decode prog_1_method_51_code 119 = .ok (.getfield 154, 3) := by decide +kernel
theorem d_Cs_writeLine_122 : decode prog_1_method_51_code 122 = .ok (.invokevirtual 219, 3) := by decide +kernel
theorem d_Cs_writeLine_125 : decode prog_1_method_51_code 125 = .ok (.invokevirtual 375, 3) := by decide +kernel
theorem d_Cs_writeLine_128 : decode prog_1_method_51_code 128 = .ok (.aload_n 0, 1) := by decide +kernel
theorem d_Cs_writeLine_129 : decode prog_1_method_51_code 129 = .ok (.getfield 19, 3) := by decide +kernel
theorem d_Cs_writeLine_132 : decode prog_1_method_51_code 132 = .ok (.iload_n 1, 1) := by decide +kernel
theorem d_Cs_writeLine_133 : decode prog_1_method_51_code 133 = .ok (.invokevirtual 368, 3) := by decide +kernel
theorem d_Cs_writeLine_136 : decode prog_1_method_51_code 136 = .ok (.ifCond .eq 37, 3) := by decide +kernel
theorem d_Cs_writeLine_139 : decode prog_1_method_51_code 139 = .ok (.aload_n 0, 1) := by decide +kernel
theorem d_Cs_writeLine_140 : decode prog_1_method_51_code 140 = .ok (.getfield 88, 3) := by decide +kernel
theorem d_Cs_writeLine_143 : decode prog_1_method_51_code 143 = .ok (.bipush 32, 2) := by decide +kernel
theorem d_Cs_writeLine_145 : decode prog_1_method_51_code 145 = .ok (.invokevirtual 378, 3) := by decide +kernel
theorem d_Cs_writeLine_148 : decode prog_1_method_51_code 148 = .ok (.aload_n 0, 1) := by decide +kernel
theorem d_Cs_writeLine_149 : decode prog_1_method_51_code 149 = .ok (.getfield 88, 3) := by decide +kernel
theorem d_Cs_writeLine_152 : decode prog_1_method_51_code 152 = .ok (.bipush 61, 2) := by decide +kernel
theorem d_Cs_writeLine_154 : decode prog_1_method_51_code 154 = .ok (.invokevirtual 378, 3) := by decide +kernel
theorem d_Cs_writeLine_157 : decode prog_1_method_51_code 157 = .ok (.aload_n 0, 1) := by decide +kernel
theorem d_Cs_writeLine_158 : decode prog_1_method_51_code 158 = .ok (.getfield 88, 3) := by decide +kernel
theorem d_Cs_writeLine_161 : decode prog_1_method_51_code 161 = .ok (.aload_n 0, 1) := by decide +kernel
theorem d_Cs_writeLine_162 : decode prog_1_method_51_code 162 = .ok (.getfield 19, 3) := by decide +kernel
theorem d_Cs_writeLine_165 : decode prog_1_method_51_code 165 = .ok (.getfield 172, 3) := by decide +kernel
theorem d_Cs_writeLine_168 : decode prog_1_method_51_code 168 = .ok (.iload_n 1, 1) := by decide +kernel
theorem d_Cs_writeLine_169 : decode prog_1_method_51_code 169 = .ok (.iaload, 1) := by decide +kernel
theorem d_Cs_writeLine_170 : decode prog_1_method_51_code 170 = .ok (.invokevirtual 375, 3) := by decide +kernel
theorem d_Cs_writeLine_173 : decode prog_1_method_51_code 173 = .ok (.return_, 1) := by decide +kernel
theorem d_Cs_itemsHit_0 : decode prog_1_method_55_code 0 = .ok (.iconst 0, 1) := by decide +kernel
theorem d_Cs_itemsHit_1 : decode prog_1_method_55_code 1 = .ok (.istore_n 1, 1) := by decide +kernel
theorem d_Cs_itemsHit_2 : decode prog_1_method_55_code 2 = .ok (.iconst 0, 1) := by decide +kernel
theorem d_Cs_itemsHit_3 : decode prog_1_method_55_code 3 = .ok (.istore_n 2, 1) := by decide +kernel
theorem d_Cs_itemsHit_4 : decode prog_1_method_55_code 4 = .ok (.iload_n 2, 1) := by decide +kernel
theorem d_Cs_itemsHit_5 : decode prog_1_method_55_code 5 = .ok (.aload_n 0, 1) := by decide +kernel
theorem d_Cs_itemsHit_6 : decode prog_1_method_55_code 6 = .ok (.getfield 19, 3) := by decide +kernel
theorem d_Cs_itemsHit_9 : decode prog_1_method_55_code 9 = .ok (.getfield 125, 3) := by decide +kernel
theorem d_Cs_itemsHit_12 : decode prog_1_method_55_code 12 = .ok (.if_icmp .ge 30, 3) := by decide +kernel
theorem d_Cs_itemsHit_15 : decode prog_1_method_55_code 15 = .ok (.aload_n 0, 1) := by decide +kernel
theorem d_Cs_itemsHit_16 : decode prog_1_method_55_code 16 = .ok (.getfield 56, 3) := by decide +kernel
theorem d_Cs_itemsHit_19 : decode prog_1_method_55_code 19 = .ok (.iload_n 2, 1) := by decide +kernel
theorem d_Cs_itemsHit_20 : decode prog_1_method_55_code 20 = .ok (.aload_n 0, 1) := by decide +kernel
theorem d_Cs_itemsHit_21 : decode prog_1_method_55_code 21 = .ok (.getfield 56, 3) := by decide +kernel
theorem d_Cs_itemsHit_24 : decode prog_1_method_55_code 24 = .ok (.getfield 154, 3) := by decide +kernel
theorem d_Cs_itemsHit_27 : decode prog_1_method_55_code 27 = .ok (.invokevirtual 219, 3) := by decide +kernel
theorem d_Cs_itemsHit_30 : decode prog_1_method_55_code 30 = .ok (.ifCond .le 6, 3) := by decide +kernel
theorem d_Cs_itemsHit_33 : decode prog_1_method_55_code 33 = .ok (.iinc 1 1, 3) := by decide +kernel
theorem d_Cs_itemsHit_36 : decode prog_1_method_55_code 36 = .ok (.iinc 2 1, 3) := by decide +kernel
theorem d_Cs_itemsHit_39 : decode prog_1_method_55_code 39 = .ok (.goto (-35), 3) := by decide +kernel
theorem d_Cs_itemsHit_42 : decode prog_1_method_55_code 42 = .ok (.iload_n 1, 1) := by decide +kernel
theorem d_Cs_itemsHit_43 : decode prog_1_method_55_code 43 = .ok (.ireturn, 1) := by decide +kernel
