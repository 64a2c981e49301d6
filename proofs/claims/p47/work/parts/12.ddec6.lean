-- instructions, decoded
theorem d_Lm_removeEldestEntry_0 : decode prog_54_method_23_code 0 = .ok (.iconst 0, 1) := by decide +kernel
theorem d_Lm_removeEldestEntry_1 : decode prog_54_method_23_code 1 = .ok (.ireturn, 1) := by decide +kernel
theorem d_Ma_min_0 : decode prog_28_method_69_code 0 = .ok (.iload_n 0, 1) := by decide +kernel
theorem d_Ma_min_1 : decode prog_28_method_69_code 1 = .ok (.iload_n 1, 1) := by decide +kernel
theorem d_Ma_min_2 : decode prog_28_method_69_code 2 = .ok (.if_icmp .gt 7, 3) := by decide +kernel
theorem d_Ma_min_5 : decode prog_28_method_69_code 5 = .ok (.iload_n 0, 1) := by decide +kernel
theorem d_Ma_min_6 : decode prog_28_method_69_code 6 = .ok (.goto 4, 3) := by decide +kernel
theorem d_Ma_min_9 : decode prog_28_method_69_code 9 = .ok (.iload_n 1, 1) := by decide +kernel
theorem d_Ma_min_10 : decode prog_28_method_69_code 10 = .ok (.ireturn, 1) := by decide +kernel
theorem d_Ar_copyOfRangeByte_0 : decode prog_44_method_133_code 0 = .ok (.iload_n 1, 1) := by decide +kernel
theorem d_Ar_copyOfRangeByte_1 : decode prog_44_method_133_code 1 = .ok (.iload_n 2, 1) := by decide +kernel
theorem d_Ar_copyOfRangeByte_2 : decode prog_44_method_133_code 2 = .ok (.invokestatic 343, 3) := by decide +kernel
theorem d_Ar_copyOfRangeByte_5 : decode prog_44_method_133_code 5 = .ok (.iload_n 2, 1) := by decide +kernel
theorem d_Ar_copyOfRangeByte_6 : decode prog_44_method_133_code 6 = .ok (.iload_n 1, 1) := by decide +kernel
theorem d_Ar_copyOfRangeByte_7 : decode prog_44_method_133_code 7 = .ok (.isub, 1) := by decide +kernel
theorem d_Ar_copyOfRangeByte_8 : decode prog_44_method_133_code 8 = .ok (.istore_n 3, 1) := by decide +kernel
theorem d_Ar_copyOfRangeByte_9 : decode prog_44_method_133_code 9 = .ok (.iload_n 3, 1) := by decide +kernel
theorem d_Ar_copyOfRangeByte_10 : decode prog_44_method_133_code 10 = .ok (.newarray .byte, 2) := by decide +kernel
theorem d_Ar_copyOfRangeByte_12 : decode prog_44_method_133_code 12 = .ok (.astore 4, 2) := by decide +kernel
theorem d_Ar_copyOfRangeByte_14 : decode prog_44_method_133_code 14 = .ok (.aload_n 0, 1) := by decide +kernel
theorem d_Ar_copyOfRangeByte_15 : decode prog_44_method_133_code 15 = .ok (.iload_n 1, 1) := by decide +kernel
theorem d_Ar_copyOfRangeByte_16 : decode prog_44_method_133_code 16 = .ok (.aload 4, 2) := by decide +kernel
theorem d_Ar_copyOfRangeByte_18 : decode prog_44_method_133_code 18 = .ok (.iconst 0, 1) := by decide +kernel
theorem d_Ar_copyOfRangeByte_19 : decode prog_44_method_133_code 19 = .ok (.aload_n 0, 1) := by decide +kernel
theorem d_Ar_copyOfRangeByte_20 : decode prog_44_method_133_code 20 = .ok (.arraylength, 1) := by decide +kernel
theorem d_Ar_copyOfRangeByte_21 : decode prog_44_method_133_code 21 = .ok (.iload_n 1, 1) := by decide +kernel
theorem d_Ar_copyOfRangeByte_22 : decode prog_44_method_133_code 22 = .ok (.isub, 1) := by decide +kernel
theorem d_Ar_copyOfRangeByte_23 : decode prog_44_method_133_code 23 = .ok (.iload_n 3, 1) := by decide +kernel
theorem d_Ar_copyOfRangeByte_24 : decode prog_44_method_133_code 24 = .ok (.invokestatic 304, 3) := by decide +kernel
theorem d_Ar_copyOfRangeByte_27 : decode prog_44_method_133_code 27 = .ok (.invokestatic 150, 3) := by decide +kernel
theorem d_Ar_copyOfRangeByte_30 : decode prog_44_method_133_code 30 = .ok (.aload 4, 2) := by decide +kernel
theorem d_Ar_copyOfRangeByte_32 : decode prog_44_method_133_code 32 = .ok (.areturn, 1) := by decide +kernel
theorem d_Ss_hugeLength_0 : decode prog_72_method_28_code 0 = .ok (.iload_n 0, 1) := by decide +kernel
theorem d_Ss_hugeLength_1 : decode prog_72_method_28_code 1 = .ok (.iload_n 1, 1) := by decide +kernel
theorem d_Ss_hugeLength_2 : decode prog_72_method_28_code 2 = .ok (.iadd, 1) := by decide +kernel
theorem d_Ss_hugeLength_3 : decode prog_72_method_28_code 3 = .ok (.istore_n 2, 1) := by decide +kernel
theorem d_Ss_hugeLength_4 : decode prog_72_method_28_code 4 = .ok (.iload_n 2, 1) := by decide +kernel
theorem d_Ss_hugeLength_5 : decode prog_72_method_28_code 5 = .ok (.ifCond .ge 44, 3) := by decide +kernel
theorem d_Ss_hugeLength_49 : decode prog_72_method_28_code 49 = .ok (.iload_n 2, 1) := by decide +kernel
theorem d_Ss_hugeLength_50 : decode prog_72_method_28_code 50 = .ok (.ldc 200, 2) := by decide +kernel
theorem d_Ss_hugeLength_52 : decode prog_72_method_28_code 52 = .ok (.if_icmp .gt 6, 3) := by decide +kernel
theorem d_Ss_hugeLength_55 : decode prog_72_method_28_code 55 = .ok (.ldc 200, 2) := by decide +kernel
theorem d_Ss_hugeLength_57 : decode prog_72_method_28_code 57 = .ok (.ireturn, 1) := by decide +kernel
theorem d_Ss_hugeLength_58 : decode prog_72_method_28_code 58 = .ok (.iload_n 2, 1) := by decide +kernel
theorem d_Ss_hugeLength_59 : decode prog_72_method_28_code 59 = .ok (.ireturn, 1) := by decide +kernel
theorem d_Ar_copyOf_6403c_0 : decode prog_44_method_120_code 0 = .ok (.aload_n 2, 1) := by decide +kernel
theorem d_Ar_copyOf_6403c_1 : decode prog_44_method_120_code 1 = .ok (.ldc 110, 2) := by decide +kernel
theorem d_Ar_copyOf_6403c_3 : decode prog_44_method_120_code 3 = .ok (.if_acmp .ne 10, 3) := by decide +kernel
theorem d_Ar_copyOf_6403c_6 : decode prog_44_method_120_code 6 = .ok (.iload_n 1, 1) := by decide +kernel
theorem d_Ar_copyOf_6403c_7 : decode prog_44_method_120_code 7 = .ok (.anewarray 2, 3) := by decide +kernel
theorem d_Ar_copyOf_6403c_10 : decode prog_44_method_120_code 10 = .ok (.goto 14, 3) := by decide +kernel
theorem d_Ar_copyOf_6403c_13 : decode prog_44_method_120_code 13 = .ok (.aload_n 2, 1) := by decide +kernel
theorem d_Ar_copyOf_6403c_24 : decode prog_44_method_120_code 24 = .ok (.astore_n 3, 1) := by decide +kernel
theorem d_Ar_copyOf_6403c_25 : decode prog_44_method_120_code 25 = .ok (.aload_n 0, 1) := by decide +kernel
theorem d_Ar_copyOf_6403c_26 : decode prog_44_method_120_code 26 = .ok (.iconst 0, 1) := by decide +kernel
theorem d_Ar_copyOf_6403c_27 : decode prog_44_method_120_code 27 = .ok (.aload_n 3, 1) := by decide +kernel
theorem d_Ar_copyOf_6403c_28 : decode prog_44_method_120_code 28 = .ok (.iconst 0, 1) := by decide +kernel
theorem d_Ar_copyOf_6403c_29 : decode prog_44_method_120_code 29 = .ok (.aload_n 0, 1) := by decide +kernel
theorem d_Ar_copyOf_6403c_30 : decode prog_44_method_120_code 30 = .ok (.arraylength, 1) := by decide +kernel
theorem d_Ar_copyOf_6403c_31 : decode prog_44_method_120_code 31 = .ok (.iload_n 1, 1) := by decide +kernel
theorem d_Ar_copyOf_6403c_32 : decode prog_44_method_120_code 32 = .ok (.invokestatic 304, 3) := by decide +kernel
theorem d_Ar_copyOf_6403c_35 : decode prog_44_method_120_code 35 = .ok (.invokestatic 150, 3) := by decide +kernel
theorem d_Ar_copyOf_6403c_38 : decode prog_44_method_120_code 38 = .ok (.aload_n 3, 1) := by decide +kernel
theorem d_Ar_copyOf_6403c_39 : decode prog_44_method_120_code 39 = .ok (.areturn, 1) := by decide +kernel
theorem d_In_numberOfLeadingZeros_0 : decode prog_24_method_47_code 0 = .ok (.iload_n 0, 1) := by decide +kernel
theorem d_In_numberOfLeadingZeros_1 : decode prog_24_method_47_code 1 = .ok (.ifCond .gt 14, 3) := by decide +kernel
theorem d_In_numberOfLeadingZeros_4 : decode prog_24_method_47_code 4 = .ok (.iload_n 0, 1) := by decide +kernel
theorem d_In_numberOfLeadingZeros_5 : decode prog_24_method_47_code 5 = .ok (.ifCond .ne 8, 3) := by decide +kernel
theorem d_In_numberOfLeadingZeros_8 : decode prog_24_method_47_code 8 = .ok (.bipush 32, 2) := by decide +kernel
theorem d_In_numberOfLeadingZeros_10 : decode prog_24_method_47_code 10 = .ok (.goto 4, 3) := by decide +kernel
theorem d_In_numberOfLeadingZeros_13 : decode prog_24_method_47_code 13 = .ok (.iconst 0, 1) := by decide +kernel
theorem d_In_numberOfLeadingZeros_14 : decode prog_24_method_47_code 14 = .ok (.ireturn, 1) := by decide +kernel
theorem d_In_numberOfLeadingZeros_15 : decode prog_24_method_47_code 15 = .ok (.bipush 31, 2) := by decide +kernel
theorem d_In_numberOfLeadingZeros_17 : decode prog_24_method_47_code 17 = .ok (.istore_n 1, 1) := by decide +kernel
theorem d_In_numberOfLeadingZeros_18 : decode prog_24_method_47_code 18 = .ok (.iload_n 0, 1) := by decide +kernel
theorem d_In_numberOfLeadingZeros_19 : decode prog_24_method_47_code 19 = .ok (.ldc_w 264, 3) := by decide +kernel
theorem d_In_numberOfLeadingZeros_22 : decode prog_24_method_47_code 22 = .ok (.if_icmp .lt 11, 3) := by decide +kernel
theorem d_In_numberOfLeadingZeros_25 : decode prog_24_method_47_code 25 = .ok (.iinc 1 (-16), 3) := by decide +kernel
theorem d_In_numberOfLeadingZeros_28 : decode prog_24_method_47_code 28 = .ok (.iload_n 0, 1) := by decide +kernel
theorem d_In_numberOfLeadingZeros_29 : decode prog_24_method_47_code 29 = .ok (.bipush 16, 2) := by decide +kernel
theorem d_In_numberOfLeadingZeros_31 : decode prog_24_method_47_code 31 = .ok (.iushr, 1) := by decide +kernel
theorem d_In_numberOfLeadingZeros_32 : decode prog_24_method_47_code 32 = .ok (.istore_n 0, 1) := by decide +kernel
theorem d_In_numberOfLeadingZeros_33 : decode prog_24_method_47_code 33 = .ok (.iload_n 0, 1) := by decide +kernel
theorem d_In_numberOfLeadingZeros_34 : decode prog_24_method_47_code 34 = .ok (.sipush 256, 3) := by decide +kernel
theorem d_In_numberOfLeadingZeros_37 : decode prog_24_method_47_code 37 = .ok (.if_icmp .lt 11, 3) := by decide +kernel
theorem d_In_numberOfLeadingZeros_40 : decode prog_24_method_47_code 40 = .ok (.iinc 1 (-8), 3) := by decide +kernel
theorem d_In_numberOfLeadingZeros_43 : decode prog_24_method_47_code 43 = .ok (.iload_n 0, 1) := by decide +kernel
theorem d_In_numberOfLeadingZeros_44 : decode prog_24_method_47_code 44 = .ok (.bipush 8, 2) := by decide +kernel
theorem d_In_numberOfLeadingZeros_46 : decode prog_24_method_47_code 46 = .ok (.iushr, 1) := by decide +kernel
theorem d_In_numberOfLeadingZeros_47 : decode prog_24_method_47_code 47 = .ok (.istore_n 0, 1) := by decide +kernel
theorem d_In_numberOfLeadingZeros_48 : decode prog_24_method_47_code 48 = .ok (.iload_n 0, 1) := by decide +kernel
theorem d_In_numberOfLeadingZeros_49 : decode prog_24_method_47_code 49 = .ok (.bipush 16, 2) := by decide +kernel
theorem d_In_numberOfLeadingZeros_51 : decode prog_24_method_47_code 51 = .ok (.if_icmp .lt 10, 3) := by decide +kernel
theorem d_In_numberOfLeadingZeros_54 : decode prog_24_method_47_code 54 = .ok (.iinc 1 (-4), 3) := by decide +kernel
theorem d_In_numberOfLeadingZeros_57 : decode prog_24_method_47_code 57 = .ok (.iload_n 0, 1) := by decide +kernel
theorem d_In_numberOfLeadingZeros_58 : decode prog_24_method_47_code 58 = .ok (.iconst 4, 1) := by decide +kernel
theorem d_In_numberOfLeadingZeros_59 : decode prog_24_method_47_code 59 = .ok (.iushr, 1) := by decide +kernel
theorem d_In_numberOfLeadingZeros_60 : decode prog_24_method_47_code 60 = .ok (.istore_n 0, 1) := by decide +kernel
theorem d_In_numberOfLeadingZeros_61 : decode prog_24_method_47_code 61 = .ok (.iload_n 0, 1) := by decide +kernel
theorem d_In_numberOfLeadingZeros_62 : decode prog_24_method_47_code 62 = .ok (.iconst 4, 1) := by decide +kernel
theorem d_In_numberOfLeadingZeros_63 : decode prog_24_method_47_code 63 = .ok (.if_icmp .lt 10, 3) := by decide +kernel
theorem d_In_numberOfLeadingZeros_66 : decode prog_24_method_47_code 66 = .ok (.iinc 1 (-2), 3) := by decide +kernel
theorem d_In_numberOfLeadingZeros_69 : decode prog_24_method_47_code 69 = .ok (.iload_n 0, 1) := by decide +kernel
theorem d_In_numberOfLeadingZeros_70 : decode prog_24_method_47_code 70 = .ok (.iconst 2, 1) := by decide +kernel
theorem d_In_numberOfLeadingZeros_71 : decode prog_24_method_47_code 71 = .ok (.iushr, 1) := by decide +kernel
theorem d_In_numberOfLeadingZeros_72 : decode prog_24_method_47_code 72 = .ok (.istore_n 0, 1) := by decide +kernel
theorem d_In_numberOfLeadingZeros_73 : decode prog_24_method_47_code 73 = .ok (.iload_n 1, 1) := by decide +kernel
theorem d_In_numberOfLeadingZeros_74 : decode prog_24_method_47_code 74 = .ok (.iload_n 0, 1) := by decide +kernel
theorem d_In_numberOfLeadingZeros_75 : decode prog_24_method_47_code 75 = .ok (.iconst 1, 1) := by decide +kernel
theorem d_In_numberOfLeadingZeros_76 : decode prog_24_method_47_code 76 = .ok (.iushr, 1) := by decide +kernel
theorem d_In_numberOfLeadingZeros_77 : decode prog_24_method_47_code 77 = .ok (.isub, 1) := by decide +kernel
theorem d_In_numberOfLeadingZeros_78 : decode prog_24_method_47_code 78 = .ok (.ireturn, 1) := by decide +kernel
theorem d_Hn_init_0 : decode prog_50_method_1_code 0 = .ok (.aload_n 0, 1) := by decide +kernel
theorem d_Hn_init_1 : decode prog_50_method_1_code 1 = .ok (.invokespecial 1, 3) := by decide +kernel
theorem d_Hn_init_4 : decode prog_50_method_1_code 4 = .ok (.aload_n 0, 1) := by decide +kernel
theorem d_Hn_init_5 : decode prog_50_method_1_code 5 = .ok (.iload_n 1, 1) := by decide +kernel
theorem d_Hn_init_6 : decode prog_50_method_1_code 6 = .ok (.putfield 7, 3) := by decide +kernel
theorem d_Hn_init_9 : decode prog_50_method_1_code 9 = .ok (.aload_n 0, 1) := by decide +kernel
theorem d_Hn_init_10 : decode prog_50_method_1_code 10 = .ok (.aload_n 2, 1) := by decide +kernel
theorem d_Hn_init_11 : decode prog_50_method_1_code 11 = .ok (.putfield 13, 3) := by decide +kernel
theorem d_Hn_init_14 : decode prog_50_method_1_code 14 = .ok (.aload_n 0, 1) := by decide +kernel
theorem d_Hn_init_15 : decode prog_50_method_1_code 15 = .ok (.aload_n 3, 1) := by decide +kernel
theorem d_Hn_init_16 : decode prog_50_method_1_code 16 = .ok (.putfield 17, 3) := by decide +kernel
theorem d_Hn_init_19 : decode prog_50_method_1_code 19 = .ok (.aload_n 0, 1) := by decide +kernel
theorem d_Hn_init_20 : decode prog_50_method_1_code 20 = .ok (.aload 4, 2) := by decide +kernel
theorem d_Hn_init_22 : decode prog_50_method_1_code 22 = .ok (.putfield 20, 3) := by decide +kernel
theorem d_Hn_init_25 : decode prog_50_method_1_code 25 = .ok (.return_, 1) := by decide +kernel
theorem d_Ar_checkLength_0 : decode prog_44_method_131_code 0 = .ok (.iload_n 1, 1) := by decide +kernel
theorem d_Ar_checkLength_1 : decode prog_44_method_131_code 1 = .ok (.iload_n 0, 1) := by decide +kernel
theorem d_Ar_checkLength_2 : decode prog_44_method_131_code 2 = .ok (.if_icmp .ge 35, 3) := by decide +kernel
theorem d_Ar_checkLength_37 : decode prog_44_method_131_code 37 = .ok (.return_, 1) := by decide +kernel
