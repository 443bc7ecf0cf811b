theorem dX2_feel_92 : decode prog_4_method_9_code 92 = .ok (.iaload, 1) := by decide +kernel
theorem dX2_feel_93 : decode prog_4_method_9_code 93 = .ok (.aload_n 0, 1) := by decide +kernel
theorem dX2_feel_94 : decode prog_4_method_9_code 94 = .ok (.iconst 0, 1) := by decide +kernel
theorem dX2_feel_95 : decode prog_4_method_9_code 95 = .ok (.iload_n 1, 1) := by decide +kernel
theorem dX2_feel_96 : decode prog_4_method_9_code 96 = .ok (.iload_n 3, 1) := by decide +kernel
theorem dX2_feel_97 : decode prog_4_method_9_code 97 = .ok (.invokevirtual 126, 3) := by decide +kernel
theorem dX2_feel_100 : decode prog_4_method_9_code 100 = .ok (.aload_n 0, 1) := by decide +kernel
theorem dX2_feel_101 : decode prog_4_method_9_code 101 = .ok (.getfield 34, 3) := by decide +kernel
theorem dX2_feel_104 : decode prog_4_method_9_code 104 = .ok (.iload_n 1, 1) := by decide +kernel
theorem dX2_feel_105 : decode prog_4_method_9_code 105 = .ok (.iaload, 1) := by decide +kernel
theorem dX2_feel_106 : decode prog_4_method_9_code 106 = .ok (.invokestatic 136, 3) := by decide +kernel
theorem dX2_feel_109 : decode prog_4_method_9_code 109 = .ok (.iadd, 1) := by decide +kernel
theorem dX2_feel_110 : decode prog_4_method_9_code 110 = .ok (.iastore, 1) := by decide +kernel
theorem dX2_feel_111 : decode prog_4_method_9_code 111 = .ok (.return_, 1) := by decide +kernel
theorem dX2_price_0 : decode prog_4_method_11_code 0 = .ok (.aload_n 0, 1) := by decide +kernel
theorem dX2_price_1 : decode prog_4_method_11_code 1 = .ok (.getfield 58, 3) := by decide +kernel
theorem dX2_price_4 : decode prog_4_method_11_code 4 = .ok (.ifnonnull 5, 3) := by decide +kernel
theorem dX2_price_7 : decode prog_4_method_11_code 7 = .ok (.iconst 0, 1) := by decide +kernel
theorem dX2_price_8 : decode prog_4_method_11_code 8 = .ok (.ireturn, 1) := by decide +kernel
theorem dX2_price_9 : decode prog_4_method_11_code 9 = .ok (.aload_n 0, 1) := by decide +kernel
theorem dX2_price_10 : decode prog_4_method_11_code 10 = .ok (.getfield 39, 3) := by decide +kernel
theorem dX2_price_13 : decode prog_4_method_11_code 13 = .ok (.iconst 0, 1) := by decide +kernel
theorem dX2_price_14 : decode prog_4_method_11_code 14 = .ok (.aload_n 0, 1) := by decide +kernel
theorem dX2_price_15 : decode prog_4_method_11_code 15 = .ok (.getfield 12, 3) := by decide +kernel
theorem dX2_price_18 : decode prog_4_method_11_code 18 = .ok (.getfield 123, 3) := by decide +kernel
theorem dX2_price_21 : decode prog_4_method_11_code 21 = .ok (.iload_n 2, 1) := by decide +kernel
theorem dX2_price_22 : decode prog_4_method_11_code 22 = .ok (.iaload, 1) := by decide +kernel
theorem dX2_price_23 : decode prog_4_method_11_code 23 = .ok (.iastore, 1) := by decide +kernel
theorem dX2_price_24 : decode prog_4_method_11_code 24 = .ok (.aload_n 0, 1) := by decide +kernel
theorem dX2_price_25 : decode prog_4_method_11_code 25 = .ok (.getfield 39, 3) := by decide +kernel
theorem dX2_price_28 : decode prog_4_method_11_code 28 = .ok (.iconst 1, 1) := by decide +kernel
theorem dX2_price_29 : decode prog_4_method_11_code 29 = .ok (.aload_n 0, 1) := by decide +kernel
theorem dX2_price_30 : decode prog_4_method_11_code 30 = .ok (.getfield 12, 3) := by decide +kernel
theorem dX2_price_33 : decode prog_4_method_11_code 33 = .ok (.getfield 86, 3) := by decide +kernel
theorem dX2_price_36 : decode prog_4_method_11_code 36 = .ok (.iastore, 1) := by decide +kernel
theorem dX2_price_37 : decode prog_4_method_11_code 37 = .ok (.aload_n 0, 1) := by decide +kernel
theorem dX2_price_38 : decode prog_4_method_11_code 38 = .ok (.getfield 39, 3) := by decide +kernel
theorem dX2_price_41 : decode prog_4_method_11_code 41 = .ok (.iconst 2, 1) := by decide +kernel
theorem dX2_price_42 : decode prog_4_method_11_code 42 = .ok (.iload_n 3, 1) := by decide +kernel
theorem dX2_price_43 : decode prog_4_method_11_code 43 = .ok (.iastore, 1) := by decide +kernel
theorem dX2_price_44 : decode prog_4_method_11_code 44 = .ok (.aload_n 0, 1) := by decide +kernel
theorem dX2_price_45 : decode prog_4_method_11_code 45 = .ok (.getfield 39, 3) := by decide +kernel
theorem dX2_price_48 : decode prog_4_method_11_code 48 = .ok (.iconst 3, 1) := by decide +kernel
theorem dX2_price_49 : decode prog_4_method_11_code 49 = .ok (.aload_n 0, 1) := by decide +kernel
theorem dX2_price_50 : decode prog_4_method_11_code 50 = .ok (.getfield 34, 3) := by decide +kernel
theorem dX2_price_53 : decode prog_4_method_11_code 53 = .ok (.iload_n 2, 1) := by decide +kernel
theorem dX2_price_54 : decode prog_4_method_11_code 54 = .ok (.iaload, 1) := by decide +kernel
theorem dX2_price_55 : decode prog_4_method_11_code 55 = .ok (.iastore, 1) := by decide +kernel
theorem dX2_price_56 : decode prog_4_method_11_code 56 = .ok (.aload_n 0, 1) := by decide +kernel
theorem dX2_price_57 : decode prog_4_method_11_code 57 = .ok (.getfield 39, 3) := by decide +kernel
theorem dX2_price_60 : decode prog_4_method_11_code 60 = .ok (.iconst 4, 1) := by decide +kernel
theorem dX2_price_61 : decode prog_4_method_11_code 61 = .ok (.aload_n 0, 1) := by decide +kernel
theorem dX2_price_62 : decode prog_4_method_11_code 62 = .ok (.getfield 12, 3) := by decide +kernel
theorem dX2_price_65 : decode prog_4_method_11_code 65 = .ok (.getfield 104, 3) := by decide +kernel
theorem dX2_price_68 : decode prog_4_method_11_code 68 = .ok (.iload_n 2, 1) := by decide +kernel
theorem dX2_price_69 : decode prog_4_method_11_code 69 = .ok (.iaload, 1) := by decide +kernel
theorem dX2_price_70 : decode prog_4_method_11_code 70 = .ok (.iastore, 1) := by decide +kernel
theorem dX2_price_71 : decode prog_4_method_11_code 71 = .ok (.aload_n 0, 1) := by decide +kernel
theorem dX2_price_72 : decode prog_4_method_11_code 72 = .ok (.getfield 39, 3) := by decide +kernel
theorem dX2_price_75 : decode prog_4_method_11_code 75 = .ok (.iconst 5, 1) := by decide +kernel
theorem dX2_price_76 : decode prog_4_method_11_code 76 = .ok (.iload_n 2, 1) := by decide +kernel
theorem dX2_price_77 : decode prog_4_method_11_code 77 = .ok (.iastore, 1) := by decide +kernel
theorem dX2_price_78 : decode prog_4_method_11_code 78 = .ok (.iconst 0, 1) := by decide +kernel
theorem dX2_price_79 : decode prog_4_method_11_code 79 = .ok (.bipush 99, 2) := by decide +kernel
theorem dX2_price_81 : decode prog_4_method_11_code 81 = .ok (.aload_n 0, 1) := by decide +kernel
theorem dX2_price_82 : decode prog_4_method_11_code 82 = .ok (.getfield 58, 3) := by decide +kernel
theorem dX2_price_85 : decode prog_4_method_11_code 85 = .ok (.iload_n 1, 1) := by decide +kernel
theorem dX2_price_86 : decode prog_4_method_11_code 86 = .ok (.aload_n 0, 1) := by decide +kernel
theorem dX2_price_87 : decode prog_4_method_11_code 87 = .ok (.getfield 39, 3) := by decide +kernel
theorem dX2_price_90 : decode prog_4_method_11_code 90 = .ok (.aload_n 0, 1) := by decide +kernel
theorem dX2_price_91 : decode prog_4_method_11_code 91 = .ok (.getfield 42, 3) := by decide +kernel
theorem dX2_price_94 : decode prog_4_method_11_code 94 = .ok (.invokevirtual 146, 3) := by decide +kernel
theorem dX2_price_97 : decode prog_4_method_11_code 97 = .ok (.invokestatic 150, 3) := by decide +kernel
theorem dX2_price_100 : decode prog_4_method_11_code 100 = .ok (.invokestatic 130, 3) := by decide +kernel
theorem dX2_price_103 : decode prog_4_method_11_code 103 = .ok (.ireturn, 1) := by decide +kernel
theorem dX2_rise_0 : decode prog_4_method_10_code 0 = .ok (.aload_n 0, 1) := by decide +kernel
theorem dX2_rise_1 : decode prog_4_method_10_code 1 = .ok (.getfield 18, 3) := by decide +kernel
theorem dX2_rise_4 : decode prog_4_method_10_code 4 = .ok (.iload_n 1, 1) := by decide +kernel
theorem dX2_rise_5 : decode prog_4_method_10_code 5 = .ok (.dup2, 1) := by decide +kernel
theorem dX2_rise_6 : decode prog_4_method_10_code 6 = .ok (.iaload, 1) := by decide +kernel
theorem dX2_rise_7 : decode prog_4_method_10_code 7 = .ok (.aload_n 0, 1) := by decide +kernel
theorem dX2_rise_8 : decode prog_4_method_10_code 8 = .ok (.iconst 1, 1) := by decide +kernel
theorem dX2_rise_9 : decode prog_4_method_10_code 9 = .ok (.iload_n 1, 1) := by decide +kernel
theorem dX2_rise_10 : decode prog_4_method_10_code 10 = .ok (.iload_n 2, 1) := by decide +kernel
theorem dX2_rise_11 : decode prog_4_method_10_code 11 = .ok (.invokevirtual 126, 3) := by decide +kernel
theorem dX2_rise_14 : decode prog_4_method_10_code 14 = .ok (.iadd, 1) := by decide +kernel
theorem dX2_rise_15 : decode prog_4_method_10_code 15 = .ok (.iastore, 1) := by decide +kernel
theorem dX2_rise_16 : decode prog_4_method_10_code 16 = .ok (.aload_n 0, 1) := by decide +kernel
theorem dX2_rise_17 : decode prog_4_method_10_code 17 = .ok (.getfield 31, 3) := by decide +kernel
theorem dX2_rise_20 : decode prog_4_method_10_code 20 = .ok (.iload_n 1, 1) := by decide +kernel
theorem dX2_rise_21 : decode prog_4_method_10_code 21 = .ok (.dup2, 1) := by decide +kernel
theorem dX2_rise_22 : decode prog_4_method_10_code 22 = .ok (.iaload, 1) := by decide +kernel
theorem dX2_rise_23 : decode prog_4_method_10_code 23 = .ok (.iconst 1, 1) := by decide +kernel
theorem dX2_rise_24 : decode prog_4_method_10_code 24 = .ok (.iadd, 1) := by decide +kernel
theorem dX2_rise_25 : decode prog_4_method_10_code 25 = .ok (.iastore, 1) := by decide +kernel
theorem dX2_rise_26 : decode prog_4_method_10_code 26 = .ok (.aload_n 0, 1) := by decide +kernel
theorem dX2_rise_27 : decode prog_4_method_10_code 27 = .ok (.iload_n 1, 1) := by decide +kernel
theorem dX2_rise_28 : decode prog_4_method_10_code 28 = .ok (.putfield 52, 3) := by decide +kernel
theorem dX2_rise_31 : decode prog_4_method_10_code 31 = .ok (.aload_n 0, 1) := by decide +kernel
theorem dX2_rise_32 : decode prog_4_method_10_code 32 = .ok (.aload_n 0, 1) := by decide +kernel
theorem dX2_rise_33 : decode prog_4_method_10_code 33 = .ok (.getfield 12, 3) := by decide +kernel
theorem dX2_rise_36 : decode prog_4_method_10_code 36 = .ok (.getfield 123, 3) := by decide +kernel
theorem dX2_rise_39 : decode prog_4_method_10_code 39 = .ok (.iload_n 1, 1) := by decide +kernel
theorem dX2_rise_40 : decode prog_4_method_10_code 40 = .ok (.iaload, 1) := by decide +kernel
theorem dX2_rise_41 : decode prog_4_method_10_code 41 = .ok (.putfield 55, 3) := by decide +kernel
theorem dX2_rise_44 : decode prog_4_method_10_code 44 = .ok (.aload_n 0, 1) := by decide +kernel
theorem dX2_rise_45 : decode prog_4_method_10_code 45 = .ok (.getfield 12, 3) := by decide +kernel
theorem dX2_rise_48 : decode prog_4_method_10_code 48 = .ok (.getfield 101, 3) := by decide +kernel
theorem dX2_rise_51 : decode prog_4_method_10_code 51 = .ok (.iload_n 1, 1) := by decide +kernel
theorem dX2_rise_52 : decode prog_4_method_10_code 52 = .ok (.iaload, 1) := by decide +kernel
theorem dX2_rise_53 : decode prog_4_method_10_code 53 = .ok (.aload_n 0, 1) := by decide +kernel
theorem dX2_rise_54 : decode prog_4_method_10_code 54 = .ok (.getfield 55, 3) := by decide +kernel
theorem dX2_rise_57 : decode prog_4_method_10_code 57 = .ok (.iload_n 3, 1) := by decide +kernel
theorem dX2_rise_58 : decode prog_4_method_10_code 58 = .ok (.invokestatic 139, 3) := by decide +kernel
theorem dX2_rise_61 : decode prog_4_method_10_code 61 = .ok (.istore 4, 2) := by decide +kernel
theorem dX2_rise_63 : decode prog_4_method_10_code 63 = .ok (.iconst 0, 1) := by decide +kernel
theorem dX2_rise_64 : decode prog_4_method_10_code 64 = .ok (.istore 5, 2) := by decide +kernel
theorem dX2_rise_66 : decode prog_4_method_10_code 66 = .ok (.iload 5, 2) := by decide +kernel
theorem dX2_rise_68 : decode prog_4_method_10_code 68 = .ok (.bipush 8, 2) := by decide +kernel
theorem dX2_rise_70 : decode prog_4_method_10_code 70 = .ok (.if_icmp .ge 31, 3) := by decide +kernel
theorem dX2_rise_73 : decode prog_4_method_10_code 73 = .ok (.aload_n 0, 1) := by decide +kernel
theorem dX2_rise_74 : decode prog_4_method_10_code 74 = .ok (.getfield 12, 3) := by decide +kernel
theorem dX2_rise_77 : decode prog_4_method_10_code 77 = .ok (.iload_n 1, 1) := by decide +kernel
theorem dX2_rise_78 : decode prog_4_method_10_code 78 = .ok (.iload 4, 2) := by decide +kernel
theorem dX2_rise_80 : decode prog_4_method_10_code 80 = .ok (.invokevirtual 142, 3) := by decide +kernel
theorem dX2_rise_83 : decode prog_4_method_10_code 83 = .ok (.ifCond .ne 18, 3) := by decide +kernel
theorem dX2_rise_86 : decode prog_4_method_10_code 86 = .ok (.iload 4, 2) := by decide +kernel
theorem dX2_rise_88 : decode prog_4_method_10_code 88 = .ok (.iconst 1, 1) := by decide +kernel
theorem dX2_rise_89 : decode prog_4_method_10_code 89 = .ok (.iadd, 1) := by decide +kernel
theorem dX2_rise_90 : decode prog_4_method_10_code 90 = .ok (.invokestatic 117, 3) := by decide +kernel
theorem dX2_rise_93 : decode prog_4_method_10_code 93 = .ok (.istore 4, 2) := by decide +kernel
theorem dX2_rise_95 : decode prog_4_method_10_code 95 = .ok (.iinc 5 1, 3) := by decide +kernel
theorem dX2_rise_98 : decode prog_4_method_10_code 98 = .ok (.goto (-32), 3) := by decide +kernel
theorem dX2_rise_101 : decode prog_4_method_10_code 101 = .ok (.aload_n 0, 1) := by decide +kernel
theorem dX2_rise_102 : decode prog_4_method_10_code 102 = .ok (.getfield 12, 3) := by decide +kernel
theorem dX2_rise_105 : decode prog_4_method_10_code 105 = .ok (.getfield 123, 3) := by decide +kernel
theorem dX2_rise_108 : decode prog_4_method_10_code 108 = .ok (.iload_n 1, 1) := by decide +kernel
theorem dX2_rise_109 : decode prog_4_method_10_code 109 = .ok (.iload 4, 2) := by decide +kernel
theorem dX2_rise_111 : decode prog_4_method_10_code 111 = .ok (.iastore, 1) := by decide +kernel
theorem dX2_rise_112 : decode prog_4_method_10_code 112 = .ok (.aload_n 0, 1) := by decide +kernel
theorem dX2_rise_113 : decode prog_4_method_10_code 113 = .ok (.getfield 34, 3) := by decide +kernel
theorem dX2_rise_116 : decode prog_4_method_10_code 116 = .ok (.iload_n 1, 1) := by decide +kernel
theorem dX2_rise_117 : decode prog_4_method_10_code 117 = .ok (.iconst 0, 1) := by decide +kernel
theorem dX2_rise_118 : decode prog_4_method_10_code 118 = .ok (.iastore, 1) := by decide +kernel
theorem dX2_rise_119 : decode prog_4_method_10_code 119 = .ok (.return_, 1) := by decide +kernel
theorem dX2_ofAll_0 : decode prog_4_method_12_code 0 = .ok (.iload_n 1, 1) := by decide +kernel
theorem dX2_ofAll_1 : decode prog_4_method_12_code 1 = .ok (.tableswitch 45 0 2 #[27, 32, 40], 27) := by decide +kernel
theorem dX2_ofAll_28 : decode prog_4_method_12_code 28 = .ok (.aload_n 0, 1) := by decide +kernel
theorem dX2_ofAll_29 : decode prog_4_method_12_code 29 = .ok (.invokevirtual 153, 3) := by decide +kernel
theorem dX2_ofAll_32 : decode prog_4_method_12_code 32 = .ok (.ireturn, 1) := by decide +kernel
theorem dX2_ofAll_33 : decode prog_4_method_12_code 33 = .ok (.aload_n 0, 1) := by decide +kernel
theorem dX2_ofAll_34 : decode prog_4_method_12_code 34 = .ok (.getfield 12, 3) := by decide +kernel
theorem dX2_ofAll_37 : decode prog_4_method_12_code 37 = .ok (.getfield 86, 3) := by decide +kernel
theorem dX2_ofAll_40 : decode prog_4_method_12_code 40 = .ok (.ireturn, 1) := by decide +kernel
theorem dX2_ofAll_41 : decode prog_4_method_12_code 41 = .ok (.aload_n 0, 1) := by decide +kernel
theorem dX2_ofAll_42 : decode prog_4_method_12_code 42 = .ok (.invokevirtual 157, 3) := by decide +kernel
theorem dX2_ofAll_45 : decode prog_4_method_12_code 45 = .ok (.ireturn, 1) := by decide +kernel
theorem dX2_ofAll_46 : decode prog_4_method_12_code 46 = .ok (.aload_n 0, 1) := by decide +kernel
theorem dX2_ofAll_47 : decode prog_4_method_12_code 47 = .ok (.getfield 49, 3) := by decide +kernel
theorem dX2_ofAll_50 : decode prog_4_method_12_code 50 = .ok (.ireturn, 1) := by decide +kernel
theorem dX2_costOfAll_0 : decode prog_4_method_14_code 0 = .ok (.aload_n 0, 1) := by decide +kernel
theorem dX2_costOfAll_1 : decode prog_4_method_14_code 1 = .ok (.getfield 18, 3) := by decide +kernel
theorem dX2_costOfAll_4 : decode prog_4_method_14_code 4 = .ok (.invokestatic 160, 3) := by decide +kernel
theorem dX2_costOfAll_7 : decode prog_4_method_14_code 7 = .ok (.ireturn, 1) := by decide +kernel
theorem dX2_sum_0 : decode prog_4_method_16_code 0 = .ok (.iconst 0, 1) := by decide +kernel
theorem dX2_sum_1 : decode prog_4_method_16_code 1 = .ok (.istore_n 1, 1) := by decide +kernel
theorem dX2_sum_2 : decode prog_4_method_16_code 2 = .ok (.iconst 0, 1) := by decide +kernel
theorem dX2_sum_3 : decode prog_4_method_16_code 3 = .ok (.istore_n 2, 1) := by decide +kernel
theorem dX2_sum_4 : decode prog_4_method_16_code 4 = .ok (.iload_n 2, 1) := by decide +kernel
theorem dX2_sum_5 : decode prog_4_method_16_code 5 = .ok (.aload_n 0, 1) := by decide +kernel
theorem dX2_sum_6 : decode prog_4_method_16_code 6 = .ok (.arraylength, 1) := by decide +kernel
theorem dX2_sum_7 : decode prog_4_method_16_code 7 = .ok (.if_icmp .ge 15, 3) := by decide +kernel
theorem dX2_sum_10 : decode prog_4_method_16_code 10 = .ok (.iload_n 1, 1) := by decide +kernel
theorem dX2_sum_11 : decode prog_4_method_16_code 11 = .ok (.aload_n 0, 1) := by decide +kernel
theorem dX2_sum_12 : decode prog_4_method_16_code 12 = .ok (.iload_n 2, 1) := by decide +kernel
theorem dX2_sum_13 : decode prog_4_method_16_code 13 = .ok (.iaload, 1) := by decide +kernel
theorem dX2_sum_14 : decode prog_4_method_16_code 14 = .ok (.iadd, 1) := by decide +kernel
theorem dX2_sum_15 : decode prog_4_method_16_code 15 = .ok (.istore_n 1, 1) := by decide +kernel
theorem dX2_sum_16 : decode prog_4_method_16_code 16 = .ok (.iinc 2 1, 3) := by decide +kernel
theorem dX2_sum_19 : decode prog_4_method_16_code 19 = .ok (.goto (-15), 3) := by decide +kernel
theorem dX2_sum_22 : decode prog_4_method_16_code 22 = .ok (.iload_n 1, 1) := by decide +kernel
theorem dX2_sum_23 : decode prog_4_method_16_code 23 = .ok (.ireturn, 1) := by decide +kernel
theorem dX2_upsOfAll_0 : decode prog_4_method_15_code 0 = .ok (.aload_n 0, 1) := by decide +kernel
theorem dX2_upsOfAll_1 : decode prog_4_method_15_code 1 = .ok (.getfield 31, 3) := by decide +kernel
theorem dX2_upsOfAll_4 : decode prog_4_method_15_code 4 = .ok (.invokestatic 160, 3) := by decide +kernel
theorem dX2_upsOfAll_7 : decode prog_4_method_15_code 7 = .ok (.ireturn, 1) := by decide +kernel
theorem dX2_ofOne_0 : decode prog_4_method_13_code 0 = .ok (.iload_n 1, 1) := by decide +kernel
theorem dX2_ofOne_1 : decode prog_4_method_13_code 1 = .ok (.tableswitch 59 1 4 #[31, 38, 45, 52], 31) := by decide +kernel
theorem dX2_ofOne_32 : decode prog_4_method_13_code 32 = .ok (.aload_n 0, 1) := by decide +kernel
theorem dX2_ofOne_33 : decode prog_4_method_13_code 33 = .ok (.getfield 18, 3) := by decide +kernel
theorem dX2_ofOne_36 : decode prog_4_method_13_code 36 = .ok (.iload_n 2, 1) := by decide +kernel
theorem dX2_ofOne_37 : decode prog_4_method_13_code 37 = .ok (.iaload, 1) := by decide +kernel
theorem dX2_ofOne_38 : decode prog_4_method_13_code 38 = .ok (.ireturn, 1) := by decide +kernel
theorem dX2_ofOne_39 : decode prog_4_method_13_code 39 = .ok (.aload_n 0, 1) := by decide +kernel
theorem dX2_ofOne_40 : decode prog_4_method_13_code 40 = .ok (.getfield 22, 3) := by decide +kernel
theorem dX2_ofOne_43 : decode prog_4_method_13_code 43 = .ok (.iload_n 2, 1) := by decide +kernel
theorem dX2_ofOne_44 : decode prog_4_method_13_code 44 = .ok (.iaload, 1) := by decide +kernel
theorem dX2_ofOne_45 : decode prog_4_method_13_code 45 = .ok (.ireturn, 1) := by decide +kernel
theorem dX2_ofOne_46 : decode prog_4_method_13_code 46 = .ok (.aload_n 0, 1) := by decide +kernel
theorem dX2_ofOne_47 : decode prog_4_method_13_code 47 = .ok (.getfield 28, 3) := by decide +kernel
theorem dX2_ofOne_50 : decode prog_4_method_13_code 50 = .ok (.iload_n 2, 1) := by decide +kernel
theorem dX2_ofOne_51 : decode prog_4_method_13_code 51 = .ok (.iaload, 1) := by decide +kernel
theorem dX2_ofOne_52 : decode prog_4_method_13_code 52 = .ok (.ireturn, 1) := by decide +kernel
theorem dX2_ofOne_53 : decode prog_4_method_13_code 53 = .ok (.aload_n 0, 1) := by decide +kernel
theorem dX2_ofOne_54 : decode prog_4_method_13_code 54 = .ok (.getfield 31, 3) := by decide +kernel
theorem dX2_ofOne_57 : decode prog_4_method_13_code 57 = .ok (.iload_n 2, 1) := by decide +kernel
theorem dX2_ofOne_58 : decode prog_4_method_13_code 58 = .ok (.iaload, 1) := by decide +kernel
theorem dX2_ofOne_59 : decode prog_4_method_13_code 59 = .ok (.ireturn, 1) := by decide +kernel
theorem dX2_ofOne_60 : decode prog_4_method_13_code 60 = .ok (.aload_n 0, 1) := by decide +kernel
theorem dX2_ofOne_61 : decode prog_4_method_13_code 61 = .ok (.getfield 12, 3) := by decide +kernel
theorem dX2_ofOne_64 : decode prog_4_method_13_code 64 = .ok (.getfield 123, 3) := by decide +kernel
theorem dX2_ofOne_67 : decode prog_4_method_13_code 67 = .ok (.iload_n 2, 1) := by decide +kernel
theorem dX2_ofOne_68 : decode prog_4_method_13_code 68 = .ok (.iaload, 1) := by decide +kernel
theorem dX2_ofOne_69 : decode prog_4_method_13_code 69 = .ok (.ireturn, 1) := by decide +kernel
theorem dX2_takeRow_0 : decode prog_4_method_3_code 0 = .ok (.aload_n 0, 1) := by decide +kernel
theorem dX2_takeRow_1 : decode prog_4_method_3_code 1 = .ok (.iload_n 2, 1) := by decide +kernel
theorem dX2_takeRow_2 : decode prog_4_method_3_code 2 = .ok (.putfield 45, 3) := by decide +kernel
theorem dX2_takeRow_5 : decode prog_4_method_3_code 5 = .ok (.iload_n 1, 1) := by decide +kernel
theorem dX2_takeRow_6 : decode prog_4_method_3_code 6 = .ok (.istore_n 3, 1) := by decide +kernel
theorem dX2_takeRow_7 : decode prog_4_method_3_code 7 = .ok (.iload_n 2, 1) := by decide +kernel
theorem dX2_takeRow_8 : decode prog_4_method_3_code 8 = .ok (.iconst 1, 1) := by decide +kernel
theorem dX2_takeRow_9 : decode prog_4_method_3_code 9 = .ok (.isub, 1) := by decide +kernel
theorem dX2_takeRow_10 : decode prog_4_method_3_code 10 = .ok (.istore 4, 2) := by decide +kernel
theorem dX2_takeRow_12 : decode prog_4_method_3_code 12 = .ok (.iload 4, 2) := by decide +kernel
theorem dX2_takeRow_14 : decode prog_4_method_3_code 14 = .ok (.ifCond .lt 25, 3) := by decide +kernel
theorem dX2_takeRow_17 : decode prog_4_method_3_code 17 = .ok (.aload_n 0, 1) := by decide +kernel
theorem dX2_takeRow_18 : decode prog_4_method_3_code 18 = .ok (.getfield 25, 3) := by decide +kernel
theorem dX2_takeRow_21 : decode prog_4_method_3_code 21 = .ok (.iload 4, 2) := by decide +kernel
theorem dX2_takeRow_23 : decode prog_4_method_3_code 23 = .ok (.iload_n 3, 1) := by decide +kernel
theorem dX2_takeRow_24 : decode prog_4_method_3_code 24 = .ok (.iconst 3, 1) := by decide +kernel
theorem dX2_takeRow_25 : decode prog_4_method_3_code 25 = .ok (.irem, 1) := by decide +kernel
theorem dX2_takeRow_26 : decode prog_4_method_3_code 26 = .ok (.iconst 1, 1) := by decide +kernel
theorem dX2_takeRow_27 : decode prog_4_method_3_code 27 = .ok (.isub, 1) := by decide +kernel
theorem dX2_takeRow_28 : decode prog_4_method_3_code 28 = .ok (.iastore, 1) := by decide +kernel
theorem dX2_takeRow_29 : decode prog_4_method_3_code 29 = .ok (.iload_n 3, 1) := by decide +kernel
theorem dX2_takeRow_30 : decode prog_4_method_3_code 30 = .ok (.iconst 3, 1) := by decide +kernel
theorem dX2_takeRow_31 : decode prog_4_method_3_code 31 = .ok (.idiv, 1) := by decide +kernel
theorem dX2_takeRow_32 : decode prog_4_method_3_code 32 = .ok (.istore_n 3, 1) := by decide +kernel
theorem dX2_takeRow_33 : decode prog_4_method_3_code 33 = .ok (.iinc 4 (-1), 3) := by decide +kernel
theorem dX2_takeRow_36 : decode prog_4_method_3_code 36 = .ok (.goto (-24), 3) := by decide +kernel
theorem dX2_takeRow_39 : decode prog_4_method_3_code 39 = .ok (.return_, 1) := by decide +kernel
theorem dX2_digits_0 : decode prog_4_method_5_code 0 = .ok (.iconst 0, 1) := by decide +kernel
theorem dX2_digits_1 : decode prog_4_method_5_code 1 = .ok (.istore_n 1, 1) := by decide +kernel
theorem dX2_digits_2 : decode prog_4_method_5_code 2 = .ok (.iconst 0, 1) := by decide +kernel
theorem dX2_digits_3 : decode prog_4_method_5_code 3 = .ok (.istore_n 2, 1) := by decide +kernel
theorem dX2_digits_4 : decode prog_4_method_5_code 4 = .ok (.iload_n 2, 1) := by decide +kernel
theorem dX2_digits_5 : decode prog_4_method_5_code 5 = .ok (.aload_n 0, 1) := by decide +kernel
theorem dX2_digits_6 : decode prog_4_method_5_code 6 = .ok (.getfield 45, 3) := by decide +kernel
theorem dX2_digits_9 : decode prog_4_method_5_code 9 = .ok (.if_icmp .ge 23, 3) := by decide +kernel
theorem dX2_digits_12 : decode prog_4_method_5_code 12 = .ok (.iload_n 1, 1) := by decide +kernel
theorem dX2_digits_13 : decode prog_4_method_5_code 13 = .ok (.bipush 10, 2) := by decide +kernel
theorem dX2_digits_15 : decode prog_4_method_5_code 15 = .ok (.imul, 1) := by decide +kernel
theorem dX2_digits_16 : decode prog_4_method_5_code 16 = .ok (.aload_n 0, 1) := by decide +kernel
theorem dX2_digits_17 : decode prog_4_method_5_code 17 = .ok (.getfield 25, 3) := by decide +kernel
theorem dX2_digits_20 : decode prog_4_method_5_code 20 = .ok (.iload_n 2, 1) := by decide +kernel
theorem dX2_digits_21 : decode prog_4_method_5_code 21 = .ok (.iaload, 1) := by decide +kernel
theorem dX2_digits_22 : decode prog_4_method_5_code 22 = .ok (.iadd, 1) := by decide +kernel
theorem dX2_digits_23 : decode prog_4_method_5_code 23 = .ok (.iconst 2, 1) := by decide +kernel
theorem dX2_digits_24 : decode prog_4_method_5_code 24 = .ok (.iadd, 1) := by decide +kernel
theorem dX2_digits_25 : decode prog_4_method_5_code 25 = .ok (.istore_n 1, 1) := by decide +kernel
theorem dX2_digits_26 : decode prog_4_method_5_code 26 = .ok (.iinc 2 1, 3) := by decide +kernel
theorem dX2_digits_29 : decode prog_4_method_5_code 29 = .ok (.goto (-25), 3) := by decide +kernel
theorem dX2_digits_32 : decode prog_4_method_5_code 32 = .ok (.iload_n 1, 1) := by decide +kernel
theorem dX2_digits_33 : decode prog_4_method_5_code 33 = .ok (.ireturn, 1) := by decide +kernel
theorem dX2_drawWinds_0 : decode prog_4_method_4_code 0 = .ok (.aload_n 0, 1) := by decide +kernel
theorem dX2_drawWinds_1 : decode prog_4_method_4_code 1 = .ok (.bipush 10, 2) := by decide +kernel
theorem dX2_drawWinds_3 : decode prog_4_method_4_code 3 = .ok (.putfield 45, 3) := by decide +kernel
theorem dX2_drawWinds_6 : decode prog_4_method_4_code 6 = .ok (.iload_n 1, 1) := by decide +kernel
theorem dX2_drawWinds_7 : decode prog_4_method_4_code 7 = .ok (.istore 4, 2) := by decide +kernel
theorem dX2_drawWinds_9 : decode prog_4_method_4_code 9 = .ok (.iconst 0, 1) := by decide +kernel
theorem dX2_drawWinds_10 : decode prog_4_method_4_code 10 = .ok (.istore 5, 2) := by decide +kernel
theorem dX2_drawWinds_12 : decode prog_4_method_4_code 12 = .ok (.iload 5, 2) := by decide +kernel
theorem dX2_drawWinds_14 : decode prog_4_method_4_code 14 = .ok (.aload_n 0, 1) := by decide +kernel
theorem dX2_drawWinds_15 : decode prog_4_method_4_code 15 = .ok (.getfield 45, 3) := by decide +kernel
theorem dX2_drawWinds_18 : decode prog_4_method_4_code 18 = .ok (.if_icmp .ge 60, 3) := by decide +kernel
theorem dX2_drawWinds_21 : decode prog_4_method_4_code 21 = .ok (.iload 4, 2) := by decide +kernel
theorem dX2_drawWinds_23 : decode prog_4_method_4_code 23 = .ok (.ldc 71, 2) := by decide +kernel
theorem dX2_drawWinds_25 : decode prog_4_method_4_code 25 = .ok (.imul, 1) := by decide +kernel
theorem dX2_drawWinds_26 : decode prog_4_method_4_code 26 = .ok (.sipush 12345, 3) := by decide +kernel
theorem dX2_drawWinds_29 : decode prog_4_method_4_code 29 = .ok (.iadd, 1) := by decide +kernel
theorem dX2_drawWinds_30 : decode prog_4_method_4_code 30 = .ok (.istore 4, 2) := by decide +kernel
theorem dX2_drawWinds_32 : decode prog_4_method_4_code 32 = .ok (.iload 4, 2) := by decide +kernel
theorem dX2_drawWinds_34 : decode prog_4_method_4_code 34 = .ok (.bipush 9, 2) := by decide +kernel
theorem dX2_drawWinds_36 : decode prog_4_method_4_code 36 = .ok (.iushr, 1) := by decide +kernel
theorem dX2_drawWinds_37 : decode prog_4_method_4_code 37 = .ok (.bipush 100, 2) := by decide +kernel
theorem dX2_drawWinds_39 : decode prog_4_method_4_code 39 = .ok (.irem, 1) := by decide +kernel
theorem dX2_drawWinds_40 : decode prog_4_method_4_code 40 = .ok (.istore 6, 2) := by decide +kernel
theorem dX2_drawWinds_42 : decode prog_4_method_4_code 42 = .ok (.aload_n 0, 1) := by decide +kernel
theorem dX2_drawWinds_43 : decode prog_4_method_4_code 43 = .ok (.getfield 25, 3) := by decide +kernel
theorem dX2_drawWinds_46 : decode prog_4_method_4_code 46 = .ok (.iload 5, 2) := by decide +kernel
theorem dX2_drawWinds_48 : decode prog_4_method_4_code 48 = .ok (.iload 6, 2) := by decide +kernel
theorem dX2_drawWinds_50 : decode prog_4_method_4_code 50 = .ok (.iload_n 2, 1) := by decide +kernel
theorem dX2_drawWinds_51 : decode prog_4_method_4_code 51 = .ok (.if_icmp .ge 7, 3) := by decide +kernel
theorem dX2_drawWinds_54 : decode prog_4_method_4_code 54 = .ok (.iconst (-1), 1) := by decide +kernel
theorem dX2_drawWinds_55 : decode prog_4_method_4_code 55 = .ok (.goto 16, 3) := by decide +kernel
theorem dX2_drawWinds_58 : decode prog_4_method_4_code 58 = .ok (.iload 6, 2) := by decide +kernel
theorem dX2_drawWinds_60 : decode prog_4_method_4_code 60 = .ok (.iload_n 2, 1) := by decide +kernel
theorem dX2_drawWinds_61 : decode prog_4_method_4_code 61 = .ok (.iload_n 3, 1) := by decide +kernel
theorem dX2_drawWinds_62 : decode prog_4_method_4_code 62 = .ok (.iadd, 1) := by decide +kernel
theorem dX2_drawWinds_63 : decode prog_4_method_4_code 63 = .ok (.if_icmp .ge 7, 3) := by decide +kernel
theorem dX2_drawWinds_66 : decode prog_4_method_4_code 66 = .ok (.iconst 1, 1) := by decide +kernel
theorem dX2_drawWinds_67 : decode prog_4_method_4_code 67 = .ok (.goto 4, 3) := by decide +kernel
theorem dX2_drawWinds_70 : decode prog_4_method_4_code 70 = .ok (.iconst 0, 1) := by decide +kernel
theorem dX2_drawWinds_71 : decode prog_4_method_4_code 71 = .ok (.iastore, 1) := by decide +kernel
theorem dX2_drawWinds_72 : decode prog_4_method_4_code 72 = .ok (.iinc 5 1, 3) := by decide +kernel
theorem dX2_drawWinds_75 : decode prog_4_method_4_code 75 = .ok (.goto (-63), 3) := by decide +kernel
theorem dX2_drawWinds_78 : decode prog_4_method_4_code 78 = .ok (.return_, 1) := by decide +kernel
theorem dX3_spread_0 : decode prog_5_method_2_code 0 = .ok (.aload_n 0, 1) := by decide +kernel
theorem dX3_spread_1 : decode prog_5_method_2_code 1 = .ok (.getfield 9, 3) := by decide +kernel
theorem dX3_spread_4 : decode prog_5_method_2_code 4 = .ok (.lconst 0, 1) := by decide +kernel
theorem dX3_spread_5 : decode prog_5_method_2_code 5 = .ok (.invokestatic 25, 3) := by decide +kernel
theorem dX3_spread_8 : decode prog_5_method_2_code 8 = .ok (.aload_n 0, 1) := by decide +kernel
theorem dX3_spread_9 : decode prog_5_method_2_code 9 = .ok (.getfield 15, 3) := by decide +kernel
theorem dX3_spread_12 : decode prog_5_method_2_code 12 = .ok (.lconst 0, 1) := by decide +kernel
theorem dX3_spread_13 : decode prog_5_method_2_code 13 = .ok (.invokestatic 25, 3) := by decide +kernel
theorem dX3_spread_16 : decode prog_5_method_2_code 16 = .ok (.aload_n 0, 1) := by decide +kernel
theorem dX3_spread_17 : decode prog_5_method_2_code 17 = .ok (.getfield 9, 3) := by decide +kernel
theorem dX3_spread_20 : decode prog_5_method_2_code 20 = .ok (.aload_n 1, 1) := by decide +kernel
theorem dX3_spread_21 : decode prog_5_method_2_code 21 = .ok (.getfield 31, 3) := by decide +kernel
theorem dX3_spread_24 : decode prog_5_method_2_code 24 = .ok (.invokestatic 37, 3) := by decide +kernel
theorem dX3_spread_27 : decode prog_5_method_2_code 27 = .ok (.lconst 1, 1) := by decide +kernel
theorem dX3_spread_28 : decode prog_5_method_2_code 28 = .ok (.lastore, 1) := by decide +kernel
theorem dX3_spread_29 : decode prog_5_method_2_code 29 = .ok (.aload_n 0, 1) := by decide +kernel
theorem dX3_spread_30 : decode prog_5_method_2_code 30 = .ok (.lconst 1, 1) := by decide +kernel
theorem dX3_spread_31 : decode prog_5_method_2_code 31 = .ok (.putfield 18, 3) := by decide +kernel
theorem dX3_spread_34 : decode prog_5_method_2_code 34 = .ok (.iconst 0, 1) := by decide +kernel
theorem dX3_spread_35 : decode prog_5_method_2_code 35 = .ok (.istore_n 3, 1) := by decide +kernel
theorem dX3_spread_36 : decode prog_5_method_2_code 36 = .ok (.iload_n 3, 1) := by decide +kernel
theorem dX3_spread_37 : decode prog_5_method_2_code 37 = .ok (.iload_n 2, 1) := by decide +kernel
theorem dX3_spread_38 : decode prog_5_method_2_code 38 = .ok (.if_icmp .ge 33, 3) := by decide +kernel
theorem dX3_spread_41 : decode prog_5_method_2_code 41 = .ok (.aload_n 0, 1) := by decide +kernel
theorem dX3_spread_42 : decode prog_5_method_2_code 42 = .ok (.aload_n 1, 1) := by decide +kernel
theorem dX3_spread_43 : decode prog_5_method_2_code 43 = .ok (.getfield 41, 3) := by decide +kernel
theorem dX3_spread_46 : decode prog_5_method_2_code 46 = .ok (.aload_n 1, 1) := by decide +kernel
theorem dX3_spread_47 : decode prog_5_method_2_code 47 = .ok (.getfield 44, 3) := by decide +kernel
theorem dX3_spread_50 : decode prog_5_method_2_code 50 = .ok (.invokevirtual 47, 3) := by decide +kernel
theorem dX3_spread_53 : decode prog_5_method_2_code 53 = .ok (.aload_n 0, 1) := by decide +kernel
theorem dX3_spread_54 : decode prog_5_method_2_code 54 = .ok (.dup, 1) := by decide +kernel
theorem dX3_spread_55 : decode prog_5_method_2_code 55 = .ok (.getfield 18, 3) := by decide +kernel
theorem dX3_spread_58 : decode prog_5_method_2_code 58 = .ok (.ldc2_w 51, 3) := by decide +kernel
theorem dX3_spread_61 : decode prog_5_method_2_code 61 = .ok (.lmul, 1) := by decide +kernel
theorem dX3_spread_62 : decode prog_5_method_2_code 62 = .ok (.putfield 18, 3) := by decide +kernel
theorem dX3_spread_65 : decode prog_5_method_2_code 65 = .ok (.iinc 3 1, 3) := by decide +kernel
theorem dX3_spread_68 : decode prog_5_method_2_code 68 = .ok (.goto (-32), 3) := by decide +kernel
theorem dX3_spread_71 : decode prog_5_method_2_code 71 = .ok (.return_, 1) := by decide +kernel
theorem dX3_pass_0 : decode prog_5_method_3_code 0 = .ok (.aload_n 0, 1) := by decide +kernel
theorem dX3_pass_1 : decode prog_5_method_3_code 1 = .ok (.getfield 9, 3) := by decide +kernel
theorem dX3_pass_4 : decode prog_5_method_3_code 4 = .ok (.iconst 0, 1) := by decide +kernel
theorem dX3_pass_5 : decode prog_5_method_3_code 5 = .ok (.aload_n 0, 1) := by decide +kernel
theorem dX3_pass_6 : decode prog_5_method_3_code 6 = .ok (.getfield 22, 3) := by decide +kernel
theorem dX3_pass_9 : decode prog_5_method_3_code 9 = .ok (.iconst 0, 1) := by decide +kernel
theorem dX3_pass_10 : decode prog_5_method_3_code 10 = .ok (.bipush 8, 2) := by decide +kernel
theorem dX3_pass_12 : decode prog_5_method_3_code 12 = .ok (.invokestatic 53, 3) := by decide +kernel
theorem dX3_pass_15 : decode prog_5_method_3_code 15 = .ok (.iconst 0, 1) := by decide +kernel
theorem dX3_pass_16 : decode prog_5_method_3_code 16 = .ok (.istore_n 3, 1) := by decide +kernel
theorem dX3_pass_17 : decode prog_5_method_3_code 17 = .ok (.iload_n 3, 1) := by decide +kernel
theorem dX3_pass_18 : decode prog_5_method_3_code 18 = .ok (.bipush 8, 2) := by decide +kernel
theorem dX3_pass_20 : decode prog_5_method_3_code 20 = .ok (.if_icmp .ge 82, 3) := by decide +kernel
theorem dX3_pass_23 : decode prog_5_method_3_code 23 = .ok (.aload_n 0, 1) := by decide +kernel
theorem dX3_pass_24 : decode prog_5_method_3_code 24 = .ok (.getfield 9, 3) := by decide +kernel
theorem dX3_pass_27 : decode prog_5_method_3_code 27 = .ok (.iload_n 3, 1) := by decide +kernel
theorem dX3_pass_28 : decode prog_5_method_3_code 28 = .ok (.aload_n 0, 1) := by decide +kernel
theorem dX3_pass_29 : decode prog_5_method_3_code 29 = .ok (.getfield 22, 3) := by decide +kernel
theorem dX3_pass_32 : decode prog_5_method_3_code 32 = .ok (.iload_n 3, 1) := by decide +kernel
theorem dX3_pass_33 : decode prog_5_method_3_code 33 = .ok (.laload, 1) := by decide +kernel
theorem dX3_pass_34 : decode prog_5_method_3_code 34 = .ok (.bipush 100, 2) := by decide +kernel
theorem dX3_pass_36 : decode prog_5_method_3_code 36 = .ok (.iload_n 1, 1) := by decide +kernel
theorem dX3_pass_37 : decode prog_5_method_3_code 37 = .ok (.isub, 1) := by decide +kernel
theorem dX3_pass_38 : decode prog_5_method_3_code 38 = .ok (.iload_n 2, 1) := by decide +kernel
theorem dX3_pass_39 : decode prog_5_method_3_code 39 = .ok (.isub, 1) := by decide +kernel
theorem dX3_pass_40 : decode prog_5_method_3_code 40 = .ok (.i2l, 1) := by decide +kernel
theorem dX3_pass_41 : decode prog_5_method_3_code 41 = .ok (.lmul, 1) := by decide +kernel
theorem dX3_pass_42 : decode prog_5_method_3_code 42 = .ok (.aload_n 0, 1) := by decide +kernel
theorem dX3_pass_43 : decode prog_5_method_3_code 43 = .ok (.getfield 22, 3) := by decide +kernel
theorem dX3_pass_46 : decode prog_5_method_3_code 46 = .ok (.iload_n 3, 1) := by decide +kernel
theorem dX3_pass_47 : decode prog_5_method_3_code 47 = .ok (.iconst 1, 1) := by decide +kernel
theorem dX3_pass_48 : decode prog_5_method_3_code 48 = .ok (.iadd, 1) := by decide +kernel
theorem dX3_pass_49 : decode prog_5_method_3_code 49 = .ok (.invokestatic 37, 3) := by decide +kernel
theorem dX3_pass_52 : decode prog_5_method_3_code 52 = .ok (.laload, 1) := by decide +kernel
theorem dX3_pass_53 : decode prog_5_method_3_code 53 = .ok (.iload_n 1, 1) := by decide +kernel
theorem dX3_pass_54 : decode prog_5_method_3_code 54 = .ok (.i2l, 1) := by decide +kernel
theorem dX3_pass_55 : decode prog_5_method_3_code 55 = .ok (.lmul, 1) := by decide +kernel
theorem dX3_pass_56 : decode prog_5_method_3_code 56 = .ok (.ladd, 1) := by decide +kernel
theorem dX3_pass_57 : decode prog_5_method_3_code 57 = .ok (.aload_n 0, 1) := by decide +kernel
theorem dX3_pass_58 : decode prog_5_method_3_code 58 = .ok (.getfield 22, 3) := by decide +kernel
theorem dX3_pass_61 : decode prog_5_method_3_code 61 = .ok (.iload_n 3, 1) := by decide +kernel
theorem dX3_pass_62 : decode prog_5_method_3_code 62 = .ok (.iconst 1, 1) := by decide +kernel
theorem dX3_pass_63 : decode prog_5_method_3_code 63 = .ok (.isub, 1) := by decide +kernel
theorem dX3_pass_64 : decode prog_5_method_3_code 64 = .ok (.invokestatic 37, 3) := by decide +kernel
theorem dX3_pass_67 : decode prog_5_method_3_code 67 = .ok (.laload, 1) := by decide +kernel
theorem dX3_pass_68 : decode prog_5_method_3_code 68 = .ok (.iload_n 2, 1) := by decide +kernel
theorem dX3_pass_69 : decode prog_5_method_3_code 69 = .ok (.i2l, 1) := by decide +kernel
theorem dX3_pass_70 : decode prog_5_method_3_code 70 = .ok (.lmul, 1) := by decide +kernel
theorem dX3_pass_71 : decode prog_5_method_3_code 71 = .ok (.ladd, 1) := by decide +kernel
theorem dX3_pass_72 : decode prog_5_method_3_code 72 = .ok (.lastore, 1) := by decide +kernel
theorem dX3_pass_73 : decode prog_5_method_3_code 73 = .ok (.aload_n 0, 1) := by decide +kernel
theorem dX3_pass_74 : decode prog_5_method_3_code 74 = .ok (.getfield 15, 3) := by decide +kernel
theorem dX3_pass_77 : decode prog_5_method_3_code 77 = .ok (.iload_n 3, 1) := by decide +kernel
theorem dX3_pass_78 : decode prog_5_method_3_code 78 = .ok (.aload_n 0, 1) := by decide +kernel
theorem dX3_pass_79 : decode prog_5_method_3_code 79 = .ok (.getfield 15, 3) := by decide +kernel
theorem dX3_pass_82 : decode prog_5_method_3_code 82 = .ok (.iload_n 3, 1) := by decide +kernel
theorem dX3_pass_83 : decode prog_5_method_3_code 83 = .ok (.laload, 1) := by decide +kernel
theorem dX3_pass_84 : decode prog_5_method_3_code 84 = .ok (.ldc2_w 51, 3) := by decide +kernel
theorem dX3_pass_87 : decode prog_5_method_3_code 87 = .ok (.lmul, 1) := by decide +kernel
theorem dX3_pass_88 : decode prog_5_method_3_code 88 = .ok (.aload_n 0, 1) := by decide +kernel
theorem dX3_pass_89 : decode prog_5_method_3_code 89 = .ok (.getfield 9, 3) := by decide +kernel
theorem dX3_pass_92 : decode prog_5_method_3_code 92 = .ok (.iload_n 3, 1) := by decide +kernel
theorem dX3_pass_93 : decode prog_5_method_3_code 93 = .ok (.laload, 1) := by decide +kernel
theorem dX3_pass_94 : decode prog_5_method_3_code 94 = .ok (.ladd, 1) := by decide +kernel
theorem dX3_pass_95 : decode prog_5_method_3_code 95 = .ok (.lastore, 1) := by decide +kernel
theorem dX3_pass_96 : decode prog_5_method_3_code 96 = .ok (.iinc 3 1, 3) := by decide +kernel
theorem dX3_pass_99 : decode prog_5_method_3_code 99 = .ok (.goto (-82), 3) := by decide +kernel
theorem dX3_pass_102 : decode prog_5_method_3_code 102 = .ok (.return_, 1) := by decide +kernel
theorem dX1_exists_0 : decode prog_3_method_2_code 0 = .ok (.iload_n 0, 1) := by decide +kernel
theorem dX1_exists_1 : decode prog_3_method_2_code 1 = .ok (.ifCond .lt 13, 3) := by decide +kernel
theorem dX1_exists_4 : decode prog_3_method_2_code 4 = .ok (.iload_n 0, 1) := by decide +kernel
theorem dX1_exists_5 : decode prog_3_method_2_code 5 = .ok (.bipush 6, 2) := by decide +kernel
theorem dX1_exists_7 : decode prog_3_method_2_code 7 = .ok (.if_icmp .ge 7, 3) := by decide +kernel
theorem dX1_exists_10 : decode prog_3_method_2_code 10 = .ok (.iconst 1, 1) := by decide +kernel
theorem dX1_exists_11 : decode prog_3_method_2_code 11 = .ok (.goto 4, 3) := by decide +kernel
theorem dX1_exists_14 : decode prog_3_method_2_code 14 = .ok (.iconst 0, 1) := by decide +kernel
theorem dX1_exists_15 : decode prog_3_method_2_code 15 = .ok (.ireturn, 1) := by decide +kernel
theorem dX1_goes_0 : decode prog_3_method_6_code 0 = .ok (.iload_n 0, 1) := by decide +kernel
theorem dX1_goes_1 : decode prog_3_method_6_code 1 = .ok (.lookupswitch 49 #[(3, 27), (4, 42)], 27) := by decide +kernel
theorem dX1_goes_28 : decode prog_3_method_6_code 28 = .ok (.iload_n 1, 1) := by decide +kernel
theorem dX1_goes_29 : decode prog_3_method_6_code 29 = .ok (.iload_n 2, 1) := by decide +kernel
theorem dX1_goes_30 : decode prog_3_method_6_code 30 = .ok (.ifCond .ne 7, 3) := by decide +kernel
theorem dX1_goes_33 : decode prog_3_method_6_code 33 = .ok (.iconst 1, 1) := by decide +kernel
theorem dX1_goes_34 : decode prog_3_method_6_code 34 = .ok (.goto 4, 3) := by decide +kernel
theorem dX1_goes_37 : decode prog_3_method_6_code 37 = .ok (.iload_n 2, 1) := by decide +kernel
theorem dX1_goes_38 : decode prog_3_method_6_code 38 = .ok (.iadd, 1) := by decide +kernel
theorem dX1_goes_39 : decode prog_3_method_6_code 39 = .ok (.invokestatic 15, 3) := by decide +kernel
theorem dX1_goes_42 : decode prog_3_method_6_code 42 = .ok (.ireturn, 1) := by decide +kernel
theorem dX1_goes_43 : decode prog_3_method_6_code 43 = .ok (.iload_n 1, 1) := by decide +kernel
theorem dX1_goes_44 : decode prog_3_method_6_code 44 = .ok (.iconst 2, 1) := by decide +kernel
theorem dX1_goes_45 : decode prog_3_method_6_code 45 = .ok (.iadd, 1) := by decide +kernel
theorem dX1_goes_46 : decode prog_3_method_6_code 46 = .ok (.invokestatic 15, 3) := by decide +kernel
theorem dX1_goes_49 : decode prog_3_method_6_code 49 = .ok (.ireturn, 1) := by decide +kernel
theorem dX1_goes_50 : decode prog_3_method_6_code 50 = .ok (.iload_n 1, 1) := by decide +kernel
theorem dX1_goes_51 : decode prog_3_method_6_code 51 = .ok (.iconst 4, 1) := by decide +kernel
theorem dX1_goes_52 : decode prog_3_method_6_code 52 = .ok (.iadd, 1) := by decide +kernel
theorem dX1_goes_53 : decode prog_3_method_6_code 53 = .ok (.invokestatic 15, 3) := by decide +kernel
theorem dX1_goes_56 : decode prog_3_method_6_code 56 = .ok (.ireturn, 1) := by decide +kernel
theorem dX1_getsUp_0 : decode prog_3_method_5_code 0 = .ok (.iload_n 0, 1) := by decide +kernel
theorem dX1_getsUp_1 : decode prog_3_method_5_code 1 = .ok (.tableswitch 63 1 4 #[31, 33, 44, 46], 31) := by decide +kernel
theorem dX1_getsUp_32 : decode prog_3_method_5_code 32 = .ok (.iconst 1, 1) := by decide +kernel
theorem dX1_getsUp_33 : decode prog_3_method_5_code 33 = .ok (.ireturn, 1) := by decide +kernel
theorem dX1_getsUp_34 : decode prog_3_method_5_code 34 = .ok (.iload_n 2, 1) := by decide +kernel
theorem dX1_getsUp_35 : decode prog_3_method_5_code 35 = .ok (.iload_n 1, 1) := by decide +kernel
theorem dX1_getsUp_36 : decode prog_3_method_5_code 36 = .ok (.if_icmp .le 7, 3) := by decide +kernel
theorem dX1_getsUp_39 : decode prog_3_method_5_code 39 = .ok (.iconst 1, 1) := by decide +kernel
theorem dX1_getsUp_40 : decode prog_3_method_5_code 40 = .ok (.goto 4, 3) := by decide +kernel
theorem dX1_getsUp_43 : decode prog_3_method_5_code 43 = .ok (.iconst 0, 1) := by decide +kernel
theorem dX1_getsUp_44 : decode prog_3_method_5_code 44 = .ok (.ireturn, 1) := by decide +kernel
theorem dX1_getsUp_45 : decode prog_3_method_5_code 45 = .ok (.iconst 1, 1) := by decide +kernel
theorem dX1_getsUp_46 : decode prog_3_method_5_code 46 = .ok (.ireturn, 1) := by decide +kernel
theorem dX1_getsUp_47 : decode prog_3_method_5_code 47 = .ok (.iload_n 2, 1) := by decide +kernel
theorem dX1_getsUp_48 : decode prog_3_method_5_code 48 = .ok (.iconst 2, 1) := by decide +kernel
theorem dX1_getsUp_49 : decode prog_3_method_5_code 49 = .ok (.irem, 1) := by decide +kernel
theorem dX1_getsUp_50 : decode prog_3_method_5_code 50 = .ok (.ifCond .ne 12, 3) := by decide +kernel
theorem dX1_getsUp_53 : decode prog_3_method_5_code 53 = .ok (.iload_n 2, 1) := by decide +kernel
theorem dX1_getsUp_54 : decode prog_3_method_5_code 54 = .ok (.iload_n 1, 1) := by decide +kernel
theorem dX1_getsUp_55 : decode prog_3_method_5_code 55 = .ok (.if_icmp .le 7, 3) := by decide +kernel
theorem dX1_getsUp_58 : decode prog_3_method_5_code 58 = .ok (.iconst 1, 1) := by decide +kernel
theorem dX1_getsUp_59 : decode prog_3_method_5_code 59 = .ok (.goto 4, 3) := by decide +kernel
theorem dX1_getsUp_62 : decode prog_3_method_5_code 62 = .ok (.iconst 0, 1) := by decide +kernel
theorem dX1_getsUp_63 : decode prog_3_method_5_code 63 = .ok (.ireturn, 1) := by decide +kernel
theorem dX1_getsUp_64 : decode prog_3_method_5_code 64 = .ok (.iconst 0, 1) := by decide +kernel
theorem dX1_getsUp_65 : decode prog_3_method_5_code 65 = .ok (.ireturn, 1) := by decide +kernel
theorem dX1_bears_0 : decode prog_3_method_7_code 0 = .ok (.iload_n 0, 1) := by decide +kernel
theorem dX1_bears_1 : decode prog_3_method_7_code 1 = .ok (.tableswitch 61 1 5 #[35, 39, 43, 53, 59], 35) := by decide +kernel
theorem dX1_bears_36 : decode prog_3_method_7_code 36 = .ok (.iconst 2, 1) := by decide +kernel
theorem dX1_bears_37 : decode prog_3_method_7_code 37 = .ok (.iload_n 1, 1) := by decide +kernel
theorem dX1_bears_38 : decode prog_3_method_7_code 38 = .ok (.imul, 1) := by decide +kernel
theorem dX1_bears_39 : decode prog_3_method_7_code 39 = .ok (.ireturn, 1) := by decide +kernel
theorem dX1_bears_40 : decode prog_3_method_7_code 40 = .ok (.iload_n 1, 1) := by decide +kernel
theorem dX1_bears_41 : decode prog_3_method_7_code 41 = .ok (.iload_n 2, 1) := by decide +kernel
theorem dX1_bears_42 : decode prog_3_method_7_code 42 = .ok (.iadd, 1) := by decide +kernel
theorem dX1_bears_43 : decode prog_3_method_7_code 43 = .ok (.ireturn, 1) := by decide +kernel
theorem dX1_bears_44 : decode prog_3_method_7_code 44 = .ok (.iconst 0, 1) := by decide +kernel
theorem dX1_bears_45 : decode prog_3_method_7_code 45 = .ok (.iconst 2, 1) := by decide +kernel
theorem dX1_bears_46 : decode prog_3_method_7_code 46 = .ok (.iload_n 1, 1) := by decide +kernel
theorem dX1_bears_47 : decode prog_3_method_7_code 47 = .ok (.imul, 1) := by decide +kernel
theorem dX1_bears_48 : decode prog_3_method_7_code 48 = .ok (.iconst 1, 1) := by decide +kernel
theorem dX1_bears_49 : decode prog_3_method_7_code 49 = .ok (.isub, 1) := by decide +kernel
theorem dX1_bears_50 : decode prog_3_method_7_code 50 = .ok (.invokestatic 18, 3) := by decide +kernel
theorem dX1_bears_53 : decode prog_3_method_7_code 53 = .ok (.ireturn, 1) := by decide +kernel
theorem dX1_bears_54 : decode prog_3_method_7_code 54 = .ok (.iload_n 1, 1) := by decide +kernel
theorem dX1_bears_55 : decode prog_3_method_7_code 55 = .ok (.iload_n 2, 1) := by decide +kernel
theorem dX1_bears_56 : decode prog_3_method_7_code 56 = .ok (.iadd, 1) := by decide +kernel
theorem dX1_bears_57 : decode prog_3_method_7_code 57 = .ok (.iconst 2, 1) := by decide +kernel
theorem dX1_bears_58 : decode prog_3_method_7_code 58 = .ok (.idiv, 1) := by decide +kernel
theorem dX1_bears_59 : decode prog_3_method_7_code 59 = .ok (.ireturn, 1) := by decide +kernel
theorem dX1_bears_60 : decode prog_3_method_7_code 60 = .ok (.iconst 0, 1) := by decide +kernel
theorem dX1_bears_61 : decode prog_3_method_7_code 61 = .ok (.ireturn, 1) := by decide +kernel
theorem dX1_bears_62 : decode prog_3_method_7_code 62 = .ok (.iload_n 1, 1) := by decide +kernel
theorem dX1_bears_63 : decode prog_3_method_7_code 63 = .ok (.ireturn, 1) := by decide +kernel
theorem dX1_isUnder_0 : decode prog_3_method_3_code 0 = .ok (.iload_n 0, 1) := by decide +kernel
theorem dX1_isUnder_1 : decode prog_3_method_3_code 1 = .ok (.istore_n 2, 1) := by decide +kernel
theorem dX1_isUnder_2 : decode prog_3_method_3_code 2 = .ok (.iconst 0, 1) := by decide +kernel
theorem dX1_isUnder_3 : decode prog_3_method_3_code 3 = .ok (.istore_n 3, 1) := by decide +kernel
theorem dX1_isUnder_4 : decode prog_3_method_3_code 4 = .ok (.iload_n 3, 1) := by decide +kernel
theorem dX1_isUnder_5 : decode prog_3_method_3_code 5 = .ok (.bipush 6, 2) := by decide +kernel
theorem dX1_isUnder_7 : decode prog_3_method_3_code 7 = .ok (.if_icmp .ge 26, 3) := by decide +kernel
theorem dX1_isUnder_10 : decode prog_3_method_3_code 10 = .ok (.iload_n 2, 1) := by decide +kernel
theorem dX1_isUnder_11 : decode prog_3_method_3_code 11 = .ok (.iconst (-1), 1) := by decide +kernel
theorem dX1_isUnder_12 : decode prog_3_method_3_code 12 = .ok (.if_icmp .eq 21, 3) := by decide +kernel
theorem dX1_isUnder_15 : decode prog_3_method_3_code 15 = .ok (.iload_n 2, 1) := by decide +kernel
theorem dX1_isUnder_16 : decode prog_3_method_3_code 16 = .ok (.iload_n 1, 1) := by decide +kernel
theorem dX1_isUnder_17 : decode prog_3_method_3_code 17 = .ok (.if_icmp .ne 5, 3) := by decide +kernel
theorem dX1_isUnder_20 : decode prog_3_method_3_code 20 = .ok (.iconst 1, 1) := by decide +kernel
theorem dX1_isUnder_21 : decode prog_3_method_3_code 21 = .ok (.ireturn, 1) := by decide +kernel
theorem dX1_isUnder_22 : decode prog_3_method_3_code 22 = .ok (.iload_n 2, 1) := by decide +kernel
theorem dX1_isUnder_23 : decode prog_3_method_3_code 23 = .ok (.invokestatic 9, 3) := by decide +kernel
theorem dX1_isUnder_26 : decode prog_3_method_3_code 26 = .ok (.istore_n 2, 1) := by decide +kernel
theorem dX1_isUnder_27 : decode prog_3_method_3_code 27 = .ok (.iinc 3 1, 3) := by decide +kernel
theorem dX1_isUnder_30 : decode prog_3_method_3_code 30 = .ok (.goto (-26), 3) := by decide +kernel
theorem dX1_isUnder_33 : decode prog_3_method_3_code 33 = .ok (.iconst 0, 1) := by decide +kernel
theorem dX1_isUnder_34 : decode prog_3_method_3_code 34 = .ok (.ireturn, 1) := by decide +kernel
theorem dX1_above_0 : decode prog_3_method_4_code 0 = .ok (.iload_n 0, 1) := by decide +kernel
theorem dX1_above_1 : decode prog_3_method_4_code 1 = .ok (.tableswitch 45 1 5 #[35, 37, 39, 41, 43], 35) := by decide +kernel
theorem dX1_above_36 : decode prog_3_method_4_code 36 = .ok (.iconst 0, 1) := by decide +kernel
theorem dX1_above_37 : decode prog_3_method_4_code 37 = .ok (.ireturn, 1) := by decide +kernel
theorem dX1_above_38 : decode prog_3_method_4_code 38 = .ok (.iconst 0, 1) := by decide +kernel
theorem dX1_above_39 : decode prog_3_method_4_code 39 = .ok (.ireturn, 1) := by decide +kernel
theorem dX1_above_40 : decode prog_3_method_4_code 40 = .ok (.iconst 1, 1) := by decide +kernel
theorem dX1_above_41 : decode prog_3_method_4_code 41 = .ok (.ireturn, 1) := by decide +kernel
theorem dX1_above_42 : decode prog_3_method_4_code 42 = .ok (.iconst 2, 1) := by decide +kernel
theorem dX1_above_43 : decode prog_3_method_4_code 43 = .ok (.ireturn, 1) := by decide +kernel
theorem dX1_above_44 : decode prog_3_method_4_code 44 = .ok (.iconst 0, 1) := by decide +kernel
theorem dX1_above_45 : decode prog_3_method_4_code 45 = .ok (.ireturn, 1) := by decide +kernel
theorem dX1_above_46 : decode prog_3_method_4_code 46 = .ok (.iconst (-1), 1) := by decide +kernel
theorem dX1_above_47 : decode prog_3_method_4_code 47 = .ok (.ireturn, 1) := by decide +kernel
theorem dX8_spell_0 : decode prog_10_method_6_code 0 = .ok (.aload_n 0, 1) := by decide +kernel
theorem dX8_spell_1 : decode prog_10_method_6_code 1 = .ok (.getfield 13, 3) := by decide +kernel
theorem dX8_spell_4 : decode prog_10_method_6_code 4 = .ok (.iload_n 1, 1) := by decide +kernel
theorem dX8_spell_5 : decode prog_10_method_6_code 5 = .ok (.iload_n 2, 1) := by decide +kernel
theorem dX8_spell_6 : decode prog_10_method_6_code 6 = .ok (.iastore, 1) := by decide +kernel
theorem dX8_spell_7 : decode prog_10_method_6_code 7 = .ok (.aload_n 0, 1) := by decide +kernel
theorem dX8_spell_8 : decode prog_10_method_6_code 8 = .ok (.getfield 13, 3) := by decide +kernel
theorem dX8_spell_11 : decode prog_10_method_6_code 11 = .ok (.iload_n 1, 1) := by decide +kernel
theorem dX8_spell_12 : decode prog_10_method_6_code 12 = .ok (.iconst 1, 1) := by decide +kernel
theorem dX8_spell_13 : decode prog_10_method_6_code 13 = .ok (.iadd, 1) := by decide +kernel
theorem dX8_spell_14 : decode prog_10_method_6_code 14 = .ok (.iload_n 3, 1) := by decide +kernel
theorem dX8_spell_15 : decode prog_10_method_6_code 15 = .ok (.iastore, 1) := by decide +kernel
theorem dX8_spell_16 : decode prog_10_method_6_code 16 = .ok (.aload_n 0, 1) := by decide +kernel
theorem dX8_spell_17 : decode prog_10_method_6_code 17 = .ok (.getfield 13, 3) := by decide +kernel
theorem dX8_spell_20 : decode prog_10_method_6_code 20 = .ok (.iload_n 1, 1) := by decide +kernel
theorem dX8_spell_21 : decode prog_10_method_6_code 21 = .ok (.iconst 2, 1) := by decide +kernel
theorem dX8_spell_22 : decode prog_10_method_6_code 22 = .ok (.iadd, 1) := by decide +kernel
theorem dX8_spell_23 : decode prog_10_method_6_code 23 = .ok (.iload 4, 2) := by decide +kernel
theorem dX8_spell_25 : decode prog_10_method_6_code 25 = .ok (.iastore, 1) := by decide +kernel
theorem dX8_spell_26 : decode prog_10_method_6_code 26 = .ok (.aload_n 0, 1) := by decide +kernel
theorem dX8_spell_27 : decode prog_10_method_6_code 27 = .ok (.getfield 13, 3) := by decide +kernel
theorem dX8_spell_30 : decode prog_10_method_6_code 30 = .ok (.iload_n 1, 1) := by decide +kernel
theorem dX8_spell_31 : decode prog_10_method_6_code 31 = .ok (.iconst 3, 1) := by decide +kernel
theorem dX8_spell_32 : decode prog_10_method_6_code 32 = .ok (.iadd, 1) := by decide +kernel
theorem dX8_spell_33 : decode prog_10_method_6_code 33 = .ok (.iload 5, 2) := by decide +kernel
theorem dX8_spell_35 : decode prog_10_method_6_code 35 = .ok (.iastore, 1) := by decide +kernel
theorem dX8_spell_36 : decode prog_10_method_6_code 36 = .ok (.aload_n 0, 1) := by decide +kernel
theorem dX8_spell_37 : decode prog_10_method_6_code 37 = .ok (.getfield 13, 3) := by decide +kernel
theorem dX8_spell_40 : decode prog_10_method_6_code 40 = .ok (.iload_n 1, 1) := by decide +kernel
theorem dX8_spell_41 : decode prog_10_method_6_code 41 = .ok (.iconst 4, 1) := by decide +kernel
theorem dX8_spell_42 : decode prog_10_method_6_code 42 = .ok (.iadd, 1) := by decide +kernel
theorem dX8_spell_43 : decode prog_10_method_6_code 43 = .ok (.iload 6, 2) := by decide +kernel
theorem dX8_spell_45 : decode prog_10_method_6_code 45 = .ok (.iastore, 1) := by decide +kernel
theorem dX8_spell_46 : decode prog_10_method_6_code 46 = .ok (.aload_n 0, 1) := by decide +kernel
theorem dX8_spell_47 : decode prog_10_method_6_code 47 = .ok (.getfield 13, 3) := by decide +kernel
theorem dX8_spell_50 : decode prog_10_method_6_code 50 = .ok (.iload_n 1, 1) := by decide +kernel
theorem dX8_spell_51 : decode prog_10_method_6_code 51 = .ok (.iconst 5, 1) := by decide +kernel
theorem dX8_spell_52 : decode prog_10_method_6_code 52 = .ok (.iadd, 1) := by decide +kernel
theorem dX8_spell_53 : decode prog_10_method_6_code 53 = .ok (.iload 7, 2) := by decide +kernel
theorem dX8_spell_55 : decode prog_10_method_6_code 55 = .ok (.iastore, 1) := by decide +kernel
theorem dX8_spell_56 : decode prog_10_method_6_code 56 = .ok (.aload_n 0, 1) := by decide +kernel
theorem dX8_spell_57 : decode prog_10_method_6_code 57 = .ok (.getfield 13, 3) := by decide +kernel
theorem dX8_spell_60 : decode prog_10_method_6_code 60 = .ok (.iload_n 1, 1) := by decide +kernel
theorem dX8_spell_61 : decode prog_10_method_6_code 61 = .ok (.bipush 6, 2) := by decide +kernel
theorem dX8_spell_63 : decode prog_10_method_6_code 63 = .ok (.iadd, 1) := by decide +kernel
theorem dX8_spell_64 : decode prog_10_method_6_code 64 = .ok (.iload 8, 2) := by decide +kernel
theorem dX8_spell_66 : decode prog_10_method_6_code 66 = .ok (.iastore, 1) := by decide +kernel
theorem dX8_spell_67 : decode prog_10_method_6_code 67 = .ok (.aload_n 0, 1) := by decide +kernel
theorem dX8_spell_68 : decode prog_10_method_6_code 68 = .ok (.getfield 13, 3) := by decide +kernel
theorem dX8_spell_71 : decode prog_10_method_6_code 71 = .ok (.iload_n 1, 1) := by decide +kernel
theorem dX8_spell_72 : decode prog_10_method_6_code 72 = .ok (.bipush 7, 2) := by decide +kernel
theorem dX8_spell_74 : decode prog_10_method_6_code 74 = .ok (.iadd, 1) := by decide +kernel
theorem dX8_spell_75 : decode prog_10_method_6_code 75 = .ok (.iload 9, 2) := by decide +kernel
theorem dX8_spell_77 : decode prog_10_method_6_code 77 = .ok (.iastore, 1) := by decide +kernel
theorem dX8_spell_78 : decode prog_10_method_6_code 78 = .ok (.return_, 1) := by decide +kernel
theorem dX8_set_0 : decode prog_10_method_10_code 0 = .ok (.iload_n 1, 1) := by decide +kernel
theorem dX8_set_1 : decode prog_10_method_10_code 1 = .ok (.i2l, 1) := by decide +kernel
theorem dX8_set_2 : decode prog_10_method_10_code 2 = .ok (.lconst 0, 1) := by decide +kernel
theorem dX8_set_3 : decode prog_10_method_10_code 3 = .ok (.ldc2_w 110, 3) := by decide +kernel
theorem dX8_set_6 : decode prog_10_method_10_code 6 = .ok (.invokestatic 104, 3) := by decide +kernel
theorem dX8_set_9 : decode prog_10_method_10_code 9 = .ok (.ifCond .eq 16, 3) := by decide +kernel
theorem dX8_set_12 : decode prog_10_method_10_code 12 = .ok (.iload_n 1, 1) := by decide +kernel
theorem dX8_set_13 : decode prog_10_method_10_code 13 = .ok (.iconst 4, 1) := by decide +kernel
theorem dX8_set_14 : decode prog_10_method_10_code 14 = .ok (.if_icmp .le 14, 3) := by decide +kernel
theorem dX8_set_17 : decode prog_10_method_10_code 17 = .ok (.aload_n 0, 1) := by decide +kernel
theorem dX8_set_18 : decode prog_10_method_10_code 18 = .ok (.iload_n 2, 1) := by decide +kernel
theorem dX8_set_19 : decode prog_10_method_10_code 19 = .ok (.invokevirtual 112, 3) := by decide +kernel
theorem dX8_set_22 : decode prog_10_method_10_code 22 = .ok (.ifCond .ne 6, 3) := by decide +kernel
theorem dX8_set_25 : decode prog_10_method_10_code 25 = .ok (.bipush (-2), 2) := by decide +kernel
theorem dX8_set_27 : decode prog_10_method_10_code 27 = .ok (.ireturn, 1) := by decide +kernel
theorem dX8_set_28 : decode prog_10_method_10_code 28 = .ok (.iload_n 1, 1) := by decide +kernel
theorem dX8_set_29 : decode prog_10_method_10_code 29 = .ok (.ifCond .eq 9, 3) := by decide +kernel
theorem dX8_set_32 : decode prog_10_method_10_code 32 = .ok (.iload_n 1, 1) := by decide +kernel
theorem dX8_set_33 : decode prog_10_method_10_code 33 = .ok (.bipush 6, 2) := by decide +kernel
theorem dX8_set_35 : decode prog_10_method_10_code 35 = .ok (.if_icmp .ne 8, 3) := by decide +kernel
theorem dX8_set_38 : decode prog_10_method_10_code 38 = .ok (.bipush 7, 2) := by decide +kernel
theorem dX8_set_40 : decode prog_10_method_10_code 40 = .ok (.goto 55, 3) := by decide +kernel
theorem dX8_set_43 : decode prog_10_method_10_code 43 = .ok (.iload_n 1, 1) := by decide +kernel
theorem dX8_set_44 : decode prog_10_method_10_code 44 = .ok (.iconst 1, 1) := by decide +kernel
theorem dX8_set_45 : decode prog_10_method_10_code 45 = .ok (.if_icmp .ne 13, 3) := by decide +kernel
theorem dX8_set_48 : decode prog_10_method_10_code 48 = .ok (.bipush 100, 2) := by decide +kernel
theorem dX8_set_50 : decode prog_10_method_10_code 50 = .ok (.aload_n 0, 1) := by decide +kernel
theorem dX8_set_51 : decode prog_10_method_10_code 51 = .ok (.getfield 26, 3) := by decide +kernel
theorem dX8_set_54 : decode prog_10_method_10_code 54 = .ok (.isub, 1) := by decide +kernel
theorem dX8_set_55 : decode prog_10_method_10_code 55 = .ok (.goto 40, 3) := by decide +kernel
theorem dX8_set_58 : decode prog_10_method_10_code 58 = .ok (.iload_n 1, 1) := by decide +kernel
theorem dX8_set_59 : decode prog_10_method_10_code 59 = .ok (.iconst 2, 1) := by decide +kernel
theorem dX8_set_60 : decode prog_10_method_10_code 60 = .ok (.if_icmp .ne 13, 3) := by decide +kernel
theorem dX8_set_63 : decode prog_10_method_10_code 63 = .ok (.bipush 100, 2) := by decide +kernel
theorem dX8_set_65 : decode prog_10_method_10_code 65 = .ok (.aload_n 0, 1) := by decide +kernel
theorem dX8_set_66 : decode prog_10_method_10_code 66 = .ok (.getfield 23, 3) := by decide +kernel
theorem dX8_set_69 : decode prog_10_method_10_code 69 = .ok (.isub, 1) := by decide +kernel
theorem dX8_set_70 : decode prog_10_method_10_code 70 = .ok (.goto 25, 3) := by decide +kernel
theorem dX8_set_73 : decode prog_10_method_10_code 73 = .ok (.iload_n 1, 1) := by decide +kernel
theorem dX8_set_74 : decode prog_10_method_10_code 74 = .ok (.iconst 3, 1) := by decide +kernel
theorem dX8_set_75 : decode prog_10_method_10_code 75 = .ok (.if_icmp .ne 9, 3) := by decide +kernel
theorem dX8_set_78 : decode prog_10_method_10_code 78 = .ok (.sipush 255, 3) := by decide +kernel
theorem dX8_set_81 : decode prog_10_method_10_code 81 = .ok (.goto 14, 3) := by decide +kernel
theorem dX8_set_84 : decode prog_10_method_10_code 84 = .ok (.iload_n 1, 1) := by decide +kernel
theorem dX8_set_85 : decode prog_10_method_10_code 85 = .ok (.iconst 4, 1) := by decide +kernel
theorem dX8_set_86 : decode prog_10_method_10_code 86 = .ok (.if_icmp .ne 7, 3) := by decide +kernel
theorem dX8_set_89 : decode prog_10_method_10_code 89 = .ok (.iconst 1, 1) := by decide +kernel
theorem dX8_set_90 : decode prog_10_method_10_code 90 = .ok (.goto 5, 3) := by decide +kernel
theorem dX8_set_93 : decode prog_10_method_10_code 93 = .ok (.bipush 9, 2) := by decide +kernel
theorem dX8_set_95 : decode prog_10_method_10_code 95 = .ok (.istore 4, 2) := by decide +kernel
theorem dX8_set_97 : decode prog_10_method_10_code 97 = .ok (.iload_n 3, 1) := by decide +kernel
theorem dX8_set_98 : decode prog_10_method_10_code 98 = .ok (.i2l, 1) := by decide +kernel
theorem dX8_set_99 : decode prog_10_method_10_code 99 = .ok (.lconst 0, 1) := by decide +kernel
theorem dX8_set_100 : decode prog_10_method_10_code 100 = .ok (.iload 4, 2) := by decide +kernel
theorem dX8_set_102 : decode prog_10_method_10_code 102 = .ok (.i2l, 1) := by decide +kernel
theorem dX8_set_103 : decode prog_10_method_10_code 103 = .ok (.invokestatic 104, 3) := by decide +kernel
theorem dX8_set_106 : decode prog_10_method_10_code 106 = .ok (.ifCond .ne 6, 3) := by decide +kernel
theorem dX8_set_109 : decode prog_10_method_10_code 109 = .ok (.bipush (-2), 2) := by decide +kernel
theorem dX8_set_111 : decode prog_10_method_10_code 111 = .ok (.ireturn, 1) := by decide +kernel
theorem dX8_set_112 : decode prog_10_method_10_code 112 = .ok (.iload_n 1, 1) := by decide +kernel
theorem dX8_set_113 : decode prog_10_method_10_code 113 = .ok (.bipush 6, 2) := by decide +kernel
theorem dX8_set_115 : decode prog_10_method_10_code 115 = .ok (.if_icmp .ne 16, 3) := by decide +kernel
theorem dX8_set_118 : decode prog_10_method_10_code 118 = .ok (.aload_n 0, 1) := by decide +kernel
theorem dX8_set_119 : decode prog_10_method_10_code 119 = .ok (.iload_n 3, 1) := by decide +kernel
theorem dX8_set_120 : decode prog_10_method_10_code 120 = .ok (.iload_n 2, 1) := by decide +kernel
theorem dX8_set_121 : decode prog_10_method_10_code 121 = .ok (.invokevirtual 116, 3) := by decide +kernel
theorem dX8_set_124 : decode prog_10_method_10_code 124 = .ok (.iconst (-1), 1) := by decide +kernel
theorem dX8_set_125 : decode prog_10_method_10_code 125 = .ok (.if_icmp .eq 6, 3) := by decide +kernel
theorem dX8_set_128 : decode prog_10_method_10_code 128 = .ok (.bipush (-3), 2) := by decide +kernel
theorem dX8_set_130 : decode prog_10_method_10_code 130 = .ok (.ireturn, 1) := by decide +kernel
theorem dX8_set_131 : decode prog_10_method_10_code 131 = .ok (.iload_n 1, 1) := by decide +kernel
theorem dX8_set_132 : decode prog_10_method_10_code 132 = .ok (.ifCond .ne 10, 3) := by decide +kernel
theorem dX8_set_135 : decode prog_10_method_10_code 135 = .ok (.aload_n 0, 1) := by decide +kernel
theorem dX8_set_136 : decode prog_10_method_10_code 136 = .ok (.getfield 120, 3) := by decide +kernel
theorem dX8_set_139 : decode prog_10_method_10_code 139 = .ok (.goto 71, 3) := by decide +kernel
theorem dX8_set_142 : decode prog_10_method_10_code 142 = .ok (.iload_n 1, 1) := by decide +kernel
theorem dX8_set_143 : decode prog_10_method_10_code 143 = .ok (.iconst 1, 1) := by decide +kernel
theorem dX8_set_144 : decode prog_10_method_10_code 144 = .ok (.if_icmp .ne 10, 3) := by decide +kernel
theorem dX8_set_147 : decode prog_10_method_10_code 147 = .ok (.aload_n 0, 1) := by decide +kernel
theorem dX8_set_148 : decode prog_10_method_10_code 148 = .ok (.getfield 23, 3) := by decide +kernel
theorem dX8_set_151 : decode prog_10_method_10_code 151 = .ok (.goto 59, 3) := by decide +kernel
theorem dX8_set_154 : decode prog_10_method_10_code 154 = .ok (.iload_n 1, 1) := by decide +kernel
theorem dX8_set_155 : decode prog_10_method_10_code 155 = .ok (.iconst 2, 1) := by decide +kernel
theorem dX8_set_156 : decode prog_10_method_10_code 156 = .ok (.if_icmp .ne 10, 3) := by decide +kernel
theorem dX8_set_159 : decode prog_10_method_10_code 159 = .ok (.aload_n 0, 1) := by decide +kernel
theorem dX8_set_160 : decode prog_10_method_10_code 160 = .ok (.getfield 26, 3) := by decide +kernel
theorem dX8_set_163 : decode prog_10_method_10_code 163 = .ok (.goto 47, 3) := by decide +kernel
theorem dX8_set_166 : decode prog_10_method_10_code 166 = .ok (.iload_n 1, 1) := by decide +kernel
theorem dX8_set_167 : decode prog_10_method_10_code 167 = .ok (.iconst 3, 1) := by decide +kernel
theorem dX8_set_168 : decode prog_10_method_10_code 168 = .ok (.if_icmp .ne 10, 3) := by decide +kernel
theorem dX8_set_171 : decode prog_10_method_10_code 171 = .ok (.aload_n 0, 1) := by decide +kernel
theorem dX8_set_172 : decode prog_10_method_10_code 172 = .ok (.getfield 123, 3) := by decide +kernel
theorem dX8_set_175 : decode prog_10_method_10_code 175 = .ok (.goto 35, 3) := by decide +kernel
theorem dX8_set_178 : decode prog_10_method_10_code 178 = .ok (.iload_n 1, 1) := by decide +kernel
theorem dX8_set_179 : decode prog_10_method_10_code 179 = .ok (.iconst 4, 1) := by decide +kernel
theorem dX8_set_180 : decode prog_10_method_10_code 180 = .ok (.if_icmp .ne 10, 3) := by decide +kernel
theorem dX8_set_183 : decode prog_10_method_10_code 183 = .ok (.aload_n 0, 1) := by decide +kernel
theorem dX8_set_184 : decode prog_10_method_10_code 184 = .ok (.getfield 126, 3) := by decide +kernel
theorem dX8_set_187 : decode prog_10_method_10_code 187 = .ok (.goto 23, 3) := by decide +kernel
theorem dX8_set_190 : decode prog_10_method_10_code 190 = .ok (.iload_n 1, 1) := by decide +kernel
theorem dX8_set_191 : decode prog_10_method_10_code 191 = .ok (.iconst 5, 1) := by decide +kernel
theorem dX8_set_192 : decode prog_10_method_10_code 192 = .ok (.if_icmp .ne 12, 3) := by decide +kernel
theorem dX8_set_195 : decode prog_10_method_10_code 195 = .ok (.aload_n 0, 1) := by decide +kernel
theorem dX8_set_196 : decode prog_10_method_10_code 196 = .ok (.getfield 32, 3) := by decide +kernel
theorem dX8_set_199 : decode prog_10_method_10_code 199 = .ok (.iload_n 2, 1) := by decide +kernel
theorem dX8_set_200 : decode prog_10_method_10_code 200 = .ok (.iaload, 1) := by decide +kernel
theorem dX8_set_201 : decode prog_10_method_10_code 201 = .ok (.goto 9, 3) := by decide +kernel
theorem dX8_set_204 : decode prog_10_method_10_code 204 = .ok (.aload_n 0, 1) := by decide +kernel
theorem dX8_set_205 : decode prog_10_method_10_code 205 = .ok (.getfield 35, 3) := by decide +kernel
theorem dX8_set_208 : decode prog_10_method_10_code 208 = .ok (.iload_n 2, 1) := by decide +kernel
theorem dX8_set_209 : decode prog_10_method_10_code 209 = .ok (.iaload, 1) := by decide +kernel
theorem dX8_set_210 : decode prog_10_method_10_code 210 = .ok (.istore 5, 2) := by decide +kernel
theorem dX8_set_212 : decode prog_10_method_10_code 212 = .ok (.iload_n 1, 1) := by decide +kernel
theorem dX8_set_213 : decode prog_10_method_10_code 213 = .ok (.ifCond .ne 11, 3) := by decide +kernel
theorem dX8_set_216 : decode prog_10_method_10_code 216 = .ok (.aload_n 0, 1) := by decide +kernel
theorem dX8_set_217 : decode prog_10_method_10_code 217 = .ok (.iload_n 3, 1) := by decide +kernel
theorem dX8_set_218 : decode prog_10_method_10_code 218 = .ok (.putfield 120, 3) := by decide +kernel
theorem dX8_set_221 : decode prog_10_method_10_code 221 = .ok (.goto 77, 3) := by decide +kernel
theorem dX8_set_224 : decode prog_10_method_10_code 224 = .ok (.iload_n 1, 1) := by decide +kernel
theorem dX8_set_225 : decode prog_10_method_10_code 225 = .ok (.iconst 1, 1) := by decide +kernel
theorem dX8_set_226 : decode prog_10_method_10_code 226 = .ok (.if_icmp .ne 11, 3) := by decide +kernel
theorem dX8_set_229 : decode prog_10_method_10_code 229 = .ok (.aload_n 0, 1) := by decide +kernel
theorem dX8_set_230 : decode prog_10_method_10_code 230 = .ok (.iload_n 3, 1) := by decide +kernel
theorem dX8_set_231 : decode prog_10_method_10_code 231 = .ok (.putfield 23, 3) := by decide +kernel
theorem dX8_set_234 : decode prog_10_method_10_code 234 = .ok (.goto 64, 3) := by decide +kernel
theorem dX8_set_237 : decode prog_10_method_10_code 237 = .ok (.iload_n 1, 1) := by decide +kernel
theorem dX8_set_238 : decode prog_10_method_10_code 238 = .ok (.iconst 2, 1) := by decide +kernel
theorem dX8_set_239 : decode prog_10_method_10_code 239 = .ok (.if_icmp .ne 11, 3) := by decide +kernel
theorem dX8_set_242 : decode prog_10_method_10_code 242 = .ok (.aload_n 0, 1) := by decide +kernel
theorem dX8_set_243 : decode prog_10_method_10_code 243 = .ok (.iload_n 3, 1) := by decide +kernel
theorem dX8_set_244 : decode prog_10_method_10_code 244 = .ok (.putfield 26, 3) := by decide +kernel
theorem dX8_set_247 : decode prog_10_method_10_code 247 = .ok (.goto 51, 3) := by decide +kernel
theorem dX8_set_250 : decode prog_10_method_10_code 250 = .ok (.iload_n 1, 1) := by decide +kernel
theorem dX8_set_251 : decode prog_10_method_10_code 251 = .ok (.iconst 3, 1) := by decide +kernel
theorem dX8_set_252 : decode prog_10_method_10_code 252 = .ok (.if_icmp .ne 11, 3) := by decide +kernel
theorem dX8_set_255 : decode prog_10_method_10_code 255 = .ok (.aload_n 0, 1) := by decide +kernel
theorem dX8_set_256 : decode prog_10_method_10_code 256 = .ok (.iload_n 3, 1) := by decide +kernel
theorem dX8_set_257 : decode prog_10_method_10_code 257 = .ok (.putfield 123, 3) := by decide +kernel
theorem dX8_set_260 : decode prog_10_method_10_code 260 = .ok (.goto 38, 3) := by decide +kernel
theorem dX8_set_263 : decode prog_10_method_10_code 263 = .ok (.iload_n 1, 1) := by decide +kernel
theorem dX8_set_264 : decode prog_10_method_10_code 264 = .ok (.iconst 4, 1) := by decide +kernel
theorem dX8_set_265 : decode prog_10_method_10_code 265 = .ok (.if_icmp .ne 11, 3) := by decide +kernel
theorem dX8_set_268 : decode prog_10_method_10_code 268 = .ok (.aload_n 0, 1) := by decide +kernel
theorem dX8_set_269 : decode prog_10_method_10_code 269 = .ok (.iload_n 3, 1) := by decide +kernel
theorem dX8_set_270 : decode prog_10_method_10_code 270 = .ok (.putfield 126, 3) := by decide +kernel
theorem dX8_set_273 : decode prog_10_method_10_code 273 = .ok (.goto 25, 3) := by decide +kernel
theorem dX8_set_276 : decode prog_10_method_10_code 276 = .ok (.iload_n 1, 1) := by decide +kernel
theorem dX8_set_277 : decode prog_10_method_10_code 277 = .ok (.iconst 5, 1) := by decide +kernel
theorem dX8_set_278 : decode prog_10_method_10_code 278 = .ok (.if_icmp .ne 13, 3) := by decide +kernel
theorem dX8_set_281 : decode prog_10_method_10_code 281 = .ok (.aload_n 0, 1) := by decide +kernel
theorem dX8_set_282 : decode prog_10_method_10_code 282 = .ok (.getfield 32, 3) := by decide +kernel
theorem dX8_set_285 : decode prog_10_method_10_code 285 = .ok (.iload_n 2, 1) := by decide +kernel
theorem dX8_set_286 : decode prog_10_method_10_code 286 = .ok (.iload_n 3, 1) := by decide +kernel
theorem dX8_set_287 : decode prog_10_method_10_code 287 = .ok (.iastore, 1) := by decide +kernel
theorem dX8_set_288 : decode prog_10_method_10_code 288 = .ok (.goto 10, 3) := by decide +kernel
theorem dX8_set_291 : decode prog_10_method_10_code 291 = .ok (.aload_n 0, 1) := by decide +kernel
theorem dX8_set_292 : decode prog_10_method_10_code 292 = .ok (.getfield 35, 3) := by decide +kernel
theorem dX8_set_295 : decode prog_10_method_10_code 295 = .ok (.iload_n 2, 1) := by decide +kernel
theorem dX8_set_296 : decode prog_10_method_10_code 296 = .ok (.iload_n 3, 1) := by decide +kernel
theorem dX8_set_297 : decode prog_10_method_10_code 297 = .ok (.iastore, 1) := by decide +kernel
theorem dX8_set_298 : decode prog_10_method_10_code 298 = .ok (.iload 5, 2) := by decide +kernel
theorem dX8_set_300 : decode prog_10_method_10_code 300 = .ok (.ireturn, 1) := by decide +kernel
theorem dX8_in_0 : decode prog_10_method_2_code 0 = .ok (.lload_n 0, 1) := by decide +kernel
theorem dX8_in_1 : decode prog_10_method_2_code 1 = .ok (.lload_n 2, 1) := by decide +kernel
theorem dX8_in_2 : decode prog_10_method_2_code 2 = .ok (.lcmp, 1) := by decide +kernel
theorem dX8_in_3 : decode prog_10_method_2_code 3 = .ok (.ifCond .lt 14, 3) := by decide +kernel
theorem dX8_in_6 : decode prog_10_method_2_code 6 = .ok (.lload_n 0, 1) := by decide +kernel
theorem dX8_in_7 : decode prog_10_method_2_code 7 = .ok (.lload 4, 2) := by decide +kernel
theorem dX8_in_9 : decode prog_10_method_2_code 9 = .ok (.lcmp, 1) := by decide +kernel
theorem dX8_in_10 : decode prog_10_method_2_code 10 = .ok (.ifCond .gt 7, 3) := by decide +kernel
theorem dX8_in_13 : decode prog_10_method_2_code 13 = .ok (.iconst 1, 1) := by decide +kernel
theorem dX8_in_14 : decode prog_10_method_2_code 14 = .ok (.goto 4, 3) := by decide +kernel
theorem dX8_in_17 : decode prog_10_method_2_code 17 = .ok (.iconst 0, 1) := by decide +kernel
theorem dX8_in_18 : decode prog_10_method_2_code 18 = .ok (.ireturn, 1) := by decide +kernel
theorem dX8_isSitter_0 : decode prog_10_method_7_code 0 = .ok (.iload_n 1, 1) := by decide +kernel
theorem dX8_isSitter_1 : decode prog_10_method_7_code 1 = .ok (.i2l, 1) := by decide +kernel
theorem dX8_isSitter_2 : decode prog_10_method_7_code 2 = .ok (.lconst 0, 1) := by decide +kernel
theorem dX8_isSitter_3 : decode prog_10_method_7_code 3 = .ok (.aload_n 0, 1) := by decide +kernel
theorem dX8_isSitter_4 : decode prog_10_method_7_code 4 = .ok (.getfield 101, 3) := by decide +kernel
theorem dX8_isSitter_7 : decode prog_10_method_7_code 7 = .ok (.iconst 1, 1) := by decide +kernel
theorem dX8_isSitter_8 : decode prog_10_method_7_code 8 = .ok (.isub, 1) := by decide +kernel
theorem dX8_isSitter_9 : decode prog_10_method_7_code 9 = .ok (.i2l, 1) := by decide +kernel
theorem dX8_isSitter_10 : decode prog_10_method_7_code 10 = .ok (.invokestatic 104, 3) := by decide +kernel
theorem dX8_isSitter_13 : decode prog_10_method_7_code 13 = .ok (.ireturn, 1) := by decide +kernel
theorem dX8_onPlace_0 : decode prog_10_method_9_code 0 = .ok (.iconst 0, 1) := by decide +kernel
theorem dX8_onPlace_1 : decode prog_10_method_9_code 1 = .ok (.istore_n 3, 1) := by decide +kernel
theorem dX8_onPlace_2 : decode prog_10_method_9_code 2 = .ok (.iload_n 3, 1) := by decide +kernel
theorem dX8_onPlace_3 : decode prog_10_method_9_code 3 = .ok (.aload_n 0, 1) := by decide +kernel
theorem dX8_onPlace_4 : decode prog_10_method_9_code 4 = .ok (.getfield 101, 3) := by decide +kernel
theorem dX8_onPlace_7 : decode prog_10_method_9_code 7 = .ok (.if_icmp .ge 26, 3) := by decide +kernel
theorem dX8_onPlace_10 : decode prog_10_method_9_code 10 = .ok (.iload_n 3, 1) := by decide +kernel
theorem dX8_onPlace_11 : decode prog_10_method_9_code 11 = .ok (.iload_n 2, 1) := by decide +kernel
theorem dX8_onPlace_12 : decode prog_10_method_9_code 12 = .ok (.if_icmp .eq 15, 3) := by decide +kernel
theorem dX8_onPlace_15 : decode prog_10_method_9_code 15 = .ok (.aload_n 0, 1) := by decide +kernel
theorem dX8_onPlace_16 : decode prog_10_method_9_code 16 = .ok (.getfield 35, 3) := by decide +kernel
theorem dX8_onPlace_19 : decode prog_10_method_9_code 19 = .ok (.iload_n 3, 1) := by decide +kernel
theorem dX8_onPlace_20 : decode prog_10_method_9_code 20 = .ok (.iaload, 1) := by decide +kernel
theorem dX8_onPlace_21 : decode prog_10_method_9_code 21 = .ok (.iload_n 1, 1) := by decide +kernel
theorem dX8_onPlace_22 : decode prog_10_method_9_code 22 = .ok (.if_icmp .ne 5, 3) := by decide +kernel
theorem dX8_onPlace_25 : decode prog_10_method_9_code 25 = .ok (.iload_n 3, 1) := by decide +kernel
theorem dX8_onPlace_26 : decode prog_10_method_9_code 26 = .ok (.ireturn, 1) := by decide +kernel
theorem dX8_onPlace_27 : decode prog_10_method_9_code 27 = .ok (.iinc 3 1, 3) := by decide +kernel
theorem dX8_onPlace_30 : decode prog_10_method_9_code 30 = .ok (.goto (-28), 3) := by decide +kernel
theorem dX8_onPlace_33 : decode prog_10_method_9_code 33 = .ok (.iconst (-1), 1) := by decide +kernel
theorem dX8_onPlace_34 : decode prog_10_method_9_code 34 = .ok (.ireturn, 1) := by decide +kernel
theorem dX8_sitter_0 : decode prog_10_method_11_code 0 = .ok (.iload_n 1, 1) := by decide +kernel
theorem dX8_sitter_1 : decode prog_10_method_11_code 1 = .ok (.i2l, 1) := by decide +kernel
theorem dX8_sitter_2 : decode prog_10_method_11_code 2 = .ok (.lconst 0, 1) := by decide +kernel
theorem dX8_sitter_3 : decode prog_10_method_11_code 3 = .ok (.ldc2_w 129, 3) := by decide +kernel
theorem dX8_sitter_6 : decode prog_10_method_11_code 6 = .ok (.invokestatic 104, 3) := by decide +kernel
theorem dX8_sitter_9 : decode prog_10_method_11_code 9 = .ok (.ifCond .eq 22, 3) := by decide +kernel
theorem dX8_sitter_12 : decode prog_10_method_11_code 12 = .ok (.iload_n 2, 1) := by decide +kernel
theorem dX8_sitter_13 : decode prog_10_method_11_code 13 = .ok (.i2l, 1) := by decide +kernel
theorem dX8_sitter_14 : decode prog_10_method_11_code 14 = .ok (.lconst 0, 1) := by decide +kernel
theorem dX8_sitter_15 : decode prog_10_method_11_code 15 = .ok (.ldc2_w 131, 3) := by decide +kernel
theorem dX8_sitter_18 : decode prog_10_method_11_code 18 = .ok (.invokestatic 104, 3) := by decide +kernel
theorem dX8_sitter_21 : decode prog_10_method_11_code 21 = .ok (.ifCond .eq 10, 3) := by decide +kernel
theorem dX8_sitter_24 : decode prog_10_method_11_code 24 = .ok (.iload_n 3, 1) := by decide +kernel
theorem dX8_sitter_25 : decode prog_10_method_11_code 25 = .ok (.invokestatic 133, 3) := by decide +kernel
theorem dX8_sitter_28 : decode prog_10_method_11_code 28 = .ok (.ifCond .ne 6, 3) := by decide +kernel
theorem dX8_sitter_31 : decode prog_10_method_11_code 31 = .ok (.bipush (-2), 2) := by decide +kernel
theorem dX8_sitter_33 : decode prog_10_method_11_code 33 = .ok (.ireturn, 1) := by decide +kernel
theorem dX8_sitter_34 : decode prog_10_method_11_code 34 = .ok (.aload_n 0, 1) := by decide +kernel
theorem dX8_sitter_35 : decode prog_10_method_11_code 35 = .ok (.iload_n 3, 1) := by decide +kernel
theorem dX8_sitter_36 : decode prog_10_method_11_code 36 = .ok (.iconst (-1), 1) := by decide +kernel
theorem dX8_sitter_37 : decode prog_10_method_11_code 37 = .ok (.invokevirtual 116, 3) := by decide +kernel
theorem dX8_sitter_40 : decode prog_10_method_11_code 40 = .ok (.iconst (-1), 1) := by decide +kernel
theorem dX8_sitter_41 : decode prog_10_method_11_code 41 = .ok (.if_icmp .eq 6, 3) := by decide +kernel
theorem dX8_sitter_44 : decode prog_10_method_11_code 44 = .ok (.bipush (-3), 2) := by decide +kernel
theorem dX8_sitter_46 : decode prog_10_method_11_code 46 = .ok (.ireturn, 1) := by decide +kernel
theorem dX8_sitter_47 : decode prog_10_method_11_code 47 = .ok (.aload_n 0, 1) := by decide +kernel
theorem dX8_sitter_48 : decode prog_10_method_11_code 48 = .ok (.getfield 101, 3) := by decide +kernel
theorem dX8_sitter_51 : decode prog_10_method_11_code 51 = .ok (.iconst 5, 1) := by decide +kernel
theorem dX8_sitter_52 : decode prog_10_method_11_code 52 = .ok (.if_icmp .ne 6, 3) := by decide +kernel
theorem dX8_sitter_55 : decode prog_10_method_11_code 55 = .ok (.bipush (-4), 2) := by decide +kernel
theorem dX8_sitter_57 : decode prog_10_method_11_code 57 = .ok (.ireturn, 1) := by decide +kernel
theorem dX8_sitter_58 : decode prog_10_method_11_code 58 = .ok (.aload_n 0, 1) := by decide +kernel
theorem dX8_sitter_59 : decode prog_10_method_11_code 59 = .ok (.getfield 29, 3) := by decide +kernel
theorem dX8_sitter_62 : decode prog_10_method_11_code 62 = .ok (.aload_n 0, 1) := by decide +kernel
theorem dX8_sitter_63 : decode prog_10_method_11_code 63 = .ok (.getfield 101, 3) := by decide +kernel
theorem dX8_sitter_66 : decode prog_10_method_11_code 66 = .ok (.iload_n 1, 1) := by decide +kernel
theorem dX8_sitter_67 : decode prog_10_method_11_code 67 = .ok (.iastore, 1) := by decide +kernel
theorem dX8_sitter_68 : decode prog_10_method_11_code 68 = .ok (.aload_n 0, 1) := by decide +kernel
theorem dX8_sitter_69 : decode prog_10_method_11_code 69 = .ok (.getfield 32, 3) := by decide +kernel
theorem dX8_sitter_72 : decode prog_10_method_11_code 72 = .ok (.aload_n 0, 1) := by decide +kernel
theorem dX8_sitter_73 : decode prog_10_method_11_code 73 = .ok (.getfield 101, 3) := by decide +kernel
theorem dX8_sitter_76 : decode prog_10_method_11_code 76 = .ok (.iload_n 2, 1) := by decide +kernel
theorem dX8_sitter_77 : decode prog_10_method_11_code 77 = .ok (.iastore, 1) := by decide +kernel
theorem dX8_sitter_78 : decode prog_10_method_11_code 78 = .ok (.aload_n 0, 1) := by decide +kernel
theorem dX8_sitter_79 : decode prog_10_method_11_code 79 = .ok (.getfield 35, 3) := by decide +kernel
theorem dX8_sitter_82 : decode prog_10_method_11_code 82 = .ok (.aload_n 0, 1) := by decide +kernel
theorem dX8_sitter_83 : decode prog_10_method_11_code 83 = .ok (.getfield 101, 3) := by decide +kernel
theorem dX8_sitter_86 : decode prog_10_method_11_code 86 = .ok (.iload_n 3, 1) := by decide +kernel
theorem dX8_sitter_87 : decode prog_10_method_11_code 87 = .ok (.iastore, 1) := by decide +kernel
theorem dX8_sitter_88 : decode prog_10_method_11_code 88 = .ok (.aload_n 0, 1) := by decide +kernel
theorem dX8_sitter_89 : decode prog_10_method_11_code 89 = .ok (.dup, 1) := by decide +kernel
theorem dX8_sitter_90 : decode prog_10_method_11_code 90 = .ok (.getfield 101, 3) := by decide +kernel
theorem dX8_sitter_93 : decode prog_10_method_11_code 93 = .ok (.iconst 1, 1) := by decide +kernel
theorem dX8_sitter_94 : decode prog_10_method_11_code 94 = .ok (.iadd, 1) := by decide +kernel
theorem dX8_sitter_95 : decode prog_10_method_11_code 95 = .ok (.putfield 101, 3) := by decide +kernel
theorem dX8_sitter_98 : decode prog_10_method_11_code 98 = .ok (.aload_n 0, 1) := by decide +kernel
theorem dX8_sitter_99 : decode prog_10_method_11_code 99 = .ok (.getfield 101, 3) := by decide +kernel
theorem dX8_sitter_102 : decode prog_10_method_11_code 102 = .ok (.iconst 1, 1) := by decide +kernel
theorem dX8_sitter_103 : decode prog_10_method_11_code 103 = .ok (.isub, 1) := by decide +kernel
theorem dX8_sitter_104 : decode prog_10_method_11_code 104 = .ok (.ireturn, 1) := by decide +kernel
theorem dX8_isPlace_0 : decode prog_10_method_8_code 0 = .ok (.iload_n 0, 1) := by decide +kernel
theorem dX8_isPlace_1 : decode prog_10_method_8_code 1 = .ok (.i2l, 1) := by decide +kernel
theorem dX8_isPlace_2 : decode prog_10_method_8_code 2 = .ok (.lconst 0, 1) := by decide +kernel
theorem dX8_isPlace_3 : decode prog_10_method_8_code 3 = .ok (.ldc2_w 108, 3) := by decide +kernel
theorem dX8_isPlace_6 : decode prog_10_method_8_code 6 = .ok (.invokestatic 104, 3) := by decide +kernel
theorem dX8_isPlace_9 : decode prog_10_method_8_code 9 = .ok (.ireturn, 1) := by decide +kernel
theorem dX8_told_0 : decode prog_10_method_14_code 0 = .ok (.aload_n 0, 1) := by decide +kernel
theorem dX8_told_1 : decode prog_10_method_14_code 1 = .ok (.iload_n 1, 1) := by decide +kernel
theorem dX8_told_2 : decode prog_10_method_14_code 2 = .ok (.invokevirtual 112, 3) := by decide +kernel
theorem dX8_told_5 : decode prog_10_method_14_code 5 = .ok (.ifCond .eq 15, 3) := by decide +kernel
theorem dX8_told_8 : decode prog_10_method_14_code 8 = .ok (.iload_n 2, 1) := by decide +kernel
theorem dX8_told_9 : decode prog_10_method_14_code 9 = .ok (.i2l, 1) := by decide +kernel
theorem dX8_told_10 : decode prog_10_method_14_code 10 = .ok (.lconst 0, 1) := by decide +kernel
theorem dX8_told_11 : decode prog_10_method_14_code 11 = .ok (.ldc2_w 131, 3) := by decide +kernel
theorem dX8_told_14 : decode prog_10_method_14_code 14 = .ok (.invokestatic 104, 3) := by decide +kernel
theorem dX8_told_17 : decode prog_10_method_14_code 17 = .ok (.ifCond .ne 6, 3) := by decide +kernel
theorem dX8_told_20 : decode prog_10_method_14_code 20 = .ok (.bipush (-2), 2) := by decide +kernel
theorem dX8_told_22 : decode prog_10_method_14_code 22 = .ok (.ireturn, 1) := by decide +kernel
theorem dX8_told_23 : decode prog_10_method_14_code 23 = .ok (.iload_n 2, 1) := by decide +kernel
theorem dX8_told_24 : decode prog_10_method_14_code 24 = .ok (.iconst 3, 1) := by decide +kernel
theorem dX8_told_25 : decode prog_10_method_14_code 25 = .ok (.if_icmp .ge 37, 3) := by decide +kernel
theorem dX8_told_28 : decode prog_10_method_14_code 28 = .ok (.iload_n 2, 1) := by decide +kernel
theorem dX8_told_29 : decode prog_10_method_14_code 29 = .ok (.ifCond .ne 12, 3) := by decide +kernel
theorem dX8_told_32 : decode prog_10_method_14_code 32 = .ok (.aload_n 0, 1) := by decide +kernel
theorem dX8_told_33 : decode prog_10_method_14_code 33 = .ok (.getfield 29, 3) := by decide +kernel
theorem dX8_told_36 : decode prog_10_method_14_code 36 = .ok (.iload_n 1, 1) := by decide +kernel
theorem dX8_told_37 : decode prog_10_method_14_code 37 = .ok (.iaload, 1) := by decide +kernel
theorem dX8_told_38 : decode prog_10_method_14_code 38 = .ok (.goto 23, 3) := by decide +kernel
theorem dX8_told_41 : decode prog_10_method_14_code 41 = .ok (.iload_n 2, 1) := by decide +kernel
theorem dX8_told_42 : decode prog_10_method_14_code 42 = .ok (.iconst 1, 1) := by decide +kernel
theorem dX8_told_43 : decode prog_10_method_14_code 43 = .ok (.if_icmp .ne 12, 3) := by decide +kernel
theorem dX8_told_46 : decode prog_10_method_14_code 46 = .ok (.aload_n 0, 1) := by decide +kernel
theorem dX8_told_47 : decode prog_10_method_14_code 47 = .ok (.getfield 32, 3) := by decide +kernel
theorem dX8_told_50 : decode prog_10_method_14_code 50 = .ok (.iload_n 1, 1) := by decide +kernel
theorem dX8_told_51 : decode prog_10_method_14_code 51 = .ok (.iaload, 1) := by decide +kernel
theorem dX8_told_52 : decode prog_10_method_14_code 52 = .ok (.goto 9, 3) := by decide +kernel
theorem dX8_told_55 : decode prog_10_method_14_code 55 = .ok (.aload_n 0, 1) := by decide +kernel
theorem dX8_told_56 : decode prog_10_method_14_code 56 = .ok (.getfield 35, 3) := by decide +kernel
theorem dX8_told_59 : decode prog_10_method_14_code 59 = .ok (.iload_n 1, 1) := by decide +kernel
theorem dX8_told_60 : decode prog_10_method_14_code 60 = .ok (.iaload, 1) := by decide +kernel
theorem dX8_told_61 : decode prog_10_method_14_code 61 = .ok (.ireturn, 1) := by decide +kernel
theorem dX8_told_62 : decode prog_10_method_14_code 62 = .ok (.iload_n 2, 1) := by decide +kernel
theorem dX8_told_63 : decode prog_10_method_14_code 63 = .ok (.iconst 3, 1) := by decide +kernel
theorem dX8_told_64 : decode prog_10_method_14_code 64 = .ok (.if_icmp .ne 18, 3) := by decide +kernel
theorem dX8_told_67 : decode prog_10_method_14_code 67 = .ok (.aload_n 0, 1) := by decide +kernel
theorem dX8_told_68 : decode prog_10_method_14_code 68 = .ok (.iload_n 1, 1) := by decide +kernel
theorem dX8_told_69 : decode prog_10_method_14_code 69 = .ok (.aload_n 0, 1) := by decide +kernel
theorem dX8_told_70 : decode prog_10_method_14_code 70 = .ok (.getfield 35, 3) := by decide +kernel
theorem dX8_told_73 : decode prog_10_method_14_code 73 = .ok (.iload_n 1, 1) := by decide +kernel
theorem dX8_told_74 : decode prog_10_method_14_code 74 = .ok (.iaload, 1) := by decide +kernel
theorem dX8_told_75 : decode prog_10_method_14_code 75 = .ok (.iconst 0, 1) := by decide +kernel
theorem dX8_told_76 : decode prog_10_method_14_code 76 = .ok (.invokevirtual 140, 3) := by decide +kernel
theorem dX8_told_79 : decode prog_10_method_14_code 79 = .ok (.goto 19, 3) := by decide +kernel
theorem dX8_told_82 : decode prog_10_method_14_code 82 = .ok (.aload_n 0, 1) := by decide +kernel
theorem dX8_told_83 : decode prog_10_method_14_code 83 = .ok (.iload_n 1, 1) := by decide +kernel
theorem dX8_told_84 : decode prog_10_method_14_code 84 = .ok (.iload_n 2, 1) := by decide +kernel
theorem dX8_told_85 : decode prog_10_method_14_code 85 = .ok (.iconst 3, 1) := by decide +kernel
theorem dX8_told_86 : decode prog_10_method_14_code 86 = .ok (.isub, 1) := by decide +kernel
theorem dX8_told_87 : decode prog_10_method_14_code 87 = .ok (.invokevirtual 144, 3) := by decide +kernel
theorem dX8_told_90 : decode prog_10_method_14_code 90 = .ok (.ifCond .eq 7, 3) := by decide +kernel
theorem dX8_told_93 : decode prog_10_method_14_code 93 = .ok (.iconst 1, 1) := by decide +kernel
theorem dX8_told_94 : decode prog_10_method_14_code 94 = .ok (.goto 4, 3) := by decide +kernel
theorem dX8_told_97 : decode prog_10_method_14_code 97 = .ok (.iconst 0, 1) := by decide +kernel
theorem dX8_told_98 : decode prog_10_method_14_code 98 = .ok (.ireturn, 1) := by decide +kernel
theorem dX8_goesTo_0 : decode prog_10_method_13_code 0 = .ok (.aload_n 0, 1) := by decide +kernel
theorem dX8_goesTo_1 : decode prog_10_method_13_code 1 = .ok (.getfield 29, 3) := by decide +kernel
theorem dX8_goesTo_4 : decode prog_10_method_13_code 4 = .ok (.iload_n 1, 1) := by decide +kernel
theorem dX8_goesTo_5 : decode prog_10_method_13_code 5 = .ok (.iaload, 1) := by decide +kernel
theorem dX8_goesTo_6 : decode prog_10_method_13_code 6 = .ok (.istore 4, 2) := by decide +kernel
theorem dX8_goesTo_8 : decode prog_10_method_13_code 8 = .ok (.iload 4, 2) := by decide +kernel
theorem dX8_goesTo_10 : decode prog_10_method_13_code 10 = .ok (.iconst 3, 1) := by decide +kernel
theorem dX8_goesTo_11 : decode prog_10_method_13_code 11 = .ok (.if_icmp .ne 19, 3) := by decide +kernel
theorem dX8_goesTo_14 : decode prog_10_method_13_code 14 = .ok (.iload_n 3, 1) := by decide +kernel
theorem dX8_goesTo_15 : decode prog_10_method_13_code 15 = .ok (.ifCond .ne 9, 3) := by decide +kernel
theorem dX8_goesTo_18 : decode prog_10_method_13_code 18 = .ok (.iload_n 2, 1) := by decide +kernel
theorem dX8_goesTo_19 : decode prog_10_method_13_code 19 = .ok (.iconst 1, 1) := by decide +kernel
theorem dX8_goesTo_20 : decode prog_10_method_13_code 20 = .ok (.iadd, 1) := by decide +kernel
theorem dX8_goesTo_21 : decode prog_10_method_13_code 21 = .ok (.goto 24, 3) := by decide +kernel
theorem dX8_goesTo_24 : decode prog_10_method_13_code 24 = .ok (.iload_n 2, 1) := by decide +kernel
theorem dX8_goesTo_25 : decode prog_10_method_13_code 25 = .ok (.iload_n 3, 1) := by decide +kernel
theorem dX8_goesTo_26 : decode prog_10_method_13_code 26 = .ok (.iadd, 1) := by decide +kernel
theorem dX8_goesTo_27 : decode prog_10_method_13_code 27 = .ok (.goto 18, 3) := by decide +kernel
theorem dX8_goesTo_30 : decode prog_10_method_13_code 30 = .ok (.iload 4, 2) := by decide +kernel
theorem dX8_goesTo_32 : decode prog_10_method_13_code 32 = .ok (.iconst 4, 1) := by decide +kernel
theorem dX8_goesTo_33 : decode prog_10_method_13_code 33 = .ok (.if_icmp .ne 9, 3) := by decide +kernel
theorem dX8_goesTo_36 : decode prog_10_method_13_code 36 = .ok (.iload_n 2, 1) := by decide +kernel
theorem dX8_goesTo_37 : decode prog_10_method_13_code 37 = .ok (.iconst 2, 1) := by decide +kernel
theorem dX8_goesTo_38 : decode prog_10_method_13_code 38 = .ok (.iadd, 1) := by decide +kernel
theorem dX8_goesTo_39 : decode prog_10_method_13_code 39 = .ok (.goto 6, 3) := by decide +kernel
theorem dX8_goesTo_42 : decode prog_10_method_13_code 42 = .ok (.iload_n 2, 1) := by decide +kernel
theorem dX8_goesTo_43 : decode prog_10_method_13_code 43 = .ok (.iconst 4, 1) := by decide +kernel
theorem dX8_goesTo_44 : decode prog_10_method_13_code 44 = .ok (.iadd, 1) := by decide +kernel
theorem dX8_goesTo_45 : decode prog_10_method_13_code 45 = .ok (.invokestatic 136, 3) := by decide +kernel
theorem dX8_goesTo_48 : decode prog_10_method_13_code 48 = .ok (.ireturn, 1) := by decide +kernel
theorem dX8_round_0 : decode prog_10_method_4_code 0 = .ok (.iload_n 0, 1) := by decide +kernel
theorem dX8_round_1 : decode prog_10_method_4_code 1 = .ok (.bipush 8, 2) := by decide +kernel
theorem dX8_round_3 : decode prog_10_method_4_code 3 = .ok (.irem, 1) := by decide +kernel
theorem dX8_round_4 : decode prog_10_method_4_code 4 = .ok (.bipush 8, 2) := by decide +kernel
theorem dX8_round_6 : decode prog_10_method_4_code 6 = .ok (.iadd, 1) := by decide +kernel
theorem dX8_round_7 : decode prog_10_method_4_code 7 = .ok (.bipush 8, 2) := by decide +kernel
theorem dX8_round_9 : decode prog_10_method_4_code 9 = .ok (.irem, 1) := by decide +kernel
theorem dX8_round_10 : decode prog_10_method_4_code 10 = .ok (.ireturn, 1) := by decide +kernel
theorem dX8_getsUp_0 : decode prog_10_method_12_code 0 = .ok (.aload_n 0, 1) := by decide +kernel
theorem dX8_getsUp_1 : decode prog_10_method_12_code 1 = .ok (.getfield 29, 3) := by decide +kernel
theorem dX8_getsUp_4 : decode prog_10_method_12_code 4 = .ok (.iload_n 1, 1) := by decide +kernel
theorem dX8_getsUp_5 : decode prog_10_method_12_code 5 = .ok (.iaload, 1) := by decide +kernel
theorem dX8_getsUp_6 : decode prog_10_method_12_code 6 = .ok (.istore_n 3, 1) := by decide +kernel
theorem dX8_getsUp_7 : decode prog_10_method_12_code 7 = .ok (.iload_n 3, 1) := by decide +kernel
theorem dX8_getsUp_8 : decode prog_10_method_12_code 8 = .ok (.iconst 1, 1) := by decide +kernel
theorem dX8_getsUp_9 : decode prog_10_method_12_code 9 = .ok (.if_icmp .eq 8, 3) := by decide +kernel
theorem dX8_getsUp_12 : decode prog_10_method_12_code 12 = .ok (.iload_n 3, 1) := by decide +kernel
theorem dX8_getsUp_13 : decode prog_10_method_12_code 13 = .ok (.iconst 3, 1) := by decide +kernel
theorem dX8_getsUp_14 : decode prog_10_method_12_code 14 = .ok (.if_icmp .ne 5, 3) := by decide +kernel
theorem dX8_getsUp_17 : decode prog_10_method_12_code 17 = .ok (.iconst 1, 1) := by decide +kernel
theorem dX8_getsUp_18 : decode prog_10_method_12_code 18 = .ok (.ireturn, 1) := by decide +kernel
theorem dX8_getsUp_19 : decode prog_10_method_12_code 19 = .ok (.iload_n 3, 1) := by decide +kernel
theorem dX8_getsUp_20 : decode prog_10_method_12_code 20 = .ok (.iconst 2, 1) := by decide +kernel
theorem dX8_getsUp_21 : decode prog_10_method_12_code 21 = .ok (.if_icmp .eq 14, 3) := by decide +kernel
theorem dX8_getsUp_24 : decode prog_10_method_12_code 24 = .ok (.iload_n 3, 1) := by decide +kernel
theorem dX8_getsUp_25 : decode prog_10_method_12_code 25 = .ok (.iconst 4, 1) := by decide +kernel
theorem dX8_getsUp_26 : decode prog_10_method_12_code 26 = .ok (.if_icmp .ne 23, 3) := by decide +kernel
theorem dX8_getsUp_29 : decode prog_10_method_12_code 29 = .ok (.iload_n 2, 1) := by decide +kernel
theorem dX8_getsUp_30 : decode prog_10_method_12_code 30 = .ok (.iconst 2, 1) := by decide +kernel
theorem dX8_getsUp_31 : decode prog_10_method_12_code 31 = .ok (.irem, 1) := by decide +kernel
theorem dX8_getsUp_32 : decode prog_10_method_12_code 32 = .ok (.ifCond .ne 17, 3) := by decide +kernel
theorem dX8_getsUp_35 : decode prog_10_method_12_code 35 = .ok (.iload_n 2, 1) := by decide +kernel
theorem dX8_getsUp_36 : decode prog_10_method_12_code 36 = .ok (.aload_n 0, 1) := by decide +kernel
theorem dX8_getsUp_37 : decode prog_10_method_12_code 37 = .ok (.getfield 32, 3) := by decide +kernel
theorem dX8_getsUp_40 : decode prog_10_method_12_code 40 = .ok (.iload_n 1, 1) := by decide +kernel
theorem dX8_getsUp_41 : decode prog_10_method_12_code 41 = .ok (.iaload, 1) := by decide +kernel
theorem dX8_getsUp_42 : decode prog_10_method_12_code 42 = .ok (.if_icmp .le 7, 3) := by decide +kernel
theorem dX8_getsUp_45 : decode prog_10_method_12_code 45 = .ok (.iconst 1, 1) := by decide +kernel
theorem dX8_getsUp_46 : decode prog_10_method_12_code 46 = .ok (.goto 4, 3) := by decide +kernel
theorem dX8_getsUp_49 : decode prog_10_method_12_code 49 = .ok (.iconst 0, 1) := by decide +kernel
theorem dX8_getsUp_50 : decode prog_10_method_12_code 50 = .ok (.ireturn, 1) := by decide +kernel
theorem dX8_feed_0 : decode prog_10_method_15_code 0 = .ok (.iload_n 1, 1) := by decide +kernel
theorem dX8_feed_1 : decode prog_10_method_15_code 1 = .ok (.i2l, 1) := by decide +kernel
theorem dX8_feed_2 : decode prog_10_method_15_code 2 = .ok (.lconst 0, 1) := by decide +kernel
theorem dX8_feed_3 : decode prog_10_method_15_code 3 = .ok (.ldc2_w 148, 3) := by decide +kernel
theorem dX8_feed_6 : decode prog_10_method_15_code 6 = .ok (.invokestatic 104, 3) := by decide +kernel
theorem dX8_feed_9 : decode prog_10_method_15_code 9 = .ok (.ifCond .ne 6, 3) := by decide +kernel
theorem dX8_feed_12 : decode prog_10_method_15_code 12 = .ok (.bipush (-2), 2) := by decide +kernel
theorem dX8_feed_14 : decode prog_10_method_15_code 14 = .ok (.ireturn, 1) := by decide +kernel
theorem dX8_feed_15 : decode prog_10_method_15_code 15 = .ok (.aload_n 0, 1) := by decide +kernel
theorem dX8_feed_16 : decode prog_10_method_15_code 16 = .ok (.getfield 150, 3) := by decide +kernel
theorem dX8_feed_19 : decode prog_10_method_15_code 19 = .ok (.sipush 160, 3) := by decide +kernel
theorem dX8_feed_22 : decode prog_10_method_15_code 22 = .ok (.if_icmp .ne 6, 3) := by decide +kernel
theorem dX8_feed_25 : decode prog_10_method_15_code 25 = .ok (.bipush (-4), 2) := by decide +kernel
theorem dX8_feed_27 : decode prog_10_method_15_code 27 = .ok (.ireturn, 1) := by decide +kernel
theorem dX8_feed_28 : decode prog_10_method_15_code 28 = .ok (.aload_n 0, 1) := by decide +kernel
theorem dX8_feed_29 : decode prog_10_method_15_code 29 = .ok (.getfield 20, 3) := by decide +kernel
theorem dX8_feed_32 : decode prog_10_method_15_code 32 = .ok (.aload_n 0, 1) := by decide +kernel
theorem dX8_feed_33 : decode prog_10_method_15_code 33 = .ok (.getfield 150, 3) := by decide +kernel
theorem dX8_feed_36 : decode prog_10_method_15_code 36 = .ok (.iload_n 1, 1) := by decide +kernel
theorem dX8_feed_37 : decode prog_10_method_15_code 37 = .ok (.iastore, 1) := by decide +kernel
theorem dX8_feed_38 : decode prog_10_method_15_code 38 = .ok (.aload_n 0, 1) := by decide +kernel
theorem dX8_feed_39 : decode prog_10_method_15_code 39 = .ok (.dup, 1) := by decide +kernel
theorem dX8_feed_40 : decode prog_10_method_15_code 40 = .ok (.getfield 150, 3) := by decide +kernel
theorem dX8_feed_43 : decode prog_10_method_15_code 43 = .ok (.iconst 1, 1) := by decide +kernel
theorem dX8_feed_44 : decode prog_10_method_15_code 44 = .ok (.iadd, 1) := by decide +kernel
theorem dX8_feed_45 : decode prog_10_method_15_code 45 = .ok (.putfield 150, 3) := by decide +kernel
theorem dX8_feed_48 : decode prog_10_method_15_code 48 = .ok (.aload_n 0, 1) := by decide +kernel
theorem dX8_feed_49 : decode prog_10_method_15_code 49 = .ok (.getfield 150, 3) := by decide +kernel
theorem dX8_feed_52 : decode prog_10_method_15_code 52 = .ok (.ireturn, 1) := by decide +kernel
theorem dX8_text_0 : decode prog_10_method_32_code 0 = .ok (.aload_n 0, 1) := by decide +kernel
theorem dX8_text_1 : decode prog_10_method_32_code 1 = .ok (.getfield 98, 3) := by decide +kernel
theorem dX8_text_4 : decode prog_10_method_32_code 4 = .ok (.bipush 6, 2) := by decide +kernel
theorem dX8_text_6 : decode prog_10_method_32_code 6 = .ok (.if_icmp .ne 6, 3) := by decide +kernel
theorem dX8_text_9 : decode prog_10_method_32_code 9 = .ok (.bipush (-4), 2) := by decide +kernel
theorem dX8_text_11 : decode prog_10_method_32_code 11 = .ok (.ireturn, 1) := by decide +kernel
theorem dX8_text_12 : decode prog_10_method_32_code 12 = .ok (.iconst 0, 1) := by decide +kernel
theorem dX8_text_13 : decode prog_10_method_32_code 13 = .ok (.istore_n 1, 1) := by decide +kernel
theorem dX8_text_14 : decode prog_10_method_32_code 14 = .ok (.iload_n 1, 1) := by decide +kernel
theorem dX8_text_15 : decode prog_10_method_32_code 15 = .ok (.aload_n 0, 1) := by decide +kernel
theorem dX8_text_16 : decode prog_10_method_32_code 16 = .ok (.getfield 150, 3) := by decide +kernel
theorem dX8_text_19 : decode prog_10_method_32_code 19 = .ok (.if_icmp .ge 30, 3) := by decide +kernel
theorem dX8_text_22 : decode prog_10_method_32_code 22 = .ok (.aload_n 0, 1) := by decide +kernel
theorem dX8_text_23 : decode prog_10_method_32_code 23 = .ok (.getfield 13, 3) := by decide +kernel
theorem dX8_text_26 : decode prog_10_method_32_code 26 = .ok (.sipush 160, 3) := by decide +kernel
theorem dX8_text_29 : decode prog_10_method_32_code 29 = .ok (.aload_n 0, 1) := by decide +kernel
theorem dX8_text_30 : decode prog_10_method_32_code 30 = .ok (.getfield 98, 3) := by decide +kernel
theorem dX8_text_33 : decode prog_10_method_32_code 33 = .ok (.imul, 1) := by decide +kernel
theorem dX8_text_34 : decode prog_10_method_32_code 34 = .ok (.iload_n 1, 1) := by decide +kernel
theorem dX8_text_35 : decode prog_10_method_32_code 35 = .ok (.iadd, 1) := by decide +kernel
theorem dX8_text_36 : decode prog_10_method_32_code 36 = .ok (.aload_n 0, 1) := by decide +kernel
theorem dX8_text_37 : decode prog_10_method_32_code 37 = .ok (.getfield 20, 3) := by decide +kernel
theorem dX8_text_40 : decode prog_10_method_32_code 40 = .ok (.iload_n 1, 1) := by decide +kernel
theorem dX8_text_41 : decode prog_10_method_32_code 41 = .ok (.iaload, 1) := by decide +kernel
theorem dX8_text_42 : decode prog_10_method_32_code 42 = .ok (.iastore, 1) := by decide +kernel
theorem dX8_text_43 : decode prog_10_method_32_code 43 = .ok (.iinc 1 1, 3) := by decide +kernel
theorem dX8_text_46 : decode prog_10_method_32_code 46 = .ok (.goto (-32), 3) := by decide +kernel
theorem dX8_text_49 : decode prog_10_method_32_code 49 = .ok (.aload_n 0, 1) := by decide +kernel
theorem dX8_text_50 : decode prog_10_method_32_code 50 = .ok (.getfield 17, 3) := by decide +kernel
theorem dX8_text_53 : decode prog_10_method_32_code 53 = .ok (.aload_n 0, 1) := by decide +kernel
theorem dX8_text_54 : decode prog_10_method_32_code 54 = .ok (.getfield 98, 3) := by decide +kernel
theorem dX8_text_57 : decode prog_10_method_32_code 57 = .ok (.aload_n 0, 1) := by decide +kernel
theorem dX8_text_58 : decode prog_10_method_32_code 58 = .ok (.getfield 150, 3) := by decide +kernel
theorem dX8_text_61 : decode prog_10_method_32_code 61 = .ok (.iastore, 1) := by decide +kernel
theorem dX8_text_62 : decode prog_10_method_32_code 62 = .ok (.aload_n 0, 1) := by decide +kernel
theorem dX8_text_63 : decode prog_10_method_32_code 63 = .ok (.iconst 0, 1) := by decide +kernel
theorem dX8_text_64 : decode prog_10_method_32_code 64 = .ok (.putfield 150, 3) := by decide +kernel
theorem dX8_text_67 : decode prog_10_method_32_code 67 = .ok (.aload_n 0, 1) := by decide +kernel
theorem dX8_text_68 : decode prog_10_method_32_code 68 = .ok (.aload_n 0, 1) := by decide +kernel
theorem dX8_text_69 : decode prog_10_method_32_code 69 = .ok (.getfield 98, 3) := by decide +kernel
theorem dX8_text_72 : decode prog_10_method_32_code 72 = .ok (.iconst 0, 1) := by decide +kernel
theorem dX8_text_73 : decode prog_10_method_32_code 73 = .ok (.invokevirtual 263, 3) := by decide +kernel
theorem dX8_text_76 : decode prog_10_method_32_code 76 = .ok (.istore_n 1, 1) := by decide +kernel
theorem dX8_text_77 : decode prog_10_method_32_code 77 = .ok (.aload_n 0, 1) := by decide +kernel
theorem dX8_text_78 : decode prog_10_method_32_code 78 = .ok (.getfield 185, 3) := by decide +kernel
theorem dX8_text_81 : decode prog_10_method_32_code 81 = .ok (.ifCond .eq 11, 3) := by decide +kernel
theorem dX8_text_84 : decode prog_10_method_32_code 84 = .ok (.bipush (-100), 2) := by decide +kernel
theorem dX8_text_86 : decode prog_10_method_32_code 86 = .ok (.aload_n 0, 1) := by decide +kernel
theorem dX8_text_87 : decode prog_10_method_32_code 87 = .ok (.getfield 189, 3) := by decide +kernel
theorem dX8_text_90 : decode prog_10_method_32_code 90 = .ok (.isub, 1) := by decide +kernel
theorem dX8_text_91 : decode prog_10_method_32_code 91 = .ok (.ireturn, 1) := by decide +kernel
theorem dX8_text_92 : decode prog_10_method_32_code 92 = .ok (.aload_n 0, 1) := by decide +kernel
theorem dX8_text_93 : decode prog_10_method_32_code 93 = .ok (.dup, 1) := by decide +kernel
theorem dX8_text_94 : decode prog_10_method_32_code 94 = .ok (.getfield 98, 3) := by decide +kernel
theorem dX8_text_97 : decode prog_10_method_32_code 97 = .ok (.iconst 1, 1) := by decide +kernel
theorem dX8_text_98 : decode prog_10_method_32_code 98 = .ok (.iadd, 1) := by decide +kernel
theorem dX8_text_99 : decode prog_10_method_32_code 99 = .ok (.putfield 98, 3) := by decide +kernel
theorem dX8_text_102 : decode prog_10_method_32_code 102 = .ok (.aload_n 0, 1) := by decide +kernel
theorem dX8_text_103 : decode prog_10_method_32_code 103 = .ok (.getfield 98, 3) := by decide +kernel
theorem dX8_text_106 : decode prog_10_method_32_code 106 = .ok (.iconst 1, 1) := by decide +kernel
theorem dX8_text_107 : decode prog_10_method_32_code 107 = .ok (.isub, 1) := by decide +kernel
theorem dX8_text_108 : decode prog_10_method_32_code 108 = .ok (.ireturn, 1) := by decide +kernel
theorem dX8_read_0 : decode prog_10_method_31_code 0 = .ok (.aload_n 0, 1) := by decide +kernel
theorem dX8_read_1 : decode prog_10_method_31_code 1 = .ok (.sipush 160, 3) := by decide +kernel
theorem dX8_read_4 : decode prog_10_method_31_code 4 = .ok (.iload_n 1, 1) := by decide +kernel
theorem dX8_read_5 : decode prog_10_method_31_code 5 = .ok (.imul, 1) := by decide +kernel
theorem dX8_read_6 : decode prog_10_method_31_code 6 = .ok (.putfield 156, 3) := by decide +kernel
theorem dX8_read_9 : decode prog_10_method_31_code 9 = .ok (.aload_n 0, 1) := by decide +kernel
theorem dX8_read_10 : decode prog_10_method_31_code 10 = .ok (.aload_n 0, 1) := by decide +kernel
theorem dX8_read_11 : decode prog_10_method_31_code 11 = .ok (.getfield 17, 3) := by decide +kernel
theorem dX8_read_14 : decode prog_10_method_31_code 14 = .ok (.iload_n 1, 1) := by decide +kernel
theorem dX8_read_15 : decode prog_10_method_31_code 15 = .ok (.iaload, 1) := by decide +kernel
theorem dX8_read_16 : decode prog_10_method_31_code 16 = .ok (.putfield 153, 3) := by decide +kernel
theorem dX8_read_19 : decode prog_10_method_31_code 19 = .ok (.aload_n 0, 1) := by decide +kernel
theorem dX8_read_20 : decode prog_10_method_31_code 20 = .ok (.iconst 0, 1) := by decide +kernel
theorem dX8_read_21 : decode prog_10_method_31_code 21 = .ok (.putfield 159, 3) := by decide +kernel
theorem dX8_read_24 : decode prog_10_method_31_code 24 = .ok (.aload_n 0, 1) := by decide +kernel
theorem dX8_read_25 : decode prog_10_method_31_code 25 = .ok (.iconst 0, 1) := by decide +kernel
theorem dX8_read_26 : decode prog_10_method_31_code 26 = .ok (.putfield 195, 3) := by decide +kernel
theorem dX8_read_29 : decode prog_10_method_31_code 29 = .ok (.aload_n 0, 1) := by decide +kernel
theorem dX8_read_30 : decode prog_10_method_31_code 30 = .ok (.iconst 0, 1) := by decide +kernel
theorem dX8_read_31 : decode prog_10_method_31_code 31 = .ok (.putfield 185, 3) := by decide +kernel
theorem dX8_read_34 : decode prog_10_method_31_code 34 = .ok (.aload_n 0, 1) := by decide +kernel
theorem dX8_read_35 : decode prog_10_method_31_code 35 = .ok (.invokevirtual 201, 3) := by decide +kernel
theorem dX8_read_38 : decode prog_10_method_31_code 38 = .ok (.aload_n 0, 1) := by decide +kernel
theorem dX8_read_39 : decode prog_10_method_31_code 39 = .ok (.aload_n 0, 1) := by decide +kernel
theorem dX8_read_40 : decode prog_10_method_31_code 40 = .ok (.bipush 98, 2) := by decide +kernel
theorem dX8_read_42 : decode prog_10_method_31_code 42 = .ok (.bipush 101, 2) := by decide +kernel
theorem dX8_read_44 : decode prog_10_method_31_code 44 = .ok (.bipush 97, 2) := by decide +kernel
theorem dX8_read_46 : decode prog_10_method_31_code 46 = .ok (.bipush 114, 2) := by decide +kernel
theorem dX8_read_48 : decode prog_10_method_31_code 48 = .ok (.bipush 115, 2) := by decide +kernel
theorem dX8_read_50 : decode prog_10_method_31_code 50 = .ok (.iconst 0, 1) := by decide +kernel
theorem dX8_read_51 : decode prog_10_method_31_code 51 = .ok (.iconst 0, 1) := by decide +kernel
theorem dX8_read_52 : decode prog_10_method_31_code 52 = .ok (.iconst 0, 1) := by decide +kernel
theorem dX8_read_53 : decode prog_10_method_31_code 53 = .ok (.invokevirtual 204, 3) := by decide +kernel
theorem dX8_read_56 : decode prog_10_method_31_code 56 = .ok (.invokevirtual 259, 3) := by decide +kernel
theorem dX8_read_59 : decode prog_10_method_31_code 59 = .ok (.istore_n 3, 1) := by decide +kernel
theorem dX8_read_60 : decode prog_10_method_31_code 60 = .ok (.aload_n 0, 1) := by decide +kernel
theorem dX8_read_61 : decode prog_10_method_31_code 61 = .ok (.getfield 185, 3) := by decide +kernel
theorem dX8_read_64 : decode prog_10_method_31_code 64 = .ok (.ifCond .eq 7, 3) := by decide +kernel
theorem dX8_read_67 : decode prog_10_method_31_code 67 = .ok (.iconst 0, 1) := by decide +kernel
theorem dX8_read_68 : decode prog_10_method_31_code 68 = .ok (.goto 24, 3) := by decide +kernel
theorem dX8_read_71 : decode prog_10_method_31_code 71 = .ok (.aload_n 0, 1) := by decide +kernel
theorem dX8_read_72 : decode prog_10_method_31_code 72 = .ok (.aload_n 0, 1) := by decide +kernel
theorem dX8_read_73 : decode prog_10_method_31_code 73 = .ok (.bipush 109, 2) := by decide +kernel
theorem dX8_read_75 : decode prog_10_method_31_code 75 = .ok (.bipush 111, 2) := by decide +kernel
theorem dX8_read_77 : decode prog_10_method_31_code 77 = .ok (.bipush 118, 2) := by decide +kernel
theorem dX8_read_79 : decode prog_10_method_31_code 79 = .ok (.bipush 101, 2) := by decide +kernel
theorem dX8_read_81 : decode prog_10_method_31_code 81 = .ok (.bipush 115, 2) := by decide +kernel
theorem dX8_read_83 : decode prog_10_method_31_code 83 = .ok (.iconst 0, 1) := by decide +kernel
theorem dX8_read_84 : decode prog_10_method_31_code 84 = .ok (.iconst 0, 1) := by decide +kernel
theorem dX8_read_85 : decode prog_10_method_31_code 85 = .ok (.iconst 0, 1) := by decide +kernel
theorem dX8_read_86 : decode prog_10_method_31_code 86 = .ok (.invokevirtual 204, 3) := by decide +kernel
theorem dX8_read_89 : decode prog_10_method_31_code 89 = .ok (.invokevirtual 259, 3) := by decide +kernel
theorem dX8_read_92 : decode prog_10_method_31_code 92 = .ok (.istore 4, 2) := by decide +kernel
theorem dX8_read_94 : decode prog_10_method_31_code 94 = .ok (.aload_n 0, 1) := by decide +kernel
theorem dX8_read_95 : decode prog_10_method_31_code 95 = .ok (.getfield 185, 3) := by decide +kernel
theorem dX8_read_98 : decode prog_10_method_31_code 98 = .ok (.ifCond .eq 7, 3) := by decide +kernel
theorem dX8_read_101 : decode prog_10_method_31_code 101 = .ok (.iconst 0, 1) := by decide +kernel
theorem dX8_read_102 : decode prog_10_method_31_code 102 = .ok (.goto 23, 3) := by decide +kernel
theorem dX8_read_105 : decode prog_10_method_31_code 105 = .ok (.aload_n 0, 1) := by decide +kernel
theorem dX8_read_106 : decode prog_10_method_31_code 106 = .ok (.aload_n 0, 1) := by decide +kernel
theorem dX8_read_107 : decode prog_10_method_31_code 107 = .ok (.bipush 104, 2) := by decide +kernel
theorem dX8_read_109 : decode prog_10_method_31_code 109 = .ok (.bipush 101, 2) := by decide +kernel
theorem dX8_read_111 : decode prog_10_method_31_code 111 = .ok (.bipush 97, 2) := by decide +kernel
theorem dX8_read_113 : decode prog_10_method_31_code 113 = .ok (.bipush 116, 2) := by decide +kernel
theorem dX8_read_115 : decode prog_10_method_31_code 115 = .ok (.iconst 0, 1) := by decide +kernel
theorem dX8_read_116 : decode prog_10_method_31_code 116 = .ok (.iconst 0, 1) := by decide +kernel
theorem dX8_read_117 : decode prog_10_method_31_code 117 = .ok (.iconst 0, 1) := by decide +kernel
theorem dX8_read_118 : decode prog_10_method_31_code 118 = .ok (.iconst 0, 1) := by decide +kernel
theorem dX8_read_119 : decode prog_10_method_31_code 119 = .ok (.invokevirtual 204, 3) := by decide +kernel
theorem dX8_read_122 : decode prog_10_method_31_code 122 = .ok (.invokevirtual 259, 3) := by decide +kernel
theorem dX8_read_125 : decode prog_10_method_31_code 125 = .ok (.istore 5, 2) := by decide +kernel
theorem dX8_read_127 : decode prog_10_method_31_code 127 = .ok (.aload_n 0, 1) := by decide +kernel
theorem dX8_read_128 : decode prog_10_method_31_code 128 = .ok (.getfield 185, 3) := by decide +kernel
theorem dX8_read_131 : decode prog_10_method_31_code 131 = .ok (.ifCond .ne 14, 3) := by decide +kernel
theorem dX8_read_134 : decode prog_10_method_31_code 134 = .ok (.aload_n 0, 1) := by decide +kernel
theorem dX8_read_135 : decode prog_10_method_31_code 135 = .ok (.getfield 168, 3) := by decide +kernel
theorem dX8_read_138 : decode prog_10_method_31_code 138 = .ok (.ifCond .eq 7, 3) := by decide +kernel
theorem dX8_read_141 : decode prog_10_method_31_code 141 = .ok (.aload_n 0, 1) := by decide +kernel
theorem dX8_read_142 : decode prog_10_method_31_code 142 = .ok (.invokevirtual 198, 3) := by decide +kernel
theorem dX8_read_145 : decode prog_10_method_31_code 145 = .ok (.iload_n 2, 1) := by decide +kernel
theorem dX8_read_146 : decode prog_10_method_31_code 146 = .ok (.ifCond .ne 7, 3) := by decide +kernel
theorem dX8_read_149 : decode prog_10_method_31_code 149 = .ok (.iload_n 3, 1) := by decide +kernel
theorem dX8_read_150 : decode prog_10_method_31_code 150 = .ok (.goto 15, 3) := by decide +kernel
theorem dX8_read_153 : decode prog_10_method_31_code 153 = .ok (.iload_n 2, 1) := by decide +kernel
theorem dX8_read_154 : decode prog_10_method_31_code 154 = .ok (.iconst 1, 1) := by decide +kernel
theorem dX8_read_155 : decode prog_10_method_31_code 155 = .ok (.if_icmp .ne 8, 3) := by decide +kernel
theorem dX8_read_158 : decode prog_10_method_31_code 158 = .ok (.iload 4, 2) := by decide +kernel
theorem dX8_read_160 : decode prog_10_method_31_code 160 = .ok (.goto 5, 3) := by decide +kernel
theorem dX8_read_163 : decode prog_10_method_31_code 163 = .ok (.iload 5, 2) := by decide +kernel
theorem dX8_read_165 : decode prog_10_method_31_code 165 = .ok (.ireturn, 1) := by decide +kernel
theorem dX8_next_0 : decode prog_10_method_17_code 0 = .ok (.aload_n 0, 1) := by decide +kernel
theorem dX8_next_1 : decode prog_10_method_17_code 1 = .ok (.aload_n 0, 1) := by decide +kernel
theorem dX8_next_2 : decode prog_10_method_17_code 2 = .ok (.getfield 159, 3) := by decide +kernel
theorem dX8_next_5 : decode prog_10_method_17_code 5 = .ok (.invokevirtual 162, 3) := by decide +kernel
theorem dX8_next_8 : decode prog_10_method_17_code 8 = .ok (.bipush 32, 2) := by decide +kernel
theorem dX8_next_10 : decode prog_10_method_17_code 10 = .ok (.if_icmp .eq 16, 3) := by decide +kernel
theorem dX8_next_13 : decode prog_10_method_17_code 13 = .ok (.aload_n 0, 1) := by decide +kernel
theorem dX8_next_14 : decode prog_10_method_17_code 14 = .ok (.aload_n 0, 1) := by decide +kernel
theorem dX8_next_15 : decode prog_10_method_17_code 15 = .ok (.getfield 159, 3) := by decide +kernel
theorem dX8_next_18 : decode prog_10_method_17_code 18 = .ok (.invokevirtual 162, 3) := by decide +kernel
theorem dX8_next_21 : decode prog_10_method_17_code 21 = .ok (.bipush 10, 2) := by decide +kernel
theorem dX8_next_23 : decode prog_10_method_17_code 23 = .ok (.if_icmp .ne 16, 3) := by decide +kernel
theorem dX8_next_26 : decode prog_10_method_17_code 26 = .ok (.aload_n 0, 1) := by decide +kernel
theorem dX8_next_27 : decode prog_10_method_17_code 27 = .ok (.dup, 1) := by decide +kernel
theorem dX8_next_28 : decode prog_10_method_17_code 28 = .ok (.getfield 159, 3) := by decide +kernel
theorem dX8_next_31 : decode prog_10_method_17_code 31 = .ok (.iconst 1, 1) := by decide +kernel
theorem dX8_next_32 : decode prog_10_method_17_code 32 = .ok (.iadd, 1) := by decide +kernel
theorem dX8_next_33 : decode prog_10_method_17_code 33 = .ok (.putfield 159, 3) := by decide +kernel
theorem dX8_next_36 : decode prog_10_method_17_code 36 = .ok (.goto (-36), 3) := by decide +kernel
theorem dX8_next_39 : decode prog_10_method_17_code 39 = .ok (.aload_n 0, 1) := by decide +kernel
theorem dX8_next_40 : decode prog_10_method_17_code 40 = .ok (.aload_n 0, 1) := by decide +kernel
theorem dX8_next_41 : decode prog_10_method_17_code 41 = .ok (.getfield 159, 3) := by decide +kernel
theorem dX8_next_44 : decode prog_10_method_17_code 44 = .ok (.putfield 165, 3) := by decide +kernel
theorem dX8_next_47 : decode prog_10_method_17_code 47 = .ok (.aload_n 0, 1) := by decide +kernel
theorem dX8_next_48 : decode prog_10_method_17_code 48 = .ok (.aload_n 0, 1) := by decide +kernel
theorem dX8_next_49 : decode prog_10_method_17_code 49 = .ok (.getfield 159, 3) := by decide +kernel
theorem dX8_next_52 : decode prog_10_method_17_code 52 = .ok (.invokevirtual 162, 3) := by decide +kernel
theorem dX8_next_55 : decode prog_10_method_17_code 55 = .ok (.istore_n 1, 1) := by decide +kernel
theorem dX8_next_56 : decode prog_10_method_17_code 56 = .ok (.aload_n 0, 1) := by decide +kernel
theorem dX8_next_57 : decode prog_10_method_17_code 57 = .ok (.iconst 4, 1) := by decide +kernel
theorem dX8_next_58 : decode prog_10_method_17_code 58 = .ok (.putfield 168, 3) := by decide +kernel
theorem dX8_next_61 : decode prog_10_method_17_code 61 = .ok (.iload_n 1, 1) := by decide +kernel
theorem dX8_next_62 : decode prog_10_method_17_code 62 = .ok (.ifCond .ge 19, 3) := by decide +kernel
theorem dX8_next_65 : decode prog_10_method_17_code 65 = .ok (.aload_n 0, 1) := by decide +kernel
theorem dX8_next_66 : decode prog_10_method_17_code 66 = .ok (.iconst 0, 1) := by decide +kernel
theorem dX8_next_67 : decode prog_10_method_17_code 67 = .ok (.putfield 168, 3) := by decide +kernel
theorem dX8_next_70 : decode prog_10_method_17_code 70 = .ok (.aload_n 0, 1) := by decide +kernel
theorem dX8_next_71 : decode prog_10_method_17_code 71 = .ok (.aload_n 0, 1) := by decide +kernel
theorem dX8_next_72 : decode prog_10_method_17_code 72 = .ok (.getfield 153, 3) := by decide +kernel
theorem dX8_next_75 : decode prog_10_method_17_code 75 = .ok (.putfield 165, 3) := by decide +kernel
theorem dX8_next_78 : decode prog_10_method_17_code 78 = .ok (.goto 243, 3) := by decide +kernel
theorem dX8_next_81 : decode prog_10_method_17_code 81 = .ok (.iload_n 1, 1) := by decide +kernel
theorem dX8_next_82 : decode prog_10_method_17_code 82 = .ok (.i2l, 1) := by decide +kernel
theorem dX8_next_83 : decode prog_10_method_17_code 83 = .ok (.ldc2_w 171, 3) := by decide +kernel
theorem dX8_next_86 : decode prog_10_method_17_code 86 = .ok (.ldc2_w 173, 3) := by decide +kernel
theorem dX8_next_89 : decode prog_10_method_17_code 89 = .ok (.invokestatic 104, 3) := by decide +kernel
theorem dX8_next_92 : decode prog_10_method_17_code 92 = .ok (.ifCond .eq 42, 3) := by decide +kernel
theorem dX8_next_95 : decode prog_10_method_17_code 95 = .ok (.aload_n 0, 1) := by decide +kernel
theorem dX8_next_96 : decode prog_10_method_17_code 96 = .ok (.iconst 1, 1) := by decide +kernel
theorem dX8_next_97 : decode prog_10_method_17_code 97 = .ok (.putfield 168, 3) := by decide +kernel
theorem dX8_next_100 : decode prog_10_method_17_code 100 = .ok (.aload_n 0, 1) := by decide +kernel
theorem dX8_next_101 : decode prog_10_method_17_code 101 = .ok (.aload_n 0, 1) := by decide +kernel
theorem dX8_next_102 : decode prog_10_method_17_code 102 = .ok (.getfield 159, 3) := by decide +kernel
theorem dX8_next_105 : decode prog_10_method_17_code 105 = .ok (.invokevirtual 162, 3) := by decide +kernel
theorem dX8_next_108 : decode prog_10_method_17_code 108 = .ok (.i2l, 1) := by decide +kernel
theorem dX8_next_109 : decode prog_10_method_17_code 109 = .ok (.ldc2_w 171, 3) := by decide +kernel
theorem dX8_next_112 : decode prog_10_method_17_code 112 = .ok (.ldc2_w 173, 3) := by decide +kernel
theorem dX8_next_115 : decode prog_10_method_17_code 115 = .ok (.invokestatic 104, 3) := by decide +kernel
theorem dX8_next_118 : decode prog_10_method_17_code 118 = .ok (.ifCond .eq 203, 3) := by decide +kernel
theorem dX8_next_121 : decode prog_10_method_17_code 121 = .ok (.aload_n 0, 1) := by decide +kernel
theorem dX8_next_122 : decode prog_10_method_17_code 122 = .ok (.dup, 1) := by decide +kernel
theorem dX8_next_123 : decode prog_10_method_17_code 123 = .ok (.getfield 159, 3) := by decide +kernel
theorem dX8_next_126 : decode prog_10_method_17_code 126 = .ok (.iconst 1, 1) := by decide +kernel
theorem dX8_next_127 : decode prog_10_method_17_code 127 = .ok (.iadd, 1) := by decide +kernel
theorem dX8_next_128 : decode prog_10_method_17_code 128 = .ok (.putfield 159, 3) := by decide +kernel
theorem dX8_next_131 : decode prog_10_method_17_code 131 = .ok (.goto (-31), 3) := by decide +kernel
theorem dX8_next_134 : decode prog_10_method_17_code 134 = .ok (.iload_n 1, 1) := by decide +kernel
theorem dX8_next_135 : decode prog_10_method_17_code 135 = .ok (.i2l, 1) := by decide +kernel
theorem dX8_next_136 : decode prog_10_method_17_code 136 = .ok (.ldc2_w 175, 3) := by decide +kernel
theorem dX8_next_139 : decode prog_10_method_17_code 139 = .ok (.ldc2_w 177, 3) := by decide +kernel
theorem dX8_next_142 : decode prog_10_method_17_code 142 = .ok (.invokestatic 104, 3) := by decide +kernel
theorem dX8_next_145 : decode prog_10_method_17_code 145 = .ok (.ifCond .eq 107, 3) := by decide +kernel
theorem dX8_next_148 : decode prog_10_method_17_code 148 = .ok (.aload_n 0, 1) := by decide +kernel
theorem dX8_next_149 : decode prog_10_method_17_code 149 = .ok (.iconst 2, 1) := by decide +kernel
theorem dX8_next_150 : decode prog_10_method_17_code 150 = .ok (.putfield 168, 3) := by decide +kernel
theorem dX8_next_153 : decode prog_10_method_17_code 153 = .ok (.aload_n 0, 1) := by decide +kernel
theorem dX8_next_154 : decode prog_10_method_17_code 154 = .ok (.lconst 0, 1) := by decide +kernel
theorem dX8_next_155 : decode prog_10_method_17_code 155 = .ok (.putfield 179, 3) := by decide +kernel
theorem dX8_next_158 : decode prog_10_method_17_code 158 = .ok (.iconst 0, 1) := by decide +kernel
theorem dX8_next_159 : decode prog_10_method_17_code 159 = .ok (.istore_n 2, 1) := by decide +kernel
theorem dX8_next_160 : decode prog_10_method_17_code 160 = .ok (.aload_n 0, 1) := by decide +kernel
theorem dX8_next_161 : decode prog_10_method_17_code 161 = .ok (.aload_n 0, 1) := by decide +kernel
theorem dX8_next_162 : decode prog_10_method_17_code 162 = .ok (.getfield 159, 3) := by decide +kernel
theorem dX8_next_165 : decode prog_10_method_17_code 165 = .ok (.invokevirtual 162, 3) := by decide +kernel
theorem dX8_next_168 : decode prog_10_method_17_code 168 = .ok (.i2l, 1) := by decide +kernel
theorem dX8_next_169 : decode prog_10_method_17_code 169 = .ok (.ldc2_w 175, 3) := by decide +kernel
theorem dX8_next_172 : decode prog_10_method_17_code 172 = .ok (.ldc2_w 177, 3) := by decide +kernel
theorem dX8_next_175 : decode prog_10_method_17_code 175 = .ok (.invokestatic 104, 3) := by decide +kernel
theorem dX8_next_178 : decode prog_10_method_17_code 178 = .ok (.ifCond .eq 57, 3) := by decide +kernel
theorem dX8_next_181 : decode prog_10_method_17_code 181 = .ok (.aload_n 0, 1) := by decide +kernel
theorem dX8_next_182 : decode prog_10_method_17_code 182 = .ok (.iload_n 2, 1) := by decide +kernel
theorem dX8_next_183 : decode prog_10_method_17_code 183 = .ok (.iconst 4, 1) := by decide +kernel
theorem dX8_next_184 : decode prog_10_method_17_code 184 = .ok (.if_icmp .ge 28, 3) := by decide +kernel
theorem dX8_next_187 : decode prog_10_method_17_code 187 = .ok (.ldc2_w 183, 3) := by decide +kernel
theorem dX8_next_190 : decode prog_10_method_17_code 190 = .ok (.aload_n 0, 1) := by decide +kernel
theorem dX8_next_191 : decode prog_10_method_17_code 191 = .ok (.getfield 179, 3) := by decide +kernel
theorem dX8_next_194 : decode prog_10_method_17_code 194 = .ok (.lmul, 1) := by decide +kernel
theorem dX8_next_195 : decode prog_10_method_17_code 195 = .ok (.aload_n 0, 1) := by decide +kernel
theorem dX8_next_196 : decode prog_10_method_17_code 196 = .ok (.aload_n 0, 1) := by decide +kernel
theorem dX8_next_197 : decode prog_10_method_17_code 197 = .ok (.getfield 159, 3) := by decide +kernel
theorem dX8_next_200 : decode prog_10_method_17_code 200 = .ok (.invokevirtual 162, 3) := by decide +kernel
theorem dX8_next_203 : decode prog_10_method_17_code 203 = .ok (.i2l, 1) := by decide +kernel
theorem dX8_next_204 : decode prog_10_method_17_code 204 = .ok (.ladd, 1) := by decide +kernel
theorem dX8_next_205 : decode prog_10_method_17_code 205 = .ok (.ldc2_w 175, 3) := by decide +kernel
theorem dX8_next_208 : decode prog_10_method_17_code 208 = .ok (.lsub, 1) := by decide +kernel
theorem dX8_next_209 : decode prog_10_method_17_code 209 = .ok (.goto 7, 3) := by decide +kernel
theorem dX8_next_212 : decode prog_10_method_17_code 212 = .ok (.aload_n 0, 1) := by decide +kernel
theorem dX8_next_213 : decode prog_10_method_17_code 213 = .ok (.getfield 179, 3) := by decide +kernel
theorem dX8_next_216 : decode prog_10_method_17_code 216 = .ok (.putfield 179, 3) := by decide +kernel
theorem dX8_next_219 : decode prog_10_method_17_code 219 = .ok (.iinc 2 1, 3) := by decide +kernel
theorem dX8_next_222 : decode prog_10_method_17_code 222 = .ok (.aload_n 0, 1) := by decide +kernel
theorem dX8_next_223 : decode prog_10_method_17_code 223 = .ok (.dup, 1) := by decide +kernel
theorem dX8_next_224 : decode prog_10_method_17_code 224 = .ok (.getfield 159, 3) := by decide +kernel
theorem dX8_next_227 : decode prog_10_method_17_code 227 = .ok (.iconst 1, 1) := by decide +kernel
theorem dX8_next_228 : decode prog_10_method_17_code 228 = .ok (.iadd, 1) := by decide +kernel
theorem dX8_next_229 : decode prog_10_method_17_code 229 = .ok (.putfield 159, 3) := by decide +kernel
theorem dX8_next_232 : decode prog_10_method_17_code 232 = .ok (.goto (-72), 3) := by decide +kernel
theorem dX8_next_235 : decode prog_10_method_17_code 235 = .ok (.aload_n 0, 1) := by decide +kernel
theorem dX8_next_236 : decode prog_10_method_17_code 236 = .ok (.iload_n 2, 1) := by decide +kernel
theorem dX8_next_237 : decode prog_10_method_17_code 237 = .ok (.iconst 4, 1) := by decide +kernel
theorem dX8_next_238 : decode prog_10_method_17_code 238 = .ok (.if_icmp .le 7, 3) := by decide +kernel
theorem dX8_next_241 : decode prog_10_method_17_code 241 = .ok (.iconst 4, 1) := by decide +kernel
theorem dX8_next_242 : decode prog_10_method_17_code 242 = .ok (.goto 4, 3) := by decide +kernel
theorem dX8_next_245 : decode prog_10_method_17_code 245 = .ok (.iconst 2, 1) := by decide +kernel
theorem dX8_next_246 : decode prog_10_method_17_code 246 = .ok (.putfield 168, 3) := by decide +kernel
theorem dX8_next_249 : decode prog_10_method_17_code 249 = .ok (.goto 72, 3) := by decide +kernel
theorem dX8_next_252 : decode prog_10_method_17_code 252 = .ok (.iload_n 1, 1) := by decide +kernel
theorem dX8_next_253 : decode prog_10_method_17_code 253 = .ok (.bipush 40, 2) := by decide +kernel
theorem dX8_next_255 : decode prog_10_method_17_code 255 = .ok (.if_icmp .eq 45, 3) := by decide +kernel
theorem dX8_next_258 : decode prog_10_method_17_code 258 = .ok (.iload_n 1, 1) := by decide +kernel
theorem dX8_next_259 : decode prog_10_method_17_code 259 = .ok (.bipush 41, 2) := by decide +kernel
theorem dX8_next_261 : decode prog_10_method_17_code 261 = .ok (.if_icmp .eq 39, 3) := by decide +kernel
theorem dX8_next_264 : decode prog_10_method_17_code 264 = .ok (.iload_n 1, 1) := by decide +kernel
theorem dX8_next_265 : decode prog_10_method_17_code 265 = .ok (.bipush 59, 2) := by decide +kernel
theorem dX8_next_267 : decode prog_10_method_17_code 267 = .ok (.if_icmp .eq 33, 3) := by decide +kernel
theorem dX8_next_270 : decode prog_10_method_17_code 270 = .ok (.iload_n 1, 1) := by decide +kernel
theorem dX8_next_271 : decode prog_10_method_17_code 271 = .ok (.bipush 43, 2) := by decide +kernel
theorem dX8_next_273 : decode prog_10_method_17_code 273 = .ok (.if_icmp .eq 27, 3) := by decide +kernel
theorem dX8_next_276 : decode prog_10_method_17_code 276 = .ok (.iload_n 1, 1) := by decide +kernel
theorem dX8_next_277 : decode prog_10_method_17_code 277 = .ok (.bipush 45, 2) := by decide +kernel
theorem dX8_next_279 : decode prog_10_method_17_code 279 = .ok (.if_icmp .eq 21, 3) := by decide +kernel
theorem dX8_next_282 : decode prog_10_method_17_code 282 = .ok (.iload_n 1, 1) := by decide +kernel
theorem dX8_next_283 : decode prog_10_method_17_code 283 = .ok (.bipush 42, 2) := by decide +kernel
theorem dX8_next_285 : decode prog_10_method_17_code 285 = .ok (.if_icmp .eq 15, 3) := by decide +kernel
theorem dX8_next_288 : decode prog_10_method_17_code 288 = .ok (.iload_n 1, 1) := by decide +kernel
theorem dX8_next_289 : decode prog_10_method_17_code 289 = .ok (.bipush 60, 2) := by decide +kernel
theorem dX8_next_291 : decode prog_10_method_17_code 291 = .ok (.if_icmp .eq 9, 3) := by decide +kernel
theorem dX8_next_294 : decode prog_10_method_17_code 294 = .ok (.iload_n 1, 1) := by decide +kernel
theorem dX8_next_295 : decode prog_10_method_17_code 295 = .ok (.bipush 61, 2) := by decide +kernel
theorem dX8_next_297 : decode prog_10_method_17_code 297 = .ok (.if_icmp .ne 24, 3) := by decide +kernel
theorem dX8_next_300 : decode prog_10_method_17_code 300 = .ok (.aload_n 0, 1) := by decide +kernel
theorem dX8_next_301 : decode prog_10_method_17_code 301 = .ok (.iconst 3, 1) := by decide +kernel
theorem dX8_next_302 : decode prog_10_method_17_code 302 = .ok (.putfield 168, 3) := by decide +kernel
theorem dX8_next_305 : decode prog_10_method_17_code 305 = .ok (.aload_n 0, 1) := by decide +kernel
theorem dX8_next_306 : decode prog_10_method_17_code 306 = .ok (.iload_n 1, 1) := by decide +kernel
theorem dX8_next_307 : decode prog_10_method_17_code 307 = .ok (.i2l, 1) := by decide +kernel
theorem dX8_next_308 : decode prog_10_method_17_code 308 = .ok (.putfield 179, 3) := by decide +kernel
theorem dX8_next_311 : decode prog_10_method_17_code 311 = .ok (.aload_n 0, 1) := by decide +kernel
theorem dX8_next_312 : decode prog_10_method_17_code 312 = .ok (.dup, 1) := by decide +kernel
theorem dX8_next_313 : decode prog_10_method_17_code 313 = .ok (.getfield 159, 3) := by decide +kernel
theorem dX8_next_316 : decode prog_10_method_17_code 316 = .ok (.iconst 1, 1) := by decide +kernel
theorem dX8_next_317 : decode prog_10_method_17_code 317 = .ok (.iadd, 1) := by decide +kernel
theorem dX8_next_318 : decode prog_10_method_17_code 318 = .ok (.putfield 159, 3) := by decide +kernel
theorem dX8_next_321 : decode prog_10_method_17_code 321 = .ok (.return_, 1) := by decide +kernel
theorem dX8_byteAt_0 : decode prog_10_method_16_code 0 = .ok (.iload_n 1, 1) := by decide +kernel
theorem dX8_byteAt_1 : decode prog_10_method_16_code 1 = .ok (.aload_n 0, 1) := by decide +kernel
theorem dX8_byteAt_2 : decode prog_10_method_16_code 2 = .ok (.getfield 153, 3) := by decide +kernel
theorem dX8_byteAt_5 : decode prog_10_method_16_code 5 = .ok (.if_icmp .ge 17, 3) := by decide +kernel
theorem dX8_byteAt_8 : decode prog_10_method_16_code 8 = .ok (.aload_n 0, 1) := by decide +kernel
theorem dX8_byteAt_9 : decode prog_10_method_16_code 9 = .ok (.getfield 13, 3) := by decide +kernel
theorem dX8_byteAt_12 : decode prog_10_method_16_code 12 = .ok (.aload_n 0, 1) := by decide +kernel
theorem dX8_byteAt_13 : decode prog_10_method_16_code 13 = .ok (.getfield 156, 3) := by decide +kernel
theorem dX8_byteAt_16 : decode prog_10_method_16_code 16 = .ok (.iload_n 1, 1) := by decide +kernel
theorem dX8_byteAt_17 : decode prog_10_method_16_code 17 = .ok (.iadd, 1) := by decide +kernel
theorem dX8_byteAt_18 : decode prog_10_method_16_code 18 = .ok (.iaload, 1) := by decide +kernel
theorem dX8_byteAt_19 : decode prog_10_method_16_code 19 = .ok (.goto 4, 3) := by decide +kernel
theorem dX8_byteAt_22 : decode prog_10_method_16_code 22 = .ok (.iconst (-1), 1) := by decide +kernel
theorem dX8_byteAt_23 : decode prog_10_method_16_code 23 = .ok (.ireturn, 1) := by decide +kernel
theorem dX8_isWord_0 : decode prog_10_method_20_code 0 = .ok (.aload_n 0, 1) := by decide +kernel
theorem dX8_isWord_1 : decode prog_10_method_20_code 1 = .ok (.getfield 185, 3) := by decide +kernel
theorem dX8_isWord_4 : decode prog_10_method_20_code 4 = .ok (.ifCond .ne 108, 3) := by decide +kernel
theorem dX8_isWord_7 : decode prog_10_method_20_code 7 = .ok (.aload_n 0, 1) := by decide +kernel
theorem dX8_isWord_8 : decode prog_10_method_20_code 8 = .ok (.getfield 168, 3) := by decide +kernel
theorem dX8_isWord_11 : decode prog_10_method_20_code 11 = .ok (.iconst 1, 1) := by decide +kernel
theorem dX8_isWord_12 : decode prog_10_method_20_code 12 = .ok (.if_icmp .ne 100, 3) := by decide +kernel
theorem dX8_isWord_15 : decode prog_10_method_20_code 15 = .ok (.aload_n 0, 1) := by decide +kernel
theorem dX8_isWord_16 : decode prog_10_method_20_code 16 = .ok (.getfield 159, 3) := by decide +kernel
theorem dX8_isWord_19 : decode prog_10_method_20_code 19 = .ok (.aload_n 0, 1) := by decide +kernel
theorem dX8_isWord_20 : decode prog_10_method_20_code 20 = .ok (.getfield 165, 3) := by decide +kernel
theorem dX8_isWord_23 : decode prog_10_method_20_code 23 = .ok (.bipush 8, 2) := by decide +kernel
theorem dX8_isWord_25 : decode prog_10_method_20_code 25 = .ok (.iadd, 1) := by decide +kernel
theorem dX8_isWord_26 : decode prog_10_method_20_code 26 = .ok (.if_icmp .gt 86, 3) := by decide +kernel
theorem dX8_isWord_29 : decode prog_10_method_20_code 29 = .ok (.aload_n 0, 1) := by decide +kernel
theorem dX8_isWord_30 : decode prog_10_method_20_code 30 = .ok (.iconst 0, 1) := by decide +kernel
theorem dX8_isWord_31 : decode prog_10_method_20_code 31 = .ok (.iload_n 1, 1) := by decide +kernel
theorem dX8_isWord_32 : decode prog_10_method_20_code 32 = .ok (.invokevirtual 192, 3) := by decide +kernel
theorem dX8_isWord_35 : decode prog_10_method_20_code 35 = .ok (.ifCond .eq 77, 3) := by decide +kernel
theorem dX8_isWord_38 : decode prog_10_method_20_code 38 = .ok (.aload_n 0, 1) := by decide +kernel
theorem dX8_isWord_39 : decode prog_10_method_20_code 39 = .ok (.iconst 1, 1) := by decide +kernel
theorem dX8_isWord_40 : decode prog_10_method_20_code 40 = .ok (.iload_n 2, 1) := by decide +kernel
theorem dX8_isWord_41 : decode prog_10_method_20_code 41 = .ok (.invokevirtual 192, 3) := by decide +kernel
theorem dX8_isWord_44 : decode prog_10_method_20_code 44 = .ok (.ifCond .eq 68, 3) := by decide +kernel
theorem dX8_isWord_47 : decode prog_10_method_20_code 47 = .ok (.aload_n 0, 1) := by decide +kernel
theorem dX8_isWord_48 : decode prog_10_method_20_code 48 = .ok (.iconst 2, 1) := by decide +kernel
theorem dX8_isWord_49 : decode prog_10_method_20_code 49 = .ok (.iload_n 3, 1) := by decide +kernel
theorem dX8_isWord_50 : decode prog_10_method_20_code 50 = .ok (.invokevirtual 192, 3) := by decide +kernel
theorem dX8_isWord_53 : decode prog_10_method_20_code 53 = .ok (.ifCond .eq 59, 3) := by decide +kernel
theorem dX8_isWord_56 : decode prog_10_method_20_code 56 = .ok (.aload_n 0, 1) := by decide +kernel
theorem dX8_isWord_57 : decode prog_10_method_20_code 57 = .ok (.iconst 3, 1) := by decide +kernel
theorem dX8_isWord_58 : decode prog_10_method_20_code 58 = .ok (.iload 4, 2) := by decide +kernel
theorem dX8_isWord_60 : decode prog_10_method_20_code 60 = .ok (.invokevirtual 192, 3) := by decide +kernel
theorem dX8_isWord_63 : decode prog_10_method_20_code 63 = .ok (.ifCond .eq 49, 3) := by decide +kernel
theorem dX8_isWord_66 : decode prog_10_method_20_code 66 = .ok (.aload_n 0, 1) := by decide +kernel
theorem dX8_isWord_67 : decode prog_10_method_20_code 67 = .ok (.iconst 4, 1) := by decide +kernel
theorem dX8_isWord_68 : decode prog_10_method_20_code 68 = .ok (.iload 5, 2) := by decide +kernel
theorem dX8_isWord_70 : decode prog_10_method_20_code 70 = .ok (.invokevirtual 192, 3) := by decide +kernel
theorem dX8_isWord_73 : decode prog_10_method_20_code 73 = .ok (.ifCond .eq 39, 3) := by decide +kernel
theorem dX8_isWord_76 : decode prog_10_method_20_code 76 = .ok (.aload_n 0, 1) := by decide +kernel
theorem dX8_isWord_77 : decode prog_10_method_20_code 77 = .ok (.iconst 5, 1) := by decide +kernel
theorem dX8_isWord_78 : decode prog_10_method_20_code 78 = .ok (.iload 6, 2) := by decide +kernel
theorem dX8_isWord_80 : decode prog_10_method_20_code 80 = .ok (.invokevirtual 192, 3) := by decide +kernel
theorem dX8_isWord_83 : decode prog_10_method_20_code 83 = .ok (.ifCond .eq 29, 3) := by decide +kernel
theorem dX8_isWord_86 : decode prog_10_method_20_code 86 = .ok (.aload_n 0, 1) := by decide +kernel
theorem dX8_isWord_87 : decode prog_10_method_20_code 87 = .ok (.bipush 6, 2) := by decide +kernel
theorem dX8_isWord_89 : decode prog_10_method_20_code 89 = .ok (.iload 7, 2) := by decide +kernel
theorem dX8_isWord_91 : decode prog_10_method_20_code 91 = .ok (.invokevirtual 192, 3) := by decide +kernel
theorem dX8_isWord_94 : decode prog_10_method_20_code 94 = .ok (.ifCond .eq 18, 3) := by decide +kernel
theorem dX8_isWord_97 : decode prog_10_method_20_code 97 = .ok (.aload_n 0, 1) := by decide +kernel
theorem dX8_isWord_98 : decode prog_10_method_20_code 98 = .ok (.bipush 7, 2) := by decide +kernel
theorem dX8_isWord_100 : decode prog_10_method_20_code 100 = .ok (.iload 8, 2) := by decide +kernel
theorem dX8_isWord_102 : decode prog_10_method_20_code 102 = .ok (.invokevirtual 192, 3) := by decide +kernel
theorem dX8_isWord_105 : decode prog_10_method_20_code 105 = .ok (.ifCond .eq 7, 3) := by decide +kernel
theorem dX8_isWord_108 : decode prog_10_method_20_code 108 = .ok (.iconst 1, 1) := by decide +kernel
theorem dX8_isWord_109 : decode prog_10_method_20_code 109 = .ok (.goto 4, 3) := by decide +kernel
theorem dX8_isWord_112 : decode prog_10_method_20_code 112 = .ok (.iconst 0, 1) := by decide +kernel
theorem dX8_isWord_113 : decode prog_10_method_20_code 113 = .ok (.ireturn, 1) := by decide +kernel
theorem dX8_isLetter_0 : decode prog_10_method_19_code 0 = .ok (.aload_n 0, 1) := by decide +kernel
theorem dX8_isLetter_1 : decode prog_10_method_19_code 1 = .ok (.getfield 165, 3) := by decide +kernel
theorem dX8_isLetter_4 : decode prog_10_method_19_code 4 = .ok (.iload_n 1, 1) := by decide +kernel
theorem dX8_isLetter_5 : decode prog_10_method_19_code 5 = .ok (.iadd, 1) := by decide +kernel
theorem dX8_isLetter_6 : decode prog_10_method_19_code 6 = .ok (.aload_n 0, 1) := by decide +kernel
theorem dX8_isLetter_7 : decode prog_10_method_19_code 7 = .ok (.getfield 159, 3) := by decide +kernel
theorem dX8_isLetter_10 : decode prog_10_method_19_code 10 = .ok (.if_icmp .ge 25, 3) := by decide +kernel
theorem dX8_isLetter_13 : decode prog_10_method_19_code 13 = .ok (.aload_n 0, 1) := by decide +kernel
theorem dX8_isLetter_14 : decode prog_10_method_19_code 14 = .ok (.aload_n 0, 1) := by decide +kernel
theorem dX8_isLetter_15 : decode prog_10_method_19_code 15 = .ok (.getfield 165, 3) := by decide +kernel
theorem dX8_isLetter_18 : decode prog_10_method_19_code 18 = .ok (.iload_n 1, 1) := by decide +kernel
theorem dX8_isLetter_19 : decode prog_10_method_19_code 19 = .ok (.iadd, 1) := by decide +kernel
theorem dX8_isLetter_20 : decode prog_10_method_19_code 20 = .ok (.invokevirtual 162, 3) := by decide +kernel
theorem dX8_isLetter_23 : decode prog_10_method_19_code 23 = .ok (.iload_n 2, 1) := by decide +kernel
theorem dX8_isLetter_24 : decode prog_10_method_19_code 24 = .ok (.if_icmp .ne 7, 3) := by decide +kernel
theorem dX8_isLetter_27 : decode prog_10_method_19_code 27 = .ok (.iconst 1, 1) := by decide +kernel
theorem dX8_isLetter_28 : decode prog_10_method_19_code 28 = .ok (.goto 16, 3) := by decide +kernel
theorem dX8_isLetter_31 : decode prog_10_method_19_code 31 = .ok (.iconst 0, 1) := by decide +kernel
theorem dX8_isLetter_32 : decode prog_10_method_19_code 32 = .ok (.goto 12, 3) := by decide +kernel
theorem dX8_isLetter_35 : decode prog_10_method_19_code 35 = .ok (.iload_n 2, 1) := by decide +kernel
theorem dX8_isLetter_36 : decode prog_10_method_19_code 36 = .ok (.ifCond .ne 7, 3) := by decide +kernel
theorem dX8_isLetter_39 : decode prog_10_method_19_code 39 = .ok (.iconst 1, 1) := by decide +kernel
theorem dX8_isLetter_40 : decode prog_10_method_19_code 40 = .ok (.goto 4, 3) := by decide +kernel
theorem dX8_isLetter_43 : decode prog_10_method_19_code 43 = .ok (.iconst 0, 1) := by decide +kernel
theorem dX8_isLetter_44 : decode prog_10_method_19_code 44 = .ok (.ireturn, 1) := by decide +kernel
theorem dX8_part_0 : decode prog_10_method_30_code 0 = .ok (.iload_n 1, 1) := by decide +kernel
theorem dX8_part_1 : decode prog_10_method_30_code 1 = .ok (.ifCond .ne 7, 3) := by decide +kernel
theorem dX8_part_4 : decode prog_10_method_30_code 4 = .ok (.aload_n 0, 1) := by decide +kernel
theorem dX8_part_5 : decode prog_10_method_30_code 5 = .ok (.invokevirtual 198, 3) := by decide +kernel
theorem dX8_part_8 : decode prog_10_method_30_code 8 = .ok (.aload_n 0, 1) := by decide +kernel
theorem dX8_part_9 : decode prog_10_method_30_code 9 = .ok (.getfield 185, 3) := by decide +kernel
theorem dX8_part_12 : decode prog_10_method_30_code 12 = .ok (.ifCond .ne 7, 3) := by decide +kernel
theorem dX8_part_15 : decode prog_10_method_30_code 15 = .ok (.aload_n 0, 1) := by decide +kernel
theorem dX8_part_16 : decode prog_10_method_30_code 16 = .ok (.invokevirtual 201, 3) := by decide +kernel
theorem dX8_part_19 : decode prog_10_method_30_code 19 = .ok (.aload_n 0, 1) := by decide +kernel
theorem dX8_part_20 : decode prog_10_method_30_code 20 = .ok (.getfield 185, 3) := by decide +kernel
theorem dX8_part_23 : decode prog_10_method_30_code 23 = .ok (.ifCond .eq 7, 3) := by decide +kernel
theorem dX8_part_26 : decode prog_10_method_30_code 26 = .ok (.iconst 0, 1) := by decide +kernel
theorem dX8_part_27 : decode prog_10_method_30_code 27 = .ok (.goto 7, 3) := by decide +kernel
theorem dX8_part_30 : decode prog_10_method_30_code 30 = .ok (.aload_n 0, 1) := by decide +kernel
theorem dX8_part_31 : decode prog_10_method_30_code 31 = .ok (.invokevirtual 237, 3) := by decide +kernel
theorem dX8_part_34 : decode prog_10_method_30_code 34 = .ok (.istore_n 2, 1) := by decide +kernel
theorem dX8_part_35 : decode prog_10_method_30_code 35 = .ok (.aload_n 0, 1) := by decide +kernel
theorem dX8_part_36 : decode prog_10_method_30_code 36 = .ok (.bipush 59, 2) := by decide +kernel
theorem dX8_part_38 : decode prog_10_method_30_code 38 = .ok (.invokevirtual 226, 3) := by decide +kernel
theorem dX8_part_41 : decode prog_10_method_30_code 41 = .ok (.ifCond .ne 7, 3) := by decide +kernel
theorem dX8_part_44 : decode prog_10_method_30_code 44 = .ok (.aload_n 0, 1) := by decide +kernel
theorem dX8_part_45 : decode prog_10_method_30_code 45 = .ok (.invokevirtual 198, 3) := by decide +kernel
theorem dX8_part_48 : decode prog_10_method_30_code 48 = .ok (.aload_n 0, 1) := by decide +kernel
theorem dX8_part_49 : decode prog_10_method_30_code 49 = .ok (.getfield 185, 3) := by decide +kernel
theorem dX8_part_52 : decode prog_10_method_30_code 52 = .ok (.ifCond .ne 7, 3) := by decide +kernel
theorem dX8_part_55 : decode prog_10_method_30_code 55 = .ok (.aload_n 0, 1) := by decide +kernel
theorem dX8_part_56 : decode prog_10_method_30_code 56 = .ok (.invokevirtual 201, 3) := by decide +kernel
theorem dX8_part_59 : decode prog_10_method_30_code 59 = .ok (.iload_n 2, 1) := by decide +kernel
theorem dX8_part_60 : decode prog_10_method_30_code 60 = .ok (.ireturn, 1) := by decide +kernel
theorem dX8_fail_0 : decode prog_10_method_18_code 0 = .ok (.aload_n 0, 1) := by decide +kernel
theorem dX8_fail_1 : decode prog_10_method_18_code 1 = .ok (.getfield 185, 3) := by decide +kernel
theorem dX8_fail_4 : decode prog_10_method_18_code 4 = .ok (.ifCond .ne 16, 3) := by decide +kernel
theorem dX8_fail_7 : decode prog_10_method_18_code 7 = .ok (.aload_n 0, 1) := by decide +kernel
theorem dX8_fail_8 : decode prog_10_method_18_code 8 = .ok (.iconst 1, 1) := by decide +kernel
theorem dX8_fail_9 : decode prog_10_method_18_code 9 = .ok (.putfield 185, 3) := by decide +kernel
theorem dX8_fail_12 : decode prog_10_method_18_code 12 = .ok (.aload_n 0, 1) := by decide +kernel
theorem dX8_fail_13 : decode prog_10_method_18_code 13 = .ok (.aload_n 0, 1) := by decide +kernel
theorem dX8_fail_14 : decode prog_10_method_18_code 14 = .ok (.getfield 165, 3) := by decide +kernel
theorem dX8_fail_17 : decode prog_10_method_18_code 17 = .ok (.putfield 189, 3) := by decide +kernel
theorem dX8_fail_20 : decode prog_10_method_18_code 20 = .ok (.return_, 1) := by decide +kernel
theorem dX8_either_0 : decode prog_10_method_29_code 0 = .ok (.aload_n 0, 1) := by decide +kernel
theorem dX8_either_1 : decode prog_10_method_29_code 1 = .ok (.invokevirtual 256, 3) := by decide +kernel
theorem dX8_either_4 : decode prog_10_method_29_code 4 = .ok (.istore_n 1, 1) := by decide +kernel
theorem dX8_either_5 : decode prog_10_method_29_code 5 = .ok (.aload_n 0, 1) := by decide +kernel
theorem dX8_either_6 : decode prog_10_method_29_code 6 = .ok (.bipush 111, 2) := by decide +kernel
theorem dX8_either_8 : decode prog_10_method_29_code 8 = .ok (.bipush 114, 2) := by decide +kernel
theorem dX8_either_10 : decode prog_10_method_29_code 10 = .ok (.iconst 0, 1) := by decide +kernel
theorem dX8_either_11 : decode prog_10_method_29_code 11 = .ok (.iconst 0, 1) := by decide +kernel
theorem dX8_either_12 : decode prog_10_method_29_code 12 = .ok (.iconst 0, 1) := by decide +kernel
theorem dX8_either_13 : decode prog_10_method_29_code 13 = .ok (.iconst 0, 1) := by decide +kernel
theorem dX8_either_14 : decode prog_10_method_29_code 14 = .ok (.iconst 0, 1) := by decide +kernel
theorem dX8_either_15 : decode prog_10_method_29_code 15 = .ok (.iconst 0, 1) := by decide +kernel
theorem dX8_either_16 : decode prog_10_method_29_code 16 = .ok (.invokevirtual 204, 3) := by decide +kernel
theorem dX8_either_19 : decode prog_10_method_29_code 19 = .ok (.ifCond .eq 29, 3) := by decide +kernel
theorem dX8_either_22 : decode prog_10_method_29_code 22 = .ok (.aload_n 0, 1) := by decide +kernel
theorem dX8_either_23 : decode prog_10_method_29_code 23 = .ok (.invokevirtual 201, 3) := by decide +kernel
theorem dX8_either_26 : decode prog_10_method_29_code 26 = .ok (.aload_n 0, 1) := by decide +kernel
theorem dX8_either_27 : decode prog_10_method_29_code 27 = .ok (.invokevirtual 256, 3) := by decide +kernel
theorem dX8_either_30 : decode prog_10_method_29_code 30 = .ok (.istore_n 2, 1) := by decide +kernel
theorem dX8_either_31 : decode prog_10_method_29_code 31 = .ok (.iload_n 1, 1) := by decide +kernel
theorem dX8_either_32 : decode prog_10_method_29_code 32 = .ok (.ifCond .ne 7, 3) := by decide +kernel
theorem dX8_either_35 : decode prog_10_method_29_code 35 = .ok (.iload_n 2, 1) := by decide +kernel
theorem dX8_either_36 : decode prog_10_method_29_code 36 = .ok (.ifCond .eq 7, 3) := by decide +kernel
theorem dX8_either_39 : decode prog_10_method_29_code 39 = .ok (.iconst 1, 1) := by decide +kernel
theorem dX8_either_40 : decode prog_10_method_29_code 40 = .ok (.goto 4, 3) := by decide +kernel
theorem dX8_either_43 : decode prog_10_method_29_code 43 = .ok (.iconst 0, 1) := by decide +kernel
theorem dX8_either_44 : decode prog_10_method_29_code 44 = .ok (.istore_n 1, 1) := by decide +kernel
theorem dX8_either_45 : decode prog_10_method_29_code 45 = .ok (.goto (-40), 3) := by decide +kernel
theorem dX8_either_48 : decode prog_10_method_29_code 48 = .ok (.iload_n 1, 1) := by decide +kernel
theorem dX8_either_49 : decode prog_10_method_29_code 49 = .ok (.ireturn, 1) := by decide +kernel
theorem dX8_both_0 : decode prog_10_method_28_code 0 = .ok (.aload_n 0, 1) := by decide +kernel
theorem dX8_both_1 : decode prog_10_method_28_code 1 = .ok (.invokevirtual 248, 3) := by decide +kernel
theorem dX8_both_4 : decode prog_10_method_28_code 4 = .ok (.istore_n 1, 1) := by decide +kernel
theorem dX8_both_5 : decode prog_10_method_28_code 5 = .ok (.aload_n 0, 1) := by decide +kernel
theorem dX8_both_6 : decode prog_10_method_28_code 6 = .ok (.bipush 97, 2) := by decide +kernel
theorem dX8_both_8 : decode prog_10_method_28_code 8 = .ok (.bipush 110, 2) := by decide +kernel
theorem dX8_both_10 : decode prog_10_method_28_code 10 = .ok (.bipush 100, 2) := by decide +kernel
theorem dX8_both_12 : decode prog_10_method_28_code 12 = .ok (.iconst 0, 1) := by decide +kernel
theorem dX8_both_13 : decode prog_10_method_28_code 13 = .ok (.iconst 0, 1) := by decide +kernel
theorem dX8_both_14 : decode prog_10_method_28_code 14 = .ok (.iconst 0, 1) := by decide +kernel
theorem dX8_both_15 : decode prog_10_method_28_code 15 = .ok (.iconst 0, 1) := by decide +kernel
theorem dX8_both_16 : decode prog_10_method_28_code 16 = .ok (.iconst 0, 1) := by decide +kernel
theorem dX8_both_17 : decode prog_10_method_28_code 17 = .ok (.invokevirtual 204, 3) := by decide +kernel
theorem dX8_both_20 : decode prog_10_method_28_code 20 = .ok (.ifCond .eq 29, 3) := by decide +kernel
theorem dX8_both_23 : decode prog_10_method_28_code 23 = .ok (.aload_n 0, 1) := by decide +kernel
theorem dX8_both_24 : decode prog_10_method_28_code 24 = .ok (.invokevirtual 201, 3) := by decide +kernel
theorem dX8_both_27 : decode prog_10_method_28_code 27 = .ok (.aload_n 0, 1) := by decide +kernel
theorem dX8_both_28 : decode prog_10_method_28_code 28 = .ok (.invokevirtual 248, 3) := by decide +kernel
theorem dX8_both_31 : decode prog_10_method_28_code 31 = .ok (.istore_n 2, 1) := by decide +kernel
theorem dX8_both_32 : decode prog_10_method_28_code 32 = .ok (.iload_n 1, 1) := by decide +kernel
theorem dX8_both_33 : decode prog_10_method_28_code 33 = .ok (.ifCond .eq 11, 3) := by decide +kernel
theorem dX8_both_36 : decode prog_10_method_28_code 36 = .ok (.iload_n 2, 1) := by decide +kernel
theorem dX8_both_37 : decode prog_10_method_28_code 37 = .ok (.ifCond .eq 7, 3) := by decide +kernel
theorem dX8_both_40 : decode prog_10_method_28_code 40 = .ok (.iconst 1, 1) := by decide +kernel
theorem dX8_both_41 : decode prog_10_method_28_code 41 = .ok (.goto 4, 3) := by decide +kernel
theorem dX8_both_44 : decode prog_10_method_28_code 44 = .ok (.iconst 0, 1) := by decide +kernel
theorem dX8_both_45 : decode prog_10_method_28_code 45 = .ok (.istore_n 1, 1) := by decide +kernel
theorem dX8_both_46 : decode prog_10_method_28_code 46 = .ok (.goto (-41), 3) := by decide +kernel
theorem dX8_both_49 : decode prog_10_method_28_code 49 = .ok (.iload_n 1, 1) := by decide +kernel
theorem dX8_both_50 : decode prog_10_method_28_code 50 = .ok (.ireturn, 1) := by decide +kernel
theorem dX8_not_0 : decode prog_10_method_27_code 0 = .ok (.aload_n 0, 1) := by decide +kernel
theorem dX8_not_1 : decode prog_10_method_27_code 1 = .ok (.bipush 110, 2) := by decide +kernel
theorem dX8_not_3 : decode prog_10_method_27_code 3 = .ok (.bipush 111, 2) := by decide +kernel
theorem dX8_not_5 : decode prog_10_method_27_code 5 = .ok (.bipush 116, 2) := by decide +kernel
theorem dX8_not_7 : decode prog_10_method_27_code 7 = .ok (.iconst 0, 1) := by decide +kernel
theorem dX8_not_8 : decode prog_10_method_27_code 8 = .ok (.iconst 0, 1) := by decide +kernel
theorem dX8_not_9 : decode prog_10_method_27_code 9 = .ok (.iconst 0, 1) := by decide +kernel
theorem dX8_not_10 : decode prog_10_method_27_code 10 = .ok (.iconst 0, 1) := by decide +kernel
theorem dX8_not_11 : decode prog_10_method_27_code 11 = .ok (.iconst 0, 1) := by decide +kernel
theorem dX8_not_12 : decode prog_10_method_27_code 12 = .ok (.invokevirtual 204, 3) := by decide +kernel
theorem dX8_not_15 : decode prog_10_method_27_code 15 = .ok (.ifCond .eq 37, 3) := by decide +kernel
theorem dX8_not_18 : decode prog_10_method_27_code 18 = .ok (.aload_n 0, 1) := by decide +kernel
theorem dX8_not_19 : decode prog_10_method_27_code 19 = .ok (.invokevirtual 229, 3) := by decide +kernel
theorem dX8_not_22 : decode prog_10_method_27_code 22 = .ok (.ifCond .ne 5, 3) := by decide +kernel
theorem dX8_not_25 : decode prog_10_method_27_code 25 = .ok (.iconst 0, 1) := by decide +kernel
theorem dX8_not_26 : decode prog_10_method_27_code 26 = .ok (.ireturn, 1) := by decide +kernel
theorem dX8_not_27 : decode prog_10_method_27_code 27 = .ok (.aload_n 0, 1) := by decide +kernel
theorem dX8_not_28 : decode prog_10_method_27_code 28 = .ok (.invokevirtual 248, 3) := by decide +kernel
theorem dX8_not_31 : decode prog_10_method_27_code 31 = .ok (.istore_n 1, 1) := by decide +kernel
theorem dX8_not_32 : decode prog_10_method_27_code 32 = .ok (.aload_n 0, 1) := by decide +kernel
theorem dX8_not_33 : decode prog_10_method_27_code 33 = .ok (.dup, 1) := by decide +kernel
theorem dX8_not_34 : decode prog_10_method_27_code 34 = .ok (.getfield 195, 3) := by decide +kernel
theorem dX8_not_37 : decode prog_10_method_27_code 37 = .ok (.iconst 1, 1) := by decide +kernel
theorem dX8_not_38 : decode prog_10_method_27_code 38 = .ok (.isub, 1) := by decide +kernel
theorem dX8_not_39 : decode prog_10_method_27_code 39 = .ok (.putfield 195, 3) := by decide +kernel
theorem dX8_not_42 : decode prog_10_method_27_code 42 = .ok (.iload_n 1, 1) := by decide +kernel
theorem dX8_not_43 : decode prog_10_method_27_code 43 = .ok (.ifCond .ne 7, 3) := by decide +kernel
theorem dX8_not_46 : decode prog_10_method_27_code 46 = .ok (.iconst 1, 1) := by decide +kernel
theorem dX8_not_47 : decode prog_10_method_27_code 47 = .ok (.goto 4, 3) := by decide +kernel
theorem dX8_not_50 : decode prog_10_method_27_code 50 = .ok (.iconst 0, 1) := by decide +kernel
theorem dX8_not_51 : decode prog_10_method_27_code 51 = .ok (.ireturn, 1) := by decide +kernel
theorem dX8_not_52 : decode prog_10_method_27_code 52 = .ok (.aload_n 0, 1) := by decide +kernel
theorem dX8_not_53 : decode prog_10_method_27_code 53 = .ok (.invokevirtual 251, 3) := by decide +kernel
theorem dX8_not_56 : decode prog_10_method_27_code 56 = .ok (.istore_n 1, 1) := by decide +kernel
theorem dX8_not_57 : decode prog_10_method_27_code 57 = .ok (.aload_n 0, 1) := by decide +kernel
theorem dX8_not_58 : decode prog_10_method_27_code 58 = .ok (.bipush 60, 2) := by decide +kernel
theorem dX8_not_60 : decode prog_10_method_27_code 60 = .ok (.invokevirtual 226, 3) := by decide +kernel
theorem dX8_not_63 : decode prog_10_method_27_code 63 = .ok (.ifCond .ne 14, 3) := by decide +kernel
theorem dX8_not_66 : decode prog_10_method_27_code 66 = .ok (.aload_n 0, 1) := by decide +kernel
theorem dX8_not_67 : decode prog_10_method_27_code 67 = .ok (.bipush 61, 2) := by decide +kernel
theorem dX8_not_69 : decode prog_10_method_27_code 69 = .ok (.invokevirtual 226, 3) := by decide +kernel
theorem dX8_not_72 : decode prog_10_method_27_code 72 = .ok (.ifCond .ne 5, 3) := by decide +kernel
theorem dX8_not_75 : decode prog_10_method_27_code 75 = .ok (.iload_n 1, 1) := by decide +kernel
theorem dX8_not_76 : decode prog_10_method_27_code 76 = .ok (.ireturn, 1) := by decide +kernel
theorem dX8_not_77 : decode prog_10_method_27_code 77 = .ok (.aload_n 0, 1) := by decide +kernel
theorem dX8_not_78 : decode prog_10_method_27_code 78 = .ok (.getfield 179, 3) := by decide +kernel
theorem dX8_not_81 : decode prog_10_method_27_code 81 = .ok (.ldc2_w 254, 3) := by decide +kernel
theorem dX8_not_84 : decode prog_10_method_27_code 84 = .ok (.lcmp, 1) := by decide +kernel
theorem dX8_not_85 : decode prog_10_method_27_code 85 = .ok (.ifCond .ne 7, 3) := by decide +kernel
theorem dX8_not_88 : decode prog_10_method_27_code 88 = .ok (.iconst 1, 1) := by decide +kernel
theorem dX8_not_89 : decode prog_10_method_27_code 89 = .ok (.goto 4, 3) := by decide +kernel
theorem dX8_not_92 : decode prog_10_method_27_code 92 = .ok (.iconst 0, 1) := by decide +kernel
theorem dX8_not_93 : decode prog_10_method_27_code 93 = .ok (.istore_n 2, 1) := by decide +kernel
theorem dX8_not_94 : decode prog_10_method_27_code 94 = .ok (.aload_n 0, 1) := by decide +kernel
theorem dX8_not_95 : decode prog_10_method_27_code 95 = .ok (.invokevirtual 201, 3) := by decide +kernel
theorem dX8_not_98 : decode prog_10_method_27_code 98 = .ok (.aload_n 0, 1) := by decide +kernel
theorem dX8_not_99 : decode prog_10_method_27_code 99 = .ok (.invokevirtual 251, 3) := by decide +kernel
theorem dX8_not_102 : decode prog_10_method_27_code 102 = .ok (.istore_n 3, 1) := by decide +kernel
theorem dX8_not_103 : decode prog_10_method_27_code 103 = .ok (.iload_n 2, 1) := by decide +kernel
theorem dX8_not_104 : decode prog_10_method_27_code 104 = .ok (.ifCond .eq 11, 3) := by decide +kernel
theorem dX8_not_107 : decode prog_10_method_27_code 107 = .ok (.iload_n 1, 1) := by decide +kernel
theorem dX8_not_108 : decode prog_10_method_27_code 108 = .ok (.iload_n 3, 1) := by decide +kernel
theorem dX8_not_109 : decode prog_10_method_27_code 109 = .ok (.if_icmp .ge 15, 3) := by decide +kernel
theorem dX8_not_112 : decode prog_10_method_27_code 112 = .ok (.goto 8, 3) := by decide +kernel
theorem dX8_not_115 : decode prog_10_method_27_code 115 = .ok (.iload_n 1, 1) := by decide +kernel
theorem dX8_not_116 : decode prog_10_method_27_code 116 = .ok (.iload_n 3, 1) := by decide +kernel
theorem dX8_not_117 : decode prog_10_method_27_code 117 = .ok (.if_icmp .ne 7, 3) := by decide +kernel
theorem dX8_not_120 : decode prog_10_method_27_code 120 = .ok (.iconst 1, 1) := by decide +kernel
theorem dX8_not_121 : decode prog_10_method_27_code 121 = .ok (.goto 4, 3) := by decide +kernel
theorem dX8_not_124 : decode prog_10_method_27_code 124 = .ok (.iconst 0, 1) := by decide +kernel
theorem dX8_not_125 : decode prog_10_method_27_code 125 = .ok (.ireturn, 1) := by decide +kernel
theorem dX8_opens_0 : decode prog_10_method_22_code 0 = .ok (.aload_n 0, 1) := by decide +kernel
theorem dX8_opens_1 : decode prog_10_method_22_code 1 = .ok (.getfield 195, 3) := by decide +kernel
theorem dX8_opens_4 : decode prog_10_method_22_code 4 = .ok (.iconst 5, 1) := by decide +kernel
theorem dX8_opens_5 : decode prog_10_method_22_code 5 = .ok (.if_icmp .ne 9, 3) := by decide +kernel
theorem dX8_opens_8 : decode prog_10_method_22_code 8 = .ok (.aload_n 0, 1) := by decide +kernel
theorem dX8_opens_9 : decode prog_10_method_22_code 9 = .ok (.invokevirtual 198, 3) := by decide +kernel
theorem dX8_opens_12 : decode prog_10_method_22_code 12 = .ok (.iconst 0, 1) := by decide +kernel
theorem dX8_opens_13 : decode prog_10_method_22_code 13 = .ok (.ireturn, 1) := by decide +kernel
theorem dX8_opens_14 : decode prog_10_method_22_code 14 = .ok (.aload_n 0, 1) := by decide +kernel
theorem dX8_opens_15 : decode prog_10_method_22_code 15 = .ok (.dup, 1) := by decide +kernel
theorem dX8_opens_16 : decode prog_10_method_22_code 16 = .ok (.getfield 195, 3) := by decide +kernel
theorem dX8_opens_19 : decode prog_10_method_22_code 19 = .ok (.iconst 1, 1) := by decide +kernel
theorem dX8_opens_20 : decode prog_10_method_22_code 20 = .ok (.iadd, 1) := by decide +kernel
theorem dX8_opens_21 : decode prog_10_method_22_code 21 = .ok (.putfield 195, 3) := by decide +kernel
theorem dX8_opens_24 : decode prog_10_method_22_code 24 = .ok (.aload_n 0, 1) := by decide +kernel
theorem dX8_opens_25 : decode prog_10_method_22_code 25 = .ok (.invokevirtual 201, 3) := by decide +kernel
theorem dX8_opens_28 : decode prog_10_method_22_code 28 = .ok (.iconst 1, 1) := by decide +kernel
theorem dX8_opens_29 : decode prog_10_method_22_code 29 = .ok (.ireturn, 1) := by decide +kernel
theorem dX8_added_0 : decode prog_10_method_26_code 0 = .ok (.aload_n 0, 1) := by decide +kernel
theorem dX8_added_1 : decode prog_10_method_26_code 1 = .ok (.invokevirtual 243, 3) := by decide +kernel
theorem dX8_added_4 : decode prog_10_method_26_code 4 = .ok (.istore_n 1, 1) := by decide +kernel
theorem dX8_added_5 : decode prog_10_method_26_code 5 = .ok (.aload_n 0, 1) := by decide +kernel
theorem dX8_added_6 : decode prog_10_method_26_code 6 = .ok (.bipush 43, 2) := by decide +kernel
theorem dX8_added_8 : decode prog_10_method_26_code 8 = .ok (.invokevirtual 226, 3) := by decide +kernel
theorem dX8_added_11 : decode prog_10_method_26_code 11 = .ok (.ifCond .ne 12, 3) := by decide +kernel
theorem dX8_added_14 : decode prog_10_method_26_code 14 = .ok (.aload_n 0, 1) := by decide +kernel
theorem dX8_added_15 : decode prog_10_method_26_code 15 = .ok (.bipush 45, 2) := by decide +kernel
theorem dX8_added_17 : decode prog_10_method_26_code 17 = .ok (.invokevirtual 226, 3) := by decide +kernel
theorem dX8_added_20 : decode prog_10_method_26_code 20 = .ok (.ifCond .eq 46, 3) := by decide +kernel
theorem dX8_added_23 : decode prog_10_method_26_code 23 = .ok (.aload_n 0, 1) := by decide +kernel
theorem dX8_added_24 : decode prog_10_method_26_code 24 = .ok (.getfield 179, 3) := by decide +kernel
theorem dX8_added_27 : decode prog_10_method_26_code 27 = .ok (.ldc2_w 246, 3) := by decide +kernel
theorem dX8_added_30 : decode prog_10_method_26_code 30 = .ok (.lcmp, 1) := by decide +kernel
theorem dX8_added_31 : decode prog_10_method_26_code 31 = .ok (.ifCond .ne 7, 3) := by decide +kernel
theorem dX8_added_34 : decode prog_10_method_26_code 34 = .ok (.iconst 1, 1) := by decide +kernel
theorem dX8_added_35 : decode prog_10_method_26_code 35 = .ok (.goto 4, 3) := by decide +kernel
theorem dX8_added_38 : decode prog_10_method_26_code 38 = .ok (.iconst 0, 1) := by decide +kernel
theorem dX8_added_39 : decode prog_10_method_26_code 39 = .ok (.istore_n 2, 1) := by decide +kernel
theorem dX8_added_40 : decode prog_10_method_26_code 40 = .ok (.aload_n 0, 1) := by decide +kernel
theorem dX8_added_41 : decode prog_10_method_26_code 41 = .ok (.invokevirtual 201, 3) := by decide +kernel
theorem dX8_added_44 : decode prog_10_method_26_code 44 = .ok (.aload_n 0, 1) := by decide +kernel
theorem dX8_added_45 : decode prog_10_method_26_code 45 = .ok (.invokevirtual 243, 3) := by decide +kernel
theorem dX8_added_48 : decode prog_10_method_26_code 48 = .ok (.istore_n 3, 1) := by decide +kernel
theorem dX8_added_49 : decode prog_10_method_26_code 49 = .ok (.iload_n 2, 1) := by decide +kernel
theorem dX8_added_50 : decode prog_10_method_26_code 50 = .ok (.ifCond .eq 9, 3) := by decide +kernel
theorem dX8_added_53 : decode prog_10_method_26_code 53 = .ok (.iload_n 1, 1) := by decide +kernel
theorem dX8_added_54 : decode prog_10_method_26_code 54 = .ok (.iload_n 3, 1) := by decide +kernel
theorem dX8_added_55 : decode prog_10_method_26_code 55 = .ok (.iadd, 1) := by decide +kernel
theorem dX8_added_56 : decode prog_10_method_26_code 56 = .ok (.goto 6, 3) := by decide +kernel
theorem dX8_added_59 : decode prog_10_method_26_code 59 = .ok (.iload_n 1, 1) := by decide +kernel
theorem dX8_added_60 : decode prog_10_method_26_code 60 = .ok (.iload_n 3, 1) := by decide +kernel
theorem dX8_added_61 : decode prog_10_method_26_code 61 = .ok (.isub, 1) := by decide +kernel
theorem dX8_added_62 : decode prog_10_method_26_code 62 = .ok (.istore_n 1, 1) := by decide +kernel
theorem dX8_added_63 : decode prog_10_method_26_code 63 = .ok (.goto (-58), 3) := by decide +kernel
theorem dX8_added_66 : decode prog_10_method_26_code 66 = .ok (.iload_n 1, 1) := by decide +kernel
theorem dX8_added_67 : decode prog_10_method_26_code 67 = .ok (.ireturn, 1) := by decide +kernel
theorem dX8_term_0 : decode prog_10_method_25_code 0 = .ok (.aload_n 0, 1) := by decide +kernel
theorem dX8_term_1 : decode prog_10_method_25_code 1 = .ok (.invokevirtual 233, 3) := by decide +kernel
theorem dX8_term_4 : decode prog_10_method_25_code 4 = .ok (.istore_n 1, 1) := by decide +kernel
theorem dX8_term_5 : decode prog_10_method_25_code 5 = .ok (.aload_n 0, 1) := by decide +kernel
theorem dX8_term_6 : decode prog_10_method_25_code 6 = .ok (.bipush 42, 2) := by decide +kernel
theorem dX8_term_8 : decode prog_10_method_25_code 8 = .ok (.invokevirtual 226, 3) := by decide +kernel
theorem dX8_term_11 : decode prog_10_method_25_code 11 = .ok (.ifCond .eq 17, 3) := by decide +kernel
theorem dX8_term_14 : decode prog_10_method_25_code 14 = .ok (.aload_n 0, 1) := by decide +kernel
theorem dX8_term_15 : decode prog_10_method_25_code 15 = .ok (.invokevirtual 201, 3) := by decide +kernel
theorem dX8_term_18 : decode prog_10_method_25_code 18 = .ok (.iload_n 1, 1) := by decide +kernel
theorem dX8_term_19 : decode prog_10_method_25_code 19 = .ok (.aload_n 0, 1) := by decide +kernel
theorem dX8_term_20 : decode prog_10_method_25_code 20 = .ok (.invokevirtual 233, 3) := by decide +kernel
theorem dX8_term_23 : decode prog_10_method_25_code 23 = .ok (.imul, 1) := by decide +kernel
theorem dX8_term_24 : decode prog_10_method_25_code 24 = .ok (.istore_n 1, 1) := by decide +kernel
theorem dX8_term_25 : decode prog_10_method_25_code 25 = .ok (.goto (-20), 3) := by decide +kernel
theorem dX8_term_28 : decode prog_10_method_25_code 28 = .ok (.iload_n 1, 1) := by decide +kernel
theorem dX8_term_29 : decode prog_10_method_25_code 29 = .ok (.ireturn, 1) := by decide +kernel
theorem dX8_atom_0 : decode prog_10_method_24_code 0 = .ok (.iconst 0, 1) := by decide +kernel
theorem dX8_atom_1 : decode prog_10_method_24_code 1 = .ok (.istore_n 1, 1) := by decide +kernel
theorem dX8_atom_2 : decode prog_10_method_24_code 2 = .ok (.aload_n 0, 1) := by decide +kernel
theorem dX8_atom_3 : decode prog_10_method_24_code 3 = .ok (.bipush 45, 2) := by decide +kernel
theorem dX8_atom_5 : decode prog_10_method_24_code 5 = .ok (.invokevirtual 226, 3) := by decide +kernel
theorem dX8_atom_8 : decode prog_10_method_24_code 8 = .ok (.ifCond .eq 29, 3) := by decide +kernel
theorem dX8_atom_11 : decode prog_10_method_24_code 11 = .ok (.aload_n 0, 1) := by decide +kernel
theorem dX8_atom_12 : decode prog_10_method_24_code 12 = .ok (.invokevirtual 229, 3) := by decide +kernel
theorem dX8_atom_15 : decode prog_10_method_24_code 15 = .ok (.ifCond .eq 146, 3) := by decide +kernel
theorem dX8_atom_18 : decode prog_10_method_24_code 18 = .ok (.aload_n 0, 1) := by decide +kernel
theorem dX8_atom_19 : decode prog_10_method_24_code 19 = .ok (.invokevirtual 233, 3) := by decide +kernel
theorem dX8_atom_22 : decode prog_10_method_24_code 22 = .ok (.ineg, 1) := by decide +kernel
theorem dX8_atom_23 : decode prog_10_method_24_code 23 = .ok (.istore_n 1, 1) := by decide +kernel
theorem dX8_atom_24 : decode prog_10_method_24_code 24 = .ok (.aload_n 0, 1) := by decide +kernel
theorem dX8_atom_25 : decode prog_10_method_24_code 25 = .ok (.dup, 1) := by decide +kernel
theorem dX8_atom_26 : decode prog_10_method_24_code 26 = .ok (.getfield 195, 3) := by decide +kernel
theorem dX8_atom_29 : decode prog_10_method_24_code 29 = .ok (.iconst 1, 1) := by decide +kernel
theorem dX8_atom_30 : decode prog_10_method_24_code 30 = .ok (.isub, 1) := by decide +kernel
theorem dX8_atom_31 : decode prog_10_method_24_code 31 = .ok (.putfield 195, 3) := by decide +kernel
theorem dX8_atom_34 : decode prog_10_method_24_code 34 = .ok (.goto 127, 3) := by decide +kernel
theorem dX8_atom_37 : decode prog_10_method_24_code 37 = .ok (.aload_n 0, 1) := by decide +kernel
theorem dX8_atom_38 : decode prog_10_method_24_code 38 = .ok (.bipush 40, 2) := by decide +kernel
theorem dX8_atom_40 : decode prog_10_method_24_code 40 = .ok (.invokevirtual 226, 3) := by decide +kernel
theorem dX8_atom_43 : decode prog_10_method_24_code 43 = .ok (.ifCond .eq 52, 3) := by decide +kernel
theorem dX8_atom_46 : decode prog_10_method_24_code 46 = .ok (.aload_n 0, 1) := by decide +kernel
theorem dX8_atom_47 : decode prog_10_method_24_code 47 = .ok (.invokevirtual 229, 3) := by decide +kernel
theorem dX8_atom_50 : decode prog_10_method_24_code 50 = .ok (.ifCond .eq 111, 3) := by decide +kernel
theorem dX8_atom_53 : decode prog_10_method_24_code 53 = .ok (.aload_n 0, 1) := by decide +kernel
theorem dX8_atom_54 : decode prog_10_method_24_code 54 = .ok (.invokevirtual 237, 3) := by decide +kernel
theorem dX8_atom_57 : decode prog_10_method_24_code 57 = .ok (.istore_n 1, 1) := by decide +kernel
theorem dX8_atom_58 : decode prog_10_method_24_code 58 = .ok (.aload_n 0, 1) := by decide +kernel
theorem dX8_atom_59 : decode prog_10_method_24_code 59 = .ok (.bipush 41, 2) := by decide +kernel
theorem dX8_atom_61 : decode prog_10_method_24_code 61 = .ok (.invokevirtual 226, 3) := by decide +kernel
theorem dX8_atom_64 : decode prog_10_method_24_code 64 = .ok (.ifCond .ne 7, 3) := by decide +kernel
theorem dX8_atom_67 : decode prog_10_method_24_code 67 = .ok (.aload_n 0, 1) := by decide +kernel
theorem dX8_atom_68 : decode prog_10_method_24_code 68 = .ok (.invokevirtual 198, 3) := by decide +kernel
theorem dX8_atom_71 : decode prog_10_method_24_code 71 = .ok (.aload_n 0, 1) := by decide +kernel
theorem dX8_atom_72 : decode prog_10_method_24_code 72 = .ok (.dup, 1) := by decide +kernel
theorem dX8_atom_73 : decode prog_10_method_24_code 73 = .ok (.getfield 195, 3) := by decide +kernel
theorem dX8_atom_76 : decode prog_10_method_24_code 76 = .ok (.iconst 1, 1) := by decide +kernel
theorem dX8_atom_77 : decode prog_10_method_24_code 77 = .ok (.isub, 1) := by decide +kernel
theorem dX8_atom_78 : decode prog_10_method_24_code 78 = .ok (.putfield 195, 3) := by decide +kernel
theorem dX8_atom_81 : decode prog_10_method_24_code 81 = .ok (.aload_n 0, 1) := by decide +kernel
theorem dX8_atom_82 : decode prog_10_method_24_code 82 = .ok (.getfield 185, 3) := by decide +kernel
theorem dX8_atom_85 : decode prog_10_method_24_code 85 = .ok (.ifCond .ne 76, 3) := by decide +kernel
theorem dX8_atom_88 : decode prog_10_method_24_code 88 = .ok (.aload_n 0, 1) := by decide +kernel
theorem dX8_atom_89 : decode prog_10_method_24_code 89 = .ok (.invokevirtual 201, 3) := by decide +kernel
theorem dX8_atom_92 : decode prog_10_method_24_code 92 = .ok (.goto 69, 3) := by decide +kernel
theorem dX8_atom_95 : decode prog_10_method_24_code 95 = .ok (.aload_n 0, 1) := by decide +kernel
theorem dX8_atom_96 : decode prog_10_method_24_code 96 = .ok (.getfield 185, 3) := by decide +kernel
theorem dX8_atom_99 : decode prog_10_method_24_code 99 = .ok (.ifCond .ne 24, 3) := by decide +kernel
theorem dX8_atom_102 : decode prog_10_method_24_code 102 = .ok (.aload_n 0, 1) := by decide +kernel
theorem dX8_atom_103 : decode prog_10_method_24_code 103 = .ok (.getfield 168, 3) := by decide +kernel
theorem dX8_atom_106 : decode prog_10_method_24_code 106 = .ok (.iconst 2, 1) := by decide +kernel
theorem dX8_atom_107 : decode prog_10_method_24_code 107 = .ok (.if_icmp .ne 16, 3) := by decide +kernel
theorem dX8_atom_110 : decode prog_10_method_24_code 110 = .ok (.aload_n 0, 1) := by decide +kernel
theorem dX8_atom_111 : decode prog_10_method_24_code 111 = .ok (.getfield 179, 3) := by decide +kernel
theorem dX8_atom_114 : decode prog_10_method_24_code 114 = .ok (.l2i, 1) := by decide +kernel
theorem dX8_atom_115 : decode prog_10_method_24_code 115 = .ok (.istore_n 1, 1) := by decide +kernel
theorem dX8_atom_116 : decode prog_10_method_24_code 116 = .ok (.aload_n 0, 1) := by decide +kernel
theorem dX8_atom_117 : decode prog_10_method_24_code 117 = .ok (.invokevirtual 201, 3) := by decide +kernel
theorem dX8_atom_120 : decode prog_10_method_24_code 120 = .ok (.goto 41, 3) := by decide +kernel
theorem dX8_atom_123 : decode prog_10_method_24_code 123 = .ok (.aload_n 0, 1) := by decide +kernel
theorem dX8_atom_124 : decode prog_10_method_24_code 124 = .ok (.getfield 185, 3) := by decide +kernel
theorem dX8_atom_127 : decode prog_10_method_24_code 127 = .ok (.ifCond .ne 30, 3) := by decide +kernel
theorem dX8_atom_130 : decode prog_10_method_24_code 130 = .ok (.aload_n 0, 1) := by decide +kernel
theorem dX8_atom_131 : decode prog_10_method_24_code 131 = .ok (.getfield 168, 3) := by decide +kernel
theorem dX8_atom_134 : decode prog_10_method_24_code 134 = .ok (.iconst 1, 1) := by decide +kernel
theorem dX8_atom_135 : decode prog_10_method_24_code 135 = .ok (.if_icmp .ne 22, 3) := by decide +kernel
theorem dX8_atom_138 : decode prog_10_method_24_code 138 = .ok (.aload_n 0, 1) := by decide +kernel
theorem dX8_atom_139 : decode prog_10_method_24_code 139 = .ok (.invokevirtual 240, 3) := by decide +kernel
theorem dX8_atom_142 : decode prog_10_method_24_code 142 = .ok (.istore_n 1, 1) := by decide +kernel
theorem dX8_atom_143 : decode prog_10_method_24_code 143 = .ok (.aload_n 0, 1) := by decide +kernel
theorem dX8_atom_144 : decode prog_10_method_24_code 144 = .ok (.getfield 185, 3) := by decide +kernel
theorem dX8_atom_147 : decode prog_10_method_24_code 147 = .ok (.ifCond .ne 14, 3) := by decide +kernel
theorem dX8_atom_150 : decode prog_10_method_24_code 150 = .ok (.aload_n 0, 1) := by decide +kernel
theorem dX8_atom_151 : decode prog_10_method_24_code 151 = .ok (.invokevirtual 201, 3) := by decide +kernel
theorem dX8_atom_154 : decode prog_10_method_24_code 154 = .ok (.goto 7, 3) := by decide +kernel
theorem dX8_atom_157 : decode prog_10_method_24_code 157 = .ok (.aload_n 0, 1) := by decide +kernel
theorem dX8_atom_158 : decode prog_10_method_24_code 158 = .ok (.invokevirtual 198, 3) := by decide +kernel
theorem dX8_atom_161 : decode prog_10_method_24_code 161 = .ok (.iload_n 1, 1) := by decide +kernel
theorem dX8_atom_162 : decode prog_10_method_24_code 162 = .ok (.ireturn, 1) := by decide +kernel
theorem dX8_isSign_0 : decode prog_10_method_21_code 0 = .ok (.aload_n 0, 1) := by decide +kernel
theorem dX8_isSign_1 : decode prog_10_method_21_code 1 = .ok (.getfield 185, 3) := by decide +kernel
theorem dX8_isSign_4 : decode prog_10_method_21_code 4 = .ok (.ifCond .ne 25, 3) := by decide +kernel
theorem dX8_isSign_7 : decode prog_10_method_21_code 7 = .ok (.aload_n 0, 1) := by decide +kernel
theorem dX8_isSign_8 : decode prog_10_method_21_code 8 = .ok (.getfield 168, 3) := by decide +kernel
theorem dX8_isSign_11 : decode prog_10_method_21_code 11 = .ok (.iconst 3, 1) := by decide +kernel
theorem dX8_isSign_12 : decode prog_10_method_21_code 12 = .ok (.if_icmp .ne 17, 3) := by decide +kernel
theorem dX8_isSign_15 : decode prog_10_method_21_code 15 = .ok (.aload_n 0, 1) := by decide +kernel
theorem dX8_isSign_16 : decode prog_10_method_21_code 16 = .ok (.getfield 179, 3) := by decide +kernel
theorem dX8_isSign_19 : decode prog_10_method_21_code 19 = .ok (.iload_n 1, 1) := by decide +kernel
theorem dX8_isSign_20 : decode prog_10_method_21_code 20 = .ok (.i2l, 1) := by decide +kernel
theorem dX8_isSign_21 : decode prog_10_method_21_code 21 = .ok (.lcmp, 1) := by decide +kernel
theorem dX8_isSign_22 : decode prog_10_method_21_code 22 = .ok (.ifCond .ne 7, 3) := by decide +kernel
theorem dX8_isSign_25 : decode prog_10_method_21_code 25 = .ok (.iconst 1, 1) := by decide +kernel
theorem dX8_isSign_26 : decode prog_10_method_21_code 26 = .ok (.goto 4, 3) := by decide +kernel
theorem dX8_isSign_29 : decode prog_10_method_21_code 29 = .ok (.iconst 0, 1) := by decide +kernel
theorem dX8_isSign_30 : decode prog_10_method_21_code 30 = .ok (.ireturn, 1) := by decide +kernel
theorem dX8_name_0 : decode prog_10_method_23_code 0 = .ok (.aload_n 0, 1) := by decide +kernel
theorem dX8_name_1 : decode prog_10_method_23_code 1 = .ok (.bipush 112, 2) := by decide +kernel
theorem dX8_name_3 : decode prog_10_method_23_code 3 = .ok (.bipush 108, 2) := by decide +kernel
theorem dX8_name_5 : decode prog_10_method_23_code 5 = .ok (.bipush 97, 2) := by decide +kernel
theorem dX8_name_7 : decode prog_10_method_23_code 7 = .ok (.bipush 99, 2) := by decide +kernel
theorem dX8_name_9 : decode prog_10_method_23_code 9 = .ok (.bipush 101, 2) := by decide +kernel
theorem dX8_name_11 : decode prog_10_method_23_code 11 = .ok (.iconst 0, 1) := by decide +kernel
theorem dX8_name_12 : decode prog_10_method_23_code 12 = .ok (.iconst 0, 1) := by decide +kernel
theorem dX8_name_13 : decode prog_10_method_23_code 13 = .ok (.iconst 0, 1) := by decide +kernel
theorem dX8_name_14 : decode prog_10_method_23_code 14 = .ok (.invokevirtual 204, 3) := by decide +kernel
theorem dX8_name_17 : decode prog_10_method_23_code 17 = .ok (.ifCond .eq 8, 3) := by decide +kernel
theorem dX8_name_20 : decode prog_10_method_23_code 20 = .ok (.aload_n 0, 1) := by decide +kernel
theorem dX8_name_21 : decode prog_10_method_23_code 21 = .ok (.getfield 208, 3) := by decide +kernel
theorem dX8_name_24 : decode prog_10_method_23_code 24 = .ok (.ireturn, 1) := by decide +kernel
theorem dX8_name_25 : decode prog_10_method_23_code 25 = .ok (.aload_n 0, 1) := by decide +kernel
theorem dX8_name_26 : decode prog_10_method_23_code 26 = .ok (.bipush 115, 2) := by decide +kernel
theorem dX8_name_28 : decode prog_10_method_23_code 28 = .ok (.bipush 109, 2) := by decide +kernel
theorem dX8_name_30 : decode prog_10_method_23_code 30 = .ok (.bipush 111, 2) := by decide +kernel
theorem dX8_name_32 : decode prog_10_method_23_code 32 = .ok (.bipush 107, 2) := by decide +kernel
theorem dX8_name_34 : decode prog_10_method_23_code 34 = .ok (.bipush 101, 2) := by decide +kernel
theorem dX8_name_36 : decode prog_10_method_23_code 36 = .ok (.iconst 0, 1) := by decide +kernel
theorem dX8_name_37 : decode prog_10_method_23_code 37 = .ok (.iconst 0, 1) := by decide +kernel
theorem dX8_name_38 : decode prog_10_method_23_code 38 = .ok (.iconst 0, 1) := by decide +kernel
theorem dX8_name_39 : decode prog_10_method_23_code 39 = .ok (.invokevirtual 204, 3) := by decide +kernel
theorem dX8_name_42 : decode prog_10_method_23_code 42 = .ok (.ifCond .eq 8, 3) := by decide +kernel
theorem dX8_name_45 : decode prog_10_method_23_code 45 = .ok (.aload_n 0, 1) := by decide +kernel
theorem dX8_name_46 : decode prog_10_method_23_code 46 = .ok (.getfield 211, 3) := by decide +kernel
theorem dX8_name_49 : decode prog_10_method_23_code 49 = .ok (.ireturn, 1) := by decide +kernel
theorem dX8_name_50 : decode prog_10_method_23_code 50 = .ok (.aload_n 0, 1) := by decide +kernel
theorem dX8_name_51 : decode prog_10_method_23_code 51 = .ok (.bipush 109, 2) := by decide +kernel
theorem dX8_name_53 : decode prog_10_method_23_code 53 = .ok (.bipush 105, 2) := by decide +kernel
theorem dX8_name_55 : decode prog_10_method_23_code 55 = .ok (.bipush 110, 2) := by decide +kernel
theorem dX8_name_57 : decode prog_10_method_23_code 57 = .ok (.bipush 117, 2) := by decide +kernel
theorem dX8_name_59 : decode prog_10_method_23_code 59 = .ok (.bipush 116, 2) := by decide +kernel
theorem dX8_name_61 : decode prog_10_method_23_code 61 = .ok (.bipush 101, 2) := by decide +kernel
theorem dX8_name_63 : decode prog_10_method_23_code 63 = .ok (.iconst 0, 1) := by decide +kernel
theorem dX8_name_64 : decode prog_10_method_23_code 64 = .ok (.iconst 0, 1) := by decide +kernel
theorem dX8_name_65 : decode prog_10_method_23_code 65 = .ok (.invokevirtual 204, 3) := by decide +kernel
theorem dX8_name_68 : decode prog_10_method_23_code 68 = .ok (.ifCond .eq 8, 3) := by decide +kernel
theorem dX8_name_71 : decode prog_10_method_23_code 71 = .ok (.aload_n 0, 1) := by decide +kernel
theorem dX8_name_72 : decode prog_10_method_23_code 72 = .ok (.getfield 214, 3) := by decide +kernel
theorem dX8_name_75 : decode prog_10_method_23_code 75 = .ok (.ireturn, 1) := by decide +kernel
theorem dX8_name_76 : decode prog_10_method_23_code 76 = .ok (.aload_n 0, 1) := by decide +kernel
theorem dX8_name_77 : decode prog_10_method_23_code 77 = .ok (.bipush 108, 2) := by decide +kernel
theorem dX8_name_79 : decode prog_10_method_23_code 79 = .ok (.bipush 111, 2) := by decide +kernel
theorem dX8_name_81 : decode prog_10_method_23_code 81 = .ok (.bipush 110, 2) := by decide +kernel
theorem dX8_name_83 : decode prog_10_method_23_code 83 = .ok (.bipush 103, 2) := by decide +kernel
theorem dX8_name_85 : decode prog_10_method_23_code 85 = .ok (.iconst 0, 1) := by decide +kernel
theorem dX8_name_86 : decode prog_10_method_23_code 86 = .ok (.iconst 0, 1) := by decide +kernel
theorem dX8_name_87 : decode prog_10_method_23_code 87 = .ok (.iconst 0, 1) := by decide +kernel
theorem dX8_name_88 : decode prog_10_method_23_code 88 = .ok (.iconst 0, 1) := by decide +kernel
theorem dX8_name_89 : decode prog_10_method_23_code 89 = .ok (.invokevirtual 204, 3) := by decide +kernel
theorem dX8_name_92 : decode prog_10_method_23_code 92 = .ok (.ifCond .eq 8, 3) := by decide +kernel
theorem dX8_name_95 : decode prog_10_method_23_code 95 = .ok (.aload_n 0, 1) := by decide +kernel
theorem dX8_name_96 : decode prog_10_method_23_code 96 = .ok (.getfield 217, 3) := by decide +kernel
theorem dX8_name_99 : decode prog_10_method_23_code 99 = .ok (.ireturn, 1) := by decide +kernel
theorem dX8_name_100 : decode prog_10_method_23_code 100 = .ok (.aload_n 0, 1) := by decide +kernel
theorem dX8_name_101 : decode prog_10_method_23_code 101 = .ok (.bipush 110, 2) := by decide +kernel
theorem dX8_name_103 : decode prog_10_method_23_code 103 = .ok (.bipush 117, 2) := by decide +kernel
theorem dX8_name_105 : decode prog_10_method_23_code 105 = .ok (.bipush 109, 2) := by decide +kernel
theorem dX8_name_107 : decode prog_10_method_23_code 107 = .ok (.bipush 98, 2) := by decide +kernel
theorem dX8_name_109 : decode prog_10_method_23_code 109 = .ok (.bipush 101, 2) := by decide +kernel
theorem dX8_name_111 : decode prog_10_method_23_code 111 = .ok (.bipush 114, 2) := by decide +kernel
theorem dX8_name_113 : decode prog_10_method_23_code 113 = .ok (.iconst 0, 1) := by decide +kernel
theorem dX8_name_114 : decode prog_10_method_23_code 114 = .ok (.iconst 0, 1) := by decide +kernel
theorem dX8_name_115 : decode prog_10_method_23_code 115 = .ok (.invokevirtual 204, 3) := by decide +kernel
theorem dX8_name_118 : decode prog_10_method_23_code 118 = .ok (.ifCond .eq 8, 3) := by decide +kernel
theorem dX8_name_121 : decode prog_10_method_23_code 121 = .ok (.aload_n 0, 1) := by decide +kernel
theorem dX8_name_122 : decode prog_10_method_23_code 122 = .ok (.getfield 220, 3) := by decide +kernel
theorem dX8_name_125 : decode prog_10_method_23_code 125 = .ok (.ireturn, 1) := by decide +kernel
theorem dX8_name_126 : decode prog_10_method_23_code 126 = .ok (.aload_n 0, 1) := by decide +kernel
theorem dX8_name_127 : decode prog_10_method_23_code 127 = .ok (.bipush 115, 2) := by decide +kernel
theorem dX8_name_129 : decode prog_10_method_23_code 129 = .ok (.bipush 105, 2) := by decide +kernel
theorem dX8_name_131 : decode prog_10_method_23_code 131 = .ok (.bipush 116, 2) := by decide +kernel
theorem dX8_name_133 : decode prog_10_method_23_code 133 = .ok (.bipush 116, 2) := by decide +kernel
theorem dX8_name_135 : decode prog_10_method_23_code 135 = .ok (.bipush 101, 2) := by decide +kernel
theorem dX8_name_137 : decode prog_10_method_23_code 137 = .ok (.bipush 114, 2) := by decide +kernel
theorem dX8_name_139 : decode prog_10_method_23_code 139 = .ok (.iconst 0, 1) := by decide +kernel
theorem dX8_name_140 : decode prog_10_method_23_code 140 = .ok (.iconst 0, 1) := by decide +kernel
theorem dX8_name_141 : decode prog_10_method_23_code 141 = .ok (.invokevirtual 204, 3) := by decide +kernel
theorem dX8_name_144 : decode prog_10_method_23_code 144 = .ok (.ifCond .eq 8, 3) := by decide +kernel
theorem dX8_name_147 : decode prog_10_method_23_code 147 = .ok (.aload_n 0, 1) := by decide +kernel
theorem dX8_name_148 : decode prog_10_method_23_code 148 = .ok (.getfield 223, 3) := by decide +kernel
theorem dX8_name_151 : decode prog_10_method_23_code 151 = .ok (.ireturn, 1) := by decide +kernel
theorem dX8_name_152 : decode prog_10_method_23_code 152 = .ok (.aload_n 0, 1) := by decide +kernel
theorem dX8_name_153 : decode prog_10_method_23_code 153 = .ok (.invokevirtual 198, 3) := by decide +kernel
theorem dX8_name_156 : decode prog_10_method_23_code 156 = .ok (.iconst 0, 1) := by decide +kernel
theorem dX8_name_157 : decode prog_10_method_23_code 157 = .ok (.ireturn, 1) := by decide +kernel
theorem dX8_force_0 : decode prog_10_method_33_code 0 = .ok (.iload_n 1, 1) := by decide +kernel
theorem dX8_force_1 : decode prog_10_method_33_code 1 = .ok (.i2l, 1) := by decide +kernel
theorem dX8_force_2 : decode prog_10_method_33_code 2 = .ok (.lconst 0, 1) := by decide +kernel
theorem dX8_force_3 : decode prog_10_method_33_code 3 = .ok (.aload_n 0, 1) := by decide +kernel
theorem dX8_force_4 : decode prog_10_method_33_code 4 = .ok (.getfield 98, 3) := by decide +kernel
theorem dX8_force_7 : decode prog_10_method_33_code 7 = .ok (.iconst 1, 1) := by decide +kernel
theorem dX8_force_8 : decode prog_10_method_33_code 8 = .ok (.isub, 1) := by decide +kernel
theorem dX8_force_9 : decode prog_10_method_33_code 9 = .ok (.i2l, 1) := by decide +kernel
theorem dX8_force_10 : decode prog_10_method_33_code 10 = .ok (.invokestatic 104, 3) := by decide +kernel
theorem dX8_force_13 : decode prog_10_method_33_code 13 = .ok (.ifCond .ne 6, 3) := by decide +kernel
theorem dX8_force_16 : decode prog_10_method_33_code 16 = .ok (.bipush (-2), 2) := by decide +kernel
theorem dX8_force_18 : decode prog_10_method_33_code 18 = .ok (.ireturn, 1) := by decide +kernel
theorem dX8_force_19 : decode prog_10_method_33_code 19 = .ok (.aload_n 0, 1) := by decide +kernel
theorem dX8_force_20 : decode prog_10_method_33_code 20 = .ok (.getfield 266, 3) := by decide +kernel
theorem dX8_force_23 : decode prog_10_method_33_code 23 = .ok (.istore_n 2, 1) := by decide +kernel
theorem dX8_force_24 : decode prog_10_method_33_code 24 = .ok (.aload_n 0, 1) := by decide +kernel
theorem dX8_force_25 : decode prog_10_method_33_code 25 = .ok (.iload_n 1, 1) := by decide +kernel
theorem dX8_force_26 : decode prog_10_method_33_code 26 = .ok (.putfield 266, 3) := by decide +kernel
theorem dX8_force_29 : decode prog_10_method_33_code 29 = .ok (.iload_n 2, 1) := by decide +kernel
theorem dX8_force_30 : decode prog_10_method_33_code 30 = .ok (.ireturn, 1) := by decide +kernel
theorem dX8_night_0 : decode prog_10_method_46_code 0 = .ok (.iload_n 1, 1) := by decide +kernel
theorem dX8_night_1 : decode prog_10_method_46_code 1 = .ok (.invokestatic 315, 3) := by decide +kernel
theorem dX8_night_4 : decode prog_10_method_46_code 4 = .ok (.ifCond .eq 49, 3) := by decide +kernel
theorem dX8_night_7 : decode prog_10_method_46_code 7 = .ok (.iload_n 2, 1) := by decide +kernel
theorem dX8_night_8 : decode prog_10_method_46_code 8 = .ok (.i2l, 1) := by decide +kernel
theorem dX8_night_9 : decode prog_10_method_46_code 9 = .ok (.lconst 0, 1) := by decide +kernel
theorem dX8_night_10 : decode prog_10_method_46_code 10 = .ok (.ldc2_w 318, 3) := by decide +kernel
theorem dX8_night_13 : decode prog_10_method_46_code 13 = .ok (.invokestatic 104, 3) := by decide +kernel
theorem dX8_night_16 : decode prog_10_method_46_code 16 = .ok (.ifCond .ne 28, 3) := by decide +kernel
theorem dX8_night_19 : decode prog_10_method_46_code 19 = .ok (.iload_n 2, 1) := by decide +kernel
theorem dX8_night_20 : decode prog_10_method_46_code 20 = .ok (.i2l, 1) := by decide +kernel
theorem dX8_night_21 : decode prog_10_method_46_code 21 = .ok (.ldc2_w 183, 3) := by decide +kernel
theorem dX8_night_24 : decode prog_10_method_46_code 24 = .ok (.ldc2_w 320, 3) := by decide +kernel
theorem dX8_night_27 : decode prog_10_method_46_code 27 = .ok (.invokestatic 104, 3) := by decide +kernel
theorem dX8_night_30 : decode prog_10_method_46_code 30 = .ok (.ifCond .eq 23, 3) := by decide +kernel
theorem dX8_night_33 : decode prog_10_method_46_code 33 = .ok (.aload_n 0, 1) := by decide +kernel
theorem dX8_night_34 : decode prog_10_method_46_code 34 = .ok (.iload_n 2, 1) := by decide +kernel
theorem dX8_night_35 : decode prog_10_method_46_code 35 = .ok (.bipush 10, 2) := by decide +kernel
theorem dX8_night_37 : decode prog_10_method_46_code 37 = .ok (.irem, 1) := by decide +kernel
theorem dX8_night_38 : decode prog_10_method_46_code 38 = .ok (.invokevirtual 112, 3) := by decide +kernel
theorem dX8_night_41 : decode prog_10_method_46_code 41 = .ok (.ifCond .eq 12, 3) := by decide +kernel
theorem dX8_night_44 : decode prog_10_method_46_code 44 = .ok (.aload_n 0, 1) := by decide +kernel
theorem dX8_night_45 : decode prog_10_method_46_code 45 = .ok (.getfield 81, 3) := by decide +kernel
theorem dX8_night_48 : decode prog_10_method_46_code 48 = .ok (.iload_n 1, 1) := by decide +kernel
theorem dX8_night_49 : decode prog_10_method_46_code 49 = .ok (.baload, 1) := by decide +kernel
theorem dX8_night_50 : decode prog_10_method_46_code 50 = .ok (.ifCond .ne 6, 3) := by decide +kernel
theorem dX8_night_53 : decode prog_10_method_46_code 53 = .ok (.bipush (-100), 2) := by decide +kernel
theorem dX8_night_55 : decode prog_10_method_46_code 55 = .ok (.ireturn, 1) := by decide +kernel
theorem dX8_night_56 : decode prog_10_method_46_code 56 = .ok (.aload_n 0, 1) := by decide +kernel
theorem dX8_night_57 : decode prog_10_method_46_code 57 = .ok (.invokevirtual 302, 3) := by decide +kernel
theorem dX8_night_60 : decode prog_10_method_46_code 60 = .ok (.aload_n 0, 1) := by decide +kernel
theorem dX8_night_61 : decode prog_10_method_46_code 61 = .ok (.iload_n 1, 1) := by decide +kernel
theorem dX8_night_62 : decode prog_10_method_46_code 62 = .ok (.invokevirtual 305, 3) := by decide +kernel
theorem dX8_night_65 : decode prog_10_method_46_code 65 = .ok (.iload_n 2, 1) := by decide +kernel
theorem dX8_night_66 : decode prog_10_method_46_code 66 = .ok (.bipush 10, 2) := by decide +kernel
theorem dX8_night_68 : decode prog_10_method_46_code 68 = .ok (.irem, 1) := by decide +kernel
theorem dX8_night_69 : decode prog_10_method_46_code 69 = .ok (.istore_n 3, 1) := by decide +kernel
theorem dX8_night_70 : decode prog_10_method_46_code 70 = .ok (.iload_n 2, 1) := by decide +kernel
theorem dX8_night_71 : decode prog_10_method_46_code 71 = .ok (.ifCond .ne 14, 3) := by decide +kernel
theorem dX8_night_74 : decode prog_10_method_46_code 74 = .ok (.aload_n 0, 1) := by decide +kernel
theorem dX8_night_75 : decode prog_10_method_46_code 75 = .ok (.aload_n 0, 1) := by decide +kernel
theorem dX8_night_76 : decode prog_10_method_46_code 76 = .ok (.getfield 41, 3) := by decide +kernel
theorem dX8_night_79 : decode prog_10_method_46_code 79 = .ok (.invokevirtual 311, 3) := by decide +kernel
theorem dX8_night_82 : decode prog_10_method_46_code 82 = .ok (.goto 109, 3) := by decide +kernel
theorem dX8_night_85 : decode prog_10_method_46_code 85 = .ok (.iload_n 2, 1) := by decide +kernel
theorem dX8_night_86 : decode prog_10_method_46_code 86 = .ok (.iconst 1, 1) := by decide +kernel
theorem dX8_night_87 : decode prog_10_method_46_code 87 = .ok (.if_icmp .ne 10, 3) := by decide +kernel
theorem dX8_night_90 : decode prog_10_method_46_code 90 = .ok (.aload_n 0, 1) := by decide +kernel
theorem dX8_night_91 : decode prog_10_method_46_code 91 = .ok (.getfield 120, 3) := by decide +kernel
theorem dX8_night_94 : decode prog_10_method_46_code 94 = .ok (.goto 97, 3) := by decide +kernel
theorem dX8_night_97 : decode prog_10_method_46_code 97 = .ok (.iload_n 2, 1) := by decide +kernel
theorem dX8_night_98 : decode prog_10_method_46_code 98 = .ok (.iconst 2, 1) := by decide +kernel
theorem dX8_night_99 : decode prog_10_method_46_code 99 = .ok (.if_icmp .ne 14, 3) := by decide +kernel
theorem dX8_night_102 : decode prog_10_method_46_code 102 = .ok (.aload_n 0, 1) := by decide +kernel
theorem dX8_night_103 : decode prog_10_method_46_code 103 = .ok (.aload_n 0, 1) := by decide +kernel
theorem dX8_night_104 : decode prog_10_method_46_code 104 = .ok (.getfield 50, 3) := by decide +kernel
theorem dX8_night_107 : decode prog_10_method_46_code 107 = .ok (.invokevirtual 311, 3) := by decide +kernel
theorem dX8_night_110 : decode prog_10_method_46_code 110 = .ok (.goto 81, 3) := by decide +kernel
theorem dX8_night_113 : decode prog_10_method_46_code 113 = .ok (.iload_n 2, 1) := by decide +kernel
theorem dX8_night_114 : decode prog_10_method_46_code 114 = .ok (.iconst 3, 1) := by decide +kernel
theorem dX8_night_115 : decode prog_10_method_46_code 115 = .ok (.if_icmp .ne 10, 3) := by decide +kernel
theorem dX8_night_118 : decode prog_10_method_46_code 118 = .ok (.aload_n 0, 1) := by decide +kernel
theorem dX8_night_119 : decode prog_10_method_46_code 119 = .ok (.getfield 279, 3) := by decide +kernel
theorem dX8_night_122 : decode prog_10_method_46_code 122 = .ok (.goto 69, 3) := by decide +kernel
theorem dX8_night_125 : decode prog_10_method_46_code 125 = .ok (.iload_n 2, 1) := by decide +kernel
theorem dX8_night_126 : decode prog_10_method_46_code 126 = .ok (.bipush 20, 2) := by decide +kernel
theorem dX8_night_128 : decode prog_10_method_46_code 128 = .ok (.if_icmp .ge 12, 3) := by decide +kernel
theorem dX8_night_131 : decode prog_10_method_46_code 131 = .ok (.aload_n 0, 1) := by decide +kernel
theorem dX8_night_132 : decode prog_10_method_46_code 132 = .ok (.getfield 41, 3) := by decide +kernel
theorem dX8_night_135 : decode prog_10_method_46_code 135 = .ok (.iload_n 3, 1) := by decide +kernel
theorem dX8_night_136 : decode prog_10_method_46_code 136 = .ok (.iaload, 1) := by decide +kernel
theorem dX8_night_137 : decode prog_10_method_46_code 137 = .ok (.goto 54, 3) := by decide +kernel
theorem dX8_night_140 : decode prog_10_method_46_code 140 = .ok (.iload_n 2, 1) := by decide +kernel
theorem dX8_night_141 : decode prog_10_method_46_code 141 = .ok (.bipush 30, 2) := by decide +kernel
theorem dX8_night_143 : decode prog_10_method_46_code 143 = .ok (.if_icmp .ge 12, 3) := by decide +kernel
theorem dX8_night_146 : decode prog_10_method_46_code 146 = .ok (.aload_n 0, 1) := by decide +kernel
theorem dX8_night_147 : decode prog_10_method_46_code 147 = .ok (.getfield 44, 3) := by decide +kernel
theorem dX8_night_150 : decode prog_10_method_46_code 150 = .ok (.iload_n 3, 1) := by decide +kernel
theorem dX8_night_151 : decode prog_10_method_46_code 151 = .ok (.iaload, 1) := by decide +kernel
theorem dX8_night_152 : decode prog_10_method_46_code 152 = .ok (.goto 39, 3) := by decide +kernel
theorem dX8_night_155 : decode prog_10_method_46_code 155 = .ok (.iload_n 2, 1) := by decide +kernel
theorem dX8_night_156 : decode prog_10_method_46_code 156 = .ok (.bipush 40, 2) := by decide +kernel
theorem dX8_night_158 : decode prog_10_method_46_code 158 = .ok (.if_icmp .ge 12, 3) := by decide +kernel
theorem dX8_night_161 : decode prog_10_method_46_code 161 = .ok (.aload_n 0, 1) := by decide +kernel
theorem dX8_night_162 : decode prog_10_method_46_code 162 = .ok (.getfield 47, 3) := by decide +kernel
theorem dX8_night_165 : decode prog_10_method_46_code 165 = .ok (.iload_n 3, 1) := by decide +kernel
theorem dX8_night_166 : decode prog_10_method_46_code 166 = .ok (.iaload, 1) := by decide +kernel
theorem dX8_night_167 : decode prog_10_method_46_code 167 = .ok (.goto 24, 3) := by decide +kernel
theorem dX8_night_170 : decode prog_10_method_46_code 170 = .ok (.iload_n 2, 1) := by decide +kernel
theorem dX8_night_171 : decode prog_10_method_46_code 171 = .ok (.bipush 50, 2) := by decide +kernel
theorem dX8_night_173 : decode prog_10_method_46_code 173 = .ok (.if_icmp .ge 12, 3) := by decide +kernel
theorem dX8_night_176 : decode prog_10_method_46_code 176 = .ok (.aload_n 0, 1) := by decide +kernel
theorem dX8_night_177 : decode prog_10_method_46_code 177 = .ok (.getfield 50, 3) := by decide +kernel
theorem dX8_night_180 : decode prog_10_method_46_code 180 = .ok (.iload_n 3, 1) := by decide +kernel
theorem dX8_night_181 : decode prog_10_method_46_code 181 = .ok (.iaload, 1) := by decide +kernel
theorem dX8_night_182 : decode prog_10_method_46_code 182 = .ok (.goto 9, 3) := by decide +kernel
theorem dX8_night_185 : decode prog_10_method_46_code 185 = .ok (.aload_n 0, 1) := by decide +kernel
theorem dX8_night_186 : decode prog_10_method_46_code 186 = .ok (.getfield 35, 3) := by decide +kernel
theorem dX8_night_189 : decode prog_10_method_46_code 189 = .ok (.iload_n 3, 1) := by decide +kernel
theorem dX8_night_190 : decode prog_10_method_46_code 190 = .ok (.iaload, 1) := by decide +kernel
theorem dX8_night_191 : decode prog_10_method_46_code 191 = .ok (.istore 4, 2) := by decide +kernel
theorem dX8_night_193 : decode prog_10_method_46_code 193 = .ok (.aload_n 0, 1) := by decide +kernel
theorem dX8_night_194 : decode prog_10_method_46_code 194 = .ok (.invokevirtual 308, 3) := by decide +kernel
theorem dX8_night_197 : decode prog_10_method_46_code 197 = .ok (.iload 4, 2) := by decide +kernel
theorem dX8_night_199 : decode prog_10_method_46_code 199 = .ok (.ireturn, 1) := by decide +kernel
theorem dX8_isSheet_0 : decode prog_10_method_67_code 0 = .ok (.iload_n 0, 1) := by decide +kernel
theorem dX8_isSheet_1 : decode prog_10_method_67_code 1 = .ok (.i2l, 1) := by decide +kernel
theorem dX8_isSheet_2 : decode prog_10_method_67_code 2 = .ok (.lconst 0, 1) := by decide +kernel
theorem dX8_isSheet_3 : decode prog_10_method_67_code 3 = .ok (.ldc2_w 318, 3) := by decide +kernel
theorem dX8_isSheet_6 : decode prog_10_method_67_code 6 = .ok (.invokestatic 104, 3) := by decide +kernel
theorem dX8_isSheet_9 : decode prog_10_method_67_code 9 = .ok (.ireturn, 1) := by decide +kernel
theorem dX8_layAside_0 : decode prog_10_method_40_code 0 = .ok (.iconst 0, 1) := by decide +kernel
theorem dX8_layAside_1 : decode prog_10_method_40_code 1 = .ok (.istore_n 1, 1) := by decide +kernel
theorem dX8_layAside_2 : decode prog_10_method_40_code 2 = .ok (.iload_n 1, 1) := by decide +kernel
theorem dX8_layAside_3 : decode prog_10_method_40_code 3 = .ok (.iconst 5, 1) := by decide +kernel
theorem dX8_layAside_4 : decode prog_10_method_40_code 4 = .ok (.if_icmp .ge 21, 3) := by decide +kernel
theorem dX8_layAside_7 : decode prog_10_method_40_code 7 = .ok (.aload_n 0, 1) := by decide +kernel
theorem dX8_layAside_8 : decode prog_10_method_40_code 8 = .ok (.getfield 56, 3) := by decide +kernel
theorem dX8_layAside_11 : decode prog_10_method_40_code 11 = .ok (.iload_n 1, 1) := by decide +kernel
theorem dX8_layAside_12 : decode prog_10_method_40_code 12 = .ok (.aload_n 0, 1) := by decide +kernel
theorem dX8_layAside_13 : decode prog_10_method_40_code 13 = .ok (.getfield 35, 3) := by decide +kernel
theorem dX8_layAside_16 : decode prog_10_method_40_code 16 = .ok (.iload_n 1, 1) := by decide +kernel
theorem dX8_layAside_17 : decode prog_10_method_40_code 17 = .ok (.iaload, 1) := by decide +kernel
theorem dX8_layAside_18 : decode prog_10_method_40_code 18 = .ok (.iastore, 1) := by decide +kernel
theorem dX8_layAside_19 : decode prog_10_method_40_code 19 = .ok (.iinc 1 1, 3) := by decide +kernel
theorem dX8_layAside_22 : decode prog_10_method_40_code 22 = .ok (.goto (-20), 3) := by decide +kernel
theorem dX8_layAside_25 : decode prog_10_method_40_code 25 = .ok (.aload_n 0, 1) := by decide +kernel
theorem dX8_layAside_26 : decode prog_10_method_40_code 26 = .ok (.getfield 56, 3) := by decide +kernel
theorem dX8_layAside_29 : decode prog_10_method_40_code 29 = .ok (.iconst 5, 1) := by decide +kernel
theorem dX8_layAside_30 : decode prog_10_method_40_code 30 = .ok (.aload_n 0, 1) := by decide +kernel
theorem dX8_layAside_31 : decode prog_10_method_40_code 31 = .ok (.getfield 120, 3) := by decide +kernel
theorem dX8_layAside_34 : decode prog_10_method_40_code 34 = .ok (.iastore, 1) := by decide +kernel
theorem dX8_layAside_35 : decode prog_10_method_40_code 35 = .ok (.return_, 1) := by decide +kernel
theorem dX8_nights_0 : decode prog_10_method_43_code 0 = .ok (.aload_n 0, 1) := by decide +kernel
theorem dX8_nights_1 : decode prog_10_method_43_code 1 = .ok (.invokevirtual 292, 3) := by decide +kernel
theorem dX8_nights_4 : decode prog_10_method_43_code 4 = .ok (.iconst 0, 1) := by decide +kernel
theorem dX8_nights_5 : decode prog_10_method_43_code 5 = .ok (.istore_n 2, 1) := by decide +kernel
theorem dX8_nights_6 : decode prog_10_method_43_code 6 = .ok (.iload_n 2, 1) := by decide +kernel
theorem dX8_nights_7 : decode prog_10_method_43_code 7 = .ok (.aload_n 0, 1) := by decide +kernel
theorem dX8_nights_8 : decode prog_10_method_43_code 8 = .ok (.getfield 88, 3) := by decide +kernel
theorem dX8_nights_11 : decode prog_10_method_43_code 11 = .ok (.iload_n 1, 1) := by decide +kernel
theorem dX8_nights_12 : decode prog_10_method_43_code 12 = .ok (.iaload, 1) := by decide +kernel
theorem dX8_nights_13 : decode prog_10_method_43_code 13 = .ok (.if_icmp .ge 28, 3) := by decide +kernel
theorem dX8_nights_16 : decode prog_10_method_43_code 16 = .ok (.aload_n 0, 1) := by decide +kernel
theorem dX8_nights_17 : decode prog_10_method_43_code 17 = .ok (.iload_n 2, 1) := by decide +kernel
theorem dX8_nights_18 : decode prog_10_method_43_code 18 = .ok (.aload_n 0, 1) := by decide +kernel
theorem dX8_nights_19 : decode prog_10_method_43_code 19 = .ok (.getfield 91, 3) := by decide +kernel
theorem dX8_nights_22 : decode prog_10_method_43_code 22 = .ok (.bipush 40, 2) := by decide +kernel
theorem dX8_nights_24 : decode prog_10_method_43_code 24 = .ok (.iload_n 1, 1) := by decide +kernel
theorem dX8_nights_25 : decode prog_10_method_43_code 25 = .ok (.imul, 1) := by decide +kernel
theorem dX8_nights_26 : decode prog_10_method_43_code 26 = .ok (.iload_n 2, 1) := by decide +kernel
theorem dX8_nights_27 : decode prog_10_method_43_code 27 = .ok (.iadd, 1) := by decide +kernel
theorem dX8_nights_28 : decode prog_10_method_43_code 28 = .ok (.iaload, 1) := by decide +kernel
theorem dX8_nights_29 : decode prog_10_method_43_code 29 = .ok (.invokestatic 295, 3) := by decide +kernel
theorem dX8_nights_32 : decode prog_10_method_43_code 32 = .ok (.invokevirtual 298, 3) := by decide +kernel
theorem dX8_nights_35 : decode prog_10_method_43_code 35 = .ok (.iinc 2 1, 3) := by decide +kernel
theorem dX8_nights_38 : decode prog_10_method_43_code 38 = .ok (.goto (-32), 3) := by decide +kernel
theorem dX8_nights_41 : decode prog_10_method_43_code 41 = .ok (.return_, 1) := by decide +kernel
theorem dX8_begins_0 : decode prog_10_method_36_code 0 = .ok (.iconst 0, 1) := by decide +kernel
theorem dX8_begins_1 : decode prog_10_method_36_code 1 = .ok (.istore_n 1, 1) := by decide +kernel
theorem dX8_begins_2 : decode prog_10_method_36_code 2 = .ok (.iload_n 1, 1) := by decide +kernel
theorem dX8_begins_3 : decode prog_10_method_36_code 3 = .ok (.iconst 5, 1) := by decide +kernel
theorem dX8_begins_4 : decode prog_10_method_36_code 4 = .ok (.if_icmp .ge 44, 3) := by decide +kernel
theorem dX8_begins_7 : decode prog_10_method_36_code 7 = .ok (.aload_n 0, 1) := by decide +kernel
theorem dX8_begins_8 : decode prog_10_method_36_code 8 = .ok (.getfield 38, 3) := by decide +kernel
theorem dX8_begins_11 : decode prog_10_method_36_code 11 = .ok (.iload_n 1, 1) := by decide +kernel
theorem dX8_begins_12 : decode prog_10_method_36_code 12 = .ok (.iconst 0, 1) := by decide +kernel
theorem dX8_begins_13 : decode prog_10_method_36_code 13 = .ok (.iastore, 1) := by decide +kernel
theorem dX8_begins_14 : decode prog_10_method_36_code 14 = .ok (.aload_n 0, 1) := by decide +kernel
theorem dX8_begins_15 : decode prog_10_method_36_code 15 = .ok (.getfield 41, 3) := by decide +kernel
theorem dX8_begins_18 : decode prog_10_method_36_code 18 = .ok (.iload_n 1, 1) := by decide +kernel
theorem dX8_begins_19 : decode prog_10_method_36_code 19 = .ok (.iconst 0, 1) := by decide +kernel
theorem dX8_begins_20 : decode prog_10_method_36_code 20 = .ok (.iastore, 1) := by decide +kernel
theorem dX8_begins_21 : decode prog_10_method_36_code 21 = .ok (.aload_n 0, 1) := by decide +kernel
theorem dX8_begins_22 : decode prog_10_method_36_code 22 = .ok (.getfield 44, 3) := by decide +kernel
theorem dX8_begins_25 : decode prog_10_method_36_code 25 = .ok (.iload_n 1, 1) := by decide +kernel
theorem dX8_begins_26 : decode prog_10_method_36_code 26 = .ok (.iconst 0, 1) := by decide +kernel
theorem dX8_begins_27 : decode prog_10_method_36_code 27 = .ok (.iastore, 1) := by decide +kernel
theorem dX8_begins_28 : decode prog_10_method_36_code 28 = .ok (.aload_n 0, 1) := by decide +kernel
theorem dX8_begins_29 : decode prog_10_method_36_code 29 = .ok (.getfield 47, 3) := by decide +kernel
theorem dX8_begins_32 : decode prog_10_method_36_code 32 = .ok (.iload_n 1, 1) := by decide +kernel
theorem dX8_begins_33 : decode prog_10_method_36_code 33 = .ok (.iconst 0, 1) := by decide +kernel
theorem dX8_begins_34 : decode prog_10_method_36_code 34 = .ok (.iastore, 1) := by decide +kernel
theorem dX8_begins_35 : decode prog_10_method_36_code 35 = .ok (.aload_n 0, 1) := by decide +kernel
theorem dX8_begins_36 : decode prog_10_method_36_code 36 = .ok (.getfield 50, 3) := by decide +kernel
theorem dX8_begins_39 : decode prog_10_method_36_code 39 = .ok (.iload_n 1, 1) := by decide +kernel
theorem dX8_begins_40 : decode prog_10_method_36_code 40 = .ok (.iconst 0, 1) := by decide +kernel
theorem dX8_begins_41 : decode prog_10_method_36_code 41 = .ok (.iastore, 1) := by decide +kernel
theorem dX8_begins_42 : decode prog_10_method_36_code 42 = .ok (.iinc 1 1, 3) := by decide +kernel
theorem dX8_begins_45 : decode prog_10_method_36_code 45 = .ok (.goto (-43), 3) := by decide +kernel
theorem dX8_begins_48 : decode prog_10_method_36_code 48 = .ok (.aload_n 0, 1) := by decide +kernel
theorem dX8_begins_49 : decode prog_10_method_36_code 49 = .ok (.iconst 0, 1) := by decide +kernel
theorem dX8_begins_50 : decode prog_10_method_36_code 50 = .ok (.putfield 276, 3) := by decide +kernel
theorem dX8_begins_53 : decode prog_10_method_36_code 53 = .ok (.aload_n 0, 1) := by decide +kernel
theorem dX8_begins_54 : decode prog_10_method_36_code 54 = .ok (.iconst 0, 1) := by decide +kernel
theorem dX8_begins_55 : decode prog_10_method_36_code 55 = .ok (.putfield 279, 3) := by decide +kernel
theorem dX8_begins_58 : decode prog_10_method_36_code 58 = .ok (.return_, 1) := by decide +kernel
theorem dX8_windOf_0 : decode prog_10_method_42_code 0 = .ok (.iload_n 0, 1) := by decide +kernel
theorem dX8_windOf_1 : decode prog_10_method_42_code 1 = .ok (.ifCond .ge 7, 3) := by decide +kernel
theorem dX8_windOf_4 : decode prog_10_method_42_code 4 = .ok (.iconst (-1), 1) := by decide +kernel
theorem dX8_windOf_5 : decode prog_10_method_42_code 5 = .ok (.goto 12, 3) := by decide +kernel
theorem dX8_windOf_8 : decode prog_10_method_42_code 8 = .ok (.iload_n 0, 1) := by decide +kernel
theorem dX8_windOf_9 : decode prog_10_method_42_code 9 = .ok (.ifCond .le 7, 3) := by decide +kernel
theorem dX8_windOf_12 : decode prog_10_method_42_code 12 = .ok (.iconst 1, 1) := by decide +kernel
theorem dX8_windOf_13 : decode prog_10_method_42_code 13 = .ok (.goto 4, 3) := by decide +kernel
theorem dX8_windOf_16 : decode prog_10_method_42_code 16 = .ok (.iconst 0, 1) := by decide +kernel
theorem dX8_windOf_17 : decode prog_10_method_42_code 17 = .ok (.ireturn, 1) := by decide +kernel
theorem dX8_passes_0 : decode prog_10_method_39_code 0 = .ok (.aload_n 0, 1) := by decide +kernel
theorem dX8_passes_1 : decode prog_10_method_39_code 1 = .ok (.iload_n 2, 1) := by decide +kernel
theorem dX8_passes_2 : decode prog_10_method_39_code 2 = .ok (.invokevirtual 282, 3) := by decide +kernel
theorem dX8_passes_5 : decode prog_10_method_39_code 5 = .ok (.iconst 0, 1) := by decide +kernel
theorem dX8_passes_6 : decode prog_10_method_39_code 6 = .ok (.istore_n 3, 1) := by decide +kernel
theorem dX8_passes_7 : decode prog_10_method_39_code 7 = .ok (.iconst 0, 1) := by decide +kernel
theorem dX8_passes_8 : decode prog_10_method_39_code 8 = .ok (.istore 4, 2) := by decide +kernel
theorem dX8_passes_10 : decode prog_10_method_39_code 10 = .ok (.iload 4, 2) := by decide +kernel
theorem dX8_passes_12 : decode prog_10_method_39_code 12 = .ok (.aload_n 0, 1) := by decide +kernel
theorem dX8_passes_13 : decode prog_10_method_39_code 13 = .ok (.getfield 101, 3) := by decide +kernel
theorem dX8_passes_16 : decode prog_10_method_39_code 16 = .ok (.if_icmp .ge 190, 3) := by decide +kernel
theorem dX8_passes_19 : decode prog_10_method_39_code 19 = .ok (.aload_n 0, 1) := by decide +kernel
theorem dX8_passes_20 : decode prog_10_method_39_code 20 = .ok (.getfield 35, 3) := by decide +kernel
theorem dX8_passes_23 : decode prog_10_method_39_code 23 = .ok (.iload 4, 2) := by decide +kernel
theorem dX8_passes_25 : decode prog_10_method_39_code 25 = .ok (.iaload, 1) := by decide +kernel
theorem dX8_passes_26 : decode prog_10_method_39_code 26 = .ok (.aload_n 0, 1) := by decide +kernel
theorem dX8_passes_27 : decode prog_10_method_39_code 27 = .ok (.getfield 120, 3) := by decide +kernel
theorem dX8_passes_30 : decode prog_10_method_39_code 30 = .ok (.if_icmp .ne 24, 3) := by decide +kernel
theorem dX8_passes_33 : decode prog_10_method_39_code 33 = .ok (.aload_n 0, 1) := by decide +kernel
theorem dX8_passes_34 : decode prog_10_method_39_code 34 = .ok (.getfield 123, 3) := by decide +kernel
theorem dX8_passes_37 : decode prog_10_method_39_code 37 = .ok (.aload_n 0, 1) := by decide +kernel
theorem dX8_passes_38 : decode prog_10_method_39_code 38 = .ok (.getfield 35, 3) := by decide +kernel
theorem dX8_passes_41 : decode prog_10_method_39_code 41 = .ok (.iload 4, 2) := by decide +kernel
theorem dX8_passes_43 : decode prog_10_method_39_code 43 = .ok (.iaload, 1) := by decide +kernel
theorem dX8_passes_44 : decode prog_10_method_39_code 44 = .ok (.ishr, 1) := by decide +kernel
theorem dX8_passes_45 : decode prog_10_method_39_code 45 = .ok (.iconst 1, 1) := by decide +kernel
theorem dX8_passes_46 : decode prog_10_method_39_code 46 = .ok (.iand, 1) := by decide +kernel
theorem dX8_passes_47 : decode prog_10_method_39_code 47 = .ok (.ifCond .ne 7, 3) := by decide +kernel
theorem dX8_passes_50 : decode prog_10_method_39_code 50 = .ok (.iconst 1, 1) := by decide +kernel
theorem dX8_passes_51 : decode prog_10_method_39_code 51 = .ok (.goto 4, 3) := by decide +kernel
theorem dX8_passes_54 : decode prog_10_method_39_code 54 = .ok (.iconst 0, 1) := by decide +kernel
theorem dX8_passes_55 : decode prog_10_method_39_code 55 = .ok (.istore 5, 2) := by decide +kernel
theorem dX8_passes_57 : decode prog_10_method_39_code 57 = .ok (.aload_n 0, 1) := by decide +kernel
theorem dX8_passes_58 : decode prog_10_method_39_code 58 = .ok (.getfield 38, 3) := by decide +kernel
theorem dX8_passes_61 : decode prog_10_method_39_code 61 = .ok (.iload 4, 2) := by decide +kernel
theorem dX8_passes_63 : decode prog_10_method_39_code 63 = .ok (.iload 5, 2) := by decide +kernel
theorem dX8_passes_65 : decode prog_10_method_39_code 65 = .ok (.ifCond .eq 15, 3) := by decide +kernel
theorem dX8_passes_68 : decode prog_10_method_39_code 68 = .ok (.aload_n 0, 1) := by decide +kernel
theorem dX8_passes_69 : decode prog_10_method_39_code 69 = .ok (.getfield 38, 3) := by decide +kernel
theorem dX8_passes_72 : decode prog_10_method_39_code 72 = .ok (.iload 4, 2) := by decide +kernel
theorem dX8_passes_74 : decode prog_10_method_39_code 74 = .ok (.iaload, 1) := by decide +kernel
theorem dX8_passes_75 : decode prog_10_method_39_code 75 = .ok (.iconst 1, 1) := by decide +kernel
theorem dX8_passes_76 : decode prog_10_method_39_code 76 = .ok (.iadd, 1) := by decide +kernel
theorem dX8_passes_77 : decode prog_10_method_39_code 77 = .ok (.goto 4, 3) := by decide +kernel
theorem dX8_passes_80 : decode prog_10_method_39_code 80 = .ok (.iconst 0, 1) := by decide +kernel
theorem dX8_passes_81 : decode prog_10_method_39_code 81 = .ok (.iastore, 1) := by decide +kernel
theorem dX8_passes_82 : decode prog_10_method_39_code 82 = .ok (.aload_n 0, 1) := by decide +kernel
theorem dX8_passes_83 : decode prog_10_method_39_code 83 = .ok (.getfield 41, 3) := by decide +kernel
theorem dX8_passes_86 : decode prog_10_method_39_code 86 = .ok (.iload 4, 2) := by decide +kernel
theorem dX8_passes_88 : decode prog_10_method_39_code 88 = .ok (.dup2, 1) := by decide +kernel
theorem dX8_passes_89 : decode prog_10_method_39_code 89 = .ok (.iaload, 1) := by decide +kernel
theorem dX8_passes_90 : decode prog_10_method_39_code 90 = .ok (.iload 5, 2) := by decide +kernel
theorem dX8_passes_92 : decode prog_10_method_39_code 92 = .ok (.ifCond .eq 20, 3) := by decide +kernel
theorem dX8_passes_95 : decode prog_10_method_39_code 95 = .ok (.aload_n 0, 1) := by decide +kernel
theorem dX8_passes_96 : decode prog_10_method_39_code 96 = .ok (.iload 4, 2) := by decide +kernel
theorem dX8_passes_98 : decode prog_10_method_39_code 98 = .ok (.iload_n 1, 1) := by decide +kernel
theorem dX8_passes_99 : decode prog_10_method_39_code 99 = .ok (.aload_n 0, 1) := by decide +kernel
theorem dX8_passes_100 : decode prog_10_method_39_code 100 = .ok (.getfield 38, 3) := by decide +kernel
theorem dX8_passes_103 : decode prog_10_method_39_code 103 = .ok (.iload 4, 2) := by decide +kernel
theorem dX8_passes_105 : decode prog_10_method_39_code 105 = .ok (.iaload, 1) := by decide +kernel
theorem dX8_passes_106 : decode prog_10_method_39_code 106 = .ok (.invokevirtual 286, 3) := by decide +kernel
theorem dX8_passes_109 : decode prog_10_method_39_code 109 = .ok (.goto 12, 3) := by decide +kernel
theorem dX8_passes_112 : decode prog_10_method_39_code 112 = .ok (.aload_n 0, 1) := by decide +kernel
theorem dX8_passes_113 : decode prog_10_method_39_code 113 = .ok (.iconst 2, 1) := by decide +kernel
theorem dX8_passes_114 : decode prog_10_method_39_code 114 = .ok (.iload 4, 2) := by decide +kernel
theorem dX8_passes_116 : decode prog_10_method_39_code 116 = .ok (.iload_n 1, 1) := by decide +kernel
theorem dX8_passes_117 : decode prog_10_method_39_code 117 = .ok (.iconst 0, 1) := by decide +kernel
theorem dX8_passes_118 : decode prog_10_method_39_code 118 = .ok (.invokevirtual 272, 3) := by decide +kernel
theorem dX8_passes_121 : decode prog_10_method_39_code 121 = .ok (.iadd, 1) := by decide +kernel
theorem dX8_passes_122 : decode prog_10_method_39_code 122 = .ok (.iastore, 1) := by decide +kernel
theorem dX8_passes_123 : decode prog_10_method_39_code 123 = .ok (.aload_n 0, 1) := by decide +kernel
theorem dX8_passes_124 : decode prog_10_method_39_code 124 = .ok (.getfield 44, 3) := by decide +kernel
theorem dX8_passes_127 : decode prog_10_method_39_code 127 = .ok (.iload 4, 2) := by decide +kernel
theorem dX8_passes_129 : decode prog_10_method_39_code 129 = .ok (.dup2, 1) := by decide +kernel
theorem dX8_passes_130 : decode prog_10_method_39_code 130 = .ok (.iaload, 1) := by decide +kernel
theorem dX8_passes_131 : decode prog_10_method_39_code 131 = .ok (.iload 5, 2) := by decide +kernel
theorem dX8_passes_133 : decode prog_10_method_39_code 133 = .ok (.ifCond .eq 7, 3) := by decide +kernel
theorem dX8_passes_136 : decode prog_10_method_39_code 136 = .ok (.iconst 1, 1) := by decide +kernel
theorem dX8_passes_137 : decode prog_10_method_39_code 137 = .ok (.goto 4, 3) := by decide +kernel
theorem dX8_passes_140 : decode prog_10_method_39_code 140 = .ok (.iconst 0, 1) := by decide +kernel
theorem dX8_passes_141 : decode prog_10_method_39_code 141 = .ok (.iadd, 1) := by decide +kernel
theorem dX8_passes_142 : decode prog_10_method_39_code 142 = .ok (.iastore, 1) := by decide +kernel
theorem dX8_passes_143 : decode prog_10_method_39_code 143 = .ok (.aload_n 0, 1) := by decide +kernel
theorem dX8_passes_144 : decode prog_10_method_39_code 144 = .ok (.getfield 47, 3) := by decide +kernel
theorem dX8_passes_147 : decode prog_10_method_39_code 147 = .ok (.iload 4, 2) := by decide +kernel
theorem dX8_passes_149 : decode prog_10_method_39_code 149 = .ok (.aload_n 0, 1) := by decide +kernel
theorem dX8_passes_150 : decode prog_10_method_39_code 150 = .ok (.getfield 38, 3) := by decide +kernel
theorem dX8_passes_153 : decode prog_10_method_39_code 153 = .ok (.iload 4, 2) := by decide +kernel
theorem dX8_passes_155 : decode prog_10_method_39_code 155 = .ok (.iaload, 1) := by decide +kernel
theorem dX8_passes_156 : decode prog_10_method_39_code 156 = .ok (.aload_n 0, 1) := by decide +kernel
theorem dX8_passes_157 : decode prog_10_method_39_code 157 = .ok (.getfield 47, 3) := by decide +kernel
theorem dX8_passes_160 : decode prog_10_method_39_code 160 = .ok (.iload 4, 2) := by decide +kernel
theorem dX8_passes_162 : decode prog_10_method_39_code 162 = .ok (.iaload, 1) := by decide +kernel
theorem dX8_passes_163 : decode prog_10_method_39_code 163 = .ok (.if_icmp .le 13, 3) := by decide +kernel
theorem dX8_passes_166 : decode prog_10_method_39_code 166 = .ok (.aload_n 0, 1) := by decide +kernel
theorem dX8_passes_167 : decode prog_10_method_39_code 167 = .ok (.getfield 38, 3) := by decide +kernel
theorem dX8_passes_170 : decode prog_10_method_39_code 170 = .ok (.iload 4, 2) := by decide +kernel
theorem dX8_passes_172 : decode prog_10_method_39_code 172 = .ok (.iaload, 1) := by decide +kernel
theorem dX8_passes_173 : decode prog_10_method_39_code 173 = .ok (.goto 10, 3) := by decide +kernel
theorem dX8_passes_176 : decode prog_10_method_39_code 176 = .ok (.aload_n 0, 1) := by decide +kernel
theorem dX8_passes_177 : decode prog_10_method_39_code 177 = .ok (.getfield 47, 3) := by decide +kernel
theorem dX8_passes_180 : decode prog_10_method_39_code 180 = .ok (.iload 4, 2) := by decide +kernel
theorem dX8_passes_182 : decode prog_10_method_39_code 182 = .ok (.iaload, 1) := by decide +kernel
theorem dX8_passes_183 : decode prog_10_method_39_code 183 = .ok (.iastore, 1) := by decide +kernel
theorem dX8_passes_184 : decode prog_10_method_39_code 184 = .ok (.iload_n 3, 1) := by decide +kernel
theorem dX8_passes_185 : decode prog_10_method_39_code 185 = .ok (.iload 5, 2) := by decide +kernel
theorem dX8_passes_187 : decode prog_10_method_39_code 187 = .ok (.ifCond .eq 7, 3) := by decide +kernel
theorem dX8_passes_190 : decode prog_10_method_39_code 190 = .ok (.iconst 1, 1) := by decide +kernel
theorem dX8_passes_191 : decode prog_10_method_39_code 191 = .ok (.goto 4, 3) := by decide +kernel
theorem dX8_passes_194 : decode prog_10_method_39_code 194 = .ok (.iconst 0, 1) := by decide +kernel
theorem dX8_passes_195 : decode prog_10_method_39_code 195 = .ok (.iload 4, 2) := by decide +kernel
theorem dX8_passes_197 : decode prog_10_method_39_code 197 = .ok (.ishl, 1) := by decide +kernel
theorem dX8_passes_198 : decode prog_10_method_39_code 198 = .ok (.ior, 1) := by decide +kernel
theorem dX8_passes_199 : decode prog_10_method_39_code 199 = .ok (.istore_n 3, 1) := by decide +kernel
theorem dX8_passes_200 : decode prog_10_method_39_code 200 = .ok (.iinc 4 1, 3) := by decide +kernel
theorem dX8_passes_203 : decode prog_10_method_39_code 203 = .ok (.goto (-193), 3) := by decide +kernel
theorem dX8_passes_206 : decode prog_10_method_39_code 206 = .ok (.aload_n 0, 1) := by decide +kernel
theorem dX8_passes_207 : decode prog_10_method_39_code 207 = .ok (.iconst 0, 1) := by decide +kernel
theorem dX8_passes_208 : decode prog_10_method_39_code 208 = .ok (.putfield 276, 3) := by decide +kernel
theorem dX8_passes_211 : decode prog_10_method_39_code 211 = .ok (.iconst 0, 1) := by decide +kernel
theorem dX8_passes_212 : decode prog_10_method_39_code 212 = .ok (.istore 4, 2) := by decide +kernel
theorem dX8_passes_214 : decode prog_10_method_39_code 214 = .ok (.iload 4, 2) := by decide +kernel
theorem dX8_passes_216 : decode prog_10_method_39_code 216 = .ok (.aload_n 0, 1) := by decide +kernel
theorem dX8_passes_217 : decode prog_10_method_39_code 217 = .ok (.getfield 101, 3) := by decide +kernel
theorem dX8_passes_220 : decode prog_10_method_39_code 220 = .ok (.if_icmp .ge 133, 3) := by decide +kernel
theorem dX8_passes_223 : decode prog_10_method_39_code 223 = .ok (.iload_n 3, 1) := by decide +kernel
theorem dX8_passes_224 : decode prog_10_method_39_code 224 = .ok (.iload 4, 2) := by decide +kernel
theorem dX8_passes_226 : decode prog_10_method_39_code 226 = .ok (.ishr, 1) := by decide +kernel
theorem dX8_passes_227 : decode prog_10_method_39_code 227 = .ok (.iconst 1, 1) := by decide +kernel
theorem dX8_passes_228 : decode prog_10_method_39_code 228 = .ok (.iand, 1) := by decide +kernel
theorem dX8_passes_229 : decode prog_10_method_39_code 229 = .ok (.iconst 1, 1) := by decide +kernel
theorem dX8_passes_230 : decode prog_10_method_39_code 230 = .ok (.if_icmp .ne 117, 3) := by decide +kernel
theorem dX8_passes_233 : decode prog_10_method_39_code 233 = .ok (.aload_n 0, 1) := by decide +kernel
theorem dX8_passes_234 : decode prog_10_method_39_code 234 = .ok (.iload 4, 2) := by decide +kernel
theorem dX8_passes_236 : decode prog_10_method_39_code 236 = .ok (.aload_n 0, 1) := by decide +kernel
theorem dX8_passes_237 : decode prog_10_method_39_code 237 = .ok (.getfield 38, 3) := by decide +kernel
theorem dX8_passes_240 : decode prog_10_method_39_code 240 = .ok (.iload 4, 2) := by decide +kernel
theorem dX8_passes_242 : decode prog_10_method_39_code 242 = .ok (.iaload, 1) := by decide +kernel
theorem dX8_passes_243 : decode prog_10_method_39_code 243 = .ok (.invokevirtual 144, 3) := by decide +kernel
theorem dX8_passes_246 : decode prog_10_method_39_code 246 = .ok (.ifCond .eq 101, 3) := by decide +kernel
theorem dX8_passes_249 : decode prog_10_method_39_code 249 = .ok (.aload_n 0, 1) := by decide +kernel
theorem dX8_passes_250 : decode prog_10_method_39_code 250 = .ok (.getfield 41, 3) := by decide +kernel
theorem dX8_passes_253 : decode prog_10_method_39_code 253 = .ok (.iload 4, 2) := by decide +kernel
theorem dX8_passes_255 : decode prog_10_method_39_code 255 = .ok (.dup2, 1) := by decide +kernel
theorem dX8_passes_256 : decode prog_10_method_39_code 256 = .ok (.iaload, 1) := by decide +kernel
theorem dX8_passes_257 : decode prog_10_method_39_code 257 = .ok (.aload_n 0, 1) := by decide +kernel
theorem dX8_passes_258 : decode prog_10_method_39_code 258 = .ok (.iconst 1, 1) := by decide +kernel
theorem dX8_passes_259 : decode prog_10_method_39_code 259 = .ok (.iload 4, 2) := by decide +kernel
theorem dX8_passes_261 : decode prog_10_method_39_code 261 = .ok (.iload_n 1, 1) := by decide +kernel
theorem dX8_passes_262 : decode prog_10_method_39_code 262 = .ok (.aload_n 0, 1) := by decide +kernel
theorem dX8_passes_263 : decode prog_10_method_39_code 263 = .ok (.getfield 38, 3) := by decide +kernel
theorem dX8_passes_266 : decode prog_10_method_39_code 266 = .ok (.iload 4, 2) := by decide +kernel
theorem dX8_passes_268 : decode prog_10_method_39_code 268 = .ok (.iaload, 1) := by decide +kernel
theorem dX8_passes_269 : decode prog_10_method_39_code 269 = .ok (.invokevirtual 272, 3) := by decide +kernel
theorem dX8_passes_272 : decode prog_10_method_39_code 272 = .ok (.iadd, 1) := by decide +kernel
theorem dX8_passes_273 : decode prog_10_method_39_code 273 = .ok (.iastore, 1) := by decide +kernel
theorem dX8_passes_274 : decode prog_10_method_39_code 274 = .ok (.aload_n 0, 1) := by decide +kernel
theorem dX8_passes_275 : decode prog_10_method_39_code 275 = .ok (.getfield 53, 3) := by decide +kernel
theorem dX8_passes_278 : decode prog_10_method_39_code 278 = .ok (.iload 4, 2) := by decide +kernel
theorem dX8_passes_280 : decode prog_10_method_39_code 280 = .ok (.aload_n 0, 1) := by decide +kernel
theorem dX8_passes_281 : decode prog_10_method_39_code 281 = .ok (.getfield 35, 3) := by decide +kernel
theorem dX8_passes_284 : decode prog_10_method_39_code 284 = .ok (.iload 4, 2) := by decide +kernel
theorem dX8_passes_286 : decode prog_10_method_39_code 286 = .ok (.iaload, 1) := by decide +kernel
theorem dX8_passes_287 : decode prog_10_method_39_code 287 = .ok (.iastore, 1) := by decide +kernel
theorem dX8_passes_288 : decode prog_10_method_39_code 288 = .ok (.aload_n 0, 1) := by decide +kernel
theorem dX8_passes_289 : decode prog_10_method_39_code 289 = .ok (.getfield 35, 3) := by decide +kernel
theorem dX8_passes_292 : decode prog_10_method_39_code 292 = .ok (.iload 4, 2) := by decide +kernel
theorem dX8_passes_294 : decode prog_10_method_39_code 294 = .ok (.aload_n 0, 1) := by decide +kernel
theorem dX8_passes_295 : decode prog_10_method_39_code 295 = .ok (.aload_n 0, 1) := by decide +kernel
theorem dX8_passes_296 : decode prog_10_method_39_code 296 = .ok (.iload 4, 2) := by decide +kernel
theorem dX8_passes_298 : decode prog_10_method_39_code 298 = .ok (.aload_n 0, 1) := by decide +kernel
theorem dX8_passes_299 : decode prog_10_method_39_code 299 = .ok (.getfield 35, 3) := by decide +kernel
theorem dX8_passes_302 : decode prog_10_method_39_code 302 = .ok (.iload 4, 2) := by decide +kernel
theorem dX8_passes_304 : decode prog_10_method_39_code 304 = .ok (.iaload, 1) := by decide +kernel
theorem dX8_passes_305 : decode prog_10_method_39_code 305 = .ok (.iload_n 2, 1) := by decide +kernel
theorem dX8_passes_306 : decode prog_10_method_39_code 306 = .ok (.invokevirtual 140, 3) := by decide +kernel
theorem dX8_passes_309 : decode prog_10_method_39_code 309 = .ok (.iload 4, 2) := by decide +kernel
theorem dX8_passes_311 : decode prog_10_method_39_code 311 = .ok (.invokevirtual 289, 3) := by decide +kernel
theorem dX8_passes_314 : decode prog_10_method_39_code 314 = .ok (.iastore, 1) := by decide +kernel
theorem dX8_passes_315 : decode prog_10_method_39_code 315 = .ok (.aload_n 0, 1) := by decide +kernel
theorem dX8_passes_316 : decode prog_10_method_39_code 316 = .ok (.getfield 38, 3) := by decide +kernel
theorem dX8_passes_319 : decode prog_10_method_39_code 319 = .ok (.iload 4, 2) := by decide +kernel
theorem dX8_passes_321 : decode prog_10_method_39_code 321 = .ok (.iconst 0, 1) := by decide +kernel
theorem dX8_passes_322 : decode prog_10_method_39_code 322 = .ok (.iastore, 1) := by decide +kernel
theorem dX8_passes_323 : decode prog_10_method_39_code 323 = .ok (.aload_n 0, 1) := by decide +kernel
theorem dX8_passes_324 : decode prog_10_method_39_code 324 = .ok (.getfield 50, 3) := by decide +kernel
theorem dX8_passes_327 : decode prog_10_method_39_code 327 = .ok (.iload 4, 2) := by decide +kernel
theorem dX8_passes_329 : decode prog_10_method_39_code 329 = .ok (.dup2, 1) := by decide +kernel
theorem dX8_passes_330 : decode prog_10_method_39_code 330 = .ok (.iaload, 1) := by decide +kernel
theorem dX8_passes_331 : decode prog_10_method_39_code 331 = .ok (.iconst 1, 1) := by decide +kernel
theorem dX8_passes_332 : decode prog_10_method_39_code 332 = .ok (.iadd, 1) := by decide +kernel
theorem dX8_passes_333 : decode prog_10_method_39_code 333 = .ok (.iastore, 1) := by decide +kernel
theorem dX8_passes_334 : decode prog_10_method_39_code 334 = .ok (.aload_n 0, 1) := by decide +kernel
theorem dX8_passes_335 : decode prog_10_method_39_code 335 = .ok (.dup, 1) := by decide +kernel
theorem dX8_passes_336 : decode prog_10_method_39_code 336 = .ok (.getfield 276, 3) := by decide +kernel
theorem dX8_passes_339 : decode prog_10_method_39_code 339 = .ok (.iconst 1, 1) := by decide +kernel
theorem dX8_passes_340 : decode prog_10_method_39_code 340 = .ok (.iload 4, 2) := by decide +kernel
theorem dX8_passes_342 : decode prog_10_method_39_code 342 = .ok (.ishl, 1) := by decide +kernel
theorem dX8_passes_343 : decode prog_10_method_39_code 343 = .ok (.ior, 1) := by decide +kernel
theorem dX8_passes_344 : decode prog_10_method_39_code 344 = .ok (.putfield 276, 3) := by decide +kernel
theorem dX8_passes_347 : decode prog_10_method_39_code 347 = .ok (.iinc 4 1, 3) := by decide +kernel
theorem dX8_passes_350 : decode prog_10_method_39_code 350 = .ok (.goto (-136), 3) := by decide +kernel
theorem dX8_passes_353 : decode prog_10_method_39_code 353 = .ok (.return_, 1) := by decide +kernel
theorem dX8_turns_0 : decode prog_10_method_37_code 0 = .ok (.aload_n 0, 1) := by decide +kernel
theorem dX8_turns_1 : decode prog_10_method_37_code 1 = .ok (.aload_n 0, 1) := by decide +kernel
theorem dX8_turns_2 : decode prog_10_method_37_code 2 = .ok (.getfield 120, 3) := by decide +kernel
theorem dX8_turns_5 : decode prog_10_method_37_code 5 = .ok (.iload_n 1, 1) := by decide +kernel
theorem dX8_turns_6 : decode prog_10_method_37_code 6 = .ok (.iadd, 1) := by decide +kernel
theorem dX8_turns_7 : decode prog_10_method_37_code 7 = .ok (.invokestatic 136, 3) := by decide +kernel
theorem dX8_turns_10 : decode prog_10_method_37_code 10 = .ok (.putfield 120, 3) := by decide +kernel
theorem dX8_turns_13 : decode prog_10_method_37_code 13 = .ok (.aload_n 0, 1) := by decide +kernel
theorem dX8_turns_14 : decode prog_10_method_37_code 14 = .ok (.getfield 126, 3) := by decide +kernel
theorem dX8_turns_17 : decode prog_10_method_37_code 17 = .ok (.iconst 1, 1) := by decide +kernel
theorem dX8_turns_18 : decode prog_10_method_37_code 18 = .ok (.if_icmp .ne 74, 3) := by decide +kernel
theorem dX8_turns_21 : decode prog_10_method_37_code 21 = .ok (.aload_n 0, 1) := by decide +kernel
theorem dX8_turns_22 : decode prog_10_method_37_code 22 = .ok (.getfield 276, 3) := by decide +kernel
theorem dX8_turns_25 : decode prog_10_method_37_code 25 = .ok (.ifCond .eq 67, 3) := by decide +kernel
theorem dX8_turns_28 : decode prog_10_method_37_code 28 = .ok (.iconst 0, 1) := by decide +kernel
theorem dX8_turns_29 : decode prog_10_method_37_code 29 = .ok (.istore_n 2, 1) := by decide +kernel
theorem dX8_turns_30 : decode prog_10_method_37_code 30 = .ok (.aload_n 0, 1) := by decide +kernel
theorem dX8_turns_31 : decode prog_10_method_37_code 31 = .ok (.getfield 276, 3) := by decide +kernel
theorem dX8_turns_34 : decode prog_10_method_37_code 34 = .ok (.iload_n 2, 1) := by decide +kernel
theorem dX8_turns_35 : decode prog_10_method_37_code 35 = .ok (.ishr, 1) := by decide +kernel
theorem dX8_turns_36 : decode prog_10_method_37_code 36 = .ok (.iconst 1, 1) := by decide +kernel
theorem dX8_turns_37 : decode prog_10_method_37_code 37 = .ok (.iand, 1) := by decide +kernel
theorem dX8_turns_38 : decode prog_10_method_37_code 38 = .ok (.ifCond .ne 9, 3) := by decide +kernel
theorem dX8_turns_41 : decode prog_10_method_37_code 41 = .ok (.iinc 2 1, 3) := by decide +kernel
theorem dX8_turns_44 : decode prog_10_method_37_code 44 = .ok (.goto (-14), 3) := by decide +kernel
theorem dX8_turns_47 : decode prog_10_method_37_code 47 = .ok (.aload_n 0, 1) := by decide +kernel
theorem dX8_turns_48 : decode prog_10_method_37_code 48 = .ok (.getfield 35, 3) := by decide +kernel
theorem dX8_turns_51 : decode prog_10_method_37_code 51 = .ok (.iload_n 2, 1) := by decide +kernel
theorem dX8_turns_52 : decode prog_10_method_37_code 52 = .ok (.iaload, 1) := by decide +kernel
theorem dX8_turns_53 : decode prog_10_method_37_code 53 = .ok (.aload_n 0, 1) := by decide +kernel
theorem dX8_turns_54 : decode prog_10_method_37_code 54 = .ok (.getfield 120, 3) := by decide +kernel
theorem dX8_turns_57 : decode prog_10_method_37_code 57 = .ok (.isub, 1) := by decide +kernel
theorem dX8_turns_58 : decode prog_10_method_37_code 58 = .ok (.invokestatic 136, 3) := by decide +kernel
theorem dX8_turns_61 : decode prog_10_method_37_code 61 = .ok (.istore_n 3, 1) := by decide +kernel
theorem dX8_turns_62 : decode prog_10_method_37_code 62 = .ok (.aload_n 0, 1) := by decide +kernel
theorem dX8_turns_63 : decode prog_10_method_37_code 63 = .ok (.aload_n 0, 1) := by decide +kernel
theorem dX8_turns_64 : decode prog_10_method_37_code 64 = .ok (.getfield 120, 3) := by decide +kernel
theorem dX8_turns_67 : decode prog_10_method_37_code 67 = .ok (.iload_n 3, 1) := by decide +kernel
theorem dX8_turns_68 : decode prog_10_method_37_code 68 = .ok (.ifCond .ne 7, 3) := by decide +kernel
theorem dX8_turns_71 : decode prog_10_method_37_code 71 = .ok (.iconst 0, 1) := by decide +kernel
theorem dX8_turns_72 : decode prog_10_method_37_code 72 = .ok (.goto 13, 3) := by decide +kernel
theorem dX8_turns_75 : decode prog_10_method_37_code 75 = .ok (.iload_n 3, 1) := by decide +kernel
theorem dX8_turns_76 : decode prog_10_method_37_code 76 = .ok (.iconst 4, 1) := by decide +kernel
theorem dX8_turns_77 : decode prog_10_method_37_code 77 = .ok (.if_icmp .gt 7, 3) := by decide +kernel
theorem dX8_turns_80 : decode prog_10_method_37_code 80 = .ok (.iconst 1, 1) := by decide +kernel
theorem dX8_turns_81 : decode prog_10_method_37_code 81 = .ok (.goto 4, 3) := by decide +kernel
theorem dX8_turns_84 : decode prog_10_method_37_code 84 = .ok (.iconst (-1), 1) := by decide +kernel
theorem dX8_turns_85 : decode prog_10_method_37_code 85 = .ok (.iadd, 1) := by decide +kernel
theorem dX8_turns_86 : decode prog_10_method_37_code 86 = .ok (.invokestatic 136, 3) := by decide +kernel
theorem dX8_turns_89 : decode prog_10_method_37_code 89 = .ok (.putfield 120, 3) := by decide +kernel
theorem dX8_turns_92 : decode prog_10_method_37_code 92 = .ok (.iconst 0, 1) := by decide +kernel
theorem dX8_turns_93 : decode prog_10_method_37_code 93 = .ok (.istore_n 2, 1) := by decide +kernel
theorem dX8_turns_94 : decode prog_10_method_37_code 94 = .ok (.iload_n 2, 1) := by decide +kernel
theorem dX8_turns_95 : decode prog_10_method_37_code 95 = .ok (.aload_n 0, 1) := by decide +kernel
theorem dX8_turns_96 : decode prog_10_method_37_code 96 = .ok (.getfield 101, 3) := by decide +kernel
theorem dX8_turns_99 : decode prog_10_method_37_code 99 = .ok (.if_icmp .ge 48, 3) := by decide +kernel
theorem dX8_turns_102 : decode prog_10_method_37_code 102 = .ok (.aload_n 0, 1) := by decide +kernel
theorem dX8_turns_103 : decode prog_10_method_37_code 103 = .ok (.dup, 1) := by decide +kernel
theorem dX8_turns_104 : decode prog_10_method_37_code 104 = .ok (.getfield 279, 3) := by decide +kernel
theorem dX8_turns_107 : decode prog_10_method_37_code 107 = .ok (.aload_n 0, 1) := by decide +kernel
theorem dX8_turns_108 : decode prog_10_method_37_code 108 = .ok (.getfield 276, 3) := by decide +kernel
theorem dX8_turns_111 : decode prog_10_method_37_code 111 = .ok (.iload_n 2, 1) := by decide +kernel
theorem dX8_turns_112 : decode prog_10_method_37_code 112 = .ok (.ishr, 1) := by decide +kernel
theorem dX8_turns_113 : decode prog_10_method_37_code 113 = .ok (.iconst 1, 1) := by decide +kernel
theorem dX8_turns_114 : decode prog_10_method_37_code 114 = .ok (.iand, 1) := by decide +kernel
theorem dX8_turns_115 : decode prog_10_method_37_code 115 = .ok (.iconst 1, 1) := by decide +kernel
theorem dX8_turns_116 : decode prog_10_method_37_code 116 = .ok (.if_icmp .ne 20, 3) := by decide +kernel
theorem dX8_turns_119 : decode prog_10_method_37_code 119 = .ok (.aload_n 0, 1) := by decide +kernel
theorem dX8_turns_120 : decode prog_10_method_37_code 120 = .ok (.getfield 53, 3) := by decide +kernel
theorem dX8_turns_123 : decode prog_10_method_37_code 123 = .ok (.iload_n 2, 1) := by decide +kernel
theorem dX8_turns_124 : decode prog_10_method_37_code 124 = .ok (.iaload, 1) := by decide +kernel
theorem dX8_turns_125 : decode prog_10_method_37_code 125 = .ok (.aload_n 0, 1) := by decide +kernel
theorem dX8_turns_126 : decode prog_10_method_37_code 126 = .ok (.getfield 120, 3) := by decide +kernel
theorem dX8_turns_129 : decode prog_10_method_37_code 129 = .ok (.if_icmp .eq 7, 3) := by decide +kernel
theorem dX8_turns_132 : decode prog_10_method_37_code 132 = .ok (.iconst 1, 1) := by decide +kernel
theorem dX8_turns_133 : decode prog_10_method_37_code 133 = .ok (.goto 4, 3) := by decide +kernel
theorem dX8_turns_136 : decode prog_10_method_37_code 136 = .ok (.iconst 0, 1) := by decide +kernel
theorem dX8_turns_137 : decode prog_10_method_37_code 137 = .ok (.iadd, 1) := by decide +kernel
theorem dX8_turns_138 : decode prog_10_method_37_code 138 = .ok (.putfield 279, 3) := by decide +kernel
theorem dX8_turns_141 : decode prog_10_method_37_code 141 = .ok (.iinc 2 1, 3) := by decide +kernel
theorem dX8_turns_144 : decode prog_10_method_37_code 144 = .ok (.goto (-50), 3) := by decide +kernel
theorem dX8_turns_147 : decode prog_10_method_37_code 147 = .ok (.return_, 1) := by decide +kernel
theorem dX8_bearsOf_0 : decode prog_10_method_35_code 0 = .ok (.aload_n 0, 1) := by decide +kernel
theorem dX8_bearsOf_1 : decode prog_10_method_35_code 1 = .ok (.getfield 29, 3) := by decide +kernel
theorem dX8_bearsOf_4 : decode prog_10_method_35_code 4 = .ok (.iload_n 1, 1) := by decide +kernel
theorem dX8_bearsOf_5 : decode prog_10_method_35_code 5 = .ok (.iaload, 1) := by decide +kernel
theorem dX8_bearsOf_6 : decode prog_10_method_35_code 6 = .ok (.istore 4, 2) := by decide +kernel
theorem dX8_bearsOf_8 : decode prog_10_method_35_code 8 = .ok (.aload_n 0, 1) := by decide +kernel
theorem dX8_bearsOf_9 : decode prog_10_method_35_code 9 = .ok (.iconst 0, 1) := by decide +kernel
theorem dX8_bearsOf_10 : decode prog_10_method_35_code 10 = .ok (.iload_n 1, 1) := by decide +kernel
theorem dX8_bearsOf_11 : decode prog_10_method_35_code 11 = .ok (.iload_n 2, 1) := by decide +kernel
theorem dX8_bearsOf_12 : decode prog_10_method_35_code 12 = .ok (.iload_n 3, 1) := by decide +kernel
theorem dX8_bearsOf_13 : decode prog_10_method_35_code 13 = .ok (.invokevirtual 272, 3) := by decide +kernel
theorem dX8_bearsOf_16 : decode prog_10_method_35_code 16 = .ok (.istore 5, 2) := by decide +kernel
theorem dX8_bearsOf_18 : decode prog_10_method_35_code 18 = .ok (.iload 4, 2) := by decide +kernel
theorem dX8_bearsOf_20 : decode prog_10_method_35_code 20 = .ok (.iconst 1, 1) := by decide +kernel
theorem dX8_bearsOf_21 : decode prog_10_method_35_code 21 = .ok (.if_icmp .ne 10, 3) := by decide +kernel
theorem dX8_bearsOf_24 : decode prog_10_method_35_code 24 = .ok (.iconst 2, 1) := by decide +kernel
theorem dX8_bearsOf_25 : decode prog_10_method_35_code 25 = .ok (.iload 5, 2) := by decide +kernel
theorem dX8_bearsOf_27 : decode prog_10_method_35_code 27 = .ok (.imul, 1) := by decide +kernel
theorem dX8_bearsOf_28 : decode prog_10_method_35_code 28 = .ok (.goto 58, 3) := by decide +kernel
theorem dX8_bearsOf_31 : decode prog_10_method_35_code 31 = .ok (.iload 4, 2) := by decide +kernel
theorem dX8_bearsOf_33 : decode prog_10_method_35_code 33 = .ok (.iconst 2, 1) := by decide +kernel
theorem dX8_bearsOf_34 : decode prog_10_method_35_code 34 = .ok (.if_icmp .ne 10, 3) := by decide +kernel
theorem dX8_bearsOf_37 : decode prog_10_method_35_code 37 = .ok (.iload 5, 2) := by decide +kernel
theorem dX8_bearsOf_39 : decode prog_10_method_35_code 39 = .ok (.iload_n 3, 1) := by decide +kernel
theorem dX8_bearsOf_40 : decode prog_10_method_35_code 40 = .ok (.iadd, 1) := by decide +kernel
theorem dX8_bearsOf_41 : decode prog_10_method_35_code 41 = .ok (.goto 45, 3) := by decide +kernel
theorem dX8_bearsOf_44 : decode prog_10_method_35_code 44 = .ok (.iload 4, 2) := by decide +kernel
theorem dX8_bearsOf_46 : decode prog_10_method_35_code 46 = .ok (.iconst 3, 1) := by decide +kernel
theorem dX8_bearsOf_47 : decode prog_10_method_35_code 47 = .ok (.if_icmp .ne 12, 3) := by decide +kernel
theorem dX8_bearsOf_50 : decode prog_10_method_35_code 50 = .ok (.iconst 2, 1) := by decide +kernel
theorem dX8_bearsOf_51 : decode prog_10_method_35_code 51 = .ok (.iload 5, 2) := by decide +kernel
theorem dX8_bearsOf_53 : decode prog_10_method_35_code 53 = .ok (.imul, 1) := by decide +kernel
theorem dX8_bearsOf_54 : decode prog_10_method_35_code 54 = .ok (.iconst 1, 1) := by decide +kernel
theorem dX8_bearsOf_55 : decode prog_10_method_35_code 55 = .ok (.isub, 1) := by decide +kernel
theorem dX8_bearsOf_56 : decode prog_10_method_35_code 56 = .ok (.goto 30, 3) := by decide +kernel
theorem dX8_bearsOf_59 : decode prog_10_method_35_code 59 = .ok (.iload 4, 2) := by decide +kernel
theorem dX8_bearsOf_61 : decode prog_10_method_35_code 61 = .ok (.iconst 4, 1) := by decide +kernel
theorem dX8_bearsOf_62 : decode prog_10_method_35_code 62 = .ok (.if_icmp .ne 12, 3) := by decide +kernel
theorem dX8_bearsOf_65 : decode prog_10_method_35_code 65 = .ok (.iload 5, 2) := by decide +kernel
theorem dX8_bearsOf_67 : decode prog_10_method_35_code 67 = .ok (.iload_n 3, 1) := by decide +kernel
theorem dX8_bearsOf_68 : decode prog_10_method_35_code 68 = .ok (.iadd, 1) := by decide +kernel
theorem dX8_bearsOf_69 : decode prog_10_method_35_code 69 = .ok (.iconst 2, 1) := by decide +kernel
theorem dX8_bearsOf_70 : decode prog_10_method_35_code 70 = .ok (.idiv, 1) := by decide +kernel
theorem dX8_bearsOf_71 : decode prog_10_method_35_code 71 = .ok (.goto 15, 3) := by decide +kernel
theorem dX8_bearsOf_74 : decode prog_10_method_35_code 74 = .ok (.iload 4, 2) := by decide +kernel
theorem dX8_bearsOf_76 : decode prog_10_method_35_code 76 = .ok (.iconst 5, 1) := by decide +kernel
theorem dX8_bearsOf_77 : decode prog_10_method_35_code 77 = .ok (.if_icmp .ne 7, 3) := by decide +kernel
theorem dX8_bearsOf_80 : decode prog_10_method_35_code 80 = .ok (.iconst 0, 1) := by decide +kernel
theorem dX8_bearsOf_81 : decode prog_10_method_35_code 81 = .ok (.goto 5, 3) := by decide +kernel
theorem dX8_bearsOf_84 : decode prog_10_method_35_code 84 = .ok (.iload 5, 2) := by decide +kernel
theorem dX8_bearsOf_86 : decode prog_10_method_35_code 86 = .ok (.istore 6, 2) := by decide +kernel
theorem dX8_bearsOf_88 : decode prog_10_method_35_code 88 = .ok (.iload 6, 2) := by decide +kernel
theorem dX8_bearsOf_90 : decode prog_10_method_35_code 90 = .ok (.ifCond .ge 7, 3) := by decide +kernel
theorem dX8_bearsOf_93 : decode prog_10_method_35_code 93 = .ok (.iconst 0, 1) := by decide +kernel
theorem dX8_bearsOf_94 : decode prog_10_method_35_code 94 = .ok (.goto 5, 3) := by decide +kernel
theorem dX8_bearsOf_97 : decode prog_10_method_35_code 97 = .ok (.iload 6, 2) := by decide +kernel
theorem dX8_bearsOf_99 : decode prog_10_method_35_code 99 = .ok (.ireturn, 1) := by decide +kernel
theorem dX8_says_0 : decode prog_10_method_34_code 0 = .ok (.aload_n 0, 1) := by decide +kernel
theorem dX8_says_1 : decode prog_10_method_34_code 1 = .ok (.aload_n 0, 1) := by decide +kernel
theorem dX8_says_2 : decode prog_10_method_34_code 2 = .ok (.getfield 35, 3) := by decide +kernel
theorem dX8_says_5 : decode prog_10_method_34_code 5 = .ok (.iload_n 2, 1) := by decide +kernel
theorem dX8_says_6 : decode prog_10_method_34_code 6 = .ok (.iaload, 1) := by decide +kernel
theorem dX8_says_7 : decode prog_10_method_34_code 7 = .ok (.putfield 208, 3) := by decide +kernel
theorem dX8_says_10 : decode prog_10_method_34_code 10 = .ok (.aload_n 0, 1) := by decide +kernel
theorem dX8_says_11 : decode prog_10_method_34_code 11 = .ok (.aload_n 0, 1) := by decide +kernel
theorem dX8_says_12 : decode prog_10_method_34_code 12 = .ok (.getfield 120, 3) := by decide +kernel
theorem dX8_says_15 : decode prog_10_method_34_code 15 = .ok (.putfield 211, 3) := by decide +kernel
theorem dX8_says_18 : decode prog_10_method_34_code 18 = .ok (.aload_n 0, 1) := by decide +kernel
theorem dX8_says_19 : decode prog_10_method_34_code 19 = .ok (.iload_n 3, 1) := by decide +kernel
theorem dX8_says_20 : decode prog_10_method_34_code 20 = .ok (.putfield 214, 3) := by decide +kernel
theorem dX8_says_23 : decode prog_10_method_34_code 23 = .ok (.aload_n 0, 1) := by decide +kernel
theorem dX8_says_24 : decode prog_10_method_34_code 24 = .ok (.iload 4, 2) := by decide +kernel
theorem dX8_says_26 : decode prog_10_method_34_code 26 = .ok (.putfield 217, 3) := by decide +kernel
theorem dX8_says_29 : decode prog_10_method_34_code 29 = .ok (.aload_n 0, 1) := by decide +kernel
theorem dX8_says_30 : decode prog_10_method_34_code 30 = .ok (.aload_n 0, 1) := by decide +kernel
theorem dX8_says_31 : decode prog_10_method_34_code 31 = .ok (.getfield 32, 3) := by decide +kernel
theorem dX8_says_34 : decode prog_10_method_34_code 34 = .ok (.iload_n 2, 1) := by decide +kernel
theorem dX8_says_35 : decode prog_10_method_34_code 35 = .ok (.iaload, 1) := by decide +kernel
theorem dX8_says_36 : decode prog_10_method_34_code 36 = .ok (.putfield 220, 3) := by decide +kernel
theorem dX8_says_39 : decode prog_10_method_34_code 39 = .ok (.aload_n 0, 1) := by decide +kernel
theorem dX8_says_40 : decode prog_10_method_34_code 40 = .ok (.iload_n 2, 1) := by decide +kernel
theorem dX8_says_41 : decode prog_10_method_34_code 41 = .ok (.putfield 223, 3) := by decide +kernel
theorem dX8_says_44 : decode prog_10_method_34_code 44 = .ok (.aload_n 0, 1) := by decide +kernel
theorem dX8_says_45 : decode prog_10_method_34_code 45 = .ok (.aload_n 0, 1) := by decide +kernel
theorem dX8_says_46 : decode prog_10_method_34_code 46 = .ok (.getfield 266, 3) := by decide +kernel
theorem dX8_says_49 : decode prog_10_method_34_code 49 = .ok (.iload_n 1, 1) := by decide +kernel
theorem dX8_says_50 : decode prog_10_method_34_code 50 = .ok (.invokevirtual 263, 3) := by decide +kernel
theorem dX8_says_53 : decode prog_10_method_34_code 53 = .ok (.iconst 0, 1) := by decide +kernel
theorem dX8_says_54 : decode prog_10_method_34_code 54 = .ok (.bipush 99, 2) := by decide +kernel
theorem dX8_says_56 : decode prog_10_method_34_code 56 = .ok (.invokestatic 269, 3) := by decide +kernel
theorem dX8_says_59 : decode prog_10_method_34_code 59 = .ok (.ireturn, 1) := by decide +kernel
theorem dX8_within_0 : decode prog_10_method_3_code 0 = .ok (.iload_n 0, 1) := by decide +kernel
theorem dX8_within_1 : decode prog_10_method_3_code 1 = .ok (.iload_n 1, 1) := by decide +kernel
theorem dX8_within_2 : decode prog_10_method_3_code 2 = .ok (.if_icmp .ge 7, 3) := by decide +kernel
theorem dX8_within_5 : decode prog_10_method_3_code 5 = .ok (.iload_n 1, 1) := by decide +kernel
theorem dX8_within_6 : decode prog_10_method_3_code 6 = .ok (.goto 13, 3) := by decide +kernel
theorem dX8_within_9 : decode prog_10_method_3_code 9 = .ok (.iload_n 0, 1) := by decide +kernel
theorem dX8_within_10 : decode prog_10_method_3_code 10 = .ok (.iload_n 2, 1) := by decide +kernel
theorem dX8_within_11 : decode prog_10_method_3_code 11 = .ok (.if_icmp .le 7, 3) := by decide +kernel
theorem dX8_within_14 : decode prog_10_method_3_code 14 = .ok (.iload_n 2, 1) := by decide +kernel
theorem dX8_within_15 : decode prog_10_method_3_code 15 = .ok (.goto 4, 3) := by decide +kernel
theorem dX8_within_18 : decode prog_10_method_3_code 18 = .ok (.iload_n 0, 1) := by decide +kernel
theorem dX8_within_19 : decode prog_10_method_3_code 19 = .ok (.ireturn, 1) := by decide +kernel
theorem dX8_firstFree_0 : decode prog_10_method_38_code 0 = .ok (.iload_n 1, 1) := by decide +kernel
theorem dX8_firstFree_1 : decode prog_10_method_38_code 1 = .ok (.istore_n 3, 1) := by decide +kernel
theorem dX8_firstFree_2 : decode prog_10_method_38_code 2 = .ok (.aload_n 0, 1) := by decide +kernel
theorem dX8_firstFree_3 : decode prog_10_method_38_code 3 = .ok (.iload_n 3, 1) := by decide +kernel
theorem dX8_firstFree_4 : decode prog_10_method_38_code 4 = .ok (.iload_n 2, 1) := by decide +kernel
theorem dX8_firstFree_5 : decode prog_10_method_38_code 5 = .ok (.invokevirtual 116, 3) := by decide +kernel
theorem dX8_firstFree_8 : decode prog_10_method_38_code 8 = .ok (.iconst (-1), 1) := by decide +kernel
theorem dX8_firstFree_9 : decode prog_10_method_38_code 9 = .ok (.if_icmp .eq 13, 3) := by decide +kernel
theorem dX8_firstFree_12 : decode prog_10_method_38_code 12 = .ok (.iload_n 3, 1) := by decide +kernel
theorem dX8_firstFree_13 : decode prog_10_method_38_code 13 = .ok (.iconst 1, 1) := by decide +kernel
theorem dX8_firstFree_14 : decode prog_10_method_38_code 14 = .ok (.iadd, 1) := by decide +kernel
theorem dX8_firstFree_15 : decode prog_10_method_38_code 15 = .ok (.invokestatic 136, 3) := by decide +kernel
theorem dX8_firstFree_18 : decode prog_10_method_38_code 18 = .ok (.istore_n 3, 1) := by decide +kernel
theorem dX8_firstFree_19 : decode prog_10_method_38_code 19 = .ok (.goto (-17), 3) := by decide +kernel
theorem dX8_firstFree_22 : decode prog_10_method_38_code 22 = .ok (.iload_n 3, 1) := by decide +kernel
theorem dX8_firstFree_23 : decode prog_10_method_38_code 23 = .ok (.ireturn, 1) := by decide +kernel
theorem dX8_sumOf_0 : decode prog_10_method_44_code 0 = .ok (.iconst 0, 1) := by decide +kernel
theorem dX8_sumOf_1 : decode prog_10_method_44_code 1 = .ok (.istore_n 2, 1) := by decide +kernel
theorem dX8_sumOf_2 : decode prog_10_method_44_code 2 = .ok (.iconst 0, 1) := by decide +kernel
theorem dX8_sumOf_3 : decode prog_10_method_44_code 3 = .ok (.istore_n 3, 1) := by decide +kernel
theorem dX8_sumOf_4 : decode prog_10_method_44_code 4 = .ok (.iload_n 3, 1) := by decide +kernel
theorem dX8_sumOf_5 : decode prog_10_method_44_code 5 = .ok (.aload_n 0, 1) := by decide +kernel
theorem dX8_sumOf_6 : decode prog_10_method_44_code 6 = .ok (.getfield 101, 3) := by decide +kernel
theorem dX8_sumOf_9 : decode prog_10_method_44_code 9 = .ok (.if_icmp .ge 15, 3) := by decide +kernel
theorem dX8_sumOf_12 : decode prog_10_method_44_code 12 = .ok (.iload_n 2, 1) := by decide +kernel
theorem dX8_sumOf_13 : decode prog_10_method_44_code 13 = .ok (.aload_n 1, 1) := by decide +kernel
theorem dX8_sumOf_14 : decode prog_10_method_44_code 14 = .ok (.iload_n 3, 1) := by decide +kernel
theorem dX8_sumOf_15 : decode prog_10_method_44_code 15 = .ok (.iaload, 1) := by decide +kernel
theorem dX8_sumOf_16 : decode prog_10_method_44_code 16 = .ok (.iadd, 1) := by decide +kernel
theorem dX8_sumOf_17 : decode prog_10_method_44_code 17 = .ok (.istore_n 2, 1) := by decide +kernel
theorem dX8_sumOf_18 : decode prog_10_method_44_code 18 = .ok (.iinc 3 1, 3) := by decide +kernel
theorem dX8_sumOf_21 : decode prog_10_method_44_code 21 = .ok (.goto (-17), 3) := by decide +kernel
theorem dX8_sumOf_24 : decode prog_10_method_44_code 24 = .ok (.iload_n 2, 1) := by decide +kernel
theorem dX8_sumOf_25 : decode prog_10_method_44_code 25 = .ok (.ireturn, 1) := by decide +kernel
theorem dX8_takeBack_0 : decode prog_10_method_41_code 0 = .ok (.iconst 0, 1) := by decide +kernel
theorem dX8_takeBack_1 : decode prog_10_method_41_code 1 = .ok (.istore_n 1, 1) := by decide +kernel
theorem dX8_takeBack_2 : decode prog_10_method_41_code 2 = .ok (.iload_n 1, 1) := by decide +kernel
theorem dX8_takeBack_3 : decode prog_10_method_41_code 3 = .ok (.iconst 5, 1) := by decide +kernel
theorem dX8_takeBack_4 : decode prog_10_method_41_code 4 = .ok (.if_icmp .ge 21, 3) := by decide +kernel
theorem dX8_takeBack_7 : decode prog_10_method_41_code 7 = .ok (.aload_n 0, 1) := by decide +kernel
theorem dX8_takeBack_8 : decode prog_10_method_41_code 8 = .ok (.getfield 35, 3) := by decide +kernel
theorem dX8_takeBack_11 : decode prog_10_method_41_code 11 = .ok (.iload_n 1, 1) := by decide +kernel
theorem dX8_takeBack_12 : decode prog_10_method_41_code 12 = .ok (.aload_n 0, 1) := by decide +kernel
theorem dX8_takeBack_13 : decode prog_10_method_41_code 13 = .ok (.getfield 56, 3) := by decide +kernel
theorem dX8_takeBack_16 : decode prog_10_method_41_code 16 = .ok (.iload_n 1, 1) := by decide +kernel
theorem dX8_takeBack_17 : decode prog_10_method_41_code 17 = .ok (.iaload, 1) := by decide +kernel
theorem dX8_takeBack_18 : decode prog_10_method_41_code 18 = .ok (.iastore, 1) := by decide +kernel
theorem dX8_takeBack_19 : decode prog_10_method_41_code 19 = .ok (.iinc 1 1, 3) := by decide +kernel
theorem dX8_takeBack_22 : decode prog_10_method_41_code 22 = .ok (.goto (-20), 3) := by decide +kernel
theorem dX8_takeBack_25 : decode prog_10_method_41_code 25 = .ok (.aload_n 0, 1) := by decide +kernel
theorem dX8_takeBack_26 : decode prog_10_method_41_code 26 = .ok (.aload_n 0, 1) := by decide +kernel
theorem dX8_takeBack_27 : decode prog_10_method_41_code 27 = .ok (.getfield 56, 3) := by decide +kernel
theorem dX8_takeBack_30 : decode prog_10_method_41_code 30 = .ok (.iconst 5, 1) := by decide +kernel
theorem dX8_takeBack_31 : decode prog_10_method_41_code 31 = .ok (.iaload, 1) := by decide +kernel
theorem dX8_takeBack_32 : decode prog_10_method_41_code 32 = .ok (.putfield 120, 3) := by decide +kernel
theorem dX8_takeBack_35 : decode prog_10_method_41_code 35 = .ok (.return_, 1) := by decide +kernel
theorem dX8_sit_0 : decode prog_10_method_47_code 0 = .ok (.iload_n 1, 1) := by decide +kernel
theorem dX8_sit_1 : decode prog_10_method_47_code 1 = .ok (.invokestatic 315, 3) := by decide +kernel
theorem dX8_sit_4 : decode prog_10_method_47_code 4 = .ok (.ifCond .ne 6, 3) := by decide +kernel
theorem dX8_sit_7 : decode prog_10_method_47_code 7 = .ok (.bipush (-2), 2) := by decide +kernel
theorem dX8_sit_9 : decode prog_10_method_47_code 9 = .ok (.ireturn, 1) := by decide +kernel
theorem dX8_sit_10 : decode prog_10_method_47_code 10 = .ok (.aload_n 0, 1) := by decide +kernel
theorem dX8_sit_11 : decode prog_10_method_47_code 11 = .ok (.getfield 81, 3) := by decide +kernel
theorem dX8_sit_14 : decode prog_10_method_47_code 14 = .ok (.iload_n 1, 1) := by decide +kernel
theorem dX8_sit_15 : decode prog_10_method_47_code 15 = .ok (.baload, 1) := by decide +kernel
theorem dX8_sit_16 : decode prog_10_method_47_code 16 = .ok (.ifCond .ne 6, 3) := by decide +kernel
theorem dX8_sit_19 : decode prog_10_method_47_code 19 = .ok (.bipush (-11), 2) := by decide +kernel
theorem dX8_sit_21 : decode prog_10_method_47_code 21 = .ok (.ireturn, 1) := by decide +kernel
theorem dX8_sit_22 : decode prog_10_method_47_code 22 = .ok (.aload_n 0, 1) := by decide +kernel
theorem dX8_sit_23 : decode prog_10_method_47_code 23 = .ok (.iload_n 1, 1) := by decide +kernel
theorem dX8_sit_24 : decode prog_10_method_47_code 24 = .ok (.invokevirtual 305, 3) := by decide +kernel
theorem dX8_sit_27 : decode prog_10_method_47_code 27 = .ok (.aload_n 0, 1) := by decide +kernel
theorem dX8_sit_28 : decode prog_10_method_47_code 28 = .ok (.aload_n 0, 1) := by decide +kernel
theorem dX8_sit_29 : decode prog_10_method_47_code 29 = .ok (.getfield 41, 3) := by decide +kernel
theorem dX8_sit_32 : decode prog_10_method_47_code 32 = .ok (.invokevirtual 311, 3) := by decide +kernel
theorem dX8_sit_35 : decode prog_10_method_47_code 35 = .ok (.ireturn, 1) := by decide +kernel
theorem dX8_likely_0 : decode prog_10_method_50_code 0 = .ok (.iload_n 1, 1) := by decide +kernel
theorem dX8_likely_1 : decode prog_10_method_50_code 1 = .ok (.i2l, 1) := by decide +kernel
theorem dX8_likely_2 : decode prog_10_method_50_code 2 = .ok (.lconst 0, 1) := by decide +kernel
theorem dX8_likely_3 : decode prog_10_method_50_code 3 = .ok (.ldc2_w 327, 3) := by decide +kernel
theorem dX8_likely_6 : decode prog_10_method_50_code 6 = .ok (.invokestatic 104, 3) := by decide +kernel
theorem dX8_likely_9 : decode prog_10_method_50_code 9 = .ok (.ifCond .eq 20, 3) := by decide +kernel
theorem dX8_likely_12 : decode prog_10_method_50_code 12 = .ok (.iload_n 2, 1) := by decide +kernel
theorem dX8_likely_13 : decode prog_10_method_50_code 13 = .ok (.invokestatic 133, 3) := by decide +kernel
theorem dX8_likely_16 : decode prog_10_method_50_code 16 = .ok (.ifCond .eq 13, 3) := by decide +kernel
theorem dX8_likely_19 : decode prog_10_method_50_code 19 = .ok (.iload_n 3, 1) := by decide +kernel
theorem dX8_likely_20 : decode prog_10_method_50_code 20 = .ok (.i2l, 1) := by decide +kernel
theorem dX8_likely_21 : decode prog_10_method_50_code 21 = .ok (.lconst 0, 1) := by decide +kernel
theorem dX8_likely_22 : decode prog_10_method_50_code 22 = .ok (.lconst 1, 1) := by decide +kernel
theorem dX8_likely_23 : decode prog_10_method_50_code 23 = .ok (.invokestatic 104, 3) := by decide +kernel
theorem dX8_likely_26 : decode prog_10_method_50_code 26 = .ok (.ifCond .ne 7, 3) := by decide +kernel
theorem dX8_likely_29 : decode prog_10_method_50_code 29 = .ok (.ldc2_w 329, 3) := by decide +kernel
theorem dX8_likely_32 : decode prog_10_method_50_code 32 = .ok (.lreturn, 1) := by decide +kernel
theorem dX8_likely_33 : decode prog_10_method_50_code 33 = .ok (.aload_n 0, 1) := by decide +kernel
theorem dX8_likely_34 : decode prog_10_method_50_code 34 = .ok (.iload_n 1, 1) := by decide +kernel
theorem dX8_likely_35 : decode prog_10_method_50_code 35 = .ok (.invokevirtual 331, 3) := by decide +kernel
theorem dX8_likely_38 : decode prog_10_method_50_code 38 = .ok (.aload_n 0, 1) := by decide +kernel
theorem dX8_likely_39 : decode prog_10_method_50_code 39 = .ok (.getfield 59, 3) := by decide +kernel
theorem dX8_likely_42 : decode prog_10_method_50_code 42 = .ok (.iload_n 2, 1) := by decide +kernel
theorem dX8_likely_43 : decode prog_10_method_50_code 43 = .ok (.laload, 1) := by decide +kernel
theorem dX8_likely_44 : decode prog_10_method_50_code 44 = .ok (.aload_n 0, 1) := by decide +kernel
theorem dX8_likely_45 : decode prog_10_method_50_code 45 = .ok (.getfield 322, 3) := by decide +kernel
theorem dX8_likely_48 : decode prog_10_method_50_code 48 = .ok (.iload_n 3, 1) := by decide +kernel
theorem dX8_likely_49 : decode prog_10_method_50_code 49 = .ok (.invokestatic 334, 3) := by decide +kernel
theorem dX8_likely_52 : decode prog_10_method_50_code 52 = .ok (.lreturn, 1) := by decide +kernel
theorem dX8_spreads_0 : decode prog_10_method_48_code 0 = .ok (.aload_n 0, 1) := by decide +kernel
theorem dX8_spreads_1 : decode prog_10_method_48_code 1 = .ok (.lconst 1, 1) := by decide +kernel
theorem dX8_spreads_2 : decode prog_10_method_48_code 2 = .ok (.putfield 322, 3) := by decide +kernel
theorem dX8_spreads_5 : decode prog_10_method_48_code 5 = .ok (.iconst 0, 1) := by decide +kernel
theorem dX8_spreads_6 : decode prog_10_method_48_code 6 = .ok (.istore_n 2, 1) := by decide +kernel
theorem dX8_spreads_7 : decode prog_10_method_48_code 7 = .ok (.iload_n 2, 1) := by decide +kernel
theorem dX8_spreads_8 : decode prog_10_method_48_code 8 = .ok (.bipush 8, 2) := by decide +kernel
theorem dX8_spreads_10 : decode prog_10_method_48_code 10 = .ok (.if_icmp .ge 35, 3) := by decide +kernel
theorem dX8_spreads_13 : decode prog_10_method_48_code 13 = .ok (.aload_n 0, 1) := by decide +kernel
theorem dX8_spreads_14 : decode prog_10_method_48_code 14 = .ok (.getfield 59, 3) := by decide +kernel
theorem dX8_spreads_17 : decode prog_10_method_48_code 17 = .ok (.iload_n 2, 1) := by decide +kernel
theorem dX8_spreads_18 : decode prog_10_method_48_code 18 = .ok (.iload_n 2, 1) := by decide +kernel
theorem dX8_spreads_19 : decode prog_10_method_48_code 19 = .ok (.aload_n 0, 1) := by decide +kernel
theorem dX8_spreads_20 : decode prog_10_method_48_code 20 = .ok (.getfield 120, 3) := by decide +kernel
theorem dX8_spreads_23 : decode prog_10_method_48_code 23 = .ok (.if_icmp .ne 7, 3) := by decide +kernel
theorem dX8_spreads_26 : decode prog_10_method_48_code 26 = .ok (.lconst 1, 1) := by decide +kernel
theorem dX8_spreads_27 : decode prog_10_method_48_code 27 = .ok (.goto 4, 3) := by decide +kernel
theorem dX8_spreads_30 : decode prog_10_method_48_code 30 = .ok (.lconst 0, 1) := by decide +kernel
theorem dX8_spreads_31 : decode prog_10_method_48_code 31 = .ok (.lastore, 1) := by decide +kernel
theorem dX8_spreads_32 : decode prog_10_method_48_code 32 = .ok (.aload_n 0, 1) := by decide +kernel
theorem dX8_spreads_33 : decode prog_10_method_48_code 33 = .ok (.getfield 66, 3) := by decide +kernel
theorem dX8_spreads_36 : decode prog_10_method_48_code 36 = .ok (.iload_n 2, 1) := by decide +kernel
theorem dX8_spreads_37 : decode prog_10_method_48_code 37 = .ok (.lconst 0, 1) := by decide +kernel
theorem dX8_spreads_38 : decode prog_10_method_48_code 38 = .ok (.lastore, 1) := by decide +kernel
theorem dX8_spreads_39 : decode prog_10_method_48_code 39 = .ok (.iinc 2 1, 3) := by decide +kernel
theorem dX8_spreads_42 : decode prog_10_method_48_code 42 = .ok (.goto (-35), 3) := by decide +kernel
theorem dX8_spreads_45 : decode prog_10_method_48_code 45 = .ok (.iconst 0, 1) := by decide +kernel
theorem dX8_spreads_46 : decode prog_10_method_48_code 46 = .ok (.istore_n 2, 1) := by decide +kernel
theorem dX8_spreads_47 : decode prog_10_method_48_code 47 = .ok (.iload_n 2, 1) := by decide +kernel
theorem dX8_spreads_48 : decode prog_10_method_48_code 48 = .ok (.iload_n 1, 1) := by decide +kernel
theorem dX8_spreads_49 : decode prog_10_method_48_code 49 = .ok (.if_icmp .ge 146, 3) := by decide +kernel
theorem dX8_spreads_52 : decode prog_10_method_48_code 52 = .ok (.iconst 0, 1) := by decide +kernel
theorem dX8_spreads_53 : decode prog_10_method_48_code 53 = .ok (.istore_n 3, 1) := by decide +kernel
theorem dX8_spreads_54 : decode prog_10_method_48_code 54 = .ok (.iload_n 3, 1) := by decide +kernel
theorem dX8_spreads_55 : decode prog_10_method_48_code 55 = .ok (.bipush 8, 2) := by decide +kernel
theorem dX8_spreads_57 : decode prog_10_method_48_code 57 = .ok (.if_icmp .ge 71, 3) := by decide +kernel
theorem dX8_spreads_60 : decode prog_10_method_48_code 60 = .ok (.aload_n 0, 1) := by decide +kernel
theorem dX8_spreads_61 : decode prog_10_method_48_code 61 = .ok (.getfield 63, 3) := by decide +kernel
theorem dX8_spreads_64 : decode prog_10_method_48_code 64 = .ok (.iload_n 3, 1) := by decide +kernel
theorem dX8_spreads_65 : decode prog_10_method_48_code 65 = .ok (.aload_n 0, 1) := by decide +kernel
theorem dX8_spreads_66 : decode prog_10_method_48_code 66 = .ok (.getfield 59, 3) := by decide +kernel
theorem dX8_spreads_69 : decode prog_10_method_48_code 69 = .ok (.iload_n 3, 1) := by decide +kernel
theorem dX8_spreads_70 : decode prog_10_method_48_code 70 = .ok (.iconst 1, 1) := by decide +kernel
theorem dX8_spreads_71 : decode prog_10_method_48_code 71 = .ok (.iadd, 1) := by decide +kernel
theorem dX8_spreads_72 : decode prog_10_method_48_code 72 = .ok (.invokestatic 136, 3) := by decide +kernel
theorem dX8_spreads_75 : decode prog_10_method_48_code 75 = .ok (.laload, 1) := by decide +kernel
theorem dX8_spreads_76 : decode prog_10_method_48_code 76 = .ok (.aload_n 0, 1) := by decide +kernel
theorem dX8_spreads_77 : decode prog_10_method_48_code 77 = .ok (.getfield 23, 3) := by decide +kernel
theorem dX8_spreads_80 : decode prog_10_method_48_code 80 = .ok (.i2l, 1) := by decide +kernel
theorem dX8_spreads_81 : decode prog_10_method_48_code 81 = .ok (.lmul, 1) := by decide +kernel
theorem dX8_spreads_82 : decode prog_10_method_48_code 82 = .ok (.aload_n 0, 1) := by decide +kernel
theorem dX8_spreads_83 : decode prog_10_method_48_code 83 = .ok (.getfield 59, 3) := by decide +kernel
theorem dX8_spreads_86 : decode prog_10_method_48_code 86 = .ok (.iload_n 3, 1) := by decide +kernel
theorem dX8_spreads_87 : decode prog_10_method_48_code 87 = .ok (.iconst 1, 1) := by decide +kernel
theorem dX8_spreads_88 : decode prog_10_method_48_code 88 = .ok (.isub, 1) := by decide +kernel
theorem dX8_spreads_89 : decode prog_10_method_48_code 89 = .ok (.invokestatic 136, 3) := by decide +kernel
theorem dX8_spreads_92 : decode prog_10_method_48_code 92 = .ok (.laload, 1) := by decide +kernel
theorem dX8_spreads_93 : decode prog_10_method_48_code 93 = .ok (.aload_n 0, 1) := by decide +kernel
theorem dX8_spreads_94 : decode prog_10_method_48_code 94 = .ok (.getfield 26, 3) := by decide +kernel
theorem dX8_spreads_97 : decode prog_10_method_48_code 97 = .ok (.i2l, 1) := by decide +kernel
theorem dX8_spreads_98 : decode prog_10_method_48_code 98 = .ok (.lmul, 1) := by decide +kernel
theorem dX8_spreads_99 : decode prog_10_method_48_code 99 = .ok (.ladd, 1) := by decide +kernel
theorem dX8_spreads_100 : decode prog_10_method_48_code 100 = .ok (.aload_n 0, 1) := by decide +kernel
theorem dX8_spreads_101 : decode prog_10_method_48_code 101 = .ok (.getfield 59, 3) := by decide +kernel
theorem dX8_spreads_104 : decode prog_10_method_48_code 104 = .ok (.iload_n 3, 1) := by decide +kernel
theorem dX8_spreads_105 : decode prog_10_method_48_code 105 = .ok (.laload, 1) := by decide +kernel
theorem dX8_spreads_106 : decode prog_10_method_48_code 106 = .ok (.bipush 100, 2) := by decide +kernel
theorem dX8_spreads_108 : decode prog_10_method_48_code 108 = .ok (.aload_n 0, 1) := by decide +kernel
theorem dX8_spreads_109 : decode prog_10_method_48_code 109 = .ok (.getfield 23, 3) := by decide +kernel
theorem dX8_spreads_112 : decode prog_10_method_48_code 112 = .ok (.isub, 1) := by decide +kernel
theorem dX8_spreads_113 : decode prog_10_method_48_code 113 = .ok (.aload_n 0, 1) := by decide +kernel
theorem dX8_spreads_114 : decode prog_10_method_48_code 114 = .ok (.getfield 26, 3) := by decide +kernel
theorem dX8_spreads_117 : decode prog_10_method_48_code 117 = .ok (.isub, 1) := by decide +kernel
theorem dX8_spreads_118 : decode prog_10_method_48_code 118 = .ok (.i2l, 1) := by decide +kernel
theorem dX8_spreads_119 : decode prog_10_method_48_code 119 = .ok (.lmul, 1) := by decide +kernel
theorem dX8_spreads_120 : decode prog_10_method_48_code 120 = .ok (.ladd, 1) := by decide +kernel
theorem dX8_spreads_121 : decode prog_10_method_48_code 121 = .ok (.lastore, 1) := by decide +kernel
theorem dX8_spreads_122 : decode prog_10_method_48_code 122 = .ok (.iinc 3 1, 3) := by decide +kernel
theorem dX8_spreads_125 : decode prog_10_method_48_code 125 = .ok (.goto (-71), 3) := by decide +kernel
theorem dX8_spreads_128 : decode prog_10_method_48_code 128 = .ok (.iconst 0, 1) := by decide +kernel
theorem dX8_spreads_129 : decode prog_10_method_48_code 129 = .ok (.istore_n 3, 1) := by decide +kernel
theorem dX8_spreads_130 : decode prog_10_method_48_code 130 = .ok (.iload_n 3, 1) := by decide +kernel
theorem dX8_spreads_131 : decode prog_10_method_48_code 131 = .ok (.bipush 8, 2) := by decide +kernel
theorem dX8_spreads_133 : decode prog_10_method_48_code 133 = .ok (.if_icmp .ge 44, 3) := by decide +kernel
theorem dX8_spreads_136 : decode prog_10_method_48_code 136 = .ok (.aload_n 0, 1) := by decide +kernel
theorem dX8_spreads_137 : decode prog_10_method_48_code 137 = .ok (.getfield 59, 3) := by decide +kernel
theorem dX8_spreads_140 : decode prog_10_method_48_code 140 = .ok (.iload_n 3, 1) := by decide +kernel
theorem dX8_spreads_141 : decode prog_10_method_48_code 141 = .ok (.aload_n 0, 1) := by decide +kernel
theorem dX8_spreads_142 : decode prog_10_method_48_code 142 = .ok (.getfield 63, 3) := by decide +kernel
theorem dX8_spreads_145 : decode prog_10_method_48_code 145 = .ok (.iload_n 3, 1) := by decide +kernel
theorem dX8_spreads_146 : decode prog_10_method_48_code 146 = .ok (.laload, 1) := by decide +kernel
theorem dX8_spreads_147 : decode prog_10_method_48_code 147 = .ok (.lastore, 1) := by decide +kernel
theorem dX8_spreads_148 : decode prog_10_method_48_code 148 = .ok (.aload_n 0, 1) := by decide +kernel
theorem dX8_spreads_149 : decode prog_10_method_48_code 149 = .ok (.getfield 66, 3) := by decide +kernel
theorem dX8_spreads_152 : decode prog_10_method_48_code 152 = .ok (.iload_n 3, 1) := by decide +kernel
theorem dX8_spreads_153 : decode prog_10_method_48_code 153 = .ok (.aload_n 0, 1) := by decide +kernel
theorem dX8_spreads_154 : decode prog_10_method_48_code 154 = .ok (.getfield 66, 3) := by decide +kernel
theorem dX8_spreads_157 : decode prog_10_method_48_code 157 = .ok (.iload_n 3, 1) := by decide +kernel
theorem dX8_spreads_158 : decode prog_10_method_48_code 158 = .ok (.laload, 1) := by decide +kernel
theorem dX8_spreads_159 : decode prog_10_method_48_code 159 = .ok (.ldc2_w 325, 3) := by decide +kernel
theorem dX8_spreads_162 : decode prog_10_method_48_code 162 = .ok (.lmul, 1) := by decide +kernel
theorem dX8_spreads_163 : decode prog_10_method_48_code 163 = .ok (.aload_n 0, 1) := by decide +kernel
theorem dX8_spreads_164 : decode prog_10_method_48_code 164 = .ok (.getfield 63, 3) := by decide +kernel
theorem dX8_spreads_167 : decode prog_10_method_48_code 167 = .ok (.iload_n 3, 1) := by decide +kernel
theorem dX8_spreads_168 : decode prog_10_method_48_code 168 = .ok (.laload, 1) := by decide +kernel
theorem dX8_spreads_169 : decode prog_10_method_48_code 169 = .ok (.ladd, 1) := by decide +kernel
theorem dX8_spreads_170 : decode prog_10_method_48_code 170 = .ok (.lastore, 1) := by decide +kernel
theorem dX8_spreads_171 : decode prog_10_method_48_code 171 = .ok (.iinc 3 1, 3) := by decide +kernel
theorem dX8_spreads_174 : decode prog_10_method_48_code 174 = .ok (.goto (-44), 3) := by decide +kernel
theorem dX8_spreads_177 : decode prog_10_method_48_code 177 = .ok (.aload_n 0, 1) := by decide +kernel
theorem dX8_spreads_178 : decode prog_10_method_48_code 178 = .ok (.dup, 1) := by decide +kernel
theorem dX8_spreads_179 : decode prog_10_method_48_code 179 = .ok (.getfield 322, 3) := by decide +kernel
theorem dX8_spreads_182 : decode prog_10_method_48_code 182 = .ok (.ldc2_w 325, 3) := by decide +kernel
theorem dX8_spreads_185 : decode prog_10_method_48_code 185 = .ok (.lmul, 1) := by decide +kernel
theorem dX8_spreads_186 : decode prog_10_method_48_code 186 = .ok (.putfield 322, 3) := by decide +kernel
theorem dX8_spreads_189 : decode prog_10_method_48_code 189 = .ok (.iinc 2 1, 3) := by decide +kernel
theorem dX8_spreads_192 : decode prog_10_method_48_code 192 = .ok (.goto (-145), 3) := by decide +kernel
theorem dX8_spreads_195 : decode prog_10_method_48_code 195 = .ok (.return_, 1) := by decide +kernel
theorem dX8_lowest_0 : decode prog_10_method_49_code 0 = .ok (.lload_n 0, 1) := by decide +kernel
theorem dX8_lowest_1 : decode prog_10_method_49_code 1 = .ok (.lstore 5, 2) := by decide +kernel
theorem dX8_lowest_3 : decode prog_10_method_49_code 3 = .ok (.lload_n 2, 1) := by decide +kernel
theorem dX8_lowest_4 : decode prog_10_method_49_code 4 = .ok (.lstore 7, 2) := by decide +kernel
theorem dX8_lowest_6 : decode prog_10_method_49_code 6 = .ok (.lload 7, 2) := by decide +kernel
theorem dX8_lowest_8 : decode prog_10_method_49_code 8 = .ok (.lconst 0, 1) := by decide +kernel
theorem dX8_lowest_9 : decode prog_10_method_49_code 9 = .ok (.lcmp, 1) := by decide +kernel
theorem dX8_lowest_10 : decode prog_10_method_49_code 10 = .ok (.ifCond .eq 21, 3) := by decide +kernel
theorem dX8_lowest_13 : decode prog_10_method_49_code 13 = .ok (.lload 5, 2) := by decide +kernel
theorem dX8_lowest_15 : decode prog_10_method_49_code 15 = .ok (.lload 7, 2) := by decide +kernel
theorem dX8_lowest_17 : decode prog_10_method_49_code 17 = .ok (.lrem, 1) := by decide +kernel
theorem dX8_lowest_18 : decode prog_10_method_49_code 18 = .ok (.lstore 9, 2) := by decide +kernel
theorem dX8_lowest_20 : decode prog_10_method_49_code 20 = .ok (.lload 7, 2) := by decide +kernel
theorem dX8_lowest_22 : decode prog_10_method_49_code 22 = .ok (.lstore 5, 2) := by decide +kernel
theorem dX8_lowest_24 : decode prog_10_method_49_code 24 = .ok (.lload 9, 2) := by decide +kernel
theorem dX8_lowest_26 : decode prog_10_method_49_code 26 = .ok (.lstore 7, 2) := by decide +kernel
theorem dX8_lowest_28 : decode prog_10_method_49_code 28 = .ok (.goto (-22), 3) := by decide +kernel
theorem dX8_lowest_31 : decode prog_10_method_49_code 31 = .ok (.iload 4, 2) := by decide +kernel
theorem dX8_lowest_33 : decode prog_10_method_49_code 33 = .ok (.ifCond .ne 10, 3) := by decide +kernel
theorem dX8_lowest_36 : decode prog_10_method_49_code 36 = .ok (.lload_n 0, 1) := by decide +kernel
theorem dX8_lowest_37 : decode prog_10_method_49_code 37 = .ok (.lload 5, 2) := by decide +kernel
theorem dX8_lowest_39 : decode prog_10_method_49_code 39 = .ok (.ldiv, 1) := by decide +kernel
theorem dX8_lowest_40 : decode prog_10_method_49_code 40 = .ok (.goto 7, 3) := by decide +kernel
theorem dX8_lowest_43 : decode prog_10_method_49_code 43 = .ok (.lload_n 2, 1) := by decide +kernel
theorem dX8_lowest_44 : decode prog_10_method_49_code 44 = .ok (.lload 5, 2) := by decide +kernel
theorem dX8_lowest_46 : decode prog_10_method_49_code 46 = .ok (.ldiv, 1) := by decide +kernel
theorem dX8_lowest_47 : decode prog_10_method_49_code 47 = .ok (.lreturn, 1) := by decide +kernel
theorem dX8_mean_0 : decode prog_10_method_51_code 0 = .ok (.iload_n 1, 1) := by decide +kernel
theorem dX8_mean_1 : decode prog_10_method_51_code 1 = .ok (.i2l, 1) := by decide +kernel
theorem dX8_mean_2 : decode prog_10_method_51_code 2 = .ok (.lconst 1, 1) := by decide +kernel
theorem dX8_mean_3 : decode prog_10_method_51_code 3 = .ok (.ldc2_w 327, 3) := by decide +kernel
theorem dX8_mean_6 : decode prog_10_method_51_code 6 = .ok (.invokestatic 104, 3) := by decide +kernel
theorem dX8_mean_9 : decode prog_10_method_51_code 9 = .ok (.ifCond .eq 20, 3) := by decide +kernel
theorem dX8_mean_12 : decode prog_10_method_51_code 12 = .ok (.iload_n 2, 1) := by decide +kernel
theorem dX8_mean_13 : decode prog_10_method_51_code 13 = .ok (.invokestatic 133, 3) := by decide +kernel
theorem dX8_mean_16 : decode prog_10_method_51_code 16 = .ok (.ifCond .eq 13, 3) := by decide +kernel
theorem dX8_mean_19 : decode prog_10_method_51_code 19 = .ok (.iload_n 3, 1) := by decide +kernel
theorem dX8_mean_20 : decode prog_10_method_51_code 20 = .ok (.i2l, 1) := by decide +kernel
theorem dX8_mean_21 : decode prog_10_method_51_code 21 = .ok (.lconst 0, 1) := by decide +kernel
theorem dX8_mean_22 : decode prog_10_method_51_code 22 = .ok (.lconst 1, 1) := by decide +kernel
theorem dX8_mean_23 : decode prog_10_method_51_code 23 = .ok (.invokestatic 104, 3) := by decide +kernel
theorem dX8_mean_26 : decode prog_10_method_51_code 26 = .ok (.ifCond .ne 7, 3) := by decide +kernel
theorem dX8_mean_29 : decode prog_10_method_51_code 29 = .ok (.ldc2_w 329, 3) := by decide +kernel
theorem dX8_mean_32 : decode prog_10_method_51_code 32 = .ok (.lreturn, 1) := by decide +kernel
theorem dX8_mean_33 : decode prog_10_method_51_code 33 = .ok (.aload_n 0, 1) := by decide +kernel
theorem dX8_mean_34 : decode prog_10_method_51_code 34 = .ok (.iload_n 1, 1) := by decide +kernel
theorem dX8_mean_35 : decode prog_10_method_51_code 35 = .ok (.invokevirtual 331, 3) := by decide +kernel
theorem dX8_mean_38 : decode prog_10_method_51_code 38 = .ok (.aload_n 0, 1) := by decide +kernel
theorem dX8_mean_39 : decode prog_10_method_51_code 39 = .ok (.getfield 66, 3) := by decide +kernel
theorem dX8_mean_42 : decode prog_10_method_51_code 42 = .ok (.iload_n 2, 1) := by decide +kernel
theorem dX8_mean_43 : decode prog_10_method_51_code 43 = .ok (.laload, 1) := by decide +kernel
theorem dX8_mean_44 : decode prog_10_method_51_code 44 = .ok (.aload_n 0, 1) := by decide +kernel
theorem dX8_mean_45 : decode prog_10_method_51_code 45 = .ok (.getfield 322, 3) := by decide +kernel
theorem dX8_mean_48 : decode prog_10_method_51_code 48 = .ok (.iload_n 3, 1) := by decide +kernel
theorem dX8_mean_49 : decode prog_10_method_51_code 49 = .ok (.invokestatic 334, 3) := by decide +kernel
theorem dX8_mean_52 : decode prog_10_method_51_code 52 = .ok (.lreturn, 1) := by decide +kernel
theorem dX8_seat_0 : decode prog_10_method_52_code 0 = .ok (.aload_n 0, 1) := by decide +kernel
theorem dX8_seat_1 : decode prog_10_method_52_code 1 = .ok (.iload_n 1, 1) := by decide +kernel
theorem dX8_seat_2 : decode prog_10_method_52_code 2 = .ok (.invokevirtual 112, 3) := by decide +kernel
theorem dX8_seat_5 : decode prog_10_method_52_code 5 = .ok (.ifCond .eq 15, 3) := by decide +kernel
theorem dX8_seat_8 : decode prog_10_method_52_code 8 = .ok (.iload_n 2, 1) := by decide +kernel
theorem dX8_seat_9 : decode prog_10_method_52_code 9 = .ok (.i2l, 1) := by decide +kernel
theorem dX8_seat_10 : decode prog_10_method_52_code 10 = .ok (.lconst 1, 1) := by decide +kernel
theorem dX8_seat_11 : decode prog_10_method_52_code 11 = .ok (.ldc2_w 327, 3) := by decide +kernel
theorem dX8_seat_14 : decode prog_10_method_52_code 14 = .ok (.invokestatic 104, 3) := by decide +kernel
theorem dX8_seat_17 : decode prog_10_method_52_code 17 = .ok (.ifCond .ne 6, 3) := by decide +kernel
theorem dX8_seat_20 : decode prog_10_method_52_code 20 = .ok (.bipush (-2), 2) := by decide +kernel
theorem dX8_seat_22 : decode prog_10_method_52_code 22 = .ok (.ireturn, 1) := by decide +kernel
theorem dX8_seat_23 : decode prog_10_method_52_code 23 = .ok (.aload_n 0, 1) := by decide +kernel
theorem dX8_seat_24 : decode prog_10_method_52_code 24 = .ok (.iload_n 2, 1) := by decide +kernel
theorem dX8_seat_25 : decode prog_10_method_52_code 25 = .ok (.invokevirtual 331, 3) := by decide +kernel
theorem dX8_seat_28 : decode prog_10_method_52_code 28 = .ok (.iconst (-1), 1) := by decide +kernel
theorem dX8_seat_29 : decode prog_10_method_52_code 29 = .ok (.istore_n 3, 1) := by decide +kernel
theorem dX8_seat_30 : decode prog_10_method_52_code 30 = .ok (.iconst 0, 1) := by decide +kernel
theorem dX8_seat_31 : decode prog_10_method_52_code 31 = .ok (.istore 4, 2) := by decide +kernel
theorem dX8_seat_33 : decode prog_10_method_52_code 33 = .ok (.iload 4, 2) := by decide +kernel
theorem dX8_seat_35 : decode prog_10_method_52_code 35 = .ok (.bipush 8, 2) := by decide +kernel
theorem dX8_seat_37 : decode prog_10_method_52_code 37 = .ok (.if_icmp .ge 73, 3) := by decide +kernel
theorem dX8_seat_40 : decode prog_10_method_52_code 40 = .ok (.aload_n 0, 1) := by decide +kernel
theorem dX8_seat_41 : decode prog_10_method_52_code 41 = .ok (.iload 4, 2) := by decide +kernel
theorem dX8_seat_43 : decode prog_10_method_52_code 43 = .ok (.iload_n 1, 1) := by decide +kernel
theorem dX8_seat_44 : decode prog_10_method_52_code 44 = .ok (.invokevirtual 116, 3) := by decide +kernel
theorem dX8_seat_47 : decode prog_10_method_52_code 47 = .ok (.iconst (-1), 1) := by decide +kernel
theorem dX8_seat_48 : decode prog_10_method_52_code 48 = .ok (.if_icmp .ne 19, 3) := by decide +kernel
theorem dX8_seat_51 : decode prog_10_method_52_code 51 = .ok (.aload_n 0, 1) := by decide +kernel
theorem dX8_seat_52 : decode prog_10_method_52_code 52 = .ok (.getfield 123, 3) := by decide +kernel
theorem dX8_seat_55 : decode prog_10_method_52_code 55 = .ok (.iload 4, 2) := by decide +kernel
theorem dX8_seat_57 : decode prog_10_method_52_code 57 = .ok (.ishr, 1) := by decide +kernel
theorem dX8_seat_58 : decode prog_10_method_52_code 58 = .ok (.iconst 1, 1) := by decide +kernel
theorem dX8_seat_59 : decode prog_10_method_52_code 59 = .ok (.iand, 1) := by decide +kernel
theorem dX8_seat_60 : decode prog_10_method_52_code 60 = .ok (.ifCond .ne 7, 3) := by decide +kernel
theorem dX8_seat_63 : decode prog_10_method_52_code 63 = .ok (.iconst 1, 1) := by decide +kernel
theorem dX8_seat_64 : decode prog_10_method_52_code 64 = .ok (.goto 4, 3) := by decide +kernel
theorem dX8_seat_67 : decode prog_10_method_52_code 67 = .ok (.iconst 0, 1) := by decide +kernel
theorem dX8_seat_68 : decode prog_10_method_52_code 68 = .ok (.istore 5, 2) := by decide +kernel
theorem dX8_seat_70 : decode prog_10_method_52_code 70 = .ok (.iload 5, 2) := by decide +kernel
theorem dX8_seat_72 : decode prog_10_method_52_code 72 = .ok (.ifCond .eq 30, 3) := by decide +kernel
theorem dX8_seat_75 : decode prog_10_method_52_code 75 = .ok (.iload_n 3, 1) := by decide +kernel
theorem dX8_seat_76 : decode prog_10_method_52_code 76 = .ok (.iconst (-1), 1) := by decide +kernel
theorem dX8_seat_77 : decode prog_10_method_52_code 77 = .ok (.if_icmp .eq 20, 3) := by decide +kernel
theorem dX8_seat_80 : decode prog_10_method_52_code 80 = .ok (.aload_n 0, 1) := by decide +kernel
theorem dX8_seat_81 : decode prog_10_method_52_code 81 = .ok (.getfield 66, 3) := by decide +kernel
theorem dX8_seat_84 : decode prog_10_method_52_code 84 = .ok (.iload 4, 2) := by decide +kernel
theorem dX8_seat_86 : decode prog_10_method_52_code 86 = .ok (.laload, 1) := by decide +kernel
theorem dX8_seat_87 : decode prog_10_method_52_code 87 = .ok (.aload_n 0, 1) := by decide +kernel
theorem dX8_seat_88 : decode prog_10_method_52_code 88 = .ok (.getfield 66, 3) := by decide +kernel
theorem dX8_seat_91 : decode prog_10_method_52_code 91 = .ok (.iload_n 3, 1) := by decide +kernel
theorem dX8_seat_92 : decode prog_10_method_52_code 92 = .ok (.laload, 1) := by decide +kernel
theorem dX8_seat_93 : decode prog_10_method_52_code 93 = .ok (.lcmp, 1) := by decide +kernel
theorem dX8_seat_94 : decode prog_10_method_52_code 94 = .ok (.ifCond .ge 8, 3) := by decide +kernel
theorem dX8_seat_97 : decode prog_10_method_52_code 97 = .ok (.iload 4, 2) := by decide +kernel
theorem dX8_seat_99 : decode prog_10_method_52_code 99 = .ok (.goto 4, 3) := by decide +kernel
theorem dX8_seat_102 : decode prog_10_method_52_code 102 = .ok (.iload_n 3, 1) := by decide +kernel
theorem dX8_seat_103 : decode prog_10_method_52_code 103 = .ok (.istore_n 3, 1) := by decide +kernel
theorem dX8_seat_104 : decode prog_10_method_52_code 104 = .ok (.iinc 4 1, 3) := by decide +kernel
theorem dX8_seat_107 : decode prog_10_method_52_code 107 = .ok (.goto (-74), 3) := by decide +kernel
theorem dX8_seat_110 : decode prog_10_method_52_code 110 = .ok (.iload_n 3, 1) := by decide +kernel
theorem dX8_seat_111 : decode prog_10_method_52_code 111 = .ok (.ireturn, 1) := by decide +kernel
theorem dX8_gap_0 : decode prog_10_method_54_code 0 = .ok (.iload_n 1, 1) := by decide +kernel
theorem dX8_gap_1 : decode prog_10_method_54_code 1 = .ok (.i2l, 1) := by decide +kernel
theorem dX8_gap_2 : decode prog_10_method_54_code 2 = .ok (.lconst 1, 1) := by decide +kernel
theorem dX8_gap_3 : decode prog_10_method_54_code 3 = .ok (.ldc2_w 327, 3) := by decide +kernel
theorem dX8_gap_6 : decode prog_10_method_54_code 6 = .ok (.invokestatic 104, 3) := by decide +kernel
theorem dX8_gap_9 : decode prog_10_method_54_code 9 = .ok (.ifCond .eq 11, 3) := by decide +kernel
theorem dX8_gap_12 : decode prog_10_method_54_code 12 = .ok (.aload_n 0, 1) := by decide +kernel
theorem dX8_gap_13 : decode prog_10_method_54_code 13 = .ok (.iload_n 2, 1) := by decide +kernel
theorem dX8_gap_14 : decode prog_10_method_54_code 14 = .ok (.invokevirtual 112, 3) := by decide +kernel
theorem dX8_gap_17 : decode prog_10_method_54_code 17 = .ok (.ifCond .ne 6, 3) := by decide +kernel
theorem dX8_gap_20 : decode prog_10_method_54_code 20 = .ok (.bipush (-2), 2) := by decide +kernel
theorem dX8_gap_22 : decode prog_10_method_54_code 22 = .ok (.ireturn, 1) := by decide +kernel
theorem dX8_gap_23 : decode prog_10_method_54_code 23 = .ok (.aload_n 0, 1) := by decide +kernel
theorem dX8_gap_24 : decode prog_10_method_54_code 24 = .ok (.iload_n 1, 1) := by decide +kernel
theorem dX8_gap_25 : decode prog_10_method_54_code 25 = .ok (.invokevirtual 331, 3) := by decide +kernel
theorem dX8_gap_28 : decode prog_10_method_54_code 28 = .ok (.aload_n 0, 1) := by decide +kernel
theorem dX8_gap_29 : decode prog_10_method_54_code 29 = .ok (.iconst 0, 1) := by decide +kernel
theorem dX8_gap_30 : decode prog_10_method_54_code 30 = .ok (.putfield 338, 3) := by decide +kernel
theorem dX8_gap_33 : decode prog_10_method_54_code 33 = .ok (.aload_n 0, 1) := by decide +kernel
theorem dX8_gap_34 : decode prog_10_method_54_code 34 = .ok (.iconst 0, 1) := by decide +kernel
theorem dX8_gap_35 : decode prog_10_method_54_code 35 = .ok (.iconst 0, 1) := by decide +kernel
theorem dX8_gap_36 : decode prog_10_method_54_code 36 = .ok (.lconst 0, 1) := by decide +kernel
theorem dX8_gap_37 : decode prog_10_method_54_code 37 = .ok (.invokevirtual 344, 3) := by decide +kernel
theorem dX8_gap_40 : decode prog_10_method_54_code 40 = .ok (.aload_n 0, 1) := by decide +kernel
theorem dX8_gap_41 : decode prog_10_method_54_code 41 = .ok (.getfield 72, 3) := by decide +kernel
theorem dX8_gap_44 : decode prog_10_method_54_code 44 = .ok (.iload_n 2, 1) := by decide +kernel
theorem dX8_gap_45 : decode prog_10_method_54_code 45 = .ok (.iaload, 1) := by decide +kernel
theorem dX8_gap_46 : decode prog_10_method_54_code 46 = .ok (.ireturn, 1) := by decide +kernel
theorem dX8_seatsFrom_0 : decode prog_10_method_53_code 0 = .ok (.iload_n 1, 1) := by decide +kernel
theorem dX8_seatsFrom_1 : decode prog_10_method_53_code 1 = .ok (.aload_n 0, 1) := by decide +kernel
theorem dX8_seatsFrom_2 : decode prog_10_method_53_code 2 = .ok (.getfield 101, 3) := by decide +kernel
theorem dX8_seatsFrom_5 : decode prog_10_method_53_code 5 = .ok (.if_icmp .ne 62, 3) := by decide +kernel
theorem dX8_seatsFrom_8 : decode prog_10_method_53_code 8 = .ok (.aload_n 0, 1) := by decide +kernel
theorem dX8_seatsFrom_9 : decode prog_10_method_53_code 9 = .ok (.getfield 338, 3) := by decide +kernel
theorem dX8_seatsFrom_12 : decode prog_10_method_53_code 12 = .ok (.ifCond .eq 12, 3) := by decide +kernel
theorem dX8_seatsFrom_15 : decode prog_10_method_53_code 15 = .ok (.lload_n 3, 1) := by decide +kernel
theorem dX8_seatsFrom_16 : decode prog_10_method_53_code 16 = .ok (.aload_n 0, 1) := by decide +kernel
theorem dX8_seatsFrom_17 : decode prog_10_method_53_code 17 = .ok (.getfield 341, 3) := by decide +kernel
theorem dX8_seatsFrom_20 : decode prog_10_method_53_code 20 = .ok (.lcmp, 1) := by decide +kernel
theorem dX8_seatsFrom_21 : decode prog_10_method_53_code 21 = .ok (.ifCond .ge 45, 3) := by decide +kernel
theorem dX8_seatsFrom_24 : decode prog_10_method_53_code 24 = .ok (.aload_n 0, 1) := by decide +kernel
theorem dX8_seatsFrom_25 : decode prog_10_method_53_code 25 = .ok (.iconst 1, 1) := by decide +kernel
theorem dX8_seatsFrom_26 : decode prog_10_method_53_code 26 = .ok (.putfield 338, 3) := by decide +kernel
theorem dX8_seatsFrom_29 : decode prog_10_method_53_code 29 = .ok (.aload_n 0, 1) := by decide +kernel
theorem dX8_seatsFrom_30 : decode prog_10_method_53_code 30 = .ok (.lload_n 3, 1) := by decide +kernel
theorem dX8_seatsFrom_31 : decode prog_10_method_53_code 31 = .ok (.putfield 341, 3) := by decide +kernel
theorem dX8_seatsFrom_34 : decode prog_10_method_53_code 34 = .ok (.iconst 0, 1) := by decide +kernel
theorem dX8_seatsFrom_35 : decode prog_10_method_53_code 35 = .ok (.istore 5, 2) := by decide +kernel
theorem dX8_seatsFrom_37 : decode prog_10_method_53_code 37 = .ok (.iload 5, 2) := by decide +kernel
theorem dX8_seatsFrom_39 : decode prog_10_method_53_code 39 = .ok (.aload_n 0, 1) := by decide +kernel
theorem dX8_seatsFrom_40 : decode prog_10_method_53_code 40 = .ok (.getfield 101, 3) := by decide +kernel
theorem dX8_seatsFrom_43 : decode prog_10_method_53_code 43 = .ok (.if_icmp .ge 23, 3) := by decide +kernel
theorem dX8_seatsFrom_46 : decode prog_10_method_53_code 46 = .ok (.aload_n 0, 1) := by decide +kernel
theorem dX8_seatsFrom_47 : decode prog_10_method_53_code 47 = .ok (.getfield 72, 3) := by decide +kernel
theorem dX8_seatsFrom_50 : decode prog_10_method_53_code 50 = .ok (.iload 5, 2) := by decide +kernel
theorem dX8_seatsFrom_52 : decode prog_10_method_53_code 52 = .ok (.aload_n 0, 1) := by decide +kernel
theorem dX8_seatsFrom_53 : decode prog_10_method_53_code 53 = .ok (.getfield 69, 3) := by decide +kernel
theorem dX8_seatsFrom_56 : decode prog_10_method_53_code 56 = .ok (.iload 5, 2) := by decide +kernel
theorem dX8_seatsFrom_58 : decode prog_10_method_53_code 58 = .ok (.iaload, 1) := by decide +kernel
theorem dX8_seatsFrom_59 : decode prog_10_method_53_code 59 = .ok (.iastore, 1) := by decide +kernel
theorem dX8_seatsFrom_60 : decode prog_10_method_53_code 60 = .ok (.iinc 5 1, 3) := by decide +kernel
theorem dX8_seatsFrom_63 : decode prog_10_method_53_code 63 = .ok (.goto (-26), 3) := by decide +kernel
theorem dX8_seatsFrom_66 : decode prog_10_method_53_code 66 = .ok (.return_, 1) := by decide +kernel
theorem dX8_seatsFrom_67 : decode prog_10_method_53_code 67 = .ok (.iconst 0, 1) := by decide +kernel
theorem dX8_seatsFrom_68 : decode prog_10_method_53_code 68 = .ok (.istore 5, 2) := by decide +kernel
theorem dX8_seatsFrom_70 : decode prog_10_method_53_code 70 = .ok (.iload 5, 2) := by decide +kernel
theorem dX8_seatsFrom_72 : decode prog_10_method_53_code 72 = .ok (.bipush 8, 2) := by decide +kernel
theorem dX8_seatsFrom_74 : decode prog_10_method_53_code 74 = .ok (.if_icmp .ge 65, 3) := by decide +kernel
theorem dX8_seatsFrom_77 : decode prog_10_method_53_code 77 = .ok (.iload_n 2, 1) := by decide +kernel
theorem dX8_seatsFrom_78 : decode prog_10_method_53_code 78 = .ok (.iload 5, 2) := by decide +kernel
theorem dX8_seatsFrom_80 : decode prog_10_method_53_code 80 = .ok (.ishr, 1) := by decide +kernel
theorem dX8_seatsFrom_81 : decode prog_10_method_53_code 81 = .ok (.iconst 1, 1) := by decide +kernel
theorem dX8_seatsFrom_82 : decode prog_10_method_53_code 82 = .ok (.iand, 1) := by decide +kernel
theorem dX8_seatsFrom_83 : decode prog_10_method_53_code 83 = .ok (.ifCond .ne 50, 3) := by decide +kernel
theorem dX8_seatsFrom_86 : decode prog_10_method_53_code 86 = .ok (.aload_n 0, 1) := by decide +kernel
theorem dX8_seatsFrom_87 : decode prog_10_method_53_code 87 = .ok (.getfield 69, 3) := by decide +kernel
theorem dX8_seatsFrom_90 : decode prog_10_method_53_code 90 = .ok (.iload_n 1, 1) := by decide +kernel
theorem dX8_seatsFrom_91 : decode prog_10_method_53_code 91 = .ok (.iload 5, 2) := by decide +kernel
theorem dX8_seatsFrom_93 : decode prog_10_method_53_code 93 = .ok (.iastore, 1) := by decide +kernel
theorem dX8_seatsFrom_94 : decode prog_10_method_53_code 94 = .ok (.aload_n 0, 1) := by decide +kernel
theorem dX8_seatsFrom_95 : decode prog_10_method_53_code 95 = .ok (.iload_n 1, 1) := by decide +kernel
theorem dX8_seatsFrom_96 : decode prog_10_method_53_code 96 = .ok (.iconst 1, 1) := by decide +kernel
