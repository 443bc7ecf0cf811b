theorem dX8_seatsFrom_97 : decode prog_10_method_53_code 97 = .ok (.iadd, 1) := by decide +kernel
theorem dX8_seatsFrom_98 : decode prog_10_method_53_code 98 = .ok (.iload_n 2, 1) := by decide +kernel
theorem dX8_seatsFrom_99 : decode prog_10_method_53_code 99 = .ok (.iconst 1, 1) := by decide +kernel
theorem dX8_seatsFrom_100 : decode prog_10_method_53_code 100 = .ok (.iload 5, 2) := by decide +kernel
theorem dX8_seatsFrom_102 : decode prog_10_method_53_code 102 = .ok (.ishl, 1) := by decide +kernel
theorem dX8_seatsFrom_103 : decode prog_10_method_53_code 103 = .ok (.ior, 1) := by decide +kernel
theorem dX8_seatsFrom_104 : decode prog_10_method_53_code 104 = .ok (.aload_n 0, 1) := by decide +kernel
theorem dX8_seatsFrom_105 : decode prog_10_method_53_code 105 = .ok (.getfield 123, 3) := by decide +kernel
theorem dX8_seatsFrom_108 : decode prog_10_method_53_code 108 = .ok (.iload 5, 2) := by decide +kernel
theorem dX8_seatsFrom_110 : decode prog_10_method_53_code 110 = .ok (.ishr, 1) := by decide +kernel
theorem dX8_seatsFrom_111 : decode prog_10_method_53_code 111 = .ok (.iconst 1, 1) := by decide +kernel
theorem dX8_seatsFrom_112 : decode prog_10_method_53_code 112 = .ok (.iand, 1) := by decide +kernel
theorem dX8_seatsFrom_113 : decode prog_10_method_53_code 113 = .ok (.iconst 1, 1) := by decide +kernel
theorem dX8_seatsFrom_114 : decode prog_10_method_53_code 114 = .ok (.if_icmp .ne 7, 3) := by decide +kernel
theorem dX8_seatsFrom_117 : decode prog_10_method_53_code 117 = .ok (.lload_n 3, 1) := by decide +kernel
theorem dX8_seatsFrom_118 : decode prog_10_method_53_code 118 = .ok (.goto 12, 3) := by decide +kernel
theorem dX8_seatsFrom_121 : decode prog_10_method_53_code 121 = .ok (.lload_n 3, 1) := by decide +kernel
theorem dX8_seatsFrom_122 : decode prog_10_method_53_code 122 = .ok (.aload_n 0, 1) := by decide +kernel
theorem dX8_seatsFrom_123 : decode prog_10_method_53_code 123 = .ok (.getfield 66, 3) := by decide +kernel
theorem dX8_seatsFrom_126 : decode prog_10_method_53_code 126 = .ok (.iload 5, 2) := by decide +kernel
theorem dX8_seatsFrom_128 : decode prog_10_method_53_code 128 = .ok (.laload, 1) := by decide +kernel
theorem dX8_seatsFrom_129 : decode prog_10_method_53_code 129 = .ok (.ladd, 1) := by decide +kernel
theorem dX8_seatsFrom_130 : decode prog_10_method_53_code 130 = .ok (.invokevirtual 344, 3) := by decide +kernel
theorem dX8_seatsFrom_133 : decode prog_10_method_53_code 133 = .ok (.iinc 5 1, 3) := by decide +kernel
theorem dX8_seatsFrom_136 : decode prog_10_method_53_code 136 = .ok (.goto (-66), 3) := by decide +kernel
theorem dX8_seatsFrom_139 : decode prog_10_method_53_code 139 = .ok (.return_, 1) := by decide +kernel
theorem dX8_stay_0 : decode prog_10_method_55_code 0 = .ok (.iload_n 1, 1) := by decide +kernel
theorem dX8_stay_1 : decode prog_10_method_55_code 1 = .ok (.invokestatic 315, 3) := by decide +kernel
theorem dX8_stay_4 : decode prog_10_method_55_code 4 = .ok (.ifCond .ne 6, 3) := by decide +kernel
theorem dX8_stay_7 : decode prog_10_method_55_code 7 = .ok (.bipush (-2), 2) := by decide +kernel
theorem dX8_stay_9 : decode prog_10_method_55_code 9 = .ok (.ireturn, 1) := by decide +kernel
theorem dX8_stay_10 : decode prog_10_method_55_code 10 = .ok (.aload_n 0, 1) := by decide +kernel
theorem dX8_stay_11 : decode prog_10_method_55_code 11 = .ok (.getfield 81, 3) := by decide +kernel
theorem dX8_stay_14 : decode prog_10_method_55_code 14 = .ok (.iload_n 1, 1) := by decide +kernel
theorem dX8_stay_15 : decode prog_10_method_55_code 15 = .ok (.baload, 1) := by decide +kernel
theorem dX8_stay_16 : decode prog_10_method_55_code 16 = .ok (.ifCond .ne 6, 3) := by decide +kernel
theorem dX8_stay_19 : decode prog_10_method_55_code 19 = .ok (.bipush (-11), 2) := by decide +kernel
theorem dX8_stay_21 : decode prog_10_method_55_code 21 = .ok (.ireturn, 1) := by decide +kernel
theorem dX8_stay_22 : decode prog_10_method_55_code 22 = .ok (.iconst 0, 1) := by decide +kernel
theorem dX8_stay_23 : decode prog_10_method_55_code 23 = .ok (.istore_n 2, 1) := by decide +kernel
theorem dX8_stay_24 : decode prog_10_method_55_code 24 = .ok (.iconst 0, 1) := by decide +kernel
theorem dX8_stay_25 : decode prog_10_method_55_code 25 = .ok (.istore_n 3, 1) := by decide +kernel
theorem dX8_stay_26 : decode prog_10_method_55_code 26 = .ok (.iload_n 3, 1) := by decide +kernel
theorem dX8_stay_27 : decode prog_10_method_55_code 27 = .ok (.aload_n 0, 1) := by decide +kernel
theorem dX8_stay_28 : decode prog_10_method_55_code 28 = .ok (.getfield 101, 3) := by decide +kernel
theorem dX8_stay_31 : decode prog_10_method_55_code 31 = .ok (.if_icmp .ge 73, 3) := by decide +kernel
theorem dX8_stay_34 : decode prog_10_method_55_code 34 = .ok (.aload_n 0, 1) := by decide +kernel
theorem dX8_stay_35 : decode prog_10_method_55_code 35 = .ok (.iload_n 1, 1) := by decide +kernel
theorem dX8_stay_36 : decode prog_10_method_55_code 36 = .ok (.invokevirtual 348, 3) := by decide +kernel
theorem dX8_stay_39 : decode prog_10_method_55_code 39 = .ok (.pop, 1) := by decide +kernel
theorem dX8_stay_40 : decode prog_10_method_55_code 40 = .ok (.aload_n 0, 1) := by decide +kernel
theorem dX8_stay_41 : decode prog_10_method_55_code 41 = .ok (.getfield 41, 3) := by decide +kernel
theorem dX8_stay_44 : decode prog_10_method_55_code 44 = .ok (.iload_n 3, 1) := by decide +kernel
theorem dX8_stay_45 : decode prog_10_method_55_code 45 = .ok (.iaload, 1) := by decide +kernel
theorem dX8_stay_46 : decode prog_10_method_55_code 46 = .ok (.istore 4, 2) := by decide +kernel
theorem dX8_stay_48 : decode prog_10_method_55_code 48 = .ok (.aload_n 0, 1) := by decide +kernel
theorem dX8_stay_49 : decode prog_10_method_55_code 49 = .ok (.getfield 29, 3) := by decide +kernel
theorem dX8_stay_52 : decode prog_10_method_55_code 52 = .ok (.iload_n 3, 1) := by decide +kernel
theorem dX8_stay_53 : decode prog_10_method_55_code 53 = .ok (.iaload, 1) := by decide +kernel
theorem dX8_stay_54 : decode prog_10_method_55_code 54 = .ok (.istore 5, 2) := by decide +kernel
theorem dX8_stay_56 : decode prog_10_method_55_code 56 = .ok (.aload_n 0, 1) := by decide +kernel
theorem dX8_stay_57 : decode prog_10_method_55_code 57 = .ok (.getfield 29, 3) := by decide +kernel
theorem dX8_stay_60 : decode prog_10_method_55_code 60 = .ok (.iload_n 3, 1) := by decide +kernel
theorem dX8_stay_61 : decode prog_10_method_55_code 61 = .ok (.iconst 0, 1) := by decide +kernel
theorem dX8_stay_62 : decode prog_10_method_55_code 62 = .ok (.iastore, 1) := by decide +kernel
theorem dX8_stay_63 : decode prog_10_method_55_code 63 = .ok (.aload_n 0, 1) := by decide +kernel
theorem dX8_stay_64 : decode prog_10_method_55_code 64 = .ok (.iload_n 1, 1) := by decide +kernel
theorem dX8_stay_65 : decode prog_10_method_55_code 65 = .ok (.invokevirtual 348, 3) := by decide +kernel
theorem dX8_stay_68 : decode prog_10_method_55_code 68 = .ok (.pop, 1) := by decide +kernel
theorem dX8_stay_69 : decode prog_10_method_55_code 69 = .ok (.aload_n 0, 1) := by decide +kernel
theorem dX8_stay_70 : decode prog_10_method_55_code 70 = .ok (.getfield 29, 3) := by decide +kernel
theorem dX8_stay_73 : decode prog_10_method_55_code 73 = .ok (.iload_n 3, 1) := by decide +kernel
theorem dX8_stay_74 : decode prog_10_method_55_code 74 = .ok (.iload 5, 2) := by decide +kernel
theorem dX8_stay_76 : decode prog_10_method_55_code 76 = .ok (.iastore, 1) := by decide +kernel
theorem dX8_stay_77 : decode prog_10_method_55_code 77 = .ok (.iload_n 2, 1) := by decide +kernel
theorem dX8_stay_78 : decode prog_10_method_55_code 78 = .ok (.aload_n 0, 1) := by decide +kernel
theorem dX8_stay_79 : decode prog_10_method_55_code 79 = .ok (.getfield 41, 3) := by decide +kernel
theorem dX8_stay_82 : decode prog_10_method_55_code 82 = .ok (.iload_n 3, 1) := by decide +kernel
theorem dX8_stay_83 : decode prog_10_method_55_code 83 = .ok (.iaload, 1) := by decide +kernel
theorem dX8_stay_84 : decode prog_10_method_55_code 84 = .ok (.iload 4, 2) := by decide +kernel
theorem dX8_stay_86 : decode prog_10_method_55_code 86 = .ok (.if_icmp .ge 7, 3) := by decide +kernel
theorem dX8_stay_89 : decode prog_10_method_55_code 89 = .ok (.iconst 1, 1) := by decide +kernel
theorem dX8_stay_90 : decode prog_10_method_55_code 90 = .ok (.goto 4, 3) := by decide +kernel
theorem dX8_stay_93 : decode prog_10_method_55_code 93 = .ok (.iconst 0, 1) := by decide +kernel
theorem dX8_stay_94 : decode prog_10_method_55_code 94 = .ok (.iload_n 3, 1) := by decide +kernel
theorem dX8_stay_95 : decode prog_10_method_55_code 95 = .ok (.ishl, 1) := by decide +kernel
theorem dX8_stay_96 : decode prog_10_method_55_code 96 = .ok (.ior, 1) := by decide +kernel
theorem dX8_stay_97 : decode prog_10_method_55_code 97 = .ok (.istore_n 2, 1) := by decide +kernel
theorem dX8_stay_98 : decode prog_10_method_55_code 98 = .ok (.iinc 3 1, 3) := by decide +kernel
theorem dX8_stay_101 : decode prog_10_method_55_code 101 = .ok (.goto (-75), 3) := by decide +kernel
theorem dX8_stay_104 : decode prog_10_method_55_code 104 = .ok (.iload_n 2, 1) := by decide +kernel
theorem dX8_stay_105 : decode prog_10_method_55_code 105 = .ok (.ireturn, 1) := by decide +kernel
theorem dX8_costOf_0 : decode prog_10_method_45_code 0 = .ok (.aload_n 0, 1) := by decide +kernel
theorem dX8_costOf_1 : decode prog_10_method_45_code 1 = .ok (.invokevirtual 302, 3) := by decide +kernel
theorem dX8_costOf_4 : decode prog_10_method_45_code 4 = .ok (.aload_n 0, 1) := by decide +kernel
theorem dX8_costOf_5 : decode prog_10_method_45_code 5 = .ok (.iload_n 1, 1) := by decide +kernel
theorem dX8_costOf_6 : decode prog_10_method_45_code 6 = .ok (.invokevirtual 305, 3) := by decide +kernel
theorem dX8_costOf_9 : decode prog_10_method_45_code 9 = .ok (.aload_n 0, 1) := by decide +kernel
theorem dX8_costOf_10 : decode prog_10_method_45_code 10 = .ok (.invokevirtual 308, 3) := by decide +kernel
theorem dX8_costOf_13 : decode prog_10_method_45_code 13 = .ok (.aload_n 0, 1) := by decide +kernel
theorem dX8_costOf_14 : decode prog_10_method_45_code 14 = .ok (.aload_n 0, 1) := by decide +kernel
theorem dX8_costOf_15 : decode prog_10_method_45_code 15 = .ok (.getfield 41, 3) := by decide +kernel
theorem dX8_costOf_18 : decode prog_10_method_45_code 18 = .ok (.invokevirtual 311, 3) := by decide +kernel
theorem dX8_costOf_21 : decode prog_10_method_45_code 21 = .ok (.ireturn, 1) := by decide +kernel
theorem dX8_eddies_0 : decode prog_10_method_56_code 0 = .ok (.iload_n 1, 1) := by decide +kernel
theorem dX8_eddies_1 : decode prog_10_method_56_code 1 = .ok (.invokestatic 315, 3) := by decide +kernel
theorem dX8_eddies_4 : decode prog_10_method_56_code 4 = .ok (.ifCond .eq 12, 3) := by decide +kernel
theorem dX8_eddies_7 : decode prog_10_method_56_code 7 = .ok (.aload_n 0, 1) := by decide +kernel
theorem dX8_eddies_8 : decode prog_10_method_56_code 8 = .ok (.getfield 81, 3) := by decide +kernel
theorem dX8_eddies_11 : decode prog_10_method_56_code 11 = .ok (.iload_n 1, 1) := by decide +kernel
theorem dX8_eddies_12 : decode prog_10_method_56_code 12 = .ok (.baload, 1) := by decide +kernel
theorem dX8_eddies_13 : decode prog_10_method_56_code 13 = .ok (.ifCond .ne 7, 3) := by decide +kernel
theorem dX8_eddies_16 : decode prog_10_method_56_code 16 = .ok (.ldc_w 351, 3) := by decide +kernel
theorem dX8_eddies_19 : decode prog_10_method_56_code 19 = .ok (.ireturn, 1) := by decide +kernel
theorem dX8_eddies_20 : decode prog_10_method_56_code 20 = .ok (.aload_n 0, 1) := by decide +kernel
theorem dX8_eddies_21 : decode prog_10_method_56_code 21 = .ok (.getfield 126, 3) := by decide +kernel
theorem dX8_eddies_24 : decode prog_10_method_56_code 24 = .ok (.istore_n 2, 1) := by decide +kernel
theorem dX8_eddies_25 : decode prog_10_method_56_code 25 = .ok (.aload_n 0, 1) := by decide +kernel
theorem dX8_eddies_26 : decode prog_10_method_56_code 26 = .ok (.iconst 1, 1) := by decide +kernel
theorem dX8_eddies_27 : decode prog_10_method_56_code 27 = .ok (.putfield 126, 3) := by decide +kernel
theorem dX8_eddies_30 : decode prog_10_method_56_code 30 = .ok (.aload_n 0, 1) := by decide +kernel
theorem dX8_eddies_31 : decode prog_10_method_56_code 31 = .ok (.iload_n 1, 1) := by decide +kernel
theorem dX8_eddies_32 : decode prog_10_method_56_code 32 = .ok (.invokevirtual 348, 3) := by decide +kernel
theorem dX8_eddies_35 : decode prog_10_method_56_code 35 = .ok (.istore_n 3, 1) := by decide +kernel
theorem dX8_eddies_36 : decode prog_10_method_56_code 36 = .ok (.aload_n 0, 1) := by decide +kernel
theorem dX8_eddies_37 : decode prog_10_method_56_code 37 = .ok (.iconst 0, 1) := by decide +kernel
theorem dX8_eddies_38 : decode prog_10_method_56_code 38 = .ok (.putfield 126, 3) := by decide +kernel
theorem dX8_eddies_41 : decode prog_10_method_56_code 41 = .ok (.aload_n 0, 1) := by decide +kernel
theorem dX8_eddies_42 : decode prog_10_method_56_code 42 = .ok (.iload_n 1, 1) := by decide +kernel
theorem dX8_eddies_43 : decode prog_10_method_56_code 43 = .ok (.invokevirtual 348, 3) := by decide +kernel
theorem dX8_eddies_46 : decode prog_10_method_56_code 46 = .ok (.istore 4, 2) := by decide +kernel
theorem dX8_eddies_48 : decode prog_10_method_56_code 48 = .ok (.aload_n 0, 1) := by decide +kernel
theorem dX8_eddies_49 : decode prog_10_method_56_code 49 = .ok (.iload_n 2, 1) := by decide +kernel
theorem dX8_eddies_50 : decode prog_10_method_56_code 50 = .ok (.putfield 126, 3) := by decide +kernel
theorem dX8_eddies_53 : decode prog_10_method_56_code 53 = .ok (.iload_n 3, 1) := by decide +kernel
theorem dX8_eddies_54 : decode prog_10_method_56_code 54 = .ok (.iload 4, 2) := by decide +kernel
theorem dX8_eddies_56 : decode prog_10_method_56_code 56 = .ok (.isub, 1) := by decide +kernel
theorem dX8_eddies_57 : decode prog_10_method_56_code 57 = .ok (.ireturn, 1) := by decide +kernel
theorem dX8_best_0 : decode prog_10_method_57_code 0 = .ok (.iload_n 1, 1) := by decide +kernel
theorem dX8_best_1 : decode prog_10_method_57_code 1 = .ok (.invokestatic 315, 3) := by decide +kernel
theorem dX8_best_4 : decode prog_10_method_57_code 4 = .ok (.ifCond .eq 21, 3) := by decide +kernel
theorem dX8_best_7 : decode prog_10_method_57_code 7 = .ok (.aload_n 0, 1) := by decide +kernel
theorem dX8_best_8 : decode prog_10_method_57_code 8 = .ok (.iload_n 2, 1) := by decide +kernel
theorem dX8_best_9 : decode prog_10_method_57_code 9 = .ok (.invokevirtual 112, 3) := by decide +kernel
theorem dX8_best_12 : decode prog_10_method_57_code 12 = .ok (.ifCond .eq 13, 3) := by decide +kernel
theorem dX8_best_15 : decode prog_10_method_57_code 15 = .ok (.iload_n 3, 1) := by decide +kernel
theorem dX8_best_16 : decode prog_10_method_57_code 16 = .ok (.i2l, 1) := by decide +kernel
theorem dX8_best_17 : decode prog_10_method_57_code 17 = .ok (.lconst 0, 1) := by decide +kernel
theorem dX8_best_18 : decode prog_10_method_57_code 18 = .ok (.lconst 1, 1) := by decide +kernel
theorem dX8_best_19 : decode prog_10_method_57_code 19 = .ok (.invokestatic 104, 3) := by decide +kernel
theorem dX8_best_22 : decode prog_10_method_57_code 22 = .ok (.ifCond .ne 6, 3) := by decide +kernel
theorem dX8_best_25 : decode prog_10_method_57_code 25 = .ok (.bipush (-2), 2) := by decide +kernel
theorem dX8_best_27 : decode prog_10_method_57_code 27 = .ok (.ireturn, 1) := by decide +kernel
theorem dX8_best_28 : decode prog_10_method_57_code 28 = .ok (.aload_n 0, 1) := by decide +kernel
theorem dX8_best_29 : decode prog_10_method_57_code 29 = .ok (.getfield 81, 3) := by decide +kernel
theorem dX8_best_32 : decode prog_10_method_57_code 32 = .ok (.iload_n 1, 1) := by decide +kernel
theorem dX8_best_33 : decode prog_10_method_57_code 33 = .ok (.baload, 1) := by decide +kernel
theorem dX8_best_34 : decode prog_10_method_57_code 34 = .ok (.ifCond .ne 6, 3) := by decide +kernel
theorem dX8_best_37 : decode prog_10_method_57_code 37 = .ok (.bipush (-11), 2) := by decide +kernel
theorem dX8_best_39 : decode prog_10_method_57_code 39 = .ok (.ireturn, 1) := by decide +kernel
theorem dX8_best_40 : decode prog_10_method_57_code 40 = .ok (.aload_n 0, 1) := by decide +kernel
theorem dX8_best_41 : decode prog_10_method_57_code 41 = .ok (.getfield 35, 3) := by decide +kernel
theorem dX8_best_44 : decode prog_10_method_57_code 44 = .ok (.iload_n 2, 1) := by decide +kernel
theorem dX8_best_45 : decode prog_10_method_57_code 45 = .ok (.iaload, 1) := by decide +kernel
theorem dX8_best_46 : decode prog_10_method_57_code 46 = .ok (.istore 4, 2) := by decide +kernel
theorem dX8_best_48 : decode prog_10_method_57_code 48 = .ok (.iconst (-1), 1) := by decide +kernel
theorem dX8_best_49 : decode prog_10_method_57_code 49 = .ok (.istore 5, 2) := by decide +kernel
theorem dX8_best_51 : decode prog_10_method_57_code 51 = .ok (.iconst 0, 1) := by decide +kernel
theorem dX8_best_52 : decode prog_10_method_57_code 52 = .ok (.istore 6, 2) := by decide +kernel
theorem dX8_best_54 : decode prog_10_method_57_code 54 = .ok (.iconst 0, 1) := by decide +kernel
theorem dX8_best_55 : decode prog_10_method_57_code 55 = .ok (.istore 7, 2) := by decide +kernel
theorem dX8_best_57 : decode prog_10_method_57_code 57 = .ok (.iload 7, 2) := by decide +kernel
theorem dX8_best_59 : decode prog_10_method_57_code 59 = .ok (.bipush 8, 2) := by decide +kernel
theorem dX8_best_61 : decode prog_10_method_57_code 61 = .ok (.if_icmp .ge 71, 3) := by decide +kernel
theorem dX8_best_64 : decode prog_10_method_57_code 64 = .ok (.aload_n 0, 1) := by decide +kernel
theorem dX8_best_65 : decode prog_10_method_57_code 65 = .ok (.iload 7, 2) := by decide +kernel
theorem dX8_best_67 : decode prog_10_method_57_code 67 = .ok (.iload_n 2, 1) := by decide +kernel
theorem dX8_best_68 : decode prog_10_method_57_code 68 = .ok (.invokevirtual 116, 3) := by decide +kernel
theorem dX8_best_71 : decode prog_10_method_57_code 71 = .ok (.iconst (-1), 1) := by decide +kernel
theorem dX8_best_72 : decode prog_10_method_57_code 72 = .ok (.if_icmp .ne 54, 3) := by decide +kernel
theorem dX8_best_75 : decode prog_10_method_57_code 75 = .ok (.aload_n 0, 1) := by decide +kernel
theorem dX8_best_76 : decode prog_10_method_57_code 76 = .ok (.getfield 35, 3) := by decide +kernel
theorem dX8_best_79 : decode prog_10_method_57_code 79 = .ok (.iload_n 2, 1) := by decide +kernel
theorem dX8_best_80 : decode prog_10_method_57_code 80 = .ok (.iload 7, 2) := by decide +kernel
theorem dX8_best_82 : decode prog_10_method_57_code 82 = .ok (.iastore, 1) := by decide +kernel
theorem dX8_best_83 : decode prog_10_method_57_code 83 = .ok (.aload_n 0, 1) := by decide +kernel
theorem dX8_best_84 : decode prog_10_method_57_code 84 = .ok (.iload_n 1, 1) := by decide +kernel
theorem dX8_best_85 : decode prog_10_method_57_code 85 = .ok (.invokevirtual 348, 3) := by decide +kernel
theorem dX8_best_88 : decode prog_10_method_57_code 88 = .ok (.pop, 1) := by decide +kernel
theorem dX8_best_89 : decode prog_10_method_57_code 89 = .ok (.aload_n 0, 1) := by decide +kernel
theorem dX8_best_90 : decode prog_10_method_57_code 90 = .ok (.getfield 35, 3) := by decide +kernel
theorem dX8_best_93 : decode prog_10_method_57_code 93 = .ok (.iload_n 2, 1) := by decide +kernel
theorem dX8_best_94 : decode prog_10_method_57_code 94 = .ok (.iload 4, 2) := by decide +kernel
theorem dX8_best_96 : decode prog_10_method_57_code 96 = .ok (.iastore, 1) := by decide +kernel
theorem dX8_best_97 : decode prog_10_method_57_code 97 = .ok (.iload 5, 2) := by decide +kernel
theorem dX8_best_99 : decode prog_10_method_57_code 99 = .ok (.iconst (-1), 1) := by decide +kernel
theorem dX8_best_100 : decode prog_10_method_57_code 100 = .ok (.if_icmp .eq 14, 3) := by decide +kernel
theorem dX8_best_103 : decode prog_10_method_57_code 103 = .ok (.aload_n 0, 1) := by decide +kernel
theorem dX8_best_104 : decode prog_10_method_57_code 104 = .ok (.getfield 41, 3) := by decide +kernel
theorem dX8_best_107 : decode prog_10_method_57_code 107 = .ok (.iload_n 2, 1) := by decide +kernel
theorem dX8_best_108 : decode prog_10_method_57_code 108 = .ok (.iaload, 1) := by decide +kernel
theorem dX8_best_109 : decode prog_10_method_57_code 109 = .ok (.iload 6, 2) := by decide +kernel
theorem dX8_best_111 : decode prog_10_method_57_code 111 = .ok (.if_icmp .ge 15, 3) := by decide +kernel
theorem dX8_best_114 : decode prog_10_method_57_code 114 = .ok (.iload 7, 2) := by decide +kernel
theorem dX8_best_116 : decode prog_10_method_57_code 116 = .ok (.istore 5, 2) := by decide +kernel
theorem dX8_best_118 : decode prog_10_method_57_code 118 = .ok (.aload_n 0, 1) := by decide +kernel
theorem dX8_best_119 : decode prog_10_method_57_code 119 = .ok (.getfield 41, 3) := by decide +kernel
theorem dX8_best_122 : decode prog_10_method_57_code 122 = .ok (.iload_n 2, 1) := by decide +kernel
theorem dX8_best_123 : decode prog_10_method_57_code 123 = .ok (.iaload, 1) := by decide +kernel
theorem dX8_best_124 : decode prog_10_method_57_code 124 = .ok (.istore 6, 2) := by decide +kernel
theorem dX8_best_126 : decode prog_10_method_57_code 126 = .ok (.iinc 7 1, 3) := by decide +kernel
theorem dX8_best_129 : decode prog_10_method_57_code 129 = .ok (.goto (-72), 3) := by decide +kernel
theorem dX8_best_132 : decode prog_10_method_57_code 132 = .ok (.iload_n 3, 1) := by decide +kernel
theorem dX8_best_133 : decode prog_10_method_57_code 133 = .ok (.ifCond .ne 8, 3) := by decide +kernel
theorem dX8_best_136 : decode prog_10_method_57_code 136 = .ok (.iload 5, 2) := by decide +kernel
theorem dX8_best_138 : decode prog_10_method_57_code 138 = .ok (.goto 5, 3) := by decide +kernel
theorem dX8_best_141 : decode prog_10_method_57_code 141 = .ok (.iload 6, 2) := by decide +kernel
theorem dX8_best_143 : decode prog_10_method_57_code 143 = .ok (.ireturn, 1) := by decide +kernel
theorem dX8_eyes_0 : decode prog_10_method_59_code 0 = .ok (.iload_n 1, 1) := by decide +kernel
theorem dX8_eyes_1 : decode prog_10_method_59_code 1 = .ok (.invokestatic 315, 3) := by decide +kernel
theorem dX8_eyes_4 : decode prog_10_method_59_code 4 = .ok (.ifCond .eq 59, 3) := by decide +kernel
theorem dX8_eyes_7 : decode prog_10_method_59_code 7 = .ok (.iload_n 2, 1) := by decide +kernel
theorem dX8_eyes_8 : decode prog_10_method_59_code 8 = .ok (.i2l, 1) := by decide +kernel
theorem dX8_eyes_9 : decode prog_10_method_59_code 9 = .ok (.lconst 0, 1) := by decide +kernel
theorem dX8_eyes_10 : decode prog_10_method_59_code 10 = .ok (.ldc2_w 129, 3) := by decide +kernel
theorem dX8_eyes_13 : decode prog_10_method_59_code 13 = .ok (.invokestatic 104, 3) := by decide +kernel
theorem dX8_eyes_16 : decode prog_10_method_59_code 16 = .ok (.ifCond .eq 47, 3) := by decide +kernel
theorem dX8_eyes_19 : decode prog_10_method_59_code 19 = .ok (.iload_n 3, 1) := by decide +kernel
theorem dX8_eyes_20 : decode prog_10_method_59_code 20 = .ok (.i2l, 1) := by decide +kernel
theorem dX8_eyes_21 : decode prog_10_method_59_code 21 = .ok (.ldc2_w 358, 3) := by decide +kernel
theorem dX8_eyes_24 : decode prog_10_method_59_code 24 = .ok (.ldc2_w 360, 3) := by decide +kernel
theorem dX8_eyes_27 : decode prog_10_method_59_code 27 = .ok (.invokestatic 104, 3) := by decide +kernel
theorem dX8_eyes_30 : decode prog_10_method_59_code 30 = .ok (.ifCond .ne 11, 3) := by decide +kernel
theorem dX8_eyes_33 : decode prog_10_method_59_code 33 = .ok (.aload_n 0, 1) := by decide +kernel
theorem dX8_eyes_34 : decode prog_10_method_59_code 34 = .ok (.iload_n 3, 1) := by decide +kernel
theorem dX8_eyes_35 : decode prog_10_method_59_code 35 = .ok (.invokevirtual 112, 3) := by decide +kernel
theorem dX8_eyes_38 : decode prog_10_method_59_code 38 = .ok (.ifCond .eq 25, 3) := by decide +kernel
theorem dX8_eyes_41 : decode prog_10_method_59_code 41 = .ok (.aload_n 0, 1) := by decide +kernel
theorem dX8_eyes_42 : decode prog_10_method_59_code 42 = .ok (.getfield 81, 3) := by decide +kernel
theorem dX8_eyes_45 : decode prog_10_method_59_code 45 = .ok (.iload_n 1, 1) := by decide +kernel
theorem dX8_eyes_46 : decode prog_10_method_59_code 46 = .ok (.baload, 1) := by decide +kernel
theorem dX8_eyes_47 : decode prog_10_method_59_code 47 = .ok (.ifCond .eq 16, 3) := by decide +kernel
theorem dX8_eyes_50 : decode prog_10_method_59_code 50 = .ok (.aload_n 0, 1) := by decide +kernel
theorem dX8_eyes_51 : decode prog_10_method_59_code 51 = .ok (.getfield 88, 3) := by decide +kernel
theorem dX8_eyes_54 : decode prog_10_method_59_code 54 = .ok (.iload_n 1, 1) := by decide +kernel
theorem dX8_eyes_55 : decode prog_10_method_59_code 55 = .ok (.iaload, 1) := by decide +kernel
theorem dX8_eyes_56 : decode prog_10_method_59_code 56 = .ok (.aload_n 0, 1) := by decide +kernel
theorem dX8_eyes_57 : decode prog_10_method_59_code 57 = .ok (.getfield 101, 3) := by decide +kernel
theorem dX8_eyes_60 : decode prog_10_method_59_code 60 = .ok (.if_icmp .eq 6, 3) := by decide +kernel
theorem dX8_eyes_63 : decode prog_10_method_59_code 63 = .ok (.bipush (-100), 2) := by decide +kernel
theorem dX8_eyes_65 : decode prog_10_method_59_code 65 = .ok (.ireturn, 1) := by decide +kernel
theorem dX8_eyes_66 : decode prog_10_method_59_code 66 = .ok (.iload_n 3, 1) := by decide +kernel
theorem dX8_eyes_67 : decode prog_10_method_59_code 67 = .ok (.ifCond .ge 26, 3) := by decide +kernel
theorem dX8_eyes_70 : decode prog_10_method_59_code 70 = .ok (.aload_n 0, 1) := by decide +kernel
theorem dX8_eyes_71 : decode prog_10_method_59_code 71 = .ok (.iload_n 1, 1) := by decide +kernel
theorem dX8_eyes_72 : decode prog_10_method_59_code 72 = .ok (.iload_n 2, 1) := by decide +kernel
theorem dX8_eyes_73 : decode prog_10_method_59_code 73 = .ok (.invokevirtual 362, 3) := by decide +kernel
theorem dX8_eyes_76 : decode prog_10_method_59_code 76 = .ok (.iload_n 3, 1) := by decide +kernel
theorem dX8_eyes_77 : decode prog_10_method_59_code 77 = .ok (.iconst (-1), 1) := by decide +kernel
theorem dX8_eyes_78 : decode prog_10_method_59_code 78 = .ok (.if_icmp .ne 10, 3) := by decide +kernel
theorem dX8_eyes_81 : decode prog_10_method_59_code 81 = .ok (.aload_n 0, 1) := by decide +kernel
theorem dX8_eyes_82 : decode prog_10_method_59_code 82 = .ok (.getfield 352, 3) := by decide +kernel
theorem dX8_eyes_85 : decode prog_10_method_59_code 85 = .ok (.goto 7, 3) := by decide +kernel
theorem dX8_eyes_88 : decode prog_10_method_59_code 88 = .ok (.aload_n 0, 1) := by decide +kernel
theorem dX8_eyes_89 : decode prog_10_method_59_code 89 = .ok (.getfield 355, 3) := by decide +kernel
theorem dX8_eyes_92 : decode prog_10_method_59_code 92 = .ok (.ireturn, 1) := by decide +kernel
theorem dX8_eyes_93 : decode prog_10_method_59_code 93 = .ok (.aload_n 0, 1) := by decide +kernel
theorem dX8_eyes_94 : decode prog_10_method_59_code 94 = .ok (.getfield 29, 3) := by decide +kernel
theorem dX8_eyes_97 : decode prog_10_method_59_code 97 = .ok (.iload_n 3, 1) := by decide +kernel
theorem dX8_eyes_98 : decode prog_10_method_59_code 98 = .ok (.iaload, 1) := by decide +kernel
theorem dX8_eyes_99 : decode prog_10_method_59_code 99 = .ok (.istore 4, 2) := by decide +kernel
theorem dX8_eyes_101 : decode prog_10_method_59_code 101 = .ok (.iconst 0, 1) := by decide +kernel
theorem dX8_eyes_102 : decode prog_10_method_59_code 102 = .ok (.istore 5, 2) := by decide +kernel
theorem dX8_eyes_104 : decode prog_10_method_59_code 104 = .ok (.iconst 0, 1) := by decide +kernel
theorem dX8_eyes_105 : decode prog_10_method_59_code 105 = .ok (.istore 6, 2) := by decide +kernel
theorem dX8_eyes_107 : decode prog_10_method_59_code 107 = .ok (.iload 6, 2) := by decide +kernel
theorem dX8_eyes_109 : decode prog_10_method_59_code 109 = .ok (.iconst 5, 1) := by decide +kernel
theorem dX8_eyes_110 : decode prog_10_method_59_code 110 = .ok (.if_icmp .gt 43, 3) := by decide +kernel
theorem dX8_eyes_113 : decode prog_10_method_59_code 113 = .ok (.aload_n 0, 1) := by decide +kernel
theorem dX8_eyes_114 : decode prog_10_method_59_code 114 = .ok (.getfield 29, 3) := by decide +kernel
theorem dX8_eyes_117 : decode prog_10_method_59_code 117 = .ok (.iload_n 3, 1) := by decide +kernel
theorem dX8_eyes_118 : decode prog_10_method_59_code 118 = .ok (.iload 6, 2) := by decide +kernel
theorem dX8_eyes_120 : decode prog_10_method_59_code 120 = .ok (.iastore, 1) := by decide +kernel
theorem dX8_eyes_121 : decode prog_10_method_59_code 121 = .ok (.aload_n 0, 1) := by decide +kernel
theorem dX8_eyes_122 : decode prog_10_method_59_code 122 = .ok (.iload_n 1, 1) := by decide +kernel
theorem dX8_eyes_123 : decode prog_10_method_59_code 123 = .ok (.iload_n 2, 1) := by decide +kernel
theorem dX8_eyes_124 : decode prog_10_method_59_code 124 = .ok (.invokevirtual 362, 3) := by decide +kernel
theorem dX8_eyes_127 : decode prog_10_method_59_code 127 = .ok (.iload 5, 2) := by decide +kernel
theorem dX8_eyes_129 : decode prog_10_method_59_code 129 = .ok (.aload_n 0, 1) := by decide +kernel
theorem dX8_eyes_130 : decode prog_10_method_59_code 130 = .ok (.getfield 352, 3) := by decide +kernel
theorem dX8_eyes_133 : decode prog_10_method_59_code 133 = .ok (.ifCond .le 7, 3) := by decide +kernel
theorem dX8_eyes_136 : decode prog_10_method_59_code 136 = .ok (.iconst 1, 1) := by decide +kernel
theorem dX8_eyes_137 : decode prog_10_method_59_code 137 = .ok (.goto 4, 3) := by decide +kernel
theorem dX8_eyes_140 : decode prog_10_method_59_code 140 = .ok (.iconst 0, 1) := by decide +kernel
theorem dX8_eyes_141 : decode prog_10_method_59_code 141 = .ok (.iload 6, 2) := by decide +kernel
theorem dX8_eyes_143 : decode prog_10_method_59_code 143 = .ok (.ishl, 1) := by decide +kernel
theorem dX8_eyes_144 : decode prog_10_method_59_code 144 = .ok (.ior, 1) := by decide +kernel
theorem dX8_eyes_145 : decode prog_10_method_59_code 145 = .ok (.istore 5, 2) := by decide +kernel
theorem dX8_eyes_147 : decode prog_10_method_59_code 147 = .ok (.iinc 6 1, 3) := by decide +kernel
theorem dX8_eyes_150 : decode prog_10_method_59_code 150 = .ok (.goto (-43), 3) := by decide +kernel
theorem dX8_eyes_153 : decode prog_10_method_59_code 153 = .ok (.aload_n 0, 1) := by decide +kernel
theorem dX8_eyes_154 : decode prog_10_method_59_code 154 = .ok (.getfield 29, 3) := by decide +kernel
theorem dX8_eyes_157 : decode prog_10_method_59_code 157 = .ok (.iload_n 3, 1) := by decide +kernel
theorem dX8_eyes_158 : decode prog_10_method_59_code 158 = .ok (.iload 4, 2) := by decide +kernel
theorem dX8_eyes_160 : decode prog_10_method_59_code 160 = .ok (.iastore, 1) := by decide +kernel
theorem dX8_eyes_161 : decode prog_10_method_59_code 161 = .ok (.iload 5, 2) := by decide +kernel
theorem dX8_eyes_163 : decode prog_10_method_59_code 163 = .ok (.ireturn, 1) := by decide +kernel
theorem dX8_rowsOf_0 : decode prog_10_method_58_code 0 = .ok (.iconst 1, 1) := by decide +kernel
theorem dX8_rowsOf_1 : decode prog_10_method_58_code 1 = .ok (.istore_n 3, 1) := by decide +kernel
theorem dX8_rowsOf_2 : decode prog_10_method_58_code 2 = .ok (.iconst 0, 1) := by decide +kernel
theorem dX8_rowsOf_3 : decode prog_10_method_58_code 3 = .ok (.istore 4, 2) := by decide +kernel
theorem dX8_rowsOf_5 : decode prog_10_method_58_code 5 = .ok (.iload 4, 2) := by decide +kernel
theorem dX8_rowsOf_7 : decode prog_10_method_58_code 7 = .ok (.iload_n 2, 1) := by decide +kernel
theorem dX8_rowsOf_8 : decode prog_10_method_58_code 8 = .ok (.if_icmp .ge 13, 3) := by decide +kernel
theorem dX8_rowsOf_11 : decode prog_10_method_58_code 11 = .ok (.iload_n 3, 1) := by decide +kernel
theorem dX8_rowsOf_12 : decode prog_10_method_58_code 12 = .ok (.iconst 3, 1) := by decide +kernel
theorem dX8_rowsOf_13 : decode prog_10_method_58_code 13 = .ok (.imul, 1) := by decide +kernel
theorem dX8_rowsOf_14 : decode prog_10_method_58_code 14 = .ok (.istore_n 3, 1) := by decide +kernel
theorem dX8_rowsOf_15 : decode prog_10_method_58_code 15 = .ok (.iinc 4 1, 3) := by decide +kernel
theorem dX8_rowsOf_18 : decode prog_10_method_58_code 18 = .ok (.goto (-13), 3) := by decide +kernel
theorem dX8_rowsOf_21 : decode prog_10_method_58_code 21 = .ok (.aload_n 0, 1) := by decide +kernel
theorem dX8_rowsOf_22 : decode prog_10_method_58_code 22 = .ok (.iconst 0, 1) := by decide +kernel
theorem dX8_rowsOf_23 : decode prog_10_method_58_code 23 = .ok (.putfield 352, 3) := by decide +kernel
theorem dX8_rowsOf_26 : decode prog_10_method_58_code 26 = .ok (.aload_n 0, 1) := by decide +kernel
theorem dX8_rowsOf_27 : decode prog_10_method_58_code 27 = .ok (.iconst (-1), 1) := by decide +kernel
theorem dX8_rowsOf_28 : decode prog_10_method_58_code 28 = .ok (.putfield 355, 3) := by decide +kernel
theorem dX8_rowsOf_31 : decode prog_10_method_58_code 31 = .ok (.iconst 0, 1) := by decide +kernel
theorem dX8_rowsOf_32 : decode prog_10_method_58_code 32 = .ok (.istore 4, 2) := by decide +kernel
theorem dX8_rowsOf_34 : decode prog_10_method_58_code 34 = .ok (.iload 4, 2) := by decide +kernel
theorem dX8_rowsOf_36 : decode prog_10_method_58_code 36 = .ok (.iload_n 3, 1) := by decide +kernel
theorem dX8_rowsOf_37 : decode prog_10_method_58_code 37 = .ok (.if_icmp .ge 170, 3) := by decide +kernel
theorem dX8_rowsOf_40 : decode prog_10_method_58_code 40 = .ok (.aload_n 0, 1) := by decide +kernel
theorem dX8_rowsOf_41 : decode prog_10_method_58_code 41 = .ok (.invokevirtual 302, 3) := by decide +kernel
theorem dX8_rowsOf_44 : decode prog_10_method_58_code 44 = .ok (.aload_n 0, 1) := by decide +kernel
theorem dX8_rowsOf_45 : decode prog_10_method_58_code 45 = .ok (.invokevirtual 292, 3) := by decide +kernel
theorem dX8_rowsOf_48 : decode prog_10_method_58_code 48 = .ok (.iconst 0, 1) := by decide +kernel
theorem dX8_rowsOf_49 : decode prog_10_method_58_code 49 = .ok (.istore 5, 2) := by decide +kernel
theorem dX8_rowsOf_51 : decode prog_10_method_58_code 51 = .ok (.iload_n 3, 1) := by decide +kernel
theorem dX8_rowsOf_52 : decode prog_10_method_58_code 52 = .ok (.istore 6, 2) := by decide +kernel
theorem dX8_rowsOf_54 : decode prog_10_method_58_code 54 = .ok (.iconst 0, 1) := by decide +kernel
theorem dX8_rowsOf_55 : decode prog_10_method_58_code 55 = .ok (.istore 7, 2) := by decide +kernel
theorem dX8_rowsOf_57 : decode prog_10_method_58_code 57 = .ok (.iload 7, 2) := by decide +kernel
theorem dX8_rowsOf_59 : decode prog_10_method_58_code 59 = .ok (.iload_n 2, 1) := by decide +kernel
theorem dX8_rowsOf_60 : decode prog_10_method_58_code 60 = .ok (.if_icmp .ge 46, 3) := by decide +kernel
theorem dX8_rowsOf_63 : decode prog_10_method_58_code 63 = .ok (.iload 6, 2) := by decide +kernel
theorem dX8_rowsOf_65 : decode prog_10_method_58_code 65 = .ok (.iconst 3, 1) := by decide +kernel
theorem dX8_rowsOf_66 : decode prog_10_method_58_code 66 = .ok (.idiv, 1) := by decide +kernel
theorem dX8_rowsOf_67 : decode prog_10_method_58_code 67 = .ok (.istore 6, 2) := by decide +kernel
theorem dX8_rowsOf_69 : decode prog_10_method_58_code 69 = .ok (.iload 4, 2) := by decide +kernel
theorem dX8_rowsOf_71 : decode prog_10_method_58_code 71 = .ok (.iload 6, 2) := by decide +kernel
theorem dX8_rowsOf_73 : decode prog_10_method_58_code 73 = .ok (.idiv, 1) := by decide +kernel
theorem dX8_rowsOf_74 : decode prog_10_method_58_code 74 = .ok (.iconst 3, 1) := by decide +kernel
theorem dX8_rowsOf_75 : decode prog_10_method_58_code 75 = .ok (.irem, 1) := by decide +kernel
theorem dX8_rowsOf_76 : decode prog_10_method_58_code 76 = .ok (.istore 8, 2) := by decide +kernel
theorem dX8_rowsOf_78 : decode prog_10_method_58_code 78 = .ok (.bipush 10, 2) := by decide +kernel
theorem dX8_rowsOf_80 : decode prog_10_method_58_code 80 = .ok (.iload 5, 2) := by decide +kernel
theorem dX8_rowsOf_82 : decode prog_10_method_58_code 82 = .ok (.imul, 1) := by decide +kernel
theorem dX8_rowsOf_83 : decode prog_10_method_58_code 83 = .ok (.iload 8, 2) := by decide +kernel
theorem dX8_rowsOf_85 : decode prog_10_method_58_code 85 = .ok (.iadd, 1) := by decide +kernel
theorem dX8_rowsOf_86 : decode prog_10_method_58_code 86 = .ok (.iconst 1, 1) := by decide +kernel
theorem dX8_rowsOf_87 : decode prog_10_method_58_code 87 = .ok (.iadd, 1) := by decide +kernel
theorem dX8_rowsOf_88 : decode prog_10_method_58_code 88 = .ok (.istore 5, 2) := by decide +kernel
theorem dX8_rowsOf_90 : decode prog_10_method_58_code 90 = .ok (.aload_n 0, 1) := by decide +kernel
theorem dX8_rowsOf_91 : decode prog_10_method_58_code 91 = .ok (.iload 7, 2) := by decide +kernel
theorem dX8_rowsOf_93 : decode prog_10_method_58_code 93 = .ok (.iload 8, 2) := by decide +kernel
theorem dX8_rowsOf_95 : decode prog_10_method_58_code 95 = .ok (.iconst 1, 1) := by decide +kernel
theorem dX8_rowsOf_96 : decode prog_10_method_58_code 96 = .ok (.isub, 1) := by decide +kernel
theorem dX8_rowsOf_97 : decode prog_10_method_58_code 97 = .ok (.invokevirtual 298, 3) := by decide +kernel
theorem dX8_rowsOf_100 : decode prog_10_method_58_code 100 = .ok (.iinc 7 1, 3) := by decide +kernel
theorem dX8_rowsOf_103 : decode prog_10_method_58_code 103 = .ok (.goto (-46), 3) := by decide +kernel
theorem dX8_rowsOf_106 : decode prog_10_method_58_code 106 = .ok (.aload_n 0, 1) := by decide +kernel
theorem dX8_rowsOf_107 : decode prog_10_method_58_code 107 = .ok (.invokevirtual 308, 3) := by decide +kernel
theorem dX8_rowsOf_110 : decode prog_10_method_58_code 110 = .ok (.iconst 1, 1) := by decide +kernel
theorem dX8_rowsOf_111 : decode prog_10_method_58_code 111 = .ok (.istore 7, 2) := by decide +kernel
theorem dX8_rowsOf_113 : decode prog_10_method_58_code 113 = .ok (.iconst 0, 1) := by decide +kernel
theorem dX8_rowsOf_114 : decode prog_10_method_58_code 114 = .ok (.istore 8, 2) := by decide +kernel
theorem dX8_rowsOf_116 : decode prog_10_method_58_code 116 = .ok (.iload 8, 2) := by decide +kernel
theorem dX8_rowsOf_118 : decode prog_10_method_58_code 118 = .ok (.aload_n 0, 1) := by decide +kernel
theorem dX8_rowsOf_119 : decode prog_10_method_58_code 119 = .ok (.getfield 101, 3) := by decide +kernel
theorem dX8_rowsOf_122 : decode prog_10_method_58_code 122 = .ok (.if_icmp .ge 43, 3) := by decide +kernel
theorem dX8_rowsOf_125 : decode prog_10_method_58_code 125 = .ok (.iload 7, 2) := by decide +kernel
theorem dX8_rowsOf_127 : decode prog_10_method_58_code 127 = .ok (.ifCond .eq 29, 3) := by decide +kernel
theorem dX8_rowsOf_130 : decode prog_10_method_58_code 130 = .ok (.aload_n 0, 1) := by decide +kernel
theorem dX8_rowsOf_131 : decode prog_10_method_58_code 131 = .ok (.getfield 44, 3) := by decide +kernel
theorem dX8_rowsOf_134 : decode prog_10_method_58_code 134 = .ok (.iload 8, 2) := by decide +kernel
theorem dX8_rowsOf_136 : decode prog_10_method_58_code 136 = .ok (.iaload, 1) := by decide +kernel
theorem dX8_rowsOf_137 : decode prog_10_method_58_code 137 = .ok (.aload_n 0, 1) := by decide +kernel
theorem dX8_rowsOf_138 : decode prog_10_method_58_code 138 = .ok (.getfield 91, 3) := by decide +kernel
theorem dX8_rowsOf_141 : decode prog_10_method_58_code 141 = .ok (.bipush 40, 2) := by decide +kernel
theorem dX8_rowsOf_143 : decode prog_10_method_58_code 143 = .ok (.iload_n 1, 1) := by decide +kernel
theorem dX8_rowsOf_144 : decode prog_10_method_58_code 144 = .ok (.imul, 1) := by decide +kernel
theorem dX8_rowsOf_145 : decode prog_10_method_58_code 145 = .ok (.iload 8, 2) := by decide +kernel
theorem dX8_rowsOf_147 : decode prog_10_method_58_code 147 = .ok (.iadd, 1) := by decide +kernel
theorem dX8_rowsOf_148 : decode prog_10_method_58_code 148 = .ok (.iaload, 1) := by decide +kernel
theorem dX8_rowsOf_149 : decode prog_10_method_58_code 149 = .ok (.if_icmp .ne 7, 3) := by decide +kernel
theorem dX8_rowsOf_152 : decode prog_10_method_58_code 152 = .ok (.iconst 1, 1) := by decide +kernel
theorem dX8_rowsOf_153 : decode prog_10_method_58_code 153 = .ok (.goto 4, 3) := by decide +kernel
theorem dX8_rowsOf_156 : decode prog_10_method_58_code 156 = .ok (.iconst 0, 1) := by decide +kernel
theorem dX8_rowsOf_157 : decode prog_10_method_58_code 157 = .ok (.istore 7, 2) := by decide +kernel
theorem dX8_rowsOf_159 : decode prog_10_method_58_code 159 = .ok (.iinc 8 1, 3) := by decide +kernel
theorem dX8_rowsOf_162 : decode prog_10_method_58_code 162 = .ok (.goto (-46), 3) := by decide +kernel
theorem dX8_rowsOf_165 : decode prog_10_method_58_code 165 = .ok (.iload 7, 2) := by decide +kernel
theorem dX8_rowsOf_167 : decode prog_10_method_58_code 167 = .ok (.ifCond .eq 34, 3) := by decide +kernel
theorem dX8_rowsOf_170 : decode prog_10_method_58_code 170 = .ok (.aload_n 0, 1) := by decide +kernel
theorem dX8_rowsOf_171 : decode prog_10_method_58_code 171 = .ok (.dup, 1) := by decide +kernel
theorem dX8_rowsOf_172 : decode prog_10_method_58_code 172 = .ok (.getfield 352, 3) := by decide +kernel
theorem dX8_rowsOf_175 : decode prog_10_method_58_code 175 = .ok (.iconst 1, 1) := by decide +kernel
theorem dX8_rowsOf_176 : decode prog_10_method_58_code 176 = .ok (.iadd, 1) := by decide +kernel
theorem dX8_rowsOf_177 : decode prog_10_method_58_code 177 = .ok (.putfield 352, 3) := by decide +kernel
theorem dX8_rowsOf_180 : decode prog_10_method_58_code 180 = .ok (.aload_n 0, 1) := by decide +kernel
theorem dX8_rowsOf_181 : decode prog_10_method_58_code 181 = .ok (.aload_n 0, 1) := by decide +kernel
theorem dX8_rowsOf_182 : decode prog_10_method_58_code 182 = .ok (.getfield 352, 3) := by decide +kernel
theorem dX8_rowsOf_185 : decode prog_10_method_58_code 185 = .ok (.iconst 1, 1) := by decide +kernel
theorem dX8_rowsOf_186 : decode prog_10_method_58_code 186 = .ok (.if_icmp .ne 8, 3) := by decide +kernel
theorem dX8_rowsOf_189 : decode prog_10_method_58_code 189 = .ok (.iload 5, 2) := by decide +kernel
theorem dX8_rowsOf_191 : decode prog_10_method_58_code 191 = .ok (.goto 7, 3) := by decide +kernel
theorem dX8_rowsOf_194 : decode prog_10_method_58_code 194 = .ok (.aload_n 0, 1) := by decide +kernel
theorem dX8_rowsOf_195 : decode prog_10_method_58_code 195 = .ok (.getfield 355, 3) := by decide +kernel
theorem dX8_rowsOf_198 : decode prog_10_method_58_code 198 = .ok (.putfield 355, 3) := by decide +kernel
theorem dX8_rowsOf_201 : decode prog_10_method_58_code 201 = .ok (.iinc 4 1, 3) := by decide +kernel
theorem dX8_rowsOf_204 : decode prog_10_method_58_code 204 = .ok (.goto (-170), 3) := by decide +kernel
theorem dX8_rowsOf_207 : decode prog_10_method_58_code 207 = .ok (.return_, 1) := by decide +kernel
theorem dX8_film_0 : decode prog_10_method_60_code 0 = .ok (.iload_n 1, 1) := by decide +kernel
theorem dX8_film_1 : decode prog_10_method_60_code 1 = .ok (.invokestatic 315, 3) := by decide +kernel
theorem dX8_film_4 : decode prog_10_method_60_code 4 = .ok (.ifCond .eq 10, 3) := by decide +kernel
theorem dX8_film_7 : decode prog_10_method_60_code 7 = .ok (.iload_n 2, 1) := by decide +kernel
theorem dX8_film_8 : decode prog_10_method_60_code 8 = .ok (.invokestatic 315, 3) := by decide +kernel
theorem dX8_film_11 : decode prog_10_method_60_code 11 = .ok (.ifCond .ne 6, 3) := by decide +kernel
theorem dX8_film_14 : decode prog_10_method_60_code 14 = .ok (.bipush (-2), 2) := by decide +kernel
theorem dX8_film_16 : decode prog_10_method_60_code 16 = .ok (.ireturn, 1) := by decide +kernel
theorem dX8_film_17 : decode prog_10_method_60_code 17 = .ok (.aload_n 0, 1) := by decide +kernel
theorem dX8_film_18 : decode prog_10_method_60_code 18 = .ok (.getfield 81, 3) := by decide +kernel
theorem dX8_film_21 : decode prog_10_method_60_code 21 = .ok (.iload_n 2, 1) := by decide +kernel
theorem dX8_film_22 : decode prog_10_method_60_code 22 = .ok (.baload, 1) := by decide +kernel
theorem dX8_film_23 : decode prog_10_method_60_code 23 = .ok (.ifCond .ne 6, 3) := by decide +kernel
theorem dX8_film_26 : decode prog_10_method_60_code 26 = .ok (.bipush (-11), 2) := by decide +kernel
theorem dX8_film_28 : decode prog_10_method_60_code 28 = .ok (.ireturn, 1) := by decide +kernel
theorem dX8_film_29 : decode prog_10_method_60_code 29 = .ok (.aload_n 0, 1) := by decide +kernel
theorem dX8_film_30 : decode prog_10_method_60_code 30 = .ok (.iload_n 2, 1) := by decide +kernel
theorem dX8_film_31 : decode prog_10_method_60_code 31 = .ok (.invokevirtual 348, 3) := by decide +kernel
theorem dX8_film_34 : decode prog_10_method_60_code 34 = .ok (.pop, 1) := by decide +kernel
theorem dX8_film_35 : decode prog_10_method_60_code 35 = .ok (.aload_n 0, 1) := by decide +kernel
theorem dX8_film_36 : decode prog_10_method_60_code 36 = .ok (.iload_n 1, 1) := by decide +kernel
theorem dX8_film_37 : decode prog_10_method_60_code 37 = .ok (.iconst 0, 1) := by decide +kernel
theorem dX8_film_38 : decode prog_10_method_60_code 38 = .ok (.aload_n 0, 1) := by decide +kernel
theorem dX8_film_39 : decode prog_10_method_60_code 39 = .ok (.getfield 101, 3) := by decide +kernel
theorem dX8_film_42 : decode prog_10_method_60_code 42 = .ok (.invokevirtual 365, 3) := by decide +kernel
theorem dX8_film_45 : decode prog_10_method_60_code 45 = .ok (.pop, 1) := by decide +kernel
theorem dX8_film_46 : decode prog_10_method_60_code 46 = .ok (.iconst 0, 1) := by decide +kernel
theorem dX8_film_47 : decode prog_10_method_60_code 47 = .ok (.istore_n 3, 1) := by decide +kernel
theorem dX8_film_48 : decode prog_10_method_60_code 48 = .ok (.iload_n 3, 1) := by decide +kernel
theorem dX8_film_49 : decode prog_10_method_60_code 49 = .ok (.aload_n 0, 1) := by decide +kernel
theorem dX8_film_50 : decode prog_10_method_60_code 50 = .ok (.getfield 101, 3) := by decide +kernel
theorem dX8_film_53 : decode prog_10_method_60_code 53 = .ok (.if_icmp .ge 26, 3) := by decide +kernel
theorem dX8_film_56 : decode prog_10_method_60_code 56 = .ok (.aload_n 0, 1) := by decide +kernel
theorem dX8_film_57 : decode prog_10_method_60_code 57 = .ok (.getfield 91, 3) := by decide +kernel
theorem dX8_film_60 : decode prog_10_method_60_code 60 = .ok (.bipush 40, 2) := by decide +kernel
theorem dX8_film_62 : decode prog_10_method_60_code 62 = .ok (.iload_n 1, 1) := by decide +kernel
theorem dX8_film_63 : decode prog_10_method_60_code 63 = .ok (.imul, 1) := by decide +kernel
theorem dX8_film_64 : decode prog_10_method_60_code 64 = .ok (.iload_n 3, 1) := by decide +kernel
theorem dX8_film_65 : decode prog_10_method_60_code 65 = .ok (.iadd, 1) := by decide +kernel
theorem dX8_film_66 : decode prog_10_method_60_code 66 = .ok (.aload_n 0, 1) := by decide +kernel
theorem dX8_film_67 : decode prog_10_method_60_code 67 = .ok (.getfield 44, 3) := by decide +kernel
theorem dX8_film_70 : decode prog_10_method_60_code 70 = .ok (.iload_n 3, 1) := by decide +kernel
theorem dX8_film_71 : decode prog_10_method_60_code 71 = .ok (.iaload, 1) := by decide +kernel
theorem dX8_film_72 : decode prog_10_method_60_code 72 = .ok (.iastore, 1) := by decide +kernel
theorem dX8_film_73 : decode prog_10_method_60_code 73 = .ok (.iinc 3 1, 3) := by decide +kernel
theorem dX8_film_76 : decode prog_10_method_60_code 76 = .ok (.goto (-28), 3) := by decide +kernel
theorem dX8_film_79 : decode prog_10_method_60_code 79 = .ok (.aload_n 0, 1) := by decide +kernel
theorem dX8_film_80 : decode prog_10_method_60_code 80 = .ok (.getfield 101, 3) := by decide +kernel
theorem dX8_film_83 : decode prog_10_method_60_code 83 = .ok (.ireturn, 1) := by decide +kernel
theorem dX8_sheet_0 : decode prog_10_method_68_code 0 = .ok (.iload_n 1, 1) := by decide +kernel
theorem dX8_sheet_1 : decode prog_10_method_68_code 1 = .ok (.invokestatic 315, 3) := by decide +kernel
theorem dX8_sheet_4 : decode prog_10_method_68_code 4 = .ok (.ifCond .eq 27, 3) := by decide +kernel
theorem dX8_sheet_7 : decode prog_10_method_68_code 7 = .ok (.iload_n 2, 1) := by decide +kernel
theorem dX8_sheet_8 : decode prog_10_method_68_code 8 = .ok (.i2l, 1) := by decide +kernel
theorem dX8_sheet_9 : decode prog_10_method_68_code 9 = .ok (.ldc2_w 360, 3) := by decide +kernel
theorem dX8_sheet_12 : decode prog_10_method_68_code 12 = .ok (.ldc2_w 377, 3) := by decide +kernel
theorem dX8_sheet_15 : decode prog_10_method_68_code 15 = .ok (.invokestatic 104, 3) := by decide +kernel
theorem dX8_sheet_18 : decode prog_10_method_68_code 18 = .ok (.ifCond .eq 13, 3) := by decide +kernel
theorem dX8_sheet_21 : decode prog_10_method_68_code 21 = .ok (.iload_n 2, 1) := by decide +kernel
theorem dX8_sheet_22 : decode prog_10_method_68_code 22 = .ok (.ifCond .lt 12, 3) := by decide +kernel
theorem dX8_sheet_25 : decode prog_10_method_68_code 25 = .ok (.iload_n 3, 1) := by decide +kernel
theorem dX8_sheet_26 : decode prog_10_method_68_code 26 = .ok (.bipush 40, 2) := by decide +kernel
theorem dX8_sheet_28 : decode prog_10_method_68_code 28 = .ok (.if_icmp .le 6, 3) := by decide +kernel
theorem dX8_sheet_31 : decode prog_10_method_68_code 31 = .ok (.bipush (-2), 2) := by decide +kernel
theorem dX8_sheet_33 : decode prog_10_method_68_code 33 = .ok (.ireturn, 1) := by decide +kernel
theorem dX8_sheet_34 : decode prog_10_method_68_code 34 = .ok (.iload_n 2, 1) := by decide +kernel
theorem dX8_sheet_35 : decode prog_10_method_68_code 35 = .ok (.ifCond .lt 10, 3) := by decide +kernel
theorem dX8_sheet_38 : decode prog_10_method_68_code 38 = .ok (.iload_n 3, 1) := by decide +kernel
theorem dX8_sheet_39 : decode prog_10_method_68_code 39 = .ok (.ifCond .ge 6, 3) := by decide +kernel
theorem dX8_sheet_42 : decode prog_10_method_68_code 42 = .ok (.bipush (-14), 2) := by decide +kernel
theorem dX8_sheet_44 : decode prog_10_method_68_code 44 = .ok (.ireturn, 1) := by decide +kernel
theorem dX8_sheet_45 : decode prog_10_method_68_code 45 = .ok (.aload_n 0, 1) := by decide +kernel
theorem dX8_sheet_46 : decode prog_10_method_68_code 46 = .ok (.getfield 81, 3) := by decide +kernel
theorem dX8_sheet_49 : decode prog_10_method_68_code 49 = .ok (.iload_n 1, 1) := by decide +kernel
theorem dX8_sheet_50 : decode prog_10_method_68_code 50 = .ok (.iload_n 2, 1) := by decide +kernel
theorem dX8_sheet_51 : decode prog_10_method_68_code 51 = .ok (.ifCond .lt 7, 3) := by decide +kernel
theorem dX8_sheet_54 : decode prog_10_method_68_code 54 = .ok (.iconst 1, 1) := by decide +kernel
theorem dX8_sheet_55 : decode prog_10_method_68_code 55 = .ok (.goto 4, 3) := by decide +kernel
theorem dX8_sheet_58 : decode prog_10_method_68_code 58 = .ok (.iconst 0, 1) := by decide +kernel
theorem dX8_sheet_59 : decode prog_10_method_68_code 59 = .ok (.bastore, 1) := by decide +kernel
theorem dX8_sheet_60 : decode prog_10_method_68_code 60 = .ok (.aload_n 0, 1) := by decide +kernel
theorem dX8_sheet_61 : decode prog_10_method_68_code 61 = .ok (.getfield 85, 3) := by decide +kernel
theorem dX8_sheet_64 : decode prog_10_method_68_code 64 = .ok (.iload_n 1, 1) := by decide +kernel
theorem dX8_sheet_65 : decode prog_10_method_68_code 65 = .ok (.iload_n 2, 1) := by decide +kernel
theorem dX8_sheet_66 : decode prog_10_method_68_code 66 = .ok (.iastore, 1) := by decide +kernel
theorem dX8_sheet_67 : decode prog_10_method_68_code 67 = .ok (.aload_n 0, 1) := by decide +kernel
theorem dX8_sheet_68 : decode prog_10_method_68_code 68 = .ok (.getfield 88, 3) := by decide +kernel
theorem dX8_sheet_71 : decode prog_10_method_68_code 71 = .ok (.iload_n 1, 1) := by decide +kernel
theorem dX8_sheet_72 : decode prog_10_method_68_code 72 = .ok (.iload_n 3, 1) := by decide +kernel
theorem dX8_sheet_73 : decode prog_10_method_68_code 73 = .ok (.iastore, 1) := by decide +kernel
theorem dX8_sheet_74 : decode prog_10_method_68_code 74 = .ok (.iconst 0, 1) := by decide +kernel
theorem dX8_sheet_75 : decode prog_10_method_68_code 75 = .ok (.istore 4, 2) := by decide +kernel
theorem dX8_sheet_77 : decode prog_10_method_68_code 77 = .ok (.iload 4, 2) := by decide +kernel
theorem dX8_sheet_79 : decode prog_10_method_68_code 79 = .ok (.iload_n 3, 1) := by decide +kernel
theorem dX8_sheet_80 : decode prog_10_method_68_code 80 = .ok (.if_icmp .ge 26, 3) := by decide +kernel
theorem dX8_sheet_83 : decode prog_10_method_68_code 83 = .ok (.iload_n 2, 1) := by decide +kernel
theorem dX8_sheet_84 : decode prog_10_method_68_code 84 = .ok (.ifCond .lt 22, 3) := by decide +kernel
theorem dX8_sheet_87 : decode prog_10_method_68_code 87 = .ok (.aload_n 0, 1) := by decide +kernel
theorem dX8_sheet_88 : decode prog_10_method_68_code 88 = .ok (.getfield 91, 3) := by decide +kernel
theorem dX8_sheet_91 : decode prog_10_method_68_code 91 = .ok (.bipush 40, 2) := by decide +kernel
theorem dX8_sheet_93 : decode prog_10_method_68_code 93 = .ok (.iload_n 1, 1) := by decide +kernel
theorem dX8_sheet_94 : decode prog_10_method_68_code 94 = .ok (.imul, 1) := by decide +kernel
theorem dX8_sheet_95 : decode prog_10_method_68_code 95 = .ok (.iload 4, 2) := by decide +kernel
theorem dX8_sheet_97 : decode prog_10_method_68_code 97 = .ok (.iadd, 1) := by decide +kernel
theorem dX8_sheet_98 : decode prog_10_method_68_code 98 = .ok (.iconst 0, 1) := by decide +kernel
theorem dX8_sheet_99 : decode prog_10_method_68_code 99 = .ok (.iastore, 1) := by decide +kernel
theorem dX8_sheet_100 : decode prog_10_method_68_code 100 = .ok (.iinc 4 1, 3) := by decide +kernel
theorem dX8_sheet_103 : decode prog_10_method_68_code 103 = .ok (.goto (-26), 3) := by decide +kernel
theorem dX8_sheet_106 : decode prog_10_method_68_code 106 = .ok (.iconst 1, 1) := by decide +kernel
theorem dX8_sheet_107 : decode prog_10_method_68_code 107 = .ok (.ireturn, 1) := by decide +kernel
theorem dX8_drawn_0 : decode prog_10_method_62_code 0 = .ok (.aload_n 0, 1) := by decide +kernel
theorem dX8_drawn_1 : decode prog_10_method_62_code 1 = .ok (.iload_n 1, 1) := by decide +kernel
theorem dX8_drawn_2 : decode prog_10_method_62_code 2 = .ok (.invokevirtual 369, 3) := by decide +kernel
theorem dX8_drawn_5 : decode prog_10_method_62_code 5 = .ok (.ireturn, 1) := by decide +kernel
theorem dX8_draws_0 : decode prog_10_method_61_code 0 = .ok (.aload_n 0, 1) := by decide +kernel
theorem dX8_draws_1 : decode prog_10_method_61_code 1 = .ok (.invokevirtual 302, 3) := by decide +kernel
theorem dX8_draws_4 : decode prog_10_method_61_code 4 = .ok (.aload_n 0, 1) := by decide +kernel
theorem dX8_draws_5 : decode prog_10_method_61_code 5 = .ok (.invokevirtual 292, 3) := by decide +kernel
theorem dX8_draws_8 : decode prog_10_method_61_code 8 = .ok (.iload_n 1, 1) := by decide +kernel
theorem dX8_draws_9 : decode prog_10_method_61_code 9 = .ok (.istore_n 2, 1) := by decide +kernel
theorem dX8_draws_10 : decode prog_10_method_61_code 10 = .ok (.iconst 0, 1) := by decide +kernel
theorem dX8_draws_11 : decode prog_10_method_61_code 11 = .ok (.istore_n 3, 1) := by decide +kernel
theorem dX8_draws_12 : decode prog_10_method_61_code 12 = .ok (.iload_n 3, 1) := by decide +kernel
theorem dX8_draws_13 : decode prog_10_method_61_code 13 = .ok (.bipush 10, 2) := by decide +kernel
theorem dX8_draws_15 : decode prog_10_method_61_code 15 = .ok (.if_icmp .ge 65, 3) := by decide +kernel
theorem dX8_draws_18 : decode prog_10_method_61_code 18 = .ok (.iload_n 2, 1) := by decide +kernel
theorem dX8_draws_19 : decode prog_10_method_61_code 19 = .ok (.ldc_w 368, 3) := by decide +kernel
theorem dX8_draws_22 : decode prog_10_method_61_code 22 = .ok (.imul, 1) := by decide +kernel
theorem dX8_draws_23 : decode prog_10_method_61_code 23 = .ok (.sipush 12345, 3) := by decide +kernel
theorem dX8_draws_26 : decode prog_10_method_61_code 26 = .ok (.iadd, 1) := by decide +kernel
theorem dX8_draws_27 : decode prog_10_method_61_code 27 = .ok (.istore_n 2, 1) := by decide +kernel
theorem dX8_draws_28 : decode prog_10_method_61_code 28 = .ok (.iload_n 2, 1) := by decide +kernel
theorem dX8_draws_29 : decode prog_10_method_61_code 29 = .ok (.bipush 9, 2) := by decide +kernel
theorem dX8_draws_31 : decode prog_10_method_61_code 31 = .ok (.iushr, 1) := by decide +kernel
theorem dX8_draws_32 : decode prog_10_method_61_code 32 = .ok (.bipush 100, 2) := by decide +kernel
theorem dX8_draws_34 : decode prog_10_method_61_code 34 = .ok (.irem, 1) := by decide +kernel
theorem dX8_draws_35 : decode prog_10_method_61_code 35 = .ok (.istore 4, 2) := by decide +kernel
theorem dX8_draws_37 : decode prog_10_method_61_code 37 = .ok (.aload_n 0, 1) := by decide +kernel
theorem dX8_draws_38 : decode prog_10_method_61_code 38 = .ok (.iload_n 3, 1) := by decide +kernel
theorem dX8_draws_39 : decode prog_10_method_61_code 39 = .ok (.iload 4, 2) := by decide +kernel
theorem dX8_draws_41 : decode prog_10_method_61_code 41 = .ok (.aload_n 0, 1) := by decide +kernel
theorem dX8_draws_42 : decode prog_10_method_61_code 42 = .ok (.getfield 23, 3) := by decide +kernel
theorem dX8_draws_45 : decode prog_10_method_61_code 45 = .ok (.if_icmp .ge 7, 3) := by decide +kernel
theorem dX8_draws_48 : decode prog_10_method_61_code 48 = .ok (.iconst (-1), 1) := by decide +kernel
theorem dX8_draws_49 : decode prog_10_method_61_code 49 = .ok (.goto 22, 3) := by decide +kernel
theorem dX8_draws_52 : decode prog_10_method_61_code 52 = .ok (.iload 4, 2) := by decide +kernel
theorem dX8_draws_54 : decode prog_10_method_61_code 54 = .ok (.aload_n 0, 1) := by decide +kernel
theorem dX8_draws_55 : decode prog_10_method_61_code 55 = .ok (.getfield 23, 3) := by decide +kernel
theorem dX8_draws_58 : decode prog_10_method_61_code 58 = .ok (.aload_n 0, 1) := by decide +kernel
theorem dX8_draws_59 : decode prog_10_method_61_code 59 = .ok (.getfield 26, 3) := by decide +kernel
theorem dX8_draws_62 : decode prog_10_method_61_code 62 = .ok (.iadd, 1) := by decide +kernel
theorem dX8_draws_63 : decode prog_10_method_61_code 63 = .ok (.if_icmp .ge 7, 3) := by decide +kernel
theorem dX8_draws_66 : decode prog_10_method_61_code 66 = .ok (.iconst 1, 1) := by decide +kernel
theorem dX8_draws_67 : decode prog_10_method_61_code 67 = .ok (.goto 4, 3) := by decide +kernel
theorem dX8_draws_70 : decode prog_10_method_61_code 70 = .ok (.iconst 0, 1) := by decide +kernel
theorem dX8_draws_71 : decode prog_10_method_61_code 71 = .ok (.invokevirtual 298, 3) := by decide +kernel
theorem dX8_draws_74 : decode prog_10_method_61_code 74 = .ok (.iinc 3 1, 3) := by decide +kernel
theorem dX8_draws_77 : decode prog_10_method_61_code 77 = .ok (.goto (-65), 3) := by decide +kernel
theorem dX8_draws_80 : decode prog_10_method_61_code 80 = .ok (.aload_n 0, 1) := by decide +kernel
theorem dX8_draws_81 : decode prog_10_method_61_code 81 = .ok (.invokevirtual 308, 3) := by decide +kernel
theorem dX8_draws_84 : decode prog_10_method_61_code 84 = .ok (.aload_n 0, 1) := by decide +kernel
theorem dX8_draws_85 : decode prog_10_method_61_code 85 = .ok (.aload_n 0, 1) := by decide +kernel
theorem dX8_draws_86 : decode prog_10_method_61_code 86 = .ok (.getfield 41, 3) := by decide +kernel
theorem dX8_draws_89 : decode prog_10_method_61_code 89 = .ok (.invokevirtual 311, 3) := by decide +kernel
theorem dX8_draws_92 : decode prog_10_method_61_code 92 = .ok (.ireturn, 1) := by decide +kernel
theorem dX8_chance_0 : decode prog_10_method_63_code 0 = .ok (.iload_n 2, 1) := by decide +kernel
theorem dX8_chance_1 : decode prog_10_method_63_code 1 = .ok (.i2l, 1) := by decide +kernel
theorem dX8_chance_2 : decode prog_10_method_63_code 2 = .ok (.lconst 1, 1) := by decide +kernel
theorem dX8_chance_3 : decode prog_10_method_63_code 3 = .ok (.ldc2_w 372, 3) := by decide +kernel
theorem dX8_chance_6 : decode prog_10_method_63_code 6 = .ok (.invokestatic 104, 3) := by decide +kernel
theorem dX8_chance_9 : decode prog_10_method_63_code 9 = .ok (.ifCond .eq 13, 3) := by decide +kernel
theorem dX8_chance_12 : decode prog_10_method_63_code 12 = .ok (.iload_n 3, 1) := by decide +kernel
theorem dX8_chance_13 : decode prog_10_method_63_code 13 = .ok (.i2l, 1) := by decide +kernel
theorem dX8_chance_14 : decode prog_10_method_63_code 14 = .ok (.lconst 0, 1) := by decide +kernel
theorem dX8_chance_15 : decode prog_10_method_63_code 15 = .ok (.lconst 1, 1) := by decide +kernel
theorem dX8_chance_16 : decode prog_10_method_63_code 16 = .ok (.invokestatic 104, 3) := by decide +kernel
theorem dX8_chance_19 : decode prog_10_method_63_code 19 = .ok (.ifCond .ne 7, 3) := by decide +kernel
theorem dX8_chance_22 : decode prog_10_method_63_code 22 = .ok (.ldc2_w 329, 3) := by decide +kernel
theorem dX8_chance_25 : decode prog_10_method_63_code 25 = .ok (.lreturn, 1) := by decide +kernel
theorem dX8_chance_26 : decode prog_10_method_63_code 26 = .ok (.lconst 0, 1) := by decide +kernel
theorem dX8_chance_27 : decode prog_10_method_63_code 27 = .ok (.lstore 4, 2) := by decide +kernel
theorem dX8_chance_29 : decode prog_10_method_63_code 29 = .ok (.iconst 0, 1) := by decide +kernel
theorem dX8_chance_30 : decode prog_10_method_63_code 30 = .ok (.istore 6, 2) := by decide +kernel
theorem dX8_chance_32 : decode prog_10_method_63_code 32 = .ok (.iload 6, 2) := by decide +kernel
theorem dX8_chance_34 : decode prog_10_method_63_code 34 = .ok (.iload_n 2, 1) := by decide +kernel
theorem dX8_chance_35 : decode prog_10_method_63_code 35 = .ok (.if_icmp .ge 39, 3) := by decide +kernel
theorem dX8_chance_38 : decode prog_10_method_63_code 38 = .ok (.aload_n 0, 1) := by decide +kernel
theorem dX8_chance_39 : decode prog_10_method_63_code 39 = .ok (.iload_n 1, 1) := by decide +kernel
theorem dX8_chance_40 : decode prog_10_method_63_code 40 = .ok (.iload 6, 2) := by decide +kernel
theorem dX8_chance_42 : decode prog_10_method_63_code 42 = .ok (.iadd, 1) := by decide +kernel
theorem dX8_chance_43 : decode prog_10_method_63_code 43 = .ok (.invokevirtual 369, 3) := by decide +kernel
theorem dX8_chance_46 : decode prog_10_method_63_code 46 = .ok (.pop, 1) := by decide +kernel
theorem dX8_chance_47 : decode prog_10_method_63_code 47 = .ok (.lload 4, 2) := by decide +kernel
theorem dX8_chance_49 : decode prog_10_method_63_code 49 = .ok (.aload_n 0, 1) := by decide +kernel
theorem dX8_chance_50 : decode prog_10_method_63_code 50 = .ok (.aload_n 0, 1) := by decide +kernel
theorem dX8_chance_51 : decode prog_10_method_63_code 51 = .ok (.getfield 50, 3) := by decide +kernel
theorem dX8_chance_54 : decode prog_10_method_63_code 54 = .ok (.invokevirtual 311, 3) := by decide +kernel
theorem dX8_chance_57 : decode prog_10_method_63_code 57 = .ok (.ifCond .ne 7, 3) := by decide +kernel
theorem dX8_chance_60 : decode prog_10_method_63_code 60 = .ok (.lconst 1, 1) := by decide +kernel
theorem dX8_chance_61 : decode prog_10_method_63_code 61 = .ok (.goto 4, 3) := by decide +kernel
theorem dX8_chance_64 : decode prog_10_method_63_code 64 = .ok (.lconst 0, 1) := by decide +kernel
theorem dX8_chance_65 : decode prog_10_method_63_code 65 = .ok (.ladd, 1) := by decide +kernel
theorem dX8_chance_66 : decode prog_10_method_63_code 66 = .ok (.lstore 4, 2) := by decide +kernel
theorem dX8_chance_68 : decode prog_10_method_63_code 68 = .ok (.iinc 6 1, 3) := by decide +kernel
theorem dX8_chance_71 : decode prog_10_method_63_code 71 = .ok (.goto (-39), 3) := by decide +kernel
theorem dX8_chance_74 : decode prog_10_method_63_code 74 = .ok (.lload 4, 2) := by decide +kernel
theorem dX8_chance_76 : decode prog_10_method_63_code 76 = .ok (.iload_n 2, 1) := by decide +kernel
theorem dX8_chance_77 : decode prog_10_method_63_code 77 = .ok (.i2l, 1) := by decide +kernel
theorem dX8_chance_78 : decode prog_10_method_63_code 78 = .ok (.iload_n 3, 1) := by decide +kernel
theorem dX8_chance_79 : decode prog_10_method_63_code 79 = .ok (.invokestatic 334, 3) := by decide +kernel
theorem dX8_chance_82 : decode prog_10_method_63_code 82 = .ok (.lreturn, 1) := by decide +kernel
theorem dX8_image_0 : decode prog_10_method_64_code 0 = .ok (.iconst 0, 1) := by decide +kernel
theorem dX8_image_1 : decode prog_10_method_64_code 1 = .ok (.istore_n 1, 1) := by decide +kernel
theorem dX8_image_2 : decode prog_10_method_64_code 2 = .ok (.iload_n 1, 1) := by decide +kernel
theorem dX8_image_3 : decode prog_10_method_64_code 3 = .ok (.iconst 5, 1) := by decide +kernel
theorem dX8_image_4 : decode prog_10_method_64_code 4 = .ok (.if_icmp .ge 35, 3) := by decide +kernel
theorem dX8_image_7 : decode prog_10_method_64_code 7 = .ok (.aload_n 0, 1) := by decide +kernel
theorem dX8_image_8 : decode prog_10_method_64_code 8 = .ok (.getfield 75, 3) := by decide +kernel
theorem dX8_image_11 : decode prog_10_method_64_code 11 = .ok (.iload_n 1, 1) := by decide +kernel
theorem dX8_image_12 : decode prog_10_method_64_code 12 = .ok (.aload_n 0, 1) := by decide +kernel
theorem dX8_image_13 : decode prog_10_method_64_code 13 = .ok (.getfield 32, 3) := by decide +kernel
theorem dX8_image_16 : decode prog_10_method_64_code 16 = .ok (.iload_n 1, 1) := by decide +kernel
theorem dX8_image_17 : decode prog_10_method_64_code 17 = .ok (.iaload, 1) := by decide +kernel
theorem dX8_image_18 : decode prog_10_method_64_code 18 = .ok (.iastore, 1) := by decide +kernel
theorem dX8_image_19 : decode prog_10_method_64_code 19 = .ok (.aload_n 0, 1) := by decide +kernel
theorem dX8_image_20 : decode prog_10_method_64_code 20 = .ok (.getfield 75, 3) := by decide +kernel
theorem dX8_image_23 : decode prog_10_method_64_code 23 = .ok (.iconst 5, 1) := by decide +kernel
theorem dX8_image_24 : decode prog_10_method_64_code 24 = .ok (.iload_n 1, 1) := by decide +kernel
theorem dX8_image_25 : decode prog_10_method_64_code 25 = .ok (.iadd, 1) := by decide +kernel
theorem dX8_image_26 : decode prog_10_method_64_code 26 = .ok (.aload_n 0, 1) := by decide +kernel
theorem dX8_image_27 : decode prog_10_method_64_code 27 = .ok (.getfield 35, 3) := by decide +kernel
theorem dX8_image_30 : decode prog_10_method_64_code 30 = .ok (.iload_n 1, 1) := by decide +kernel
theorem dX8_image_31 : decode prog_10_method_64_code 31 = .ok (.iaload, 1) := by decide +kernel
theorem dX8_image_32 : decode prog_10_method_64_code 32 = .ok (.iastore, 1) := by decide +kernel
theorem dX8_image_33 : decode prog_10_method_64_code 33 = .ok (.iinc 1 1, 3) := by decide +kernel
theorem dX8_image_36 : decode prog_10_method_64_code 36 = .ok (.goto (-34), 3) := by decide +kernel
theorem dX8_image_39 : decode prog_10_method_64_code 39 = .ok (.aload_n 0, 1) := by decide +kernel
theorem dX8_image_40 : decode prog_10_method_64_code 40 = .ok (.getfield 75, 3) := by decide +kernel
theorem dX8_image_43 : decode prog_10_method_64_code 43 = .ok (.bipush 10, 2) := by decide +kernel
theorem dX8_image_45 : decode prog_10_method_64_code 45 = .ok (.aload_n 0, 1) := by decide +kernel
theorem dX8_image_46 : decode prog_10_method_64_code 46 = .ok (.getfield 120, 3) := by decide +kernel
theorem dX8_image_49 : decode prog_10_method_64_code 49 = .ok (.iastore, 1) := by decide +kernel
theorem dX8_image_50 : decode prog_10_method_64_code 50 = .ok (.aload_n 0, 1) := by decide +kernel
theorem dX8_image_51 : decode prog_10_method_64_code 51 = .ok (.getfield 75, 3) := by decide +kernel
theorem dX8_image_54 : decode prog_10_method_64_code 54 = .ok (.bipush 11, 2) := by decide +kernel
theorem dX8_image_56 : decode prog_10_method_64_code 56 = .ok (.aload_n 0, 1) := by decide +kernel
theorem dX8_image_57 : decode prog_10_method_64_code 57 = .ok (.getfield 23, 3) := by decide +kernel
theorem dX8_image_60 : decode prog_10_method_64_code 60 = .ok (.iastore, 1) := by decide +kernel
theorem dX8_image_61 : decode prog_10_method_64_code 61 = .ok (.aload_n 0, 1) := by decide +kernel
theorem dX8_image_62 : decode prog_10_method_64_code 62 = .ok (.getfield 75, 3) := by decide +kernel
theorem dX8_image_65 : decode prog_10_method_64_code 65 = .ok (.bipush 12, 2) := by decide +kernel
theorem dX8_image_67 : decode prog_10_method_64_code 67 = .ok (.aload_n 0, 1) := by decide +kernel
theorem dX8_image_68 : decode prog_10_method_64_code 68 = .ok (.getfield 26, 3) := by decide +kernel
theorem dX8_image_71 : decode prog_10_method_64_code 71 = .ok (.iastore, 1) := by decide +kernel
theorem dX8_image_72 : decode prog_10_method_64_code 72 = .ok (.aload_n 0, 1) := by decide +kernel
theorem dX8_image_73 : decode prog_10_method_64_code 73 = .ok (.getfield 75, 3) := by decide +kernel
theorem dX8_image_76 : decode prog_10_method_64_code 76 = .ok (.bipush 13, 2) := by decide +kernel
theorem dX8_image_78 : decode prog_10_method_64_code 78 = .ok (.aload_n 0, 1) := by decide +kernel
theorem dX8_image_79 : decode prog_10_method_64_code 79 = .ok (.getfield 123, 3) := by decide +kernel
theorem dX8_image_82 : decode prog_10_method_64_code 82 = .ok (.iastore, 1) := by decide +kernel
theorem dX8_image_83 : decode prog_10_method_64_code 83 = .ok (.aload_n 0, 1) := by decide +kernel
theorem dX8_image_84 : decode prog_10_method_64_code 84 = .ok (.getfield 75, 3) := by decide +kernel
theorem dX8_image_87 : decode prog_10_method_64_code 87 = .ok (.bipush 14, 2) := by decide +kernel
theorem dX8_image_89 : decode prog_10_method_64_code 89 = .ok (.aload_n 0, 1) := by decide +kernel
theorem dX8_image_90 : decode prog_10_method_64_code 90 = .ok (.getfield 126, 3) := by decide +kernel
theorem dX8_image_93 : decode prog_10_method_64_code 93 = .ok (.iastore, 1) := by decide +kernel
theorem dX8_image_94 : decode prog_10_method_64_code 94 = .ok (.aload_n 0, 1) := by decide +kernel
theorem dX8_image_95 : decode prog_10_method_64_code 95 = .ok (.aload_n 0, 1) := by decide +kernel
theorem dX8_image_96 : decode prog_10_method_64_code 96 = .ok (.getfield 101, 3) := by decide +kernel
theorem dX8_image_99 : decode prog_10_method_64_code 99 = .ok (.putfield 78, 3) := by decide +kernel
theorem dX8_image_102 : decode prog_10_method_64_code 102 = .ok (.aload_n 0, 1) := by decide +kernel
theorem dX8_image_103 : decode prog_10_method_64_code 103 = .ok (.aload_n 0, 1) := by decide +kernel
theorem dX8_image_104 : decode prog_10_method_64_code 104 = .ok (.getfield 266, 3) := by decide +kernel
theorem dX8_image_107 : decode prog_10_method_64_code 107 = .ok (.putfield 374, 3) := by decide +kernel
theorem dX8_image_110 : decode prog_10_method_64_code 110 = .ok (.aload_n 0, 1) := by decide +kernel
theorem dX8_image_111 : decode prog_10_method_64_code 111 = .ok (.getfield 101, 3) := by decide +kernel
theorem dX8_image_114 : decode prog_10_method_64_code 114 = .ok (.ireturn, 1) := by decide +kernel
theorem dX8_back_0 : decode prog_10_method_65_code 0 = .ok (.aload_n 0, 1) := by decide +kernel
theorem dX8_back_1 : decode prog_10_method_65_code 1 = .ok (.getfield 78, 3) := by decide +kernel
theorem dX8_back_4 : decode prog_10_method_65_code 4 = .ok (.iconst (-1), 1) := by decide +kernel
theorem dX8_back_5 : decode prog_10_method_65_code 5 = .ok (.if_icmp .ne 6, 3) := by decide +kernel
theorem dX8_back_8 : decode prog_10_method_65_code 8 = .ok (.bipush (-3), 2) := by decide +kernel
theorem dX8_back_10 : decode prog_10_method_65_code 10 = .ok (.ireturn, 1) := by decide +kernel
theorem dX8_back_11 : decode prog_10_method_65_code 11 = .ok (.iconst 0, 1) := by decide +kernel
theorem dX8_back_12 : decode prog_10_method_65_code 12 = .ok (.istore_n 1, 1) := by decide +kernel
theorem dX8_back_13 : decode prog_10_method_65_code 13 = .ok (.iload_n 1, 1) := by decide +kernel
theorem dX8_back_14 : decode prog_10_method_65_code 14 = .ok (.iconst 5, 1) := by decide +kernel
theorem dX8_back_15 : decode prog_10_method_65_code 15 = .ok (.if_icmp .ge 35, 3) := by decide +kernel
theorem dX8_back_18 : decode prog_10_method_65_code 18 = .ok (.aload_n 0, 1) := by decide +kernel
theorem dX8_back_19 : decode prog_10_method_65_code 19 = .ok (.getfield 32, 3) := by decide +kernel
theorem dX8_back_22 : decode prog_10_method_65_code 22 = .ok (.iload_n 1, 1) := by decide +kernel
theorem dX8_back_23 : decode prog_10_method_65_code 23 = .ok (.aload_n 0, 1) := by decide +kernel
theorem dX8_back_24 : decode prog_10_method_65_code 24 = .ok (.getfield 75, 3) := by decide +kernel
theorem dX8_back_27 : decode prog_10_method_65_code 27 = .ok (.iload_n 1, 1) := by decide +kernel
theorem dX8_back_28 : decode prog_10_method_65_code 28 = .ok (.iaload, 1) := by decide +kernel
theorem dX8_back_29 : decode prog_10_method_65_code 29 = .ok (.iastore, 1) := by decide +kernel
theorem dX8_back_30 : decode prog_10_method_65_code 30 = .ok (.aload_n 0, 1) := by decide +kernel
theorem dX8_back_31 : decode prog_10_method_65_code 31 = .ok (.getfield 35, 3) := by decide +kernel
theorem dX8_back_34 : decode prog_10_method_65_code 34 = .ok (.iload_n 1, 1) := by decide +kernel
theorem dX8_back_35 : decode prog_10_method_65_code 35 = .ok (.aload_n 0, 1) := by decide +kernel
theorem dX8_back_36 : decode prog_10_method_65_code 36 = .ok (.getfield 75, 3) := by decide +kernel
theorem dX8_back_39 : decode prog_10_method_65_code 39 = .ok (.iconst 5, 1) := by decide +kernel
theorem dX8_back_40 : decode prog_10_method_65_code 40 = .ok (.iload_n 1, 1) := by decide +kernel
theorem dX8_back_41 : decode prog_10_method_65_code 41 = .ok (.iadd, 1) := by decide +kernel
theorem dX8_back_42 : decode prog_10_method_65_code 42 = .ok (.iaload, 1) := by decide +kernel
theorem dX8_back_43 : decode prog_10_method_65_code 43 = .ok (.iastore, 1) := by decide +kernel
theorem dX8_back_44 : decode prog_10_method_65_code 44 = .ok (.iinc 1 1, 3) := by decide +kernel
theorem dX8_back_47 : decode prog_10_method_65_code 47 = .ok (.goto (-34), 3) := by decide +kernel
theorem dX8_back_50 : decode prog_10_method_65_code 50 = .ok (.aload_n 0, 1) := by decide +kernel
theorem dX8_back_51 : decode prog_10_method_65_code 51 = .ok (.aload_n 0, 1) := by decide +kernel
theorem dX8_back_52 : decode prog_10_method_65_code 52 = .ok (.getfield 75, 3) := by decide +kernel
theorem dX8_back_55 : decode prog_10_method_65_code 55 = .ok (.bipush 10, 2) := by decide +kernel
theorem dX8_back_57 : decode prog_10_method_65_code 57 = .ok (.iaload, 1) := by decide +kernel
theorem dX8_back_58 : decode prog_10_method_65_code 58 = .ok (.putfield 120, 3) := by decide +kernel
theorem dX8_back_61 : decode prog_10_method_65_code 61 = .ok (.aload_n 0, 1) := by decide +kernel
theorem dX8_back_62 : decode prog_10_method_65_code 62 = .ok (.aload_n 0, 1) := by decide +kernel
theorem dX8_back_63 : decode prog_10_method_65_code 63 = .ok (.getfield 75, 3) := by decide +kernel
theorem dX8_back_66 : decode prog_10_method_65_code 66 = .ok (.bipush 11, 2) := by decide +kernel
theorem dX8_back_68 : decode prog_10_method_65_code 68 = .ok (.iaload, 1) := by decide +kernel
theorem dX8_back_69 : decode prog_10_method_65_code 69 = .ok (.putfield 23, 3) := by decide +kernel
theorem dX8_back_72 : decode prog_10_method_65_code 72 = .ok (.aload_n 0, 1) := by decide +kernel
theorem dX8_back_73 : decode prog_10_method_65_code 73 = .ok (.aload_n 0, 1) := by decide +kernel
theorem dX8_back_74 : decode prog_10_method_65_code 74 = .ok (.getfield 75, 3) := by decide +kernel
theorem dX8_back_77 : decode prog_10_method_65_code 77 = .ok (.bipush 12, 2) := by decide +kernel
theorem dX8_back_79 : decode prog_10_method_65_code 79 = .ok (.iaload, 1) := by decide +kernel
theorem dX8_back_80 : decode prog_10_method_65_code 80 = .ok (.putfield 26, 3) := by decide +kernel
theorem dX8_back_83 : decode prog_10_method_65_code 83 = .ok (.aload_n 0, 1) := by decide +kernel
theorem dX8_back_84 : decode prog_10_method_65_code 84 = .ok (.aload_n 0, 1) := by decide +kernel
theorem dX8_back_85 : decode prog_10_method_65_code 85 = .ok (.getfield 75, 3) := by decide +kernel
theorem dX8_back_88 : decode prog_10_method_65_code 88 = .ok (.bipush 13, 2) := by decide +kernel
theorem dX8_back_90 : decode prog_10_method_65_code 90 = .ok (.iaload, 1) := by decide +kernel
theorem dX8_back_91 : decode prog_10_method_65_code 91 = .ok (.putfield 123, 3) := by decide +kernel
theorem dX8_back_94 : decode prog_10_method_65_code 94 = .ok (.aload_n 0, 1) := by decide +kernel
theorem dX8_back_95 : decode prog_10_method_65_code 95 = .ok (.aload_n 0, 1) := by decide +kernel
theorem dX8_back_96 : decode prog_10_method_65_code 96 = .ok (.getfield 75, 3) := by decide +kernel
theorem dX8_back_99 : decode prog_10_method_65_code 99 = .ok (.bipush 14, 2) := by decide +kernel
theorem dX8_back_101 : decode prog_10_method_65_code 101 = .ok (.iaload, 1) := by decide +kernel
theorem dX8_back_102 : decode prog_10_method_65_code 102 = .ok (.putfield 126, 3) := by decide +kernel
theorem dX8_back_105 : decode prog_10_method_65_code 105 = .ok (.aload_n 0, 1) := by decide +kernel
theorem dX8_back_106 : decode prog_10_method_65_code 106 = .ok (.aload_n 0, 1) := by decide +kernel
theorem dX8_back_107 : decode prog_10_method_65_code 107 = .ok (.getfield 78, 3) := by decide +kernel
theorem dX8_back_110 : decode prog_10_method_65_code 110 = .ok (.putfield 101, 3) := by decide +kernel
theorem dX8_back_113 : decode prog_10_method_65_code 113 = .ok (.aload_n 0, 1) := by decide +kernel
theorem dX8_back_114 : decode prog_10_method_65_code 114 = .ok (.aload_n 0, 1) := by decide +kernel
theorem dX8_back_115 : decode prog_10_method_65_code 115 = .ok (.getfield 374, 3) := by decide +kernel
theorem dX8_back_118 : decode prog_10_method_65_code 118 = .ok (.putfield 266, 3) := by decide +kernel
theorem dX8_back_121 : decode prog_10_method_65_code 121 = .ok (.aload_n 0, 1) := by decide +kernel
theorem dX8_back_122 : decode prog_10_method_65_code 122 = .ok (.getfield 101, 3) := by decide +kernel
theorem dX8_back_125 : decode prog_10_method_65_code 125 = .ok (.ireturn, 1) := by decide +kernel
theorem dX8_count_0 : decode prog_10_method_66_code 0 = .ok (.iload_n 1, 1) := by decide +kernel
theorem dX8_count_1 : decode prog_10_method_66_code 1 = .ok (.i2l, 1) := by decide +kernel
theorem dX8_count_2 : decode prog_10_method_66_code 2 = .ok (.lconst 0, 1) := by decide +kernel
theorem dX8_count_3 : decode prog_10_method_66_code 3 = .ok (.ldc2_w 327, 3) := by decide +kernel
theorem dX8_count_6 : decode prog_10_method_66_code 6 = .ok (.invokestatic 104, 3) := by decide +kernel
theorem dX8_count_9 : decode prog_10_method_66_code 9 = .ok (.ifCond .ne 6, 3) := by decide +kernel
theorem dX8_count_12 : decode prog_10_method_66_code 12 = .ok (.bipush (-2), 2) := by decide +kernel
theorem dX8_count_14 : decode prog_10_method_66_code 14 = .ok (.ireturn, 1) := by decide +kernel
theorem dX8_count_15 : decode prog_10_method_66_code 15 = .ok (.iload_n 1, 1) := by decide +kernel
theorem dX8_count_16 : decode prog_10_method_66_code 16 = .ok (.bipush 6, 2) := by decide +kernel
theorem dX8_count_18 : decode prog_10_method_66_code 18 = .ok (.if_icmp .ge 67, 3) := by decide +kernel
theorem dX8_count_21 : decode prog_10_method_66_code 21 = .ok (.iload_n 1, 1) := by decide +kernel
theorem dX8_count_22 : decode prog_10_method_66_code 22 = .ok (.ifCond .ne 10, 3) := by decide +kernel
theorem dX8_count_25 : decode prog_10_method_66_code 25 = .ok (.aload_n 0, 1) := by decide +kernel
theorem dX8_count_26 : decode prog_10_method_66_code 26 = .ok (.getfield 101, 3) := by decide +kernel
theorem dX8_count_29 : decode prog_10_method_66_code 29 = .ok (.goto 55, 3) := by decide +kernel
theorem dX8_count_32 : decode prog_10_method_66_code 32 = .ok (.iload_n 1, 1) := by decide +kernel
theorem dX8_count_33 : decode prog_10_method_66_code 33 = .ok (.iconst 1, 1) := by decide +kernel
theorem dX8_count_34 : decode prog_10_method_66_code 34 = .ok (.if_icmp .ne 10, 3) := by decide +kernel
theorem dX8_count_37 : decode prog_10_method_66_code 37 = .ok (.aload_n 0, 1) := by decide +kernel
theorem dX8_count_38 : decode prog_10_method_66_code 38 = .ok (.getfield 120, 3) := by decide +kernel
theorem dX8_count_41 : decode prog_10_method_66_code 41 = .ok (.goto 43, 3) := by decide +kernel
theorem dX8_count_44 : decode prog_10_method_66_code 44 = .ok (.iload_n 1, 1) := by decide +kernel
theorem dX8_count_45 : decode prog_10_method_66_code 45 = .ok (.iconst 2, 1) := by decide +kernel
theorem dX8_count_46 : decode prog_10_method_66_code 46 = .ok (.if_icmp .ne 10, 3) := by decide +kernel
theorem dX8_count_49 : decode prog_10_method_66_code 49 = .ok (.aload_n 0, 1) := by decide +kernel
theorem dX8_count_50 : decode prog_10_method_66_code 50 = .ok (.getfield 23, 3) := by decide +kernel
theorem dX8_count_53 : decode prog_10_method_66_code 53 = .ok (.goto 31, 3) := by decide +kernel
theorem dX8_count_56 : decode prog_10_method_66_code 56 = .ok (.iload_n 1, 1) := by decide +kernel
theorem dX8_count_57 : decode prog_10_method_66_code 57 = .ok (.iconst 3, 1) := by decide +kernel
theorem dX8_count_58 : decode prog_10_method_66_code 58 = .ok (.if_icmp .ne 10, 3) := by decide +kernel
theorem dX8_count_61 : decode prog_10_method_66_code 61 = .ok (.aload_n 0, 1) := by decide +kernel
theorem dX8_count_62 : decode prog_10_method_66_code 62 = .ok (.getfield 26, 3) := by decide +kernel
theorem dX8_count_65 : decode prog_10_method_66_code 65 = .ok (.goto 19, 3) := by decide +kernel
theorem dX8_count_68 : decode prog_10_method_66_code 68 = .ok (.iload_n 1, 1) := by decide +kernel
theorem dX8_count_69 : decode prog_10_method_66_code 69 = .ok (.iconst 4, 1) := by decide +kernel
theorem dX8_count_70 : decode prog_10_method_66_code 70 = .ok (.if_icmp .ne 10, 3) := by decide +kernel
theorem dX8_count_73 : decode prog_10_method_66_code 73 = .ok (.aload_n 0, 1) := by decide +kernel
theorem dX8_count_74 : decode prog_10_method_66_code 74 = .ok (.getfield 123, 3) := by decide +kernel
theorem dX8_count_77 : decode prog_10_method_66_code 77 = .ok (.goto 7, 3) := by decide +kernel
theorem dX8_count_80 : decode prog_10_method_66_code 80 = .ok (.aload_n 0, 1) := by decide +kernel
theorem dX8_count_81 : decode prog_10_method_66_code 81 = .ok (.getfield 126, 3) := by decide +kernel
theorem dX8_count_84 : decode prog_10_method_66_code 84 = .ok (.ireturn, 1) := by decide +kernel
theorem dX8_count_85 : decode prog_10_method_66_code 85 = .ok (.iload_n 1, 1) := by decide +kernel
theorem dX8_count_86 : decode prog_10_method_66_code 86 = .ok (.bipush 6, 2) := by decide +kernel
theorem dX8_count_88 : decode prog_10_method_66_code 88 = .ok (.if_icmp .ne 10, 3) := by decide +kernel
theorem dX8_count_91 : decode prog_10_method_66_code 91 = .ok (.aload_n 0, 1) := by decide +kernel
theorem dX8_count_92 : decode prog_10_method_66_code 92 = .ok (.getfield 98, 3) := by decide +kernel
theorem dX8_count_95 : decode prog_10_method_66_code 95 = .ok (.goto 20, 3) := by decide +kernel
theorem dX8_count_98 : decode prog_10_method_66_code 98 = .ok (.iload_n 1, 1) := by decide +kernel
theorem dX8_count_99 : decode prog_10_method_66_code 99 = .ok (.bipush 7, 2) := by decide +kernel
theorem dX8_count_101 : decode prog_10_method_66_code 101 = .ok (.if_icmp .ne 10, 3) := by decide +kernel
theorem dX8_count_104 : decode prog_10_method_66_code 104 = .ok (.aload_n 0, 1) := by decide +kernel
theorem dX8_count_105 : decode prog_10_method_66_code 105 = .ok (.getfield 150, 3) := by decide +kernel
theorem dX8_count_108 : decode prog_10_method_66_code 108 = .ok (.goto 7, 3) := by decide +kernel
theorem dX8_count_111 : decode prog_10_method_66_code 111 = .ok (.aload_n 0, 1) := by decide +kernel
theorem dX8_count_112 : decode prog_10_method_66_code 112 = .ok (.getfield 266, 3) := by decide +kernel
theorem dX8_count_115 : decode prog_10_method_66_code 115 = .ok (.ireturn, 1) := by decide +kernel
theorem dX8_cell_0 : decode prog_10_method_69_code 0 = .ok (.iload_n 1, 1) := by decide +kernel
theorem dX8_cell_1 : decode prog_10_method_69_code 1 = .ok (.invokestatic 315, 3) := by decide +kernel
theorem dX8_cell_4 : decode prog_10_method_69_code 4 = .ok (.ifCond .ne 6, 3) := by decide +kernel
theorem dX8_cell_7 : decode prog_10_method_69_code 7 = .ok (.bipush (-2), 2) := by decide +kernel
theorem dX8_cell_9 : decode prog_10_method_69_code 9 = .ok (.ireturn, 1) := by decide +kernel
theorem dX8_cell_10 : decode prog_10_method_69_code 10 = .ok (.aload_n 0, 1) := by decide +kernel
theorem dX8_cell_11 : decode prog_10_method_69_code 11 = .ok (.getfield 81, 3) := by decide +kernel
theorem dX8_cell_14 : decode prog_10_method_69_code 14 = .ok (.iload_n 1, 1) := by decide +kernel
theorem dX8_cell_15 : decode prog_10_method_69_code 15 = .ok (.baload, 1) := by decide +kernel
theorem dX8_cell_16 : decode prog_10_method_69_code 16 = .ok (.ifCond .ne 6, 3) := by decide +kernel
theorem dX8_cell_19 : decode prog_10_method_69_code 19 = .ok (.bipush (-11), 2) := by decide +kernel
theorem dX8_cell_21 : decode prog_10_method_69_code 21 = .ok (.ireturn, 1) := by decide +kernel
theorem dX8_cell_22 : decode prog_10_method_69_code 22 = .ok (.iload_n 2, 1) := by decide +kernel
theorem dX8_cell_23 : decode prog_10_method_69_code 23 = .ok (.i2l, 1) := by decide +kernel
theorem dX8_cell_24 : decode prog_10_method_69_code 24 = .ok (.lconst 0, 1) := by decide +kernel
theorem dX8_cell_25 : decode prog_10_method_69_code 25 = .ok (.aload_n 0, 1) := by decide +kernel
theorem dX8_cell_26 : decode prog_10_method_69_code 26 = .ok (.getfield 88, 3) := by decide +kernel
theorem dX8_cell_29 : decode prog_10_method_69_code 29 = .ok (.iload_n 1, 1) := by decide +kernel
theorem dX8_cell_30 : decode prog_10_method_69_code 30 = .ok (.iaload, 1) := by decide +kernel
theorem dX8_cell_31 : decode prog_10_method_69_code 31 = .ok (.iconst 1, 1) := by decide +kernel
theorem dX8_cell_32 : decode prog_10_method_69_code 32 = .ok (.isub, 1) := by decide +kernel
theorem dX8_cell_33 : decode prog_10_method_69_code 33 = .ok (.i2l, 1) := by decide +kernel
theorem dX8_cell_34 : decode prog_10_method_69_code 34 = .ok (.invokestatic 104, 3) := by decide +kernel
theorem dX8_cell_37 : decode prog_10_method_69_code 37 = .ok (.ifCond .ne 6, 3) := by decide +kernel
theorem dX8_cell_40 : decode prog_10_method_69_code 40 = .ok (.bipush (-12), 2) := by decide +kernel
theorem dX8_cell_42 : decode prog_10_method_69_code 42 = .ok (.ireturn, 1) := by decide +kernel
theorem dX8_cell_43 : decode prog_10_method_69_code 43 = .ok (.aload_n 0, 1) := by decide +kernel
theorem dX8_cell_44 : decode prog_10_method_69_code 44 = .ok (.getfield 91, 3) := by decide +kernel
theorem dX8_cell_47 : decode prog_10_method_69_code 47 = .ok (.bipush 40, 2) := by decide +kernel
theorem dX8_cell_49 : decode prog_10_method_69_code 49 = .ok (.iload_n 1, 1) := by decide +kernel
theorem dX8_cell_50 : decode prog_10_method_69_code 50 = .ok (.imul, 1) := by decide +kernel
theorem dX8_cell_51 : decode prog_10_method_69_code 51 = .ok (.iload_n 2, 1) := by decide +kernel
theorem dX8_cell_52 : decode prog_10_method_69_code 52 = .ok (.iadd, 1) := by decide +kernel
theorem dX8_cell_53 : decode prog_10_method_69_code 53 = .ok (.aload_n 0, 1) := by decide +kernel
theorem dX8_cell_54 : decode prog_10_method_69_code 54 = .ok (.getfield 85, 3) := by decide +kernel
theorem dX8_cell_57 : decode prog_10_method_69_code 57 = .ok (.iload_n 1, 1) := by decide +kernel
theorem dX8_cell_58 : decode prog_10_method_69_code 58 = .ok (.iaload, 1) := by decide +kernel
theorem dX8_cell_59 : decode prog_10_method_69_code 59 = .ok (.ifCond .ne 8, 3) := by decide +kernel
theorem dX8_cell_62 : decode prog_10_method_69_code 62 = .ok (.iload_n 3, 1) := by decide +kernel
theorem dX8_cell_63 : decode prog_10_method_69_code 63 = .ok (.i2b, 1) := by decide +kernel
theorem dX8_cell_64 : decode prog_10_method_69_code 64 = .ok (.goto 19, 3) := by decide +kernel
theorem dX8_cell_67 : decode prog_10_method_69_code 67 = .ok (.aload_n 0, 1) := by decide +kernel
theorem dX8_cell_68 : decode prog_10_method_69_code 68 = .ok (.getfield 85, 3) := by decide +kernel
theorem dX8_cell_71 : decode prog_10_method_69_code 71 = .ok (.iload_n 1, 1) := by decide +kernel
theorem dX8_cell_72 : decode prog_10_method_69_code 72 = .ok (.iaload, 1) := by decide +kernel
theorem dX8_cell_73 : decode prog_10_method_69_code 73 = .ok (.iconst 1, 1) := by decide +kernel
theorem dX8_cell_74 : decode prog_10_method_69_code 74 = .ok (.if_icmp .ne 8, 3) := by decide +kernel
theorem dX8_cell_77 : decode prog_10_method_69_code 77 = .ok (.iload_n 3, 1) := by decide +kernel
theorem dX8_cell_78 : decode prog_10_method_69_code 78 = .ok (.i2s, 1) := by decide +kernel
theorem dX8_cell_79 : decode prog_10_method_69_code 79 = .ok (.goto 4, 3) := by decide +kernel
theorem dX8_cell_82 : decode prog_10_method_69_code 82 = .ok (.iload_n 3, 1) := by decide +kernel
theorem dX8_cell_83 : decode prog_10_method_69_code 83 = .ok (.iastore, 1) := by decide +kernel
theorem dX8_cell_84 : decode prog_10_method_69_code 84 = .ok (.iconst 1, 1) := by decide +kernel
theorem dX8_cell_85 : decode prog_10_method_69_code 85 = .ok (.ireturn, 1) := by decide +kernel
theorem dX8_copy_0 : decode prog_10_method_70_code 0 = .ok (.iload_n 1, 1) := by decide +kernel
theorem dX8_copy_1 : decode prog_10_method_70_code 1 = .ok (.invokestatic 315, 3) := by decide +kernel
theorem dX8_copy_4 : decode prog_10_method_70_code 4 = .ok (.ifCond .eq 10, 3) := by decide +kernel
theorem dX8_copy_7 : decode prog_10_method_70_code 7 = .ok (.iload_n 3, 1) := by decide +kernel
theorem dX8_copy_8 : decode prog_10_method_70_code 8 = .ok (.invokestatic 315, 3) := by decide +kernel
theorem dX8_copy_11 : decode prog_10_method_70_code 11 = .ok (.ifCond .ne 6, 3) := by decide +kernel
theorem dX8_copy_14 : decode prog_10_method_70_code 14 = .ok (.bipush (-2), 2) := by decide +kernel
theorem dX8_copy_16 : decode prog_10_method_70_code 16 = .ok (.ireturn, 1) := by decide +kernel
theorem dX8_copy_17 : decode prog_10_method_70_code 17 = .ok (.aload_n 0, 1) := by decide +kernel
theorem dX8_copy_18 : decode prog_10_method_70_code 18 = .ok (.getfield 81, 3) := by decide +kernel
theorem dX8_copy_21 : decode prog_10_method_70_code 21 = .ok (.iload_n 1, 1) := by decide +kernel
theorem dX8_copy_22 : decode prog_10_method_70_code 22 = .ok (.baload, 1) := by decide +kernel
theorem dX8_copy_23 : decode prog_10_method_70_code 23 = .ok (.ifCond .eq 12, 3) := by decide +kernel
theorem dX8_copy_26 : decode prog_10_method_70_code 26 = .ok (.aload_n 0, 1) := by decide +kernel
theorem dX8_copy_27 : decode prog_10_method_70_code 27 = .ok (.getfield 81, 3) := by decide +kernel
theorem dX8_copy_30 : decode prog_10_method_70_code 30 = .ok (.iload_n 3, 1) := by decide +kernel
theorem dX8_copy_31 : decode prog_10_method_70_code 31 = .ok (.baload, 1) := by decide +kernel
theorem dX8_copy_32 : decode prog_10_method_70_code 32 = .ok (.ifCond .ne 6, 3) := by decide +kernel
theorem dX8_copy_35 : decode prog_10_method_70_code 35 = .ok (.bipush (-11), 2) := by decide +kernel
theorem dX8_copy_37 : decode prog_10_method_70_code 37 = .ok (.ireturn, 1) := by decide +kernel
theorem dX8_copy_38 : decode prog_10_method_70_code 38 = .ok (.aload_n 0, 1) := by decide +kernel
theorem dX8_copy_39 : decode prog_10_method_70_code 39 = .ok (.getfield 85, 3) := by decide +kernel
theorem dX8_copy_42 : decode prog_10_method_70_code 42 = .ok (.iload_n 1, 1) := by decide +kernel
theorem dX8_copy_43 : decode prog_10_method_70_code 43 = .ok (.iaload, 1) := by decide +kernel
theorem dX8_copy_44 : decode prog_10_method_70_code 44 = .ok (.aload_n 0, 1) := by decide +kernel
theorem dX8_copy_45 : decode prog_10_method_70_code 45 = .ok (.getfield 85, 3) := by decide +kernel
theorem dX8_copy_48 : decode prog_10_method_70_code 48 = .ok (.iload_n 3, 1) := by decide +kernel
theorem dX8_copy_49 : decode prog_10_method_70_code 49 = .ok (.iaload, 1) := by decide +kernel
theorem dX8_copy_50 : decode prog_10_method_70_code 50 = .ok (.if_icmp .eq 6, 3) := by decide +kernel
theorem dX8_copy_53 : decode prog_10_method_70_code 53 = .ok (.bipush (-13), 2) := by decide +kernel
theorem dX8_copy_55 : decode prog_10_method_70_code 55 = .ok (.ireturn, 1) := by decide +kernel
theorem dX8_copy_56 : decode prog_10_method_70_code 56 = .ok (.iload 5, 2) := by decide +kernel
theorem dX8_copy_58 : decode prog_10_method_70_code 58 = .ok (.ifCond .lt 39, 3) := by decide +kernel
theorem dX8_copy_61 : decode prog_10_method_70_code 61 = .ok (.iload_n 2, 1) := by decide +kernel
theorem dX8_copy_62 : decode prog_10_method_70_code 62 = .ok (.ifCond .lt 35, 3) := by decide +kernel
theorem dX8_copy_65 : decode prog_10_method_70_code 65 = .ok (.iload 4, 2) := by decide +kernel
theorem dX8_copy_67 : decode prog_10_method_70_code 67 = .ok (.ifCond .lt 30, 3) := by decide +kernel
theorem dX8_copy_70 : decode prog_10_method_70_code 70 = .ok (.iload_n 2, 1) := by decide +kernel
theorem dX8_copy_71 : decode prog_10_method_70_code 71 = .ok (.aload_n 0, 1) := by decide +kernel
theorem dX8_copy_72 : decode prog_10_method_70_code 72 = .ok (.getfield 88, 3) := by decide +kernel
theorem dX8_copy_75 : decode prog_10_method_70_code 75 = .ok (.iload_n 1, 1) := by decide +kernel
theorem dX8_copy_76 : decode prog_10_method_70_code 76 = .ok (.iaload, 1) := by decide +kernel
theorem dX8_copy_77 : decode prog_10_method_70_code 77 = .ok (.iload 5, 2) := by decide +kernel
theorem dX8_copy_79 : decode prog_10_method_70_code 79 = .ok (.isub, 1) := by decide +kernel
theorem dX8_copy_80 : decode prog_10_method_70_code 80 = .ok (.if_icmp .gt 17, 3) := by decide +kernel
theorem dX8_copy_83 : decode prog_10_method_70_code 83 = .ok (.iload 4, 2) := by decide +kernel
theorem dX8_copy_85 : decode prog_10_method_70_code 85 = .ok (.aload_n 0, 1) := by decide +kernel
theorem dX8_copy_86 : decode prog_10_method_70_code 86 = .ok (.getfield 88, 3) := by decide +kernel
theorem dX8_copy_89 : decode prog_10_method_70_code 89 = .ok (.iload_n 3, 1) := by decide +kernel
theorem dX8_copy_90 : decode prog_10_method_70_code 90 = .ok (.iaload, 1) := by decide +kernel
theorem dX8_copy_91 : decode prog_10_method_70_code 91 = .ok (.iload 5, 2) := by decide +kernel
theorem dX8_copy_93 : decode prog_10_method_70_code 93 = .ok (.isub, 1) := by decide +kernel
theorem dX8_copy_94 : decode prog_10_method_70_code 94 = .ok (.if_icmp .le 6, 3) := by decide +kernel
theorem dX8_copy_97 : decode prog_10_method_70_code 97 = .ok (.bipush (-12), 2) := by decide +kernel
theorem dX8_copy_99 : decode prog_10_method_70_code 99 = .ok (.ireturn, 1) := by decide +kernel
theorem dX8_copy_100 : decode prog_10_method_70_code 100 = .ok (.iload_n 1, 1) := by decide +kernel
theorem dX8_copy_101 : decode prog_10_method_70_code 101 = .ok (.iload_n 3, 1) := by decide +kernel
theorem dX8_copy_102 : decode prog_10_method_70_code 102 = .ok (.if_icmp .ne 13, 3) := by decide +kernel
theorem dX8_copy_105 : decode prog_10_method_70_code 105 = .ok (.iload_n 2, 1) := by decide +kernel
theorem dX8_copy_106 : decode prog_10_method_70_code 106 = .ok (.iload 4, 2) := by decide +kernel
theorem dX8_copy_108 : decode prog_10_method_70_code 108 = .ok (.if_icmp .ge 7, 3) := by decide +kernel
theorem dX8_copy_111 : decode prog_10_method_70_code 111 = .ok (.iconst 1, 1) := by decide +kernel
theorem dX8_copy_112 : decode prog_10_method_70_code 112 = .ok (.goto 4, 3) := by decide +kernel
theorem dX8_copy_115 : decode prog_10_method_70_code 115 = .ok (.iconst 0, 1) := by decide +kernel
theorem dX8_copy_116 : decode prog_10_method_70_code 116 = .ok (.istore 6, 2) := by decide +kernel
theorem dX8_copy_118 : decode prog_10_method_70_code 118 = .ok (.iconst 0, 1) := by decide +kernel
theorem dX8_copy_119 : decode prog_10_method_70_code 119 = .ok (.istore 7, 2) := by decide +kernel
theorem dX8_copy_121 : decode prog_10_method_70_code 121 = .ok (.iload 7, 2) := by decide +kernel
theorem dX8_copy_123 : decode prog_10_method_70_code 123 = .ok (.iload 5, 2) := by decide +kernel
theorem dX8_copy_125 : decode prog_10_method_70_code 125 = .ok (.if_icmp .ge 57, 3) := by decide +kernel
theorem dX8_copy_128 : decode prog_10_method_70_code 128 = .ok (.iload 6, 2) := by decide +kernel
theorem dX8_copy_130 : decode prog_10_method_70_code 130 = .ok (.ifCond .eq 13, 3) := by decide +kernel
theorem dX8_copy_133 : decode prog_10_method_70_code 133 = .ok (.iload 5, 2) := by decide +kernel
theorem dX8_copy_135 : decode prog_10_method_70_code 135 = .ok (.iconst 1, 1) := by decide +kernel
theorem dX8_copy_136 : decode prog_10_method_70_code 136 = .ok (.isub, 1) := by decide +kernel
theorem dX8_copy_137 : decode prog_10_method_70_code 137 = .ok (.iload 7, 2) := by decide +kernel
theorem dX8_copy_139 : decode prog_10_method_70_code 139 = .ok (.isub, 1) := by decide +kernel
theorem dX8_copy_140 : decode prog_10_method_70_code 140 = .ok (.goto 5, 3) := by decide +kernel
theorem dX8_copy_143 : decode prog_10_method_70_code 143 = .ok (.iload 7, 2) := by decide +kernel
theorem dX8_copy_145 : decode prog_10_method_70_code 145 = .ok (.istore 8, 2) := by decide +kernel
theorem dX8_copy_147 : decode prog_10_method_70_code 147 = .ok (.aload_n 0, 1) := by decide +kernel
theorem dX8_copy_148 : decode prog_10_method_70_code 148 = .ok (.getfield 91, 3) := by decide +kernel
theorem dX8_copy_151 : decode prog_10_method_70_code 151 = .ok (.bipush 40, 2) := by decide +kernel
theorem dX8_copy_153 : decode prog_10_method_70_code 153 = .ok (.iload_n 3, 1) := by decide +kernel
theorem dX8_copy_154 : decode prog_10_method_70_code 154 = .ok (.imul, 1) := by decide +kernel
theorem dX8_copy_155 : decode prog_10_method_70_code 155 = .ok (.iload 4, 2) := by decide +kernel
theorem dX8_copy_157 : decode prog_10_method_70_code 157 = .ok (.iadd, 1) := by decide +kernel
theorem dX8_copy_158 : decode prog_10_method_70_code 158 = .ok (.iload 8, 2) := by decide +kernel
theorem dX8_copy_160 : decode prog_10_method_70_code 160 = .ok (.iadd, 1) := by decide +kernel
theorem dX8_copy_161 : decode prog_10_method_70_code 161 = .ok (.aload_n 0, 1) := by decide +kernel
theorem dX8_copy_162 : decode prog_10_method_70_code 162 = .ok (.getfield 91, 3) := by decide +kernel
theorem dX8_copy_165 : decode prog_10_method_70_code 165 = .ok (.bipush 40, 2) := by decide +kernel
theorem dX8_copy_167 : decode prog_10_method_70_code 167 = .ok (.iload_n 1, 1) := by decide +kernel
theorem dX8_copy_168 : decode prog_10_method_70_code 168 = .ok (.imul, 1) := by decide +kernel
theorem dX8_copy_169 : decode prog_10_method_70_code 169 = .ok (.iload_n 2, 1) := by decide +kernel
theorem dX8_copy_170 : decode prog_10_method_70_code 170 = .ok (.iadd, 1) := by decide +kernel
theorem dX8_copy_171 : decode prog_10_method_70_code 171 = .ok (.iload 8, 2) := by decide +kernel
theorem dX8_copy_173 : decode prog_10_method_70_code 173 = .ok (.iadd, 1) := by decide +kernel
theorem dX8_copy_174 : decode prog_10_method_70_code 174 = .ok (.iaload, 1) := by decide +kernel
theorem dX8_copy_175 : decode prog_10_method_70_code 175 = .ok (.iastore, 1) := by decide +kernel
theorem dX8_copy_176 : decode prog_10_method_70_code 176 = .ok (.iinc 7 1, 3) := by decide +kernel
theorem dX8_copy_179 : decode prog_10_method_70_code 179 = .ok (.goto (-58), 3) := by decide +kernel
theorem dX8_copy_182 : decode prog_10_method_70_code 182 = .ok (.iload 5, 2) := by decide +kernel
theorem dX8_copy_184 : decode prog_10_method_70_code 184 = .ok (.ireturn, 1) := by decide +kernel
theorem dX8_sitters_0 : decode prog_10_method_71_code 0 = .ok (.iload_n 1, 1) := by decide +kernel
theorem dX8_sitters_1 : decode prog_10_method_71_code 1 = .ok (.invokestatic 315, 3) := by decide +kernel
theorem dX8_sitters_4 : decode prog_10_method_71_code 4 = .ok (.ifCond .eq 28, 3) := by decide +kernel
theorem dX8_sitters_7 : decode prog_10_method_71_code 7 = .ok (.iload_n 2, 1) := by decide +kernel
theorem dX8_sitters_8 : decode prog_10_method_71_code 8 = .ok (.i2l, 1) := by decide +kernel
theorem dX8_sitters_9 : decode prog_10_method_71_code 9 = .ok (.lconst 0, 1) := by decide +kernel
theorem dX8_sitters_10 : decode prog_10_method_71_code 10 = .ok (.ldc2_w 377, 3) := by decide +kernel
theorem dX8_sitters_13 : decode prog_10_method_71_code 13 = .ok (.invokestatic 104, 3) := by decide +kernel
theorem dX8_sitters_16 : decode prog_10_method_71_code 16 = .ok (.ifCond .eq 16, 3) := by decide +kernel
theorem dX8_sitters_19 : decode prog_10_method_71_code 19 = .ok (.iload 4, 2) := by decide +kernel
theorem dX8_sitters_21 : decode prog_10_method_71_code 21 = .ok (.i2l, 1) := by decide +kernel
theorem dX8_sitters_22 : decode prog_10_method_71_code 22 = .ok (.lconst 0, 1) := by decide +kernel
theorem dX8_sitters_23 : decode prog_10_method_71_code 23 = .ok (.ldc2_w 129, 3) := by decide +kernel
theorem dX8_sitters_26 : decode prog_10_method_71_code 26 = .ok (.invokestatic 104, 3) := by decide +kernel
theorem dX8_sitters_29 : decode prog_10_method_71_code 29 = .ok (.ifCond .ne 6, 3) := by decide +kernel
theorem dX8_sitters_32 : decode prog_10_method_71_code 32 = .ok (.bipush (-2), 2) := by decide +kernel
theorem dX8_sitters_34 : decode prog_10_method_71_code 34 = .ok (.ireturn, 1) := by decide +kernel
theorem dX8_sitters_35 : decode prog_10_method_71_code 35 = .ok (.aload_n 0, 1) := by decide +kernel
theorem dX8_sitters_36 : decode prog_10_method_71_code 36 = .ok (.getfield 81, 3) := by decide +kernel
theorem dX8_sitters_39 : decode prog_10_method_71_code 39 = .ok (.iload_n 1, 1) := by decide +kernel
theorem dX8_sitters_40 : decode prog_10_method_71_code 40 = .ok (.baload, 1) := by decide +kernel
theorem dX8_sitters_41 : decode prog_10_method_71_code 41 = .ok (.ifCond .eq 16, 3) := by decide +kernel
theorem dX8_sitters_44 : decode prog_10_method_71_code 44 = .ok (.aload_n 0, 1) := by decide +kernel
theorem dX8_sitters_45 : decode prog_10_method_71_code 45 = .ok (.getfield 85, 3) := by decide +kernel
theorem dX8_sitters_48 : decode prog_10_method_71_code 48 = .ok (.iload_n 1, 1) := by decide +kernel
theorem dX8_sitters_49 : decode prog_10_method_71_code 49 = .ok (.iaload, 1) := by decide +kernel
theorem dX8_sitters_50 : decode prog_10_method_71_code 50 = .ok (.iload_n 2, 1) := by decide +kernel
theorem dX8_sitters_51 : decode prog_10_method_71_code 51 = .ok (.if_icmp .eq 6, 3) := by decide +kernel
theorem dX8_sitters_54 : decode prog_10_method_71_code 54 = .ok (.bipush (-13), 2) := by decide +kernel
theorem dX8_sitters_56 : decode prog_10_method_71_code 56 = .ok (.ireturn, 1) := by decide +kernel
theorem dX8_sitters_57 : decode prog_10_method_71_code 57 = .ok (.aload_n 0, 1) := by decide +kernel
theorem dX8_sitters_58 : decode prog_10_method_71_code 58 = .ok (.getfield 81, 3) := by decide +kernel
theorem dX8_sitters_61 : decode prog_10_method_71_code 61 = .ok (.iload_n 1, 1) := by decide +kernel
theorem dX8_sitters_62 : decode prog_10_method_71_code 62 = .ok (.baload, 1) := by decide +kernel
theorem dX8_sitters_63 : decode prog_10_method_71_code 63 = .ok (.ifCond .ne 6, 3) := by decide +kernel
theorem dX8_sitters_66 : decode prog_10_method_71_code 66 = .ok (.bipush (-11), 2) := by decide +kernel
theorem dX8_sitters_68 : decode prog_10_method_71_code 68 = .ok (.ireturn, 1) := by decide +kernel
theorem dX8_sitters_69 : decode prog_10_method_71_code 69 = .ok (.iconst 0, 1) := by decide +kernel
theorem dX8_sitters_70 : decode prog_10_method_71_code 70 = .ok (.istore 5, 2) := by decide +kernel
theorem dX8_sitters_72 : decode prog_10_method_71_code 72 = .ok (.iconst 0, 1) := by decide +kernel
theorem dX8_sitters_73 : decode prog_10_method_71_code 73 = .ok (.istore 6, 2) := by decide +kernel
theorem dX8_sitters_75 : decode prog_10_method_71_code 75 = .ok (.iload 6, 2) := by decide +kernel
theorem dX8_sitters_77 : decode prog_10_method_71_code 77 = .ok (.iload 4, 2) := by decide +kernel
theorem dX8_sitters_79 : decode prog_10_method_71_code 79 = .ok (.if_icmp .ge 88, 3) := by decide +kernel
theorem dX8_sitters_82 : decode prog_10_method_71_code 82 = .ok (.iload_n 3, 1) := by decide +kernel
theorem dX8_sitters_83 : decode prog_10_method_71_code 83 = .ok (.ifCond .lt 20, 3) := by decide +kernel
theorem dX8_sitters_86 : decode prog_10_method_71_code 86 = .ok (.iload_n 3, 1) := by decide +kernel
theorem dX8_sitters_87 : decode prog_10_method_71_code 87 = .ok (.aload_n 0, 1) := by decide +kernel
theorem dX8_sitters_88 : decode prog_10_method_71_code 88 = .ok (.getfield 88, 3) := by decide +kernel
theorem dX8_sitters_91 : decode prog_10_method_71_code 91 = .ok (.iload_n 1, 1) := by decide +kernel
theorem dX8_sitters_92 : decode prog_10_method_71_code 92 = .ok (.iaload, 1) := by decide +kernel
theorem dX8_sitters_93 : decode prog_10_method_71_code 93 = .ok (.iconst 3, 1) := by decide +kernel
theorem dX8_sitters_94 : decode prog_10_method_71_code 94 = .ok (.iload 6, 2) := by decide +kernel
theorem dX8_sitters_96 : decode prog_10_method_71_code 96 = .ok (.imul, 1) := by decide +kernel
theorem dX8_sitters_97 : decode prog_10_method_71_code 97 = .ok (.isub, 1) := by decide +kernel
theorem dX8_sitters_98 : decode prog_10_method_71_code 98 = .ok (.iconst 3, 1) := by decide +kernel
theorem dX8_sitters_99 : decode prog_10_method_71_code 99 = .ok (.isub, 1) := by decide +kernel
theorem dX8_sitters_100 : decode prog_10_method_71_code 100 = .ok (.if_icmp .le 6, 3) := by decide +kernel
theorem dX8_sitters_103 : decode prog_10_method_71_code 103 = .ok (.bipush (-12), 2) := by decide +kernel
theorem dX8_sitters_105 : decode prog_10_method_71_code 105 = .ok (.ireturn, 1) := by decide +kernel
theorem dX8_sitters_106 : decode prog_10_method_71_code 106 = .ok (.bipush 40, 2) := by decide +kernel
theorem dX8_sitters_108 : decode prog_10_method_71_code 108 = .ok (.iload_n 1, 1) := by decide +kernel
theorem dX8_sitters_109 : decode prog_10_method_71_code 109 = .ok (.imul, 1) := by decide +kernel
theorem dX8_sitters_110 : decode prog_10_method_71_code 110 = .ok (.iload_n 3, 1) := by decide +kernel
theorem dX8_sitters_111 : decode prog_10_method_71_code 111 = .ok (.iadd, 1) := by decide +kernel
theorem dX8_sitters_112 : decode prog_10_method_71_code 112 = .ok (.iconst 3, 1) := by decide +kernel
theorem dX8_sitters_113 : decode prog_10_method_71_code 113 = .ok (.iload 6, 2) := by decide +kernel
theorem dX8_sitters_115 : decode prog_10_method_71_code 115 = .ok (.imul, 1) := by decide +kernel
theorem dX8_sitters_116 : decode prog_10_method_71_code 116 = .ok (.iadd, 1) := by decide +kernel
theorem dX8_sitters_117 : decode prog_10_method_71_code 117 = .ok (.istore 7, 2) := by decide +kernel
theorem dX8_sitters_119 : decode prog_10_method_71_code 119 = .ok (.iload 5, 2) := by decide +kernel
theorem dX8_sitters_121 : decode prog_10_method_71_code 121 = .ok (.aload_n 0, 1) := by decide +kernel
theorem dX8_sitters_122 : decode prog_10_method_71_code 122 = .ok (.aload_n 0, 1) := by decide +kernel
theorem dX8_sitters_123 : decode prog_10_method_71_code 123 = .ok (.getfield 91, 3) := by decide +kernel
theorem dX8_sitters_126 : decode prog_10_method_71_code 126 = .ok (.iload 7, 2) := by decide +kernel
theorem dX8_sitters_128 : decode prog_10_method_71_code 128 = .ok (.iaload, 1) := by decide +kernel
theorem dX8_sitters_129 : decode prog_10_method_71_code 129 = .ok (.aload_n 0, 1) := by decide +kernel
theorem dX8_sitters_130 : decode prog_10_method_71_code 130 = .ok (.getfield 91, 3) := by decide +kernel
theorem dX8_sitters_133 : decode prog_10_method_71_code 133 = .ok (.iload 7, 2) := by decide +kernel
theorem dX8_sitters_135 : decode prog_10_method_71_code 135 = .ok (.iconst 1, 1) := by decide +kernel
theorem dX8_sitters_136 : decode prog_10_method_71_code 136 = .ok (.iadd, 1) := by decide +kernel
theorem dX8_sitters_137 : decode prog_10_method_71_code 137 = .ok (.iaload, 1) := by decide +kernel
theorem dX8_sitters_138 : decode prog_10_method_71_code 138 = .ok (.aload_n 0, 1) := by decide +kernel
theorem dX8_sitters_139 : decode prog_10_method_71_code 139 = .ok (.getfield 91, 3) := by decide +kernel
theorem dX8_sitters_142 : decode prog_10_method_71_code 142 = .ok (.iload 7, 2) := by decide +kernel
theorem dX8_sitters_144 : decode prog_10_method_71_code 144 = .ok (.iconst 2, 1) := by decide +kernel
theorem dX8_sitters_145 : decode prog_10_method_71_code 145 = .ok (.iadd, 1) := by decide +kernel
theorem dX8_sitters_146 : decode prog_10_method_71_code 146 = .ok (.iaload, 1) := by decide +kernel
theorem dX8_sitters_147 : decode prog_10_method_71_code 147 = .ok (.invokevirtual 379, 3) := by decide +kernel
theorem dX8_sitters_150 : decode prog_10_method_71_code 150 = .ok (.ifCond .lt 7, 3) := by decide +kernel
theorem dX8_sitters_153 : decode prog_10_method_71_code 153 = .ok (.iconst 1, 1) := by decide +kernel
theorem dX8_sitters_154 : decode prog_10_method_71_code 154 = .ok (.goto 4, 3) := by decide +kernel
theorem dX8_sitters_157 : decode prog_10_method_71_code 157 = .ok (.iconst 0, 1) := by decide +kernel
theorem dX8_sitters_158 : decode prog_10_method_71_code 158 = .ok (.iadd, 1) := by decide +kernel
theorem dX8_sitters_159 : decode prog_10_method_71_code 159 = .ok (.istore 5, 2) := by decide +kernel
theorem dX8_sitters_161 : decode prog_10_method_71_code 161 = .ok (.iinc 6 1, 3) := by decide +kernel
theorem dX8_sitters_164 : decode prog_10_method_71_code 164 = .ok (.goto (-89), 3) := by decide +kernel
theorem dX8_sitters_167 : decode prog_10_method_71_code 167 = .ok (.iload 5, 2) := by decide +kernel
theorem dX8_sitters_169 : decode prog_10_method_71_code 169 = .ok (.ireturn, 1) := by decide +kernel
theorem dX8_taken_0 : decode prog_10_method_73_code 0 = .ok (.iload_n 2, 1) := by decide +kernel
theorem dX8_taken_1 : decode prog_10_method_73_code 1 = .ok (.i2l, 1) := by decide +kernel
theorem dX8_taken_2 : decode prog_10_method_73_code 2 = .ok (.lconst 0, 1) := by decide +kernel
theorem dX8_taken_3 : decode prog_10_method_73_code 3 = .ok (.ldc2_w 129, 3) := by decide +kernel
theorem dX8_taken_6 : decode prog_10_method_73_code 6 = .ok (.invokestatic 104, 3) := by decide +kernel
theorem dX8_taken_9 : decode prog_10_method_73_code 9 = .ok (.ifCond .ne 6, 3) := by decide +kernel
theorem dX8_taken_12 : decode prog_10_method_73_code 12 = .ok (.bipush (-2), 2) := by decide +kernel
theorem dX8_taken_14 : decode prog_10_method_73_code 14 = .ok (.ireturn, 1) := by decide +kernel
theorem dX8_taken_15 : decode prog_10_method_73_code 15 = .ok (.aload_n 0, 1) := by decide +kernel
theorem dX8_taken_16 : decode prog_10_method_73_code 16 = .ok (.iload_n 1, 1) := by decide +kernel
theorem dX8_taken_17 : decode prog_10_method_73_code 17 = .ok (.invokevirtual 112, 3) := by decide +kernel
theorem dX8_taken_20 : decode prog_10_method_73_code 20 = .ok (.ifCond .ne 6, 3) := by decide +kernel
theorem dX8_taken_23 : decode prog_10_method_73_code 23 = .ok (.bipush (-11), 2) := by decide +kernel
theorem dX8_taken_25 : decode prog_10_method_73_code 25 = .ok (.ireturn, 1) := by decide +kernel
theorem dX8_taken_26 : decode prog_10_method_73_code 26 = .ok (.aload_n 0, 1) := by decide +kernel
theorem dX8_taken_27 : decode prog_10_method_73_code 27 = .ok (.getfield 29, 3) := by decide +kernel
theorem dX8_taken_30 : decode prog_10_method_73_code 30 = .ok (.iload_n 1, 1) := by decide +kernel
theorem dX8_taken_31 : decode prog_10_method_73_code 31 = .ok (.iaload, 1) := by decide +kernel
theorem dX8_taken_32 : decode prog_10_method_73_code 32 = .ok (.istore_n 3, 1) := by decide +kernel
theorem dX8_taken_33 : decode prog_10_method_73_code 33 = .ok (.iload_n 3, 1) := by decide +kernel
theorem dX8_taken_34 : decode prog_10_method_73_code 34 = .ok (.iconst (-1), 1) := by decide +kernel
theorem dX8_taken_35 : decode prog_10_method_73_code 35 = .ok (.if_icmp .eq 16, 3) := by decide +kernel
theorem dX8_taken_38 : decode prog_10_method_73_code 38 = .ok (.iload_n 3, 1) := by decide +kernel
theorem dX8_taken_39 : decode prog_10_method_73_code 39 = .ok (.iload_n 2, 1) := by decide +kernel
theorem dX8_taken_40 : decode prog_10_method_73_code 40 = .ok (.if_icmp .eq 11, 3) := by decide +kernel
theorem dX8_taken_43 : decode prog_10_method_73_code 43 = .ok (.iload_n 3, 1) := by decide +kernel
theorem dX8_taken_44 : decode prog_10_method_73_code 44 = .ok (.invokestatic 382, 3) := by decide +kernel
theorem dX8_taken_47 : decode prog_10_method_73_code 47 = .ok (.istore_n 3, 1) := by decide +kernel
theorem dX8_taken_48 : decode prog_10_method_73_code 48 = .ok (.goto (-15), 3) := by decide +kernel
theorem dX8_taken_51 : decode prog_10_method_73_code 51 = .ok (.iload_n 3, 1) := by decide +kernel
theorem dX8_taken_52 : decode prog_10_method_73_code 52 = .ok (.iload_n 2, 1) := by decide +kernel
theorem dX8_taken_53 : decode prog_10_method_73_code 53 = .ok (.if_icmp .ne 12, 3) := by decide +kernel
theorem dX8_taken_56 : decode prog_10_method_73_code 56 = .ok (.aload_n 0, 1) := by decide +kernel
theorem dX8_taken_57 : decode prog_10_method_73_code 57 = .ok (.getfield 32, 3) := by decide +kernel
theorem dX8_taken_60 : decode prog_10_method_73_code 60 = .ok (.iload_n 1, 1) := by decide +kernel
theorem dX8_taken_61 : decode prog_10_method_73_code 61 = .ok (.iaload, 1) := by decide +kernel
theorem dX8_taken_62 : decode prog_10_method_73_code 62 = .ok (.goto 5, 3) := by decide +kernel
theorem dX8_taken_65 : decode prog_10_method_73_code 65 = .ok (.bipush (-13), 2) := by decide +kernel
theorem dX8_taken_67 : decode prog_10_method_73_code 67 = .ok (.ireturn, 1) := by decide +kernel
theorem dX8_over_0 : decode prog_10_method_72_code 0 = .ok (.iload_n 0, 1) := by decide +kernel
theorem dX8_over_1 : decode prog_10_method_72_code 1 = .ok (.ifCond .ne 7, 3) := by decide +kernel
theorem dX8_over_4 : decode prog_10_method_72_code 4 = .ok (.iconst (-1), 1) := by decide +kernel
theorem dX8_over_5 : decode prog_10_method_72_code 5 = .ok (.goto 22, 3) := by decide +kernel
theorem dX8_over_8 : decode prog_10_method_72_code 8 = .ok (.iload_n 0, 1) := by decide +kernel
theorem dX8_over_9 : decode prog_10_method_72_code 9 = .ok (.iconst 3, 1) := by decide +kernel
theorem dX8_over_10 : decode prog_10_method_72_code 10 = .ok (.if_icmp .ne 7, 3) := by decide +kernel
theorem dX8_over_13 : decode prog_10_method_72_code 13 = .ok (.iconst 1, 1) := by decide +kernel
theorem dX8_over_14 : decode prog_10_method_72_code 14 = .ok (.goto 13, 3) := by decide +kernel
theorem dX8_over_17 : decode prog_10_method_72_code 17 = .ok (.iload_n 0, 1) := by decide +kernel
theorem dX8_over_18 : decode prog_10_method_72_code 18 = .ok (.iconst 4, 1) := by decide +kernel
theorem dX8_over_19 : decode prog_10_method_72_code 19 = .ok (.if_icmp .ne 7, 3) := by decide +kernel
theorem dX8_over_22 : decode prog_10_method_72_code 22 = .ok (.iconst 2, 1) := by decide +kernel
theorem dX8_over_23 : decode prog_10_method_72_code 23 = .ok (.goto 4, 3) := by decide +kernel
theorem dX8_over_26 : decode prog_10_method_72_code 26 = .ok (.iconst 0, 1) := by decide +kernel
theorem dX8_over_27 : decode prog_10_method_72_code 27 = .ok (.ireturn, 1) := by decide +kernel
theorem dJ0_length_8abf5_0 : decode prog_13_method_54_code 0 = .ok (.aload_n 0, 1) := by decide +kernel
theorem dJ0_length_8abf5_1 : decode prog_13_method_54_code 1 = .ok (.getfield 9, 3) := by decide +kernel
theorem dJ0_length_8abf5_4 : decode prog_13_method_54_code 4 = .ok (.arraylength, 1) := by decide +kernel
theorem dJ0_length_8abf5_5 : decode prog_13_method_54_code 5 = .ok (.aload_n 0, 1) := by decide +kernel
theorem dJ0_length_8abf5_6 : decode prog_13_method_54_code 6 = .ok (.invokevirtual 335, 3) := by decide +kernel
theorem dJ0_length_8abf5_9 : decode prog_13_method_54_code 9 = .ok (.ishr, 1) := by decide +kernel
theorem dJ0_length_8abf5_10 : decode prog_13_method_54_code 10 = .ok (.ireturn, 1) := by decide +kernel
theorem dJ0_coder_7d493_0 : decode prog_13_method_152_code 0 = .ok (.getstatic 38, 3) := by decide +kernel
theorem dJ0_coder_7d493_3 : decode prog_13_method_152_code 3 = .ok (.ifCond .eq 10, 3) := by decide +kernel
theorem dJ0_coder_7d493_6 : decode prog_13_method_152_code 6 = .ok (.aload_n 0, 1) := by decide +kernel
theorem dJ0_coder_7d493_7 : decode prog_13_method_152_code 7 = .ok (.getfield 15, 3) := by decide +kernel
theorem dJ0_coder_7d493_10 : decode prog_13_method_152_code 10 = .ok (.goto 4, 3) := by decide +kernel
theorem dJ0_coder_7d493_13 : decode prog_13_method_152_code 13 = .ok (.iconst 1, 1) := by decide +kernel
theorem dJ0_coder_7d493_14 : decode prog_13_method_152_code 14 = .ok (.ireturn, 1) := by decide +kernel
theorem dJ0_charAt_5068e_0 : decode prog_13_method_56_code 0 = .ok (.aload_n 0, 1) := by decide +kernel
theorem dJ0_charAt_5068e_1 : decode prog_13_method_56_code 1 = .ok (.invokevirtual 492, 3) := by decide +kernel
theorem dJ0_charAt_5068e_4 : decode prog_13_method_56_code 4 = .ok (.ifCond .eq 12, 3) := by decide +kernel
theorem dJ0_charAt_5068e_7 : decode prog_13_method_56_code 7 = .ok (.aload_n 0, 1) := by decide +kernel
theorem dJ0_charAt_5068e_8 : decode prog_13_method_56_code 8 = .ok (.getfield 9, 3) := by decide +kernel
theorem dJ0_charAt_5068e_11 : decode prog_13_method_56_code 11 = .ok (.iload_n 1, 1) := by decide +kernel
theorem dJ0_charAt_5068e_12 : decode prog_13_method_56_code 12 = .ok (.invokestatic 495, 3) := by decide +kernel
theorem dJ0_charAt_5068e_15 : decode prog_13_method_56_code 15 = .ok (.ireturn, 1) := by decide +kernel
theorem dJ0_charAt_5068e_16 : decode prog_13_method_56_code 16 = .ok (.aload_n 0, 1) := by decide +kernel
theorem dJ0_charAt_5068e_17 : decode prog_13_method_56_code 17 = .ok (.getfield 9, 3) := by decide +kernel
theorem dJ0_charAt_5068e_20 : decode prog_13_method_56_code 20 = .ok (.iload_n 1, 1) := by decide +kernel
theorem dJ0_charAt_5068e_21 : decode prog_13_method_56_code 21 = .ok (.invokestatic 498, 3) := by decide +kernel
theorem dJ0_charAt_5068e_24 : decode prog_13_method_56_code 24 = .ok (.ireturn, 1) := by decide +kernel
theorem dJ0_isLatin1_aae02_0 : decode prog_13_method_154_code 0 = .ok (.getstatic 38, 3) := by decide +kernel
theorem dJ0_isLatin1_aae02_3 : decode prog_13_method_154_code 3 = .ok (.ifCond .eq 14, 3) := by decide +kernel
theorem dJ0_isLatin1_aae02_6 : decode prog_13_method_154_code 6 = .ok (.aload_n 0, 1) := by decide +kernel
theorem dJ0_isLatin1_aae02_7 : decode prog_13_method_154_code 7 = .ok (.getfield 15, 3) := by decide +kernel
theorem dJ0_isLatin1_aae02_10 : decode prog_13_method_154_code 10 = .ok (.ifCond .ne 7, 3) := by decide +kernel
theorem dJ0_isLatin1_aae02_13 : decode prog_13_method_154_code 13 = .ok (.iconst 1, 1) := by decide +kernel
theorem dJ0_isLatin1_aae02_14 : decode prog_13_method_154_code 14 = .ok (.goto 4, 3) := by decide +kernel
theorem dJ0_isLatin1_aae02_17 : decode prog_13_method_154_code 17 = .ok (.iconst 0, 1) := by decide +kernel
theorem dJ0_isLatin1_aae02_18 : decode prog_13_method_154_code 18 = .ok (.ireturn, 1) := by decide +kernel
theorem dJ1_charAt_3b067_0 : decode prog_14_method_2_code 0 = .ok (.iload_n 1, 1) := by decide +kernel
theorem dJ1_charAt_3b067_1 : decode prog_14_method_2_code 1 = .ok (.aload_n 0, 1) := by decide +kernel
theorem dJ1_charAt_3b067_2 : decode prog_14_method_2_code 2 = .ok (.arraylength, 1) := by decide +kernel
theorem dJ1_charAt_3b067_3 : decode prog_14_method_2_code 3 = .ok (.invokestatic 9, 3) := by decide +kernel
theorem dJ1_charAt_3b067_6 : decode prog_14_method_2_code 6 = .ok (.aload_n 0, 1) := by decide +kernel
theorem dJ1_charAt_3b067_7 : decode prog_14_method_2_code 7 = .ok (.iload_n 1, 1) := by decide +kernel
theorem dJ1_charAt_3b067_8 : decode prog_14_method_2_code 8 = .ok (.baload, 1) := by decide +kernel
theorem dJ1_charAt_3b067_9 : decode prog_14_method_2_code 9 = .ok (.sipush 255, 3) := by decide +kernel
theorem dJ1_charAt_3b067_12 : decode prog_14_method_2_code 12 = .ok (.iand, 1) := by decide +kernel
theorem dJ1_charAt_3b067_13 : decode prog_14_method_2_code 13 = .ok (.i2c, 1) := by decide +kernel
theorem dJ1_charAt_3b067_14 : decode prog_14_method_2_code 14 = .ok (.ireturn, 1) := by decide +kernel
theorem dJ0_checkIndex_df160_0 : decode prog_13_method_155_code 0 = .ok (.iload_n 0, 1) := by decide +kernel
theorem dJ0_checkIndex_df160_1 : decode prog_13_method_155_code 1 = .ok (.iload_n 1, 1) := by decide +kernel
theorem dJ0_checkIndex_df160_2 : decode prog_13_method_155_code 2 = .ok (.getstatic 1053, 3) := by decide +kernel
theorem dJ0_checkIndex_df160_5 : decode prog_13_method_155_code 5 = .ok (.invokestatic 1059, 3) := by decide +kernel
theorem dJ0_checkIndex_df160_8 : decode prog_13_method_155_code 8 = .ok (.pop, 1) := by decide +kernel
theorem dJ0_checkIndex_df160_9 : decode prog_13_method_155_code 9 = .ok (.return_, 1) := by decide +kernel
theorem dJ3_checkIndex_8e157_0 : decode prog_18_method_11_code 0 = .ok (.iload_n 0, 1) := by decide +kernel
theorem dJ3_checkIndex_8e157_1 : decode prog_18_method_11_code 1 = .ok (.ifCond .lt 8, 3) := by decide +kernel
theorem dJ3_checkIndex_8e157_4 : decode prog_18_method_11_code 4 = .ok (.iload_n 0, 1) := by decide +kernel
theorem dJ3_checkIndex_8e157_5 : decode prog_18_method_11_code 5 = .ok (.iload_n 1, 1) := by decide +kernel
theorem dJ3_checkIndex_8e157_6 : decode prog_18_method_11_code 6 = .ok (.if_icmp .lt 10, 3) := by decide +kernel
theorem dJ3_checkIndex_8e157_9 : decode prog_18_method_11_code 9 = .ok (.aload_n 2, 1) := by decide +kernel
theorem dJ3_checkIndex_8e157_10 : decode prog_18_method_11_code 10 = .ok (.iload_n 0, 1) := by decide +kernel
theorem dJ3_checkIndex_8e157_11 : decode prog_18_method_11_code 11 = .ok (.iload_n 1, 1) := by decide +kernel
theorem dJ3_checkIndex_8e157_12 : decode prog_18_method_11_code 12 = .ok (.invokestatic 95, 3) := by decide +kernel
theorem dJ3_checkIndex_8e157_15 : decode prog_18_method_11_code 15 = .ok (.athrow, 1) := by decide +kernel
theorem dJ3_checkIndex_8e157_16 : decode prog_18_method_11_code 16 = .ok (.iload_n 0, 1) := by decide +kernel
theorem dJ3_checkIndex_8e157_17 : decode prog_18_method_11_code 17 = .ok (.ireturn, 1) := by decide +kernel
theorem dJ7_fill_53178_0 : decode prog_17_method_103_code 0 = .ok (.iconst 0, 1) := by decide +kernel
theorem dJ7_fill_53178_1 : decode prog_17_method_103_code 1 = .ok (.istore_n 2, 1) := by decide +kernel
theorem dJ7_fill_53178_2 : decode prog_17_method_103_code 2 = .ok (.aload_n 0, 1) := by decide +kernel
theorem dJ7_fill_53178_3 : decode prog_17_method_103_code 3 = .ok (.arraylength, 1) := by decide +kernel
theorem dJ7_fill_53178_4 : decode prog_17_method_103_code 4 = .ok (.istore_n 3, 1) := by decide +kernel
theorem dJ7_fill_53178_5 : decode prog_17_method_103_code 5 = .ok (.iload_n 2, 1) := by decide +kernel
theorem dJ7_fill_53178_6 : decode prog_17_method_103_code 6 = .ok (.iload_n 3, 1) := by decide +kernel
theorem dJ7_fill_53178_7 : decode prog_17_method_103_code 7 = .ok (.if_icmp .ge 13, 3) := by decide +kernel
theorem dJ7_fill_53178_10 : decode prog_17_method_103_code 10 = .ok (.aload_n 0, 1) := by decide +kernel
theorem dJ7_fill_53178_11 : decode prog_17_method_103_code 11 = .ok (.iload_n 2, 1) := by decide +kernel
theorem dJ7_fill_53178_12 : decode prog_17_method_103_code 12 = .ok (.iload_n 1, 1) := by decide +kernel
theorem dJ7_fill_53178_13 : decode prog_17_method_103_code 13 = .ok (.iastore, 1) := by decide +kernel
theorem dJ7_fill_53178_14 : decode prog_17_method_103_code 14 = .ok (.iinc 2 1, 3) := by decide +kernel
theorem dJ7_fill_53178_17 : decode prog_17_method_103_code 17 = .ok (.goto (-12), 3) := by decide +kernel
theorem dJ7_fill_53178_20 : decode prog_17_method_103_code 20 = .ok (.return_, 1) := by decide +kernel
theorem dJ7_fill_d0a16_0 : decode prog_17_method_101_code 0 = .ok (.iconst 0, 1) := by decide +kernel
theorem dJ7_fill_d0a16_1 : decode prog_17_method_101_code 1 = .ok (.istore_n 3, 1) := by decide +kernel
theorem dJ7_fill_d0a16_2 : decode prog_17_method_101_code 2 = .ok (.aload_n 0, 1) := by decide +kernel
theorem dJ7_fill_d0a16_3 : decode prog_17_method_101_code 3 = .ok (.arraylength, 1) := by decide +kernel
theorem dJ7_fill_d0a16_4 : decode prog_17_method_101_code 4 = .ok (.istore 4, 2) := by decide +kernel
theorem dJ7_fill_d0a16_6 : decode prog_17_method_101_code 6 = .ok (.iload_n 3, 1) := by decide +kernel
theorem dJ7_fill_d0a16_7 : decode prog_17_method_101_code 7 = .ok (.iload 4, 2) := by decide +kernel
theorem dJ7_fill_d0a16_9 : decode prog_17_method_101_code 9 = .ok (.if_icmp .ge 13, 3) := by decide +kernel
theorem dJ7_fill_d0a16_12 : decode prog_17_method_101_code 12 = .ok (.aload_n 0, 1) := by decide +kernel
theorem dJ7_fill_d0a16_13 : decode prog_17_method_101_code 13 = .ok (.iload_n 3, 1) := by decide +kernel
theorem dJ7_fill_d0a16_14 : decode prog_17_method_101_code 14 = .ok (.lload_n 1, 1) := by decide +kernel
theorem dJ7_fill_d0a16_15 : decode prog_17_method_101_code 15 = .ok (.lastore, 1) := by decide +kernel
theorem dJ7_fill_d0a16_16 : decode prog_17_method_101_code 16 = .ok (.iinc 3 1, 3) := by decide +kernel
theorem dJ7_fill_d0a16_19 : decode prog_17_method_101_code 19 = .ok (.goto (-13), 3) := by decide +kernel
theorem dJ7_fill_d0a16_22 : decode prog_17_method_101_code 22 = .ok (.return_, 1) := by decide +kernel
theorem dJ0_indexOf_0f7a4_0 : decode prog_13_method_79_code 0 = .ok (.aload_n 0, 1) := by decide +kernel
theorem dJ0_indexOf_0f7a4_1 : decode prog_13_method_79_code 1 = .ok (.iload_n 1, 1) := by decide +kernel
theorem dJ0_indexOf_0f7a4_2 : decode prog_13_method_79_code 2 = .ok (.iconst 0, 1) := by decide +kernel
theorem dJ0_indexOf_0f7a4_3 : decode prog_13_method_79_code 3 = .ok (.invokevirtual 633, 3) := by decide +kernel
theorem dJ0_indexOf_0f7a4_6 : decode prog_13_method_79_code 6 = .ok (.ireturn, 1) := by decide +kernel
theorem dJ0_indexOf_7cf53_0 : decode prog_13_method_80_code 0 = .ok (.aload_n 0, 1) := by decide +kernel
theorem dJ0_indexOf_7cf53_1 : decode prog_13_method_80_code 1 = .ok (.invokevirtual 492, 3) := by decide +kernel
theorem dJ0_indexOf_7cf53_4 : decode prog_13_method_80_code 4 = .ok (.ifCond .eq 19, 3) := by decide +kernel
theorem dJ0_indexOf_7cf53_7 : decode prog_13_method_80_code 7 = .ok (.aload_n 0, 1) := by decide +kernel
theorem dJ0_indexOf_7cf53_8 : decode prog_13_method_80_code 8 = .ok (.getfield 9, 3) := by decide +kernel
theorem dJ0_indexOf_7cf53_11 : decode prog_13_method_80_code 11 = .ok (.iload_n 1, 1) := by decide +kernel
theorem dJ0_indexOf_7cf53_12 : decode prog_13_method_80_code 12 = .ok (.iload_n 2, 1) := by decide +kernel
theorem dJ0_indexOf_7cf53_13 : decode prog_13_method_80_code 13 = .ok (.aload_n 0, 1) := by decide +kernel
theorem dJ0_indexOf_7cf53_14 : decode prog_13_method_80_code 14 = .ok (.invokevirtual 505, 3) := by decide +kernel
theorem dJ0_indexOf_7cf53_17 : decode prog_13_method_80_code 17 = .ok (.invokestatic 637, 3) := by decide +kernel
theorem dJ0_indexOf_7cf53_20 : decode prog_13_method_80_code 20 = .ok (.goto 16, 3) := by decide +kernel
theorem dJ0_indexOf_7cf53_23 : decode prog_13_method_80_code 23 = .ok (.aload_n 0, 1) := by decide +kernel
theorem dJ0_indexOf_7cf53_24 : decode prog_13_method_80_code 24 = .ok (.getfield 9, 3) := by decide +kernel
theorem dJ0_indexOf_7cf53_27 : decode prog_13_method_80_code 27 = .ok (.iload_n 1, 1) := by decide +kernel
theorem dJ0_indexOf_7cf53_28 : decode prog_13_method_80_code 28 = .ok (.iload_n 2, 1) := by decide +kernel
theorem dJ0_indexOf_7cf53_29 : decode prog_13_method_80_code 29 = .ok (.aload_n 0, 1) := by decide +kernel
theorem dJ0_indexOf_7cf53_30 : decode prog_13_method_80_code 30 = .ok (.invokevirtual 505, 3) := by decide +kernel
theorem dJ0_indexOf_7cf53_33 : decode prog_13_method_80_code 33 = .ok (.invokestatic 640, 3) := by decide +kernel
theorem dJ0_indexOf_7cf53_36 : decode prog_13_method_80_code 36 = .ok (.ireturn, 1) := by decide +kernel
theorem dJ1_indexOf_4cfef_0 : decode prog_14_method_22_code 0 = .ok (.iload_n 1, 1) := by decide +kernel
theorem dJ1_indexOf_4cfef_1 : decode prog_14_method_22_code 1 = .ok (.invokestatic 88, 3) := by decide +kernel
theorem dJ1_indexOf_4cfef_4 : decode prog_14_method_22_code 4 = .ok (.ifCond .ne 5, 3) := by decide +kernel
theorem dJ1_indexOf_4cfef_7 : decode prog_14_method_22_code 7 = .ok (.iconst (-1), 1) := by decide +kernel
theorem dJ1_indexOf_4cfef_8 : decode prog_14_method_22_code 8 = .ok (.ireturn, 1) := by decide +kernel
theorem dJ1_indexOf_4cfef_9 : decode prog_14_method_22_code 9 = .ok (.iload_n 2, 1) := by decide +kernel
theorem dJ1_indexOf_4cfef_10 : decode prog_14_method_22_code 10 = .ok (.iconst 0, 1) := by decide +kernel
theorem dJ1_indexOf_4cfef_11 : decode prog_14_method_22_code 11 = .ok (.invokestatic 92, 3) := by decide +kernel
theorem dJ1_indexOf_4cfef_14 : decode prog_14_method_22_code 14 = .ok (.istore_n 2, 1) := by decide +kernel
theorem dJ1_indexOf_4cfef_15 : decode prog_14_method_22_code 15 = .ok (.iload_n 3, 1) := by decide +kernel
theorem dJ1_indexOf_4cfef_16 : decode prog_14_method_22_code 16 = .ok (.aload_n 0, 1) := by decide +kernel
theorem dJ1_indexOf_4cfef_17 : decode prog_14_method_22_code 17 = .ok (.arraylength, 1) := by decide +kernel
theorem dJ1_indexOf_4cfef_18 : decode prog_14_method_22_code 18 = .ok (.invokestatic 38, 3) := by decide +kernel
theorem dJ1_indexOf_4cfef_21 : decode prog_14_method_22_code 21 = .ok (.istore_n 3, 1) := by decide +kernel
theorem dJ1_indexOf_4cfef_22 : decode prog_14_method_22_code 22 = .ok (.iload_n 2, 1) := by decide +kernel
theorem dJ1_indexOf_4cfef_23 : decode prog_14_method_22_code 23 = .ok (.iload_n 3, 1) := by decide +kernel
theorem dJ1_indexOf_4cfef_24 : decode prog_14_method_22_code 24 = .ok (.if_icmp .lt 5, 3) := by decide +kernel
theorem dJ1_indexOf_4cfef_27 : decode prog_14_method_22_code 27 = .ok (.iconst (-1), 1) := by decide +kernel
theorem dJ1_indexOf_4cfef_28 : decode prog_14_method_22_code 28 = .ok (.ireturn, 1) := by decide +kernel
theorem dJ1_indexOf_4cfef_29 : decode prog_14_method_22_code 29 = .ok (.aload_n 0, 1) := by decide +kernel
theorem dJ1_indexOf_4cfef_30 : decode prog_14_method_22_code 30 = .ok (.iload_n 1, 1) := by decide +kernel
theorem dJ1_indexOf_4cfef_31 : decode prog_14_method_22_code 31 = .ok (.iload_n 2, 1) := by decide +kernel
theorem dJ1_indexOf_4cfef_32 : decode prog_14_method_22_code 32 = .ok (.iload_n 3, 1) := by decide +kernel
theorem dJ1_indexOf_4cfef_33 : decode prog_14_method_22_code 33 = .ok (.invokestatic 95, 3) := by decide +kernel
theorem dJ1_indexOf_4cfef_36 : decode prog_14_method_22_code 36 = .ok (.ireturn, 1) := by decide +kernel
theorem dJ1_canEncode_9a6ad_0 : decode prog_14_method_4_code 0 = .ok (.iload_n 0, 1) := by decide +kernel
theorem dJ1_canEncode_9a6ad_1 : decode prog_14_method_4_code 1 = .ok (.ifCond .lt 14, 3) := by decide +kernel
theorem dJ1_canEncode_9a6ad_4 : decode prog_14_method_4_code 4 = .ok (.iload_n 0, 1) := by decide +kernel
theorem dJ1_canEncode_9a6ad_5 : decode prog_14_method_4_code 5 = .ok (.sipush 255, 3) := by decide +kernel
theorem dJ1_canEncode_9a6ad_8 : decode prog_14_method_4_code 8 = .ok (.if_icmp .gt 7, 3) := by decide +kernel
theorem dJ1_canEncode_9a6ad_11 : decode prog_14_method_4_code 11 = .ok (.iconst 1, 1) := by decide +kernel
theorem dJ1_canEncode_9a6ad_12 : decode prog_14_method_4_code 12 = .ok (.goto 4, 3) := by decide +kernel
theorem dJ1_canEncode_9a6ad_15 : decode prog_14_method_4_code 15 = .ok (.iconst 0, 1) := by decide +kernel
theorem dJ1_canEncode_9a6ad_16 : decode prog_14_method_4_code 16 = .ok (.ireturn, 1) := by decide +kernel
theorem dJ1_indexOfChar_4cfef_0 : decode prog_14_method_23_code 0 = .ok (.iload_n 1, 1) := by decide +kernel
theorem dJ1_indexOfChar_4cfef_1 : decode prog_14_method_23_code 1 = .ok (.i2b, 1) := by decide +kernel
theorem dJ1_indexOfChar_4cfef_2 : decode prog_14_method_23_code 2 = .ok (.istore 4, 2) := by decide +kernel
theorem dJ1_indexOfChar_4cfef_4 : decode prog_14_method_23_code 4 = .ok (.iload_n 2, 1) := by decide +kernel
theorem dJ1_indexOfChar_4cfef_5 : decode prog_14_method_23_code 5 = .ok (.istore 5, 2) := by decide +kernel
theorem dJ1_indexOfChar_4cfef_7 : decode prog_14_method_23_code 7 = .ok (.iload 5, 2) := by decide +kernel
theorem dJ1_indexOfChar_4cfef_9 : decode prog_14_method_23_code 9 = .ok (.iload_n 3, 1) := by decide +kernel
theorem dJ1_indexOfChar_4cfef_10 : decode prog_14_method_23_code 10 = .ok (.if_icmp .ge 21, 3) := by decide +kernel
theorem dJ1_indexOfChar_4cfef_13 : decode prog_14_method_23_code 13 = .ok (.aload_n 0, 1) := by decide +kernel
theorem dJ1_indexOfChar_4cfef_14 : decode prog_14_method_23_code 14 = .ok (.iload 5, 2) := by decide +kernel
theorem dJ1_indexOfChar_4cfef_16 : decode prog_14_method_23_code 16 = .ok (.baload, 1) := by decide +kernel
theorem dJ1_indexOfChar_4cfef_17 : decode prog_14_method_23_code 17 = .ok (.iload 4, 2) := by decide +kernel
theorem dJ1_indexOfChar_4cfef_19 : decode prog_14_method_23_code 19 = .ok (.if_icmp .ne 6, 3) := by decide +kernel
theorem dJ1_indexOfChar_4cfef_22 : decode prog_14_method_23_code 22 = .ok (.iload 5, 2) := by decide +kernel
theorem dJ1_indexOfChar_4cfef_24 : decode prog_14_method_23_code 24 = .ok (.ireturn, 1) := by decide +kernel
theorem dJ1_indexOfChar_4cfef_25 : decode prog_14_method_23_code 25 = .ok (.iinc 5 1, 3) := by decide +kernel
theorem dJ1_indexOfChar_4cfef_28 : decode prog_14_method_23_code 28 = .ok (.goto (-21), 3) := by decide +kernel
theorem dJ1_indexOfChar_4cfef_31 : decode prog_14_method_23_code 31 = .ok (.iconst (-1), 1) := by decide +kernel
theorem dJ1_indexOfChar_4cfef_32 : decode prog_14_method_23_code 32 = .ok (.ireturn, 1) := by decide +kernel
theorem dX7_init_0 : decode prog_1_method_1_code 0 = .ok (.aload_n 0, 1) := by decide +kernel
theorem dX7_init_1 : decode prog_1_method_1_code 1 = .ok (.invokespecial 3, 3) := by decide +kernel
theorem dX7_init_4 : decode prog_1_method_1_code 4 = .ok (.aload_n 0, 1) := by decide +kernel
theorem dX7_init_5 : decode prog_1_method_1_code 5 = .ok (.new 9, 3) := by decide +kernel
theorem dX7_init_8 : decode prog_1_method_1_code 8 = .ok (.dup, 1) := by decide +kernel
theorem dX7_init_9 : decode prog_1_method_1_code 9 = .ok (.invokespecial 11, 3) := by decide +kernel
theorem dX7_init_12 : decode prog_1_method_1_code 12 = .ok (.putfield 12, 3) := by decide +kernel
theorem dX7_init_15 : decode prog_1_method_1_code 15 = .ok (.aload_n 0, 1) := by decide +kernel
theorem dX7_init_16 : decode prog_1_method_1_code 16 = .ok (.new 9, 3) := by decide +kernel
theorem dX7_init_19 : decode prog_1_method_1_code 19 = .ok (.dup, 1) := by decide +kernel
theorem dX7_init_20 : decode prog_1_method_1_code 20 = .ok (.invokespecial 11, 3) := by decide +kernel
theorem dX7_init_23 : decode prog_1_method_1_code 23 = .ok (.putfield 16, 3) := by decide +kernel
theorem dX7_init_26 : decode prog_1_method_1_code 26 = .ok (.aload_n 0, 1) := by decide +kernel
theorem dX7_init_27 : decode prog_1_method_1_code 27 = .ok (.iconst 0, 1) := by decide +kernel
theorem dX7_init_28 : decode prog_1_method_1_code 28 = .ok (.putfield 19, 3) := by decide +kernel
theorem dX7_init_31 : decode prog_1_method_1_code 31 = .ok (.aload_n 0, 1) := by decide +kernel
theorem dX7_init_32 : decode prog_1_method_1_code 32 = .ok (.new 23, 3) := by decide +kernel
theorem dX7_init_35 : decode prog_1_method_1_code 35 = .ok (.dup, 1) := by decide +kernel
theorem dX7_init_36 : decode prog_1_method_1_code 36 = .ok (.invokespecial 25, 3) := by decide +kernel
theorem dX7_init_39 : decode prog_1_method_1_code 39 = .ok (.putfield 26, 3) := by decide +kernel
theorem dX7_init_42 : decode prog_1_method_1_code 42 = .ok (.aload_n 0, 1) := by decide +kernel
theorem dX7_init_43 : decode prog_1_method_1_code 43 = .ok (.bipush 6, 2) := by decide +kernel
theorem dX7_init_45 : decode prog_1_method_1_code 45 = .ok (.anewarray 30, 3) := by decide +kernel
theorem dX7_init_48 : decode prog_1_method_1_code 48 = .ok (.putfield 32, 3) := by decide +kernel
theorem dX7_init_51 : decode prog_1_method_1_code 51 = .ok (.aload_n 0, 1) := by decide +kernel
theorem dX7_init_52 : decode prog_1_method_1_code 52 = .ok (.iconst 0, 1) := by decide +kernel
theorem dX7_init_53 : decode prog_1_method_1_code 53 = .ok (.putfield 36, 3) := by decide +kernel
theorem dX7_init_56 : decode prog_1_method_1_code 56 = .ok (.aload_n 0, 1) := by decide +kernel
theorem dX7_init_57 : decode prog_1_method_1_code 57 = .ok (.iconst 4, 1) := by decide +kernel
theorem dX7_init_58 : decode prog_1_method_1_code 58 = .ok (.anewarray 40, 3) := by decide +kernel
theorem dX7_init_61 : decode prog_1_method_1_code 61 = .ok (.putfield 42, 3) := by decide +kernel
theorem dX7_init_64 : decode prog_1_method_1_code 64 = .ok (.aload_n 0, 1) := by decide +kernel
theorem dX7_init_65 : decode prog_1_method_1_code 65 = .ok (.new 46, 3) := by decide +kernel
theorem dX7_init_68 : decode prog_1_method_1_code 68 = .ok (.dup, 1) := by decide +kernel
theorem dX7_init_69 : decode prog_1_method_1_code 69 = .ok (.invokespecial 48, 3) := by decide +kernel
theorem dX7_init_72 : decode prog_1_method_1_code 72 = .ok (.putfield 49, 3) := by decide +kernel
theorem dX7_init_75 : decode prog_1_method_1_code 75 = .ok (.aload_n 0, 1) := by decide +kernel
theorem dX7_init_76 : decode prog_1_method_1_code 76 = .ok (.new 53, 3) := by decide +kernel
theorem dX7_init_79 : decode prog_1_method_1_code 79 = .ok (.dup, 1) := by decide +kernel
theorem dX7_init_80 : decode prog_1_method_1_code 80 = .ok (.invokespecial 55, 3) := by decide +kernel
theorem dX7_init_83 : decode prog_1_method_1_code 83 = .ok (.putfield 56, 3) := by decide +kernel
theorem dX7_init_86 : decode prog_1_method_1_code 86 = .ok (.iconst 0, 1) := by decide +kernel
theorem dX7_init_87 : decode prog_1_method_1_code 87 = .ok (.istore_n 1, 1) := by decide +kernel
theorem dX7_init_88 : decode prog_1_method_1_code 88 = .ok (.iload_n 1, 1) := by decide +kernel
theorem dX7_init_89 : decode prog_1_method_1_code 89 = .ok (.bipush 6, 2) := by decide +kernel
theorem dX7_init_91 : decode prog_1_method_1_code 91 = .ok (.if_icmp .ge 22, 3) := by decide +kernel
theorem dX7_init_94 : decode prog_1_method_1_code 94 = .ok (.aload_n 0, 1) := by decide +kernel
theorem dX7_init_95 : decode prog_1_method_1_code 95 = .ok (.getfield 32, 3) := by decide +kernel
theorem dX7_init_98 : decode prog_1_method_1_code 98 = .ok (.iload_n 1, 1) := by decide +kernel
theorem dX7_init_99 : decode prog_1_method_1_code 99 = .ok (.new 30, 3) := by decide +kernel
theorem dX7_init_102 : decode prog_1_method_1_code 102 = .ok (.dup, 1) := by decide +kernel
theorem dX7_init_103 : decode prog_1_method_1_code 103 = .ok (.invokespecial 60, 3) := by decide +kernel
theorem dX7_init_106 : decode prog_1_method_1_code 106 = .ok (.aastore, 1) := by decide +kernel
theorem dX7_init_107 : decode prog_1_method_1_code 107 = .ok (.iinc 1 1, 3) := by decide +kernel
theorem dX7_init_110 : decode prog_1_method_1_code 110 = .ok (.goto (-22), 3) := by decide +kernel
theorem dX7_init_113 : decode prog_1_method_1_code 113 = .ok (.iconst 0, 1) := by decide +kernel
theorem dX7_init_114 : decode prog_1_method_1_code 114 = .ok (.istore_n 1, 1) := by decide +kernel
theorem dX7_init_115 : decode prog_1_method_1_code 115 = .ok (.iload_n 1, 1) := by decide +kernel
theorem dX7_init_116 : decode prog_1_method_1_code 116 = .ok (.iconst 4, 1) := by decide +kernel
theorem dX7_init_117 : decode prog_1_method_1_code 117 = .ok (.if_icmp .ge 22, 3) := by decide +kernel
theorem dX7_init_120 : decode prog_1_method_1_code 120 = .ok (.aload_n 0, 1) := by decide +kernel
theorem dX7_init_121 : decode prog_1_method_1_code 121 = .ok (.getfield 42, 3) := by decide +kernel
theorem dX7_init_124 : decode prog_1_method_1_code 124 = .ok (.iload_n 1, 1) := by decide +kernel
theorem dX7_init_125 : decode prog_1_method_1_code 125 = .ok (.new 40, 3) := by decide +kernel
theorem dX7_init_128 : decode prog_1_method_1_code 128 = .ok (.dup, 1) := by decide +kernel
theorem dX7_init_129 : decode prog_1_method_1_code 129 = .ok (.invokespecial 61, 3) := by decide +kernel
theorem dX7_init_132 : decode prog_1_method_1_code 132 = .ok (.aastore, 1) := by decide +kernel
theorem dX7_init_133 : decode prog_1_method_1_code 133 = .ok (.iinc 1 1, 3) := by decide +kernel
theorem dX7_init_136 : decode prog_1_method_1_code 136 = .ok (.goto (-21), 3) := by decide +kernel
theorem dX7_init_139 : decode prog_1_method_1_code 139 = .ok (.iconst 0, 1) := by decide +kernel
theorem dX7_init_140 : decode prog_1_method_1_code 140 = .ok (.istore_n 1, 1) := by decide +kernel
theorem dX7_init_141 : decode prog_1_method_1_code 141 = .ok (.iload_n 1, 1) := by decide +kernel
theorem dX7_init_142 : decode prog_1_method_1_code 142 = .ok (.ldc 62, 2) := by decide +kernel
theorem dX7_init_144 : decode prog_1_method_1_code 144 = .ok (.invokevirtual 64, 3) := by decide +kernel
theorem dX7_init_147 : decode prog_1_method_1_code 147 = .ok (.if_icmp .ge 23, 3) := by decide +kernel
theorem dX7_init_150 : decode prog_1_method_1_code 150 = .ok (.aload_n 0, 1) := by decide +kernel
theorem dX7_init_151 : decode prog_1_method_1_code 151 = .ok (.getfield 26, 3) := by decide +kernel
theorem dX7_init_154 : decode prog_1_method_1_code 154 = .ok (.ldc 62, 2) := by decide +kernel
theorem dX7_init_156 : decode prog_1_method_1_code 156 = .ok (.iload_n 1, 1) := by decide +kernel
theorem dX7_init_157 : decode prog_1_method_1_code 157 = .ok (.invokevirtual 70, 3) := by decide +kernel
theorem dX7_init_160 : decode prog_1_method_1_code 160 = .ok (.invokevirtual 74, 3) := by decide +kernel
theorem dX7_init_163 : decode prog_1_method_1_code 163 = .ok (.pop, 1) := by decide +kernel
theorem dX7_init_164 : decode prog_1_method_1_code 164 = .ok (.iinc 1 1, 3) := by decide +kernel
theorem dX7_init_167 : decode prog_1_method_1_code 167 = .ok (.goto (-26), 3) := by decide +kernel
theorem dX7_init_170 : decode prog_1_method_1_code 170 = .ok (.aload_n 0, 1) := by decide +kernel
theorem dX7_init_171 : decode prog_1_method_1_code 171 = .ok (.getfield 26, 3) := by decide +kernel
theorem dX7_init_174 : decode prog_1_method_1_code 174 = .ok (.aload_n 0, 1) := by decide +kernel
theorem dX7_init_175 : decode prog_1_method_1_code 175 = .ok (.getfield 32, 3) := by decide +kernel
theorem dX7_init_178 : decode prog_1_method_1_code 178 = .ok (.iconst 0, 1) := by decide +kernel
theorem dX7_init_179 : decode prog_1_method_1_code 179 = .ok (.aaload, 1) := by decide +kernel
theorem dX7_init_180 : decode prog_1_method_1_code 180 = .ok (.invokevirtual 78, 3) := by decide +kernel
theorem dX7_init_183 : decode prog_1_method_1_code 183 = .ok (.pop, 1) := by decide +kernel
theorem dX7_init_184 : decode prog_1_method_1_code 184 = .ok (.aload_n 0, 1) := by decide +kernel
theorem dX7_init_185 : decode prog_1_method_1_code 185 = .ok (.getfield 26, 3) := by decide +kernel
theorem dX7_init_188 : decode prog_1_method_1_code 188 = .ok (.invokevirtual 82, 3) := by decide +kernel
theorem dX7_init_191 : decode prog_1_method_1_code 191 = .ok (.aload_n 0, 1) := by decide +kernel
theorem dX7_init_192 : decode prog_1_method_1_code 192 = .ok (.iconst 1, 1) := by decide +kernel
theorem dX7_init_193 : decode prog_1_method_1_code 193 = .ok (.putfield 36, 3) := by decide +kernel
theorem dX7_init_196 : decode prog_1_method_1_code 196 = .ok (.return_, 1) := by decide +kernel
theorem dX2_init_0 : decode prog_4_method_1_code 0 = .ok (.aload_n 0, 1) := by decide +kernel
theorem dX2_init_1 : decode prog_4_method_1_code 1 = .ok (.invokespecial 3, 3) := by decide +kernel
theorem dX2_init_4 : decode prog_4_method_1_code 4 = .ok (.aload_n 0, 1) := by decide +kernel
theorem dX2_init_5 : decode prog_4_method_1_code 5 = .ok (.new 9, 3) := by decide +kernel
theorem dX2_init_8 : decode prog_4_method_1_code 8 = .ok (.dup, 1) := by decide +kernel
theorem dX2_init_9 : decode prog_4_method_1_code 9 = .ok (.invokespecial 11, 3) := by decide +kernel
theorem dX2_init_12 : decode prog_4_method_1_code 12 = .ok (.putfield 12, 3) := by decide +kernel
theorem dX2_init_15 : decode prog_4_method_1_code 15 = .ok (.aload_n 0, 1) := by decide +kernel
theorem dX2_init_16 : decode prog_4_method_1_code 16 = .ok (.iconst 5, 1) := by decide +kernel
theorem dX2_init_17 : decode prog_4_method_1_code 17 = .ok (.newarray .int, 2) := by decide +kernel
theorem dX2_init_19 : decode prog_4_method_1_code 19 = .ok (.putfield 18, 3) := by decide +kernel
theorem dX2_init_22 : decode prog_4_method_1_code 22 = .ok (.aload_n 0, 1) := by decide +kernel
theorem dX2_init_23 : decode prog_4_method_1_code 23 = .ok (.iconst 5, 1) := by decide +kernel
theorem dX2_init_24 : decode prog_4_method_1_code 24 = .ok (.newarray .int, 2) := by decide +kernel
theorem dX2_init_26 : decode prog_4_method_1_code 26 = .ok (.putfield 22, 3) := by decide +kernel
theorem dX2_init_29 : decode prog_4_method_1_code 29 = .ok (.aload_n 0, 1) := by decide +kernel
theorem dX2_init_30 : decode prog_4_method_1_code 30 = .ok (.bipush 40, 2) := by decide +kernel
theorem dX2_init_32 : decode prog_4_method_1_code 32 = .ok (.newarray .int, 2) := by decide +kernel
theorem dX2_init_34 : decode prog_4_method_1_code 34 = .ok (.putfield 25, 3) := by decide +kernel
theorem dX2_init_37 : decode prog_4_method_1_code 37 = .ok (.aload_n 0, 1) := by decide +kernel
theorem dX2_init_38 : decode prog_4_method_1_code 38 = .ok (.iconst 5, 1) := by decide +kernel
theorem dX2_init_39 : decode prog_4_method_1_code 39 = .ok (.newarray .int, 2) := by decide +kernel
theorem dX2_init_41 : decode prog_4_method_1_code 41 = .ok (.putfield 28, 3) := by decide +kernel
theorem dX2_init_44 : decode prog_4_method_1_code 44 = .ok (.aload_n 0, 1) := by decide +kernel
theorem dX2_init_45 : decode prog_4_method_1_code 45 = .ok (.iconst 5, 1) := by decide +kernel
theorem dX2_init_46 : decode prog_4_method_1_code 46 = .ok (.newarray .int, 2) := by decide +kernel
theorem dX2_init_48 : decode prog_4_method_1_code 48 = .ok (.putfield 31, 3) := by decide +kernel
theorem dX2_init_51 : decode prog_4_method_1_code 51 = .ok (.aload_n 0, 1) := by decide +kernel
theorem dX2_init_52 : decode prog_4_method_1_code 52 = .ok (.iconst 5, 1) := by decide +kernel
theorem dX2_init_53 : decode prog_4_method_1_code 53 = .ok (.newarray .int, 2) := by decide +kernel
theorem dX2_init_55 : decode prog_4_method_1_code 55 = .ok (.putfield 34, 3) := by decide +kernel
theorem dX2_init_58 : decode prog_4_method_1_code 58 = .ok (.aload_n 0, 1) := by decide +kernel
theorem dX2_init_59 : decode prog_4_method_1_code 59 = .ok (.bipush 6, 2) := by decide +kernel
theorem dX2_init_61 : decode prog_4_method_1_code 61 = .ok (.newarray .int, 2) := by decide +kernel
theorem dX2_init_63 : decode prog_4_method_1_code 63 = .ok (.putfield 39, 3) := by decide +kernel
theorem dX2_init_66 : decode prog_4_method_1_code 66 = .ok (.aload_n 0, 1) := by decide +kernel
theorem dX2_init_67 : decode prog_4_method_1_code 67 = .ok (.sipush 160, 3) := by decide +kernel
theorem dX2_init_70 : decode prog_4_method_1_code 70 = .ok (.newarray .int, 2) := by decide +kernel
theorem dX2_init_72 : decode prog_4_method_1_code 72 = .ok (.putfield 42, 3) := by decide +kernel
theorem dX2_init_75 : decode prog_4_method_1_code 75 = .ok (.aload_n 0, 1) := by decide +kernel
theorem dX2_init_76 : decode prog_4_method_1_code 76 = .ok (.iconst 0, 1) := by decide +kernel
theorem dX2_init_77 : decode prog_4_method_1_code 77 = .ok (.putfield 45, 3) := by decide +kernel
theorem dX2_init_80 : decode prog_4_method_1_code 80 = .ok (.aload_n 0, 1) := by decide +kernel
theorem dX2_init_81 : decode prog_4_method_1_code 81 = .ok (.iconst 0, 1) := by decide +kernel
theorem dX2_init_82 : decode prog_4_method_1_code 82 = .ok (.putfield 49, 3) := by decide +kernel
theorem dX2_init_85 : decode prog_4_method_1_code 85 = .ok (.aload_n 0, 1) := by decide +kernel
theorem dX2_init_86 : decode prog_4_method_1_code 86 = .ok (.iconst (-1), 1) := by decide +kernel
theorem dX2_init_87 : decode prog_4_method_1_code 87 = .ok (.putfield 52, 3) := by decide +kernel
theorem dX2_init_90 : decode prog_4_method_1_code 90 = .ok (.aload_n 0, 1) := by decide +kernel
theorem dX2_init_91 : decode prog_4_method_1_code 91 = .ok (.iconst (-1), 1) := by decide +kernel
theorem dX2_init_92 : decode prog_4_method_1_code 92 = .ok (.putfield 55, 3) := by decide +kernel
theorem dX2_init_95 : decode prog_4_method_1_code 95 = .ok (.aload_n 0, 1) := by decide +kernel
theorem dX2_init_96 : decode prog_4_method_1_code 96 = .ok (.aconst_null, 1) := by decide +kernel
theorem dX2_init_97 : decode prog_4_method_1_code 97 = .ok (.putfield 58, 3) := by decide +kernel
theorem dX2_init_100 : decode prog_4_method_1_code 100 = .ok (.return_, 1) := by decide +kernel
theorem dX4_init_0 : decode prog_6_method_1_code 0 = .ok (.aload_n 0, 1) := by decide +kernel
theorem dX4_init_1 : decode prog_6_method_1_code 1 = .ok (.invokespecial 7, 3) := by decide +kernel
theorem dX4_init_4 : decode prog_6_method_1_code 4 = .ok (.aload_n 0, 1) := by decide +kernel
theorem dX4_init_5 : decode prog_6_method_1_code 5 = .ok (.iconst 0, 1) := by decide +kernel
theorem dX4_init_6 : decode prog_6_method_1_code 6 = .ok (.putfield 13, 3) := by decide +kernel
theorem dX4_init_9 : decode prog_6_method_1_code 9 = .ok (.aload_n 0, 1) := by decide +kernel
theorem dX4_init_10 : decode prog_6_method_1_code 10 = .ok (.sipush 160, 3) := by decide +kernel
theorem dX4_init_13 : decode prog_6_method_1_code 13 = .ok (.newarray .int, 2) := by decide +kernel
theorem dX4_init_15 : decode prog_6_method_1_code 15 = .ok (.putfield 17, 3) := by decide +kernel
theorem dX4_init_18 : decode prog_6_method_1_code 18 = .ok (.aload_n 0, 1) := by decide +kernel
theorem dX4_init_19 : decode prog_6_method_1_code 19 = .ok (.iconst 0, 1) := by decide +kernel
theorem dX4_init_20 : decode prog_6_method_1_code 20 = .ok (.putfield 21, 3) := by decide +kernel
theorem dX4_init_23 : decode prog_6_method_1_code 23 = .ok (.aload_n 0, 1) := by decide +kernel
theorem dX4_init_24 : decode prog_6_method_1_code 24 = .ok (.iconst 0, 1) := by decide +kernel
theorem dX4_init_25 : decode prog_6_method_1_code 25 = .ok (.putfield 24, 3) := by decide +kernel
theorem dX4_init_28 : decode prog_6_method_1_code 28 = .ok (.aload_n 0, 1) := by decide +kernel
theorem dX4_init_29 : decode prog_6_method_1_code 29 = .ok (.iconst 0, 1) := by decide +kernel
theorem dX4_init_30 : decode prog_6_method_1_code 30 = .ok (.putfield 27, 3) := by decide +kernel
theorem dX4_init_33 : decode prog_6_method_1_code 33 = .ok (.aload_n 0, 1) := by decide +kernel
theorem dX4_init_34 : decode prog_6_method_1_code 34 = .ok (.iconst 0, 1) := by decide +kernel
theorem dX4_init_35 : decode prog_6_method_1_code 35 = .ok (.putfield 30, 3) := by decide +kernel
theorem dX4_init_38 : decode prog_6_method_1_code 38 = .ok (.aload_n 0, 1) := by decide +kernel
theorem dX4_init_39 : decode prog_6_method_1_code 39 = .ok (.aconst_null, 1) := by decide +kernel
theorem dX4_init_40 : decode prog_6_method_1_code 40 = .ok (.putfield 33, 3) := by decide +kernel
theorem dX4_init_43 : decode prog_6_method_1_code 43 = .ok (.return_, 1) := by decide +kernel
theorem dX8_init_0 : decode prog_10_method_5_code 0 = .ok (.aload_n 0, 1) := by decide +kernel
theorem dX8_init_1 : decode prog_10_method_5_code 1 = .ok (.invokespecial 7, 3) := by decide +kernel
theorem dX8_init_4 : decode prog_10_method_5_code 4 = .ok (.aload_n 0, 1) := by decide +kernel
theorem dX8_init_5 : decode prog_10_method_5_code 5 = .ok (.sipush 960, 3) := by decide +kernel
theorem dX8_init_8 : decode prog_10_method_5_code 8 = .ok (.newarray .int, 2) := by decide +kernel
theorem dX8_init_10 : decode prog_10_method_5_code 10 = .ok (.putfield 13, 3) := by decide +kernel
theorem dX8_init_13 : decode prog_10_method_5_code 13 = .ok (.aload_n 0, 1) := by decide +kernel
theorem dX8_init_14 : decode prog_10_method_5_code 14 = .ok (.bipush 6, 2) := by decide +kernel
theorem dX8_init_16 : decode prog_10_method_5_code 16 = .ok (.newarray .int, 2) := by decide +kernel
theorem dX8_init_18 : decode prog_10_method_5_code 18 = .ok (.putfield 17, 3) := by decide +kernel
theorem dX8_init_21 : decode prog_10_method_5_code 21 = .ok (.aload_n 0, 1) := by decide +kernel
theorem dX8_init_22 : decode prog_10_method_5_code 22 = .ok (.sipush 160, 3) := by decide +kernel
theorem dX8_init_25 : decode prog_10_method_5_code 25 = .ok (.newarray .int, 2) := by decide +kernel
theorem dX8_init_27 : decode prog_10_method_5_code 27 = .ok (.putfield 20, 3) := by decide +kernel
theorem dX8_init_30 : decode prog_10_method_5_code 30 = .ok (.aload_n 0, 1) := by decide +kernel
theorem dX8_init_31 : decode prog_10_method_5_code 31 = .ok (.bipush 30, 2) := by decide +kernel
theorem dX8_init_33 : decode prog_10_method_5_code 33 = .ok (.putfield 23, 3) := by decide +kernel
theorem dX8_init_36 : decode prog_10_method_5_code 36 = .ok (.aload_n 0, 1) := by decide +kernel
theorem dX8_init_37 : decode prog_10_method_5_code 37 = .ok (.bipush 30, 2) := by decide +kernel
theorem dX8_init_39 : decode prog_10_method_5_code 39 = .ok (.putfield 26, 3) := by decide +kernel
theorem dX8_init_42 : decode prog_10_method_5_code 42 = .ok (.aload_n 0, 1) := by decide +kernel
theorem dX8_init_43 : decode prog_10_method_5_code 43 = .ok (.iconst 5, 1) := by decide +kernel
theorem dX8_init_44 : decode prog_10_method_5_code 44 = .ok (.newarray .int, 2) := by decide +kernel
theorem dX8_init_46 : decode prog_10_method_5_code 46 = .ok (.putfield 29, 3) := by decide +kernel
theorem dX8_init_49 : decode prog_10_method_5_code 49 = .ok (.aload_n 0, 1) := by decide +kernel
theorem dX8_init_50 : decode prog_10_method_5_code 50 = .ok (.iconst 5, 1) := by decide +kernel
theorem dX8_init_51 : decode prog_10_method_5_code 51 = .ok (.newarray .int, 2) := by decide +kernel
theorem dX8_init_53 : decode prog_10_method_5_code 53 = .ok (.putfield 32, 3) := by decide +kernel
theorem dX8_init_56 : decode prog_10_method_5_code 56 = .ok (.aload_n 0, 1) := by decide +kernel
theorem dX8_init_57 : decode prog_10_method_5_code 57 = .ok (.iconst 5, 1) := by decide +kernel
theorem dX8_init_58 : decode prog_10_method_5_code 58 = .ok (.newarray .int, 2) := by decide +kernel
theorem dX8_init_60 : decode prog_10_method_5_code 60 = .ok (.putfield 35, 3) := by decide +kernel
theorem dX8_init_63 : decode prog_10_method_5_code 63 = .ok (.aload_n 0, 1) := by decide +kernel
theorem dX8_init_64 : decode prog_10_method_5_code 64 = .ok (.iconst 5, 1) := by decide +kernel
theorem dX8_init_65 : decode prog_10_method_5_code 65 = .ok (.newarray .int, 2) := by decide +kernel
theorem dX8_init_67 : decode prog_10_method_5_code 67 = .ok (.putfield 38, 3) := by decide +kernel
theorem dX8_init_70 : decode prog_10_method_5_code 70 = .ok (.aload_n 0, 1) := by decide +kernel
theorem dX8_init_71 : decode prog_10_method_5_code 71 = .ok (.iconst 5, 1) := by decide +kernel
theorem dX8_init_72 : decode prog_10_method_5_code 72 = .ok (.newarray .int, 2) := by decide +kernel
theorem dX8_init_74 : decode prog_10_method_5_code 74 = .ok (.putfield 41, 3) := by decide +kernel
theorem dX8_init_77 : decode prog_10_method_5_code 77 = .ok (.aload_n 0, 1) := by decide +kernel
theorem dX8_init_78 : decode prog_10_method_5_code 78 = .ok (.iconst 5, 1) := by decide +kernel
theorem dX8_init_79 : decode prog_10_method_5_code 79 = .ok (.newarray .int, 2) := by decide +kernel
theorem dX8_init_81 : decode prog_10_method_5_code 81 = .ok (.putfield 44, 3) := by decide +kernel
theorem dX8_init_84 : decode prog_10_method_5_code 84 = .ok (.aload_n 0, 1) := by decide +kernel
theorem dX8_init_85 : decode prog_10_method_5_code 85 = .ok (.iconst 5, 1) := by decide +kernel
theorem dX8_init_86 : decode prog_10_method_5_code 86 = .ok (.newarray .int, 2) := by decide +kernel
theorem dX8_init_88 : decode prog_10_method_5_code 88 = .ok (.putfield 47, 3) := by decide +kernel
theorem dX8_init_91 : decode prog_10_method_5_code 91 = .ok (.aload_n 0, 1) := by decide +kernel
theorem dX8_init_92 : decode prog_10_method_5_code 92 = .ok (.iconst 5, 1) := by decide +kernel
theorem dX8_init_93 : decode prog_10_method_5_code 93 = .ok (.newarray .int, 2) := by decide +kernel
theorem dX8_init_95 : decode prog_10_method_5_code 95 = .ok (.putfield 50, 3) := by decide +kernel
theorem dX8_init_98 : decode prog_10_method_5_code 98 = .ok (.aload_n 0, 1) := by decide +kernel
theorem dX8_init_99 : decode prog_10_method_5_code 99 = .ok (.iconst 5, 1) := by decide +kernel
theorem dX8_init_100 : decode prog_10_method_5_code 100 = .ok (.newarray .int, 2) := by decide +kernel
theorem dX8_init_102 : decode prog_10_method_5_code 102 = .ok (.putfield 53, 3) := by decide +kernel
theorem dX8_init_105 : decode prog_10_method_5_code 105 = .ok (.aload_n 0, 1) := by decide +kernel
theorem dX8_init_106 : decode prog_10_method_5_code 106 = .ok (.bipush 6, 2) := by decide +kernel
theorem dX8_init_108 : decode prog_10_method_5_code 108 = .ok (.newarray .int, 2) := by decide +kernel
theorem dX8_init_110 : decode prog_10_method_5_code 110 = .ok (.putfield 56, 3) := by decide +kernel
theorem dX8_init_113 : decode prog_10_method_5_code 113 = .ok (.aload_n 0, 1) := by decide +kernel
theorem dX8_init_114 : decode prog_10_method_5_code 114 = .ok (.bipush 8, 2) := by decide +kernel
theorem dX8_init_116 : decode prog_10_method_5_code 116 = .ok (.newarray .long, 2) := by decide +kernel
theorem dX8_init_118 : decode prog_10_method_5_code 118 = .ok (.putfield 59, 3) := by decide +kernel
theorem dX8_init_121 : decode prog_10_method_5_code 121 = .ok (.aload_n 0, 1) := by decide +kernel
theorem dX8_init_122 : decode prog_10_method_5_code 122 = .ok (.bipush 8, 2) := by decide +kernel
theorem dX8_init_124 : decode prog_10_method_5_code 124 = .ok (.newarray .long, 2) := by decide +kernel
theorem dX8_init_126 : decode prog_10_method_5_code 126 = .ok (.putfield 63, 3) := by decide +kernel
theorem dX8_init_129 : decode prog_10_method_5_code 129 = .ok (.aload_n 0, 1) := by decide +kernel
theorem dX8_init_130 : decode prog_10_method_5_code 130 = .ok (.bipush 8, 2) := by decide +kernel
theorem dX8_init_132 : decode prog_10_method_5_code 132 = .ok (.newarray .long, 2) := by decide +kernel
theorem dX8_init_134 : decode prog_10_method_5_code 134 = .ok (.putfield 66, 3) := by decide +kernel
theorem dX8_init_137 : decode prog_10_method_5_code 137 = .ok (.aload_n 0, 1) := by decide +kernel
theorem dX8_init_138 : decode prog_10_method_5_code 138 = .ok (.iconst 5, 1) := by decide +kernel
theorem dX8_init_139 : decode prog_10_method_5_code 139 = .ok (.newarray .int, 2) := by decide +kernel
theorem dX8_init_141 : decode prog_10_method_5_code 141 = .ok (.putfield 69, 3) := by decide +kernel
theorem dX8_init_144 : decode prog_10_method_5_code 144 = .ok (.aload_n 0, 1) := by decide +kernel
theorem dX8_init_145 : decode prog_10_method_5_code 145 = .ok (.iconst 5, 1) := by decide +kernel
theorem dX8_init_146 : decode prog_10_method_5_code 146 = .ok (.newarray .int, 2) := by decide +kernel
theorem dX8_init_148 : decode prog_10_method_5_code 148 = .ok (.putfield 72, 3) := by decide +kernel
theorem dX8_init_151 : decode prog_10_method_5_code 151 = .ok (.aload_n 0, 1) := by decide +kernel
theorem dX8_init_152 : decode prog_10_method_5_code 152 = .ok (.bipush 15, 2) := by decide +kernel
theorem dX8_init_154 : decode prog_10_method_5_code 154 = .ok (.newarray .int, 2) := by decide +kernel
theorem dX8_init_156 : decode prog_10_method_5_code 156 = .ok (.putfield 75, 3) := by decide +kernel
theorem dX8_init_159 : decode prog_10_method_5_code 159 = .ok (.aload_n 0, 1) := by decide +kernel
theorem dX8_init_160 : decode prog_10_method_5_code 160 = .ok (.iconst (-1), 1) := by decide +kernel
theorem dX8_init_161 : decode prog_10_method_5_code 161 = .ok (.putfield 78, 3) := by decide +kernel
theorem dX8_init_164 : decode prog_10_method_5_code 164 = .ok (.aload_n 0, 1) := by decide +kernel
theorem dX8_init_165 : decode prog_10_method_5_code 165 = .ok (.iconst 4, 1) := by decide +kernel
theorem dX8_init_166 : decode prog_10_method_5_code 166 = .ok (.newarray .boolean, 2) := by decide +kernel
theorem dX8_init_168 : decode prog_10_method_5_code 168 = .ok (.putfield 81, 3) := by decide +kernel
theorem dX8_init_171 : decode prog_10_method_5_code 171 = .ok (.aload_n 0, 1) := by decide +kernel
theorem dX8_init_172 : decode prog_10_method_5_code 172 = .ok (.iconst 4, 1) := by decide +kernel
theorem dX8_init_173 : decode prog_10_method_5_code 173 = .ok (.newarray .int, 2) := by decide +kernel
theorem dX8_init_175 : decode prog_10_method_5_code 175 = .ok (.putfield 85, 3) := by decide +kernel
theorem dX8_init_178 : decode prog_10_method_5_code 178 = .ok (.aload_n 0, 1) := by decide +kernel
theorem dX8_init_179 : decode prog_10_method_5_code 179 = .ok (.iconst 4, 1) := by decide +kernel
theorem dX8_init_180 : decode prog_10_method_5_code 180 = .ok (.newarray .int, 2) := by decide +kernel
theorem dX8_init_182 : decode prog_10_method_5_code 182 = .ok (.putfield 88, 3) := by decide +kernel
theorem dX8_init_185 : decode prog_10_method_5_code 185 = .ok (.aload_n 0, 1) := by decide +kernel
theorem dX8_init_186 : decode prog_10_method_5_code 186 = .ok (.sipush 160, 3) := by decide +kernel
theorem dX8_init_189 : decode prog_10_method_5_code 189 = .ok (.newarray .int, 2) := by decide +kernel
theorem dX8_init_191 : decode prog_10_method_5_code 191 = .ok (.putfield 91, 3) := by decide +kernel
theorem dX8_init_194 : decode prog_10_method_5_code 194 = .ok (.aload_n 0, 1) := by decide +kernel
theorem dX8_init_195 : decode prog_10_method_5_code 195 = .ok (.iconst 0, 1) := by decide +kernel
theorem dX8_init_196 : decode prog_10_method_5_code 196 = .ok (.bipush 98, 2) := by decide +kernel
theorem dX8_init_198 : decode prog_10_method_5_code 198 = .ok (.bipush 101, 2) := by decide +kernel
theorem dX8_init_200 : decode prog_10_method_5_code 200 = .ok (.bipush 97, 2) := by decide +kernel
theorem dX8_init_202 : decode prog_10_method_5_code 202 = .ok (.bipush 114, 2) := by decide +kernel
theorem dX8_init_204 : decode prog_10_method_5_code 204 = .ok (.bipush 115, 2) := by decide +kernel
theorem dX8_init_206 : decode prog_10_method_5_code 206 = .ok (.bipush 32, 2) := by decide +kernel
theorem dX8_init_208 : decode prog_10_method_5_code 208 = .ok (.bipush 53, 2) := by decide +kernel
theorem dX8_init_210 : decode prog_10_method_5_code 210 = .ok (.bipush 32, 2) := by decide +kernel
theorem dX8_init_212 : decode prog_10_method_5_code 212 = .ok (.invokevirtual 94, 3) := by decide +kernel
theorem dX8_init_215 : decode prog_10_method_5_code 215 = .ok (.aload_n 0, 1) := by decide +kernel
theorem dX8_init_216 : decode prog_10_method_5_code 216 = .ok (.bipush 8, 2) := by decide +kernel
theorem dX8_init_218 : decode prog_10_method_5_code 218 = .ok (.bipush 43, 2) := by decide +kernel
theorem dX8_init_220 : decode prog_10_method_5_code 220 = .ok (.bipush 32, 2) := by decide +kernel
theorem dX8_init_222 : decode prog_10_method_5_code 222 = .ok (.bipush 108, 2) := by decide +kernel
theorem dX8_init_224 : decode prog_10_method_5_code 224 = .ok (.bipush 111, 2) := by decide +kernel
theorem dX8_init_226 : decode prog_10_method_5_code 226 = .ok (.bipush 110, 2) := by decide +kernel
theorem dX8_init_228 : decode prog_10_method_5_code 228 = .ok (.bipush 103, 2) := by decide +kernel
theorem dX8_init_230 : decode prog_10_method_5_code 230 = .ok (.bipush 32, 2) := by decide +kernel
theorem dX8_init_232 : decode prog_10_method_5_code 232 = .ok (.bipush 59, 2) := by decide +kernel
theorem dX8_init_234 : decode prog_10_method_5_code 234 = .ok (.invokevirtual 94, 3) := by decide +kernel
theorem dX8_init_237 : decode prog_10_method_5_code 237 = .ok (.aload_n 0, 1) := by decide +kernel
theorem dX8_init_238 : decode prog_10_method_5_code 238 = .ok (.bipush 16, 2) := by decide +kernel
theorem dX8_init_240 : decode prog_10_method_5_code 240 = .ok (.bipush 32, 2) := by decide +kernel
theorem dX8_init_242 : decode prog_10_method_5_code 242 = .ok (.bipush 109, 2) := by decide +kernel
theorem dX8_init_244 : decode prog_10_method_5_code 244 = .ok (.bipush 111, 2) := by decide +kernel
theorem dX8_init_246 : decode prog_10_method_5_code 246 = .ok (.bipush 118, 2) := by decide +kernel
theorem dX8_init_248 : decode prog_10_method_5_code 248 = .ok (.bipush 101, 2) := by decide +kernel
theorem dX8_init_250 : decode prog_10_method_5_code 250 = .ok (.bipush 115, 2) := by decide +kernel
theorem dX8_init_252 : decode prog_10_method_5_code 252 = .ok (.bipush 32, 2) := by decide +kernel
theorem dX8_init_254 : decode prog_10_method_5_code 254 = .ok (.bipush 51, 2) := by decide +kernel
theorem dX8_init_256 : decode prog_10_method_5_code 256 = .ok (.invokevirtual 94, 3) := by decide +kernel
theorem dX8_init_259 : decode prog_10_method_5_code 259 = .ok (.aload_n 0, 1) := by decide +kernel
theorem dX8_init_260 : decode prog_10_method_5_code 260 = .ok (.bipush 24, 2) := by decide +kernel
theorem dX8_init_262 : decode prog_10_method_5_code 262 = .ok (.bipush 32, 2) := by decide +kernel
theorem dX8_init_264 : decode prog_10_method_5_code 264 = .ok (.bipush 59, 2) := by decide +kernel
theorem dX8_init_266 : decode prog_10_method_5_code 266 = .ok (.bipush 32, 2) := by decide +kernel
theorem dX8_init_268 : decode prog_10_method_5_code 268 = .ok (.bipush 104, 2) := by decide +kernel
theorem dX8_init_270 : decode prog_10_method_5_code 270 = .ok (.bipush 101, 2) := by decide +kernel
theorem dX8_init_272 : decode prog_10_method_5_code 272 = .ok (.bipush 97, 2) := by decide +kernel
theorem dX8_init_274 : decode prog_10_method_5_code 274 = .ok (.bipush 116, 2) := by decide +kernel
theorem dX8_init_276 : decode prog_10_method_5_code 276 = .ok (.bipush 32, 2) := by decide +kernel
theorem dX8_init_278 : decode prog_10_method_5_code 278 = .ok (.invokevirtual 94, 3) := by decide +kernel
theorem dX8_init_281 : decode prog_10_method_5_code 281 = .ok (.aload_n 0, 1) := by decide +kernel
theorem dX8_init_282 : decode prog_10_method_5_code 282 = .ok (.bipush 32, 2) := by decide +kernel
theorem dX8_init_284 : decode prog_10_method_5_code 284 = .ok (.bipush 48, 2) := by decide +kernel
theorem dX8_init_286 : decode prog_10_method_5_code 286 = .ok (.bipush 32, 2) := by decide +kernel
theorem dX8_init_288 : decode prog_10_method_5_code 288 = .ok (.bipush 59, 2) := by decide +kernel
theorem dX8_init_290 : decode prog_10_method_5_code 290 = .ok (.bipush 32, 2) := by decide +kernel
theorem dX8_init_292 : decode prog_10_method_5_code 292 = .ok (.bipush 32, 2) := by decide +kernel
theorem dX8_init_294 : decode prog_10_method_5_code 294 = .ok (.bipush 32, 2) := by decide +kernel
theorem dX8_init_296 : decode prog_10_method_5_code 296 = .ok (.bipush 32, 2) := by decide +kernel
theorem dX8_init_298 : decode prog_10_method_5_code 298 = .ok (.bipush 32, 2) := by decide +kernel
theorem dX8_init_300 : decode prog_10_method_5_code 300 = .ok (.invokevirtual 94, 3) := by decide +kernel
theorem dX8_init_303 : decode prog_10_method_5_code 303 = .ok (.aload_n 0, 1) := by decide +kernel
theorem dX8_init_304 : decode prog_10_method_5_code 304 = .ok (.getfield 17, 3) := by decide +kernel
theorem dX8_init_307 : decode prog_10_method_5_code 307 = .ok (.iconst 0, 1) := by decide +kernel
theorem dX8_init_308 : decode prog_10_method_5_code 308 = .ok (.bipush 40, 2) := by decide +kernel
theorem dX8_init_310 : decode prog_10_method_5_code 310 = .ok (.iastore, 1) := by decide +kernel
theorem dX8_init_311 : decode prog_10_method_5_code 311 = .ok (.aload_n 0, 1) := by decide +kernel
theorem dX8_init_312 : decode prog_10_method_5_code 312 = .ok (.iconst 1, 1) := by decide +kernel
theorem dX8_init_313 : decode prog_10_method_5_code 313 = .ok (.putfield 98, 3) := by decide +kernel
theorem dX8_init_316 : decode prog_10_method_5_code 316 = .ok (.return_, 1) := by decide +kernel
theorem dX5_init_0 : decode prog_7_method_1_code 0 = .ok (.aload_n 0, 1) := by decide +kernel
theorem dX5_init_1 : decode prog_7_method_1_code 1 = .ok (.invokespecial 3, 3) := by decide +kernel
theorem dX5_init_4 : decode prog_7_method_1_code 4 = .ok (.aload_n 0, 1) := by decide +kernel
theorem dX5_init_5 : decode prog_7_method_1_code 5 = .ok (.iconst (-1), 1) := by decide +kernel
theorem dX5_init_6 : decode prog_7_method_1_code 6 = .ok (.putfield 9, 3) := by decide +kernel
theorem dX5_init_9 : decode prog_7_method_1_code 9 = .ok (.aload_n 0, 1) := by decide +kernel
theorem dX5_init_10 : decode prog_7_method_1_code 10 = .ok (.iconst 0, 1) := by decide +kernel
theorem dX5_init_11 : decode prog_7_method_1_code 11 = .ok (.putfield 15, 3) := by decide +kernel
theorem dX5_init_14 : decode prog_7_method_1_code 14 = .ok (.aload_n 0, 1) := by decide +kernel
theorem dX5_init_15 : decode prog_7_method_1_code 15 = .ok (.bipush 40, 2) := by decide +kernel
theorem dX5_init_17 : decode prog_7_method_1_code 17 = .ok (.newarray .int, 2) := by decide +kernel
theorem dX5_init_19 : decode prog_7_method_1_code 19 = .ok (.putfield 18, 3) := by decide +kernel
theorem dX5_init_22 : decode prog_7_method_1_code 22 = .ok (.return_, 1) := by decide +kernel
theorem dX0_init_0 : decode prog_2_method_1_code 0 = .ok (.aload_n 0, 1) := by decide +kernel
theorem dX0_init_1 : decode prog_2_method_1_code 1 = .ok (.invokespecial 3, 3) := by decide +kernel
theorem dX0_init_4 : decode prog_2_method_1_code 4 = .ok (.aload_n 0, 1) := by decide +kernel
theorem dX0_init_5 : decode prog_2_method_1_code 5 = .ok (.iconst 0, 1) := by decide +kernel
theorem dX0_init_6 : decode prog_2_method_1_code 6 = .ok (.putfield 9, 3) := by decide +kernel
theorem dX0_init_9 : decode prog_2_method_1_code 9 = .ok (.aload_n 0, 1) := by decide +kernel
theorem dX0_init_10 : decode prog_2_method_1_code 10 = .ok (.bipush 30, 2) := by decide +kernel
theorem dX0_init_12 : decode prog_2_method_1_code 12 = .ok (.putfield 15, 3) := by decide +kernel
theorem dX0_init_15 : decode prog_2_method_1_code 15 = .ok (.aload_n 0, 1) := by decide +kernel
theorem dX0_init_16 : decode prog_2_method_1_code 16 = .ok (.bipush 30, 2) := by decide +kernel
theorem dX0_init_18 : decode prog_2_method_1_code 18 = .ok (.putfield 18, 3) := by decide +kernel
theorem dX0_init_21 : decode prog_2_method_1_code 21 = .ok (.aload_n 0, 1) := by decide +kernel
theorem dX0_init_22 : decode prog_2_method_1_code 22 = .ok (.iconst 0, 1) := by decide +kernel
theorem dX0_init_23 : decode prog_2_method_1_code 23 = .ok (.putfield 21, 3) := by decide +kernel
theorem dX0_init_26 : decode prog_2_method_1_code 26 = .ok (.aload_n 0, 1) := by decide +kernel
theorem dX0_init_27 : decode prog_2_method_1_code 27 = .ok (.iconst 0, 1) := by decide +kernel
theorem dX0_init_28 : decode prog_2_method_1_code 28 = .ok (.putfield 24, 3) := by decide +kernel
theorem dX0_init_31 : decode prog_2_method_1_code 31 = .ok (.aload_n 0, 1) := by decide +kernel
theorem dX0_init_32 : decode prog_2_method_1_code 32 = .ok (.iconst 0, 1) := by decide +kernel
theorem dX0_init_33 : decode prog_2_method_1_code 33 = .ok (.putfield 27, 3) := by decide +kernel
theorem dX0_init_36 : decode prog_2_method_1_code 36 = .ok (.aload_n 0, 1) := by decide +kernel
theorem dX0_init_37 : decode prog_2_method_1_code 37 = .ok (.iconst 0, 1) := by decide +kernel
theorem dX0_init_38 : decode prog_2_method_1_code 38 = .ok (.putfield 30, 3) := by decide +kernel
theorem dX0_init_41 : decode prog_2_method_1_code 41 = .ok (.aload_n 0, 1) := by decide +kernel
theorem dX0_init_42 : decode prog_2_method_1_code 42 = .ok (.iconst 5, 1) := by decide +kernel
theorem dX0_init_43 : decode prog_2_method_1_code 43 = .ok (.newarray .int, 2) := by decide +kernel
theorem dX0_init_45 : decode prog_2_method_1_code 45 = .ok (.putfield 33, 3) := by decide +kernel
theorem dX0_init_48 : decode prog_2_method_1_code 48 = .ok (.aload_n 0, 1) := by decide +kernel
theorem dX0_init_49 : decode prog_2_method_1_code 49 = .ok (.iconst 5, 1) := by decide +kernel
theorem dX0_init_50 : decode prog_2_method_1_code 50 = .ok (.newarray .int, 2) := by decide +kernel
theorem dX0_init_52 : decode prog_2_method_1_code 52 = .ok (.putfield 37, 3) := by decide +kernel
theorem dX0_init_55 : decode prog_2_method_1_code 55 = .ok (.aload_n 0, 1) := by decide +kernel
theorem dX0_init_56 : decode prog_2_method_1_code 56 = .ok (.iconst 5, 1) := by decide +kernel
theorem dX0_init_57 : decode prog_2_method_1_code 57 = .ok (.newarray .int, 2) := by decide +kernel
theorem dX0_init_59 : decode prog_2_method_1_code 59 = .ok (.putfield 40, 3) := by decide +kernel
theorem dX0_init_62 : decode prog_2_method_1_code 62 = .ok (.return_, 1) := by decide +kernel
theorem dX6_init_0 : decode prog_8_method_1_code 0 = .ok (.aload_n 0, 1) := by decide +kernel
theorem dX6_init_1 : decode prog_8_method_1_code 1 = .ok (.invokespecial 3, 3) := by decide +kernel
theorem dX6_init_4 : decode prog_8_method_1_code 4 = .ok (.aload_n 0, 1) := by decide +kernel
theorem dX6_init_5 : decode prog_8_method_1_code 5 = .ok (.sipush 160, 3) := by decide +kernel
theorem dX6_init_8 : decode prog_8_method_1_code 8 = .ok (.newarray .int, 2) := by decide +kernel
theorem dX6_init_10 : decode prog_8_method_1_code 10 = .ok (.putfield 9, 3) := by decide +kernel
theorem dX6_init_13 : decode prog_8_method_1_code 13 = .ok (.aload_n 0, 1) := by decide +kernel
theorem dX6_init_14 : decode prog_8_method_1_code 14 = .ok (.iconst 3, 1) := by decide +kernel
theorem dX6_init_15 : decode prog_8_method_1_code 15 = .ok (.newarray .int, 2) := by decide +kernel
theorem dX6_init_17 : decode prog_8_method_1_code 17 = .ok (.putfield 15, 3) := by decide +kernel
theorem dX6_init_20 : decode prog_8_method_1_code 20 = .ok (.aload_n 0, 1) := by decide +kernel
theorem dX6_init_21 : decode prog_8_method_1_code 21 = .ok (.iconst 0, 1) := by decide +kernel
theorem dX6_init_22 : decode prog_8_method_1_code 22 = .ok (.putfield 18, 3) := by decide +kernel
theorem dX6_init_25 : decode prog_8_method_1_code 25 = .ok (.return_, 1) := by decide +kernel
theorem dX3_init_0 : decode prog_5_method_1_code 0 = .ok (.aload_n 0, 1) := by decide +kernel
theorem dX3_init_1 : decode prog_5_method_1_code 1 = .ok (.invokespecial 3, 3) := by decide +kernel
theorem dX3_init_4 : decode prog_5_method_1_code 4 = .ok (.aload_n 0, 1) := by decide +kernel
theorem dX3_init_5 : decode prog_5_method_1_code 5 = .ok (.bipush 8, 2) := by decide +kernel
theorem dX3_init_7 : decode prog_5_method_1_code 7 = .ok (.newarray .long, 2) := by decide +kernel
theorem dX3_init_9 : decode prog_5_method_1_code 9 = .ok (.putfield 9, 3) := by decide +kernel
theorem dX3_init_12 : decode prog_5_method_1_code 12 = .ok (.aload_n 0, 1) := by decide +kernel
theorem dX3_init_13 : decode prog_5_method_1_code 13 = .ok (.bipush 8, 2) := by decide +kernel
theorem dX3_init_15 : decode prog_5_method_1_code 15 = .ok (.newarray .long, 2) := by decide +kernel
theorem dX3_init_17 : decode prog_5_method_1_code 17 = .ok (.putfield 15, 3) := by decide +kernel
theorem dX3_init_20 : decode prog_5_method_1_code 20 = .ok (.aload_n 0, 1) := by decide +kernel
theorem dX3_init_21 : decode prog_5_method_1_code 21 = .ok (.lconst 1, 1) := by decide +kernel
theorem dX3_init_22 : decode prog_5_method_1_code 22 = .ok (.putfield 18, 3) := by decide +kernel
theorem dX3_init_25 : decode prog_5_method_1_code 25 = .ok (.aload_n 0, 1) := by decide +kernel
theorem dX3_init_26 : decode prog_5_method_1_code 26 = .ok (.bipush 8, 2) := by decide +kernel
theorem dX3_init_28 : decode prog_5_method_1_code 28 = .ok (.newarray .long, 2) := by decide +kernel
theorem dX3_init_30 : decode prog_5_method_1_code 30 = .ok (.putfield 22, 3) := by decide +kernel
theorem dX3_init_33 : decode prog_5_method_1_code 33 = .ok (.return_, 1) := by decide +kernel
