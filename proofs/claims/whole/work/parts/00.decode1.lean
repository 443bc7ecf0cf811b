/-! DECODE ROWS: printed of the program itself -/
theorem dX7_set_0 : decode prog_1_method_2_code 0 = .ok (.iload_n 1, 1) := by decide +kernel
theorem dX7_set_1 : decode prog_1_method_2_code 1 = .ok (.tableswitch 87 0 6 #[43, 49, 55, 61, 67, 73, 80], 43) := by decide +kernel
theorem dX7_set_44 : decode prog_1_method_2_code 44 = .ok (.aload_n 0, 1) := by decide +kernel
theorem dX7_set_45 : decode prog_1_method_2_code 45 = .ok (.iload_n 3, 1) := by decide +kernel
theorem dX7_set_46 : decode prog_1_method_2_code 46 = .ok (.invokevirtual 85, 3) := by decide +kernel
theorem dX7_set_49 : decode prog_1_method_2_code 49 = .ok (.ireturn, 1) := by decide +kernel
theorem dX7_set_50 : decode prog_1_method_2_code 50 = .ok (.aload_n 0, 1) := by decide +kernel
theorem dX7_set_51 : decode prog_1_method_2_code 51 = .ok (.iload_n 3, 1) := by decide +kernel
theorem dX7_set_52 : decode prog_1_method_2_code 52 = .ok (.invokevirtual 89, 3) := by decide +kernel
theorem dX7_set_55 : decode prog_1_method_2_code 55 = .ok (.ireturn, 1) := by decide +kernel
theorem dX7_set_56 : decode prog_1_method_2_code 56 = .ok (.aload_n 0, 1) := by decide +kernel
theorem dX7_set_57 : decode prog_1_method_2_code 57 = .ok (.iload_n 3, 1) := by decide +kernel
theorem dX7_set_58 : decode prog_1_method_2_code 58 = .ok (.invokevirtual 92, 3) := by decide +kernel
theorem dX7_set_61 : decode prog_1_method_2_code 61 = .ok (.ireturn, 1) := by decide +kernel
theorem dX7_set_62 : decode prog_1_method_2_code 62 = .ok (.aload_n 0, 1) := by decide +kernel
theorem dX7_set_63 : decode prog_1_method_2_code 63 = .ok (.iload_n 3, 1) := by decide +kernel
theorem dX7_set_64 : decode prog_1_method_2_code 64 = .ok (.invokevirtual 95, 3) := by decide +kernel
theorem dX7_set_67 : decode prog_1_method_2_code 67 = .ok (.ireturn, 1) := by decide +kernel
theorem dX7_set_68 : decode prog_1_method_2_code 68 = .ok (.aload_n 0, 1) := by decide +kernel
theorem dX7_set_69 : decode prog_1_method_2_code 69 = .ok (.iload_n 3, 1) := by decide +kernel
theorem dX7_set_70 : decode prog_1_method_2_code 70 = .ok (.invokevirtual 98, 3) := by decide +kernel
theorem dX7_set_73 : decode prog_1_method_2_code 73 = .ok (.ireturn, 1) := by decide +kernel
theorem dX7_set_74 : decode prog_1_method_2_code 74 = .ok (.aload_n 0, 1) := by decide +kernel
theorem dX7_set_75 : decode prog_1_method_2_code 75 = .ok (.iload_n 2, 1) := by decide +kernel
theorem dX7_set_76 : decode prog_1_method_2_code 76 = .ok (.iload_n 3, 1) := by decide +kernel
theorem dX7_set_77 : decode prog_1_method_2_code 77 = .ok (.invokevirtual 101, 3) := by decide +kernel
theorem dX7_set_80 : decode prog_1_method_2_code 80 = .ok (.ireturn, 1) := by decide +kernel
theorem dX7_set_81 : decode prog_1_method_2_code 81 = .ok (.aload_n 0, 1) := by decide +kernel
theorem dX7_set_82 : decode prog_1_method_2_code 82 = .ok (.iload_n 2, 1) := by decide +kernel
theorem dX7_set_83 : decode prog_1_method_2_code 83 = .ok (.iload_n 3, 1) := by decide +kernel
theorem dX7_set_84 : decode prog_1_method_2_code 84 = .ok (.invokevirtual 105, 3) := by decide +kernel
theorem dX7_set_87 : decode prog_1_method_2_code 87 = .ok (.ireturn, 1) := by decide +kernel
theorem dX7_set_88 : decode prog_1_method_2_code 88 = .ok (.bipush (-2), 2) := by decide +kernel
theorem dX7_set_90 : decode prog_1_method_2_code 90 = .ok (.ireturn, 1) := by decide +kernel
theorem dX7_setSmoke_0 : decode prog_1_method_3_code 0 = .ok (.iload_n 1, 1) := by decide +kernel
theorem dX7_setSmoke_1 : decode prog_1_method_3_code 1 = .ok (.invokestatic 108, 3) := by decide +kernel
theorem dX7_setSmoke_4 : decode prog_1_method_3_code 4 = .ok (.ifCond .ne 6, 3) := by decide +kernel
theorem dX7_setSmoke_7 : decode prog_1_method_3_code 7 = .ok (.bipush (-2), 2) := by decide +kernel
theorem dX7_setSmoke_9 : decode prog_1_method_3_code 9 = .ok (.ireturn, 1) := by decide +kernel
theorem dX7_setSmoke_10 : decode prog_1_method_3_code 10 = .ok (.aload_n 0, 1) := by decide +kernel
theorem dX7_setSmoke_11 : decode prog_1_method_3_code 11 = .ok (.getfield 12, 3) := by decide +kernel
theorem dX7_setSmoke_14 : decode prog_1_method_3_code 14 = .ok (.getfield 111, 3) := by decide +kernel
theorem dX7_setSmoke_17 : decode prog_1_method_3_code 17 = .ok (.istore_n 2, 1) := by decide +kernel
theorem dX7_setSmoke_18 : decode prog_1_method_3_code 18 = .ok (.aload_n 0, 1) := by decide +kernel
theorem dX7_setSmoke_19 : decode prog_1_method_3_code 19 = .ok (.getfield 12, 3) := by decide +kernel
theorem dX7_setSmoke_22 : decode prog_1_method_3_code 22 = .ok (.iload_n 1, 1) := by decide +kernel
theorem dX7_setSmoke_23 : decode prog_1_method_3_code 23 = .ok (.putfield 111, 3) := by decide +kernel
theorem dX7_setSmoke_26 : decode prog_1_method_3_code 26 = .ok (.iload_n 2, 1) := by decide +kernel
theorem dX7_setSmoke_27 : decode prog_1_method_3_code 27 = .ok (.ireturn, 1) := by decide +kernel
theorem dX7_isPlace_0 : decode prog_1_method_47_code 0 = .ok (.iload_n 0, 1) := by decide +kernel
theorem dX7_isPlace_1 : decode prog_1_method_47_code 1 = .ok (.ifCond .lt 13, 3) := by decide +kernel
theorem dX7_isPlace_4 : decode prog_1_method_47_code 4 = .ok (.iload_n 0, 1) := by decide +kernel
theorem dX7_isPlace_5 : decode prog_1_method_47_code 5 = .ok (.bipush 8, 2) := by decide +kernel
theorem dX7_isPlace_7 : decode prog_1_method_47_code 7 = .ok (.if_icmp .ge 7, 3) := by decide +kernel
theorem dX7_isPlace_10 : decode prog_1_method_47_code 10 = .ok (.iconst 1, 1) := by decide +kernel
theorem dX7_isPlace_11 : decode prog_1_method_47_code 11 = .ok (.goto 4, 3) := by decide +kernel
theorem dX7_isPlace_14 : decode prog_1_method_47_code 14 = .ok (.iconst 0, 1) := by decide +kernel
theorem dX7_isPlace_15 : decode prog_1_method_47_code 15 = .ok (.ireturn, 1) := by decide +kernel
theorem dX7_setLeft_0 : decode prog_1_method_4_code 0 = .ok (.iload_n 1, 1) := by decide +kernel
theorem dX7_setLeft_1 : decode prog_1_method_4_code 1 = .ok (.ifCond .lt 17, 3) := by decide +kernel
theorem dX7_setLeft_4 : decode prog_1_method_4_code 4 = .ok (.iload_n 1, 1) := by decide +kernel
theorem dX7_setLeft_5 : decode prog_1_method_4_code 5 = .ok (.bipush 100, 2) := by decide +kernel
theorem dX7_setLeft_7 : decode prog_1_method_4_code 7 = .ok (.aload_n 0, 1) := by decide +kernel
theorem dX7_setLeft_8 : decode prog_1_method_4_code 8 = .ok (.getfield 12, 3) := by decide +kernel
theorem dX7_setLeft_11 : decode prog_1_method_4_code 11 = .ok (.getfield 114, 3) := by decide +kernel
theorem dX7_setLeft_14 : decode prog_1_method_4_code 14 = .ok (.isub, 1) := by decide +kernel
theorem dX7_setLeft_15 : decode prog_1_method_4_code 15 = .ok (.if_icmp .le 6, 3) := by decide +kernel
theorem dX7_setLeft_18 : decode prog_1_method_4_code 18 = .ok (.bipush (-2), 2) := by decide +kernel
theorem dX7_setLeft_20 : decode prog_1_method_4_code 20 = .ok (.ireturn, 1) := by decide +kernel
theorem dX7_setLeft_21 : decode prog_1_method_4_code 21 = .ok (.aload_n 0, 1) := by decide +kernel
theorem dX7_setLeft_22 : decode prog_1_method_4_code 22 = .ok (.getfield 12, 3) := by decide +kernel
theorem dX7_setLeft_25 : decode prog_1_method_4_code 25 = .ok (.getfield 117, 3) := by decide +kernel
theorem dX7_setLeft_28 : decode prog_1_method_4_code 28 = .ok (.istore_n 2, 1) := by decide +kernel
theorem dX7_setLeft_29 : decode prog_1_method_4_code 29 = .ok (.aload_n 0, 1) := by decide +kernel
theorem dX7_setLeft_30 : decode prog_1_method_4_code 30 = .ok (.getfield 12, 3) := by decide +kernel
theorem dX7_setLeft_33 : decode prog_1_method_4_code 33 = .ok (.iload_n 1, 1) := by decide +kernel
theorem dX7_setLeft_34 : decode prog_1_method_4_code 34 = .ok (.putfield 117, 3) := by decide +kernel
theorem dX7_setLeft_37 : decode prog_1_method_4_code 37 = .ok (.iload_n 2, 1) := by decide +kernel
theorem dX7_setLeft_38 : decode prog_1_method_4_code 38 = .ok (.ireturn, 1) := by decide +kernel
theorem dX7_setRight_0 : decode prog_1_method_5_code 0 = .ok (.iload_n 1, 1) := by decide +kernel
theorem dX7_setRight_1 : decode prog_1_method_5_code 1 = .ok (.ifCond .lt 17, 3) := by decide +kernel
theorem dX7_setRight_4 : decode prog_1_method_5_code 4 = .ok (.iload_n 1, 1) := by decide +kernel
theorem dX7_setRight_5 : decode prog_1_method_5_code 5 = .ok (.bipush 100, 2) := by decide +kernel
theorem dX7_setRight_7 : decode prog_1_method_5_code 7 = .ok (.aload_n 0, 1) := by decide +kernel
theorem dX7_setRight_8 : decode prog_1_method_5_code 8 = .ok (.getfield 12, 3) := by decide +kernel
theorem dX7_setRight_11 : decode prog_1_method_5_code 11 = .ok (.getfield 117, 3) := by decide +kernel
theorem dX7_setRight_14 : decode prog_1_method_5_code 14 = .ok (.isub, 1) := by decide +kernel
theorem dX7_setRight_15 : decode prog_1_method_5_code 15 = .ok (.if_icmp .le 6, 3) := by decide +kernel
theorem dX7_setRight_18 : decode prog_1_method_5_code 18 = .ok (.bipush (-2), 2) := by decide +kernel
theorem dX7_setRight_20 : decode prog_1_method_5_code 20 = .ok (.ireturn, 1) := by decide +kernel
theorem dX7_setRight_21 : decode prog_1_method_5_code 21 = .ok (.aload_n 0, 1) := by decide +kernel
theorem dX7_setRight_22 : decode prog_1_method_5_code 22 = .ok (.getfield 12, 3) := by decide +kernel
theorem dX7_setRight_25 : decode prog_1_method_5_code 25 = .ok (.getfield 114, 3) := by decide +kernel
theorem dX7_setRight_28 : decode prog_1_method_5_code 28 = .ok (.istore_n 2, 1) := by decide +kernel
theorem dX7_setRight_29 : decode prog_1_method_5_code 29 = .ok (.aload_n 0, 1) := by decide +kernel
theorem dX7_setRight_30 : decode prog_1_method_5_code 30 = .ok (.getfield 12, 3) := by decide +kernel
theorem dX7_setRight_33 : decode prog_1_method_5_code 33 = .ok (.iload_n 1, 1) := by decide +kernel
theorem dX7_setRight_34 : decode prog_1_method_5_code 34 = .ok (.putfield 114, 3) := by decide +kernel
theorem dX7_setRight_37 : decode prog_1_method_5_code 37 = .ok (.iload_n 2, 1) := by decide +kernel
theorem dX7_setRight_38 : decode prog_1_method_5_code 38 = .ok (.ireturn, 1) := by decide +kernel
theorem dX7_setTents_0 : decode prog_1_method_6_code 0 = .ok (.iload_n 1, 1) := by decide +kernel
theorem dX7_setTents_1 : decode prog_1_method_6_code 1 = .ok (.ifCond .lt 10, 3) := by decide +kernel
theorem dX7_setTents_4 : decode prog_1_method_6_code 4 = .ok (.iload_n 1, 1) := by decide +kernel
theorem dX7_setTents_5 : decode prog_1_method_6_code 5 = .ok (.sipush 255, 3) := by decide +kernel
theorem dX7_setTents_8 : decode prog_1_method_6_code 8 = .ok (.if_icmp .le 6, 3) := by decide +kernel
theorem dX7_setTents_11 : decode prog_1_method_6_code 11 = .ok (.bipush (-2), 2) := by decide +kernel
theorem dX7_setTents_13 : decode prog_1_method_6_code 13 = .ok (.ireturn, 1) := by decide +kernel
theorem dX7_setTents_14 : decode prog_1_method_6_code 14 = .ok (.aload_n 0, 1) := by decide +kernel
theorem dX7_setTents_15 : decode prog_1_method_6_code 15 = .ok (.getfield 12, 3) := by decide +kernel
theorem dX7_setTents_18 : decode prog_1_method_6_code 18 = .ok (.getfield 120, 3) := by decide +kernel
theorem dX7_setTents_21 : decode prog_1_method_6_code 21 = .ok (.istore_n 2, 1) := by decide +kernel
theorem dX7_setTents_22 : decode prog_1_method_6_code 22 = .ok (.aload_n 0, 1) := by decide +kernel
theorem dX7_setTents_23 : decode prog_1_method_6_code 23 = .ok (.getfield 12, 3) := by decide +kernel
theorem dX7_setTents_26 : decode prog_1_method_6_code 26 = .ok (.iload_n 1, 1) := by decide +kernel
theorem dX7_setTents_27 : decode prog_1_method_6_code 27 = .ok (.putfield 120, 3) := by decide +kernel
theorem dX7_setTents_30 : decode prog_1_method_6_code 30 = .ok (.iload_n 2, 1) := by decide +kernel
theorem dX7_setTents_31 : decode prog_1_method_6_code 31 = .ok (.ireturn, 1) := by decide +kernel
theorem dX7_setEddy_0 : decode prog_1_method_7_code 0 = .ok (.iload_n 1, 1) := by decide +kernel
theorem dX7_setEddy_1 : decode prog_1_method_7_code 1 = .ok (.ifCond .lt 8, 3) := by decide +kernel
theorem dX7_setEddy_4 : decode prog_1_method_7_code 4 = .ok (.iload_n 1, 1) := by decide +kernel
theorem dX7_setEddy_5 : decode prog_1_method_7_code 5 = .ok (.iconst 1, 1) := by decide +kernel
theorem dX7_setEddy_6 : decode prog_1_method_7_code 6 = .ok (.if_icmp .le 6, 3) := by decide +kernel
theorem dX7_setEddy_9 : decode prog_1_method_7_code 9 = .ok (.bipush (-2), 2) := by decide +kernel
theorem dX7_setEddy_11 : decode prog_1_method_7_code 11 = .ok (.ireturn, 1) := by decide +kernel
theorem dX7_setEddy_12 : decode prog_1_method_7_code 12 = .ok (.aload_n 0, 1) := by decide +kernel
theorem dX7_setEddy_13 : decode prog_1_method_7_code 13 = .ok (.getfield 12, 3) := by decide +kernel
theorem dX7_setEddy_16 : decode prog_1_method_7_code 16 = .ok (.getfield 123, 3) := by decide +kernel
theorem dX7_setEddy_19 : decode prog_1_method_7_code 19 = .ok (.istore_n 2, 1) := by decide +kernel
theorem dX7_setEddy_20 : decode prog_1_method_7_code 20 = .ok (.aload_n 0, 1) := by decide +kernel
theorem dX7_setEddy_21 : decode prog_1_method_7_code 21 = .ok (.getfield 12, 3) := by decide +kernel
theorem dX7_setEddy_24 : decode prog_1_method_7_code 24 = .ok (.iload_n 1, 1) := by decide +kernel
theorem dX7_setEddy_25 : decode prog_1_method_7_code 25 = .ok (.putfield 123, 3) := by decide +kernel
theorem dX7_setEddy_28 : decode prog_1_method_7_code 28 = .ok (.iload_n 2, 1) := by decide +kernel
theorem dX7_setEddy_29 : decode prog_1_method_7_code 29 = .ok (.ireturn, 1) := by decide +kernel
theorem dX7_setNumber_0 : decode prog_1_method_8_code 0 = .ok (.aload_n 0, 1) := by decide +kernel
theorem dX7_setNumber_1 : decode prog_1_method_8_code 1 = .ok (.getfield 12, 3) := by decide +kernel
theorem dX7_setNumber_4 : decode prog_1_method_8_code 4 = .ok (.iload_n 1, 1) := by decide +kernel
theorem dX7_setNumber_5 : decode prog_1_method_8_code 5 = .ok (.invokevirtual 126, 3) := by decide +kernel
theorem dX7_setNumber_8 : decode prog_1_method_8_code 8 = .ok (.ifCond .eq 13, 3) := by decide +kernel
theorem dX7_setNumber_11 : decode prog_1_method_8_code 11 = .ok (.iload_n 2, 1) := by decide +kernel
theorem dX7_setNumber_12 : decode prog_1_method_8_code 12 = .ok (.ifCond .lt 9, 3) := by decide +kernel
theorem dX7_setNumber_15 : decode prog_1_method_8_code 15 = .ok (.iload_n 2, 1) := by decide +kernel
theorem dX7_setNumber_16 : decode prog_1_method_8_code 16 = .ok (.bipush 9, 2) := by decide +kernel
theorem dX7_setNumber_18 : decode prog_1_method_8_code 18 = .ok (.if_icmp .le 6, 3) := by decide +kernel
theorem dX7_setNumber_21 : decode prog_1_method_8_code 21 = .ok (.bipush (-2), 2) := by decide +kernel
theorem dX7_setNumber_23 : decode prog_1_method_8_code 23 = .ok (.ireturn, 1) := by decide +kernel
theorem dX7_setNumber_24 : decode prog_1_method_8_code 24 = .ok (.aload_n 0, 1) := by decide +kernel
theorem dX7_setNumber_25 : decode prog_1_method_8_code 25 = .ok (.getfield 12, 3) := by decide +kernel
theorem dX7_setNumber_28 : decode prog_1_method_8_code 28 = .ok (.getfield 129, 3) := by decide +kernel
theorem dX7_setNumber_31 : decode prog_1_method_8_code 31 = .ok (.iload_n 1, 1) := by decide +kernel
theorem dX7_setNumber_32 : decode prog_1_method_8_code 32 = .ok (.iaload, 1) := by decide +kernel
theorem dX7_setNumber_33 : decode prog_1_method_8_code 33 = .ok (.istore_n 3, 1) := by decide +kernel
theorem dX7_setNumber_34 : decode prog_1_method_8_code 34 = .ok (.aload_n 0, 1) := by decide +kernel
theorem dX7_setNumber_35 : decode prog_1_method_8_code 35 = .ok (.getfield 12, 3) := by decide +kernel
theorem dX7_setNumber_38 : decode prog_1_method_8_code 38 = .ok (.getfield 129, 3) := by decide +kernel
theorem dX7_setNumber_41 : decode prog_1_method_8_code 41 = .ok (.iload_n 1, 1) := by decide +kernel
theorem dX7_setNumber_42 : decode prog_1_method_8_code 42 = .ok (.iload_n 2, 1) := by decide +kernel
theorem dX7_setNumber_43 : decode prog_1_method_8_code 43 = .ok (.iastore, 1) := by decide +kernel
theorem dX7_setNumber_44 : decode prog_1_method_8_code 44 = .ok (.iload_n 3, 1) := by decide +kernel
theorem dX7_setNumber_45 : decode prog_1_method_8_code 45 = .ok (.ireturn, 1) := by decide +kernel
theorem dX7_setPlace_0 : decode prog_1_method_9_code 0 = .ok (.aload_n 0, 1) := by decide +kernel
theorem dX7_setPlace_1 : decode prog_1_method_9_code 1 = .ok (.getfield 12, 3) := by decide +kernel
theorem dX7_setPlace_4 : decode prog_1_method_9_code 4 = .ok (.iload_n 1, 1) := by decide +kernel
theorem dX7_setPlace_5 : decode prog_1_method_9_code 5 = .ok (.invokevirtual 126, 3) := by decide +kernel
theorem dX7_setPlace_8 : decode prog_1_method_9_code 8 = .ok (.ifCond .eq 10, 3) := by decide +kernel
theorem dX7_setPlace_11 : decode prog_1_method_9_code 11 = .ok (.iload_n 2, 1) := by decide +kernel
theorem dX7_setPlace_12 : decode prog_1_method_9_code 12 = .ok (.invokestatic 108, 3) := by decide +kernel
theorem dX7_setPlace_15 : decode prog_1_method_9_code 15 = .ok (.ifCond .ne 6, 3) := by decide +kernel
theorem dX7_setPlace_18 : decode prog_1_method_9_code 18 = .ok (.bipush (-2), 2) := by decide +kernel
theorem dX7_setPlace_20 : decode prog_1_method_9_code 20 = .ok (.ireturn, 1) := by decide +kernel
theorem dX7_setPlace_21 : decode prog_1_method_9_code 21 = .ok (.aload_n 0, 1) := by decide +kernel
theorem dX7_setPlace_22 : decode prog_1_method_9_code 22 = .ok (.getfield 12, 3) := by decide +kernel
theorem dX7_setPlace_25 : decode prog_1_method_9_code 25 = .ok (.iload_n 1, 1) := by decide +kernel
theorem dX7_setPlace_26 : decode prog_1_method_9_code 26 = .ok (.iload_n 2, 1) := by decide +kernel
theorem dX7_setPlace_27 : decode prog_1_method_9_code 27 = .ok (.invokevirtual 133, 3) := by decide +kernel
theorem dX7_setPlace_30 : decode prog_1_method_9_code 30 = .ok (.ifCond .ne 6, 3) := by decide +kernel
theorem dX7_setPlace_33 : decode prog_1_method_9_code 33 = .ok (.bipush (-3), 2) := by decide +kernel
theorem dX7_setPlace_35 : decode prog_1_method_9_code 35 = .ok (.ireturn, 1) := by decide +kernel
theorem dX7_setPlace_36 : decode prog_1_method_9_code 36 = .ok (.aload_n 0, 1) := by decide +kernel
theorem dX7_setPlace_37 : decode prog_1_method_9_code 37 = .ok (.getfield 12, 3) := by decide +kernel
theorem dX7_setPlace_40 : decode prog_1_method_9_code 40 = .ok (.getfield 137, 3) := by decide +kernel
theorem dX7_setPlace_43 : decode prog_1_method_9_code 43 = .ok (.iload_n 1, 1) := by decide +kernel
theorem dX7_setPlace_44 : decode prog_1_method_9_code 44 = .ok (.iaload, 1) := by decide +kernel
theorem dX7_setPlace_45 : decode prog_1_method_9_code 45 = .ok (.istore_n 3, 1) := by decide +kernel
theorem dX7_setPlace_46 : decode prog_1_method_9_code 46 = .ok (.aload_n 0, 1) := by decide +kernel
theorem dX7_setPlace_47 : decode prog_1_method_9_code 47 = .ok (.getfield 12, 3) := by decide +kernel
theorem dX7_setPlace_50 : decode prog_1_method_9_code 50 = .ok (.getfield 137, 3) := by decide +kernel
theorem dX7_setPlace_53 : decode prog_1_method_9_code 53 = .ok (.iload_n 1, 1) := by decide +kernel
theorem dX7_setPlace_54 : decode prog_1_method_9_code 54 = .ok (.iload_n 2, 1) := by decide +kernel
theorem dX7_setPlace_55 : decode prog_1_method_9_code 55 = .ok (.iastore, 1) := by decide +kernel
theorem dX7_setPlace_56 : decode prog_1_method_9_code 56 = .ok (.iload_n 3, 1) := by decide +kernel
theorem dX7_setPlace_57 : decode prog_1_method_9_code 57 = .ok (.ireturn, 1) := by decide +kernel
theorem dX7_sitter_0 : decode prog_1_method_10_code 0 = .ok (.aload_n 0, 1) := by decide +kernel
theorem dX7_sitter_1 : decode prog_1_method_10_code 1 = .ok (.getfield 12, 3) := by decide +kernel
theorem dX7_sitter_4 : decode prog_1_method_10_code 4 = .ok (.iload_n 1, 1) := by decide +kernel
theorem dX7_sitter_5 : decode prog_1_method_10_code 5 = .ok (.iload_n 2, 1) := by decide +kernel
theorem dX7_sitter_6 : decode prog_1_method_10_code 6 = .ok (.iload_n 3, 1) := by decide +kernel
theorem dX7_sitter_7 : decode prog_1_method_10_code 7 = .ok (.invokevirtual 140, 3) := by decide +kernel
theorem dX7_sitter_10 : decode prog_1_method_10_code 10 = .ok (.ireturn, 1) := by decide +kernel
theorem dX7_told_0 : decode prog_1_method_11_code 0 = .ok (.aload_n 0, 1) := by decide +kernel
theorem dX7_told_1 : decode prog_1_method_11_code 1 = .ok (.getfield 12, 3) := by decide +kernel
theorem dX7_told_4 : decode prog_1_method_11_code 4 = .ok (.iload_n 1, 1) := by decide +kernel
theorem dX7_told_5 : decode prog_1_method_11_code 5 = .ok (.invokevirtual 126, 3) := by decide +kernel
theorem dX7_told_8 : decode prog_1_method_11_code 8 = .ok (.ifCond .eq 13, 3) := by decide +kernel
theorem dX7_told_11 : decode prog_1_method_11_code 11 = .ok (.iload_n 2, 1) := by decide +kernel
theorem dX7_told_12 : decode prog_1_method_11_code 12 = .ok (.ifCond .lt 9, 3) := by decide +kernel
theorem dX7_told_15 : decode prog_1_method_11_code 15 = .ok (.iload_n 2, 1) := by decide +kernel
theorem dX7_told_16 : decode prog_1_method_11_code 16 = .ok (.bipush 9, 2) := by decide +kernel
theorem dX7_told_18 : decode prog_1_method_11_code 18 = .ok (.if_icmp .le 6, 3) := by decide +kernel
theorem dX7_told_21 : decode prog_1_method_11_code 21 = .ok (.bipush (-2), 2) := by decide +kernel
theorem dX7_told_23 : decode prog_1_method_11_code 23 = .ok (.ireturn, 1) := by decide +kernel
theorem dX7_told_24 : decode prog_1_method_11_code 24 = .ok (.aload_n 0, 1) := by decide +kernel
theorem dX7_told_25 : decode prog_1_method_11_code 25 = .ok (.getfield 12, 3) := by decide +kernel
theorem dX7_told_28 : decode prog_1_method_11_code 28 = .ok (.getfield 144, 3) := by decide +kernel
theorem dX7_told_31 : decode prog_1_method_11_code 31 = .ok (.iload_n 1, 1) := by decide +kernel
theorem dX7_told_32 : decode prog_1_method_11_code 32 = .ok (.iaload, 1) := by decide +kernel
theorem dX7_told_33 : decode prog_1_method_11_code 33 = .ok (.istore_n 3, 1) := by decide +kernel
theorem dX7_told_34 : decode prog_1_method_11_code 34 = .ok (.iload_n 2, 1) := by decide +kernel
theorem dX7_told_35 : decode prog_1_method_11_code 35 = .ok (.tableswitch 66 0 3 #[29, 31, 41, 51], 29) := by decide +kernel
theorem dX7_told_64 : decode prog_1_method_11_code 64 = .ok (.iload_n 3, 1) := by decide +kernel
theorem dX7_told_65 : decode prog_1_method_11_code 65 = .ok (.ireturn, 1) := by decide +kernel
theorem dX7_told_66 : decode prog_1_method_11_code 66 = .ok (.aload_n 0, 1) := by decide +kernel
theorem dX7_told_67 : decode prog_1_method_11_code 67 = .ok (.getfield 12, 3) := by decide +kernel
theorem dX7_told_70 : decode prog_1_method_11_code 70 = .ok (.getfield 129, 3) := by decide +kernel
theorem dX7_told_73 : decode prog_1_method_11_code 73 = .ok (.iload_n 1, 1) := by decide +kernel
theorem dX7_told_74 : decode prog_1_method_11_code 74 = .ok (.iaload, 1) := by decide +kernel
theorem dX7_told_75 : decode prog_1_method_11_code 75 = .ok (.ireturn, 1) := by decide +kernel
theorem dX7_told_76 : decode prog_1_method_11_code 76 = .ok (.aload_n 0, 1) := by decide +kernel
theorem dX7_told_77 : decode prog_1_method_11_code 77 = .ok (.getfield 12, 3) := by decide +kernel
theorem dX7_told_80 : decode prog_1_method_11_code 80 = .ok (.getfield 137, 3) := by decide +kernel
theorem dX7_told_83 : decode prog_1_method_11_code 83 = .ok (.iload_n 1, 1) := by decide +kernel
theorem dX7_told_84 : decode prog_1_method_11_code 84 = .ok (.iaload, 1) := by decide +kernel
theorem dX7_told_85 : decode prog_1_method_11_code 85 = .ok (.ireturn, 1) := by decide +kernel
theorem dX7_told_86 : decode prog_1_method_11_code 86 = .ok (.iload_n 3, 1) := by decide +kernel
theorem dX7_told_87 : decode prog_1_method_11_code 87 = .ok (.aload_n 0, 1) := by decide +kernel
theorem dX7_told_88 : decode prog_1_method_11_code 88 = .ok (.getfield 12, 3) := by decide +kernel
theorem dX7_told_91 : decode prog_1_method_11_code 91 = .ok (.getfield 137, 3) := by decide +kernel
theorem dX7_told_94 : decode prog_1_method_11_code 94 = .ok (.iload_n 1, 1) := by decide +kernel
theorem dX7_told_95 : decode prog_1_method_11_code 95 = .ok (.iaload, 1) := by decide +kernel
theorem dX7_told_96 : decode prog_1_method_11_code 96 = .ok (.iconst 0, 1) := by decide +kernel
theorem dX7_told_97 : decode prog_1_method_11_code 97 = .ok (.invokestatic 147, 3) := by decide +kernel
theorem dX7_told_100 : decode prog_1_method_11_code 100 = .ok (.ireturn, 1) := by decide +kernel
theorem dX7_told_101 : decode prog_1_method_11_code 101 = .ok (.iload_n 3, 1) := by decide +kernel
theorem dX7_told_102 : decode prog_1_method_11_code 102 = .ok (.aload_n 0, 1) := by decide +kernel
theorem dX7_told_103 : decode prog_1_method_11_code 103 = .ok (.getfield 12, 3) := by decide +kernel
theorem dX7_told_106 : decode prog_1_method_11_code 106 = .ok (.getfield 129, 3) := by decide +kernel
theorem dX7_told_109 : decode prog_1_method_11_code 109 = .ok (.iload_n 1, 1) := by decide +kernel
theorem dX7_told_110 : decode prog_1_method_11_code 110 = .ok (.iaload, 1) := by decide +kernel
theorem dX7_told_111 : decode prog_1_method_11_code 111 = .ok (.iload_n 2, 1) := by decide +kernel
theorem dX7_told_112 : decode prog_1_method_11_code 112 = .ok (.iconst 3, 1) := by decide +kernel
theorem dX7_told_113 : decode prog_1_method_11_code 113 = .ok (.isub, 1) := by decide +kernel
theorem dX7_told_114 : decode prog_1_method_11_code 114 = .ok (.invokestatic 152, 3) := by decide +kernel
theorem dX7_told_117 : decode prog_1_method_11_code 117 = .ok (.ifCond .eq 7, 3) := by decide +kernel
theorem dX7_told_120 : decode prog_1_method_11_code 120 = .ok (.iconst 1, 1) := by decide +kernel
theorem dX7_told_121 : decode prog_1_method_11_code 121 = .ok (.goto 4, 3) := by decide +kernel
theorem dX7_told_124 : decode prog_1_method_11_code 124 = .ok (.iconst 0, 1) := by decide +kernel
theorem dX7_told_125 : decode prog_1_method_11_code 125 = .ok (.ireturn, 1) := by decide +kernel
theorem dX7_round_0 : decode prog_1_method_52_code 0 = .ok (.iload_n 0, 1) := by decide +kernel
theorem dX7_round_1 : decode prog_1_method_52_code 1 = .ok (.bipush 7, 2) := by decide +kernel
theorem dX7_round_3 : decode prog_1_method_52_code 3 = .ok (.iand, 1) := by decide +kernel
theorem dX7_round_4 : decode prog_1_method_52_code 4 = .ok (.ireturn, 1) := by decide +kernel
theorem dX7_feed_0 : decode prog_1_method_12_code 0 = .ok (.iload_n 1, 1) := by decide +kernel
theorem dX7_feed_1 : decode prog_1_method_12_code 1 = .ok (.ifCond .lt 10, 3) := by decide +kernel
theorem dX7_feed_4 : decode prog_1_method_12_code 4 = .ok (.iload_n 1, 1) := by decide +kernel
theorem dX7_feed_5 : decode prog_1_method_12_code 5 = .ok (.sipush 255, 3) := by decide +kernel
theorem dX7_feed_8 : decode prog_1_method_12_code 8 = .ok (.if_icmp .le 6, 3) := by decide +kernel
theorem dX7_feed_11 : decode prog_1_method_12_code 11 = .ok (.bipush (-2), 2) := by decide +kernel
theorem dX7_feed_13 : decode prog_1_method_12_code 13 = .ok (.ireturn, 1) := by decide +kernel
theorem dX7_feed_14 : decode prog_1_method_12_code 14 = .ok (.aload_n 0, 1) := by decide +kernel
theorem dX7_feed_15 : decode prog_1_method_12_code 15 = .ok (.getfield 26, 3) := by decide +kernel
theorem dX7_feed_18 : decode prog_1_method_12_code 18 = .ok (.iload_n 1, 1) := by decide +kernel
theorem dX7_feed_19 : decode prog_1_method_12_code 19 = .ok (.invokevirtual 74, 3) := by decide +kernel
theorem dX7_feed_22 : decode prog_1_method_12_code 22 = .ok (.ifCond .ne 6, 3) := by decide +kernel
theorem dX7_feed_25 : decode prog_1_method_12_code 25 = .ok (.bipush (-4), 2) := by decide +kernel
theorem dX7_feed_27 : decode prog_1_method_12_code 27 = .ok (.ireturn, 1) := by decide +kernel
theorem dX7_feed_28 : decode prog_1_method_12_code 28 = .ok (.aload_n 0, 1) := by decide +kernel
theorem dX7_feed_29 : decode prog_1_method_12_code 29 = .ok (.getfield 26, 3) := by decide +kernel
theorem dX7_feed_32 : decode prog_1_method_12_code 32 = .ok (.getfield 156, 3) := by decide +kernel
theorem dX7_feed_35 : decode prog_1_method_12_code 35 = .ok (.ireturn, 1) := by decide +kernel
theorem dX7_text_0 : decode prog_1_method_13_code 0 = .ok (.aload_n 0, 1) := by decide +kernel
theorem dX7_text_1 : decode prog_1_method_13_code 1 = .ok (.getfield 36, 3) := by decide +kernel
theorem dX7_text_4 : decode prog_1_method_13_code 4 = .ok (.bipush 6, 2) := by decide +kernel
theorem dX7_text_6 : decode prog_1_method_13_code 6 = .ok (.if_icmp .lt 6, 3) := by decide +kernel
theorem dX7_text_9 : decode prog_1_method_13_code 9 = .ok (.bipush (-4), 2) := by decide +kernel
theorem dX7_text_11 : decode prog_1_method_13_code 11 = .ok (.ireturn, 1) := by decide +kernel
theorem dX7_text_12 : decode prog_1_method_13_code 12 = .ok (.aload_n 0, 1) := by decide +kernel
theorem dX7_text_13 : decode prog_1_method_13_code 13 = .ok (.getfield 26, 3) := by decide +kernel
theorem dX7_text_16 : decode prog_1_method_13_code 16 = .ok (.aload_n 0, 1) := by decide +kernel
theorem dX7_text_17 : decode prog_1_method_13_code 17 = .ok (.getfield 32, 3) := by decide +kernel
theorem dX7_text_20 : decode prog_1_method_13_code 20 = .ok (.aload_n 0, 1) := by decide +kernel
theorem dX7_text_21 : decode prog_1_method_13_code 21 = .ok (.getfield 36, 3) := by decide +kernel
theorem dX7_text_24 : decode prog_1_method_13_code 24 = .ok (.aaload, 1) := by decide +kernel
theorem dX7_text_25 : decode prog_1_method_13_code 25 = .ok (.invokevirtual 78, 3) := by decide +kernel
theorem dX7_text_28 : decode prog_1_method_13_code 28 = .ok (.istore_n 1, 1) := by decide +kernel
theorem dX7_text_29 : decode prog_1_method_13_code 29 = .ok (.aload_n 0, 1) := by decide +kernel
theorem dX7_text_30 : decode prog_1_method_13_code 30 = .ok (.getfield 26, 3) := by decide +kernel
theorem dX7_text_33 : decode prog_1_method_13_code 33 = .ok (.invokevirtual 82, 3) := by decide +kernel
theorem dX7_text_36 : decode prog_1_method_13_code 36 = .ok (.iload_n 1, 1) := by decide +kernel
theorem dX7_text_37 : decode prog_1_method_13_code 37 = .ok (.iconst (-1), 1) := by decide +kernel
theorem dX7_text_38 : decode prog_1_method_13_code 38 = .ok (.if_icmp .eq 8, 3) := by decide +kernel
theorem dX7_text_41 : decode prog_1_method_13_code 41 = .ok (.bipush (-100), 2) := by decide +kernel
theorem dX7_text_43 : decode prog_1_method_13_code 43 = .ok (.iload_n 1, 1) := by decide +kernel
theorem dX7_text_44 : decode prog_1_method_13_code 44 = .ok (.isub, 1) := by decide +kernel
theorem dX7_text_45 : decode prog_1_method_13_code 45 = .ok (.ireturn, 1) := by decide +kernel
theorem dX7_text_46 : decode prog_1_method_13_code 46 = .ok (.aload_n 0, 1) := by decide +kernel
theorem dX7_text_47 : decode prog_1_method_13_code 47 = .ok (.dup, 1) := by decide +kernel
theorem dX7_text_48 : decode prog_1_method_13_code 48 = .ok (.getfield 36, 3) := by decide +kernel
theorem dX7_text_51 : decode prog_1_method_13_code 51 = .ok (.iconst 1, 1) := by decide +kernel
theorem dX7_text_52 : decode prog_1_method_13_code 52 = .ok (.iadd, 1) := by decide +kernel
theorem dX7_text_53 : decode prog_1_method_13_code 53 = .ok (.putfield 36, 3) := by decide +kernel
theorem dX7_text_56 : decode prog_1_method_13_code 56 = .ok (.aload_n 0, 1) := by decide +kernel
theorem dX7_text_57 : decode prog_1_method_13_code 57 = .ok (.getfield 36, 3) := by decide +kernel
theorem dX7_text_60 : decode prog_1_method_13_code 60 = .ok (.iconst 1, 1) := by decide +kernel
theorem dX7_text_61 : decode prog_1_method_13_code 61 = .ok (.isub, 1) := by decide +kernel
theorem dX7_text_62 : decode prog_1_method_13_code 62 = .ok (.ireturn, 1) := by decide +kernel
theorem dX7_force_0 : decode prog_1_method_14_code 0 = .ok (.iload_n 1, 1) := by decide +kernel
theorem dX7_force_1 : decode prog_1_method_14_code 1 = .ok (.ifCond .lt 11, 3) := by decide +kernel
theorem dX7_force_4 : decode prog_1_method_14_code 4 = .ok (.iload_n 1, 1) := by decide +kernel
theorem dX7_force_5 : decode prog_1_method_14_code 5 = .ok (.aload_n 0, 1) := by decide +kernel
theorem dX7_force_6 : decode prog_1_method_14_code 6 = .ok (.getfield 36, 3) := by decide +kernel
theorem dX7_force_9 : decode prog_1_method_14_code 9 = .ok (.if_icmp .lt 6, 3) := by decide +kernel
theorem dX7_force_12 : decode prog_1_method_14_code 12 = .ok (.bipush (-2), 2) := by decide +kernel
theorem dX7_force_14 : decode prog_1_method_14_code 14 = .ok (.ireturn, 1) := by decide +kernel
theorem dX7_force_15 : decode prog_1_method_14_code 15 = .ok (.aload_n 0, 1) := by decide +kernel
theorem dX7_force_16 : decode prog_1_method_14_code 16 = .ok (.getfield 12, 3) := by decide +kernel
theorem dX7_force_19 : decode prog_1_method_14_code 19 = .ok (.getfield 159, 3) := by decide +kernel
theorem dX7_force_22 : decode prog_1_method_14_code 22 = .ok (.istore_n 2, 1) := by decide +kernel
theorem dX7_force_23 : decode prog_1_method_14_code 23 = .ok (.aload_n 0, 1) := by decide +kernel
theorem dX7_force_24 : decode prog_1_method_14_code 24 = .ok (.getfield 12, 3) := by decide +kernel
theorem dX7_force_27 : decode prog_1_method_14_code 27 = .ok (.iload_n 1, 1) := by decide +kernel
theorem dX7_force_28 : decode prog_1_method_14_code 28 = .ok (.putfield 159, 3) := by decide +kernel
theorem dX7_force_31 : decode prog_1_method_14_code 31 = .ok (.iload_n 2, 1) := by decide +kernel
theorem dX7_force_32 : decode prog_1_method_14_code 32 = .ok (.ireturn, 1) := by decide +kernel
theorem dX7_night_0 : decode prog_1_method_15_code 0 = .ok (.iload_n 1, 1) := by decide +kernel
theorem dX7_night_1 : decode prog_1_method_15_code 1 = .ok (.invokestatic 162, 3) := by decide +kernel
theorem dX7_night_4 : decode prog_1_method_15_code 4 = .ok (.ifCond .eq 23, 3) := by decide +kernel
theorem dX7_night_7 : decode prog_1_method_15_code 7 = .ok (.aload_n 0, 1) := by decide +kernel
theorem dX7_night_8 : decode prog_1_method_15_code 8 = .ok (.iload_n 2, 1) := by decide +kernel
theorem dX7_night_9 : decode prog_1_method_15_code 9 = .ok (.invokevirtual 165, 3) := by decide +kernel
theorem dX7_night_12 : decode prog_1_method_15_code 12 = .ok (.ifCond .eq 15, 3) := by decide +kernel
theorem dX7_night_15 : decode prog_1_method_15_code 15 = .ok (.aload_n 0, 1) := by decide +kernel
theorem dX7_night_16 : decode prog_1_method_15_code 16 = .ok (.getfield 42, 3) := by decide +kernel
theorem dX7_night_19 : decode prog_1_method_15_code 19 = .ok (.iload_n 1, 1) := by decide +kernel
theorem dX7_night_20 : decode prog_1_method_15_code 20 = .ok (.aaload, 1) := by decide +kernel
theorem dX7_night_21 : decode prog_1_method_15_code 21 = .ok (.invokevirtual 168, 3) := by decide +kernel
theorem dX7_night_24 : decode prog_1_method_15_code 24 = .ok (.ifCond .eq 6, 3) := by decide +kernel
theorem dX7_night_27 : decode prog_1_method_15_code 27 = .ok (.bipush (-100), 2) := by decide +kernel
theorem dX7_night_29 : decode prog_1_method_15_code 29 = .ok (.ireturn, 1) := by decide +kernel
theorem dX7_night_30 : decode prog_1_method_15_code 30 = .ok (.aload_n 0, 1) := by decide +kernel
theorem dX7_night_31 : decode prog_1_method_15_code 31 = .ok (.getfield 49, 3) := by decide +kernel
theorem dX7_night_34 : decode prog_1_method_15_code 34 = .ok (.aload_n 0, 1) := by decide +kernel
theorem dX7_night_35 : decode prog_1_method_15_code 35 = .ok (.getfield 42, 3) := by decide +kernel
theorem dX7_night_38 : decode prog_1_method_15_code 38 = .ok (.iload_n 1, 1) := by decide +kernel
theorem dX7_night_39 : decode prog_1_method_15_code 39 = .ok (.aaload, 1) := by decide +kernel
theorem dX7_night_40 : decode prog_1_method_15_code 40 = .ok (.invokevirtual 172, 3) := by decide +kernel
theorem dX7_night_43 : decode prog_1_method_15_code 43 = .ok (.aload_n 0, 1) := by decide +kernel
theorem dX7_night_44 : decode prog_1_method_15_code 44 = .ok (.invokevirtual 176, 3) := by decide +kernel
theorem dX7_night_47 : decode prog_1_method_15_code 47 = .ok (.iload_n 2, 1) := by decide +kernel
theorem dX7_night_48 : decode prog_1_method_15_code 48 = .ok (.bipush 10, 2) := by decide +kernel
theorem dX7_night_50 : decode prog_1_method_15_code 50 = .ok (.if_icmp .ge 14, 3) := by decide +kernel
theorem dX7_night_53 : decode prog_1_method_15_code 53 = .ok (.aload_n 0, 1) := by decide +kernel
theorem dX7_night_54 : decode prog_1_method_15_code 54 = .ok (.getfield 49, 3) := by decide +kernel
theorem dX7_night_57 : decode prog_1_method_15_code 57 = .ok (.iload_n 2, 1) := by decide +kernel
theorem dX7_night_58 : decode prog_1_method_15_code 58 = .ok (.invokevirtual 179, 3) := by decide +kernel
theorem dX7_night_61 : decode prog_1_method_15_code 61 = .ok (.goto 18, 3) := by decide +kernel
theorem dX7_night_64 : decode prog_1_method_15_code 64 = .ok (.aload_n 0, 1) := by decide +kernel
theorem dX7_night_65 : decode prog_1_method_15_code 65 = .ok (.getfield 49, 3) := by decide +kernel
theorem dX7_night_68 : decode prog_1_method_15_code 68 = .ok (.iload_n 2, 1) := by decide +kernel
theorem dX7_night_69 : decode prog_1_method_15_code 69 = .ok (.bipush 10, 2) := by decide +kernel
theorem dX7_night_71 : decode prog_1_method_15_code 71 = .ok (.idiv, 1) := by decide +kernel
theorem dX7_night_72 : decode prog_1_method_15_code 72 = .ok (.iload_n 2, 1) := by decide +kernel
theorem dX7_night_73 : decode prog_1_method_15_code 73 = .ok (.bipush 10, 2) := by decide +kernel
theorem dX7_night_75 : decode prog_1_method_15_code 75 = .ok (.irem, 1) := by decide +kernel
theorem dX7_night_76 : decode prog_1_method_15_code 76 = .ok (.invokevirtual 182, 3) := by decide +kernel
theorem dX7_night_79 : decode prog_1_method_15_code 79 = .ok (.ireturn, 1) := by decide +kernel
theorem dX7_isSheet_0 : decode prog_1_method_49_code 0 = .ok (.iload_n 0, 1) := by decide +kernel
theorem dX7_isSheet_1 : decode prog_1_method_49_code 1 = .ok (.ifCond .lt 12, 3) := by decide +kernel
theorem dX7_isSheet_4 : decode prog_1_method_49_code 4 = .ok (.iload_n 0, 1) := by decide +kernel
theorem dX7_isSheet_5 : decode prog_1_method_49_code 5 = .ok (.iconst 4, 1) := by decide +kernel
theorem dX7_isSheet_6 : decode prog_1_method_49_code 6 = .ok (.if_icmp .ge 7, 3) := by decide +kernel
theorem dX7_isSheet_9 : decode prog_1_method_49_code 9 = .ok (.iconst 1, 1) := by decide +kernel
theorem dX7_isSheet_10 : decode prog_1_method_49_code 10 = .ok (.goto 4, 3) := by decide +kernel
theorem dX7_isSheet_13 : decode prog_1_method_49_code 13 = .ok (.iconst 0, 1) := by decide +kernel
theorem dX7_isSheet_14 : decode prog_1_method_49_code 14 = .ok (.ireturn, 1) := by decide +kernel
theorem dX7_isNightWhat_0 : decode prog_1_method_16_code 0 = .ok (.iload_n 1, 1) := by decide +kernel
theorem dX7_isNightWhat_1 : decode prog_1_method_16_code 1 = .ok (.bipush 10, 2) := by decide +kernel
theorem dX7_isNightWhat_3 : decode prog_1_method_16_code 3 = .ok (.if_icmp .ge 18, 3) := by decide +kernel
theorem dX7_isNightWhat_6 : decode prog_1_method_16_code 6 = .ok (.iload_n 1, 1) := by decide +kernel
theorem dX7_isNightWhat_7 : decode prog_1_method_16_code 7 = .ok (.ifCond .lt 12, 3) := by decide +kernel
theorem dX7_isNightWhat_10 : decode prog_1_method_16_code 10 = .ok (.iload_n 1, 1) := by decide +kernel
theorem dX7_isNightWhat_11 : decode prog_1_method_16_code 11 = .ok (.iconst 3, 1) := by decide +kernel
theorem dX7_isNightWhat_12 : decode prog_1_method_16_code 12 = .ok (.if_icmp .gt 7, 3) := by decide +kernel
theorem dX7_isNightWhat_15 : decode prog_1_method_16_code 15 = .ok (.iconst 1, 1) := by decide +kernel
theorem dX7_isNightWhat_16 : decode prog_1_method_16_code 16 = .ok (.goto 4, 3) := by decide +kernel
theorem dX7_isNightWhat_19 : decode prog_1_method_16_code 19 = .ok (.iconst 0, 1) := by decide +kernel
theorem dX7_isNightWhat_20 : decode prog_1_method_16_code 20 = .ok (.ireturn, 1) := by decide +kernel
theorem dX7_isNightWhat_21 : decode prog_1_method_16_code 21 = .ok (.iload_n 1, 1) := by decide +kernel
theorem dX7_isNightWhat_22 : decode prog_1_method_16_code 22 = .ok (.bipush 60, 2) := by decide +kernel
theorem dX7_isNightWhat_24 : decode prog_1_method_16_code 24 = .ok (.if_icmp .ge 21, 3) := by decide +kernel
theorem dX7_isNightWhat_27 : decode prog_1_method_16_code 27 = .ok (.aload_n 0, 1) := by decide +kernel
theorem dX7_isNightWhat_28 : decode prog_1_method_16_code 28 = .ok (.getfield 12, 3) := by decide +kernel
theorem dX7_isNightWhat_31 : decode prog_1_method_16_code 31 = .ok (.iload_n 1, 1) := by decide +kernel
theorem dX7_isNightWhat_32 : decode prog_1_method_16_code 32 = .ok (.bipush 10, 2) := by decide +kernel
theorem dX7_isNightWhat_34 : decode prog_1_method_16_code 34 = .ok (.irem, 1) := by decide +kernel
theorem dX7_isNightWhat_35 : decode prog_1_method_16_code 35 = .ok (.invokevirtual 126, 3) := by decide +kernel
theorem dX7_isNightWhat_38 : decode prog_1_method_16_code 38 = .ok (.ifCond .eq 7, 3) := by decide +kernel
theorem dX7_isNightWhat_41 : decode prog_1_method_16_code 41 = .ok (.iconst 1, 1) := by decide +kernel
theorem dX7_isNightWhat_42 : decode prog_1_method_16_code 42 = .ok (.goto 4, 3) := by decide +kernel
theorem dX7_isNightWhat_45 : decode prog_1_method_16_code 45 = .ok (.iconst 0, 1) := by decide +kernel
theorem dX7_isNightWhat_46 : decode prog_1_method_16_code 46 = .ok (.ireturn, 1) := by decide +kernel
theorem dX7_thinkAsItIs_0 : decode prog_1_method_18_code 0 = .ok (.aload_n 0, 1) := by decide +kernel
theorem dX7_thinkAsItIs_1 : decode prog_1_method_18_code 1 = .ok (.getfield 49, 3) := by decide +kernel
theorem dX7_thinkAsItIs_4 : decode prog_1_method_18_code 4 = .ok (.aload_n 0, 1) := by decide +kernel
theorem dX7_thinkAsItIs_5 : decode prog_1_method_18_code 5 = .ok (.getfield 12, 3) := by decide +kernel
theorem dX7_thinkAsItIs_8 : decode prog_1_method_18_code 8 = .ok (.invokevirtual 200, 3) := by decide +kernel
theorem dX7_thinkAsItIs_11 : decode prog_1_method_18_code 11 = .ok (.aload_n 0, 1) := by decide +kernel
theorem dX7_thinkAsItIs_12 : decode prog_1_method_18_code 12 = .ok (.getfield 49, 3) := by decide +kernel
theorem dX7_thinkAsItIs_15 : decode prog_1_method_18_code 15 = .ok (.aload_n 0, 1) := by decide +kernel
theorem dX7_thinkAsItIs_16 : decode prog_1_method_18_code 16 = .ok (.getfield 32, 3) := by decide +kernel
theorem dX7_thinkAsItIs_19 : decode prog_1_method_18_code 19 = .ok (.aload_n 0, 1) := by decide +kernel
theorem dX7_thinkAsItIs_20 : decode prog_1_method_18_code 20 = .ok (.getfield 12, 3) := by decide +kernel
theorem dX7_thinkAsItIs_23 : decode prog_1_method_18_code 23 = .ok (.getfield 159, 3) := by decide +kernel
theorem dX7_thinkAsItIs_26 : decode prog_1_method_18_code 26 = .ok (.aaload, 1) := by decide +kernel
theorem dX7_thinkAsItIs_27 : decode prog_1_method_18_code 27 = .ok (.invokevirtual 204, 3) := by decide +kernel
theorem dX7_thinkAsItIs_30 : decode prog_1_method_18_code 30 = .ok (.return_, 1) := by decide +kernel
theorem dX7_sit_0 : decode prog_1_method_17_code 0 = .ok (.aload_n 0, 1) := by decide +kernel
theorem dX7_sit_1 : decode prog_1_method_17_code 1 = .ok (.iload_n 1, 1) := by decide +kernel
theorem dX7_sit_2 : decode prog_1_method_17_code 2 = .ok (.invokevirtual 185, 3) := by decide +kernel
theorem dX7_sit_5 : decode prog_1_method_17_code 5 = .ok (.istore_n 2, 1) := by decide +kernel
theorem dX7_sit_6 : decode prog_1_method_17_code 6 = .ok (.iload_n 2, 1) := by decide +kernel
theorem dX7_sit_7 : decode prog_1_method_17_code 7 = .ok (.ifCond .eq 5, 3) := by decide +kernel
theorem dX7_sit_10 : decode prog_1_method_17_code 10 = .ok (.iload_n 2, 1) := by decide +kernel
theorem dX7_sit_11 : decode prog_1_method_17_code 11 = .ok (.ireturn, 1) := by decide +kernel
theorem dX7_sit_12 : decode prog_1_method_17_code 12 = .ok (.aload_n 0, 1) := by decide +kernel
theorem dX7_sit_13 : decode prog_1_method_17_code 13 = .ok (.getfield 49, 3) := by decide +kernel
theorem dX7_sit_16 : decode prog_1_method_17_code 16 = .ok (.aload_n 0, 1) := by decide +kernel
theorem dX7_sit_17 : decode prog_1_method_17_code 17 = .ok (.getfield 42, 3) := by decide +kernel
theorem dX7_sit_20 : decode prog_1_method_17_code 20 = .ok (.iload_n 1, 1) := by decide +kernel
theorem dX7_sit_21 : decode prog_1_method_17_code 21 = .ok (.aaload, 1) := by decide +kernel
theorem dX7_sit_22 : decode prog_1_method_17_code 22 = .ok (.invokevirtual 172, 3) := by decide +kernel
theorem dX7_sit_25 : decode prog_1_method_17_code 25 = .ok (.aload_n 0, 1) := by decide +kernel
theorem dX7_sit_26 : decode prog_1_method_17_code 26 = .ok (.invokevirtual 176, 3) := by decide +kernel
theorem dX7_sit_29 : decode prog_1_method_17_code 29 = .ok (.aload_n 0, 1) := by decide +kernel
theorem dX7_sit_30 : decode prog_1_method_17_code 30 = .ok (.getfield 12, 3) := by decide +kernel
theorem dX7_sit_33 : decode prog_1_method_17_code 33 = .ok (.aload_n 0, 1) := by decide +kernel
theorem dX7_sit_34 : decode prog_1_method_17_code 34 = .ok (.getfield 49, 3) := by decide +kernel
theorem dX7_sit_37 : decode prog_1_method_17_code 37 = .ok (.getfield 188, 3) := by decide +kernel
theorem dX7_sit_40 : decode prog_1_method_17_code 40 = .ok (.getfield 111, 3) := by decide +kernel
theorem dX7_sit_43 : decode prog_1_method_17_code 43 = .ok (.putfield 111, 3) := by decide +kernel
theorem dX7_sit_46 : decode prog_1_method_17_code 46 = .ok (.aload_n 0, 1) := by decide +kernel
theorem dX7_sit_47 : decode prog_1_method_17_code 47 = .ok (.getfield 49, 3) := by decide +kernel
theorem dX7_sit_50 : decode prog_1_method_17_code 50 = .ok (.getfield 188, 3) := by decide +kernel
theorem dX7_sit_53 : decode prog_1_method_17_code 53 = .ok (.getfield 137, 3) := by decide +kernel
theorem dX7_sit_56 : decode prog_1_method_17_code 56 = .ok (.iconst 0, 1) := by decide +kernel
theorem dX7_sit_57 : decode prog_1_method_17_code 57 = .ok (.aload_n 0, 1) := by decide +kernel
theorem dX7_sit_58 : decode prog_1_method_17_code 58 = .ok (.getfield 12, 3) := by decide +kernel
theorem dX7_sit_61 : decode prog_1_method_17_code 61 = .ok (.getfield 137, 3) := by decide +kernel
theorem dX7_sit_64 : decode prog_1_method_17_code 64 = .ok (.iconst 0, 1) := by decide +kernel
theorem dX7_sit_65 : decode prog_1_method_17_code 65 = .ok (.iconst 5, 1) := by decide +kernel
theorem dX7_sit_66 : decode prog_1_method_17_code 66 = .ok (.invokestatic 191, 3) := by decide +kernel
theorem dX7_sit_69 : decode prog_1_method_17_code 69 = .ok (.aload_n 0, 1) := by decide +kernel
theorem dX7_sit_70 : decode prog_1_method_17_code 70 = .ok (.getfield 49, 3) := by decide +kernel
theorem dX7_sit_73 : decode prog_1_method_17_code 73 = .ok (.invokevirtual 197, 3) := by decide +kernel
theorem dX7_sit_76 : decode prog_1_method_17_code 76 = .ok (.ireturn, 1) := by decide +kernel
theorem dX7_refusal_0 : decode prog_1_method_51_code 0 = .ok (.iload_n 1, 1) := by decide +kernel
theorem dX7_refusal_1 : decode prog_1_method_51_code 1 = .ok (.invokestatic 162, 3) := by decide +kernel
theorem dX7_refusal_4 : decode prog_1_method_51_code 4 = .ok (.ifCond .ne 6, 3) := by decide +kernel
theorem dX7_refusal_7 : decode prog_1_method_51_code 7 = .ok (.bipush (-2), 2) := by decide +kernel
theorem dX7_refusal_9 : decode prog_1_method_51_code 9 = .ok (.ireturn, 1) := by decide +kernel
theorem dX7_refusal_10 : decode prog_1_method_51_code 10 = .ok (.aload_n 0, 1) := by decide +kernel
theorem dX7_refusal_11 : decode prog_1_method_51_code 11 = .ok (.getfield 42, 3) := by decide +kernel
theorem dX7_refusal_14 : decode prog_1_method_51_code 14 = .ok (.iload_n 1, 1) := by decide +kernel
theorem dX7_refusal_15 : decode prog_1_method_51_code 15 = .ok (.aaload, 1) := by decide +kernel
theorem dX7_refusal_16 : decode prog_1_method_51_code 16 = .ok (.invokevirtual 168, 3) := by decide +kernel
theorem dX7_refusal_19 : decode prog_1_method_51_code 19 = .ok (.ifCond .eq 8, 3) := by decide +kernel
theorem dX7_refusal_22 : decode prog_1_method_51_code 22 = .ok (.bipush (-11), 2) := by decide +kernel
theorem dX7_refusal_24 : decode prog_1_method_51_code 24 = .ok (.goto 4, 3) := by decide +kernel
theorem dX7_refusal_27 : decode prog_1_method_51_code 27 = .ok (.iconst 0, 1) := by decide +kernel
theorem dX7_refusal_28 : decode prog_1_method_51_code 28 = .ok (.ireturn, 1) := by decide +kernel
theorem dX7_likely_0 : decode prog_1_method_19_code 0 = .ok (.iload_n 1, 1) := by decide +kernel
theorem dX7_likely_1 : decode prog_1_method_19_code 1 = .ok (.ifCond .lt 23, 3) := by decide +kernel
theorem dX7_likely_4 : decode prog_1_method_19_code 4 = .ok (.iload_n 1, 1) := by decide +kernel
theorem dX7_likely_5 : decode prog_1_method_19_code 5 = .ok (.bipush 8, 2) := by decide +kernel
theorem dX7_likely_7 : decode prog_1_method_19_code 7 = .ok (.if_icmp .gt 17, 3) := by decide +kernel
theorem dX7_likely_10 : decode prog_1_method_19_code 10 = .ok (.iload_n 2, 1) := by decide +kernel
theorem dX7_likely_11 : decode prog_1_method_19_code 11 = .ok (.invokestatic 108, 3) := by decide +kernel
theorem dX7_likely_14 : decode prog_1_method_19_code 14 = .ok (.ifCond .eq 10, 3) := by decide +kernel
theorem dX7_likely_17 : decode prog_1_method_19_code 17 = .ok (.iload_n 3, 1) := by decide +kernel
theorem dX7_likely_18 : decode prog_1_method_19_code 18 = .ok (.invokestatic 208, 3) := by decide +kernel
theorem dX7_likely_21 : decode prog_1_method_19_code 21 = .ok (.ifCond .ne 7, 3) := by decide +kernel
theorem dX7_likely_24 : decode prog_1_method_19_code 24 = .ok (.ldc2_w 211, 3) := by decide +kernel
theorem dX7_likely_27 : decode prog_1_method_19_code 27 = .ok (.lreturn, 1) := by decide +kernel
theorem dX7_likely_28 : decode prog_1_method_19_code 28 = .ok (.aload_n 0, 1) := by decide +kernel
theorem dX7_likely_29 : decode prog_1_method_19_code 29 = .ok (.getfield 56, 3) := by decide +kernel
theorem dX7_likely_32 : decode prog_1_method_19_code 32 = .ok (.aload_n 0, 1) := by decide +kernel
theorem dX7_likely_33 : decode prog_1_method_19_code 33 = .ok (.getfield 12, 3) := by decide +kernel
theorem dX7_likely_36 : decode prog_1_method_19_code 36 = .ok (.iload_n 1, 1) := by decide +kernel
theorem dX7_likely_37 : decode prog_1_method_19_code 37 = .ok (.invokevirtual 213, 3) := by decide +kernel
theorem dX7_likely_40 : decode prog_1_method_19_code 40 = .ok (.aload_n 0, 1) := by decide +kernel
theorem dX7_likely_41 : decode prog_1_method_19_code 41 = .ok (.getfield 56, 3) := by decide +kernel
theorem dX7_likely_44 : decode prog_1_method_19_code 44 = .ok (.getfield 217, 3) := by decide +kernel
theorem dX7_likely_47 : decode prog_1_method_19_code 47 = .ok (.iload_n 2, 1) := by decide +kernel
theorem dX7_likely_48 : decode prog_1_method_19_code 48 = .ok (.laload, 1) := by decide +kernel
theorem dX7_likely_49 : decode prog_1_method_19_code 49 = .ok (.aload_n 0, 1) := by decide +kernel
theorem dX7_likely_50 : decode prog_1_method_19_code 50 = .ok (.getfield 56, 3) := by decide +kernel
theorem dX7_likely_53 : decode prog_1_method_19_code 53 = .ok (.getfield 221, 3) := by decide +kernel
theorem dX7_likely_56 : decode prog_1_method_19_code 56 = .ok (.iload_n 3, 1) := by decide +kernel
theorem dX7_likely_57 : decode prog_1_method_19_code 57 = .ok (.invokestatic 225, 3) := by decide +kernel
theorem dX7_likely_60 : decode prog_1_method_19_code 60 = .ok (.lreturn, 1) := by decide +kernel
theorem dX7_isPart_0 : decode prog_1_method_48_code 0 = .ok (.iload_n 0, 1) := by decide +kernel
theorem dX7_isPart_1 : decode prog_1_method_48_code 1 = .ok (.ifCond .eq 8, 3) := by decide +kernel
theorem dX7_isPart_4 : decode prog_1_method_48_code 4 = .ok (.iload_n 0, 1) := by decide +kernel
theorem dX7_isPart_5 : decode prog_1_method_48_code 5 = .ok (.iconst 1, 1) := by decide +kernel
theorem dX7_isPart_6 : decode prog_1_method_48_code 6 = .ok (.if_icmp .ne 7, 3) := by decide +kernel
theorem dX7_isPart_9 : decode prog_1_method_48_code 9 = .ok (.iconst 1, 1) := by decide +kernel
theorem dX7_isPart_10 : decode prog_1_method_48_code 10 = .ok (.goto 4, 3) := by decide +kernel
theorem dX7_isPart_13 : decode prog_1_method_48_code 13 = .ok (.iconst 0, 1) := by decide +kernel
theorem dX7_isPart_14 : decode prog_1_method_48_code 14 = .ok (.ireturn, 1) := by decide +kernel
theorem dX7_lowest_0 : decode prog_1_method_53_code 0 = .ok (.lload_n 0, 1) := by decide +kernel
theorem dX7_lowest_1 : decode prog_1_method_53_code 1 = .ok (.lload_n 2, 1) := by decide +kernel
theorem dX7_lowest_2 : decode prog_1_method_53_code 2 = .ok (.invokestatic 321, 3) := by decide +kernel
theorem dX7_lowest_5 : decode prog_1_method_53_code 5 = .ok (.lstore 5, 2) := by decide +kernel
theorem dX7_lowest_7 : decode prog_1_method_53_code 7 = .ok (.lload 5, 2) := by decide +kernel
theorem dX7_lowest_9 : decode prog_1_method_53_code 9 = .ok (.lconst 0, 1) := by decide +kernel
theorem dX7_lowest_10 : decode prog_1_method_53_code 10 = .ok (.lcmp, 1) := by decide +kernel
theorem dX7_lowest_11 : decode prog_1_method_53_code 11 = .ok (.ifCond .ne 7, 3) := by decide +kernel
theorem dX7_lowest_14 : decode prog_1_method_53_code 14 = .ok (.ldc2_w 211, 3) := by decide +kernel
theorem dX7_lowest_17 : decode prog_1_method_53_code 17 = .ok (.lreturn, 1) := by decide +kernel
theorem dX7_lowest_18 : decode prog_1_method_53_code 18 = .ok (.iload 4, 2) := by decide +kernel
theorem dX7_lowest_20 : decode prog_1_method_53_code 20 = .ok (.ifCond .ne 7, 3) := by decide +kernel
theorem dX7_lowest_23 : decode prog_1_method_53_code 23 = .ok (.lload_n 0, 1) := by decide +kernel
theorem dX7_lowest_24 : decode prog_1_method_53_code 24 = .ok (.goto 4, 3) := by decide +kernel
theorem dX7_lowest_27 : decode prog_1_method_53_code 27 = .ok (.lload_n 2, 1) := by decide +kernel
theorem dX7_lowest_28 : decode prog_1_method_53_code 28 = .ok (.lload 5, 2) := by decide +kernel
theorem dX7_lowest_30 : decode prog_1_method_53_code 30 = .ok (.ldiv, 1) := by decide +kernel
theorem dX7_lowest_31 : decode prog_1_method_53_code 31 = .ok (.lreturn, 1) := by decide +kernel
theorem dX7_commonDivisor_0 : decode prog_1_method_54_code 0 = .ok (.lload_n 0, 1) := by decide +kernel
theorem dX7_commonDivisor_1 : decode prog_1_method_54_code 1 = .ok (.lstore 4, 2) := by decide +kernel
theorem dX7_commonDivisor_3 : decode prog_1_method_54_code 3 = .ok (.lload_n 2, 1) := by decide +kernel
theorem dX7_commonDivisor_4 : decode prog_1_method_54_code 4 = .ok (.lstore 6, 2) := by decide +kernel
theorem dX7_commonDivisor_6 : decode prog_1_method_54_code 6 = .ok (.iconst 0, 1) := by decide +kernel
theorem dX7_commonDivisor_7 : decode prog_1_method_54_code 7 = .ok (.istore 8, 2) := by decide +kernel
theorem dX7_commonDivisor_9 : decode prog_1_method_54_code 9 = .ok (.iload 8, 2) := by decide +kernel
theorem dX7_commonDivisor_11 : decode prog_1_method_54_code 11 = .ok (.sipush 1000, 3) := by decide +kernel
theorem dX7_commonDivisor_14 : decode prog_1_method_54_code 14 = .ok (.if_icmp .ge 31, 3) := by decide +kernel
theorem dX7_commonDivisor_17 : decode prog_1_method_54_code 17 = .ok (.lload 6, 2) := by decide +kernel
theorem dX7_commonDivisor_19 : decode prog_1_method_54_code 19 = .ok (.lconst 0, 1) := by decide +kernel
theorem dX7_commonDivisor_20 : decode prog_1_method_54_code 20 = .ok (.lcmp, 1) := by decide +kernel
theorem dX7_commonDivisor_21 : decode prog_1_method_54_code 21 = .ok (.ifCond .eq 24, 3) := by decide +kernel
theorem dX7_commonDivisor_24 : decode prog_1_method_54_code 24 = .ok (.lload 4, 2) := by decide +kernel
theorem dX7_commonDivisor_26 : decode prog_1_method_54_code 26 = .ok (.lload 6, 2) := by decide +kernel
theorem dX7_commonDivisor_28 : decode prog_1_method_54_code 28 = .ok (.lrem, 1) := by decide +kernel
theorem dX7_commonDivisor_29 : decode prog_1_method_54_code 29 = .ok (.lstore 9, 2) := by decide +kernel
theorem dX7_commonDivisor_31 : decode prog_1_method_54_code 31 = .ok (.lload 6, 2) := by decide +kernel
theorem dX7_commonDivisor_33 : decode prog_1_method_54_code 33 = .ok (.lstore 4, 2) := by decide +kernel
theorem dX7_commonDivisor_35 : decode prog_1_method_54_code 35 = .ok (.lload 9, 2) := by decide +kernel
theorem dX7_commonDivisor_37 : decode prog_1_method_54_code 37 = .ok (.lstore 6, 2) := by decide +kernel
theorem dX7_commonDivisor_39 : decode prog_1_method_54_code 39 = .ok (.iinc 8 1, 3) := by decide +kernel
theorem dX7_commonDivisor_42 : decode prog_1_method_54_code 42 = .ok (.goto (-33), 3) := by decide +kernel
theorem dX7_commonDivisor_45 : decode prog_1_method_54_code 45 = .ok (.lload 4, 2) := by decide +kernel
theorem dX7_commonDivisor_47 : decode prog_1_method_54_code 47 = .ok (.lreturn, 1) := by decide +kernel
theorem dX7_mean_0 : decode prog_1_method_20_code 0 = .ok (.iload_n 1, 1) := by decide +kernel
theorem dX7_mean_1 : decode prog_1_method_20_code 1 = .ok (.invokestatic 229, 3) := by decide +kernel
theorem dX7_mean_4 : decode prog_1_method_20_code 4 = .ok (.ifCond .eq 17, 3) := by decide +kernel
theorem dX7_mean_7 : decode prog_1_method_20_code 7 = .ok (.iload_n 2, 1) := by decide +kernel
theorem dX7_mean_8 : decode prog_1_method_20_code 8 = .ok (.invokestatic 108, 3) := by decide +kernel
theorem dX7_mean_11 : decode prog_1_method_20_code 11 = .ok (.ifCond .eq 10, 3) := by decide +kernel
theorem dX7_mean_14 : decode prog_1_method_20_code 14 = .ok (.iload_n 3, 1) := by decide +kernel
theorem dX7_mean_15 : decode prog_1_method_20_code 15 = .ok (.invokestatic 208, 3) := by decide +kernel
theorem dX7_mean_18 : decode prog_1_method_20_code 18 = .ok (.ifCond .ne 7, 3) := by decide +kernel
theorem dX7_mean_21 : decode prog_1_method_20_code 21 = .ok (.ldc2_w 211, 3) := by decide +kernel
theorem dX7_mean_24 : decode prog_1_method_20_code 24 = .ok (.lreturn, 1) := by decide +kernel
theorem dX7_mean_25 : decode prog_1_method_20_code 25 = .ok (.aload_n 0, 1) := by decide +kernel
theorem dX7_mean_26 : decode prog_1_method_20_code 26 = .ok (.getfield 56, 3) := by decide +kernel
theorem dX7_mean_29 : decode prog_1_method_20_code 29 = .ok (.aload_n 0, 1) := by decide +kernel
theorem dX7_mean_30 : decode prog_1_method_20_code 30 = .ok (.getfield 12, 3) := by decide +kernel
theorem dX7_mean_33 : decode prog_1_method_20_code 33 = .ok (.iload_n 1, 1) := by decide +kernel
theorem dX7_mean_34 : decode prog_1_method_20_code 34 = .ok (.invokevirtual 213, 3) := by decide +kernel
theorem dX7_mean_37 : decode prog_1_method_20_code 37 = .ok (.aload_n 0, 1) := by decide +kernel
theorem dX7_mean_38 : decode prog_1_method_20_code 38 = .ok (.getfield 56, 3) := by decide +kernel
theorem dX7_mean_41 : decode prog_1_method_20_code 41 = .ok (.getfield 232, 3) := by decide +kernel
theorem dX7_mean_44 : decode prog_1_method_20_code 44 = .ok (.iload_n 2, 1) := by decide +kernel
theorem dX7_mean_45 : decode prog_1_method_20_code 45 = .ok (.laload, 1) := by decide +kernel
theorem dX7_mean_46 : decode prog_1_method_20_code 46 = .ok (.aload_n 0, 1) := by decide +kernel
theorem dX7_mean_47 : decode prog_1_method_20_code 47 = .ok (.getfield 56, 3) := by decide +kernel
theorem dX7_mean_50 : decode prog_1_method_20_code 50 = .ok (.getfield 221, 3) := by decide +kernel
theorem dX7_mean_53 : decode prog_1_method_20_code 53 = .ok (.iload_n 3, 1) := by decide +kernel
theorem dX7_mean_54 : decode prog_1_method_20_code 54 = .ok (.invokestatic 225, 3) := by decide +kernel
theorem dX7_mean_57 : decode prog_1_method_20_code 57 = .ok (.lreturn, 1) := by decide +kernel
theorem dX7_isMeanMinutes_0 : decode prog_1_method_50_code 0 = .ok (.iload_n 0, 1) := by decide +kernel
theorem dX7_isMeanMinutes_1 : decode prog_1_method_50_code 1 = .ok (.iconst 1, 1) := by decide +kernel
theorem dX7_isMeanMinutes_2 : decode prog_1_method_50_code 2 = .ok (.if_icmp .lt 13, 3) := by decide +kernel
theorem dX7_isMeanMinutes_5 : decode prog_1_method_50_code 5 = .ok (.iload_n 0, 1) := by decide +kernel
theorem dX7_isMeanMinutes_6 : decode prog_1_method_50_code 6 = .ok (.bipush 8, 2) := by decide +kernel
theorem dX7_isMeanMinutes_8 : decode prog_1_method_50_code 8 = .ok (.if_icmp .gt 7, 3) := by decide +kernel
theorem dX7_isMeanMinutes_11 : decode prog_1_method_50_code 11 = .ok (.iconst 1, 1) := by decide +kernel
theorem dX7_isMeanMinutes_12 : decode prog_1_method_50_code 12 = .ok (.goto 4, 3) := by decide +kernel
theorem dX7_isMeanMinutes_15 : decode prog_1_method_50_code 15 = .ok (.iconst 0, 1) := by decide +kernel
theorem dX7_isMeanMinutes_16 : decode prog_1_method_50_code 16 = .ok (.ireturn, 1) := by decide +kernel
theorem dX7_seat_0 : decode prog_1_method_21_code 0 = .ok (.aload_n 0, 1) := by decide +kernel
theorem dX7_seat_1 : decode prog_1_method_21_code 1 = .ok (.getfield 12, 3) := by decide +kernel
theorem dX7_seat_4 : decode prog_1_method_21_code 4 = .ok (.iload_n 1, 1) := by decide +kernel
theorem dX7_seat_5 : decode prog_1_method_21_code 5 = .ok (.invokevirtual 126, 3) := by decide +kernel
theorem dX7_seat_8 : decode prog_1_method_21_code 8 = .ok (.ifCond .eq 10, 3) := by decide +kernel
theorem dX7_seat_11 : decode prog_1_method_21_code 11 = .ok (.iload_n 2, 1) := by decide +kernel
theorem dX7_seat_12 : decode prog_1_method_21_code 12 = .ok (.invokestatic 229, 3) := by decide +kernel
theorem dX7_seat_15 : decode prog_1_method_21_code 15 = .ok (.ifCond .ne 6, 3) := by decide +kernel
theorem dX7_seat_18 : decode prog_1_method_21_code 18 = .ok (.bipush (-2), 2) := by decide +kernel
theorem dX7_seat_20 : decode prog_1_method_21_code 20 = .ok (.ireturn, 1) := by decide +kernel
theorem dX7_seat_21 : decode prog_1_method_21_code 21 = .ok (.aload_n 0, 1) := by decide +kernel
theorem dX7_seat_22 : decode prog_1_method_21_code 22 = .ok (.getfield 56, 3) := by decide +kernel
theorem dX7_seat_25 : decode prog_1_method_21_code 25 = .ok (.aload_n 0, 1) := by decide +kernel
theorem dX7_seat_26 : decode prog_1_method_21_code 26 = .ok (.getfield 12, 3) := by decide +kernel
theorem dX7_seat_29 : decode prog_1_method_21_code 29 = .ok (.iload_n 2, 1) := by decide +kernel
theorem dX7_seat_30 : decode prog_1_method_21_code 30 = .ok (.invokevirtual 213, 3) := by decide +kernel
theorem dX7_seat_33 : decode prog_1_method_21_code 33 = .ok (.iconst (-1), 1) := by decide +kernel
theorem dX7_seat_34 : decode prog_1_method_21_code 34 = .ok (.istore_n 3, 1) := by decide +kernel
theorem dX7_seat_35 : decode prog_1_method_21_code 35 = .ok (.iconst 0, 1) := by decide +kernel
theorem dX7_seat_36 : decode prog_1_method_21_code 36 = .ok (.istore 4, 2) := by decide +kernel
theorem dX7_seat_38 : decode prog_1_method_21_code 38 = .ok (.iload 4, 2) := by decide +kernel
theorem dX7_seat_40 : decode prog_1_method_21_code 40 = .ok (.bipush 8, 2) := by decide +kernel
theorem dX7_seat_42 : decode prog_1_method_21_code 42 = .ok (.if_icmp .ge 68, 3) := by decide +kernel
theorem dX7_seat_45 : decode prog_1_method_21_code 45 = .ok (.aload_n 0, 1) := by decide +kernel
theorem dX7_seat_46 : decode prog_1_method_21_code 46 = .ok (.getfield 12, 3) := by decide +kernel
theorem dX7_seat_49 : decode prog_1_method_21_code 49 = .ok (.iload 4, 2) := by decide +kernel
theorem dX7_seat_51 : decode prog_1_method_21_code 51 = .ok (.invokevirtual 235, 3) := by decide +kernel
theorem dX7_seat_54 : decode prog_1_method_21_code 54 = .ok (.ifCond .ne 50, 3) := by decide +kernel
theorem dX7_seat_57 : decode prog_1_method_21_code 57 = .ok (.aload_n 0, 1) := by decide +kernel
theorem dX7_seat_58 : decode prog_1_method_21_code 58 = .ok (.getfield 12, 3) := by decide +kernel
theorem dX7_seat_61 : decode prog_1_method_21_code 61 = .ok (.iload_n 1, 1) := by decide +kernel
theorem dX7_seat_62 : decode prog_1_method_21_code 62 = .ok (.iload 4, 2) := by decide +kernel
theorem dX7_seat_64 : decode prog_1_method_21_code 64 = .ok (.invokevirtual 133, 3) := by decide +kernel
theorem dX7_seat_67 : decode prog_1_method_21_code 67 = .ok (.ifCond .ne 6, 3) := by decide +kernel
theorem dX7_seat_70 : decode prog_1_method_21_code 70 = .ok (.goto 34, 3) := by decide +kernel
theorem dX7_seat_73 : decode prog_1_method_21_code 73 = .ok (.iload_n 3, 1) := by decide +kernel
theorem dX7_seat_74 : decode prog_1_method_21_code 74 = .ok (.iconst (-1), 1) := by decide +kernel
theorem dX7_seat_75 : decode prog_1_method_21_code 75 = .ok (.if_icmp .eq 26, 3) := by decide +kernel
theorem dX7_seat_78 : decode prog_1_method_21_code 78 = .ok (.aload_n 0, 1) := by decide +kernel
theorem dX7_seat_79 : decode prog_1_method_21_code 79 = .ok (.getfield 56, 3) := by decide +kernel
theorem dX7_seat_82 : decode prog_1_method_21_code 82 = .ok (.getfield 232, 3) := by decide +kernel
theorem dX7_seat_85 : decode prog_1_method_21_code 85 = .ok (.iload 4, 2) := by decide +kernel
theorem dX7_seat_87 : decode prog_1_method_21_code 87 = .ok (.laload, 1) := by decide +kernel
theorem dX7_seat_88 : decode prog_1_method_21_code 88 = .ok (.aload_n 0, 1) := by decide +kernel
theorem dX7_seat_89 : decode prog_1_method_21_code 89 = .ok (.getfield 56, 3) := by decide +kernel
theorem dX7_seat_92 : decode prog_1_method_21_code 92 = .ok (.getfield 232, 3) := by decide +kernel
theorem dX7_seat_95 : decode prog_1_method_21_code 95 = .ok (.iload_n 3, 1) := by decide +kernel
theorem dX7_seat_96 : decode prog_1_method_21_code 96 = .ok (.laload, 1) := by decide +kernel
theorem dX7_seat_97 : decode prog_1_method_21_code 97 = .ok (.lcmp, 1) := by decide +kernel
theorem dX7_seat_98 : decode prog_1_method_21_code 98 = .ok (.ifCond .ge 6, 3) := by decide +kernel
theorem dX7_seat_101 : decode prog_1_method_21_code 101 = .ok (.iload 4, 2) := by decide +kernel
theorem dX7_seat_103 : decode prog_1_method_21_code 103 = .ok (.istore_n 3, 1) := by decide +kernel
theorem dX7_seat_104 : decode prog_1_method_21_code 104 = .ok (.iinc 4 1, 3) := by decide +kernel
theorem dX7_seat_107 : decode prog_1_method_21_code 107 = .ok (.goto (-69), 3) := by decide +kernel
theorem dX7_seat_110 : decode prog_1_method_21_code 110 = .ok (.iload_n 3, 1) := by decide +kernel
theorem dX7_seat_111 : decode prog_1_method_21_code 111 = .ok (.ireturn, 1) := by decide +kernel
theorem dX7_gap_0 : decode prog_1_method_22_code 0 = .ok (.iload_n 1, 1) := by decide +kernel
theorem dX7_gap_1 : decode prog_1_method_22_code 1 = .ok (.invokestatic 229, 3) := by decide +kernel
theorem dX7_gap_4 : decode prog_1_method_22_code 4 = .ok (.ifCond .eq 14, 3) := by decide +kernel
theorem dX7_gap_7 : decode prog_1_method_22_code 7 = .ok (.aload_n 0, 1) := by decide +kernel
theorem dX7_gap_8 : decode prog_1_method_22_code 8 = .ok (.getfield 12, 3) := by decide +kernel
theorem dX7_gap_11 : decode prog_1_method_22_code 11 = .ok (.iload_n 2, 1) := by decide +kernel
theorem dX7_gap_12 : decode prog_1_method_22_code 12 = .ok (.invokevirtual 126, 3) := by decide +kernel
theorem dX7_gap_15 : decode prog_1_method_22_code 15 = .ok (.ifCond .ne 6, 3) := by decide +kernel
theorem dX7_gap_18 : decode prog_1_method_22_code 18 = .ok (.bipush (-2), 2) := by decide +kernel
theorem dX7_gap_20 : decode prog_1_method_22_code 20 = .ok (.ireturn, 1) := by decide +kernel
theorem dX7_gap_21 : decode prog_1_method_22_code 21 = .ok (.aload_n 0, 1) := by decide +kernel
theorem dX7_gap_22 : decode prog_1_method_22_code 22 = .ok (.getfield 56, 3) := by decide +kernel
theorem dX7_gap_25 : decode prog_1_method_22_code 25 = .ok (.aload_n 0, 1) := by decide +kernel
theorem dX7_gap_26 : decode prog_1_method_22_code 26 = .ok (.getfield 12, 3) := by decide +kernel
theorem dX7_gap_29 : decode prog_1_method_22_code 29 = .ok (.iload_n 1, 1) := by decide +kernel
theorem dX7_gap_30 : decode prog_1_method_22_code 30 = .ok (.invokevirtual 213, 3) := by decide +kernel
theorem dX7_gap_33 : decode prog_1_method_22_code 33 = .ok (.iconst 0, 1) := by decide +kernel
theorem dX7_gap_34 : decode prog_1_method_22_code 34 = .ok (.istore_n 3, 1) := by decide +kernel
theorem dX7_gap_35 : decode prog_1_method_22_code 35 = .ok (.iconst 0, 1) := by decide +kernel
theorem dX7_gap_36 : decode prog_1_method_22_code 36 = .ok (.istore 4, 2) := by decide +kernel
theorem dX7_gap_38 : decode prog_1_method_22_code 38 = .ok (.iload 4, 2) := by decide +kernel
theorem dX7_gap_40 : decode prog_1_method_22_code 40 = .ok (.aload_n 0, 1) := by decide +kernel
theorem dX7_gap_41 : decode prog_1_method_22_code 41 = .ok (.getfield 12, 3) := by decide +kernel
theorem dX7_gap_44 : decode prog_1_method_22_code 44 = .ok (.getfield 238, 3) := by decide +kernel
theorem dX7_gap_47 : decode prog_1_method_22_code 47 = .ok (.if_icmp .ge 19, 3) := by decide +kernel
theorem dX7_gap_50 : decode prog_1_method_22_code 50 = .ok (.iload_n 3, 1) := by decide +kernel
theorem dX7_gap_51 : decode prog_1_method_22_code 51 = .ok (.iconst 1, 1) := by decide +kernel
theorem dX7_gap_52 : decode prog_1_method_22_code 52 = .ok (.aload_n 0, 1) := by decide +kernel
theorem dX7_gap_53 : decode prog_1_method_22_code 53 = .ok (.iload_n 3, 1) := by decide +kernel
theorem dX7_gap_54 : decode prog_1_method_22_code 54 = .ok (.invokevirtual 239, 3) := by decide +kernel
theorem dX7_gap_57 : decode prog_1_method_22_code 57 = .ok (.ishl, 1) := by decide +kernel
theorem dX7_gap_58 : decode prog_1_method_22_code 58 = .ok (.ior, 1) := by decide +kernel
theorem dX7_gap_59 : decode prog_1_method_22_code 59 = .ok (.istore_n 3, 1) := by decide +kernel
theorem dX7_gap_60 : decode prog_1_method_22_code 60 = .ok (.iinc 4 1, 3) := by decide +kernel
theorem dX7_gap_63 : decode prog_1_method_22_code 63 = .ok (.goto (-25), 3) := by decide +kernel
theorem dX7_gap_66 : decode prog_1_method_22_code 66 = .ok (.iload_n 3, 1) := by decide +kernel
theorem dX7_gap_67 : decode prog_1_method_22_code 67 = .ok (.iload_n 2, 1) := by decide +kernel
theorem dX7_gap_68 : decode prog_1_method_22_code 68 = .ok (.invokestatic 242, 3) := by decide +kernel
theorem dX7_gap_71 : decode prog_1_method_22_code 71 = .ok (.ireturn, 1) := by decide +kernel
theorem dX7_leastOutside_0 : decode prog_1_method_23_code 0 = .ok (.iconst 0, 1) := by decide +kernel
theorem dX7_leastOutside_1 : decode prog_1_method_23_code 1 = .ok (.istore_n 2, 1) := by decide +kernel
theorem dX7_leastOutside_2 : decode prog_1_method_23_code 2 = .ok (.ldc2_w 247, 3) := by decide +kernel
theorem dX7_leastOutside_5 : decode prog_1_method_23_code 5 = .ok (.lstore_n 3, 1) := by decide +kernel
theorem dX7_leastOutside_6 : decode prog_1_method_23_code 6 = .ok (.iconst 0, 1) := by decide +kernel
theorem dX7_leastOutside_7 : decode prog_1_method_23_code 7 = .ok (.istore 5, 2) := by decide +kernel
theorem dX7_leastOutside_9 : decode prog_1_method_23_code 9 = .ok (.iload 5, 2) := by decide +kernel
theorem dX7_leastOutside_11 : decode prog_1_method_23_code 11 = .ok (.bipush 8, 2) := by decide +kernel
theorem dX7_leastOutside_13 : decode prog_1_method_23_code 13 = .ok (.if_icmp .ge 59, 3) := by decide +kernel
theorem dX7_leastOutside_16 : decode prog_1_method_23_code 16 = .ok (.aload_n 0, 1) := by decide +kernel
theorem dX7_leastOutside_17 : decode prog_1_method_23_code 17 = .ok (.getfield 12, 3) := by decide +kernel
theorem dX7_leastOutside_20 : decode prog_1_method_23_code 20 = .ok (.iload 5, 2) := by decide +kernel
theorem dX7_leastOutside_22 : decode prog_1_method_23_code 22 = .ok (.invokevirtual 235, 3) := by decide +kernel
theorem dX7_leastOutside_25 : decode prog_1_method_23_code 25 = .ok (.ifCond .eq 7, 3) := by decide +kernel
theorem dX7_leastOutside_28 : decode prog_1_method_23_code 28 = .ok (.lconst 0, 1) := by decide +kernel
theorem dX7_leastOutside_29 : decode prog_1_method_23_code 29 = .ok (.goto 13, 3) := by decide +kernel
theorem dX7_leastOutside_32 : decode prog_1_method_23_code 32 = .ok (.aload_n 0, 1) := by decide +kernel
theorem dX7_leastOutside_33 : decode prog_1_method_23_code 33 = .ok (.getfield 56, 3) := by decide +kernel
theorem dX7_leastOutside_36 : decode prog_1_method_23_code 36 = .ok (.getfield 232, 3) := by decide +kernel
theorem dX7_leastOutside_39 : decode prog_1_method_23_code 39 = .ok (.iload 5, 2) := by decide +kernel
theorem dX7_leastOutside_41 : decode prog_1_method_23_code 41 = .ok (.laload, 1) := by decide +kernel
theorem dX7_leastOutside_42 : decode prog_1_method_23_code 42 = .ok (.lstore 6, 2) := by decide +kernel
theorem dX7_leastOutside_44 : decode prog_1_method_23_code 44 = .ok (.iload_n 1, 1) := by decide +kernel
theorem dX7_leastOutside_45 : decode prog_1_method_23_code 45 = .ok (.iload 5, 2) := by decide +kernel
theorem dX7_leastOutside_47 : decode prog_1_method_23_code 47 = .ok (.ishr, 1) := by decide +kernel
theorem dX7_leastOutside_48 : decode prog_1_method_23_code 48 = .ok (.iconst 1, 1) := by decide +kernel
theorem dX7_leastOutside_49 : decode prog_1_method_23_code 49 = .ok (.iand, 1) := by decide +kernel
theorem dX7_leastOutside_50 : decode prog_1_method_23_code 50 = .ok (.ifCond .ne 16, 3) := by decide +kernel
theorem dX7_leastOutside_53 : decode prog_1_method_23_code 53 = .ok (.lload 6, 2) := by decide +kernel
theorem dX7_leastOutside_55 : decode prog_1_method_23_code 55 = .ok (.lload_n 3, 1) := by decide +kernel
theorem dX7_leastOutside_56 : decode prog_1_method_23_code 56 = .ok (.lcmp, 1) := by decide +kernel
theorem dX7_leastOutside_57 : decode prog_1_method_23_code 57 = .ok (.ifCond .ge 9, 3) := by decide +kernel
theorem dX7_leastOutside_60 : decode prog_1_method_23_code 60 = .ok (.iload 5, 2) := by decide +kernel
theorem dX7_leastOutside_62 : decode prog_1_method_23_code 62 = .ok (.istore_n 2, 1) := by decide +kernel
theorem dX7_leastOutside_63 : decode prog_1_method_23_code 63 = .ok (.lload 6, 2) := by decide +kernel
theorem dX7_leastOutside_65 : decode prog_1_method_23_code 65 = .ok (.lstore_n 3, 1) := by decide +kernel
theorem dX7_leastOutside_66 : decode prog_1_method_23_code 66 = .ok (.iinc 5 1, 3) := by decide +kernel
theorem dX7_leastOutside_69 : decode prog_1_method_23_code 69 = .ok (.goto (-60), 3) := by decide +kernel
theorem dX7_leastOutside_72 : decode prog_1_method_23_code 72 = .ok (.iload_n 2, 1) := by decide +kernel
theorem dX7_leastOutside_73 : decode prog_1_method_23_code 73 = .ok (.ireturn, 1) := by decide +kernel
theorem dX7_placeOfBit_0 : decode prog_1_method_24_code 0 = .ok (.iconst 0, 1) := by decide +kernel
theorem dX7_placeOfBit_1 : decode prog_1_method_24_code 1 = .ok (.istore_n 2, 1) := by decide +kernel
theorem dX7_placeOfBit_2 : decode prog_1_method_24_code 2 = .ok (.iconst 0, 1) := by decide +kernel
theorem dX7_placeOfBit_3 : decode prog_1_method_24_code 3 = .ok (.istore_n 3, 1) := by decide +kernel
theorem dX7_placeOfBit_4 : decode prog_1_method_24_code 4 = .ok (.iload_n 3, 1) := by decide +kernel
theorem dX7_placeOfBit_5 : decode prog_1_method_24_code 5 = .ok (.bipush 8, 2) := by decide +kernel
theorem dX7_placeOfBit_7 : decode prog_1_method_24_code 7 = .ok (.if_icmp .ge 30, 3) := by decide +kernel
theorem dX7_placeOfBit_10 : decode prog_1_method_24_code 10 = .ok (.iload_n 0, 1) := by decide +kernel
theorem dX7_placeOfBit_11 : decode prog_1_method_24_code 11 = .ok (.iload_n 3, 1) := by decide +kernel
theorem dX7_placeOfBit_12 : decode prog_1_method_24_code 12 = .ok (.ishr, 1) := by decide +kernel
theorem dX7_placeOfBit_13 : decode prog_1_method_24_code 13 = .ok (.iconst 1, 1) := by decide +kernel
theorem dX7_placeOfBit_14 : decode prog_1_method_24_code 14 = .ok (.iand, 1) := by decide +kernel
theorem dX7_placeOfBit_15 : decode prog_1_method_24_code 15 = .ok (.ifCond .ne 6, 3) := by decide +kernel
theorem dX7_placeOfBit_18 : decode prog_1_method_24_code 18 = .ok (.goto 13, 3) := by decide +kernel
theorem dX7_placeOfBit_21 : decode prog_1_method_24_code 21 = .ok (.iload_n 2, 1) := by decide +kernel
theorem dX7_placeOfBit_22 : decode prog_1_method_24_code 22 = .ok (.iload_n 1, 1) := by decide +kernel
theorem dX7_placeOfBit_23 : decode prog_1_method_24_code 23 = .ok (.if_icmp .ne 5, 3) := by decide +kernel
theorem dX7_placeOfBit_26 : decode prog_1_method_24_code 26 = .ok (.iload_n 3, 1) := by decide +kernel
theorem dX7_placeOfBit_27 : decode prog_1_method_24_code 27 = .ok (.ireturn, 1) := by decide +kernel
theorem dX7_placeOfBit_28 : decode prog_1_method_24_code 28 = .ok (.iinc 2 1, 3) := by decide +kernel
theorem dX7_placeOfBit_31 : decode prog_1_method_24_code 31 = .ok (.iinc 3 1, 3) := by decide +kernel
theorem dX7_placeOfBit_34 : decode prog_1_method_24_code 34 = .ok (.goto (-30), 3) := by decide +kernel
theorem dX7_placeOfBit_37 : decode prog_1_method_24_code 37 = .ok (.iconst (-1), 1) := by decide +kernel
theorem dX7_placeOfBit_38 : decode prog_1_method_24_code 38 = .ok (.ireturn, 1) := by decide +kernel
theorem dX7_stay_0 : decode prog_1_method_25_code 0 = .ok (.aload_n 0, 1) := by decide +kernel
theorem dX7_stay_1 : decode prog_1_method_25_code 1 = .ok (.iload_n 1, 1) := by decide +kernel
theorem dX7_stay_2 : decode prog_1_method_25_code 2 = .ok (.invokevirtual 185, 3) := by decide +kernel
theorem dX7_stay_5 : decode prog_1_method_25_code 5 = .ok (.istore_n 2, 1) := by decide +kernel
theorem dX7_stay_6 : decode prog_1_method_25_code 6 = .ok (.iload_n 2, 1) := by decide +kernel
theorem dX7_stay_7 : decode prog_1_method_25_code 7 = .ok (.ifCond .eq 5, 3) := by decide +kernel
theorem dX7_stay_10 : decode prog_1_method_25_code 10 = .ok (.iload_n 2, 1) := by decide +kernel
theorem dX7_stay_11 : decode prog_1_method_25_code 11 = .ok (.ireturn, 1) := by decide +kernel
theorem dX7_stay_12 : decode prog_1_method_25_code 12 = .ok (.aload_n 0, 1) := by decide +kernel
theorem dX7_stay_13 : decode prog_1_method_25_code 13 = .ok (.getfield 49, 3) := by decide +kernel
theorem dX7_stay_16 : decode prog_1_method_25_code 16 = .ok (.aload_n 0, 1) := by decide +kernel
theorem dX7_stay_17 : decode prog_1_method_25_code 17 = .ok (.getfield 42, 3) := by decide +kernel
theorem dX7_stay_20 : decode prog_1_method_25_code 20 = .ok (.iload_n 1, 1) := by decide +kernel
theorem dX7_stay_21 : decode prog_1_method_25_code 21 = .ok (.aaload, 1) := by decide +kernel
theorem dX7_stay_22 : decode prog_1_method_25_code 22 = .ok (.invokevirtual 172, 3) := by decide +kernel
theorem dX7_stay_25 : decode prog_1_method_25_code 25 = .ok (.iconst 0, 1) := by decide +kernel
theorem dX7_stay_26 : decode prog_1_method_25_code 26 = .ok (.istore_n 3, 1) := by decide +kernel
theorem dX7_stay_27 : decode prog_1_method_25_code 27 = .ok (.iconst 0, 1) := by decide +kernel
theorem dX7_stay_28 : decode prog_1_method_25_code 28 = .ok (.istore 4, 2) := by decide +kernel
theorem dX7_stay_30 : decode prog_1_method_25_code 30 = .ok (.iload 4, 2) := by decide +kernel
theorem dX7_stay_32 : decode prog_1_method_25_code 32 = .ok (.aload_n 0, 1) := by decide +kernel
theorem dX7_stay_33 : decode prog_1_method_25_code 33 = .ok (.getfield 12, 3) := by decide +kernel
theorem dX7_stay_36 : decode prog_1_method_25_code 36 = .ok (.getfield 238, 3) := by decide +kernel
theorem dX7_stay_39 : decode prog_1_method_25_code 39 = .ok (.if_icmp .ge 58, 3) := by decide +kernel
theorem dX7_stay_42 : decode prog_1_method_25_code 42 = .ok (.aload_n 0, 1) := by decide +kernel
theorem dX7_stay_43 : decode prog_1_method_25_code 43 = .ok (.getfield 12, 3) := by decide +kernel
theorem dX7_stay_46 : decode prog_1_method_25_code 46 = .ok (.getfield 137, 3) := by decide +kernel
theorem dX7_stay_49 : decode prog_1_method_25_code 49 = .ok (.iload 4, 2) := by decide +kernel
theorem dX7_stay_51 : decode prog_1_method_25_code 51 = .ok (.iaload, 1) := by decide +kernel
theorem dX7_stay_52 : decode prog_1_method_25_code 52 = .ok (.istore 5, 2) := by decide +kernel
theorem dX7_stay_54 : decode prog_1_method_25_code 54 = .ok (.aload_n 0, 1) := by decide +kernel
theorem dX7_stay_55 : decode prog_1_method_25_code 55 = .ok (.iload 4, 2) := by decide +kernel
theorem dX7_stay_57 : decode prog_1_method_25_code 57 = .ok (.iconst 0, 1) := by decide +kernel
theorem dX7_stay_58 : decode prog_1_method_25_code 58 = .ok (.iload 5, 2) := by decide +kernel
theorem dX7_stay_60 : decode prog_1_method_25_code 60 = .ok (.invokevirtual 249, 3) := by decide +kernel
theorem dX7_stay_63 : decode prog_1_method_25_code 63 = .ok (.aload_n 0, 1) := by decide +kernel
theorem dX7_stay_64 : decode prog_1_method_25_code 64 = .ok (.iload 4, 2) := by decide +kernel
theorem dX7_stay_66 : decode prog_1_method_25_code 66 = .ok (.aload_n 0, 1) := by decide +kernel
theorem dX7_stay_67 : decode prog_1_method_25_code 67 = .ok (.getfield 12, 3) := by decide +kernel
theorem dX7_stay_70 : decode prog_1_method_25_code 70 = .ok (.getfield 144, 3) := by decide +kernel
theorem dX7_stay_73 : decode prog_1_method_25_code 73 = .ok (.iload 4, 2) := by decide +kernel
theorem dX7_stay_75 : decode prog_1_method_25_code 75 = .ok (.iaload, 1) := by decide +kernel
theorem dX7_stay_76 : decode prog_1_method_25_code 76 = .ok (.iload 5, 2) := by decide +kernel
theorem dX7_stay_78 : decode prog_1_method_25_code 78 = .ok (.invokevirtual 249, 3) := by decide +kernel
theorem dX7_stay_81 : decode prog_1_method_25_code 81 = .ok (.if_icmp .ge 10, 3) := by decide +kernel
theorem dX7_stay_84 : decode prog_1_method_25_code 84 = .ok (.iload_n 3, 1) := by decide +kernel
theorem dX7_stay_85 : decode prog_1_method_25_code 85 = .ok (.iconst 1, 1) := by decide +kernel
theorem dX7_stay_86 : decode prog_1_method_25_code 86 = .ok (.iload 4, 2) := by decide +kernel
theorem dX7_stay_88 : decode prog_1_method_25_code 88 = .ok (.ishl, 1) := by decide +kernel
theorem dX7_stay_89 : decode prog_1_method_25_code 89 = .ok (.ior, 1) := by decide +kernel
theorem dX7_stay_90 : decode prog_1_method_25_code 90 = .ok (.istore_n 3, 1) := by decide +kernel
theorem dX7_stay_91 : decode prog_1_method_25_code 91 = .ok (.iinc 4 1, 3) := by decide +kernel
theorem dX7_stay_94 : decode prog_1_method_25_code 94 = .ok (.goto (-64), 3) := by decide +kernel
theorem dX7_stay_97 : decode prog_1_method_25_code 97 = .ok (.iload_n 3, 1) := by decide +kernel
theorem dX7_stay_98 : decode prog_1_method_25_code 98 = .ok (.ireturn, 1) := by decide +kernel
theorem dX7_costIf_0 : decode prog_1_method_29_code 0 = .ok (.aload_n 0, 1) := by decide +kernel
theorem dX7_costIf_1 : decode prog_1_method_29_code 1 = .ok (.getfield 49, 3) := by decide +kernel
theorem dX7_costIf_4 : decode prog_1_method_29_code 4 = .ok (.aload_n 0, 1) := by decide +kernel
theorem dX7_costIf_5 : decode prog_1_method_29_code 5 = .ok (.getfield 12, 3) := by decide +kernel
theorem dX7_costIf_8 : decode prog_1_method_29_code 8 = .ok (.invokevirtual 200, 3) := by decide +kernel
theorem dX7_costIf_11 : decode prog_1_method_29_code 11 = .ok (.aload_n 0, 1) := by decide +kernel
theorem dX7_costIf_12 : decode prog_1_method_29_code 12 = .ok (.getfield 49, 3) := by decide +kernel
theorem dX7_costIf_15 : decode prog_1_method_29_code 15 = .ok (.getfield 188, 3) := by decide +kernel
theorem dX7_costIf_18 : decode prog_1_method_29_code 18 = .ok (.getfield 144, 3) := by decide +kernel
theorem dX7_costIf_21 : decode prog_1_method_29_code 21 = .ok (.iload_n 1, 1) := by decide +kernel
theorem dX7_costIf_22 : decode prog_1_method_29_code 22 = .ok (.iload_n 2, 1) := by decide +kernel
theorem dX7_costIf_23 : decode prog_1_method_29_code 23 = .ok (.iastore, 1) := by decide +kernel
theorem dX7_costIf_24 : decode prog_1_method_29_code 24 = .ok (.aload_n 0, 1) := by decide +kernel
theorem dX7_costIf_25 : decode prog_1_method_29_code 25 = .ok (.getfield 49, 3) := by decide +kernel
theorem dX7_costIf_28 : decode prog_1_method_29_code 28 = .ok (.getfield 188, 3) := by decide +kernel
theorem dX7_costIf_31 : decode prog_1_method_29_code 31 = .ok (.getfield 137, 3) := by decide +kernel
theorem dX7_costIf_34 : decode prog_1_method_29_code 34 = .ok (.iload_n 1, 1) := by decide +kernel
theorem dX7_costIf_35 : decode prog_1_method_29_code 35 = .ok (.iload_n 3, 1) := by decide +kernel
theorem dX7_costIf_36 : decode prog_1_method_29_code 36 = .ok (.iastore, 1) := by decide +kernel
theorem dX7_costIf_37 : decode prog_1_method_29_code 37 = .ok (.aload_n 0, 1) := by decide +kernel
theorem dX7_costIf_38 : decode prog_1_method_29_code 38 = .ok (.getfield 49, 3) := by decide +kernel
theorem dX7_costIf_41 : decode prog_1_method_29_code 41 = .ok (.aload_n 0, 1) := by decide +kernel
theorem dX7_costIf_42 : decode prog_1_method_29_code 42 = .ok (.getfield 32, 3) := by decide +kernel
theorem dX7_costIf_45 : decode prog_1_method_29_code 45 = .ok (.aload_n 0, 1) := by decide +kernel
theorem dX7_costIf_46 : decode prog_1_method_29_code 46 = .ok (.getfield 12, 3) := by decide +kernel
theorem dX7_costIf_49 : decode prog_1_method_29_code 49 = .ok (.getfield 159, 3) := by decide +kernel
theorem dX7_costIf_52 : decode prog_1_method_29_code 52 = .ok (.aaload, 1) := by decide +kernel
theorem dX7_costIf_53 : decode prog_1_method_29_code 53 = .ok (.invokevirtual 204, 3) := by decide +kernel
theorem dX7_costIf_56 : decode prog_1_method_29_code 56 = .ok (.aload_n 0, 1) := by decide +kernel
theorem dX7_costIf_57 : decode prog_1_method_29_code 57 = .ok (.getfield 49, 3) := by decide +kernel
theorem dX7_costIf_60 : decode prog_1_method_29_code 60 = .ok (.getfield 256, 3) := by decide +kernel
theorem dX7_costIf_63 : decode prog_1_method_29_code 63 = .ok (.iload_n 1, 1) := by decide +kernel
theorem dX7_costIf_64 : decode prog_1_method_29_code 64 = .ok (.iaload, 1) := by decide +kernel
theorem dX7_costIf_65 : decode prog_1_method_29_code 65 = .ok (.ireturn, 1) := by decide +kernel
theorem dX7_eddies_0 : decode prog_1_method_26_code 0 = .ok (.aload_n 0, 1) := by decide +kernel
theorem dX7_eddies_1 : decode prog_1_method_26_code 1 = .ok (.iload_n 1, 1) := by decide +kernel
theorem dX7_eddies_2 : decode prog_1_method_26_code 2 = .ok (.invokevirtual 185, 3) := by decide +kernel
theorem dX7_eddies_5 : decode prog_1_method_26_code 5 = .ok (.ifCond .eq 6, 3) := by decide +kernel
theorem dX7_eddies_8 : decode prog_1_method_26_code 8 = .ok (.ldc 252, 2) := by decide +kernel
theorem dX7_eddies_10 : decode prog_1_method_26_code 10 = .ok (.ireturn, 1) := by decide +kernel
theorem dX7_eddies_11 : decode prog_1_method_26_code 11 = .ok (.aload_n 0, 1) := by decide +kernel
theorem dX7_eddies_12 : decode prog_1_method_26_code 12 = .ok (.getfield 49, 3) := by decide +kernel
theorem dX7_eddies_15 : decode prog_1_method_26_code 15 = .ok (.aload_n 0, 1) := by decide +kernel
theorem dX7_eddies_16 : decode prog_1_method_26_code 16 = .ok (.getfield 42, 3) := by decide +kernel
theorem dX7_eddies_19 : decode prog_1_method_26_code 19 = .ok (.iload_n 1, 1) := by decide +kernel
theorem dX7_eddies_20 : decode prog_1_method_26_code 20 = .ok (.aaload, 1) := by decide +kernel
theorem dX7_eddies_21 : decode prog_1_method_26_code 21 = .ok (.invokevirtual 172, 3) := by decide +kernel
theorem dX7_eddies_24 : decode prog_1_method_26_code 24 = .ok (.aload_n 0, 1) := by decide +kernel
theorem dX7_eddies_25 : decode prog_1_method_26_code 25 = .ok (.iconst 1, 1) := by decide +kernel
theorem dX7_eddies_26 : decode prog_1_method_26_code 26 = .ok (.invokevirtual 253, 3) := by decide +kernel
theorem dX7_eddies_29 : decode prog_1_method_26_code 29 = .ok (.aload_n 0, 1) := by decide +kernel
theorem dX7_eddies_30 : decode prog_1_method_26_code 30 = .ok (.iconst 0, 1) := by decide +kernel
theorem dX7_eddies_31 : decode prog_1_method_26_code 31 = .ok (.invokevirtual 253, 3) := by decide +kernel
theorem dX7_eddies_34 : decode prog_1_method_26_code 34 = .ok (.isub, 1) := by decide +kernel
theorem dX7_eddies_35 : decode prog_1_method_26_code 35 = .ok (.ireturn, 1) := by decide +kernel
theorem dX7_costIfEddy_0 : decode prog_1_method_27_code 0 = .ok (.aload_n 0, 1) := by decide +kernel
theorem dX7_costIfEddy_1 : decode prog_1_method_27_code 1 = .ok (.getfield 49, 3) := by decide +kernel
theorem dX7_costIfEddy_4 : decode prog_1_method_27_code 4 = .ok (.aload_n 0, 1) := by decide +kernel
theorem dX7_costIfEddy_5 : decode prog_1_method_27_code 5 = .ok (.getfield 12, 3) := by decide +kernel
theorem dX7_costIfEddy_8 : decode prog_1_method_27_code 8 = .ok (.invokevirtual 200, 3) := by decide +kernel
theorem dX7_costIfEddy_11 : decode prog_1_method_27_code 11 = .ok (.aload_n 0, 1) := by decide +kernel
theorem dX7_costIfEddy_12 : decode prog_1_method_27_code 12 = .ok (.getfield 49, 3) := by decide +kernel
theorem dX7_costIfEddy_15 : decode prog_1_method_27_code 15 = .ok (.getfield 188, 3) := by decide +kernel
theorem dX7_costIfEddy_18 : decode prog_1_method_27_code 18 = .ok (.iload_n 1, 1) := by decide +kernel
theorem dX7_costIfEddy_19 : decode prog_1_method_27_code 19 = .ok (.putfield 123, 3) := by decide +kernel
theorem dX7_costIfEddy_22 : decode prog_1_method_27_code 22 = .ok (.aload_n 0, 1) := by decide +kernel
theorem dX7_costIfEddy_23 : decode prog_1_method_27_code 23 = .ok (.getfield 49, 3) := by decide +kernel
theorem dX7_costIfEddy_26 : decode prog_1_method_27_code 26 = .ok (.aload_n 0, 1) := by decide +kernel
theorem dX7_costIfEddy_27 : decode prog_1_method_27_code 27 = .ok (.getfield 32, 3) := by decide +kernel
theorem dX7_costIfEddy_30 : decode prog_1_method_27_code 30 = .ok (.aload_n 0, 1) := by decide +kernel
theorem dX7_costIfEddy_31 : decode prog_1_method_27_code 31 = .ok (.getfield 12, 3) := by decide +kernel
theorem dX7_costIfEddy_34 : decode prog_1_method_27_code 34 = .ok (.getfield 159, 3) := by decide +kernel
theorem dX7_costIfEddy_37 : decode prog_1_method_27_code 37 = .ok (.aaload, 1) := by decide +kernel
theorem dX7_costIfEddy_38 : decode prog_1_method_27_code 38 = .ok (.invokevirtual 204, 3) := by decide +kernel
theorem dX7_costIfEddy_41 : decode prog_1_method_27_code 41 = .ok (.aload_n 0, 1) := by decide +kernel
theorem dX7_costIfEddy_42 : decode prog_1_method_27_code 42 = .ok (.getfield 49, 3) := by decide +kernel
theorem dX7_costIfEddy_45 : decode prog_1_method_27_code 45 = .ok (.invokevirtual 197, 3) := by decide +kernel
theorem dX7_costIfEddy_48 : decode prog_1_method_27_code 48 = .ok (.ireturn, 1) := by decide +kernel
theorem dX7_best_0 : decode prog_1_method_28_code 0 = .ok (.iload_n 1, 1) := by decide +kernel
theorem dX7_best_1 : decode prog_1_method_28_code 1 = .ok (.invokestatic 162, 3) := by decide +kernel
theorem dX7_best_4 : decode prog_1_method_28_code 4 = .ok (.ifCond .eq 23, 3) := by decide +kernel
theorem dX7_best_7 : decode prog_1_method_28_code 7 = .ok (.aload_n 0, 1) := by decide +kernel
theorem dX7_best_8 : decode prog_1_method_28_code 8 = .ok (.getfield 12, 3) := by decide +kernel
theorem dX7_best_11 : decode prog_1_method_28_code 11 = .ok (.iload_n 2, 1) := by decide +kernel
theorem dX7_best_12 : decode prog_1_method_28_code 12 = .ok (.invokevirtual 126, 3) := by decide +kernel
theorem dX7_best_15 : decode prog_1_method_28_code 15 = .ok (.ifCond .eq 12, 3) := by decide +kernel
theorem dX7_best_18 : decode prog_1_method_28_code 18 = .ok (.iload_n 3, 1) := by decide +kernel
theorem dX7_best_19 : decode prog_1_method_28_code 19 = .ok (.ifCond .lt 8, 3) := by decide +kernel
theorem dX7_best_22 : decode prog_1_method_28_code 22 = .ok (.iload_n 3, 1) := by decide +kernel
theorem dX7_best_23 : decode prog_1_method_28_code 23 = .ok (.iconst 1, 1) := by decide +kernel
theorem dX7_best_24 : decode prog_1_method_28_code 24 = .ok (.if_icmp .le 6, 3) := by decide +kernel
theorem dX7_best_27 : decode prog_1_method_28_code 27 = .ok (.bipush (-2), 2) := by decide +kernel
theorem dX7_best_29 : decode prog_1_method_28_code 29 = .ok (.ireturn, 1) := by decide +kernel
theorem dX7_best_30 : decode prog_1_method_28_code 30 = .ok (.aload_n 0, 1) := by decide +kernel
theorem dX7_best_31 : decode prog_1_method_28_code 31 = .ok (.getfield 42, 3) := by decide +kernel
theorem dX7_best_34 : decode prog_1_method_28_code 34 = .ok (.iload_n 1, 1) := by decide +kernel
theorem dX7_best_35 : decode prog_1_method_28_code 35 = .ok (.aaload, 1) := by decide +kernel
theorem dX7_best_36 : decode prog_1_method_28_code 36 = .ok (.invokevirtual 168, 3) := by decide +kernel
theorem dX7_best_39 : decode prog_1_method_28_code 39 = .ok (.ifCond .eq 6, 3) := by decide +kernel
theorem dX7_best_42 : decode prog_1_method_28_code 42 = .ok (.bipush (-11), 2) := by decide +kernel
theorem dX7_best_44 : decode prog_1_method_28_code 44 = .ok (.ireturn, 1) := by decide +kernel
theorem dX7_best_45 : decode prog_1_method_28_code 45 = .ok (.aload_n 0, 1) := by decide +kernel
theorem dX7_best_46 : decode prog_1_method_28_code 46 = .ok (.getfield 49, 3) := by decide +kernel
theorem dX7_best_49 : decode prog_1_method_28_code 49 = .ok (.aload_n 0, 1) := by decide +kernel
theorem dX7_best_50 : decode prog_1_method_28_code 50 = .ok (.getfield 42, 3) := by decide +kernel
theorem dX7_best_53 : decode prog_1_method_28_code 53 = .ok (.iload_n 1, 1) := by decide +kernel
theorem dX7_best_54 : decode prog_1_method_28_code 54 = .ok (.aaload, 1) := by decide +kernel
theorem dX7_best_55 : decode prog_1_method_28_code 55 = .ok (.invokevirtual 172, 3) := by decide +kernel
theorem dX7_best_58 : decode prog_1_method_28_code 58 = .ok (.iconst (-1), 1) := by decide +kernel
theorem dX7_best_59 : decode prog_1_method_28_code 59 = .ok (.istore 4, 2) := by decide +kernel
theorem dX7_best_61 : decode prog_1_method_28_code 61 = .ok (.iconst 0, 1) := by decide +kernel
theorem dX7_best_62 : decode prog_1_method_28_code 62 = .ok (.istore 5, 2) := by decide +kernel
theorem dX7_best_64 : decode prog_1_method_28_code 64 = .ok (.iconst 0, 1) := by decide +kernel
theorem dX7_best_65 : decode prog_1_method_28_code 65 = .ok (.istore 6, 2) := by decide +kernel
theorem dX7_best_67 : decode prog_1_method_28_code 67 = .ok (.iload 6, 2) := by decide +kernel
theorem dX7_best_69 : decode prog_1_method_28_code 69 = .ok (.bipush 8, 2) := by decide +kernel
theorem dX7_best_71 : decode prog_1_method_28_code 71 = .ok (.if_icmp .ge 64, 3) := by decide +kernel
theorem dX7_best_74 : decode prog_1_method_28_code 74 = .ok (.aload_n 0, 1) := by decide +kernel
theorem dX7_best_75 : decode prog_1_method_28_code 75 = .ok (.getfield 12, 3) := by decide +kernel
theorem dX7_best_78 : decode prog_1_method_28_code 78 = .ok (.iload_n 2, 1) := by decide +kernel
theorem dX7_best_79 : decode prog_1_method_28_code 79 = .ok (.iload 6, 2) := by decide +kernel
theorem dX7_best_81 : decode prog_1_method_28_code 81 = .ok (.invokevirtual 133, 3) := by decide +kernel
theorem dX7_best_84 : decode prog_1_method_28_code 84 = .ok (.ifCond .ne 6, 3) := by decide +kernel
theorem dX7_best_87 : decode prog_1_method_28_code 87 = .ok (.goto 42, 3) := by decide +kernel
theorem dX7_best_90 : decode prog_1_method_28_code 90 = .ok (.aload_n 0, 1) := by decide +kernel
theorem dX7_best_91 : decode prog_1_method_28_code 91 = .ok (.iload_n 2, 1) := by decide +kernel
theorem dX7_best_92 : decode prog_1_method_28_code 92 = .ok (.aload_n 0, 1) := by decide +kernel
theorem dX7_best_93 : decode prog_1_method_28_code 93 = .ok (.getfield 12, 3) := by decide +kernel
theorem dX7_best_96 : decode prog_1_method_28_code 96 = .ok (.getfield 144, 3) := by decide +kernel
theorem dX7_best_99 : decode prog_1_method_28_code 99 = .ok (.iload_n 2, 1) := by decide +kernel
theorem dX7_best_100 : decode prog_1_method_28_code 100 = .ok (.iaload, 1) := by decide +kernel
theorem dX7_best_101 : decode prog_1_method_28_code 101 = .ok (.iload 6, 2) := by decide +kernel
theorem dX7_best_103 : decode prog_1_method_28_code 103 = .ok (.invokevirtual 249, 3) := by decide +kernel
theorem dX7_best_106 : decode prog_1_method_28_code 106 = .ok (.istore 7, 2) := by decide +kernel
theorem dX7_best_108 : decode prog_1_method_28_code 108 = .ok (.iload 4, 2) := by decide +kernel
theorem dX7_best_110 : decode prog_1_method_28_code 110 = .ok (.iconst (-1), 1) := by decide +kernel
theorem dX7_best_111 : decode prog_1_method_28_code 111 = .ok (.if_icmp .eq 10, 3) := by decide +kernel
theorem dX7_best_114 : decode prog_1_method_28_code 114 = .ok (.iload 7, 2) := by decide +kernel
theorem dX7_best_116 : decode prog_1_method_28_code 116 = .ok (.iload 5, 2) := by decide +kernel
theorem dX7_best_118 : decode prog_1_method_28_code 118 = .ok (.if_icmp .ge 11, 3) := by decide +kernel
theorem dX7_best_121 : decode prog_1_method_28_code 121 = .ok (.iload 6, 2) := by decide +kernel
theorem dX7_best_123 : decode prog_1_method_28_code 123 = .ok (.istore 4, 2) := by decide +kernel
theorem dX7_best_125 : decode prog_1_method_28_code 125 = .ok (.iload 7, 2) := by decide +kernel
theorem dX7_best_127 : decode prog_1_method_28_code 127 = .ok (.istore 5, 2) := by decide +kernel
theorem dX7_best_129 : decode prog_1_method_28_code 129 = .ok (.iinc 6 1, 3) := by decide +kernel
theorem dX7_best_132 : decode prog_1_method_28_code 132 = .ok (.goto (-65), 3) := by decide +kernel
theorem dX7_best_135 : decode prog_1_method_28_code 135 = .ok (.iload_n 3, 1) := by decide +kernel
theorem dX7_best_136 : decode prog_1_method_28_code 136 = .ok (.ifCond .ne 8, 3) := by decide +kernel
theorem dX7_best_139 : decode prog_1_method_28_code 139 = .ok (.iload 4, 2) := by decide +kernel
theorem dX7_best_141 : decode prog_1_method_28_code 141 = .ok (.goto 5, 3) := by decide +kernel
theorem dX7_best_144 : decode prog_1_method_28_code 144 = .ok (.iload 5, 2) := by decide +kernel
theorem dX7_best_146 : decode prog_1_method_28_code 146 = .ok (.ireturn, 1) := by decide +kernel
theorem dX7_eyes_0 : decode prog_1_method_30_code 0 = .ok (.iload_n 1, 1) := by decide +kernel
theorem dX7_eyes_1 : decode prog_1_method_30_code 1 = .ok (.invokestatic 162, 3) := by decide +kernel
theorem dX7_eyes_4 : decode prog_1_method_30_code 4 = .ok (.ifCond .eq 12, 3) := by decide +kernel
theorem dX7_eyes_7 : decode prog_1_method_30_code 7 = .ok (.iload_n 2, 1) := by decide +kernel
theorem dX7_eyes_8 : decode prog_1_method_30_code 8 = .ok (.ifCond .lt 8, 3) := by decide +kernel
theorem dX7_eyes_11 : decode prog_1_method_30_code 11 = .ok (.iload_n 2, 1) := by decide +kernel
theorem dX7_eyes_12 : decode prog_1_method_30_code 12 = .ok (.iconst 5, 1) := by decide +kernel
theorem dX7_eyes_13 : decode prog_1_method_30_code 13 = .ok (.if_icmp .le 6, 3) := by decide +kernel
theorem dX7_eyes_16 : decode prog_1_method_30_code 16 = .ok (.bipush (-100), 2) := by decide +kernel
theorem dX7_eyes_18 : decode prog_1_method_30_code 18 = .ok (.ireturn, 1) := by decide +kernel
theorem dX7_eyes_19 : decode prog_1_method_30_code 19 = .ok (.iload_n 3, 1) := by decide +kernel
theorem dX7_eyes_20 : decode prog_1_method_30_code 20 = .ok (.bipush (-2), 2) := by decide +kernel
theorem dX7_eyes_22 : decode prog_1_method_30_code 22 = .ok (.if_icmp .lt 14, 3) := by decide +kernel
theorem dX7_eyes_25 : decode prog_1_method_30_code 25 = .ok (.iload_n 3, 1) := by decide +kernel
theorem dX7_eyes_26 : decode prog_1_method_30_code 26 = .ok (.aload_n 0, 1) := by decide +kernel
theorem dX7_eyes_27 : decode prog_1_method_30_code 27 = .ok (.getfield 12, 3) := by decide +kernel
theorem dX7_eyes_30 : decode prog_1_method_30_code 30 = .ok (.getfield 238, 3) := by decide +kernel
theorem dX7_eyes_33 : decode prog_1_method_30_code 33 = .ok (.if_icmp .lt 6, 3) := by decide +kernel
theorem dX7_eyes_36 : decode prog_1_method_30_code 36 = .ok (.bipush (-100), 2) := by decide +kernel
theorem dX7_eyes_38 : decode prog_1_method_30_code 38 = .ok (.ireturn, 1) := by decide +kernel
theorem dX7_eyes_39 : decode prog_1_method_30_code 39 = .ok (.aload_n 0, 1) := by decide +kernel
theorem dX7_eyes_40 : decode prog_1_method_30_code 40 = .ok (.getfield 42, 3) := by decide +kernel
theorem dX7_eyes_43 : decode prog_1_method_30_code 43 = .ok (.iload_n 1, 1) := by decide +kernel
theorem dX7_eyes_44 : decode prog_1_method_30_code 44 = .ok (.aaload, 1) := by decide +kernel
theorem dX7_eyes_45 : decode prog_1_method_30_code 45 = .ok (.astore 4, 2) := by decide +kernel
theorem dX7_eyes_47 : decode prog_1_method_30_code 47 = .ok (.aload 4, 2) := by decide +kernel
theorem dX7_eyes_49 : decode prog_1_method_30_code 49 = .ok (.invokevirtual 168, 3) := by decide +kernel
theorem dX7_eyes_52 : decode prog_1_method_30_code 52 = .ok (.ifCond .ne 18, 3) := by decide +kernel
theorem dX7_eyes_55 : decode prog_1_method_30_code 55 = .ok (.aload 4, 2) := by decide +kernel
theorem dX7_eyes_57 : decode prog_1_method_30_code 57 = .ok (.getfield 259, 3) := by decide +kernel
theorem dX7_eyes_60 : decode prog_1_method_30_code 60 = .ok (.aload_n 0, 1) := by decide +kernel
theorem dX7_eyes_61 : decode prog_1_method_30_code 61 = .ok (.getfield 12, 3) := by decide +kernel
theorem dX7_eyes_64 : decode prog_1_method_30_code 64 = .ok (.getfield 238, 3) := by decide +kernel
theorem dX7_eyes_67 : decode prog_1_method_30_code 67 = .ok (.if_icmp .eq 6, 3) := by decide +kernel
theorem dX7_eyes_70 : decode prog_1_method_30_code 70 = .ok (.bipush (-100), 2) := by decide +kernel
theorem dX7_eyes_72 : decode prog_1_method_30_code 72 = .ok (.ireturn, 1) := by decide +kernel
theorem dX7_eyes_73 : decode prog_1_method_30_code 73 = .ok (.iload_n 3, 1) := by decide +kernel
theorem dX7_eyes_74 : decode prog_1_method_30_code 74 = .ok (.iconst (-1), 1) := by decide +kernel
theorem dX7_eyes_75 : decode prog_1_method_30_code 75 = .ok (.if_icmp .ne 11, 3) := by decide +kernel
theorem dX7_eyes_78 : decode prog_1_method_30_code 78 = .ok (.aload_n 0, 1) := by decide +kernel
theorem dX7_eyes_79 : decode prog_1_method_30_code 79 = .ok (.aload 4, 2) := by decide +kernel
theorem dX7_eyes_81 : decode prog_1_method_30_code 81 = .ok (.iload_n 2, 1) := by decide +kernel
theorem dX7_eyes_82 : decode prog_1_method_30_code 82 = .ok (.invokevirtual 260, 3) := by decide +kernel
theorem dX7_eyes_85 : decode prog_1_method_30_code 85 = .ok (.ireturn, 1) := by decide +kernel
theorem dX7_eyes_86 : decode prog_1_method_30_code 86 = .ok (.iload_n 3, 1) := by decide +kernel
theorem dX7_eyes_87 : decode prog_1_method_30_code 87 = .ok (.bipush (-2), 2) := by decide +kernel
theorem dX7_eyes_89 : decode prog_1_method_30_code 89 = .ok (.if_icmp .ne 11, 3) := by decide +kernel
theorem dX7_eyes_92 : decode prog_1_method_30_code 92 = .ok (.aload_n 0, 1) := by decide +kernel
theorem dX7_eyes_93 : decode prog_1_method_30_code 93 = .ok (.aload 4, 2) := by decide +kernel
theorem dX7_eyes_95 : decode prog_1_method_30_code 95 = .ok (.iload_n 2, 1) := by decide +kernel
theorem dX7_eyes_96 : decode prog_1_method_30_code 96 = .ok (.invokevirtual 264, 3) := by decide +kernel
theorem dX7_eyes_99 : decode prog_1_method_30_code 99 = .ok (.ireturn, 1) := by decide +kernel
theorem dX7_eyes_100 : decode prog_1_method_30_code 100 = .ok (.aload_n 0, 1) := by decide +kernel
theorem dX7_eyes_101 : decode prog_1_method_30_code 101 = .ok (.aload 4, 2) := by decide +kernel
theorem dX7_eyes_103 : decode prog_1_method_30_code 103 = .ok (.iload_n 2, 1) := by decide +kernel
theorem dX7_eyes_104 : decode prog_1_method_30_code 104 = .ok (.iload_n 3, 1) := by decide +kernel
theorem dX7_eyes_105 : decode prog_1_method_30_code 105 = .ok (.invokevirtual 267, 3) := by decide +kernel
theorem dX7_eyes_108 : decode prog_1_method_30_code 108 = .ok (.ireturn, 1) := by decide +kernel
theorem dX7_rowsThatFit_0 : decode prog_1_method_31_code 0 = .ok (.iload_n 2, 1) := by decide +kernel
theorem dX7_rowsThatFit_1 : decode prog_1_method_31_code 1 = .ok (.invokestatic 271, 3) := by decide +kernel
theorem dX7_rowsThatFit_4 : decode prog_1_method_31_code 4 = .ok (.istore_n 3, 1) := by decide +kernel
theorem dX7_rowsThatFit_5 : decode prog_1_method_31_code 5 = .ok (.iconst 0, 1) := by decide +kernel
theorem dX7_rowsThatFit_6 : decode prog_1_method_31_code 6 = .ok (.istore 4, 2) := by decide +kernel
theorem dX7_rowsThatFit_8 : decode prog_1_method_31_code 8 = .ok (.iconst 0, 1) := by decide +kernel
theorem dX7_rowsThatFit_9 : decode prog_1_method_31_code 9 = .ok (.istore 5, 2) := by decide +kernel
theorem dX7_rowsThatFit_11 : decode prog_1_method_31_code 11 = .ok (.iload 5, 2) := by decide +kernel
theorem dX7_rowsThatFit_13 : decode prog_1_method_31_code 13 = .ok (.iload_n 3, 1) := by decide +kernel
theorem dX7_rowsThatFit_14 : decode prog_1_method_31_code 14 = .ok (.if_icmp .ge 25, 3) := by decide +kernel
theorem dX7_rowsThatFit_17 : decode prog_1_method_31_code 17 = .ok (.aload_n 0, 1) := by decide +kernel
theorem dX7_rowsThatFit_18 : decode prog_1_method_31_code 18 = .ok (.aload_n 1, 1) := by decide +kernel
theorem dX7_rowsThatFit_19 : decode prog_1_method_31_code 19 = .ok (.iload_n 2, 1) := by decide +kernel
theorem dX7_rowsThatFit_20 : decode prog_1_method_31_code 20 = .ok (.iload 5, 2) := by decide +kernel
theorem dX7_rowsThatFit_22 : decode prog_1_method_31_code 22 = .ok (.iconst (-1), 1) := by decide +kernel
theorem dX7_rowsThatFit_23 : decode prog_1_method_31_code 23 = .ok (.iconst (-1), 1) := by decide +kernel
theorem dX7_rowsThatFit_24 : decode prog_1_method_31_code 24 = .ok (.invokevirtual 274, 3) := by decide +kernel
theorem dX7_rowsThatFit_27 : decode prog_1_method_31_code 27 = .ok (.ifCond .eq 6, 3) := by decide +kernel
theorem dX7_rowsThatFit_30 : decode prog_1_method_31_code 30 = .ok (.iinc 4 1, 3) := by decide +kernel
theorem dX7_rowsThatFit_33 : decode prog_1_method_31_code 33 = .ok (.iinc 5 1, 3) := by decide +kernel
theorem dX7_rowsThatFit_36 : decode prog_1_method_31_code 36 = .ok (.goto (-25), 3) := by decide +kernel
theorem dX7_rowsThatFit_39 : decode prog_1_method_31_code 39 = .ok (.iload 4, 2) := by decide +kernel
theorem dX7_rowsThatFit_41 : decode prog_1_method_31_code 41 = .ok (.ireturn, 1) := by decide +kernel
theorem dX7_rowsOf_0 : decode prog_1_method_34_code 0 = .ok (.iconst 1, 1) := by decide +kernel
theorem dX7_rowsOf_1 : decode prog_1_method_34_code 1 = .ok (.istore_n 1, 1) := by decide +kernel
theorem dX7_rowsOf_2 : decode prog_1_method_34_code 2 = .ok (.iconst 0, 1) := by decide +kernel
theorem dX7_rowsOf_3 : decode prog_1_method_34_code 3 = .ok (.istore_n 2, 1) := by decide +kernel
theorem dX7_rowsOf_4 : decode prog_1_method_34_code 4 = .ok (.iload_n 2, 1) := by decide +kernel
theorem dX7_rowsOf_5 : decode prog_1_method_34_code 5 = .ok (.iload_n 0, 1) := by decide +kernel
theorem dX7_rowsOf_6 : decode prog_1_method_34_code 6 = .ok (.if_icmp .ge 13, 3) := by decide +kernel
theorem dX7_rowsOf_9 : decode prog_1_method_34_code 9 = .ok (.iload_n 1, 1) := by decide +kernel
theorem dX7_rowsOf_10 : decode prog_1_method_34_code 10 = .ok (.iconst 3, 1) := by decide +kernel
theorem dX7_rowsOf_11 : decode prog_1_method_34_code 11 = .ok (.imul, 1) := by decide +kernel
theorem dX7_rowsOf_12 : decode prog_1_method_34_code 12 = .ok (.istore_n 1, 1) := by decide +kernel
theorem dX7_rowsOf_13 : decode prog_1_method_34_code 13 = .ok (.iinc 2 1, 3) := by decide +kernel
theorem dX7_rowsOf_16 : decode prog_1_method_34_code 16 = .ok (.goto (-12), 3) := by decide +kernel
theorem dX7_rowsOf_19 : decode prog_1_method_34_code 19 = .ok (.iload_n 1, 1) := by decide +kernel
theorem dX7_rowsOf_20 : decode prog_1_method_34_code 20 = .ok (.ireturn, 1) := by decide +kernel
theorem dX7_fits_0 : decode prog_1_method_35_code 0 = .ok (.aload_n 0, 1) := by decide +kernel
theorem dX7_fits_1 : decode prog_1_method_35_code 1 = .ok (.getfield 49, 3) := by decide +kernel
theorem dX7_fits_4 : decode prog_1_method_35_code 4 = .ok (.iload_n 3, 1) := by decide +kernel
theorem dX7_fits_5 : decode prog_1_method_35_code 5 = .ok (.iload_n 2, 1) := by decide +kernel
theorem dX7_fits_6 : decode prog_1_method_35_code 6 = .ok (.invokevirtual 281, 3) := by decide +kernel
theorem dX7_fits_9 : decode prog_1_method_35_code 9 = .ok (.aload_n 0, 1) := by decide +kernel
theorem dX7_fits_10 : decode prog_1_method_35_code 10 = .ok (.getfield 49, 3) := by decide +kernel
theorem dX7_fits_13 : decode prog_1_method_35_code 13 = .ok (.aload_n 0, 1) := by decide +kernel
theorem dX7_fits_14 : decode prog_1_method_35_code 14 = .ok (.getfield 12, 3) := by decide +kernel
theorem dX7_fits_17 : decode prog_1_method_35_code 17 = .ok (.invokevirtual 200, 3) := by decide +kernel
theorem dX7_fits_20 : decode prog_1_method_35_code 20 = .ok (.aload_n 0, 1) := by decide +kernel
theorem dX7_fits_21 : decode prog_1_method_35_code 21 = .ok (.getfield 12, 3) := by decide +kernel
theorem dX7_fits_24 : decode prog_1_method_35_code 24 = .ok (.iload 4, 2) := by decide +kernel
theorem dX7_fits_26 : decode prog_1_method_35_code 26 = .ok (.invokevirtual 126, 3) := by decide +kernel
theorem dX7_fits_29 : decode prog_1_method_35_code 29 = .ok (.ifCond .eq 18, 3) := by decide +kernel
theorem dX7_fits_32 : decode prog_1_method_35_code 32 = .ok (.aload_n 0, 1) := by decide +kernel
theorem dX7_fits_33 : decode prog_1_method_35_code 33 = .ok (.getfield 49, 3) := by decide +kernel
theorem dX7_fits_36 : decode prog_1_method_35_code 36 = .ok (.getfield 188, 3) := by decide +kernel
theorem dX7_fits_39 : decode prog_1_method_35_code 39 = .ok (.getfield 144, 3) := by decide +kernel
theorem dX7_fits_42 : decode prog_1_method_35_code 42 = .ok (.iload 4, 2) := by decide +kernel
theorem dX7_fits_44 : decode prog_1_method_35_code 44 = .ok (.iload 5, 2) := by decide +kernel
theorem dX7_fits_46 : decode prog_1_method_35_code 46 = .ok (.iastore, 1) := by decide +kernel
theorem dX7_fits_47 : decode prog_1_method_35_code 47 = .ok (.aload_n 0, 1) := by decide +kernel
theorem dX7_fits_48 : decode prog_1_method_35_code 48 = .ok (.getfield 49, 3) := by decide +kernel
theorem dX7_fits_51 : decode prog_1_method_35_code 51 = .ok (.aconst_null, 1) := by decide +kernel
theorem dX7_fits_52 : decode prog_1_method_35_code 52 = .ok (.invokevirtual 204, 3) := by decide +kernel
theorem dX7_fits_55 : decode prog_1_method_35_code 55 = .ok (.iconst 0, 1) := by decide +kernel
theorem dX7_fits_56 : decode prog_1_method_35_code 56 = .ok (.istore 6, 2) := by decide +kernel
theorem dX7_fits_58 : decode prog_1_method_35_code 58 = .ok (.iload 6, 2) := by decide +kernel
theorem dX7_fits_60 : decode prog_1_method_35_code 60 = .ok (.aload_n 0, 1) := by decide +kernel
theorem dX7_fits_61 : decode prog_1_method_35_code 61 = .ok (.getfield 12, 3) := by decide +kernel
theorem dX7_fits_64 : decode prog_1_method_35_code 64 = .ok (.getfield 238, 3) := by decide +kernel
theorem dX7_fits_67 : decode prog_1_method_35_code 67 = .ok (.if_icmp .ge 30, 3) := by decide +kernel
theorem dX7_fits_70 : decode prog_1_method_35_code 70 = .ok (.aload_n 0, 1) := by decide +kernel
theorem dX7_fits_71 : decode prog_1_method_35_code 71 = .ok (.getfield 49, 3) := by decide +kernel
theorem dX7_fits_74 : decode prog_1_method_35_code 74 = .ok (.getfield 285, 3) := by decide +kernel
theorem dX7_fits_77 : decode prog_1_method_35_code 77 = .ok (.iload 6, 2) := by decide +kernel
theorem dX7_fits_79 : decode prog_1_method_35_code 79 = .ok (.iaload, 1) := by decide +kernel
theorem dX7_fits_80 : decode prog_1_method_35_code 80 = .ok (.aload_n 1, 1) := by decide +kernel
theorem dX7_fits_81 : decode prog_1_method_35_code 81 = .ok (.iload 6, 2) := by decide +kernel
theorem dX7_fits_83 : decode prog_1_method_35_code 83 = .ok (.invokevirtual 288, 3) := by decide +kernel
theorem dX7_fits_86 : decode prog_1_method_35_code 86 = .ok (.if_icmp .eq 5, 3) := by decide +kernel
theorem dX7_fits_89 : decode prog_1_method_35_code 89 = .ok (.iconst 0, 1) := by decide +kernel
theorem dX7_fits_90 : decode prog_1_method_35_code 90 = .ok (.ireturn, 1) := by decide +kernel
theorem dX7_fits_91 : decode prog_1_method_35_code 91 = .ok (.iinc 6 1, 3) := by decide +kernel
theorem dX7_fits_94 : decode prog_1_method_35_code 94 = .ok (.goto (-36), 3) := by decide +kernel
theorem dX7_fits_97 : decode prog_1_method_35_code 97 = .ok (.iconst 1, 1) := by decide +kernel
theorem dX7_fits_98 : decode prog_1_method_35_code 98 = .ok (.ireturn, 1) := by decide +kernel
theorem dX7_firstThatFits_0 : decode prog_1_method_32_code 0 = .ok (.iload_n 2, 1) := by decide +kernel
theorem dX7_firstThatFits_1 : decode prog_1_method_32_code 1 = .ok (.invokestatic 271, 3) := by decide +kernel
theorem dX7_firstThatFits_4 : decode prog_1_method_32_code 4 = .ok (.istore_n 3, 1) := by decide +kernel
theorem dX7_firstThatFits_5 : decode prog_1_method_32_code 5 = .ok (.iconst 0, 1) := by decide +kernel
theorem dX7_firstThatFits_6 : decode prog_1_method_32_code 6 = .ok (.istore 4, 2) := by decide +kernel
theorem dX7_firstThatFits_8 : decode prog_1_method_32_code 8 = .ok (.iload 4, 2) := by decide +kernel
theorem dX7_firstThatFits_10 : decode prog_1_method_32_code 10 = .ok (.iload_n 3, 1) := by decide +kernel
theorem dX7_firstThatFits_11 : decode prog_1_method_32_code 11 = .ok (.if_icmp .ge 30, 3) := by decide +kernel
theorem dX7_firstThatFits_14 : decode prog_1_method_32_code 14 = .ok (.aload_n 0, 1) := by decide +kernel
theorem dX7_firstThatFits_15 : decode prog_1_method_32_code 15 = .ok (.aload_n 1, 1) := by decide +kernel
theorem dX7_firstThatFits_16 : decode prog_1_method_32_code 16 = .ok (.iload_n 2, 1) := by decide +kernel
theorem dX7_firstThatFits_17 : decode prog_1_method_32_code 17 = .ok (.iload 4, 2) := by decide +kernel
theorem dX7_firstThatFits_19 : decode prog_1_method_32_code 19 = .ok (.iconst (-1), 1) := by decide +kernel
theorem dX7_firstThatFits_20 : decode prog_1_method_32_code 20 = .ok (.iconst (-1), 1) := by decide +kernel
theorem dX7_firstThatFits_21 : decode prog_1_method_32_code 21 = .ok (.invokevirtual 274, 3) := by decide +kernel
theorem dX7_firstThatFits_24 : decode prog_1_method_32_code 24 = .ok (.ifCond .eq 11, 3) := by decide +kernel
theorem dX7_firstThatFits_27 : decode prog_1_method_32_code 27 = .ok (.aload_n 0, 1) := by decide +kernel
theorem dX7_firstThatFits_28 : decode prog_1_method_32_code 28 = .ok (.getfield 49, 3) := by decide +kernel
theorem dX7_firstThatFits_31 : decode prog_1_method_32_code 31 = .ok (.invokevirtual 278, 3) := by decide +kernel
theorem dX7_firstThatFits_34 : decode prog_1_method_32_code 34 = .ok (.ireturn, 1) := by decide +kernel
theorem dX7_firstThatFits_35 : decode prog_1_method_32_code 35 = .ok (.iinc 4 1, 3) := by decide +kernel
theorem dX7_firstThatFits_38 : decode prog_1_method_32_code 38 = .ok (.goto (-30), 3) := by decide +kernel
theorem dX7_firstThatFits_41 : decode prog_1_method_32_code 41 = .ok (.iconst (-1), 1) := by decide +kernel
theorem dX7_firstThatFits_42 : decode prog_1_method_32_code 42 = .ok (.ireturn, 1) := by decide +kernel
theorem dX7_kindsThatFit_0 : decode prog_1_method_33_code 0 = .ok (.iload_n 2, 1) := by decide +kernel
theorem dX7_kindsThatFit_1 : decode prog_1_method_33_code 1 = .ok (.invokestatic 271, 3) := by decide +kernel
theorem dX7_kindsThatFit_4 : decode prog_1_method_33_code 4 = .ok (.istore 4, 2) := by decide +kernel
theorem dX7_kindsThatFit_6 : decode prog_1_method_33_code 6 = .ok (.iconst 0, 1) := by decide +kernel
theorem dX7_kindsThatFit_7 : decode prog_1_method_33_code 7 = .ok (.istore 5, 2) := by decide +kernel
theorem dX7_kindsThatFit_9 : decode prog_1_method_33_code 9 = .ok (.iconst 0, 1) := by decide +kernel
theorem dX7_kindsThatFit_10 : decode prog_1_method_33_code 10 = .ok (.istore 6, 2) := by decide +kernel
theorem dX7_kindsThatFit_12 : decode prog_1_method_33_code 12 = .ok (.iload 6, 2) := by decide +kernel
theorem dX7_kindsThatFit_14 : decode prog_1_method_33_code 14 = .ok (.bipush 6, 2) := by decide +kernel
theorem dX7_kindsThatFit_16 : decode prog_1_method_33_code 16 = .ok (.if_icmp .ge 58, 3) := by decide +kernel
theorem dX7_kindsThatFit_19 : decode prog_1_method_33_code 19 = .ok (.iconst 0, 1) := by decide +kernel
theorem dX7_kindsThatFit_20 : decode prog_1_method_33_code 20 = .ok (.istore 7, 2) := by decide +kernel
theorem dX7_kindsThatFit_22 : decode prog_1_method_33_code 22 = .ok (.iload 7, 2) := by decide +kernel
theorem dX7_kindsThatFit_24 : decode prog_1_method_33_code 24 = .ok (.iload 4, 2) := by decide +kernel
theorem dX7_kindsThatFit_26 : decode prog_1_method_33_code 26 = .ok (.if_icmp .ge 42, 3) := by decide +kernel
theorem dX7_kindsThatFit_29 : decode prog_1_method_33_code 29 = .ok (.iload 5, 2) := by decide +kernel
theorem dX7_kindsThatFit_31 : decode prog_1_method_33_code 31 = .ok (.iload 6, 2) := by decide +kernel
theorem dX7_kindsThatFit_33 : decode prog_1_method_33_code 33 = .ok (.ishr, 1) := by decide +kernel
theorem dX7_kindsThatFit_34 : decode prog_1_method_33_code 34 = .ok (.iconst 1, 1) := by decide +kernel
theorem dX7_kindsThatFit_35 : decode prog_1_method_33_code 35 = .ok (.iand, 1) := by decide +kernel
theorem dX7_kindsThatFit_36 : decode prog_1_method_33_code 36 = .ok (.ifCond .ne 32, 3) := by decide +kernel
theorem dX7_kindsThatFit_39 : decode prog_1_method_33_code 39 = .ok (.aload_n 0, 1) := by decide +kernel
theorem dX7_kindsThatFit_40 : decode prog_1_method_33_code 40 = .ok (.aload_n 1, 1) := by decide +kernel
theorem dX7_kindsThatFit_41 : decode prog_1_method_33_code 41 = .ok (.iload_n 2, 1) := by decide +kernel
theorem dX7_kindsThatFit_42 : decode prog_1_method_33_code 42 = .ok (.iload 7, 2) := by decide +kernel
theorem dX7_kindsThatFit_44 : decode prog_1_method_33_code 44 = .ok (.iload_n 3, 1) := by decide +kernel
theorem dX7_kindsThatFit_45 : decode prog_1_method_33_code 45 = .ok (.iload 6, 2) := by decide +kernel
theorem dX7_kindsThatFit_47 : decode prog_1_method_33_code 47 = .ok (.invokevirtual 274, 3) := by decide +kernel
theorem dX7_kindsThatFit_50 : decode prog_1_method_33_code 50 = .ok (.ifCond .eq 12, 3) := by decide +kernel
theorem dX7_kindsThatFit_53 : decode prog_1_method_33_code 53 = .ok (.iload 5, 2) := by decide +kernel
theorem dX7_kindsThatFit_55 : decode prog_1_method_33_code 55 = .ok (.iconst 1, 1) := by decide +kernel
theorem dX7_kindsThatFit_56 : decode prog_1_method_33_code 56 = .ok (.iload 6, 2) := by decide +kernel
theorem dX7_kindsThatFit_58 : decode prog_1_method_33_code 58 = .ok (.ishl, 1) := by decide +kernel
theorem dX7_kindsThatFit_59 : decode prog_1_method_33_code 59 = .ok (.ior, 1) := by decide +kernel
theorem dX7_kindsThatFit_60 : decode prog_1_method_33_code 60 = .ok (.istore 5, 2) := by decide +kernel
theorem dX7_kindsThatFit_62 : decode prog_1_method_33_code 62 = .ok (.iinc 7 1, 3) := by decide +kernel
theorem dX7_kindsThatFit_65 : decode prog_1_method_33_code 65 = .ok (.goto (-43), 3) := by decide +kernel
theorem dX7_kindsThatFit_68 : decode prog_1_method_33_code 68 = .ok (.iinc 6 1, 3) := by decide +kernel
theorem dX7_kindsThatFit_71 : decode prog_1_method_33_code 71 = .ok (.goto (-59), 3) := by decide +kernel
theorem dX7_kindsThatFit_74 : decode prog_1_method_33_code 74 = .ok (.iload 5, 2) := by decide +kernel
theorem dX7_kindsThatFit_76 : decode prog_1_method_33_code 76 = .ok (.ireturn, 1) := by decide +kernel
theorem dX7_film_0 : decode prog_1_method_36_code 0 = .ok (.iload_n 1, 1) := by decide +kernel
theorem dX7_film_1 : decode prog_1_method_36_code 1 = .ok (.invokestatic 162, 3) := by decide +kernel
theorem dX7_film_4 : decode prog_1_method_36_code 4 = .ok (.ifCond .eq 10, 3) := by decide +kernel
theorem dX7_film_7 : decode prog_1_method_36_code 7 = .ok (.iload_n 2, 1) := by decide +kernel
theorem dX7_film_8 : decode prog_1_method_36_code 8 = .ok (.invokestatic 162, 3) := by decide +kernel
theorem dX7_film_11 : decode prog_1_method_36_code 11 = .ok (.ifCond .ne 6, 3) := by decide +kernel
theorem dX7_film_14 : decode prog_1_method_36_code 14 = .ok (.bipush (-2), 2) := by decide +kernel
theorem dX7_film_16 : decode prog_1_method_36_code 16 = .ok (.ireturn, 1) := by decide +kernel
theorem dX7_film_17 : decode prog_1_method_36_code 17 = .ok (.aload_n 0, 1) := by decide +kernel
theorem dX7_film_18 : decode prog_1_method_36_code 18 = .ok (.getfield 42, 3) := by decide +kernel
theorem dX7_film_21 : decode prog_1_method_36_code 21 = .ok (.iload_n 2, 1) := by decide +kernel
theorem dX7_film_22 : decode prog_1_method_36_code 22 = .ok (.aaload, 1) := by decide +kernel
theorem dX7_film_23 : decode prog_1_method_36_code 23 = .ok (.invokevirtual 168, 3) := by decide +kernel
theorem dX7_film_26 : decode prog_1_method_36_code 26 = .ok (.ifCond .eq 6, 3) := by decide +kernel
theorem dX7_film_29 : decode prog_1_method_36_code 29 = .ok (.bipush (-11), 2) := by decide +kernel
theorem dX7_film_31 : decode prog_1_method_36_code 31 = .ok (.ireturn, 1) := by decide +kernel
theorem dX7_film_32 : decode prog_1_method_36_code 32 = .ok (.aload_n 0, 1) := by decide +kernel
theorem dX7_film_33 : decode prog_1_method_36_code 33 = .ok (.getfield 49, 3) := by decide +kernel
theorem dX7_film_36 : decode prog_1_method_36_code 36 = .ok (.aload_n 0, 1) := by decide +kernel
theorem dX7_film_37 : decode prog_1_method_36_code 37 = .ok (.getfield 42, 3) := by decide +kernel
theorem dX7_film_40 : decode prog_1_method_36_code 40 = .ok (.iload_n 2, 1) := by decide +kernel
theorem dX7_film_41 : decode prog_1_method_36_code 41 = .ok (.aaload, 1) := by decide +kernel
theorem dX7_film_42 : decode prog_1_method_36_code 42 = .ok (.invokevirtual 172, 3) := by decide +kernel
theorem dX7_film_45 : decode prog_1_method_36_code 45 = .ok (.aload_n 0, 1) := by decide +kernel
theorem dX7_film_46 : decode prog_1_method_36_code 46 = .ok (.getfield 49, 3) := by decide +kernel
theorem dX7_film_49 : decode prog_1_method_36_code 49 = .ok (.aload_n 0, 1) := by decide +kernel
theorem dX7_film_50 : decode prog_1_method_36_code 50 = .ok (.getfield 12, 3) := by decide +kernel
theorem dX7_film_53 : decode prog_1_method_36_code 53 = .ok (.invokevirtual 200, 3) := by decide +kernel
theorem dX7_film_56 : decode prog_1_method_36_code 56 = .ok (.aload_n 0, 1) := by decide +kernel
theorem dX7_film_57 : decode prog_1_method_36_code 57 = .ok (.getfield 49, 3) := by decide +kernel
theorem dX7_film_60 : decode prog_1_method_36_code 60 = .ok (.aconst_null, 1) := by decide +kernel
theorem dX7_film_61 : decode prog_1_method_36_code 61 = .ok (.invokevirtual 204, 3) := by decide +kernel
theorem dX7_film_64 : decode prog_1_method_36_code 64 = .ok (.aload_n 0, 1) := by decide +kernel
theorem dX7_film_65 : decode prog_1_method_36_code 65 = .ok (.getfield 42, 3) := by decide +kernel
theorem dX7_film_68 : decode prog_1_method_36_code 68 = .ok (.iload_n 1, 1) := by decide +kernel
theorem dX7_film_69 : decode prog_1_method_36_code 69 = .ok (.aaload, 1) := by decide +kernel
theorem dX7_film_70 : decode prog_1_method_36_code 70 = .ok (.iconst 0, 1) := by decide +kernel
theorem dX7_film_71 : decode prog_1_method_36_code 71 = .ok (.aload_n 0, 1) := by decide +kernel
theorem dX7_film_72 : decode prog_1_method_36_code 72 = .ok (.getfield 12, 3) := by decide +kernel
theorem dX7_film_75 : decode prog_1_method_36_code 75 = .ok (.getfield 238, 3) := by decide +kernel
theorem dX7_film_78 : decode prog_1_method_36_code 78 = .ok (.invokevirtual 291, 3) := by decide +kernel
theorem dX7_film_81 : decode prog_1_method_36_code 81 = .ok (.iconst 0, 1) := by decide +kernel
theorem dX7_film_82 : decode prog_1_method_36_code 82 = .ok (.istore_n 3, 1) := by decide +kernel
theorem dX7_film_83 : decode prog_1_method_36_code 83 = .ok (.iload_n 3, 1) := by decide +kernel
theorem dX7_film_84 : decode prog_1_method_36_code 84 = .ok (.aload_n 0, 1) := by decide +kernel
theorem dX7_film_85 : decode prog_1_method_36_code 85 = .ok (.getfield 12, 3) := by decide +kernel
theorem dX7_film_88 : decode prog_1_method_36_code 88 = .ok (.getfield 238, 3) := by decide +kernel
theorem dX7_film_91 : decode prog_1_method_36_code 91 = .ok (.if_icmp .ge 28, 3) := by decide +kernel
theorem dX7_film_94 : decode prog_1_method_36_code 94 = .ok (.aload_n 0, 1) := by decide +kernel
theorem dX7_film_95 : decode prog_1_method_36_code 95 = .ok (.getfield 42, 3) := by decide +kernel
theorem dX7_film_98 : decode prog_1_method_36_code 98 = .ok (.iload_n 1, 1) := by decide +kernel
theorem dX7_film_99 : decode prog_1_method_36_code 99 = .ok (.aaload, 1) := by decide +kernel
theorem dX7_film_100 : decode prog_1_method_36_code 100 = .ok (.iload_n 3, 1) := by decide +kernel
theorem dX7_film_101 : decode prog_1_method_36_code 101 = .ok (.aload_n 0, 1) := by decide +kernel
theorem dX7_film_102 : decode prog_1_method_36_code 102 = .ok (.getfield 49, 3) := by decide +kernel
theorem dX7_film_105 : decode prog_1_method_36_code 105 = .ok (.getfield 285, 3) := by decide +kernel
theorem dX7_film_108 : decode prog_1_method_36_code 108 = .ok (.iload_n 3, 1) := by decide +kernel
theorem dX7_film_109 : decode prog_1_method_36_code 109 = .ok (.iaload, 1) := by decide +kernel
theorem dX7_film_110 : decode prog_1_method_36_code 110 = .ok (.invokevirtual 294, 3) := by decide +kernel
theorem dX7_film_113 : decode prog_1_method_36_code 113 = .ok (.iinc 3 1, 3) := by decide +kernel
theorem dX7_film_116 : decode prog_1_method_36_code 116 = .ok (.goto (-33), 3) := by decide +kernel
theorem dX7_film_119 : decode prog_1_method_36_code 119 = .ok (.aload_n 0, 1) := by decide +kernel
theorem dX7_film_120 : decode prog_1_method_36_code 120 = .ok (.getfield 12, 3) := by decide +kernel
theorem dX7_film_123 : decode prog_1_method_36_code 123 = .ok (.getfield 238, 3) := by decide +kernel
theorem dX7_film_126 : decode prog_1_method_36_code 126 = .ok (.ireturn, 1) := by decide +kernel
theorem dX7_drawn_0 : decode prog_1_method_37_code 0 = .ok (.aload_n 0, 1) := by decide +kernel
theorem dX7_drawn_1 : decode prog_1_method_37_code 1 = .ok (.getfield 49, 3) := by decide +kernel
theorem dX7_drawn_4 : decode prog_1_method_37_code 4 = .ok (.iload_n 1, 1) := by decide +kernel
theorem dX7_drawn_5 : decode prog_1_method_37_code 5 = .ok (.aload_n 0, 1) := by decide +kernel
theorem dX7_drawn_6 : decode prog_1_method_37_code 6 = .ok (.getfield 12, 3) := by decide +kernel
theorem dX7_drawn_9 : decode prog_1_method_37_code 9 = .ok (.getfield 117, 3) := by decide +kernel
theorem dX7_drawn_12 : decode prog_1_method_37_code 12 = .ok (.aload_n 0, 1) := by decide +kernel
theorem dX7_drawn_13 : decode prog_1_method_37_code 13 = .ok (.getfield 12, 3) := by decide +kernel
theorem dX7_drawn_16 : decode prog_1_method_37_code 16 = .ok (.getfield 114, 3) := by decide +kernel
theorem dX7_drawn_19 : decode prog_1_method_37_code 19 = .ok (.invokevirtual 297, 3) := by decide +kernel
theorem dX7_drawn_22 : decode prog_1_method_37_code 22 = .ok (.aload_n 0, 1) := by decide +kernel
theorem dX7_drawn_23 : decode prog_1_method_37_code 23 = .ok (.invokevirtual 176, 3) := by decide +kernel
theorem dX7_drawn_26 : decode prog_1_method_37_code 26 = .ok (.aload_n 0, 1) := by decide +kernel
theorem dX7_drawn_27 : decode prog_1_method_37_code 27 = .ok (.getfield 49, 3) := by decide +kernel
theorem dX7_drawn_30 : decode prog_1_method_37_code 30 = .ok (.invokevirtual 197, 3) := by decide +kernel
theorem dX7_drawn_33 : decode prog_1_method_37_code 33 = .ok (.ireturn, 1) := by decide +kernel
theorem dX7_chance_0 : decode prog_1_method_38_code 0 = .ok (.iload_n 2, 1) := by decide +kernel
theorem dX7_chance_1 : decode prog_1_method_38_code 1 = .ok (.iconst 1, 1) := by decide +kernel
theorem dX7_chance_2 : decode prog_1_method_38_code 2 = .ok (.if_icmp .lt 16, 3) := by decide +kernel
theorem dX7_chance_5 : decode prog_1_method_38_code 5 = .ok (.iload_n 2, 1) := by decide +kernel
theorem dX7_chance_6 : decode prog_1_method_38_code 6 = .ok (.bipush 20, 2) := by decide +kernel
theorem dX7_chance_8 : decode prog_1_method_38_code 8 = .ok (.if_icmp .gt 10, 3) := by decide +kernel
theorem dX7_chance_11 : decode prog_1_method_38_code 11 = .ok (.iload_n 3, 1) := by decide +kernel
theorem dX7_chance_12 : decode prog_1_method_38_code 12 = .ok (.invokestatic 208, 3) := by decide +kernel
theorem dX7_chance_15 : decode prog_1_method_38_code 15 = .ok (.ifCond .ne 7, 3) := by decide +kernel
theorem dX7_chance_18 : decode prog_1_method_38_code 18 = .ok (.ldc2_w 211, 3) := by decide +kernel
theorem dX7_chance_21 : decode prog_1_method_38_code 21 = .ok (.lreturn, 1) := by decide +kernel
theorem dX7_chance_22 : decode prog_1_method_38_code 22 = .ok (.iconst 0, 1) := by decide +kernel
theorem dX7_chance_23 : decode prog_1_method_38_code 23 = .ok (.istore 4, 2) := by decide +kernel
theorem dX7_chance_25 : decode prog_1_method_38_code 25 = .ok (.iconst 0, 1) := by decide +kernel
theorem dX7_chance_26 : decode prog_1_method_38_code 26 = .ok (.istore 5, 2) := by decide +kernel
theorem dX7_chance_28 : decode prog_1_method_38_code 28 = .ok (.iload 5, 2) := by decide +kernel
theorem dX7_chance_30 : decode prog_1_method_38_code 30 = .ok (.iload_n 2, 1) := by decide +kernel
theorem dX7_chance_31 : decode prog_1_method_38_code 31 = .ok (.if_icmp .ge 66, 3) := by decide +kernel
theorem dX7_chance_34 : decode prog_1_method_38_code 34 = .ok (.aload_n 0, 1) := by decide +kernel
theorem dX7_chance_35 : decode prog_1_method_38_code 35 = .ok (.getfield 49, 3) := by decide +kernel
theorem dX7_chance_38 : decode prog_1_method_38_code 38 = .ok (.iload_n 1, 1) := by decide +kernel
theorem dX7_chance_39 : decode prog_1_method_38_code 39 = .ok (.iload 5, 2) := by decide +kernel
theorem dX7_chance_41 : decode prog_1_method_38_code 41 = .ok (.iadd, 1) := by decide +kernel
theorem dX7_chance_42 : decode prog_1_method_38_code 42 = .ok (.aload_n 0, 1) := by decide +kernel
theorem dX7_chance_43 : decode prog_1_method_38_code 43 = .ok (.getfield 12, 3) := by decide +kernel
theorem dX7_chance_46 : decode prog_1_method_38_code 46 = .ok (.getfield 117, 3) := by decide +kernel
theorem dX7_chance_49 : decode prog_1_method_38_code 49 = .ok (.aload_n 0, 1) := by decide +kernel
theorem dX7_chance_50 : decode prog_1_method_38_code 50 = .ok (.getfield 12, 3) := by decide +kernel
theorem dX7_chance_53 : decode prog_1_method_38_code 53 = .ok (.getfield 114, 3) := by decide +kernel
theorem dX7_chance_56 : decode prog_1_method_38_code 56 = .ok (.invokevirtual 297, 3) := by decide +kernel
theorem dX7_chance_59 : decode prog_1_method_38_code 59 = .ok (.aload_n 0, 1) := by decide +kernel
theorem dX7_chance_60 : decode prog_1_method_38_code 60 = .ok (.getfield 49, 3) := by decide +kernel
theorem dX7_chance_63 : decode prog_1_method_38_code 63 = .ok (.aload_n 0, 1) := by decide +kernel
theorem dX7_chance_64 : decode prog_1_method_38_code 64 = .ok (.getfield 12, 3) := by decide +kernel
theorem dX7_chance_67 : decode prog_1_method_38_code 67 = .ok (.invokevirtual 200, 3) := by decide +kernel
theorem dX7_chance_70 : decode prog_1_method_38_code 70 = .ok (.aload_n 0, 1) := by decide +kernel
theorem dX7_chance_71 : decode prog_1_method_38_code 71 = .ok (.getfield 49, 3) := by decide +kernel
theorem dX7_chance_74 : decode prog_1_method_38_code 74 = .ok (.aconst_null, 1) := by decide +kernel
theorem dX7_chance_75 : decode prog_1_method_38_code 75 = .ok (.invokevirtual 204, 3) := by decide +kernel
theorem dX7_chance_78 : decode prog_1_method_38_code 78 = .ok (.aload_n 0, 1) := by decide +kernel
theorem dX7_chance_79 : decode prog_1_method_38_code 79 = .ok (.getfield 49, 3) := by decide +kernel
theorem dX7_chance_82 : decode prog_1_method_38_code 82 = .ok (.invokevirtual 301, 3) := by decide +kernel
theorem dX7_chance_85 : decode prog_1_method_38_code 85 = .ok (.ifCond .ne 6, 3) := by decide +kernel
theorem dX7_chance_88 : decode prog_1_method_38_code 88 = .ok (.iinc 4 1, 3) := by decide +kernel
theorem dX7_chance_91 : decode prog_1_method_38_code 91 = .ok (.iinc 5 1, 3) := by decide +kernel
theorem dX7_chance_94 : decode prog_1_method_38_code 94 = .ok (.goto (-66), 3) := by decide +kernel
theorem dX7_chance_97 : decode prog_1_method_38_code 97 = .ok (.iload 4, 2) := by decide +kernel
theorem dX7_chance_99 : decode prog_1_method_38_code 99 = .ok (.i2l, 1) := by decide +kernel
theorem dX7_chance_100 : decode prog_1_method_38_code 100 = .ok (.iload_n 2, 1) := by decide +kernel
theorem dX7_chance_101 : decode prog_1_method_38_code 101 = .ok (.i2l, 1) := by decide +kernel
theorem dX7_chance_102 : decode prog_1_method_38_code 102 = .ok (.iload_n 3, 1) := by decide +kernel
theorem dX7_chance_103 : decode prog_1_method_38_code 103 = .ok (.invokestatic 225, 3) := by decide +kernel
theorem dX7_chance_106 : decode prog_1_method_38_code 106 = .ok (.lreturn, 1) := by decide +kernel
theorem dX7_image_0 : decode prog_1_method_39_code 0 = .ok (.aload_n 0, 1) := by decide +kernel
theorem dX7_image_1 : decode prog_1_method_39_code 1 = .ok (.getfield 16, 3) := by decide +kernel
theorem dX7_image_4 : decode prog_1_method_39_code 4 = .ok (.aload_n 0, 1) := by decide +kernel
theorem dX7_image_5 : decode prog_1_method_39_code 5 = .ok (.getfield 12, 3) := by decide +kernel
theorem dX7_image_8 : decode prog_1_method_39_code 8 = .ok (.invokevirtual 304, 3) := by decide +kernel
theorem dX7_image_11 : decode prog_1_method_39_code 11 = .ok (.aload_n 0, 1) := by decide +kernel
theorem dX7_image_12 : decode prog_1_method_39_code 12 = .ok (.iconst 1, 1) := by decide +kernel
theorem dX7_image_13 : decode prog_1_method_39_code 13 = .ok (.putfield 19, 3) := by decide +kernel
theorem dX7_image_16 : decode prog_1_method_39_code 16 = .ok (.aload_n 0, 1) := by decide +kernel
theorem dX7_image_17 : decode prog_1_method_39_code 17 = .ok (.getfield 12, 3) := by decide +kernel
theorem dX7_image_20 : decode prog_1_method_39_code 20 = .ok (.getfield 238, 3) := by decide +kernel
theorem dX7_image_23 : decode prog_1_method_39_code 23 = .ok (.ireturn, 1) := by decide +kernel
theorem dX7_back_0 : decode prog_1_method_40_code 0 = .ok (.aload_n 0, 1) := by decide +kernel
theorem dX7_back_1 : decode prog_1_method_40_code 1 = .ok (.getfield 19, 3) := by decide +kernel
theorem dX7_back_4 : decode prog_1_method_40_code 4 = .ok (.ifCond .ne 6, 3) := by decide +kernel
theorem dX7_back_7 : decode prog_1_method_40_code 7 = .ok (.bipush (-3), 2) := by decide +kernel
theorem dX7_back_9 : decode prog_1_method_40_code 9 = .ok (.ireturn, 1) := by decide +kernel
theorem dX7_back_10 : decode prog_1_method_40_code 10 = .ok (.aload_n 0, 1) := by decide +kernel
theorem dX7_back_11 : decode prog_1_method_40_code 11 = .ok (.getfield 12, 3) := by decide +kernel
theorem dX7_back_14 : decode prog_1_method_40_code 14 = .ok (.aload_n 0, 1) := by decide +kernel
theorem dX7_back_15 : decode prog_1_method_40_code 15 = .ok (.getfield 16, 3) := by decide +kernel
theorem dX7_back_18 : decode prog_1_method_40_code 18 = .ok (.invokevirtual 304, 3) := by decide +kernel
theorem dX7_back_21 : decode prog_1_method_40_code 21 = .ok (.aload_n 0, 1) := by decide +kernel
theorem dX7_back_22 : decode prog_1_method_40_code 22 = .ok (.getfield 12, 3) := by decide +kernel
theorem dX7_back_25 : decode prog_1_method_40_code 25 = .ok (.getfield 238, 3) := by decide +kernel
theorem dX7_back_28 : decode prog_1_method_40_code 28 = .ok (.ireturn, 1) := by decide +kernel
theorem dX7_count_0 : decode prog_1_method_41_code 0 = .ok (.iload_n 1, 1) := by decide +kernel
theorem dX7_count_1 : decode prog_1_method_41_code 1 = .ok (.tableswitch 120 0 8 #[51, 59, 67, 75, 83, 91, 99, 104, 112], 51) := by decide +kernel
theorem dX7_count_52 : decode prog_1_method_41_code 52 = .ok (.aload_n 0, 1) := by decide +kernel
theorem dX7_count_53 : decode prog_1_method_41_code 53 = .ok (.getfield 12, 3) := by decide +kernel
theorem dX7_count_56 : decode prog_1_method_41_code 56 = .ok (.getfield 238, 3) := by decide +kernel
theorem dX7_count_59 : decode prog_1_method_41_code 59 = .ok (.ireturn, 1) := by decide +kernel
theorem dX7_count_60 : decode prog_1_method_41_code 60 = .ok (.aload_n 0, 1) := by decide +kernel
theorem dX7_count_61 : decode prog_1_method_41_code 61 = .ok (.getfield 12, 3) := by decide +kernel
theorem dX7_count_64 : decode prog_1_method_41_code 64 = .ok (.getfield 111, 3) := by decide +kernel
theorem dX7_count_67 : decode prog_1_method_41_code 67 = .ok (.ireturn, 1) := by decide +kernel
theorem dX7_count_68 : decode prog_1_method_41_code 68 = .ok (.aload_n 0, 1) := by decide +kernel
theorem dX7_count_69 : decode prog_1_method_41_code 69 = .ok (.getfield 12, 3) := by decide +kernel
theorem dX7_count_72 : decode prog_1_method_41_code 72 = .ok (.getfield 117, 3) := by decide +kernel
theorem dX7_count_75 : decode prog_1_method_41_code 75 = .ok (.ireturn, 1) := by decide +kernel
theorem dX7_count_76 : decode prog_1_method_41_code 76 = .ok (.aload_n 0, 1) := by decide +kernel
theorem dX7_count_77 : decode prog_1_method_41_code 77 = .ok (.getfield 12, 3) := by decide +kernel
theorem dX7_count_80 : decode prog_1_method_41_code 80 = .ok (.getfield 114, 3) := by decide +kernel
theorem dX7_count_83 : decode prog_1_method_41_code 83 = .ok (.ireturn, 1) := by decide +kernel
theorem dX7_count_84 : decode prog_1_method_41_code 84 = .ok (.aload_n 0, 1) := by decide +kernel
theorem dX7_count_85 : decode prog_1_method_41_code 85 = .ok (.getfield 12, 3) := by decide +kernel
theorem dX7_count_88 : decode prog_1_method_41_code 88 = .ok (.getfield 120, 3) := by decide +kernel
theorem dX7_count_91 : decode prog_1_method_41_code 91 = .ok (.ireturn, 1) := by decide +kernel
theorem dX7_count_92 : decode prog_1_method_41_code 92 = .ok (.aload_n 0, 1) := by decide +kernel
theorem dX7_count_93 : decode prog_1_method_41_code 93 = .ok (.getfield 12, 3) := by decide +kernel
theorem dX7_count_96 : decode prog_1_method_41_code 96 = .ok (.getfield 123, 3) := by decide +kernel
theorem dX7_count_99 : decode prog_1_method_41_code 99 = .ok (.ireturn, 1) := by decide +kernel
theorem dX7_count_100 : decode prog_1_method_41_code 100 = .ok (.aload_n 0, 1) := by decide +kernel
theorem dX7_count_101 : decode prog_1_method_41_code 101 = .ok (.getfield 36, 3) := by decide +kernel
theorem dX7_count_104 : decode prog_1_method_41_code 104 = .ok (.ireturn, 1) := by decide +kernel
theorem dX7_count_105 : decode prog_1_method_41_code 105 = .ok (.aload_n 0, 1) := by decide +kernel
theorem dX7_count_106 : decode prog_1_method_41_code 106 = .ok (.getfield 26, 3) := by decide +kernel
theorem dX7_count_109 : decode prog_1_method_41_code 109 = .ok (.getfield 156, 3) := by decide +kernel
theorem dX7_count_112 : decode prog_1_method_41_code 112 = .ok (.ireturn, 1) := by decide +kernel
theorem dX7_count_113 : decode prog_1_method_41_code 113 = .ok (.aload_n 0, 1) := by decide +kernel
theorem dX7_count_114 : decode prog_1_method_41_code 114 = .ok (.getfield 12, 3) := by decide +kernel
theorem dX7_count_117 : decode prog_1_method_41_code 117 = .ok (.getfield 159, 3) := by decide +kernel
theorem dX7_count_120 : decode prog_1_method_41_code 120 = .ok (.ireturn, 1) := by decide +kernel
theorem dX7_count_121 : decode prog_1_method_41_code 121 = .ok (.bipush (-2), 2) := by decide +kernel
theorem dX7_count_123 : decode prog_1_method_41_code 123 = .ok (.ireturn, 1) := by decide +kernel
theorem dX7_sheet_0 : decode prog_1_method_42_code 0 = .ok (.iload_n 1, 1) := by decide +kernel
theorem dX7_sheet_1 : decode prog_1_method_42_code 1 = .ok (.invokestatic 162, 3) := by decide +kernel
theorem dX7_sheet_4 : decode prog_1_method_42_code 4 = .ok (.ifCond .eq 13, 3) := by decide +kernel
theorem dX7_sheet_7 : decode prog_1_method_42_code 7 = .ok (.iload_n 2, 1) := by decide +kernel
theorem dX7_sheet_8 : decode prog_1_method_42_code 8 = .ok (.iconst (-1), 1) := by decide +kernel
theorem dX7_sheet_9 : decode prog_1_method_42_code 9 = .ok (.if_icmp .lt 8, 3) := by decide +kernel
theorem dX7_sheet_12 : decode prog_1_method_42_code 12 = .ok (.iload_n 2, 1) := by decide +kernel
theorem dX7_sheet_13 : decode prog_1_method_42_code 13 = .ok (.iconst 3, 1) := by decide +kernel
theorem dX7_sheet_14 : decode prog_1_method_42_code 14 = .ok (.if_icmp .lt 6, 3) := by decide +kernel
theorem dX7_sheet_17 : decode prog_1_method_42_code 17 = .ok (.bipush (-2), 2) := by decide +kernel
theorem dX7_sheet_19 : decode prog_1_method_42_code 19 = .ok (.ireturn, 1) := by decide +kernel
theorem dX7_sheet_20 : decode prog_1_method_42_code 20 = .ok (.iload_n 2, 1) := by decide +kernel
theorem dX7_sheet_21 : decode prog_1_method_42_code 21 = .ok (.iconst (-1), 1) := by decide +kernel
theorem dX7_sheet_22 : decode prog_1_method_42_code 22 = .ok (.if_icmp .ne 16, 3) := by decide +kernel
theorem dX7_sheet_25 : decode prog_1_method_42_code 25 = .ok (.aload_n 0, 1) := by decide +kernel
theorem dX7_sheet_26 : decode prog_1_method_42_code 26 = .ok (.getfield 42, 3) := by decide +kernel
theorem dX7_sheet_29 : decode prog_1_method_42_code 29 = .ok (.iload_n 1, 1) := by decide +kernel
theorem dX7_sheet_30 : decode prog_1_method_42_code 30 = .ok (.aaload, 1) := by decide +kernel
theorem dX7_sheet_31 : decode prog_1_method_42_code 31 = .ok (.iconst (-1), 1) := by decide +kernel
theorem dX7_sheet_32 : decode prog_1_method_42_code 32 = .ok (.iconst 0, 1) := by decide +kernel
theorem dX7_sheet_33 : decode prog_1_method_42_code 33 = .ok (.invokevirtual 291, 3) := by decide +kernel
theorem dX7_sheet_36 : decode prog_1_method_42_code 36 = .ok (.iconst 1, 1) := by decide +kernel
theorem dX7_sheet_37 : decode prog_1_method_42_code 37 = .ok (.ireturn, 1) := by decide +kernel
theorem dX7_sheet_38 : decode prog_1_method_42_code 38 = .ok (.iload_n 3, 1) := by decide +kernel
theorem dX7_sheet_39 : decode prog_1_method_42_code 39 = .ok (.bipush 40, 2) := by decide +kernel
theorem dX7_sheet_41 : decode prog_1_method_42_code 41 = .ok (.if_icmp .le 6, 3) := by decide +kernel
theorem dX7_sheet_44 : decode prog_1_method_42_code 44 = .ok (.bipush (-2), 2) := by decide +kernel
theorem dX7_sheet_46 : decode prog_1_method_42_code 46 = .ok (.ireturn, 1) := by decide +kernel
theorem dX7_sheet_47 : decode prog_1_method_42_code 47 = .ok (.iload_n 3, 1) := by decide +kernel
theorem dX7_sheet_48 : decode prog_1_method_42_code 48 = .ok (.ifCond .ge 6, 3) := by decide +kernel
theorem dX7_sheet_51 : decode prog_1_method_42_code 51 = .ok (.bipush (-14), 2) := by decide +kernel
theorem dX7_sheet_53 : decode prog_1_method_42_code 53 = .ok (.ireturn, 1) := by decide +kernel
theorem dX7_sheet_54 : decode prog_1_method_42_code 54 = .ok (.aload_n 0, 1) := by decide +kernel
theorem dX7_sheet_55 : decode prog_1_method_42_code 55 = .ok (.getfield 42, 3) := by decide +kernel
theorem dX7_sheet_58 : decode prog_1_method_42_code 58 = .ok (.iload_n 1, 1) := by decide +kernel
theorem dX7_sheet_59 : decode prog_1_method_42_code 59 = .ok (.aaload, 1) := by decide +kernel
theorem dX7_sheet_60 : decode prog_1_method_42_code 60 = .ok (.iload_n 2, 1) := by decide +kernel
theorem dX7_sheet_61 : decode prog_1_method_42_code 61 = .ok (.iload_n 3, 1) := by decide +kernel
theorem dX7_sheet_62 : decode prog_1_method_42_code 62 = .ok (.invokevirtual 291, 3) := by decide +kernel
theorem dX7_sheet_65 : decode prog_1_method_42_code 65 = .ok (.iconst 1, 1) := by decide +kernel
theorem dX7_sheet_66 : decode prog_1_method_42_code 66 = .ok (.ireturn, 1) := by decide +kernel
theorem dX7_cell_0 : decode prog_1_method_43_code 0 = .ok (.aload_n 0, 1) := by decide +kernel
theorem dX7_cell_1 : decode prog_1_method_43_code 1 = .ok (.iload_n 1, 1) := by decide +kernel
theorem dX7_cell_2 : decode prog_1_method_43_code 2 = .ok (.invokevirtual 185, 3) := by decide +kernel
theorem dX7_cell_5 : decode prog_1_method_43_code 5 = .ok (.istore 4, 2) := by decide +kernel
theorem dX7_cell_7 : decode prog_1_method_43_code 7 = .ok (.iload 4, 2) := by decide +kernel
theorem dX7_cell_9 : decode prog_1_method_43_code 9 = .ok (.ifCond .eq 6, 3) := by decide +kernel
theorem dX7_cell_12 : decode prog_1_method_43_code 12 = .ok (.iload 4, 2) := by decide +kernel
theorem dX7_cell_14 : decode prog_1_method_43_code 14 = .ok (.ireturn, 1) := by decide +kernel
theorem dX7_cell_15 : decode prog_1_method_43_code 15 = .ok (.iload_n 2, 1) := by decide +kernel
theorem dX7_cell_16 : decode prog_1_method_43_code 16 = .ok (.ifCond .lt 16, 3) := by decide +kernel
theorem dX7_cell_19 : decode prog_1_method_43_code 19 = .ok (.iload_n 2, 1) := by decide +kernel
theorem dX7_cell_20 : decode prog_1_method_43_code 20 = .ok (.aload_n 0, 1) := by decide +kernel
theorem dX7_cell_21 : decode prog_1_method_43_code 21 = .ok (.getfield 42, 3) := by decide +kernel
theorem dX7_cell_24 : decode prog_1_method_43_code 24 = .ok (.iload_n 1, 1) := by decide +kernel
theorem dX7_cell_25 : decode prog_1_method_43_code 25 = .ok (.aaload, 1) := by decide +kernel
theorem dX7_cell_26 : decode prog_1_method_43_code 26 = .ok (.getfield 259, 3) := by decide +kernel
theorem dX7_cell_29 : decode prog_1_method_43_code 29 = .ok (.if_icmp .lt 6, 3) := by decide +kernel
theorem dX7_cell_32 : decode prog_1_method_43_code 32 = .ok (.bipush (-12), 2) := by decide +kernel
theorem dX7_cell_34 : decode prog_1_method_43_code 34 = .ok (.ireturn, 1) := by decide +kernel
theorem dX7_cell_35 : decode prog_1_method_43_code 35 = .ok (.aload_n 0, 1) := by decide +kernel
theorem dX7_cell_36 : decode prog_1_method_43_code 36 = .ok (.getfield 42, 3) := by decide +kernel
theorem dX7_cell_39 : decode prog_1_method_43_code 39 = .ok (.iload_n 1, 1) := by decide +kernel
theorem dX7_cell_40 : decode prog_1_method_43_code 40 = .ok (.aaload, 1) := by decide +kernel
theorem dX7_cell_41 : decode prog_1_method_43_code 41 = .ok (.iload_n 2, 1) := by decide +kernel
theorem dX7_cell_42 : decode prog_1_method_43_code 42 = .ok (.iload_n 3, 1) := by decide +kernel
theorem dX7_cell_43 : decode prog_1_method_43_code 43 = .ok (.invokevirtual 294, 3) := by decide +kernel
theorem dX7_cell_46 : decode prog_1_method_43_code 46 = .ok (.iconst 1, 1) := by decide +kernel
theorem dX7_cell_47 : decode prog_1_method_43_code 47 = .ok (.ireturn, 1) := by decide +kernel
theorem dX7_copy_0 : decode prog_1_method_44_code 0 = .ok (.iload_n 1, 1) := by decide +kernel
theorem dX7_copy_1 : decode prog_1_method_44_code 1 = .ok (.invokestatic 162, 3) := by decide +kernel
theorem dX7_copy_4 : decode prog_1_method_44_code 4 = .ok (.ifCond .eq 10, 3) := by decide +kernel
theorem dX7_copy_7 : decode prog_1_method_44_code 7 = .ok (.iload_n 3, 1) := by decide +kernel
theorem dX7_copy_8 : decode prog_1_method_44_code 8 = .ok (.invokestatic 162, 3) := by decide +kernel
theorem dX7_copy_11 : decode prog_1_method_44_code 11 = .ok (.ifCond .ne 6, 3) := by decide +kernel
theorem dX7_copy_14 : decode prog_1_method_44_code 14 = .ok (.bipush (-2), 2) := by decide +kernel
theorem dX7_copy_16 : decode prog_1_method_44_code 16 = .ok (.ireturn, 1) := by decide +kernel
theorem dX7_copy_17 : decode prog_1_method_44_code 17 = .ok (.aload_n 0, 1) := by decide +kernel
theorem dX7_copy_18 : decode prog_1_method_44_code 18 = .ok (.getfield 42, 3) := by decide +kernel
theorem dX7_copy_21 : decode prog_1_method_44_code 21 = .ok (.iload_n 1, 1) := by decide +kernel
theorem dX7_copy_22 : decode prog_1_method_44_code 22 = .ok (.aaload, 1) := by decide +kernel
theorem dX7_copy_23 : decode prog_1_method_44_code 23 = .ok (.astore 6, 2) := by decide +kernel
theorem dX7_copy_25 : decode prog_1_method_44_code 25 = .ok (.aload_n 0, 1) := by decide +kernel
theorem dX7_copy_26 : decode prog_1_method_44_code 26 = .ok (.getfield 42, 3) := by decide +kernel
theorem dX7_copy_29 : decode prog_1_method_44_code 29 = .ok (.iload_n 3, 1) := by decide +kernel
theorem dX7_copy_30 : decode prog_1_method_44_code 30 = .ok (.aaload, 1) := by decide +kernel
theorem dX7_copy_31 : decode prog_1_method_44_code 31 = .ok (.astore 7, 2) := by decide +kernel
theorem dX7_copy_33 : decode prog_1_method_44_code 33 = .ok (.aload 6, 2) := by decide +kernel
theorem dX7_copy_35 : decode prog_1_method_44_code 35 = .ok (.invokevirtual 168, 3) := by decide +kernel
theorem dX7_copy_38 : decode prog_1_method_44_code 38 = .ok (.ifCond .ne 11, 3) := by decide +kernel
theorem dX7_copy_41 : decode prog_1_method_44_code 41 = .ok (.aload 7, 2) := by decide +kernel
theorem dX7_copy_43 : decode prog_1_method_44_code 43 = .ok (.invokevirtual 168, 3) := by decide +kernel
theorem dX7_copy_46 : decode prog_1_method_44_code 46 = .ok (.ifCond .eq 6, 3) := by decide +kernel
theorem dX7_copy_49 : decode prog_1_method_44_code 49 = .ok (.bipush (-11), 2) := by decide +kernel
theorem dX7_copy_51 : decode prog_1_method_44_code 51 = .ok (.ireturn, 1) := by decide +kernel
theorem dX7_copy_52 : decode prog_1_method_44_code 52 = .ok (.aload 6, 2) := by decide +kernel
theorem dX7_copy_54 : decode prog_1_method_44_code 54 = .ok (.getfield 306, 3) := by decide +kernel
theorem dX7_copy_57 : decode prog_1_method_44_code 57 = .ok (.aload 7, 2) := by decide +kernel
theorem dX7_copy_59 : decode prog_1_method_44_code 59 = .ok (.getfield 306, 3) := by decide +kernel
theorem dX7_copy_62 : decode prog_1_method_44_code 62 = .ok (.if_icmp .eq 6, 3) := by decide +kernel
theorem dX7_copy_65 : decode prog_1_method_44_code 65 = .ok (.bipush (-13), 2) := by decide +kernel
theorem dX7_copy_67 : decode prog_1_method_44_code 67 = .ok (.ireturn, 1) := by decide +kernel
theorem dX7_copy_68 : decode prog_1_method_44_code 68 = .ok (.aload 6, 2) := by decide +kernel
theorem dX7_copy_70 : decode prog_1_method_44_code 70 = .ok (.iload_n 2, 1) := by decide +kernel
theorem dX7_copy_71 : decode prog_1_method_44_code 71 = .ok (.iload 5, 2) := by decide +kernel
theorem dX7_copy_73 : decode prog_1_method_44_code 73 = .ok (.invokevirtual 309, 3) := by decide +kernel
theorem dX7_copy_76 : decode prog_1_method_44_code 76 = .ok (.ifCond .eq 15, 3) := by decide +kernel
theorem dX7_copy_79 : decode prog_1_method_44_code 79 = .ok (.aload 7, 2) := by decide +kernel
theorem dX7_copy_81 : decode prog_1_method_44_code 81 = .ok (.iload 4, 2) := by decide +kernel
theorem dX7_copy_83 : decode prog_1_method_44_code 83 = .ok (.iload 5, 2) := by decide +kernel
theorem dX7_copy_85 : decode prog_1_method_44_code 85 = .ok (.invokevirtual 309, 3) := by decide +kernel
theorem dX7_copy_88 : decode prog_1_method_44_code 88 = .ok (.ifCond .ne 6, 3) := by decide +kernel
theorem dX7_copy_91 : decode prog_1_method_44_code 91 = .ok (.bipush (-12), 2) := by decide +kernel
theorem dX7_copy_93 : decode prog_1_method_44_code 93 = .ok (.ireturn, 1) := by decide +kernel
theorem dX7_copy_94 : decode prog_1_method_44_code 94 = .ok (.aload 6, 2) := by decide +kernel
theorem dX7_copy_96 : decode prog_1_method_44_code 96 = .ok (.getfield 312, 3) := by decide +kernel
theorem dX7_copy_99 : decode prog_1_method_44_code 99 = .ok (.iload_n 2, 1) := by decide +kernel
theorem dX7_copy_100 : decode prog_1_method_44_code 100 = .ok (.aload 7, 2) := by decide +kernel
theorem dX7_copy_102 : decode prog_1_method_44_code 102 = .ok (.getfield 312, 3) := by decide +kernel
theorem dX7_copy_105 : decode prog_1_method_44_code 105 = .ok (.iload 4, 2) := by decide +kernel
theorem dX7_copy_107 : decode prog_1_method_44_code 107 = .ok (.iload 5, 2) := by decide +kernel
theorem dX7_copy_109 : decode prog_1_method_44_code 109 = .ok (.invokestatic 191, 3) := by decide +kernel
theorem dX7_copy_112 : decode prog_1_method_44_code 112 = .ok (.iload 5, 2) := by decide +kernel
theorem dX7_copy_114 : decode prog_1_method_44_code 114 = .ok (.ireturn, 1) := by decide +kernel
theorem dX7_sitters_0 : decode prog_1_method_45_code 0 = .ok (.iload_n 1, 1) := by decide +kernel
theorem dX7_sitters_1 : decode prog_1_method_45_code 1 = .ok (.invokestatic 162, 3) := by decide +kernel
theorem dX7_sitters_4 : decode prog_1_method_45_code 4 = .ok (.ifCond .eq 23, 3) := by decide +kernel
theorem dX7_sitters_7 : decode prog_1_method_45_code 7 = .ok (.iload_n 2, 1) := by decide +kernel
theorem dX7_sitters_8 : decode prog_1_method_45_code 8 = .ok (.ifCond .lt 19, 3) := by decide +kernel
theorem dX7_sitters_11 : decode prog_1_method_45_code 11 = .ok (.iload_n 2, 1) := by decide +kernel
theorem dX7_sitters_12 : decode prog_1_method_45_code 12 = .ok (.iconst 3, 1) := by decide +kernel
theorem dX7_sitters_13 : decode prog_1_method_45_code 13 = .ok (.if_icmp .ge 14, 3) := by decide +kernel
theorem dX7_sitters_16 : decode prog_1_method_45_code 16 = .ok (.iload 4, 2) := by decide +kernel
theorem dX7_sitters_18 : decode prog_1_method_45_code 18 = .ok (.ifCond .lt 9, 3) := by decide +kernel
theorem dX7_sitters_21 : decode prog_1_method_45_code 21 = .ok (.iload 4, 2) := by decide +kernel
theorem dX7_sitters_23 : decode prog_1_method_45_code 23 = .ok (.iconst 5, 1) := by decide +kernel
theorem dX7_sitters_24 : decode prog_1_method_45_code 24 = .ok (.if_icmp .le 6, 3) := by decide +kernel
theorem dX7_sitters_27 : decode prog_1_method_45_code 27 = .ok (.bipush (-2), 2) := by decide +kernel
theorem dX7_sitters_29 : decode prog_1_method_45_code 29 = .ok (.ireturn, 1) := by decide +kernel
theorem dX7_sitters_30 : decode prog_1_method_45_code 30 = .ok (.aload_n 0, 1) := by decide +kernel
theorem dX7_sitters_31 : decode prog_1_method_45_code 31 = .ok (.getfield 42, 3) := by decide +kernel
theorem dX7_sitters_34 : decode prog_1_method_45_code 34 = .ok (.iload_n 1, 1) := by decide +kernel
theorem dX7_sitters_35 : decode prog_1_method_45_code 35 = .ok (.aaload, 1) := by decide +kernel
theorem dX7_sitters_36 : decode prog_1_method_45_code 36 = .ok (.astore 5, 2) := by decide +kernel
theorem dX7_sitters_38 : decode prog_1_method_45_code 38 = .ok (.aload 5, 2) := by decide +kernel
theorem dX7_sitters_40 : decode prog_1_method_45_code 40 = .ok (.invokevirtual 168, 3) := by decide +kernel
theorem dX7_sitters_43 : decode prog_1_method_45_code 43 = .ok (.ifCond .eq 6, 3) := by decide +kernel
theorem dX7_sitters_46 : decode prog_1_method_45_code 46 = .ok (.bipush (-11), 2) := by decide +kernel
theorem dX7_sitters_48 : decode prog_1_method_45_code 48 = .ok (.ireturn, 1) := by decide +kernel
theorem dX7_sitters_49 : decode prog_1_method_45_code 49 = .ok (.aload 5, 2) := by decide +kernel
theorem dX7_sitters_51 : decode prog_1_method_45_code 51 = .ok (.getfield 306, 3) := by decide +kernel
theorem dX7_sitters_54 : decode prog_1_method_45_code 54 = .ok (.iload_n 2, 1) := by decide +kernel
theorem dX7_sitters_55 : decode prog_1_method_45_code 55 = .ok (.if_icmp .eq 6, 3) := by decide +kernel
theorem dX7_sitters_58 : decode prog_1_method_45_code 58 = .ok (.bipush (-13), 2) := by decide +kernel
theorem dX7_sitters_60 : decode prog_1_method_45_code 60 = .ok (.ireturn, 1) := by decide +kernel
theorem dX7_sitters_61 : decode prog_1_method_45_code 61 = .ok (.iconst 0, 1) := by decide +kernel
theorem dX7_sitters_62 : decode prog_1_method_45_code 62 = .ok (.istore 6, 2) := by decide +kernel
theorem dX7_sitters_64 : decode prog_1_method_45_code 64 = .ok (.iload_n 3, 1) := by decide +kernel
theorem dX7_sitters_65 : decode prog_1_method_45_code 65 = .ok (.istore 7, 2) := by decide +kernel
theorem dX7_sitters_67 : decode prog_1_method_45_code 67 = .ok (.iconst 0, 1) := by decide +kernel
theorem dX7_sitters_68 : decode prog_1_method_45_code 68 = .ok (.istore 8, 2) := by decide +kernel
theorem dX7_sitters_70 : decode prog_1_method_45_code 70 = .ok (.iload 8, 2) := by decide +kernel
theorem dX7_sitters_72 : decode prog_1_method_45_code 72 = .ok (.iload 4, 2) := by decide +kernel
theorem dX7_sitters_74 : decode prog_1_method_45_code 74 = .ok (.if_icmp .ge 64, 3) := by decide +kernel
theorem dX7_sitters_77 : decode prog_1_method_45_code 77 = .ok (.aload 5, 2) := by decide +kernel
theorem dX7_sitters_79 : decode prog_1_method_45_code 79 = .ok (.iload 7, 2) := by decide +kernel
theorem dX7_sitters_81 : decode prog_1_method_45_code 81 = .ok (.iconst 3, 1) := by decide +kernel
theorem dX7_sitters_82 : decode prog_1_method_45_code 82 = .ok (.invokevirtual 309, 3) := by decide +kernel
theorem dX7_sitters_85 : decode prog_1_method_45_code 85 = .ok (.ifCond .ne 6, 3) := by decide +kernel
theorem dX7_sitters_88 : decode prog_1_method_45_code 88 = .ok (.bipush (-12), 2) := by decide +kernel
theorem dX7_sitters_90 : decode prog_1_method_45_code 90 = .ok (.ireturn, 1) := by decide +kernel
theorem dX7_sitters_91 : decode prog_1_method_45_code 91 = .ok (.aload_n 0, 1) := by decide +kernel
theorem dX7_sitters_92 : decode prog_1_method_45_code 92 = .ok (.getfield 12, 3) := by decide +kernel
theorem dX7_sitters_95 : decode prog_1_method_45_code 95 = .ok (.aload 5, 2) := by decide +kernel
theorem dX7_sitters_97 : decode prog_1_method_45_code 97 = .ok (.iload 7, 2) := by decide +kernel
theorem dX7_sitters_99 : decode prog_1_method_45_code 99 = .ok (.invokevirtual 288, 3) := by decide +kernel
theorem dX7_sitters_102 : decode prog_1_method_45_code 102 = .ok (.aload 5, 2) := by decide +kernel
theorem dX7_sitters_104 : decode prog_1_method_45_code 104 = .ok (.iload 7, 2) := by decide +kernel
theorem dX7_sitters_106 : decode prog_1_method_45_code 106 = .ok (.iconst 1, 1) := by decide +kernel
theorem dX7_sitters_107 : decode prog_1_method_45_code 107 = .ok (.iadd, 1) := by decide +kernel
theorem dX7_sitters_108 : decode prog_1_method_45_code 108 = .ok (.invokevirtual 288, 3) := by decide +kernel
theorem dX7_sitters_111 : decode prog_1_method_45_code 111 = .ok (.aload 5, 2) := by decide +kernel
theorem dX7_sitters_113 : decode prog_1_method_45_code 113 = .ok (.iload 7, 2) := by decide +kernel
theorem dX7_sitters_115 : decode prog_1_method_45_code 115 = .ok (.iconst 2, 1) := by decide +kernel
theorem dX7_sitters_116 : decode prog_1_method_45_code 116 = .ok (.iadd, 1) := by decide +kernel
theorem dX7_sitters_117 : decode prog_1_method_45_code 117 = .ok (.invokevirtual 288, 3) := by decide +kernel
theorem dX7_sitters_120 : decode prog_1_method_45_code 120 = .ok (.invokevirtual 140, 3) := by decide +kernel
theorem dX7_sitters_123 : decode prog_1_method_45_code 123 = .ok (.ifCond .lt 6, 3) := by decide +kernel
theorem dX7_sitters_126 : decode prog_1_method_45_code 126 = .ok (.iinc 6 1, 3) := by decide +kernel
theorem dX7_sitters_129 : decode prog_1_method_45_code 129 = .ok (.iinc 7 3, 3) := by decide +kernel
theorem dX7_sitters_132 : decode prog_1_method_45_code 132 = .ok (.iinc 8 1, 3) := by decide +kernel
theorem dX7_sitters_135 : decode prog_1_method_45_code 135 = .ok (.goto (-65), 3) := by decide +kernel
theorem dX7_sitters_138 : decode prog_1_method_45_code 138 = .ok (.iload 6, 2) := by decide +kernel
theorem dX7_sitters_140 : decode prog_1_method_45_code 140 = .ok (.ireturn, 1) := by decide +kernel
theorem dX7_taken_0 : decode prog_1_method_46_code 0 = .ok (.iload_n 2, 1) := by decide +kernel
theorem dX7_taken_1 : decode prog_1_method_46_code 1 = .ok (.invokestatic 315, 3) := by decide +kernel
theorem dX7_taken_4 : decode prog_1_method_46_code 4 = .ok (.ifCond .ne 6, 3) := by decide +kernel
theorem dX7_taken_7 : decode prog_1_method_46_code 7 = .ok (.bipush (-2), 2) := by decide +kernel
theorem dX7_taken_9 : decode prog_1_method_46_code 9 = .ok (.ireturn, 1) := by decide +kernel
theorem dX7_taken_10 : decode prog_1_method_46_code 10 = .ok (.aload_n 0, 1) := by decide +kernel
theorem dX7_taken_11 : decode prog_1_method_46_code 11 = .ok (.getfield 12, 3) := by decide +kernel
theorem dX7_taken_14 : decode prog_1_method_46_code 14 = .ok (.iload_n 1, 1) := by decide +kernel
theorem dX7_taken_15 : decode prog_1_method_46_code 15 = .ok (.invokevirtual 126, 3) := by decide +kernel
theorem dX7_taken_18 : decode prog_1_method_46_code 18 = .ok (.ifCond .ne 6, 3) := by decide +kernel
theorem dX7_taken_21 : decode prog_1_method_46_code 21 = .ok (.bipush (-11), 2) := by decide +kernel
theorem dX7_taken_23 : decode prog_1_method_46_code 23 = .ok (.ireturn, 1) := by decide +kernel
theorem dX7_taken_24 : decode prog_1_method_46_code 24 = .ok (.aload_n 0, 1) := by decide +kernel
theorem dX7_taken_25 : decode prog_1_method_46_code 25 = .ok (.getfield 12, 3) := by decide +kernel
theorem dX7_taken_28 : decode prog_1_method_46_code 28 = .ok (.getfield 144, 3) := by decide +kernel
theorem dX7_taken_31 : decode prog_1_method_46_code 31 = .ok (.iload_n 1, 1) := by decide +kernel
theorem dX7_taken_32 : decode prog_1_method_46_code 32 = .ok (.iaload, 1) := by decide +kernel
theorem dX7_taken_33 : decode prog_1_method_46_code 33 = .ok (.iload_n 2, 1) := by decide +kernel
theorem dX7_taken_34 : decode prog_1_method_46_code 34 = .ok (.invokestatic 318, 3) := by decide +kernel
theorem dX7_taken_37 : decode prog_1_method_46_code 37 = .ok (.ifCond .ne 6, 3) := by decide +kernel
theorem dX7_taken_40 : decode prog_1_method_46_code 40 = .ok (.bipush (-13), 2) := by decide +kernel
theorem dX7_taken_42 : decode prog_1_method_46_code 42 = .ok (.ireturn, 1) := by decide +kernel
theorem dX7_taken_43 : decode prog_1_method_46_code 43 = .ok (.aload_n 0, 1) := by decide +kernel
theorem dX7_taken_44 : decode prog_1_method_46_code 44 = .ok (.getfield 12, 3) := by decide +kernel
theorem dX7_taken_47 : decode prog_1_method_46_code 47 = .ok (.getfield 129, 3) := by decide +kernel
theorem dX7_taken_50 : decode prog_1_method_46_code 50 = .ok (.iload_n 1, 1) := by decide +kernel
theorem dX7_taken_51 : decode prog_1_method_46_code 51 = .ok (.iaload, 1) := by decide +kernel
theorem dX7_taken_52 : decode prog_1_method_46_code 52 = .ok (.ireturn, 1) := by decide +kernel
theorem dX0_has_0 : decode prog_2_method_3_code 0 = .ok (.iload_n 1, 1) := by decide +kernel
theorem dX0_has_1 : decode prog_2_method_3_code 1 = .ok (.ifCond .lt 15, 3) := by decide +kernel
theorem dX0_has_4 : decode prog_2_method_3_code 4 = .ok (.iload_n 1, 1) := by decide +kernel
theorem dX0_has_5 : decode prog_2_method_3_code 5 = .ok (.aload_n 0, 1) := by decide +kernel
theorem dX0_has_6 : decode prog_2_method_3_code 6 = .ok (.getfield 30, 3) := by decide +kernel
theorem dX0_has_9 : decode prog_2_method_3_code 9 = .ok (.if_icmp .ge 7, 3) := by decide +kernel
theorem dX0_has_12 : decode prog_2_method_3_code 12 = .ok (.iconst 1, 1) := by decide +kernel
theorem dX0_has_13 : decode prog_2_method_3_code 13 = .ok (.goto 4, 3) := by decide +kernel
theorem dX0_has_16 : decode prog_2_method_3_code 16 = .ok (.iconst 0, 1) := by decide +kernel
theorem dX0_has_17 : decode prog_2_method_3_code 17 = .ok (.ireturn, 1) := by decide +kernel
theorem dX0_isFreeFor_0 : decode prog_2_method_6_code 0 = .ok (.aload_n 0, 1) := by decide +kernel
theorem dX0_isFreeFor_1 : decode prog_2_method_6_code 1 = .ok (.iload_n 2, 1) := by decide +kernel
theorem dX0_isFreeFor_2 : decode prog_2_method_6_code 2 = .ok (.invokevirtual 49, 3) := by decide +kernel
theorem dX0_isFreeFor_5 : decode prog_2_method_6_code 5 = .ok (.istore_n 3, 1) := by decide +kernel
theorem dX0_isFreeFor_6 : decode prog_2_method_6_code 6 = .ok (.iload_n 3, 1) := by decide +kernel
theorem dX0_isFreeFor_7 : decode prog_2_method_6_code 7 = .ok (.iconst (-1), 1) := by decide +kernel
theorem dX0_isFreeFor_8 : decode prog_2_method_6_code 8 = .ok (.if_icmp .eq 8, 3) := by decide +kernel
theorem dX0_isFreeFor_11 : decode prog_2_method_6_code 11 = .ok (.iload_n 3, 1) := by decide +kernel
theorem dX0_isFreeFor_12 : decode prog_2_method_6_code 12 = .ok (.iload_n 1, 1) := by decide +kernel
theorem dX0_isFreeFor_13 : decode prog_2_method_6_code 13 = .ok (.if_icmp .ne 7, 3) := by decide +kernel
theorem dX0_isFreeFor_16 : decode prog_2_method_6_code 16 = .ok (.iconst 1, 1) := by decide +kernel
theorem dX0_isFreeFor_17 : decode prog_2_method_6_code 17 = .ok (.goto 4, 3) := by decide +kernel
theorem dX0_isFreeFor_20 : decode prog_2_method_6_code 20 = .ok (.iconst 0, 1) := by decide +kernel
theorem dX0_isFreeFor_21 : decode prog_2_method_6_code 21 = .ok (.ireturn, 1) := by decide +kernel
theorem dX0_whoIsOn_0 : decode prog_2_method_5_code 0 = .ok (.iconst 0, 1) := by decide +kernel
theorem dX0_whoIsOn_1 : decode prog_2_method_5_code 1 = .ok (.istore_n 2, 1) := by decide +kernel
theorem dX0_whoIsOn_2 : decode prog_2_method_5_code 2 = .ok (.iload_n 2, 1) := by decide +kernel
theorem dX0_whoIsOn_3 : decode prog_2_method_5_code 3 = .ok (.aload_n 0, 1) := by decide +kernel
theorem dX0_whoIsOn_4 : decode prog_2_method_5_code 4 = .ok (.getfield 30, 3) := by decide +kernel
theorem dX0_whoIsOn_7 : decode prog_2_method_5_code 7 = .ok (.if_icmp .ge 21, 3) := by decide +kernel
theorem dX0_whoIsOn_10 : decode prog_2_method_5_code 10 = .ok (.aload_n 0, 1) := by decide +kernel
theorem dX0_whoIsOn_11 : decode prog_2_method_5_code 11 = .ok (.getfield 40, 3) := by decide +kernel
theorem dX0_whoIsOn_14 : decode prog_2_method_5_code 14 = .ok (.iload_n 2, 1) := by decide +kernel
theorem dX0_whoIsOn_15 : decode prog_2_method_5_code 15 = .ok (.iaload, 1) := by decide +kernel
theorem dX0_whoIsOn_16 : decode prog_2_method_5_code 16 = .ok (.iload_n 1, 1) := by decide +kernel
theorem dX0_whoIsOn_17 : decode prog_2_method_5_code 17 = .ok (.if_icmp .ne 5, 3) := by decide +kernel
theorem dX0_whoIsOn_20 : decode prog_2_method_5_code 20 = .ok (.iload_n 2, 1) := by decide +kernel
theorem dX0_whoIsOn_21 : decode prog_2_method_5_code 21 = .ok (.ireturn, 1) := by decide +kernel
theorem dX0_whoIsOn_22 : decode prog_2_method_5_code 22 = .ok (.iinc 2 1, 3) := by decide +kernel
theorem dX0_whoIsOn_25 : decode prog_2_method_5_code 25 = .ok (.goto (-23), 3) := by decide +kernel
theorem dX0_whoIsOn_28 : decode prog_2_method_5_code 28 = .ok (.iconst (-1), 1) := by decide +kernel
theorem dX0_whoIsOn_29 : decode prog_2_method_5_code 29 = .ok (.ireturn, 1) := by decide +kernel
theorem dX0_come_0 : decode prog_2_method_7_code 0 = .ok (.iload_n 1, 1) := by decide +kernel
theorem dX0_come_1 : decode prog_2_method_7_code 1 = .ok (.invokestatic 53, 3) := by decide +kernel
theorem dX0_come_4 : decode prog_2_method_7_code 4 = .ok (.ifCond .eq 20, 3) := by decide +kernel
theorem dX0_come_7 : decode prog_2_method_7_code 7 = .ok (.iload_n 2, 1) := by decide +kernel
theorem dX0_come_8 : decode prog_2_method_7_code 8 = .ok (.ifCond .lt 16, 3) := by decide +kernel
theorem dX0_come_11 : decode prog_2_method_7_code 11 = .ok (.iload_n 2, 1) := by decide +kernel
theorem dX0_come_12 : decode prog_2_method_7_code 12 = .ok (.bipush 9, 2) := by decide +kernel
theorem dX0_come_14 : decode prog_2_method_7_code 14 = .ok (.if_icmp .gt 10, 3) := by decide +kernel
theorem dX0_come_17 : decode prog_2_method_7_code 17 = .ok (.iload_n 3, 1) := by decide +kernel
theorem dX0_come_18 : decode prog_2_method_7_code 18 = .ok (.invokestatic 59, 3) := by decide +kernel
theorem dX0_come_21 : decode prog_2_method_7_code 21 = .ok (.ifCond .ne 6, 3) := by decide +kernel
theorem dX0_come_24 : decode prog_2_method_7_code 24 = .ok (.bipush (-2), 2) := by decide +kernel
theorem dX0_come_26 : decode prog_2_method_7_code 26 = .ok (.ireturn, 1) := by decide +kernel
theorem dX0_come_27 : decode prog_2_method_7_code 27 = .ok (.aload_n 0, 1) := by decide +kernel
theorem dX0_come_28 : decode prog_2_method_7_code 28 = .ok (.iload_n 3, 1) := by decide +kernel
theorem dX0_come_29 : decode prog_2_method_7_code 29 = .ok (.invokevirtual 49, 3) := by decide +kernel
theorem dX0_come_32 : decode prog_2_method_7_code 32 = .ok (.iconst (-1), 1) := by decide +kernel
theorem dX0_come_33 : decode prog_2_method_7_code 33 = .ok (.if_icmp .eq 6, 3) := by decide +kernel
theorem dX0_come_36 : decode prog_2_method_7_code 36 = .ok (.bipush (-3), 2) := by decide +kernel
theorem dX0_come_38 : decode prog_2_method_7_code 38 = .ok (.ireturn, 1) := by decide +kernel
theorem dX0_come_39 : decode prog_2_method_7_code 39 = .ok (.aload_n 0, 1) := by decide +kernel
theorem dX0_come_40 : decode prog_2_method_7_code 40 = .ok (.getfield 30, 3) := by decide +kernel
theorem dX0_come_43 : decode prog_2_method_7_code 43 = .ok (.iconst 5, 1) := by decide +kernel
theorem dX0_come_44 : decode prog_2_method_7_code 44 = .ok (.if_icmp .lt 6, 3) := by decide +kernel
theorem dX0_come_47 : decode prog_2_method_7_code 47 = .ok (.bipush (-4), 2) := by decide +kernel
theorem dX0_come_49 : decode prog_2_method_7_code 49 = .ok (.ireturn, 1) := by decide +kernel
theorem dX0_come_50 : decode prog_2_method_7_code 50 = .ok (.aload_n 0, 1) := by decide +kernel
theorem dX0_come_51 : decode prog_2_method_7_code 51 = .ok (.getfield 33, 3) := by decide +kernel
theorem dX0_come_54 : decode prog_2_method_7_code 54 = .ok (.aload_n 0, 1) := by decide +kernel
theorem dX0_come_55 : decode prog_2_method_7_code 55 = .ok (.getfield 30, 3) := by decide +kernel
theorem dX0_come_58 : decode prog_2_method_7_code 58 = .ok (.iload_n 1, 1) := by decide +kernel
theorem dX0_come_59 : decode prog_2_method_7_code 59 = .ok (.iastore, 1) := by decide +kernel
theorem dX0_come_60 : decode prog_2_method_7_code 60 = .ok (.aload_n 0, 1) := by decide +kernel
theorem dX0_come_61 : decode prog_2_method_7_code 61 = .ok (.getfield 37, 3) := by decide +kernel
theorem dX0_come_64 : decode prog_2_method_7_code 64 = .ok (.aload_n 0, 1) := by decide +kernel
theorem dX0_come_65 : decode prog_2_method_7_code 65 = .ok (.getfield 30, 3) := by decide +kernel
theorem dX0_come_68 : decode prog_2_method_7_code 68 = .ok (.iload_n 2, 1) := by decide +kernel
theorem dX0_come_69 : decode prog_2_method_7_code 69 = .ok (.iastore, 1) := by decide +kernel
theorem dX0_come_70 : decode prog_2_method_7_code 70 = .ok (.aload_n 0, 1) := by decide +kernel
theorem dX0_come_71 : decode prog_2_method_7_code 71 = .ok (.getfield 40, 3) := by decide +kernel
theorem dX0_come_74 : decode prog_2_method_7_code 74 = .ok (.aload_n 0, 1) := by decide +kernel
theorem dX0_come_75 : decode prog_2_method_7_code 75 = .ok (.getfield 30, 3) := by decide +kernel
theorem dX0_come_78 : decode prog_2_method_7_code 78 = .ok (.iload_n 3, 1) := by decide +kernel
theorem dX0_come_79 : decode prog_2_method_7_code 79 = .ok (.iastore, 1) := by decide +kernel
theorem dX0_come_80 : decode prog_2_method_7_code 80 = .ok (.aload_n 0, 1) := by decide +kernel
theorem dX0_come_81 : decode prog_2_method_7_code 81 = .ok (.dup, 1) := by decide +kernel
theorem dX0_come_82 : decode prog_2_method_7_code 82 = .ok (.getfield 30, 3) := by decide +kernel
theorem dX0_come_85 : decode prog_2_method_7_code 85 = .ok (.iconst 1, 1) := by decide +kernel
theorem dX0_come_86 : decode prog_2_method_7_code 86 = .ok (.iadd, 1) := by decide +kernel
theorem dX0_come_87 : decode prog_2_method_7_code 87 = .ok (.putfield 30, 3) := by decide +kernel
theorem dX0_come_90 : decode prog_2_method_7_code 90 = .ok (.aload_n 0, 1) := by decide +kernel
theorem dX0_come_91 : decode prog_2_method_7_code 91 = .ok (.getfield 30, 3) := by decide +kernel
theorem dX0_come_94 : decode prog_2_method_7_code 94 = .ok (.iconst 1, 1) := by decide +kernel
theorem dX0_come_95 : decode prog_2_method_7_code 95 = .ok (.isub, 1) := by decide +kernel
theorem dX0_come_96 : decode prog_2_method_7_code 96 = .ok (.ireturn, 1) := by decide +kernel
theorem dX0_become_0 : decode prog_2_method_2_code 0 = .ok (.aload_n 0, 1) := by decide +kernel
theorem dX0_become_1 : decode prog_2_method_2_code 1 = .ok (.aload_n 1, 1) := by decide +kernel
theorem dX0_become_2 : decode prog_2_method_2_code 2 = .ok (.getfield 9, 3) := by decide +kernel
theorem dX0_become_5 : decode prog_2_method_2_code 5 = .ok (.putfield 9, 3) := by decide +kernel
theorem dX0_become_8 : decode prog_2_method_2_code 8 = .ok (.aload_n 0, 1) := by decide +kernel
theorem dX0_become_9 : decode prog_2_method_2_code 9 = .ok (.aload_n 1, 1) := by decide +kernel
theorem dX0_become_10 : decode prog_2_method_2_code 10 = .ok (.getfield 15, 3) := by decide +kernel
theorem dX0_become_13 : decode prog_2_method_2_code 13 = .ok (.putfield 15, 3) := by decide +kernel
theorem dX0_become_16 : decode prog_2_method_2_code 16 = .ok (.aload_n 0, 1) := by decide +kernel
theorem dX0_become_17 : decode prog_2_method_2_code 17 = .ok (.aload_n 1, 1) := by decide +kernel
theorem dX0_become_18 : decode prog_2_method_2_code 18 = .ok (.getfield 18, 3) := by decide +kernel
theorem dX0_become_21 : decode prog_2_method_2_code 21 = .ok (.putfield 18, 3) := by decide +kernel
theorem dX0_become_24 : decode prog_2_method_2_code 24 = .ok (.aload_n 0, 1) := by decide +kernel
theorem dX0_become_25 : decode prog_2_method_2_code 25 = .ok (.aload_n 1, 1) := by decide +kernel
theorem dX0_become_26 : decode prog_2_method_2_code 26 = .ok (.getfield 21, 3) := by decide +kernel
theorem dX0_become_29 : decode prog_2_method_2_code 29 = .ok (.putfield 21, 3) := by decide +kernel
theorem dX0_become_32 : decode prog_2_method_2_code 32 = .ok (.aload_n 0, 1) := by decide +kernel
theorem dX0_become_33 : decode prog_2_method_2_code 33 = .ok (.aload_n 1, 1) := by decide +kernel
theorem dX0_become_34 : decode prog_2_method_2_code 34 = .ok (.getfield 24, 3) := by decide +kernel
theorem dX0_become_37 : decode prog_2_method_2_code 37 = .ok (.putfield 24, 3) := by decide +kernel
theorem dX0_become_40 : decode prog_2_method_2_code 40 = .ok (.aload_n 0, 1) := by decide +kernel
theorem dX0_become_41 : decode prog_2_method_2_code 41 = .ok (.aload_n 1, 1) := by decide +kernel
theorem dX0_become_42 : decode prog_2_method_2_code 42 = .ok (.getfield 27, 3) := by decide +kernel
theorem dX0_become_45 : decode prog_2_method_2_code 45 = .ok (.putfield 27, 3) := by decide +kernel
theorem dX0_become_48 : decode prog_2_method_2_code 48 = .ok (.aload_n 0, 1) := by decide +kernel
theorem dX0_become_49 : decode prog_2_method_2_code 49 = .ok (.aload_n 1, 1) := by decide +kernel
theorem dX0_become_50 : decode prog_2_method_2_code 50 = .ok (.getfield 30, 3) := by decide +kernel
theorem dX0_become_53 : decode prog_2_method_2_code 53 = .ok (.putfield 30, 3) := by decide +kernel
theorem dX0_become_56 : decode prog_2_method_2_code 56 = .ok (.aload_n 1, 1) := by decide +kernel
theorem dX0_become_57 : decode prog_2_method_2_code 57 = .ok (.getfield 33, 3) := by decide +kernel
theorem dX0_become_60 : decode prog_2_method_2_code 60 = .ok (.iconst 0, 1) := by decide +kernel
theorem dX0_become_61 : decode prog_2_method_2_code 61 = .ok (.aload_n 0, 1) := by decide +kernel
theorem dX0_become_62 : decode prog_2_method_2_code 62 = .ok (.getfield 33, 3) := by decide +kernel
theorem dX0_become_65 : decode prog_2_method_2_code 65 = .ok (.iconst 0, 1) := by decide +kernel
theorem dX0_become_66 : decode prog_2_method_2_code 66 = .ok (.iconst 5, 1) := by decide +kernel
theorem dX0_become_67 : decode prog_2_method_2_code 67 = .ok (.invokestatic 43, 3) := by decide +kernel
theorem dX0_become_70 : decode prog_2_method_2_code 70 = .ok (.aload_n 1, 1) := by decide +kernel
theorem dX0_become_71 : decode prog_2_method_2_code 71 = .ok (.getfield 37, 3) := by decide +kernel
theorem dX0_become_74 : decode prog_2_method_2_code 74 = .ok (.iconst 0, 1) := by decide +kernel
theorem dX0_become_75 : decode prog_2_method_2_code 75 = .ok (.aload_n 0, 1) := by decide +kernel
theorem dX0_become_76 : decode prog_2_method_2_code 76 = .ok (.getfield 37, 3) := by decide +kernel
theorem dX0_become_79 : decode prog_2_method_2_code 79 = .ok (.iconst 0, 1) := by decide +kernel
theorem dX0_become_80 : decode prog_2_method_2_code 80 = .ok (.iconst 5, 1) := by decide +kernel
theorem dX0_become_81 : decode prog_2_method_2_code 81 = .ok (.invokestatic 43, 3) := by decide +kernel
theorem dX0_become_84 : decode prog_2_method_2_code 84 = .ok (.aload_n 1, 1) := by decide +kernel
theorem dX0_become_85 : decode prog_2_method_2_code 85 = .ok (.getfield 40, 3) := by decide +kernel
theorem dX0_become_88 : decode prog_2_method_2_code 88 = .ok (.iconst 0, 1) := by decide +kernel
theorem dX0_become_89 : decode prog_2_method_2_code 89 = .ok (.aload_n 0, 1) := by decide +kernel
theorem dX0_become_90 : decode prog_2_method_2_code 90 = .ok (.getfield 40, 3) := by decide +kernel
theorem dX0_become_93 : decode prog_2_method_2_code 93 = .ok (.iconst 0, 1) := by decide +kernel
theorem dX0_become_94 : decode prog_2_method_2_code 94 = .ok (.iconst 5, 1) := by decide +kernel
theorem dX0_become_95 : decode prog_2_method_2_code 95 = .ok (.invokestatic 43, 3) := by decide +kernel
theorem dX0_become_98 : decode prog_2_method_2_code 98 = .ok (.return_, 1) := by decide +kernel
theorem dX0_hasTent_0 : decode prog_2_method_4_code 0 = .ok (.aload_n 0, 1) := by decide +kernel
theorem dX0_hasTent_1 : decode prog_2_method_4_code 1 = .ok (.getfield 21, 3) := by decide +kernel
theorem dX0_hasTent_4 : decode prog_2_method_4_code 4 = .ok (.iload_n 1, 1) := by decide +kernel
theorem dX0_hasTent_5 : decode prog_2_method_4_code 5 = .ok (.ishr, 1) := by decide +kernel
theorem dX0_hasTent_6 : decode prog_2_method_4_code 6 = .ok (.iconst 1, 1) := by decide +kernel
theorem dX0_hasTent_7 : decode prog_2_method_4_code 7 = .ok (.iand, 1) := by decide +kernel
theorem dX0_hasTent_8 : decode prog_2_method_4_code 8 = .ok (.iconst 1, 1) := by decide +kernel
theorem dX0_hasTent_9 : decode prog_2_method_4_code 9 = .ok (.if_icmp .ne 7, 3) := by decide +kernel
theorem dX0_hasTent_12 : decode prog_2_method_4_code 12 = .ok (.iconst 1, 1) := by decide +kernel
theorem dX0_hasTent_13 : decode prog_2_method_4_code 13 = .ok (.goto 4, 3) := by decide +kernel
theorem dX0_hasTent_16 : decode prog_2_method_4_code 16 = .ok (.iconst 0, 1) := by decide +kernel
theorem dX0_hasTent_17 : decode prog_2_method_4_code 17 = .ok (.ireturn, 1) := by decide +kernel
theorem dX4_add_0 : decode prog_6_method_2_code 0 = .ok (.aload_n 0, 1) := by decide +kernel
theorem dX4_add_1 : decode prog_6_method_2_code 1 = .ok (.getfield 13, 3) := by decide +kernel
theorem dX4_add_4 : decode prog_6_method_2_code 4 = .ok (.sipush 160, 3) := by decide +kernel
theorem dX4_add_7 : decode prog_6_method_2_code 7 = .ok (.if_icmp .lt 5, 3) := by decide +kernel
theorem dX4_add_10 : decode prog_6_method_2_code 10 = .ok (.iconst 0, 1) := by decide +kernel
theorem dX4_add_11 : decode prog_6_method_2_code 11 = .ok (.ireturn, 1) := by decide +kernel
theorem dX4_add_12 : decode prog_6_method_2_code 12 = .ok (.aload_n 0, 1) := by decide +kernel
theorem dX4_add_13 : decode prog_6_method_2_code 13 = .ok (.getfield 17, 3) := by decide +kernel
theorem dX4_add_16 : decode prog_6_method_2_code 16 = .ok (.aload_n 0, 1) := by decide +kernel
theorem dX4_add_17 : decode prog_6_method_2_code 17 = .ok (.getfield 13, 3) := by decide +kernel
theorem dX4_add_20 : decode prog_6_method_2_code 20 = .ok (.iload_n 1, 1) := by decide +kernel
theorem dX4_add_21 : decode prog_6_method_2_code 21 = .ok (.iastore, 1) := by decide +kernel
theorem dX4_add_22 : decode prog_6_method_2_code 22 = .ok (.aload_n 0, 1) := by decide +kernel
theorem dX4_add_23 : decode prog_6_method_2_code 23 = .ok (.dup, 1) := by decide +kernel
theorem dX4_add_24 : decode prog_6_method_2_code 24 = .ok (.getfield 13, 3) := by decide +kernel
theorem dX4_add_27 : decode prog_6_method_2_code 27 = .ok (.iconst 1, 1) := by decide +kernel
theorem dX4_add_28 : decode prog_6_method_2_code 28 = .ok (.iadd, 1) := by decide +kernel
theorem dX4_add_29 : decode prog_6_method_2_code 29 = .ok (.putfield 13, 3) := by decide +kernel
theorem dX4_add_32 : decode prog_6_method_2_code 32 = .ok (.iconst 1, 1) := by decide +kernel
theorem dX4_add_33 : decode prog_6_method_2_code 33 = .ok (.ireturn, 1) := by decide +kernel
theorem dX4_read_0 : decode prog_6_method_4_code 0 = .ok (.aload_n 0, 1) := by decide +kernel
theorem dX4_read_1 : decode prog_6_method_4_code 1 = .ok (.aload_n 1, 1) := by decide +kernel
theorem dX4_read_2 : decode prog_6_method_4_code 2 = .ok (.putfield 33, 3) := by decide +kernel
theorem dX4_read_5 : decode prog_6_method_4_code 5 = .ok (.aload_n 1, 1) := by decide +kernel
theorem dX4_read_6 : decode prog_6_method_4_code 6 = .ok (.invokevirtual 37, 3) := by decide +kernel
theorem dX4_read_9 : decode prog_6_method_4_code 9 = .ok (.aload_n 0, 1) := by decide +kernel
theorem dX4_read_10 : decode prog_6_method_4_code 10 = .ok (.iconst 0, 1) := by decide +kernel
theorem dX4_read_11 : decode prog_6_method_4_code 11 = .ok (.putfield 27, 3) := by decide +kernel
theorem dX4_read_14 : decode prog_6_method_4_code 14 = .ok (.aload_n 0, 1) := by decide +kernel
theorem dX4_read_15 : decode prog_6_method_4_code 15 = .ok (.invokevirtual 40, 3) := by decide +kernel
theorem dX4_read_18 : decode prog_6_method_4_code 18 = .ok (.iconst 0, 1) := by decide +kernel
theorem dX4_read_19 : decode prog_6_method_4_code 19 = .ok (.istore_n 2, 1) := by decide +kernel
theorem dX4_read_20 : decode prog_6_method_4_code 20 = .ok (.iload_n 2, 1) := by decide +kernel
theorem dX4_read_21 : decode prog_6_method_4_code 21 = .ok (.iconst 3, 1) := by decide +kernel
theorem dX4_read_22 : decode prog_6_method_4_code 22 = .ok (.if_icmp .ge 48, 3) := by decide +kernel
theorem dX4_read_25 : decode prog_6_method_4_code 25 = .ok (.aload_n 0, 1) := by decide +kernel
theorem dX4_read_26 : decode prog_6_method_4_code 26 = .ok (.sipush 262, 3) := by decide +kernel
theorem dX4_read_29 : decode prog_6_method_4_code 29 = .ok (.iload_n 2, 1) := by decide +kernel
theorem dX4_read_30 : decode prog_6_method_4_code 30 = .ok (.iadd, 1) := by decide +kernel
theorem dX4_read_31 : decode prog_6_method_4_code 31 = .ok (.invokevirtual 43, 3) := by decide +kernel
theorem dX4_read_34 : decode prog_6_method_4_code 34 = .ok (.ifCond .eq 20, 3) := by decide +kernel
theorem dX4_read_37 : decode prog_6_method_4_code 37 = .ok (.aload_n 0, 1) := by decide +kernel
theorem dX4_read_38 : decode prog_6_method_4_code 38 = .ok (.iconst 0, 1) := by decide +kernel
theorem dX4_read_39 : decode prog_6_method_4_code 39 = .ok (.invokevirtual 47, 3) := by decide +kernel
theorem dX4_read_42 : decode prog_6_method_4_code 42 = .ok (.ifCond .eq 12, 3) := by decide +kernel
theorem dX4_read_45 : decode prog_6_method_4_code 45 = .ok (.aload_n 0, 1) := by decide +kernel
theorem dX4_read_46 : decode prog_6_method_4_code 46 = .ok (.bipush 59, 2) := by decide +kernel
theorem dX4_read_48 : decode prog_6_method_4_code 48 = .ok (.invokevirtual 43, 3) := by decide +kernel
theorem dX4_read_51 : decode prog_6_method_4_code 51 = .ok (.ifCond .ne 8, 3) := by decide +kernel
theorem dX4_read_54 : decode prog_6_method_4_code 54 = .ok (.aload_n 0, 1) := by decide +kernel
theorem dX4_read_55 : decode prog_6_method_4_code 55 = .ok (.getfield 24, 3) := by decide +kernel
theorem dX4_read_58 : decode prog_6_method_4_code 58 = .ok (.ireturn, 1) := by decide +kernel
theorem dX4_read_59 : decode prog_6_method_4_code 59 = .ok (.aload_n 1, 1) := by decide +kernel
theorem dX4_read_60 : decode prog_6_method_4_code 60 = .ok (.iload_n 2, 1) := by decide +kernel
theorem dX4_read_61 : decode prog_6_method_4_code 61 = .ok (.invokevirtual 50, 3) := by decide +kernel
theorem dX4_read_64 : decode prog_6_method_4_code 64 = .ok (.iinc 2 1, 3) := by decide +kernel
theorem dX4_read_67 : decode prog_6_method_4_code 67 = .ok (.goto (-47), 3) := by decide +kernel
theorem dX4_read_70 : decode prog_6_method_4_code 70 = .ok (.aload_n 0, 1) := by decide +kernel
theorem dX4_read_71 : decode prog_6_method_4_code 71 = .ok (.getfield 21, 3) := by decide +kernel
theorem dX4_read_74 : decode prog_6_method_4_code 74 = .ok (.ifCond .ne 7, 3) := by decide +kernel
theorem dX4_read_77 : decode prog_6_method_4_code 77 = .ok (.iconst (-1), 1) := by decide +kernel
theorem dX4_read_78 : decode prog_6_method_4_code 78 = .ok (.goto 7, 3) := by decide +kernel
theorem dX4_read_81 : decode prog_6_method_4_code 81 = .ok (.aload_n 0, 1) := by decide +kernel
theorem dX4_read_82 : decode prog_6_method_4_code 82 = .ok (.getfield 24, 3) := by decide +kernel
theorem dX4_read_85 : decode prog_6_method_4_code 85 = .ok (.ireturn, 1) := by decide +kernel
theorem dX4_step_0 : decode prog_6_method_12_code 0 = .ok (.aload_n 0, 1) := by decide +kernel
theorem dX4_step_1 : decode prog_6_method_12_code 1 = .ok (.getfield 27, 3) := by decide +kernel
theorem dX4_step_4 : decode prog_6_method_12_code 4 = .ok (.aload_n 0, 1) := by decide +kernel
theorem dX4_step_5 : decode prog_6_method_12_code 5 = .ok (.getfield 13, 3) := by decide +kernel
theorem dX4_step_8 : decode prog_6_method_12_code 8 = .ok (.if_icmp .ge 44, 3) := by decide +kernel
theorem dX4_step_11 : decode prog_6_method_12_code 11 = .ok (.aload_n 0, 1) := by decide +kernel
theorem dX4_step_12 : decode prog_6_method_12_code 12 = .ok (.getfield 17, 3) := by decide +kernel
theorem dX4_step_15 : decode prog_6_method_12_code 15 = .ok (.aload_n 0, 1) := by decide +kernel
theorem dX4_step_16 : decode prog_6_method_12_code 16 = .ok (.getfield 27, 3) := by decide +kernel
theorem dX4_step_19 : decode prog_6_method_12_code 19 = .ok (.iaload, 1) := by decide +kernel
theorem dX4_step_20 : decode prog_6_method_12_code 20 = .ok (.bipush 32, 2) := by decide +kernel
theorem dX4_step_22 : decode prog_6_method_12_code 22 = .ok (.if_icmp .eq 17, 3) := by decide +kernel
theorem dX4_step_25 : decode prog_6_method_12_code 25 = .ok (.aload_n 0, 1) := by decide +kernel
theorem dX4_step_26 : decode prog_6_method_12_code 26 = .ok (.getfield 17, 3) := by decide +kernel
theorem dX4_step_29 : decode prog_6_method_12_code 29 = .ok (.aload_n 0, 1) := by decide +kernel
theorem dX4_step_30 : decode prog_6_method_12_code 30 = .ok (.getfield 27, 3) := by decide +kernel
theorem dX4_step_33 : decode prog_6_method_12_code 33 = .ok (.iaload, 1) := by decide +kernel
theorem dX4_step_34 : decode prog_6_method_12_code 34 = .ok (.bipush 10, 2) := by decide +kernel
theorem dX4_step_36 : decode prog_6_method_12_code 36 = .ok (.if_icmp .ne 16, 3) := by decide +kernel
theorem dX4_step_39 : decode prog_6_method_12_code 39 = .ok (.aload_n 0, 1) := by decide +kernel
theorem dX4_step_40 : decode prog_6_method_12_code 40 = .ok (.dup, 1) := by decide +kernel
theorem dX4_step_41 : decode prog_6_method_12_code 41 = .ok (.getfield 27, 3) := by decide +kernel
theorem dX4_step_44 : decode prog_6_method_12_code 44 = .ok (.iconst 1, 1) := by decide +kernel
theorem dX4_step_45 : decode prog_6_method_12_code 45 = .ok (.iadd, 1) := by decide +kernel
theorem dX4_step_46 : decode prog_6_method_12_code 46 = .ok (.putfield 27, 3) := by decide +kernel
theorem dX4_step_49 : decode prog_6_method_12_code 49 = .ok (.goto (-49), 3) := by decide +kernel
theorem dX4_step_52 : decode prog_6_method_12_code 52 = .ok (.aload_n 0, 1) := by decide +kernel
theorem dX4_step_53 : decode prog_6_method_12_code 53 = .ok (.aload_n 0, 1) := by decide +kernel
theorem dX4_step_54 : decode prog_6_method_12_code 54 = .ok (.getfield 27, 3) := by decide +kernel
theorem dX4_step_57 : decode prog_6_method_12_code 57 = .ok (.putfield 24, 3) := by decide +kernel
theorem dX4_step_60 : decode prog_6_method_12_code 60 = .ok (.aload_n 0, 1) := by decide +kernel
theorem dX4_step_61 : decode prog_6_method_12_code 61 = .ok (.getfield 27, 3) := by decide +kernel
theorem dX4_step_64 : decode prog_6_method_12_code 64 = .ok (.aload_n 0, 1) := by decide +kernel
theorem dX4_step_65 : decode prog_6_method_12_code 65 = .ok (.getfield 13, 3) := by decide +kernel
theorem dX4_step_68 : decode prog_6_method_12_code 68 = .ok (.if_icmp .lt 11, 3) := by decide +kernel
theorem dX4_step_71 : decode prog_6_method_12_code 71 = .ok (.aload_n 0, 1) := by decide +kernel
theorem dX4_step_72 : decode prog_6_method_12_code 72 = .ok (.iconst 0, 1) := by decide +kernel
theorem dX4_step_73 : decode prog_6_method_12_code 73 = .ok (.putfield 21, 3) := by decide +kernel
theorem dX4_step_76 : decode prog_6_method_12_code 76 = .ok (.goto 92, 3) := by decide +kernel
theorem dX4_step_79 : decode prog_6_method_12_code 79 = .ok (.aload_n 0, 1) := by decide +kernel
theorem dX4_step_80 : decode prog_6_method_12_code 80 = .ok (.getfield 17, 3) := by decide +kernel
theorem dX4_step_83 : decode prog_6_method_12_code 83 = .ok (.aload_n 0, 1) := by decide +kernel
theorem dX4_step_84 : decode prog_6_method_12_code 84 = .ok (.getfield 27, 3) := by decide +kernel
theorem dX4_step_87 : decode prog_6_method_12_code 87 = .ok (.iaload, 1) := by decide +kernel
theorem dX4_step_88 : decode prog_6_method_12_code 88 = .ok (.invokestatic 78, 3) := by decide +kernel
theorem dX4_step_91 : decode prog_6_method_12_code 91 = .ok (.ifCond .eq 10, 3) := by decide +kernel
theorem dX4_step_94 : decode prog_6_method_12_code 94 = .ok (.aload_n 0, 1) := by decide +kernel
theorem dX4_step_95 : decode prog_6_method_12_code 95 = .ok (.invokevirtual 81, 3) := by decide +kernel
theorem dX4_step_98 : decode prog_6_method_12_code 98 = .ok (.goto 70, 3) := by decide +kernel
theorem dX4_step_101 : decode prog_6_method_12_code 101 = .ok (.aload_n 0, 1) := by decide +kernel
theorem dX4_step_102 : decode prog_6_method_12_code 102 = .ok (.getfield 17, 3) := by decide +kernel
theorem dX4_step_105 : decode prog_6_method_12_code 105 = .ok (.aload_n 0, 1) := by decide +kernel
theorem dX4_step_106 : decode prog_6_method_12_code 106 = .ok (.getfield 27, 3) := by decide +kernel
theorem dX4_step_109 : decode prog_6_method_12_code 109 = .ok (.iaload, 1) := by decide +kernel
theorem dX4_step_110 : decode prog_6_method_12_code 110 = .ok (.invokestatic 84, 3) := by decide +kernel
theorem dX4_step_113 : decode prog_6_method_12_code 113 = .ok (.ifCond .eq 10, 3) := by decide +kernel
theorem dX4_step_116 : decode prog_6_method_12_code 116 = .ok (.aload_n 0, 1) := by decide +kernel
theorem dX4_step_117 : decode prog_6_method_12_code 117 = .ok (.invokevirtual 87, 3) := by decide +kernel
theorem dX4_step_120 : decode prog_6_method_12_code 120 = .ok (.goto 48, 3) := by decide +kernel
theorem dX4_step_123 : decode prog_6_method_12_code 123 = .ok (.aload_n 0, 1) := by decide +kernel
theorem dX4_step_124 : decode prog_6_method_12_code 124 = .ok (.ldc 90, 2) := by decide +kernel
theorem dX4_step_126 : decode prog_6_method_12_code 126 = .ok (.aload_n 0, 1) := by decide +kernel
theorem dX4_step_127 : decode prog_6_method_12_code 127 = .ok (.getfield 17, 3) := by decide +kernel
theorem dX4_step_130 : decode prog_6_method_12_code 130 = .ok (.aload_n 0, 1) := by decide +kernel
theorem dX4_step_131 : decode prog_6_method_12_code 131 = .ok (.getfield 27, 3) := by decide +kernel
theorem dX4_step_134 : decode prog_6_method_12_code 134 = .ok (.iaload, 1) := by decide +kernel
theorem dX4_step_135 : decode prog_6_method_12_code 135 = .ok (.i2c, 1) := by decide +kernel
theorem dX4_step_136 : decode prog_6_method_12_code 136 = .ok (.invokevirtual 92, 3) := by decide +kernel
theorem dX4_step_139 : decode prog_6_method_12_code 139 = .ok (.ifCond .lt 15, 3) := by decide +kernel
theorem dX4_step_142 : decode prog_6_method_12_code 142 = .ok (.aload_n 0, 1) := by decide +kernel
theorem dX4_step_143 : decode prog_6_method_12_code 143 = .ok (.getfield 17, 3) := by decide +kernel
theorem dX4_step_146 : decode prog_6_method_12_code 146 = .ok (.aload_n 0, 1) := by decide +kernel
theorem dX4_step_147 : decode prog_6_method_12_code 147 = .ok (.getfield 27, 3) := by decide +kernel
theorem dX4_step_150 : decode prog_6_method_12_code 150 = .ok (.iaload, 1) := by decide +kernel
theorem dX4_step_151 : decode prog_6_method_12_code 151 = .ok (.goto 4, 3) := by decide +kernel
theorem dX4_step_154 : decode prog_6_method_12_code 154 = .ok (.iconst 1, 1) := by decide +kernel
theorem dX4_step_155 : decode prog_6_method_12_code 155 = .ok (.putfield 21, 3) := by decide +kernel
theorem dX4_step_158 : decode prog_6_method_12_code 158 = .ok (.aload_n 0, 1) := by decide +kernel
theorem dX4_step_159 : decode prog_6_method_12_code 159 = .ok (.dup, 1) := by decide +kernel
theorem dX4_step_160 : decode prog_6_method_12_code 160 = .ok (.getfield 27, 3) := by decide +kernel
theorem dX4_step_163 : decode prog_6_method_12_code 163 = .ok (.iconst 1, 1) := by decide +kernel
theorem dX4_step_164 : decode prog_6_method_12_code 164 = .ok (.iadd, 1) := by decide +kernel
theorem dX4_step_165 : decode prog_6_method_12_code 165 = .ok (.putfield 27, 3) := by decide +kernel
theorem dX4_step_168 : decode prog_6_method_12_code 168 = .ok (.return_, 1) := by decide +kernel
theorem dX4_isDigit_0 : decode prog_6_method_16_code 0 = .ok (.iload_n 0, 1) := by decide +kernel
theorem dX4_isDigit_1 : decode prog_6_method_16_code 1 = .ok (.bipush 48, 2) := by decide +kernel
theorem dX4_isDigit_3 : decode prog_6_method_16_code 3 = .ok (.if_icmp .lt 13, 3) := by decide +kernel
theorem dX4_isDigit_6 : decode prog_6_method_16_code 6 = .ok (.iload_n 0, 1) := by decide +kernel
theorem dX4_isDigit_7 : decode prog_6_method_16_code 7 = .ok (.bipush 57, 2) := by decide +kernel
theorem dX4_isDigit_9 : decode prog_6_method_16_code 9 = .ok (.if_icmp .gt 7, 3) := by decide +kernel
theorem dX4_isDigit_12 : decode prog_6_method_16_code 12 = .ok (.iconst 1, 1) := by decide +kernel
theorem dX4_isDigit_13 : decode prog_6_method_16_code 13 = .ok (.goto 4, 3) := by decide +kernel
theorem dX4_isDigit_16 : decode prog_6_method_16_code 16 = .ok (.iconst 0, 1) := by decide +kernel
theorem dX4_isDigit_17 : decode prog_6_method_16_code 17 = .ok (.ireturn, 1) := by decide +kernel
theorem dX4_stepNumber_0 : decode prog_6_method_13_code 0 = .ok (.aload_n 0, 1) := by decide +kernel
theorem dX4_stepNumber_1 : decode prog_6_method_13_code 1 = .ok (.iconst 0, 1) := by decide +kernel
theorem dX4_stepNumber_2 : decode prog_6_method_13_code 2 = .ok (.putfield 30, 3) := by decide +kernel
theorem dX4_stepNumber_5 : decode prog_6_method_13_code 5 = .ok (.aload_n 0, 1) := by decide +kernel
theorem dX4_stepNumber_6 : decode prog_6_method_13_code 6 = .ok (.getfield 27, 3) := by decide +kernel
theorem dX4_stepNumber_9 : decode prog_6_method_13_code 9 = .ok (.aload_n 0, 1) := by decide +kernel
theorem dX4_stepNumber_10 : decode prog_6_method_13_code 10 = .ok (.getfield 13, 3) := by decide +kernel
theorem dX4_stepNumber_13 : decode prog_6_method_13_code 13 = .ok (.if_icmp .ge 68, 3) := by decide +kernel
theorem dX4_stepNumber_16 : decode prog_6_method_13_code 16 = .ok (.aload_n 0, 1) := by decide +kernel
theorem dX4_stepNumber_17 : decode prog_6_method_13_code 17 = .ok (.getfield 17, 3) := by decide +kernel
theorem dX4_stepNumber_20 : decode prog_6_method_13_code 20 = .ok (.aload_n 0, 1) := by decide +kernel
theorem dX4_stepNumber_21 : decode prog_6_method_13_code 21 = .ok (.getfield 27, 3) := by decide +kernel
theorem dX4_stepNumber_24 : decode prog_6_method_13_code 24 = .ok (.iaload, 1) := by decide +kernel
theorem dX4_stepNumber_25 : decode prog_6_method_13_code 25 = .ok (.invokestatic 78, 3) := by decide +kernel
theorem dX4_stepNumber_28 : decode prog_6_method_13_code 28 = .ok (.ifCond .eq 53, 3) := by decide +kernel
theorem dX4_stepNumber_31 : decode prog_6_method_13_code 31 = .ok (.aload_n 0, 1) := by decide +kernel
theorem dX4_stepNumber_32 : decode prog_6_method_13_code 32 = .ok (.getfield 27, 3) := by decide +kernel
theorem dX4_stepNumber_35 : decode prog_6_method_13_code 35 = .ok (.aload_n 0, 1) := by decide +kernel
theorem dX4_stepNumber_36 : decode prog_6_method_13_code 36 = .ok (.getfield 24, 3) := by decide +kernel
theorem dX4_stepNumber_39 : decode prog_6_method_13_code 39 = .ok (.isub, 1) := by decide +kernel
theorem dX4_stepNumber_40 : decode prog_6_method_13_code 40 = .ok (.iconst 4, 1) := by decide +kernel
theorem dX4_stepNumber_41 : decode prog_6_method_13_code 41 = .ok (.if_icmp .ge 27, 3) := by decide +kernel
theorem dX4_stepNumber_44 : decode prog_6_method_13_code 44 = .ok (.aload_n 0, 1) := by decide +kernel
theorem dX4_stepNumber_45 : decode prog_6_method_13_code 45 = .ok (.aload_n 0, 1) := by decide +kernel
theorem dX4_stepNumber_46 : decode prog_6_method_13_code 46 = .ok (.getfield 30, 3) := by decide +kernel
theorem dX4_stepNumber_49 : decode prog_6_method_13_code 49 = .ok (.bipush 10, 2) := by decide +kernel
theorem dX4_stepNumber_51 : decode prog_6_method_13_code 51 = .ok (.imul, 1) := by decide +kernel
theorem dX4_stepNumber_52 : decode prog_6_method_13_code 52 = .ok (.aload_n 0, 1) := by decide +kernel
theorem dX4_stepNumber_53 : decode prog_6_method_13_code 53 = .ok (.getfield 17, 3) := by decide +kernel
theorem dX4_stepNumber_56 : decode prog_6_method_13_code 56 = .ok (.aload_n 0, 1) := by decide +kernel
theorem dX4_stepNumber_57 : decode prog_6_method_13_code 57 = .ok (.getfield 27, 3) := by decide +kernel
theorem dX4_stepNumber_60 : decode prog_6_method_13_code 60 = .ok (.iaload, 1) := by decide +kernel
theorem dX4_stepNumber_61 : decode prog_6_method_13_code 61 = .ok (.iadd, 1) := by decide +kernel
theorem dX4_stepNumber_62 : decode prog_6_method_13_code 62 = .ok (.bipush 48, 2) := by decide +kernel
theorem dX4_stepNumber_64 : decode prog_6_method_13_code 64 = .ok (.isub, 1) := by decide +kernel
theorem dX4_stepNumber_65 : decode prog_6_method_13_code 65 = .ok (.putfield 30, 3) := by decide +kernel
theorem dX4_stepNumber_68 : decode prog_6_method_13_code 68 = .ok (.aload_n 0, 1) := by decide +kernel
theorem dX4_stepNumber_69 : decode prog_6_method_13_code 69 = .ok (.dup, 1) := by decide +kernel
theorem dX4_stepNumber_70 : decode prog_6_method_13_code 70 = .ok (.getfield 27, 3) := by decide +kernel
theorem dX4_stepNumber_73 : decode prog_6_method_13_code 73 = .ok (.iconst 1, 1) := by decide +kernel
theorem dX4_stepNumber_74 : decode prog_6_method_13_code 74 = .ok (.iadd, 1) := by decide +kernel
theorem dX4_stepNumber_75 : decode prog_6_method_13_code 75 = .ok (.putfield 27, 3) := by decide +kernel
theorem dX4_stepNumber_78 : decode prog_6_method_13_code 78 = .ok (.goto (-73), 3) := by decide +kernel
theorem dX4_stepNumber_81 : decode prog_6_method_13_code 81 = .ok (.aload_n 0, 1) := by decide +kernel
theorem dX4_stepNumber_82 : decode prog_6_method_13_code 82 = .ok (.aload_n 0, 1) := by decide +kernel
theorem dX4_stepNumber_83 : decode prog_6_method_13_code 83 = .ok (.getfield 27, 3) := by decide +kernel
theorem dX4_stepNumber_86 : decode prog_6_method_13_code 86 = .ok (.aload_n 0, 1) := by decide +kernel
theorem dX4_stepNumber_87 : decode prog_6_method_13_code 87 = .ok (.getfield 24, 3) := by decide +kernel
theorem dX4_stepNumber_90 : decode prog_6_method_13_code 90 = .ok (.isub, 1) := by decide +kernel
theorem dX4_stepNumber_91 : decode prog_6_method_13_code 91 = .ok (.iconst 4, 1) := by decide +kernel
theorem dX4_stepNumber_92 : decode prog_6_method_13_code 92 = .ok (.if_icmp .le 7, 3) := by decide +kernel
theorem dX4_stepNumber_95 : decode prog_6_method_13_code 95 = .ok (.iconst 1, 1) := by decide +kernel
theorem dX4_stepNumber_96 : decode prog_6_method_13_code 96 = .ok (.goto 4, 3) := by decide +kernel
theorem dX4_stepNumber_99 : decode prog_6_method_13_code 99 = .ok (.iconst 2, 1) := by decide +kernel
theorem dX4_stepNumber_100 : decode prog_6_method_13_code 100 = .ok (.putfield 21, 3) := by decide +kernel
theorem dX4_stepNumber_103 : decode prog_6_method_13_code 103 = .ok (.return_, 1) := by decide +kernel
theorem dX4_isLetter_0 : decode prog_6_method_17_code 0 = .ok (.iload_n 0, 1) := by decide +kernel
theorem dX4_isLetter_1 : decode prog_6_method_17_code 1 = .ok (.bipush 97, 2) := by decide +kernel
theorem dX4_isLetter_3 : decode prog_6_method_17_code 3 = .ok (.if_icmp .lt 13, 3) := by decide +kernel
theorem dX4_isLetter_6 : decode prog_6_method_17_code 6 = .ok (.iload_n 0, 1) := by decide +kernel
theorem dX4_isLetter_7 : decode prog_6_method_17_code 7 = .ok (.bipush 122, 2) := by decide +kernel
theorem dX4_isLetter_9 : decode prog_6_method_17_code 9 = .ok (.if_icmp .gt 7, 3) := by decide +kernel
theorem dX4_isLetter_12 : decode prog_6_method_17_code 12 = .ok (.iconst 1, 1) := by decide +kernel
theorem dX4_isLetter_13 : decode prog_6_method_17_code 13 = .ok (.goto 4, 3) := by decide +kernel
theorem dX4_isLetter_16 : decode prog_6_method_17_code 16 = .ok (.iconst 0, 1) := by decide +kernel
theorem dX4_isLetter_17 : decode prog_6_method_17_code 17 = .ok (.ireturn, 1) := by decide +kernel
theorem dX4_stepWord_0 : decode prog_6_method_14_code 0 = .ok (.aload_n 0, 1) := by decide +kernel
theorem dX4_stepWord_1 : decode prog_6_method_14_code 1 = .ok (.getfield 27, 3) := by decide +kernel
theorem dX4_stepWord_4 : decode prog_6_method_14_code 4 = .ok (.aload_n 0, 1) := by decide +kernel
theorem dX4_stepWord_5 : decode prog_6_method_14_code 5 = .ok (.getfield 13, 3) := by decide +kernel
theorem dX4_stepWord_8 : decode prog_6_method_14_code 8 = .ok (.if_icmp .ge 31, 3) := by decide +kernel
theorem dX4_stepWord_11 : decode prog_6_method_14_code 11 = .ok (.aload_n 0, 1) := by decide +kernel
theorem dX4_stepWord_12 : decode prog_6_method_14_code 12 = .ok (.getfield 17, 3) := by decide +kernel
theorem dX4_stepWord_15 : decode prog_6_method_14_code 15 = .ok (.aload_n 0, 1) := by decide +kernel
theorem dX4_stepWord_16 : decode prog_6_method_14_code 16 = .ok (.getfield 27, 3) := by decide +kernel
theorem dX4_stepWord_19 : decode prog_6_method_14_code 19 = .ok (.iaload, 1) := by decide +kernel
theorem dX4_stepWord_20 : decode prog_6_method_14_code 20 = .ok (.invokestatic 84, 3) := by decide +kernel
theorem dX4_stepWord_23 : decode prog_6_method_14_code 23 = .ok (.ifCond .eq 16, 3) := by decide +kernel
theorem dX4_stepWord_26 : decode prog_6_method_14_code 26 = .ok (.aload_n 0, 1) := by decide +kernel
theorem dX4_stepWord_27 : decode prog_6_method_14_code 27 = .ok (.dup, 1) := by decide +kernel
theorem dX4_stepWord_28 : decode prog_6_method_14_code 28 = .ok (.getfield 27, 3) := by decide +kernel
theorem dX4_stepWord_31 : decode prog_6_method_14_code 31 = .ok (.iconst 1, 1) := by decide +kernel
theorem dX4_stepWord_32 : decode prog_6_method_14_code 32 = .ok (.iadd, 1) := by decide +kernel
theorem dX4_stepWord_33 : decode prog_6_method_14_code 33 = .ok (.putfield 27, 3) := by decide +kernel
theorem dX4_stepWord_36 : decode prog_6_method_14_code 36 = .ok (.goto (-36), 3) := by decide +kernel
theorem dX4_stepWord_39 : decode prog_6_method_14_code 39 = .ok (.aload_n 0, 1) := by decide +kernel
theorem dX4_stepWord_40 : decode prog_6_method_14_code 40 = .ok (.iconst 1, 1) := by decide +kernel
theorem dX4_stepWord_41 : decode prog_6_method_14_code 41 = .ok (.putfield 21, 3) := by decide +kernel
theorem dX4_stepWord_44 : decode prog_6_method_14_code 44 = .ok (.iconst 0, 1) := by decide +kernel
theorem dX4_stepWord_45 : decode prog_6_method_14_code 45 = .ok (.istore_n 1, 1) := by decide +kernel
theorem dX4_stepWord_46 : decode prog_6_method_14_code 46 = .ok (.iload_n 1, 1) := by decide +kernel
theorem dX4_stepWord_47 : decode prog_6_method_14_code 47 = .ok (.bipush 12, 2) := by decide +kernel
theorem dX4_stepWord_49 : decode prog_6_method_14_code 49 = .ok (.if_icmp .ge 26, 3) := by decide +kernel
theorem dX4_stepWord_52 : decode prog_6_method_14_code 52 = .ok (.aload_n 0, 1) := by decide +kernel
theorem dX4_stepWord_53 : decode prog_6_method_14_code 53 = .ok (.iload_n 1, 1) := by decide +kernel
theorem dX4_stepWord_54 : decode prog_6_method_14_code 54 = .ok (.invokevirtual 98, 3) := by decide +kernel
theorem dX4_stepWord_57 : decode prog_6_method_14_code 57 = .ok (.ifCond .eq 12, 3) := by decide +kernel
theorem dX4_stepWord_60 : decode prog_6_method_14_code 60 = .ok (.aload_n 0, 1) := by decide +kernel
theorem dX4_stepWord_61 : decode prog_6_method_14_code 61 = .ok (.sipush 256, 3) := by decide +kernel
theorem dX4_stepWord_64 : decode prog_6_method_14_code 64 = .ok (.iload_n 1, 1) := by decide +kernel
theorem dX4_stepWord_65 : decode prog_6_method_14_code 65 = .ok (.iadd, 1) := by decide +kernel
theorem dX4_stepWord_66 : decode prog_6_method_14_code 66 = .ok (.putfield 21, 3) := by decide +kernel
theorem dX4_stepWord_69 : decode prog_6_method_14_code 69 = .ok (.iinc 1 1, 3) := by decide +kernel
theorem dX4_stepWord_72 : decode prog_6_method_14_code 72 = .ok (.goto (-26), 3) := by decide +kernel
theorem dX4_stepWord_75 : decode prog_6_method_14_code 75 = .ok (.return_, 1) := by decide +kernel
theorem dX4_isWord_0 : decode prog_6_method_15_code 0 = .ok (.aload_n 0, 1) := by decide +kernel
theorem dX4_isWord_1 : decode prog_6_method_15_code 1 = .ok (.getfield 27, 3) := by decide +kernel
theorem dX4_isWord_4 : decode prog_6_method_15_code 4 = .ok (.aload_n 0, 1) := by decide +kernel
theorem dX4_isWord_5 : decode prog_6_method_15_code 5 = .ok (.getfield 24, 3) := by decide +kernel
theorem dX4_isWord_8 : decode prog_6_method_15_code 8 = .ok (.isub, 1) := by decide +kernel
theorem dX4_isWord_9 : decode prog_6_method_15_code 9 = .ok (.bipush 6, 2) := by decide +kernel
theorem dX4_isWord_11 : decode prog_6_method_15_code 11 = .ok (.if_icmp .le 5, 3) := by decide +kernel
theorem dX4_isWord_14 : decode prog_6_method_15_code 14 = .ok (.iconst 0, 1) := by decide +kernel
theorem dX4_isWord_15 : decode prog_6_method_15_code 15 = .ok (.ireturn, 1) := by decide +kernel
theorem dX4_isWord_16 : decode prog_6_method_15_code 16 = .ok (.iconst 0, 1) := by decide +kernel
theorem dX4_isWord_17 : decode prog_6_method_15_code 17 = .ok (.istore_n 2, 1) := by decide +kernel
theorem dX4_isWord_18 : decode prog_6_method_15_code 18 = .ok (.iload_n 2, 1) := by decide +kernel
theorem dX4_isWord_19 : decode prog_6_method_15_code 19 = .ok (.bipush 6, 2) := by decide +kernel
theorem dX4_isWord_21 : decode prog_6_method_15_code 21 = .ok (.if_icmp .ge 56, 3) := by decide +kernel
theorem dX4_isWord_24 : decode prog_6_method_15_code 24 = .ok (.aload_n 0, 1) := by decide +kernel
theorem dX4_isWord_25 : decode prog_6_method_15_code 25 = .ok (.getfield 24, 3) := by decide +kernel
theorem dX4_isWord_28 : decode prog_6_method_15_code 28 = .ok (.iload_n 2, 1) := by decide +kernel
theorem dX4_isWord_29 : decode prog_6_method_15_code 29 = .ok (.iadd, 1) := by decide +kernel
theorem dX4_isWord_30 : decode prog_6_method_15_code 30 = .ok (.aload_n 0, 1) := by decide +kernel
theorem dX4_isWord_31 : decode prog_6_method_15_code 31 = .ok (.getfield 27, 3) := by decide +kernel
theorem dX4_isWord_34 : decode prog_6_method_15_code 34 = .ok (.if_icmp .ge 17, 3) := by decide +kernel
theorem dX4_isWord_37 : decode prog_6_method_15_code 37 = .ok (.aload_n 0, 1) := by decide +kernel
theorem dX4_isWord_38 : decode prog_6_method_15_code 38 = .ok (.getfield 17, 3) := by decide +kernel
theorem dX4_isWord_41 : decode prog_6_method_15_code 41 = .ok (.aload_n 0, 1) := by decide +kernel
theorem dX4_isWord_42 : decode prog_6_method_15_code 42 = .ok (.getfield 24, 3) := by decide +kernel
theorem dX4_isWord_45 : decode prog_6_method_15_code 45 = .ok (.iload_n 2, 1) := by decide +kernel
theorem dX4_isWord_46 : decode prog_6_method_15_code 46 = .ok (.iadd, 1) := by decide +kernel
theorem dX4_isWord_47 : decode prog_6_method_15_code 47 = .ok (.iaload, 1) := by decide +kernel
theorem dX4_isWord_48 : decode prog_6_method_15_code 48 = .ok (.goto 5, 3) := by decide +kernel
theorem dX4_isWord_51 : decode prog_6_method_15_code 51 = .ok (.bipush 32, 2) := by decide +kernel
theorem dX4_isWord_53 : decode prog_6_method_15_code 53 = .ok (.istore_n 3, 1) := by decide +kernel
theorem dX4_isWord_54 : decode prog_6_method_15_code 54 = .ok (.ldc 101, 2) := by decide +kernel
theorem dX4_isWord_56 : decode prog_6_method_15_code 56 = .ok (.iload_n 1, 1) := by decide +kernel
theorem dX4_isWord_57 : decode prog_6_method_15_code 57 = .ok (.bipush 6, 2) := by decide +kernel
theorem dX4_isWord_59 : decode prog_6_method_15_code 59 = .ok (.imul, 1) := by decide +kernel
theorem dX4_isWord_60 : decode prog_6_method_15_code 60 = .ok (.iload_n 2, 1) := by decide +kernel
theorem dX4_isWord_61 : decode prog_6_method_15_code 61 = .ok (.iadd, 1) := by decide +kernel
theorem dX4_isWord_62 : decode prog_6_method_15_code 62 = .ok (.invokevirtual 103, 3) := by decide +kernel
theorem dX4_isWord_65 : decode prog_6_method_15_code 65 = .ok (.iload_n 3, 1) := by decide +kernel
theorem dX4_isWord_66 : decode prog_6_method_15_code 66 = .ok (.if_icmp .eq 5, 3) := by decide +kernel
theorem dX4_isWord_69 : decode prog_6_method_15_code 69 = .ok (.iconst 0, 1) := by decide +kernel
theorem dX4_isWord_70 : decode prog_6_method_15_code 70 = .ok (.ireturn, 1) := by decide +kernel
theorem dX4_isWord_71 : decode prog_6_method_15_code 71 = .ok (.iinc 2 1, 3) := by decide +kernel
theorem dX4_isWord_74 : decode prog_6_method_15_code 74 = .ok (.goto (-56), 3) := by decide +kernel
theorem dX4_isWord_77 : decode prog_6_method_15_code 77 = .ok (.iconst 1, 1) := by decide +kernel
theorem dX4_isWord_78 : decode prog_6_method_15_code 78 = .ok (.ireturn, 1) := by decide +kernel
theorem dX4_accept_0 : decode prog_6_method_5_code 0 = .ok (.aload_n 0, 1) := by decide +kernel
theorem dX4_accept_1 : decode prog_6_method_5_code 1 = .ok (.getfield 21, 3) := by decide +kernel
theorem dX4_accept_4 : decode prog_6_method_5_code 4 = .ok (.iload_n 1, 1) := by decide +kernel
theorem dX4_accept_5 : decode prog_6_method_5_code 5 = .ok (.if_icmp .eq 5, 3) := by decide +kernel
theorem dX4_accept_8 : decode prog_6_method_5_code 8 = .ok (.iconst 0, 1) := by decide +kernel
theorem dX4_accept_9 : decode prog_6_method_5_code 9 = .ok (.ireturn, 1) := by decide +kernel
theorem dX4_accept_10 : decode prog_6_method_5_code 10 = .ok (.aload_n 0, 1) := by decide +kernel
theorem dX4_accept_11 : decode prog_6_method_5_code 11 = .ok (.invokevirtual 40, 3) := by decide +kernel
theorem dX4_accept_14 : decode prog_6_method_5_code 14 = .ok (.iconst 1, 1) := by decide +kernel
theorem dX4_accept_15 : decode prog_6_method_5_code 15 = .ok (.ireturn, 1) := by decide +kernel
theorem dX4_readOr_0 : decode prog_6_method_6_code 0 = .ok (.aload_n 0, 1) := by decide +kernel
theorem dX4_readOr_1 : decode prog_6_method_6_code 1 = .ok (.iload_n 1, 1) := by decide +kernel
theorem dX4_readOr_2 : decode prog_6_method_6_code 2 = .ok (.invokevirtual 54, 3) := by decide +kernel
theorem dX4_readOr_5 : decode prog_6_method_6_code 5 = .ok (.ifCond .ne 5, 3) := by decide +kernel
theorem dX4_readOr_8 : decode prog_6_method_6_code 8 = .ok (.iconst 0, 1) := by decide +kernel
theorem dX4_readOr_9 : decode prog_6_method_6_code 9 = .ok (.ireturn, 1) := by decide +kernel
theorem dX4_readOr_10 : decode prog_6_method_6_code 10 = .ok (.iconst 0, 1) := by decide +kernel
theorem dX4_readOr_11 : decode prog_6_method_6_code 11 = .ok (.istore_n 2, 1) := by decide +kernel
theorem dX4_readOr_12 : decode prog_6_method_6_code 12 = .ok (.iload_n 2, 1) := by decide +kernel
theorem dX4_readOr_13 : decode prog_6_method_6_code 13 = .ok (.sipush 160, 3) := by decide +kernel
theorem dX4_readOr_16 : decode prog_6_method_6_code 16 = .ok (.if_icmp .ge 43, 3) := by decide +kernel
theorem dX4_readOr_19 : decode prog_6_method_6_code 19 = .ok (.aload_n 0, 1) := by decide +kernel
theorem dX4_readOr_20 : decode prog_6_method_6_code 20 = .ok (.getfield 21, 3) := by decide +kernel
theorem dX4_readOr_23 : decode prog_6_method_6_code 23 = .ok (.sipush 265, 3) := by decide +kernel
theorem dX4_readOr_26 : decode prog_6_method_6_code 26 = .ok (.if_icmp .ne 33, 3) := by decide +kernel
theorem dX4_readOr_29 : decode prog_6_method_6_code 29 = .ok (.aload_n 0, 1) := by decide +kernel
theorem dX4_readOr_30 : decode prog_6_method_6_code 30 = .ok (.invokevirtual 40, 3) := by decide +kernel
theorem dX4_readOr_33 : decode prog_6_method_6_code 33 = .ok (.aload_n 0, 1) := by decide +kernel
theorem dX4_readOr_34 : decode prog_6_method_6_code 34 = .ok (.iload_n 1, 1) := by decide +kernel
theorem dX4_readOr_35 : decode prog_6_method_6_code 35 = .ok (.invokevirtual 54, 3) := by decide +kernel
theorem dX4_readOr_38 : decode prog_6_method_6_code 38 = .ok (.ifCond .ne 5, 3) := by decide +kernel
theorem dX4_readOr_41 : decode prog_6_method_6_code 41 = .ok (.iconst 0, 1) := by decide +kernel
theorem dX4_readOr_42 : decode prog_6_method_6_code 42 = .ok (.ireturn, 1) := by decide +kernel
theorem dX4_readOr_43 : decode prog_6_method_6_code 43 = .ok (.aload_n 0, 1) := by decide +kernel
theorem dX4_readOr_44 : decode prog_6_method_6_code 44 = .ok (.getfield 33, 3) := by decide +kernel
theorem dX4_readOr_47 : decode prog_6_method_6_code 47 = .ok (.sipush 265, 3) := by decide +kernel
theorem dX4_readOr_50 : decode prog_6_method_6_code 50 = .ok (.invokevirtual 57, 3) := by decide +kernel
theorem dX4_readOr_53 : decode prog_6_method_6_code 53 = .ok (.iinc 2 1, 3) := by decide +kernel
theorem dX4_readOr_56 : decode prog_6_method_6_code 56 = .ok (.goto (-44), 3) := by decide +kernel
theorem dX4_readOr_59 : decode prog_6_method_6_code 59 = .ok (.iconst 1, 1) := by decide +kernel
theorem dX4_readOr_60 : decode prog_6_method_6_code 60 = .ok (.ireturn, 1) := by decide +kernel
theorem dX4_readAnd_0 : decode prog_6_method_7_code 0 = .ok (.aload_n 0, 1) := by decide +kernel
theorem dX4_readAnd_1 : decode prog_6_method_7_code 1 = .ok (.iload_n 1, 1) := by decide +kernel
theorem dX4_readAnd_2 : decode prog_6_method_7_code 2 = .ok (.invokevirtual 60, 3) := by decide +kernel
theorem dX4_readAnd_5 : decode prog_6_method_7_code 5 = .ok (.ifCond .ne 5, 3) := by decide +kernel
theorem dX4_readAnd_8 : decode prog_6_method_7_code 8 = .ok (.iconst 0, 1) := by decide +kernel
theorem dX4_readAnd_9 : decode prog_6_method_7_code 9 = .ok (.ireturn, 1) := by decide +kernel
theorem dX4_readAnd_10 : decode prog_6_method_7_code 10 = .ok (.iconst 0, 1) := by decide +kernel
theorem dX4_readAnd_11 : decode prog_6_method_7_code 11 = .ok (.istore_n 2, 1) := by decide +kernel
theorem dX4_readAnd_12 : decode prog_6_method_7_code 12 = .ok (.iload_n 2, 1) := by decide +kernel
theorem dX4_readAnd_13 : decode prog_6_method_7_code 13 = .ok (.sipush 160, 3) := by decide +kernel
theorem dX4_readAnd_16 : decode prog_6_method_7_code 16 = .ok (.if_icmp .ge 43, 3) := by decide +kernel
theorem dX4_readAnd_19 : decode prog_6_method_7_code 19 = .ok (.aload_n 0, 1) := by decide +kernel
theorem dX4_readAnd_20 : decode prog_6_method_7_code 20 = .ok (.getfield 21, 3) := by decide +kernel
theorem dX4_readAnd_23 : decode prog_6_method_7_code 23 = .ok (.sipush 266, 3) := by decide +kernel
theorem dX4_readAnd_26 : decode prog_6_method_7_code 26 = .ok (.if_icmp .ne 33, 3) := by decide +kernel
theorem dX4_readAnd_29 : decode prog_6_method_7_code 29 = .ok (.aload_n 0, 1) := by decide +kernel
theorem dX4_readAnd_30 : decode prog_6_method_7_code 30 = .ok (.invokevirtual 40, 3) := by decide +kernel
theorem dX4_readAnd_33 : decode prog_6_method_7_code 33 = .ok (.aload_n 0, 1) := by decide +kernel
theorem dX4_readAnd_34 : decode prog_6_method_7_code 34 = .ok (.iload_n 1, 1) := by decide +kernel
theorem dX4_readAnd_35 : decode prog_6_method_7_code 35 = .ok (.invokevirtual 60, 3) := by decide +kernel
theorem dX4_readAnd_38 : decode prog_6_method_7_code 38 = .ok (.ifCond .ne 5, 3) := by decide +kernel
theorem dX4_readAnd_41 : decode prog_6_method_7_code 41 = .ok (.iconst 0, 1) := by decide +kernel
theorem dX4_readAnd_42 : decode prog_6_method_7_code 42 = .ok (.ireturn, 1) := by decide +kernel
theorem dX4_readAnd_43 : decode prog_6_method_7_code 43 = .ok (.aload_n 0, 1) := by decide +kernel
theorem dX4_readAnd_44 : decode prog_6_method_7_code 44 = .ok (.getfield 33, 3) := by decide +kernel
theorem dX4_readAnd_47 : decode prog_6_method_7_code 47 = .ok (.sipush 266, 3) := by decide +kernel
theorem dX4_readAnd_50 : decode prog_6_method_7_code 50 = .ok (.invokevirtual 57, 3) := by decide +kernel
theorem dX4_readAnd_53 : decode prog_6_method_7_code 53 = .ok (.iinc 2 1, 3) := by decide +kernel
theorem dX4_readAnd_56 : decode prog_6_method_7_code 56 = .ok (.goto (-44), 3) := by decide +kernel
theorem dX4_readAnd_59 : decode prog_6_method_7_code 59 = .ok (.iconst 1, 1) := by decide +kernel
theorem dX4_readAnd_60 : decode prog_6_method_7_code 60 = .ok (.ireturn, 1) := by decide +kernel
theorem dX4_readNot_0 : decode prog_6_method_8_code 0 = .ok (.aload_n 0, 1) := by decide +kernel
theorem dX4_readNot_1 : decode prog_6_method_8_code 1 = .ok (.getfield 21, 3) := by decide +kernel
theorem dX4_readNot_4 : decode prog_6_method_8_code 4 = .ok (.sipush 267, 3) := by decide +kernel
theorem dX4_readNot_7 : decode prog_6_method_8_code 7 = .ok (.if_icmp .ne 38, 3) := by decide +kernel
theorem dX4_readNot_10 : decode prog_6_method_8_code 10 = .ok (.iload_n 1, 1) := by decide +kernel
theorem dX4_readNot_11 : decode prog_6_method_8_code 11 = .ok (.iconst 5, 1) := by decide +kernel
theorem dX4_readNot_12 : decode prog_6_method_8_code 12 = .ok (.if_icmp .lt 5, 3) := by decide +kernel
theorem dX4_readNot_15 : decode prog_6_method_8_code 15 = .ok (.iconst 0, 1) := by decide +kernel
theorem dX4_readNot_16 : decode prog_6_method_8_code 16 = .ok (.ireturn, 1) := by decide +kernel
theorem dX4_readNot_17 : decode prog_6_method_8_code 17 = .ok (.aload_n 0, 1) := by decide +kernel
theorem dX4_readNot_18 : decode prog_6_method_8_code 18 = .ok (.invokevirtual 40, 3) := by decide +kernel
theorem dX4_readNot_21 : decode prog_6_method_8_code 21 = .ok (.aload_n 0, 1) := by decide +kernel
theorem dX4_readNot_22 : decode prog_6_method_8_code 22 = .ok (.iload_n 1, 1) := by decide +kernel
theorem dX4_readNot_23 : decode prog_6_method_8_code 23 = .ok (.iconst 1, 1) := by decide +kernel
theorem dX4_readNot_24 : decode prog_6_method_8_code 24 = .ok (.iadd, 1) := by decide +kernel
theorem dX4_readNot_25 : decode prog_6_method_8_code 25 = .ok (.invokevirtual 60, 3) := by decide +kernel
theorem dX4_readNot_28 : decode prog_6_method_8_code 28 = .ok (.ifCond .ne 5, 3) := by decide +kernel
theorem dX4_readNot_31 : decode prog_6_method_8_code 31 = .ok (.iconst 0, 1) := by decide +kernel
theorem dX4_readNot_32 : decode prog_6_method_8_code 32 = .ok (.ireturn, 1) := by decide +kernel
theorem dX4_readNot_33 : decode prog_6_method_8_code 33 = .ok (.aload_n 0, 1) := by decide +kernel
theorem dX4_readNot_34 : decode prog_6_method_8_code 34 = .ok (.getfield 33, 3) := by decide +kernel
theorem dX4_readNot_37 : decode prog_6_method_8_code 37 = .ok (.sipush 267, 3) := by decide +kernel
theorem dX4_readNot_40 : decode prog_6_method_8_code 40 = .ok (.invokevirtual 57, 3) := by decide +kernel
theorem dX4_readNot_43 : decode prog_6_method_8_code 43 = .ok (.iconst 1, 1) := by decide +kernel
theorem dX4_readNot_44 : decode prog_6_method_8_code 44 = .ok (.ireturn, 1) := by decide +kernel
theorem dX4_readNot_45 : decode prog_6_method_8_code 45 = .ok (.aload_n 0, 1) := by decide +kernel
theorem dX4_readNot_46 : decode prog_6_method_8_code 46 = .ok (.iload_n 1, 1) := by decide +kernel
theorem dX4_readNot_47 : decode prog_6_method_8_code 47 = .ok (.invokevirtual 63, 3) := by decide +kernel
theorem dX4_readNot_50 : decode prog_6_method_8_code 50 = .ok (.ifCond .ne 5, 3) := by decide +kernel
theorem dX4_readNot_53 : decode prog_6_method_8_code 53 = .ok (.iconst 0, 1) := by decide +kernel
theorem dX4_readNot_54 : decode prog_6_method_8_code 54 = .ok (.ireturn, 1) := by decide +kernel
theorem dX4_readNot_55 : decode prog_6_method_8_code 55 = .ok (.aload_n 0, 1) := by decide +kernel
theorem dX4_readNot_56 : decode prog_6_method_8_code 56 = .ok (.getfield 21, 3) := by decide +kernel
theorem dX4_readNot_59 : decode prog_6_method_8_code 59 = .ok (.bipush 60, 2) := by decide +kernel
theorem dX4_readNot_61 : decode prog_6_method_8_code 61 = .ok (.if_icmp .eq 14, 3) := by decide +kernel
theorem dX4_readNot_64 : decode prog_6_method_8_code 64 = .ok (.aload_n 0, 1) := by decide +kernel
theorem dX4_readNot_65 : decode prog_6_method_8_code 65 = .ok (.getfield 21, 3) := by decide +kernel
theorem dX4_readNot_68 : decode prog_6_method_8_code 68 = .ok (.bipush 61, 2) := by decide +kernel
theorem dX4_readNot_70 : decode prog_6_method_8_code 70 = .ok (.if_icmp .eq 5, 3) := by decide +kernel
theorem dX4_readNot_73 : decode prog_6_method_8_code 73 = .ok (.iconst 1, 1) := by decide +kernel
theorem dX4_readNot_74 : decode prog_6_method_8_code 74 = .ok (.ireturn, 1) := by decide +kernel
theorem dX4_readNot_75 : decode prog_6_method_8_code 75 = .ok (.aload_n 0, 1) := by decide +kernel
theorem dX4_readNot_76 : decode prog_6_method_8_code 76 = .ok (.getfield 21, 3) := by decide +kernel
theorem dX4_readNot_79 : decode prog_6_method_8_code 79 = .ok (.istore_n 2, 1) := by decide +kernel
theorem dX4_readNot_80 : decode prog_6_method_8_code 80 = .ok (.aload_n 0, 1) := by decide +kernel
theorem dX4_readNot_81 : decode prog_6_method_8_code 81 = .ok (.invokevirtual 40, 3) := by decide +kernel
theorem dX4_readNot_84 : decode prog_6_method_8_code 84 = .ok (.aload_n 0, 1) := by decide +kernel
theorem dX4_readNot_85 : decode prog_6_method_8_code 85 = .ok (.iload_n 1, 1) := by decide +kernel
theorem dX4_readNot_86 : decode prog_6_method_8_code 86 = .ok (.invokevirtual 63, 3) := by decide +kernel
theorem dX4_readNot_89 : decode prog_6_method_8_code 89 = .ok (.ifCond .ne 5, 3) := by decide +kernel
theorem dX4_readNot_92 : decode prog_6_method_8_code 92 = .ok (.iconst 0, 1) := by decide +kernel
theorem dX4_readNot_93 : decode prog_6_method_8_code 93 = .ok (.ireturn, 1) := by decide +kernel
theorem dX4_readNot_94 : decode prog_6_method_8_code 94 = .ok (.aload_n 0, 1) := by decide +kernel
theorem dX4_readNot_95 : decode prog_6_method_8_code 95 = .ok (.getfield 33, 3) := by decide +kernel
theorem dX4_readNot_98 : decode prog_6_method_8_code 98 = .ok (.iload_n 2, 1) := by decide +kernel
theorem dX4_readNot_99 : decode prog_6_method_8_code 99 = .ok (.invokevirtual 57, 3) := by decide +kernel
theorem dX4_readNot_102 : decode prog_6_method_8_code 102 = .ok (.iconst 1, 1) := by decide +kernel
theorem dX4_readNot_103 : decode prog_6_method_8_code 103 = .ok (.ireturn, 1) := by decide +kernel
theorem dX4_readSum_0 : decode prog_6_method_9_code 0 = .ok (.aload_n 0, 1) := by decide +kernel
theorem dX4_readSum_1 : decode prog_6_method_9_code 1 = .ok (.iload_n 1, 1) := by decide +kernel
theorem dX4_readSum_2 : decode prog_6_method_9_code 2 = .ok (.invokevirtual 66, 3) := by decide +kernel
theorem dX4_readSum_5 : decode prog_6_method_9_code 5 = .ok (.ifCond .ne 5, 3) := by decide +kernel
theorem dX4_readSum_8 : decode prog_6_method_9_code 8 = .ok (.iconst 0, 1) := by decide +kernel
theorem dX4_readSum_9 : decode prog_6_method_9_code 9 = .ok (.ireturn, 1) := by decide +kernel
theorem dX4_readSum_10 : decode prog_6_method_9_code 10 = .ok (.iconst 0, 1) := by decide +kernel
theorem dX4_readSum_11 : decode prog_6_method_9_code 11 = .ok (.istore_n 2, 1) := by decide +kernel
theorem dX4_readSum_12 : decode prog_6_method_9_code 12 = .ok (.iload_n 2, 1) := by decide +kernel
theorem dX4_readSum_13 : decode prog_6_method_9_code 13 = .ok (.sipush 160, 3) := by decide +kernel
theorem dX4_readSum_16 : decode prog_6_method_9_code 16 = .ok (.if_icmp .ge 54, 3) := by decide +kernel
theorem dX4_readSum_19 : decode prog_6_method_9_code 19 = .ok (.aload_n 0, 1) := by decide +kernel
theorem dX4_readSum_20 : decode prog_6_method_9_code 20 = .ok (.getfield 21, 3) := by decide +kernel
theorem dX4_readSum_23 : decode prog_6_method_9_code 23 = .ok (.bipush 43, 2) := by decide +kernel
theorem dX4_readSum_25 : decode prog_6_method_9_code 25 = .ok (.if_icmp .eq 12, 3) := by decide +kernel
theorem dX4_readSum_28 : decode prog_6_method_9_code 28 = .ok (.aload_n 0, 1) := by decide +kernel
theorem dX4_readSum_29 : decode prog_6_method_9_code 29 = .ok (.getfield 21, 3) := by decide +kernel
theorem dX4_readSum_32 : decode prog_6_method_9_code 32 = .ok (.bipush 45, 2) := by decide +kernel
theorem dX4_readSum_34 : decode prog_6_method_9_code 34 = .ok (.if_icmp .ne 36, 3) := by decide +kernel
theorem dX4_readSum_37 : decode prog_6_method_9_code 37 = .ok (.aload_n 0, 1) := by decide +kernel
theorem dX4_readSum_38 : decode prog_6_method_9_code 38 = .ok (.getfield 21, 3) := by decide +kernel
theorem dX4_readSum_41 : decode prog_6_method_9_code 41 = .ok (.istore_n 3, 1) := by decide +kernel
theorem dX4_readSum_42 : decode prog_6_method_9_code 42 = .ok (.aload_n 0, 1) := by decide +kernel
theorem dX4_readSum_43 : decode prog_6_method_9_code 43 = .ok (.invokevirtual 40, 3) := by decide +kernel
theorem dX4_readSum_46 : decode prog_6_method_9_code 46 = .ok (.aload_n 0, 1) := by decide +kernel
theorem dX4_readSum_47 : decode prog_6_method_9_code 47 = .ok (.iload_n 1, 1) := by decide +kernel
theorem dX4_readSum_48 : decode prog_6_method_9_code 48 = .ok (.invokevirtual 66, 3) := by decide +kernel
theorem dX4_readSum_51 : decode prog_6_method_9_code 51 = .ok (.ifCond .ne 5, 3) := by decide +kernel
theorem dX4_readSum_54 : decode prog_6_method_9_code 54 = .ok (.iconst 0, 1) := by decide +kernel
theorem dX4_readSum_55 : decode prog_6_method_9_code 55 = .ok (.ireturn, 1) := by decide +kernel
theorem dX4_readSum_56 : decode prog_6_method_9_code 56 = .ok (.aload_n 0, 1) := by decide +kernel
theorem dX4_readSum_57 : decode prog_6_method_9_code 57 = .ok (.getfield 33, 3) := by decide +kernel
theorem dX4_readSum_60 : decode prog_6_method_9_code 60 = .ok (.iload_n 3, 1) := by decide +kernel
theorem dX4_readSum_61 : decode prog_6_method_9_code 61 = .ok (.invokevirtual 57, 3) := by decide +kernel
theorem dX4_readSum_64 : decode prog_6_method_9_code 64 = .ok (.iinc 2 1, 3) := by decide +kernel
theorem dX4_readSum_67 : decode prog_6_method_9_code 67 = .ok (.goto (-55), 3) := by decide +kernel
theorem dX4_readSum_70 : decode prog_6_method_9_code 70 = .ok (.iconst 1, 1) := by decide +kernel
theorem dX4_readSum_71 : decode prog_6_method_9_code 71 = .ok (.ireturn, 1) := by decide +kernel
theorem dX4_readTerm_0 : decode prog_6_method_10_code 0 = .ok (.aload_n 0, 1) := by decide +kernel
theorem dX4_readTerm_1 : decode prog_6_method_10_code 1 = .ok (.iload_n 1, 1) := by decide +kernel
theorem dX4_readTerm_2 : decode prog_6_method_10_code 2 = .ok (.invokevirtual 69, 3) := by decide +kernel
theorem dX4_readTerm_5 : decode prog_6_method_10_code 5 = .ok (.ifCond .ne 5, 3) := by decide +kernel
theorem dX4_readTerm_8 : decode prog_6_method_10_code 8 = .ok (.iconst 0, 1) := by decide +kernel
theorem dX4_readTerm_9 : decode prog_6_method_10_code 9 = .ok (.ireturn, 1) := by decide +kernel
theorem dX4_readTerm_10 : decode prog_6_method_10_code 10 = .ok (.iconst 0, 1) := by decide +kernel
theorem dX4_readTerm_11 : decode prog_6_method_10_code 11 = .ok (.istore_n 2, 1) := by decide +kernel
theorem dX4_readTerm_12 : decode prog_6_method_10_code 12 = .ok (.iload_n 2, 1) := by decide +kernel
theorem dX4_readTerm_13 : decode prog_6_method_10_code 13 = .ok (.sipush 160, 3) := by decide +kernel
theorem dX4_readTerm_16 : decode prog_6_method_10_code 16 = .ok (.if_icmp .ge 41, 3) := by decide +kernel
theorem dX4_readTerm_19 : decode prog_6_method_10_code 19 = .ok (.aload_n 0, 1) := by decide +kernel
theorem dX4_readTerm_20 : decode prog_6_method_10_code 20 = .ok (.getfield 21, 3) := by decide +kernel
theorem dX4_readTerm_23 : decode prog_6_method_10_code 23 = .ok (.bipush 42, 2) := by decide +kernel
theorem dX4_readTerm_25 : decode prog_6_method_10_code 25 = .ok (.if_icmp .ne 32, 3) := by decide +kernel
theorem dX4_readTerm_28 : decode prog_6_method_10_code 28 = .ok (.aload_n 0, 1) := by decide +kernel
theorem dX4_readTerm_29 : decode prog_6_method_10_code 29 = .ok (.invokevirtual 40, 3) := by decide +kernel
theorem dX4_readTerm_32 : decode prog_6_method_10_code 32 = .ok (.aload_n 0, 1) := by decide +kernel
theorem dX4_readTerm_33 : decode prog_6_method_10_code 33 = .ok (.iload_n 1, 1) := by decide +kernel
theorem dX4_readTerm_34 : decode prog_6_method_10_code 34 = .ok (.invokevirtual 69, 3) := by decide +kernel
theorem dX4_readTerm_37 : decode prog_6_method_10_code 37 = .ok (.ifCond .ne 5, 3) := by decide +kernel
theorem dX4_readTerm_40 : decode prog_6_method_10_code 40 = .ok (.iconst 0, 1) := by decide +kernel
theorem dX4_readTerm_41 : decode prog_6_method_10_code 41 = .ok (.ireturn, 1) := by decide +kernel
theorem dX4_readTerm_42 : decode prog_6_method_10_code 42 = .ok (.aload_n 0, 1) := by decide +kernel
theorem dX4_readTerm_43 : decode prog_6_method_10_code 43 = .ok (.getfield 33, 3) := by decide +kernel
theorem dX4_readTerm_46 : decode prog_6_method_10_code 46 = .ok (.bipush 42, 2) := by decide +kernel
theorem dX4_readTerm_48 : decode prog_6_method_10_code 48 = .ok (.invokevirtual 57, 3) := by decide +kernel
theorem dX4_readTerm_51 : decode prog_6_method_10_code 51 = .ok (.iinc 2 1, 3) := by decide +kernel
theorem dX4_readTerm_54 : decode prog_6_method_10_code 54 = .ok (.goto (-42), 3) := by decide +kernel
theorem dX4_readTerm_57 : decode prog_6_method_10_code 57 = .ok (.iconst 1, 1) := by decide +kernel
theorem dX4_readTerm_58 : decode prog_6_method_10_code 58 = .ok (.ireturn, 1) := by decide +kernel
theorem dX4_readOne_0 : decode prog_6_method_11_code 0 = .ok (.aload_n 0, 1) := by decide +kernel
theorem dX4_readOne_1 : decode prog_6_method_11_code 1 = .ok (.getfield 21, 3) := by decide +kernel
theorem dX4_readOne_4 : decode prog_6_method_11_code 4 = .ok (.iconst 2, 1) := by decide +kernel
theorem dX4_readOne_5 : decode prog_6_method_11_code 5 = .ok (.if_icmp .ne 20, 3) := by decide +kernel
theorem dX4_readOne_8 : decode prog_6_method_11_code 8 = .ok (.aload_n 0, 1) := by decide +kernel
theorem dX4_readOne_9 : decode prog_6_method_11_code 9 = .ok (.getfield 33, 3) := by decide +kernel
theorem dX4_readOne_12 : decode prog_6_method_11_code 12 = .ok (.aload_n 0, 1) := by decide +kernel
theorem dX4_readOne_13 : decode prog_6_method_11_code 13 = .ok (.getfield 30, 3) := by decide +kernel
theorem dX4_readOne_16 : decode prog_6_method_11_code 16 = .ok (.invokevirtual 72, 3) := by decide +kernel
theorem dX4_readOne_19 : decode prog_6_method_11_code 19 = .ok (.aload_n 0, 1) := by decide +kernel
theorem dX4_readOne_20 : decode prog_6_method_11_code 20 = .ok (.invokevirtual 40, 3) := by decide +kernel
theorem dX4_readOne_23 : decode prog_6_method_11_code 23 = .ok (.iconst 1, 1) := by decide +kernel
theorem dX4_readOne_24 : decode prog_6_method_11_code 24 = .ok (.ireturn, 1) := by decide +kernel
theorem dX4_readOne_25 : decode prog_6_method_11_code 25 = .ok (.aload_n 0, 1) := by decide +kernel
theorem dX4_readOne_26 : decode prog_6_method_11_code 26 = .ok (.getfield 21, 3) := by decide +kernel
theorem dX4_readOne_29 : decode prog_6_method_11_code 29 = .ok (.sipush 256, 3) := by decide +kernel
theorem dX4_readOne_32 : decode prog_6_method_11_code 32 = .ok (.if_icmp .lt 34, 3) := by decide +kernel
theorem dX4_readOne_35 : decode prog_6_method_11_code 35 = .ok (.aload_n 0, 1) := by decide +kernel
theorem dX4_readOne_36 : decode prog_6_method_11_code 36 = .ok (.getfield 21, 3) := by decide +kernel
theorem dX4_readOne_39 : decode prog_6_method_11_code 39 = .ok (.sipush 262, 3) := by decide +kernel
theorem dX4_readOne_42 : decode prog_6_method_11_code 42 = .ok (.if_icmp .ge 24, 3) := by decide +kernel
theorem dX4_readOne_45 : decode prog_6_method_11_code 45 = .ok (.aload_n 0, 1) := by decide +kernel
theorem dX4_readOne_46 : decode prog_6_method_11_code 46 = .ok (.getfield 33, 3) := by decide +kernel
theorem dX4_readOne_49 : decode prog_6_method_11_code 49 = .ok (.aload_n 0, 1) := by decide +kernel
theorem dX4_readOne_50 : decode prog_6_method_11_code 50 = .ok (.getfield 21, 3) := by decide +kernel
theorem dX4_readOne_53 : decode prog_6_method_11_code 53 = .ok (.sipush 256, 3) := by decide +kernel
theorem dX4_readOne_56 : decode prog_6_method_11_code 56 = .ok (.isub, 1) := by decide +kernel
theorem dX4_readOne_57 : decode prog_6_method_11_code 57 = .ok (.invokevirtual 75, 3) := by decide +kernel
theorem dX4_readOne_60 : decode prog_6_method_11_code 60 = .ok (.aload_n 0, 1) := by decide +kernel
theorem dX4_readOne_61 : decode prog_6_method_11_code 61 = .ok (.invokevirtual 40, 3) := by decide +kernel
theorem dX4_readOne_64 : decode prog_6_method_11_code 64 = .ok (.iconst 1, 1) := by decide +kernel
theorem dX4_readOne_65 : decode prog_6_method_11_code 65 = .ok (.ireturn, 1) := by decide +kernel
theorem dX4_readOne_66 : decode prog_6_method_11_code 66 = .ok (.iload_n 1, 1) := by decide +kernel
theorem dX4_readOne_67 : decode prog_6_method_11_code 67 = .ok (.iconst 5, 1) := by decide +kernel
theorem dX4_readOne_68 : decode prog_6_method_11_code 68 = .ok (.if_icmp .lt 5, 3) := by decide +kernel
theorem dX4_readOne_71 : decode prog_6_method_11_code 71 = .ok (.iconst 0, 1) := by decide +kernel
theorem dX4_readOne_72 : decode prog_6_method_11_code 72 = .ok (.ireturn, 1) := by decide +kernel
theorem dX4_readOne_73 : decode prog_6_method_11_code 73 = .ok (.aload_n 0, 1) := by decide +kernel
theorem dX4_readOne_74 : decode prog_6_method_11_code 74 = .ok (.getfield 21, 3) := by decide +kernel
theorem dX4_readOne_77 : decode prog_6_method_11_code 77 = .ok (.bipush 45, 2) := by decide +kernel
theorem dX4_readOne_79 : decode prog_6_method_11_code 79 = .ok (.if_icmp .ne 31, 3) := by decide +kernel
theorem dX4_readOne_82 : decode prog_6_method_11_code 82 = .ok (.aload_n 0, 1) := by decide +kernel
theorem dX4_readOne_83 : decode prog_6_method_11_code 83 = .ok (.invokevirtual 40, 3) := by decide +kernel
theorem dX4_readOne_86 : decode prog_6_method_11_code 86 = .ok (.aload_n 0, 1) := by decide +kernel
theorem dX4_readOne_87 : decode prog_6_method_11_code 87 = .ok (.iload_n 1, 1) := by decide +kernel
theorem dX4_readOne_88 : decode prog_6_method_11_code 88 = .ok (.iconst 1, 1) := by decide +kernel
theorem dX4_readOne_89 : decode prog_6_method_11_code 89 = .ok (.iadd, 1) := by decide +kernel
theorem dX4_readOne_90 : decode prog_6_method_11_code 90 = .ok (.invokevirtual 69, 3) := by decide +kernel
theorem dX4_readOne_93 : decode prog_6_method_11_code 93 = .ok (.ifCond .ne 5, 3) := by decide +kernel
theorem dX4_readOne_96 : decode prog_6_method_11_code 96 = .ok (.iconst 0, 1) := by decide +kernel
theorem dX4_readOne_97 : decode prog_6_method_11_code 97 = .ok (.ireturn, 1) := by decide +kernel
theorem dX4_readOne_98 : decode prog_6_method_11_code 98 = .ok (.aload_n 0, 1) := by decide +kernel
theorem dX4_readOne_99 : decode prog_6_method_11_code 99 = .ok (.getfield 33, 3) := by decide +kernel
theorem dX4_readOne_102 : decode prog_6_method_11_code 102 = .ok (.sipush 128, 3) := by decide +kernel
theorem dX4_readOne_105 : decode prog_6_method_11_code 105 = .ok (.invokevirtual 57, 3) := by decide +kernel
theorem dX4_readOne_108 : decode prog_6_method_11_code 108 = .ok (.iconst 1, 1) := by decide +kernel
theorem dX4_readOne_109 : decode prog_6_method_11_code 109 = .ok (.ireturn, 1) := by decide +kernel
theorem dX4_readOne_110 : decode prog_6_method_11_code 110 = .ok (.aload_n 0, 1) := by decide +kernel
theorem dX4_readOne_111 : decode prog_6_method_11_code 111 = .ok (.bipush 40, 2) := by decide +kernel
theorem dX4_readOne_113 : decode prog_6_method_11_code 113 = .ok (.invokevirtual 43, 3) := by decide +kernel
theorem dX4_readOne_116 : decode prog_6_method_11_code 116 = .ok (.ifCond .eq 26, 3) := by decide +kernel
theorem dX4_readOne_119 : decode prog_6_method_11_code 119 = .ok (.aload_n 0, 1) := by decide +kernel
theorem dX4_readOne_120 : decode prog_6_method_11_code 120 = .ok (.iload_n 1, 1) := by decide +kernel
theorem dX4_readOne_121 : decode prog_6_method_11_code 121 = .ok (.iconst 1, 1) := by decide +kernel
theorem dX4_readOne_122 : decode prog_6_method_11_code 122 = .ok (.iadd, 1) := by decide +kernel
theorem dX4_readOne_123 : decode prog_6_method_11_code 123 = .ok (.invokevirtual 47, 3) := by decide +kernel
theorem dX4_readOne_126 : decode prog_6_method_11_code 126 = .ok (.ifCond .eq 16, 3) := by decide +kernel
theorem dX4_readOne_129 : decode prog_6_method_11_code 129 = .ok (.aload_n 0, 1) := by decide +kernel
theorem dX4_readOne_130 : decode prog_6_method_11_code 130 = .ok (.bipush 41, 2) := by decide +kernel
theorem dX4_readOne_132 : decode prog_6_method_11_code 132 = .ok (.invokevirtual 43, 3) := by decide +kernel
theorem dX4_readOne_135 : decode prog_6_method_11_code 135 = .ok (.ifCond .eq 7, 3) := by decide +kernel
theorem dX4_readOne_138 : decode prog_6_method_11_code 138 = .ok (.iconst 1, 1) := by decide +kernel
theorem dX4_readOne_139 : decode prog_6_method_11_code 139 = .ok (.goto 4, 3) := by decide +kernel
theorem dX4_readOne_142 : decode prog_6_method_11_code 142 = .ok (.iconst 0, 1) := by decide +kernel
theorem dX4_readOne_143 : decode prog_6_method_11_code 143 = .ok (.ireturn, 1) := by decide +kernel
theorem dX4_empty_0 : decode prog_6_method_3_code 0 = .ok (.aload_n 0, 1) := by decide +kernel
theorem dX4_empty_1 : decode prog_6_method_3_code 1 = .ok (.iconst 0, 1) := by decide +kernel
theorem dX4_empty_2 : decode prog_6_method_3_code 2 = .ok (.putfield 13, 3) := by decide +kernel
theorem dX4_empty_5 : decode prog_6_method_3_code 5 = .ok (.return_, 1) := by decide +kernel
theorem dX6_clear_0 : decode prog_8_method_2_code 0 = .ok (.aload_n 0, 1) := by decide +kernel
theorem dX6_clear_1 : decode prog_8_method_2_code 1 = .ok (.iconst 0, 1) := by decide +kernel
theorem dX6_clear_2 : decode prog_8_method_2_code 2 = .ok (.putfield 18, 3) := by decide +kernel
theorem dX6_clear_5 : decode prog_8_method_2_code 5 = .ok (.aload_n 0, 1) := by decide +kernel
theorem dX6_clear_6 : decode prog_8_method_2_code 6 = .ok (.getfield 15, 3) := by decide +kernel
theorem dX6_clear_9 : decode prog_8_method_2_code 9 = .ok (.iconst 0, 1) := by decide +kernel
theorem dX6_clear_10 : decode prog_8_method_2_code 10 = .ok (.invokestatic 22, 3) := by decide +kernel
theorem dX6_clear_13 : decode prog_8_method_2_code 13 = .ok (.return_, 1) := by decide +kernel
theorem dX6_addOperator_0 : decode prog_8_method_5_code 0 = .ok (.aload_n 0, 1) := by decide +kernel
theorem dX6_addOperator_1 : decode prog_8_method_5_code 1 = .ok (.iload_n 1, 1) := by decide +kernel
theorem dX6_addOperator_2 : decode prog_8_method_5_code 2 = .ok (.ineg, 1) := by decide +kernel
theorem dX6_addOperator_3 : decode prog_8_method_5_code 3 = .ok (.invokevirtual 28, 3) := by decide +kernel
theorem dX6_addOperator_6 : decode prog_8_method_5_code 6 = .ok (.return_, 1) := by decide +kernel
theorem dX6_addNumber_0 : decode prog_8_method_3_code 0 = .ok (.aload_n 0, 1) := by decide +kernel
theorem dX6_addNumber_1 : decode prog_8_method_3_code 1 = .ok (.getfield 18, 3) := by decide +kernel
theorem dX6_addNumber_4 : decode prog_8_method_3_code 4 = .ok (.sipush 160, 3) := by decide +kernel
theorem dX6_addNumber_7 : decode prog_8_method_3_code 7 = .ok (.if_icmp .lt 4, 3) := by decide +kernel
theorem dX6_addNumber_10 : decode prog_8_method_3_code 10 = .ok (.return_, 1) := by decide +kernel
theorem dX6_addNumber_11 : decode prog_8_method_3_code 11 = .ok (.aload_n 0, 1) := by decide +kernel
theorem dX6_addNumber_12 : decode prog_8_method_3_code 12 = .ok (.getfield 9, 3) := by decide +kernel
theorem dX6_addNumber_15 : decode prog_8_method_3_code 15 = .ok (.aload_n 0, 1) := by decide +kernel
theorem dX6_addNumber_16 : decode prog_8_method_3_code 16 = .ok (.getfield 18, 3) := by decide +kernel
theorem dX6_addNumber_19 : decode prog_8_method_3_code 19 = .ok (.iload_n 1, 1) := by decide +kernel
theorem dX6_addNumber_20 : decode prog_8_method_3_code 20 = .ok (.iastore, 1) := by decide +kernel
theorem dX6_addNumber_21 : decode prog_8_method_3_code 21 = .ok (.aload_n 0, 1) := by decide +kernel
theorem dX6_addNumber_22 : decode prog_8_method_3_code 22 = .ok (.dup, 1) := by decide +kernel
theorem dX6_addNumber_23 : decode prog_8_method_3_code 23 = .ok (.getfield 18, 3) := by decide +kernel
theorem dX6_addNumber_26 : decode prog_8_method_3_code 26 = .ok (.iconst 1, 1) := by decide +kernel
theorem dX6_addNumber_27 : decode prog_8_method_3_code 27 = .ok (.iadd, 1) := by decide +kernel
theorem dX6_addNumber_28 : decode prog_8_method_3_code 28 = .ok (.putfield 18, 3) := by decide +kernel
theorem dX6_addNumber_31 : decode prog_8_method_3_code 31 = .ok (.return_, 1) := by decide +kernel
theorem dX6_addName_0 : decode prog_8_method_4_code 0 = .ok (.aload_n 0, 1) := by decide +kernel
theorem dX6_addName_1 : decode prog_8_method_4_code 1 = .ok (.iconst (-1), 1) := by decide +kernel
theorem dX6_addName_2 : decode prog_8_method_4_code 2 = .ok (.iload_n 1, 1) := by decide +kernel
theorem dX6_addName_3 : decode prog_8_method_4_code 3 = .ok (.isub, 1) := by decide +kernel
theorem dX6_addName_4 : decode prog_8_method_4_code 4 = .ok (.invokevirtual 28, 3) := by decide +kernel
theorem dX6_addName_7 : decode prog_8_method_4_code 7 = .ok (.return_, 1) := by decide +kernel
theorem dX6_endPart_0 : decode prog_8_method_6_code 0 = .ok (.aload_n 0, 1) := by decide +kernel
theorem dX6_endPart_1 : decode prog_8_method_6_code 1 = .ok (.getfield 15, 3) := by decide +kernel
theorem dX6_endPart_4 : decode prog_8_method_6_code 4 = .ok (.iload_n 1, 1) := by decide +kernel
theorem dX6_endPart_5 : decode prog_8_method_6_code 5 = .ok (.aload_n 0, 1) := by decide +kernel
theorem dX6_endPart_6 : decode prog_8_method_6_code 6 = .ok (.getfield 18, 3) := by decide +kernel
theorem dX6_endPart_9 : decode prog_8_method_6_code 9 = .ok (.iastore, 1) := by decide +kernel
theorem dX6_endPart_10 : decode prog_8_method_6_code 10 = .ok (.return_, 1) := by decide +kernel
theorem dX6_value_0 : decode prog_8_method_7_code 0 = .ok (.iconst 0, 1) := by decide +kernel
theorem dX6_value_1 : decode prog_8_method_7_code 1 = .ok (.istore 4, 2) := by decide +kernel
theorem dX6_value_3 : decode prog_8_method_7_code 3 = .ok (.iload_n 1, 1) := by decide +kernel
theorem dX6_value_4 : decode prog_8_method_7_code 4 = .ok (.ifCond .ne 7, 3) := by decide +kernel
theorem dX6_value_7 : decode prog_8_method_7_code 7 = .ok (.iconst 0, 1) := by decide +kernel
theorem dX6_value_8 : decode prog_8_method_7_code 8 = .ok (.goto 11, 3) := by decide +kernel
theorem dX6_value_11 : decode prog_8_method_7_code 11 = .ok (.aload_n 0, 1) := by decide +kernel
theorem dX6_value_12 : decode prog_8_method_7_code 12 = .ok (.getfield 15, 3) := by decide +kernel
theorem dX6_value_15 : decode prog_8_method_7_code 15 = .ok (.iload_n 1, 1) := by decide +kernel
theorem dX6_value_16 : decode prog_8_method_7_code 16 = .ok (.iconst 1, 1) := by decide +kernel
theorem dX6_value_17 : decode prog_8_method_7_code 17 = .ok (.isub, 1) := by decide +kernel
theorem dX6_value_18 : decode prog_8_method_7_code 18 = .ok (.iaload, 1) := by decide +kernel
theorem dX6_value_19 : decode prog_8_method_7_code 19 = .ok (.istore 5, 2) := by decide +kernel
theorem dX6_value_21 : decode prog_8_method_7_code 21 = .ok (.iload 5, 2) := by decide +kernel
theorem dX6_value_23 : decode prog_8_method_7_code 23 = .ok (.aload_n 0, 1) := by decide +kernel
theorem dX6_value_24 : decode prog_8_method_7_code 24 = .ok (.getfield 15, 3) := by decide +kernel
theorem dX6_value_27 : decode prog_8_method_7_code 27 = .ok (.iload_n 1, 1) := by decide +kernel
theorem dX6_value_28 : decode prog_8_method_7_code 28 = .ok (.iaload, 1) := by decide +kernel
theorem dX6_value_29 : decode prog_8_method_7_code 29 = .ok (.if_icmp .ge 156, 3) := by decide +kernel
theorem dX6_value_32 : decode prog_8_method_7_code 32 = .ok (.aload_n 0, 1) := by decide +kernel
theorem dX6_value_33 : decode prog_8_method_7_code 33 = .ok (.getfield 9, 3) := by decide +kernel
theorem dX6_value_36 : decode prog_8_method_7_code 36 = .ok (.iload 5, 2) := by decide +kernel
theorem dX6_value_38 : decode prog_8_method_7_code 38 = .ok (.iaload, 1) := by decide +kernel
theorem dX6_value_39 : decode prog_8_method_7_code 39 = .ok (.istore 6, 2) := by decide +kernel
theorem dX6_value_41 : decode prog_8_method_7_code 41 = .ok (.iload 6, 2) := by decide +kernel
theorem dX6_value_43 : decode prog_8_method_7_code 43 = .ok (.bipush (-6), 2) := by decide +kernel
theorem dX6_value_45 : decode prog_8_method_7_code 45 = .ok (.if_icmp .lt 38, 3) := by decide +kernel
theorem dX6_value_48 : decode prog_8_method_7_code 48 = .ok (.iload 4, 2) := by decide +kernel
theorem dX6_value_50 : decode prog_8_method_7_code 50 = .ok (.aload_n 3, 1) := by decide +kernel
theorem dX6_value_51 : decode prog_8_method_7_code 51 = .ok (.arraylength, 1) := by decide +kernel
theorem dX6_value_52 : decode prog_8_method_7_code 52 = .ok (.if_icmp .lt 5, 3) := by decide +kernel
theorem dX6_value_55 : decode prog_8_method_7_code 55 = .ok (.iconst 0, 1) := by decide +kernel
theorem dX6_value_56 : decode prog_8_method_7_code 56 = .ok (.ireturn, 1) := by decide +kernel
theorem dX6_value_57 : decode prog_8_method_7_code 57 = .ok (.aload_n 3, 1) := by decide +kernel
theorem dX6_value_58 : decode prog_8_method_7_code 58 = .ok (.iload 4, 2) := by decide +kernel
theorem dX6_value_60 : decode prog_8_method_7_code 60 = .ok (.iload 6, 2) := by decide +kernel
theorem dX6_value_62 : decode prog_8_method_7_code 62 = .ok (.ifCond .lt 8, 3) := by decide +kernel
theorem dX6_value_65 : decode prog_8_method_7_code 65 = .ok (.iload 6, 2) := by decide +kernel
theorem dX6_value_67 : decode prog_8_method_7_code 67 = .ok (.goto 9, 3) := by decide +kernel
theorem dX6_value_70 : decode prog_8_method_7_code 70 = .ok (.aload_n 2, 1) := by decide +kernel
theorem dX6_value_71 : decode prog_8_method_7_code 71 = .ok (.iconst (-1), 1) := by decide +kernel
theorem dX6_value_72 : decode prog_8_method_7_code 72 = .ok (.iload 6, 2) := by decide +kernel
theorem dX6_value_74 : decode prog_8_method_7_code 74 = .ok (.isub, 1) := by decide +kernel
theorem dX6_value_75 : decode prog_8_method_7_code 75 = .ok (.iaload, 1) := by decide +kernel
theorem dX6_value_76 : decode prog_8_method_7_code 76 = .ok (.iastore, 1) := by decide +kernel
theorem dX6_value_77 : decode prog_8_method_7_code 77 = .ok (.iinc 4 1, 3) := by decide +kernel
theorem dX6_value_80 : decode prog_8_method_7_code 80 = .ok (.goto 99, 3) := by decide +kernel
theorem dX6_value_83 : decode prog_8_method_7_code 83 = .ok (.iload 6, 2) := by decide +kernel
theorem dX6_value_85 : decode prog_8_method_7_code 85 = .ok (.bipush (-128), 2) := by decide +kernel
theorem dX6_value_87 : decode prog_8_method_7_code 87 = .ok (.if_icmp .eq 11, 3) := by decide +kernel
theorem dX6_value_90 : decode prog_8_method_7_code 90 = .ok (.iload 6, 2) := by decide +kernel
theorem dX6_value_92 : decode prog_8_method_7_code 92 = .ok (.sipush (-267), 3) := by decide +kernel
theorem dX6_value_95 : decode prog_8_method_7_code 95 = .ok (.if_icmp .ne 51, 3) := by decide +kernel
theorem dX6_value_98 : decode prog_8_method_7_code 98 = .ok (.iload 4, 2) := by decide +kernel
theorem dX6_value_100 : decode prog_8_method_7_code 100 = .ok (.iconst 1, 1) := by decide +kernel
theorem dX6_value_101 : decode prog_8_method_7_code 101 = .ok (.if_icmp .ge 5, 3) := by decide +kernel
theorem dX6_value_104 : decode prog_8_method_7_code 104 = .ok (.iconst 0, 1) := by decide +kernel
theorem dX6_value_105 : decode prog_8_method_7_code 105 = .ok (.ireturn, 1) := by decide +kernel
theorem dX6_value_106 : decode prog_8_method_7_code 106 = .ok (.aload_n 3, 1) := by decide +kernel
theorem dX6_value_107 : decode prog_8_method_7_code 107 = .ok (.iload 4, 2) := by decide +kernel
theorem dX6_value_109 : decode prog_8_method_7_code 109 = .ok (.iconst 1, 1) := by decide +kernel
theorem dX6_value_110 : decode prog_8_method_7_code 110 = .ok (.isub, 1) := by decide +kernel
theorem dX6_value_111 : decode prog_8_method_7_code 111 = .ok (.iaload, 1) := by decide +kernel
theorem dX6_value_112 : decode prog_8_method_7_code 112 = .ok (.istore 7, 2) := by decide +kernel
theorem dX6_value_114 : decode prog_8_method_7_code 114 = .ok (.aload_n 3, 1) := by decide +kernel
theorem dX6_value_115 : decode prog_8_method_7_code 115 = .ok (.iload 4, 2) := by decide +kernel
theorem dX6_value_117 : decode prog_8_method_7_code 117 = .ok (.iconst 1, 1) := by decide +kernel
theorem dX6_value_118 : decode prog_8_method_7_code 118 = .ok (.isub, 1) := by decide +kernel
theorem dX6_value_119 : decode prog_8_method_7_code 119 = .ok (.iload 6, 2) := by decide +kernel
theorem dX6_value_121 : decode prog_8_method_7_code 121 = .ok (.bipush (-128), 2) := by decide +kernel
theorem dX6_value_123 : decode prog_8_method_7_code 123 = .ok (.if_icmp .ne 9, 3) := by decide +kernel
theorem dX6_value_126 : decode prog_8_method_7_code 126 = .ok (.iload 7, 2) := by decide +kernel
theorem dX6_value_128 : decode prog_8_method_7_code 128 = .ok (.ineg, 1) := by decide +kernel
theorem dX6_value_129 : decode prog_8_method_7_code 129 = .ok (.goto 13, 3) := by decide +kernel
theorem dX6_value_132 : decode prog_8_method_7_code 132 = .ok (.iload 7, 2) := by decide +kernel
theorem dX6_value_134 : decode prog_8_method_7_code 134 = .ok (.ifCond .ne 7, 3) := by decide +kernel
theorem dX6_value_137 : decode prog_8_method_7_code 137 = .ok (.iconst 1, 1) := by decide +kernel
theorem dX6_value_138 : decode prog_8_method_7_code 138 = .ok (.goto 4, 3) := by decide +kernel
theorem dX6_value_141 : decode prog_8_method_7_code 141 = .ok (.iconst 0, 1) := by decide +kernel
theorem dX6_value_142 : decode prog_8_method_7_code 142 = .ok (.iastore, 1) := by decide +kernel
theorem dX6_value_143 : decode prog_8_method_7_code 143 = .ok (.goto 36, 3) := by decide +kernel
theorem dX6_value_146 : decode prog_8_method_7_code 146 = .ok (.iload 4, 2) := by decide +kernel
theorem dX6_value_148 : decode prog_8_method_7_code 148 = .ok (.iconst 2, 1) := by decide +kernel
theorem dX6_value_149 : decode prog_8_method_7_code 149 = .ok (.if_icmp .ge 5, 3) := by decide +kernel
theorem dX6_value_152 : decode prog_8_method_7_code 152 = .ok (.iconst 0, 1) := by decide +kernel
theorem dX6_value_153 : decode prog_8_method_7_code 153 = .ok (.ireturn, 1) := by decide +kernel
theorem dX6_value_154 : decode prog_8_method_7_code 154 = .ok (.iinc 4 (-1), 3) := by decide +kernel
theorem dX6_value_157 : decode prog_8_method_7_code 157 = .ok (.aload_n 3, 1) := by decide +kernel
theorem dX6_value_158 : decode prog_8_method_7_code 158 = .ok (.iload 4, 2) := by decide +kernel
theorem dX6_value_160 : decode prog_8_method_7_code 160 = .ok (.iconst 1, 1) := by decide +kernel
theorem dX6_value_161 : decode prog_8_method_7_code 161 = .ok (.isub, 1) := by decide +kernel
theorem dX6_value_162 : decode prog_8_method_7_code 162 = .ok (.iload 6, 2) := by decide +kernel
theorem dX6_value_164 : decode prog_8_method_7_code 164 = .ok (.ineg, 1) := by decide +kernel
theorem dX6_value_165 : decode prog_8_method_7_code 165 = .ok (.aload_n 3, 1) := by decide +kernel
theorem dX6_value_166 : decode prog_8_method_7_code 166 = .ok (.iload 4, 2) := by decide +kernel
theorem dX6_value_168 : decode prog_8_method_7_code 168 = .ok (.iconst 1, 1) := by decide +kernel
theorem dX6_value_169 : decode prog_8_method_7_code 169 = .ok (.isub, 1) := by decide +kernel
theorem dX6_value_170 : decode prog_8_method_7_code 170 = .ok (.iaload, 1) := by decide +kernel
theorem dX6_value_171 : decode prog_8_method_7_code 171 = .ok (.aload_n 3, 1) := by decide +kernel
theorem dX6_value_172 : decode prog_8_method_7_code 172 = .ok (.iload 4, 2) := by decide +kernel
theorem dX6_value_174 : decode prog_8_method_7_code 174 = .ok (.iaload, 1) := by decide +kernel
theorem dX6_value_175 : decode prog_8_method_7_code 175 = .ok (.invokestatic 34, 3) := by decide +kernel
theorem dX6_value_178 : decode prog_8_method_7_code 178 = .ok (.iastore, 1) := by decide +kernel
theorem dX6_value_179 : decode prog_8_method_7_code 179 = .ok (.iinc 5 1, 3) := by decide +kernel
theorem dX6_value_182 : decode prog_8_method_7_code 182 = .ok (.goto (-161), 3) := by decide +kernel
theorem dX6_value_185 : decode prog_8_method_7_code 185 = .ok (.iload 4, 2) := by decide +kernel
theorem dX6_value_187 : decode prog_8_method_7_code 187 = .ok (.iconst 1, 1) := by decide +kernel
theorem dX6_value_188 : decode prog_8_method_7_code 188 = .ok (.if_icmp .ge 7, 3) := by decide +kernel
theorem dX6_value_191 : decode prog_8_method_7_code 191 = .ok (.iconst 0, 1) := by decide +kernel
theorem dX6_value_192 : decode prog_8_method_7_code 192 = .ok (.goto 6, 3) := by decide +kernel
theorem dX6_value_195 : decode prog_8_method_7_code 195 = .ok (.aload_n 3, 1) := by decide +kernel
theorem dX6_value_196 : decode prog_8_method_7_code 196 = .ok (.iconst 0, 1) := by decide +kernel
theorem dX6_value_197 : decode prog_8_method_7_code 197 = .ok (.iaload, 1) := by decide +kernel
theorem dX6_value_198 : decode prog_8_method_7_code 198 = .ok (.ireturn, 1) := by decide +kernel
theorem dX6_joined_0 : decode prog_8_method_8_code 0 = .ok (.iload_n 0, 1) := by decide +kernel
theorem dX6_joined_1 : decode prog_8_method_8_code 1 = .ok (.lookupswitch 107 #[(42, 67), (43, 59), (45, 63), (60, 71), (61, 82), (265, 93)], 59) := by decide +kernel
theorem dX6_joined_60 : decode prog_8_method_8_code 60 = .ok (.iload_n 1, 1) := by decide +kernel
theorem dX6_joined_61 : decode prog_8_method_8_code 61 = .ok (.iload_n 2, 1) := by decide +kernel
theorem dX6_joined_62 : decode prog_8_method_8_code 62 = .ok (.iadd, 1) := by decide +kernel
theorem dX6_joined_63 : decode prog_8_method_8_code 63 = .ok (.ireturn, 1) := by decide +kernel
theorem dX6_joined_64 : decode prog_8_method_8_code 64 = .ok (.iload_n 1, 1) := by decide +kernel
theorem dX6_joined_65 : decode prog_8_method_8_code 65 = .ok (.iload_n 2, 1) := by decide +kernel
theorem dX6_joined_66 : decode prog_8_method_8_code 66 = .ok (.isub, 1) := by decide +kernel
theorem dX6_joined_67 : decode prog_8_method_8_code 67 = .ok (.ireturn, 1) := by decide +kernel
theorem dX6_joined_68 : decode prog_8_method_8_code 68 = .ok (.iload_n 1, 1) := by decide +kernel
theorem dX6_joined_69 : decode prog_8_method_8_code 69 = .ok (.iload_n 2, 1) := by decide +kernel
theorem dX6_joined_70 : decode prog_8_method_8_code 70 = .ok (.imul, 1) := by decide +kernel
theorem dX6_joined_71 : decode prog_8_method_8_code 71 = .ok (.ireturn, 1) := by decide +kernel
theorem dX6_joined_72 : decode prog_8_method_8_code 72 = .ok (.iload_n 1, 1) := by decide +kernel
theorem dX6_joined_73 : decode prog_8_method_8_code 73 = .ok (.iload_n 2, 1) := by decide +kernel
theorem dX6_joined_74 : decode prog_8_method_8_code 74 = .ok (.if_icmp .ge 7, 3) := by decide +kernel
theorem dX6_joined_77 : decode prog_8_method_8_code 77 = .ok (.iconst 1, 1) := by decide +kernel
theorem dX6_joined_78 : decode prog_8_method_8_code 78 = .ok (.goto 4, 3) := by decide +kernel
theorem dX6_joined_81 : decode prog_8_method_8_code 81 = .ok (.iconst 0, 1) := by decide +kernel
theorem dX6_joined_82 : decode prog_8_method_8_code 82 = .ok (.ireturn, 1) := by decide +kernel
theorem dX6_joined_83 : decode prog_8_method_8_code 83 = .ok (.iload_n 1, 1) := by decide +kernel
theorem dX6_joined_84 : decode prog_8_method_8_code 84 = .ok (.iload_n 2, 1) := by decide +kernel
theorem dX6_joined_85 : decode prog_8_method_8_code 85 = .ok (.if_icmp .ne 7, 3) := by decide +kernel
theorem dX6_joined_88 : decode prog_8_method_8_code 88 = .ok (.iconst 1, 1) := by decide +kernel
theorem dX6_joined_89 : decode prog_8_method_8_code 89 = .ok (.goto 4, 3) := by decide +kernel
theorem dX6_joined_92 : decode prog_8_method_8_code 92 = .ok (.iconst 0, 1) := by decide +kernel
theorem dX6_joined_93 : decode prog_8_method_8_code 93 = .ok (.ireturn, 1) := by decide +kernel
theorem dX6_joined_94 : decode prog_8_method_8_code 94 = .ok (.iload_n 1, 1) := by decide +kernel
theorem dX6_joined_95 : decode prog_8_method_8_code 95 = .ok (.ifCond .ne 7, 3) := by decide +kernel
theorem dX6_joined_98 : decode prog_8_method_8_code 98 = .ok (.iload_n 2, 1) := by decide +kernel
theorem dX6_joined_99 : decode prog_8_method_8_code 99 = .ok (.ifCond .eq 7, 3) := by decide +kernel
theorem dX6_joined_102 : decode prog_8_method_8_code 102 = .ok (.iconst 1, 1) := by decide +kernel
theorem dX6_joined_103 : decode prog_8_method_8_code 103 = .ok (.goto 4, 3) := by decide +kernel
theorem dX6_joined_106 : decode prog_8_method_8_code 106 = .ok (.iconst 0, 1) := by decide +kernel
theorem dX6_joined_107 : decode prog_8_method_8_code 107 = .ok (.ireturn, 1) := by decide +kernel
theorem dX6_joined_108 : decode prog_8_method_8_code 108 = .ok (.iload_n 1, 1) := by decide +kernel
theorem dX6_joined_109 : decode prog_8_method_8_code 109 = .ok (.ifCond .eq 11, 3) := by decide +kernel
theorem dX6_joined_112 : decode prog_8_method_8_code 112 = .ok (.iload_n 2, 1) := by decide +kernel
theorem dX6_joined_113 : decode prog_8_method_8_code 113 = .ok (.ifCond .eq 7, 3) := by decide +kernel
theorem dX6_joined_116 : decode prog_8_method_8_code 116 = .ok (.iconst 1, 1) := by decide +kernel
theorem dX6_joined_117 : decode prog_8_method_8_code 117 = .ok (.goto 4, 3) := by decide +kernel
theorem dX6_joined_120 : decode prog_8_method_8_code 120 = .ok (.iconst 0, 1) := by decide +kernel
theorem dX6_joined_121 : decode prog_8_method_8_code 121 = .ok (.ireturn, 1) := by decide +kernel
theorem dX5_isMissing_0 : decode prog_7_method_3_code 0 = .ok (.aload_n 0, 1) := by decide +kernel
theorem dX5_isMissing_1 : decode prog_7_method_3_code 1 = .ok (.getfield 9, 3) := by decide +kernel
theorem dX5_isMissing_4 : decode prog_7_method_3_code 4 = .ok (.iconst (-1), 1) := by decide +kernel
theorem dX5_isMissing_5 : decode prog_7_method_3_code 5 = .ok (.if_icmp .ne 7, 3) := by decide +kernel
theorem dX5_isMissing_8 : decode prog_7_method_3_code 8 = .ok (.iconst 1, 1) := by decide +kernel
theorem dX5_isMissing_9 : decode prog_7_method_3_code 9 = .ok (.goto 4, 3) := by decide +kernel
theorem dX5_isMissing_12 : decode prog_7_method_3_code 12 = .ok (.iconst 0, 1) := by decide +kernel
theorem dX5_isMissing_13 : decode prog_7_method_3_code 13 = .ok (.ireturn, 1) := by decide +kernel
theorem dX5_item_0 : decode prog_7_method_5_code 0 = .ok (.iload_n 1, 1) := by decide +kernel
theorem dX5_item_1 : decode prog_7_method_5_code 1 = .ok (.ifCond .lt 20, 3) := by decide +kernel
theorem dX5_item_4 : decode prog_7_method_5_code 4 = .ok (.iload_n 1, 1) := by decide +kernel
theorem dX5_item_5 : decode prog_7_method_5_code 5 = .ok (.aload_n 0, 1) := by decide +kernel
theorem dX5_item_6 : decode prog_7_method_5_code 6 = .ok (.getfield 15, 3) := by decide +kernel
theorem dX5_item_9 : decode prog_7_method_5_code 9 = .ok (.if_icmp .ge 12, 3) := by decide +kernel
theorem dX5_item_12 : decode prog_7_method_5_code 12 = .ok (.aload_n 0, 1) := by decide +kernel
theorem dX5_item_13 : decode prog_7_method_5_code 13 = .ok (.getfield 18, 3) := by decide +kernel
theorem dX5_item_16 : decode prog_7_method_5_code 16 = .ok (.iload_n 1, 1) := by decide +kernel
theorem dX5_item_17 : decode prog_7_method_5_code 17 = .ok (.iaload, 1) := by decide +kernel
theorem dX5_item_18 : decode prog_7_method_5_code 18 = .ok (.goto 4, 3) := by decide +kernel
theorem dX5_item_21 : decode prog_7_method_5_code 21 = .ok (.iconst 0, 1) := by decide +kernel
theorem dX5_item_22 : decode prog_7_method_5_code 22 = .ok (.ireturn, 1) := by decide +kernel
theorem dX5_become_0 : decode prog_7_method_2_code 0 = .ok (.aload_n 0, 1) := by decide +kernel
theorem dX5_become_1 : decode prog_7_method_2_code 1 = .ok (.iload_n 1, 1) := by decide +kernel
theorem dX5_become_2 : decode prog_7_method_2_code 2 = .ok (.putfield 9, 3) := by decide +kernel
theorem dX5_become_5 : decode prog_7_method_2_code 5 = .ok (.aload_n 0, 1) := by decide +kernel
theorem dX5_become_6 : decode prog_7_method_2_code 6 = .ok (.iload_n 2, 1) := by decide +kernel
theorem dX5_become_7 : decode prog_7_method_2_code 7 = .ok (.putfield 15, 3) := by decide +kernel
theorem dX5_become_10 : decode prog_7_method_2_code 10 = .ok (.aload_n 0, 1) := by decide +kernel
theorem dX5_become_11 : decode prog_7_method_2_code 11 = .ok (.getfield 18, 3) := by decide +kernel
theorem dX5_become_14 : decode prog_7_method_2_code 14 = .ok (.iconst 0, 1) := by decide +kernel
theorem dX5_become_15 : decode prog_7_method_2_code 15 = .ok (.invokestatic 22, 3) := by decide +kernel
theorem dX5_become_18 : decode prog_7_method_2_code 18 = .ok (.return_, 1) := by decide +kernel
theorem dX5_put_0 : decode prog_7_method_6_code 0 = .ok (.iload_n 1, 1) := by decide +kernel
theorem dX5_put_1 : decode prog_7_method_6_code 1 = .ok (.ifCond .lt 11, 3) := by decide +kernel
theorem dX5_put_4 : decode prog_7_method_6_code 4 = .ok (.iload_n 1, 1) := by decide +kernel
theorem dX5_put_5 : decode prog_7_method_6_code 5 = .ok (.aload_n 0, 1) := by decide +kernel
theorem dX5_put_6 : decode prog_7_method_6_code 6 = .ok (.getfield 15, 3) := by decide +kernel
theorem dX5_put_9 : decode prog_7_method_6_code 9 = .ok (.if_icmp .lt 4, 3) := by decide +kernel
theorem dX5_put_12 : decode prog_7_method_6_code 12 = .ok (.return_, 1) := by decide +kernel
theorem dX5_put_13 : decode prog_7_method_6_code 13 = .ok (.aload_n 0, 1) := by decide +kernel
theorem dX5_put_14 : decode prog_7_method_6_code 14 = .ok (.getfield 18, 3) := by decide +kernel
theorem dX5_put_17 : decode prog_7_method_6_code 17 = .ok (.iload_n 1, 1) := by decide +kernel
theorem dX5_put_18 : decode prog_7_method_6_code 18 = .ok (.aload_n 0, 1) := by decide +kernel
theorem dX5_put_19 : decode prog_7_method_6_code 19 = .ok (.getfield 9, 3) := by decide +kernel
theorem dX5_put_22 : decode prog_7_method_6_code 22 = .ok (.ifCond .ne 8, 3) := by decide +kernel
theorem dX5_put_25 : decode prog_7_method_6_code 25 = .ok (.iload_n 2, 1) := by decide +kernel
theorem dX5_put_26 : decode prog_7_method_6_code 26 = .ok (.i2b, 1) := by decide +kernel
theorem dX5_put_27 : decode prog_7_method_6_code 27 = .ok (.goto 17, 3) := by decide +kernel
theorem dX5_put_30 : decode prog_7_method_6_code 30 = .ok (.aload_n 0, 1) := by decide +kernel
theorem dX5_put_31 : decode prog_7_method_6_code 31 = .ok (.getfield 9, 3) := by decide +kernel
theorem dX5_put_34 : decode prog_7_method_6_code 34 = .ok (.iconst 1, 1) := by decide +kernel
theorem dX5_put_35 : decode prog_7_method_6_code 35 = .ok (.if_icmp .ne 8, 3) := by decide +kernel
theorem dX5_put_38 : decode prog_7_method_6_code 38 = .ok (.iload_n 2, 1) := by decide +kernel
theorem dX5_put_39 : decode prog_7_method_6_code 39 = .ok (.i2s, 1) := by decide +kernel
theorem dX5_put_40 : decode prog_7_method_6_code 40 = .ok (.goto 4, 3) := by decide +kernel
theorem dX5_put_43 : decode prog_7_method_6_code 43 = .ok (.iload_n 2, 1) := by decide +kernel
theorem dX5_put_44 : decode prog_7_method_6_code 44 = .ok (.iastore, 1) := by decide +kernel
theorem dX5_put_45 : decode prog_7_method_6_code 45 = .ok (.return_, 1) := by decide +kernel
theorem dX5_holds_0 : decode prog_7_method_4_code 0 = .ok (.iload_n 1, 1) := by decide +kernel
theorem dX5_holds_1 : decode prog_7_method_4_code 1 = .ok (.ifCond .lt 29, 3) := by decide +kernel
theorem dX5_holds_4 : decode prog_7_method_4_code 4 = .ok (.iload_n 2, 1) := by decide +kernel
theorem dX5_holds_5 : decode prog_7_method_4_code 5 = .ok (.ifCond .lt 25, 3) := by decide +kernel
theorem dX5_holds_8 : decode prog_7_method_4_code 8 = .ok (.iload_n 2, 1) := by decide +kernel
theorem dX5_holds_9 : decode prog_7_method_4_code 9 = .ok (.aload_n 0, 1) := by decide +kernel
theorem dX5_holds_10 : decode prog_7_method_4_code 10 = .ok (.getfield 15, 3) := by decide +kernel
theorem dX5_holds_13 : decode prog_7_method_4_code 13 = .ok (.if_icmp .gt 17, 3) := by decide +kernel
theorem dX5_holds_16 : decode prog_7_method_4_code 16 = .ok (.iload_n 1, 1) := by decide +kernel
theorem dX5_holds_17 : decode prog_7_method_4_code 17 = .ok (.aload_n 0, 1) := by decide +kernel
theorem dX5_holds_18 : decode prog_7_method_4_code 18 = .ok (.getfield 15, 3) := by decide +kernel
theorem dX5_holds_21 : decode prog_7_method_4_code 21 = .ok (.iload_n 2, 1) := by decide +kernel
theorem dX5_holds_22 : decode prog_7_method_4_code 22 = .ok (.isub, 1) := by decide +kernel
theorem dX5_holds_23 : decode prog_7_method_4_code 23 = .ok (.if_icmp .gt 7, 3) := by decide +kernel
theorem dX5_holds_26 : decode prog_7_method_4_code 26 = .ok (.iconst 1, 1) := by decide +kernel
theorem dX5_holds_27 : decode prog_7_method_4_code 27 = .ok (.goto 4, 3) := by decide +kernel
theorem dX5_holds_30 : decode prog_7_method_4_code 30 = .ok (.iconst 0, 1) := by decide +kernel
theorem dX5_holds_31 : decode prog_7_method_4_code 31 = .ok (.ireturn, 1) := by decide +kernel
theorem dX2_takeWinds_0 : decode prog_4_method_2_code 0 = .ok (.aload_n 0, 1) := by decide +kernel
theorem dX2_takeWinds_1 : decode prog_4_method_2_code 1 = .ok (.aload_n 1, 1) := by decide +kernel
theorem dX2_takeWinds_2 : decode prog_4_method_2_code 2 = .ok (.getfield 62, 3) := by decide +kernel
theorem dX2_takeWinds_5 : decode prog_4_method_2_code 5 = .ok (.putfield 45, 3) := by decide +kernel
theorem dX2_takeWinds_8 : decode prog_4_method_2_code 8 = .ok (.iconst 0, 1) := by decide +kernel
theorem dX2_takeWinds_9 : decode prog_4_method_2_code 9 = .ok (.istore_n 2, 1) := by decide +kernel
theorem dX2_takeWinds_10 : decode prog_4_method_2_code 10 = .ok (.iload_n 2, 1) := by decide +kernel
theorem dX2_takeWinds_11 : decode prog_4_method_2_code 11 = .ok (.aload_n 0, 1) := by decide +kernel
theorem dX2_takeWinds_12 : decode prog_4_method_2_code 12 = .ok (.getfield 45, 3) := by decide +kernel
theorem dX2_takeWinds_15 : decode prog_4_method_2_code 15 = .ok (.if_icmp .ge 38, 3) := by decide +kernel
theorem dX2_takeWinds_18 : decode prog_4_method_2_code 18 = .ok (.aload_n 1, 1) := by decide +kernel
theorem dX2_takeWinds_19 : decode prog_4_method_2_code 19 = .ok (.iload_n 2, 1) := by decide +kernel
theorem dX2_takeWinds_20 : decode prog_4_method_2_code 20 = .ok (.invokevirtual 67, 3) := by decide +kernel
theorem dX2_takeWinds_23 : decode prog_4_method_2_code 23 = .ok (.istore_n 3, 1) := by decide +kernel
theorem dX2_takeWinds_24 : decode prog_4_method_2_code 24 = .ok (.aload_n 0, 1) := by decide +kernel
theorem dX2_takeWinds_25 : decode prog_4_method_2_code 25 = .ok (.getfield 25, 3) := by decide +kernel
theorem dX2_takeWinds_28 : decode prog_4_method_2_code 28 = .ok (.iload_n 2, 1) := by decide +kernel
theorem dX2_takeWinds_29 : decode prog_4_method_2_code 29 = .ok (.iload_n 3, 1) := by decide +kernel
theorem dX2_takeWinds_30 : decode prog_4_method_2_code 30 = .ok (.ifCond .ge 7, 3) := by decide +kernel
theorem dX2_takeWinds_33 : decode prog_4_method_2_code 33 = .ok (.iconst (-1), 1) := by decide +kernel
theorem dX2_takeWinds_34 : decode prog_4_method_2_code 34 = .ok (.goto 12, 3) := by decide +kernel
theorem dX2_takeWinds_37 : decode prog_4_method_2_code 37 = .ok (.iload_n 3, 1) := by decide +kernel
theorem dX2_takeWinds_38 : decode prog_4_method_2_code 38 = .ok (.ifCond .le 7, 3) := by decide +kernel
theorem dX2_takeWinds_41 : decode prog_4_method_2_code 41 = .ok (.iconst 1, 1) := by decide +kernel
theorem dX2_takeWinds_42 : decode prog_4_method_2_code 42 = .ok (.goto 4, 3) := by decide +kernel
theorem dX2_takeWinds_45 : decode prog_4_method_2_code 45 = .ok (.iconst 0, 1) := by decide +kernel
theorem dX2_takeWinds_46 : decode prog_4_method_2_code 46 = .ok (.iastore, 1) := by decide +kernel
theorem dX2_takeWinds_47 : decode prog_4_method_2_code 47 = .ok (.iinc 2 1, 3) := by decide +kernel
theorem dX2_takeWinds_50 : decode prog_4_method_2_code 50 = .ok (.goto (-40), 3) := by decide +kernel
theorem dX2_takeWinds_53 : decode prog_4_method_2_code 53 = .ok (.return_, 1) := by decide +kernel
theorem dX2_begin_0 : decode prog_4_method_6_code 0 = .ok (.aload_n 0, 1) := by decide +kernel
theorem dX2_begin_1 : decode prog_4_method_6_code 1 = .ok (.getfield 12, 3) := by decide +kernel
theorem dX2_begin_4 : decode prog_4_method_6_code 4 = .ok (.aload_n 1, 1) := by decide +kernel
theorem dX2_begin_5 : decode prog_4_method_6_code 5 = .ok (.invokevirtual 72, 3) := by decide +kernel
theorem dX2_begin_8 : decode prog_4_method_6_code 8 = .ok (.aload_n 0, 1) := by decide +kernel
theorem dX2_begin_9 : decode prog_4_method_6_code 9 = .ok (.getfield 18, 3) := by decide +kernel
theorem dX2_begin_12 : decode prog_4_method_6_code 12 = .ok (.iconst 0, 1) := by decide +kernel
theorem dX2_begin_13 : decode prog_4_method_6_code 13 = .ok (.invokestatic 76, 3) := by decide +kernel
theorem dX2_begin_16 : decode prog_4_method_6_code 16 = .ok (.aload_n 0, 1) := by decide +kernel
theorem dX2_begin_17 : decode prog_4_method_6_code 17 = .ok (.getfield 22, 3) := by decide +kernel
theorem dX2_begin_20 : decode prog_4_method_6_code 20 = .ok (.iconst 0, 1) := by decide +kernel
theorem dX2_begin_21 : decode prog_4_method_6_code 21 = .ok (.invokestatic 76, 3) := by decide +kernel
theorem dX2_begin_24 : decode prog_4_method_6_code 24 = .ok (.aload_n 0, 1) := by decide +kernel
theorem dX2_begin_25 : decode prog_4_method_6_code 25 = .ok (.getfield 28, 3) := by decide +kernel
theorem dX2_begin_28 : decode prog_4_method_6_code 28 = .ok (.iconst 0, 1) := by decide +kernel
theorem dX2_begin_29 : decode prog_4_method_6_code 29 = .ok (.invokestatic 76, 3) := by decide +kernel
theorem dX2_begin_32 : decode prog_4_method_6_code 32 = .ok (.aload_n 0, 1) := by decide +kernel
theorem dX2_begin_33 : decode prog_4_method_6_code 33 = .ok (.getfield 31, 3) := by decide +kernel
theorem dX2_begin_36 : decode prog_4_method_6_code 36 = .ok (.iconst 0, 1) := by decide +kernel
theorem dX2_begin_37 : decode prog_4_method_6_code 37 = .ok (.invokestatic 76, 3) := by decide +kernel
theorem dX2_begin_40 : decode prog_4_method_6_code 40 = .ok (.aload_n 0, 1) := by decide +kernel
theorem dX2_begin_41 : decode prog_4_method_6_code 41 = .ok (.getfield 34, 3) := by decide +kernel
theorem dX2_begin_44 : decode prog_4_method_6_code 44 = .ok (.iconst 0, 1) := by decide +kernel
theorem dX2_begin_45 : decode prog_4_method_6_code 45 = .ok (.invokestatic 76, 3) := by decide +kernel
theorem dX2_begin_48 : decode prog_4_method_6_code 48 = .ok (.aload_n 0, 1) := by decide +kernel
theorem dX2_begin_49 : decode prog_4_method_6_code 49 = .ok (.iconst 0, 1) := by decide +kernel
theorem dX2_begin_50 : decode prog_4_method_6_code 50 = .ok (.putfield 49, 3) := by decide +kernel
theorem dX2_begin_53 : decode prog_4_method_6_code 53 = .ok (.aload_n 0, 1) := by decide +kernel
theorem dX2_begin_54 : decode prog_4_method_6_code 54 = .ok (.iconst (-1), 1) := by decide +kernel
theorem dX2_begin_55 : decode prog_4_method_6_code 55 = .ok (.putfield 52, 3) := by decide +kernel
theorem dX2_begin_58 : decode prog_4_method_6_code 58 = .ok (.aload_n 0, 1) := by decide +kernel
theorem dX2_begin_59 : decode prog_4_method_6_code 59 = .ok (.iconst (-1), 1) := by decide +kernel
theorem dX2_begin_60 : decode prog_4_method_6_code 60 = .ok (.putfield 55, 3) := by decide +kernel
theorem dX2_begin_63 : decode prog_4_method_6_code 63 = .ok (.return_, 1) := by decide +kernel
theorem dX2_run_0 : decode prog_4_method_7_code 0 = .ok (.aload_n 0, 1) := by decide +kernel
theorem dX2_run_1 : decode prog_4_method_7_code 1 = .ok (.aload_n 1, 1) := by decide +kernel
theorem dX2_run_2 : decode prog_4_method_7_code 2 = .ok (.putfield 58, 3) := by decide +kernel
theorem dX2_run_5 : decode prog_4_method_7_code 5 = .ok (.iconst 0, 1) := by decide +kernel
theorem dX2_run_6 : decode prog_4_method_7_code 6 = .ok (.istore_n 2, 1) := by decide +kernel
theorem dX2_run_7 : decode prog_4_method_7_code 7 = .ok (.iload_n 2, 1) := by decide +kernel
theorem dX2_run_8 : decode prog_4_method_7_code 8 = .ok (.aload_n 0, 1) := by decide +kernel
theorem dX2_run_9 : decode prog_4_method_7_code 9 = .ok (.getfield 45, 3) := by decide +kernel
theorem dX2_run_12 : decode prog_4_method_7_code 12 = .ok (.if_icmp .ge 183, 3) := by decide +kernel
theorem dX2_run_15 : decode prog_4_method_7_code 15 = .ok (.aload_n 0, 1) := by decide +kernel
theorem dX2_run_16 : decode prog_4_method_7_code 16 = .ok (.aload_n 0, 1) := by decide +kernel
theorem dX2_run_17 : decode prog_4_method_7_code 17 = .ok (.getfield 25, 3) := by decide +kernel
theorem dX2_run_20 : decode prog_4_method_7_code 20 = .ok (.iload_n 2, 1) := by decide +kernel
theorem dX2_run_21 : decode prog_4_method_7_code 21 = .ok (.iaload, 1) := by decide +kernel
theorem dX2_run_22 : decode prog_4_method_7_code 22 = .ok (.invokevirtual 82, 3) := by decide +kernel
theorem dX2_run_25 : decode prog_4_method_7_code 25 = .ok (.aload_n 0, 1) := by decide +kernel
theorem dX2_run_26 : decode prog_4_method_7_code 26 = .ok (.getfield 55, 3) := by decide +kernel
theorem dX2_run_29 : decode prog_4_method_7_code 29 = .ok (.iconst (-1), 1) := by decide +kernel
theorem dX2_run_30 : decode prog_4_method_7_code 30 = .ok (.if_icmp .eq 27, 3) := by decide +kernel
theorem dX2_run_33 : decode prog_4_method_7_code 33 = .ok (.aload_n 0, 1) := by decide +kernel
theorem dX2_run_34 : decode prog_4_method_7_code 34 = .ok (.getfield 12, 3) := by decide +kernel
theorem dX2_run_37 : decode prog_4_method_7_code 37 = .ok (.getfield 86, 3) := by decide +kernel
theorem dX2_run_40 : decode prog_4_method_7_code 40 = .ok (.aload_n 0, 1) := by decide +kernel
theorem dX2_run_41 : decode prog_4_method_7_code 41 = .ok (.getfield 55, 3) := by decide +kernel
theorem dX2_run_44 : decode prog_4_method_7_code 44 = .ok (.if_icmp .eq 13, 3) := by decide +kernel
theorem dX2_run_47 : decode prog_4_method_7_code 47 = .ok (.aload_n 0, 1) := by decide +kernel
theorem dX2_run_48 : decode prog_4_method_7_code 48 = .ok (.dup, 1) := by decide +kernel
theorem dX2_run_49 : decode prog_4_method_7_code 49 = .ok (.getfield 49, 3) := by decide +kernel
theorem dX2_run_52 : decode prog_4_method_7_code 52 = .ok (.iconst 1, 1) := by decide +kernel
theorem dX2_run_53 : decode prog_4_method_7_code 53 = .ok (.iadd, 1) := by decide +kernel
theorem dX2_run_54 : decode prog_4_method_7_code 54 = .ok (.putfield 49, 3) := by decide +kernel
theorem dX2_run_57 : decode prog_4_method_7_code 57 = .ok (.aload_n 0, 1) := by decide +kernel
theorem dX2_run_58 : decode prog_4_method_7_code 58 = .ok (.getfield 12, 3) := by decide +kernel
theorem dX2_run_61 : decode prog_4_method_7_code 61 = .ok (.aload_n 0, 1) := by decide +kernel
theorem dX2_run_62 : decode prog_4_method_7_code 62 = .ok (.getfield 12, 3) := by decide +kernel
theorem dX2_run_65 : decode prog_4_method_7_code 65 = .ok (.getfield 86, 3) := by decide +kernel
theorem dX2_run_68 : decode prog_4_method_7_code 68 = .ok (.invokevirtual 89, 3) := by decide +kernel
theorem dX2_run_71 : decode prog_4_method_7_code 71 = .ok (.ifCond .eq 7, 3) := by decide +kernel
theorem dX2_run_74 : decode prog_4_method_7_code 74 = .ok (.iconst (-1), 1) := by decide +kernel
theorem dX2_run_75 : decode prog_4_method_7_code 75 = .ok (.goto 17, 3) := by decide +kernel
theorem dX2_run_78 : decode prog_4_method_7_code 78 = .ok (.aload_n 0, 1) := by decide +kernel
theorem dX2_run_79 : decode prog_4_method_7_code 79 = .ok (.getfield 12, 3) := by decide +kernel
theorem dX2_run_82 : decode prog_4_method_7_code 82 = .ok (.aload_n 0, 1) := by decide +kernel
theorem dX2_run_83 : decode prog_4_method_7_code 83 = .ok (.getfield 12, 3) := by decide +kernel
theorem dX2_run_86 : decode prog_4_method_7_code 86 = .ok (.getfield 86, 3) := by decide +kernel
theorem dX2_run_89 : decode prog_4_method_7_code 89 = .ok (.invokevirtual 93, 3) := by decide +kernel
theorem dX2_run_92 : decode prog_4_method_7_code 92 = .ok (.istore_n 3, 1) := by decide +kernel
theorem dX2_run_93 : decode prog_4_method_7_code 93 = .ok (.iconst 0, 1) := by decide +kernel
theorem dX2_run_94 : decode prog_4_method_7_code 94 = .ok (.istore 4, 2) := by decide +kernel
theorem dX2_run_96 : decode prog_4_method_7_code 96 = .ok (.iload 4, 2) := by decide +kernel
theorem dX2_run_98 : decode prog_4_method_7_code 98 = .ok (.aload_n 0, 1) := by decide +kernel
theorem dX2_run_99 : decode prog_4_method_7_code 99 = .ok (.getfield 12, 3) := by decide +kernel
theorem dX2_run_102 : decode prog_4_method_7_code 102 = .ok (.getfield 96, 3) := by decide +kernel
theorem dX2_run_105 : decode prog_4_method_7_code 105 = .ok (.if_icmp .ge 27, 3) := by decide +kernel
theorem dX2_run_108 : decode prog_4_method_7_code 108 = .ok (.aload_n 0, 1) := by decide +kernel
theorem dX2_run_109 : decode prog_4_method_7_code 109 = .ok (.iload 4, 2) := by decide +kernel
theorem dX2_run_111 : decode prog_4_method_7_code 111 = .ok (.iload 4, 2) := by decide +kernel
theorem dX2_run_113 : decode prog_4_method_7_code 113 = .ok (.iload_n 3, 1) := by decide +kernel
theorem dX2_run_114 : decode prog_4_method_7_code 114 = .ok (.if_icmp .ne 7, 3) := by decide +kernel
theorem dX2_run_117 : decode prog_4_method_7_code 117 = .ok (.iconst 1, 1) := by decide +kernel
theorem dX2_run_118 : decode prog_4_method_7_code 118 = .ok (.goto 4, 3) := by decide +kernel
theorem dX2_run_121 : decode prog_4_method_7_code 121 = .ok (.iconst 0, 1) := by decide +kernel
theorem dX2_run_122 : decode prog_4_method_7_code 122 = .ok (.iload_n 2, 1) := by decide +kernel
theorem dX2_run_123 : decode prog_4_method_7_code 123 = .ok (.invokevirtual 97, 3) := by decide +kernel
theorem dX2_run_126 : decode prog_4_method_7_code 126 = .ok (.iinc 4 1, 3) := by decide +kernel
theorem dX2_run_129 : decode prog_4_method_7_code 129 = .ok (.goto (-33), 3) := by decide +kernel
theorem dX2_run_132 : decode prog_4_method_7_code 132 = .ok (.aload_n 0, 1) := by decide +kernel
theorem dX2_run_133 : decode prog_4_method_7_code 133 = .ok (.iconst (-1), 1) := by decide +kernel
theorem dX2_run_134 : decode prog_4_method_7_code 134 = .ok (.putfield 52, 3) := by decide +kernel
theorem dX2_run_137 : decode prog_4_method_7_code 137 = .ok (.aload_n 0, 1) := by decide +kernel
theorem dX2_run_138 : decode prog_4_method_7_code 138 = .ok (.iconst (-1), 1) := by decide +kernel
theorem dX2_run_139 : decode prog_4_method_7_code 139 = .ok (.putfield 55, 3) := by decide +kernel
theorem dX2_run_142 : decode prog_4_method_7_code 142 = .ok (.iload_n 3, 1) := by decide +kernel
theorem dX2_run_143 : decode prog_4_method_7_code 143 = .ok (.iconst (-1), 1) := by decide +kernel
theorem dX2_run_144 : decode prog_4_method_7_code 144 = .ok (.if_icmp .eq 45, 3) := by decide +kernel
theorem dX2_run_147 : decode prog_4_method_7_code 147 = .ok (.aload_n 0, 1) := by decide +kernel
theorem dX2_run_148 : decode prog_4_method_7_code 148 = .ok (.getfield 12, 3) := by decide +kernel
theorem dX2_run_151 : decode prog_4_method_7_code 151 = .ok (.getfield 101, 3) := by decide +kernel
theorem dX2_run_154 : decode prog_4_method_7_code 154 = .ok (.iload_n 3, 1) := by decide +kernel
theorem dX2_run_155 : decode prog_4_method_7_code 155 = .ok (.iaload, 1) := by decide +kernel
theorem dX2_run_156 : decode prog_4_method_7_code 156 = .ok (.aload_n 0, 1) := by decide +kernel
theorem dX2_run_157 : decode prog_4_method_7_code 157 = .ok (.getfield 12, 3) := by decide +kernel
theorem dX2_run_160 : decode prog_4_method_7_code 160 = .ok (.getfield 104, 3) := by decide +kernel
theorem dX2_run_163 : decode prog_4_method_7_code 163 = .ok (.iload_n 3, 1) := by decide +kernel
theorem dX2_run_164 : decode prog_4_method_7_code 164 = .ok (.iaload, 1) := by decide +kernel
theorem dX2_run_165 : decode prog_4_method_7_code 165 = .ok (.aload_n 0, 1) := by decide +kernel
theorem dX2_run_166 : decode prog_4_method_7_code 166 = .ok (.getfield 34, 3) := by decide +kernel
theorem dX2_run_169 : decode prog_4_method_7_code 169 = .ok (.iload_n 3, 1) := by decide +kernel
theorem dX2_run_170 : decode prog_4_method_7_code 170 = .ok (.iaload, 1) := by decide +kernel
theorem dX2_run_171 : decode prog_4_method_7_code 171 = .ok (.invokestatic 107, 3) := by decide +kernel
theorem dX2_run_174 : decode prog_4_method_7_code 174 = .ok (.ifCond .eq 15, 3) := by decide +kernel
theorem dX2_run_177 : decode prog_4_method_7_code 177 = .ok (.aload_n 0, 1) := by decide +kernel
theorem dX2_run_178 : decode prog_4_method_7_code 178 = .ok (.iload_n 3, 1) := by decide +kernel
theorem dX2_run_179 : decode prog_4_method_7_code 179 = .ok (.iload_n 2, 1) := by decide +kernel
theorem dX2_run_180 : decode prog_4_method_7_code 180 = .ok (.aload_n 0, 1) := by decide +kernel
theorem dX2_run_181 : decode prog_4_method_7_code 181 = .ok (.getfield 25, 3) := by decide +kernel
theorem dX2_run_184 : decode prog_4_method_7_code 184 = .ok (.iload_n 2, 1) := by decide +kernel
theorem dX2_run_185 : decode prog_4_method_7_code 185 = .ok (.iaload, 1) := by decide +kernel
theorem dX2_run_186 : decode prog_4_method_7_code 186 = .ok (.invokevirtual 113, 3) := by decide +kernel
theorem dX2_run_189 : decode prog_4_method_7_code 189 = .ok (.iinc 2 1, 3) := by decide +kernel
theorem dX2_run_192 : decode prog_4_method_7_code 192 = .ok (.goto (-185), 3) := by decide +kernel
theorem dX2_run_195 : decode prog_4_method_7_code 195 = .ok (.return_, 1) := by decide +kernel
theorem dX2_turn_0 : decode prog_4_method_8_code 0 = .ok (.aload_n 0, 1) := by decide +kernel
theorem dX2_turn_1 : decode prog_4_method_8_code 1 = .ok (.getfield 12, 3) := by decide +kernel
theorem dX2_turn_4 : decode prog_4_method_8_code 4 = .ok (.aload_n 0, 1) := by decide +kernel
theorem dX2_turn_5 : decode prog_4_method_8_code 5 = .ok (.getfield 12, 3) := by decide +kernel
theorem dX2_turn_8 : decode prog_4_method_8_code 8 = .ok (.getfield 86, 3) := by decide +kernel
theorem dX2_turn_11 : decode prog_4_method_8_code 11 = .ok (.iload_n 1, 1) := by decide +kernel
theorem dX2_turn_12 : decode prog_4_method_8_code 12 = .ok (.iadd, 1) := by decide +kernel
theorem dX2_turn_13 : decode prog_4_method_8_code 13 = .ok (.invokestatic 117, 3) := by decide +kernel
theorem dX2_turn_16 : decode prog_4_method_8_code 16 = .ok (.putfield 86, 3) := by decide +kernel
theorem dX2_turn_19 : decode prog_4_method_8_code 19 = .ok (.aload_n 0, 1) := by decide +kernel
theorem dX2_turn_20 : decode prog_4_method_8_code 20 = .ok (.getfield 12, 3) := by decide +kernel
theorem dX2_turn_23 : decode prog_4_method_8_code 23 = .ok (.getfield 120, 3) := by decide +kernel
theorem dX2_turn_26 : decode prog_4_method_8_code 26 = .ok (.ifCond .eq 11, 3) := by decide +kernel
theorem dX2_turn_29 : decode prog_4_method_8_code 29 = .ok (.aload_n 0, 1) := by decide +kernel
theorem dX2_turn_30 : decode prog_4_method_8_code 30 = .ok (.getfield 52, 3) := by decide +kernel
theorem dX2_turn_33 : decode prog_4_method_8_code 33 = .ok (.iconst (-1), 1) := by decide +kernel
theorem dX2_turn_34 : decode prog_4_method_8_code 34 = .ok (.if_icmp .ne 4, 3) := by decide +kernel
theorem dX2_turn_37 : decode prog_4_method_8_code 37 = .ok (.return_, 1) := by decide +kernel
theorem dX2_turn_38 : decode prog_4_method_8_code 38 = .ok (.aload_n 0, 1) := by decide +kernel
theorem dX2_turn_39 : decode prog_4_method_8_code 39 = .ok (.getfield 12, 3) := by decide +kernel
theorem dX2_turn_42 : decode prog_4_method_8_code 42 = .ok (.getfield 123, 3) := by decide +kernel
theorem dX2_turn_45 : decode prog_4_method_8_code 45 = .ok (.aload_n 0, 1) := by decide +kernel
theorem dX2_turn_46 : decode prog_4_method_8_code 46 = .ok (.getfield 52, 3) := by decide +kernel
theorem dX2_turn_49 : decode prog_4_method_8_code 49 = .ok (.iaload, 1) := by decide +kernel
theorem dX2_turn_50 : decode prog_4_method_8_code 50 = .ok (.aload_n 0, 1) := by decide +kernel
theorem dX2_turn_51 : decode prog_4_method_8_code 51 = .ok (.getfield 12, 3) := by decide +kernel
theorem dX2_turn_54 : decode prog_4_method_8_code 54 = .ok (.getfield 86, 3) := by decide +kernel
theorem dX2_turn_57 : decode prog_4_method_8_code 57 = .ok (.isub, 1) := by decide +kernel
theorem dX2_turn_58 : decode prog_4_method_8_code 58 = .ok (.invokestatic 117, 3) := by decide +kernel
theorem dX2_turn_61 : decode prog_4_method_8_code 61 = .ok (.istore_n 2, 1) := by decide +kernel
theorem dX2_turn_62 : decode prog_4_method_8_code 62 = .ok (.iload_n 2, 1) := by decide +kernel
theorem dX2_turn_63 : decode prog_4_method_8_code 63 = .ok (.ifCond .ne 4, 3) := by decide +kernel
theorem dX2_turn_66 : decode prog_4_method_8_code 66 = .ok (.return_, 1) := by decide +kernel
theorem dX2_turn_67 : decode prog_4_method_8_code 67 = .ok (.aload_n 0, 1) := by decide +kernel
theorem dX2_turn_68 : decode prog_4_method_8_code 68 = .ok (.getfield 12, 3) := by decide +kernel
theorem dX2_turn_71 : decode prog_4_method_8_code 71 = .ok (.aload_n 0, 1) := by decide +kernel
theorem dX2_turn_72 : decode prog_4_method_8_code 72 = .ok (.getfield 12, 3) := by decide +kernel
theorem dX2_turn_75 : decode prog_4_method_8_code 75 = .ok (.getfield 86, 3) := by decide +kernel
theorem dX2_turn_78 : decode prog_4_method_8_code 78 = .ok (.iload_n 2, 1) := by decide +kernel
theorem dX2_turn_79 : decode prog_4_method_8_code 79 = .ok (.iconst 4, 1) := by decide +kernel
theorem dX2_turn_80 : decode prog_4_method_8_code 80 = .ok (.if_icmp .gt 7, 3) := by decide +kernel
theorem dX2_turn_83 : decode prog_4_method_8_code 83 = .ok (.iconst 1, 1) := by decide +kernel
theorem dX2_turn_84 : decode prog_4_method_8_code 84 = .ok (.goto 4, 3) := by decide +kernel
theorem dX2_turn_87 : decode prog_4_method_8_code 87 = .ok (.iconst (-1), 1) := by decide +kernel
theorem dX2_turn_88 : decode prog_4_method_8_code 88 = .ok (.iadd, 1) := by decide +kernel
theorem dX2_turn_89 : decode prog_4_method_8_code 89 = .ok (.invokestatic 117, 3) := by decide +kernel
theorem dX2_turn_92 : decode prog_4_method_8_code 92 = .ok (.putfield 86, 3) := by decide +kernel
theorem dX2_turn_95 : decode prog_4_method_8_code 95 = .ok (.return_, 1) := by decide +kernel
theorem dX2_feel_0 : decode prog_4_method_9_code 0 = .ok (.iload_n 2, 1) := by decide +kernel
theorem dX2_feel_1 : decode prog_4_method_9_code 1 = .ok (.ifCond .ne 27, 3) := by decide +kernel
theorem dX2_feel_4 : decode prog_4_method_9_code 4 = .ok (.aload_n 0, 1) := by decide +kernel
theorem dX2_feel_5 : decode prog_4_method_9_code 5 = .ok (.getfield 34, 3) := by decide +kernel
theorem dX2_feel_8 : decode prog_4_method_9_code 8 = .ok (.iload_n 1, 1) := by decide +kernel
theorem dX2_feel_9 : decode prog_4_method_9_code 9 = .ok (.iconst 0, 1) := by decide +kernel
theorem dX2_feel_10 : decode prog_4_method_9_code 10 = .ok (.iastore, 1) := by decide +kernel
theorem dX2_feel_11 : decode prog_4_method_9_code 11 = .ok (.aload_n 0, 1) := by decide +kernel
theorem dX2_feel_12 : decode prog_4_method_9_code 12 = .ok (.getfield 18, 3) := by decide +kernel
theorem dX2_feel_15 : decode prog_4_method_9_code 15 = .ok (.iload_n 1, 1) := by decide +kernel
theorem dX2_feel_16 : decode prog_4_method_9_code 16 = .ok (.dup2, 1) := by decide +kernel
theorem dX2_feel_17 : decode prog_4_method_9_code 17 = .ok (.iaload, 1) := by decide +kernel
theorem dX2_feel_18 : decode prog_4_method_9_code 18 = .ok (.aload_n 0, 1) := by decide +kernel
theorem dX2_feel_19 : decode prog_4_method_9_code 19 = .ok (.iconst 2, 1) := by decide +kernel
theorem dX2_feel_20 : decode prog_4_method_9_code 20 = .ok (.iload_n 1, 1) := by decide +kernel
theorem dX2_feel_21 : decode prog_4_method_9_code 21 = .ok (.iload_n 3, 1) := by decide +kernel
theorem dX2_feel_22 : decode prog_4_method_9_code 22 = .ok (.invokevirtual 126, 3) := by decide +kernel
theorem dX2_feel_25 : decode prog_4_method_9_code 25 = .ok (.iadd, 1) := by decide +kernel
theorem dX2_feel_26 : decode prog_4_method_9_code 26 = .ok (.iastore, 1) := by decide +kernel
theorem dX2_feel_27 : decode prog_4_method_9_code 27 = .ok (.return_, 1) := by decide +kernel
theorem dX2_feel_28 : decode prog_4_method_9_code 28 = .ok (.aload_n 0, 1) := by decide +kernel
theorem dX2_feel_29 : decode prog_4_method_9_code 29 = .ok (.getfield 34, 3) := by decide +kernel
theorem dX2_feel_32 : decode prog_4_method_9_code 32 = .ok (.iload_n 1, 1) := by decide +kernel
theorem dX2_feel_33 : decode prog_4_method_9_code 33 = .ok (.dup2, 1) := by decide +kernel
theorem dX2_feel_34 : decode prog_4_method_9_code 34 = .ok (.iaload, 1) := by decide +kernel
theorem dX2_feel_35 : decode prog_4_method_9_code 35 = .ok (.iconst 1, 1) := by decide +kernel
theorem dX2_feel_36 : decode prog_4_method_9_code 36 = .ok (.iadd, 1) := by decide +kernel
theorem dX2_feel_37 : decode prog_4_method_9_code 37 = .ok (.iastore, 1) := by decide +kernel
theorem dX2_feel_38 : decode prog_4_method_9_code 38 = .ok (.aload_n 0, 1) := by decide +kernel
theorem dX2_feel_39 : decode prog_4_method_9_code 39 = .ok (.getfield 28, 3) := by decide +kernel
theorem dX2_feel_42 : decode prog_4_method_9_code 42 = .ok (.iload_n 1, 1) := by decide +kernel
theorem dX2_feel_43 : decode prog_4_method_9_code 43 = .ok (.aload_n 0, 1) := by decide +kernel
theorem dX2_feel_44 : decode prog_4_method_9_code 44 = .ok (.getfield 28, 3) := by decide +kernel
theorem dX2_feel_47 : decode prog_4_method_9_code 47 = .ok (.iload_n 1, 1) := by decide +kernel
theorem dX2_feel_48 : decode prog_4_method_9_code 48 = .ok (.iaload, 1) := by decide +kernel
theorem dX2_feel_49 : decode prog_4_method_9_code 49 = .ok (.aload_n 0, 1) := by decide +kernel
theorem dX2_feel_50 : decode prog_4_method_9_code 50 = .ok (.getfield 34, 3) := by decide +kernel
theorem dX2_feel_53 : decode prog_4_method_9_code 53 = .ok (.iload_n 1, 1) := by decide +kernel
theorem dX2_feel_54 : decode prog_4_method_9_code 54 = .ok (.iaload, 1) := by decide +kernel
theorem dX2_feel_55 : decode prog_4_method_9_code 55 = .ok (.invokestatic 130, 3) := by decide +kernel
theorem dX2_feel_58 : decode prog_4_method_9_code 58 = .ok (.iastore, 1) := by decide +kernel
theorem dX2_feel_59 : decode prog_4_method_9_code 59 = .ok (.aload_n 0, 1) := by decide +kernel
theorem dX2_feel_60 : decode prog_4_method_9_code 60 = .ok (.getfield 22, 3) := by decide +kernel
theorem dX2_feel_63 : decode prog_4_method_9_code 63 = .ok (.iload_n 1, 1) := by decide +kernel
theorem dX2_feel_64 : decode prog_4_method_9_code 64 = .ok (.dup2, 1) := by decide +kernel
theorem dX2_feel_65 : decode prog_4_method_9_code 65 = .ok (.iaload, 1) := by decide +kernel
theorem dX2_feel_66 : decode prog_4_method_9_code 66 = .ok (.iconst 1, 1) := by decide +kernel
theorem dX2_feel_67 : decode prog_4_method_9_code 67 = .ok (.iadd, 1) := by decide +kernel
theorem dX2_feel_68 : decode prog_4_method_9_code 68 = .ok (.iastore, 1) := by decide +kernel
theorem dX2_feel_69 : decode prog_4_method_9_code 69 = .ok (.aload_n 0, 1) := by decide +kernel
theorem dX2_feel_70 : decode prog_4_method_9_code 70 = .ok (.getfield 58, 3) := by decide +kernel
theorem dX2_feel_73 : decode prog_4_method_9_code 73 = .ok (.ifnonnull 4, 3) := by decide +kernel
theorem dX2_feel_76 : decode prog_4_method_9_code 76 = .ok (.return_, 1) := by decide +kernel
theorem dX2_feel_77 : decode prog_4_method_9_code 77 = .ok (.aload_n 0, 1) := by decide +kernel
theorem dX2_feel_78 : decode prog_4_method_9_code 78 = .ok (.getfield 18, 3) := by decide +kernel
theorem dX2_feel_81 : decode prog_4_method_9_code 81 = .ok (.iload_n 1, 1) := by decide +kernel
theorem dX2_feel_82 : decode prog_4_method_9_code 82 = .ok (.dup2, 1) := by decide +kernel
theorem dX2_feel_83 : decode prog_4_method_9_code 83 = .ok (.iaload, 1) := by decide +kernel
theorem dX2_feel_84 : decode prog_4_method_9_code 84 = .ok (.aload_n 0, 1) := by decide +kernel
theorem dX2_feel_85 : decode prog_4_method_9_code 85 = .ok (.getfield 12, 3) := by decide +kernel
theorem dX2_feel_88 : decode prog_4_method_9_code 88 = .ok (.getfield 101, 3) := by decide +kernel
theorem dX2_feel_91 : decode prog_4_method_9_code 91 = .ok (.iload_n 1, 1) := by decide +kernel
