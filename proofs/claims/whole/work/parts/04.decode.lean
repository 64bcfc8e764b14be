theorem d_Model_init_0 : decode prog_13_method_1_code 0 = .ok (.aload_n 0, 1) := by decide +kernel
theorem d_Model_init_1 : decode prog_13_method_1_code 1 = .ok (.invokespecial 1, 3) := by decide +kernel
theorem d_Model_init_4 : decode prog_13_method_1_code 4 = .ok (.aload_n 0, 1) := by decide +kernel
theorem d_Model_init_5 : decode prog_13_method_1_code 5 = .ok (.bipush 53, 2) := by decide +kernel
theorem d_Model_init_7 : decode prog_13_method_1_code 7 = .ok (.newarray .int, 2) := by decide +kernel
theorem d_Model_init_9 : decode prog_13_method_1_code 9 = .ok (.putfield 7, 3) := by decide +kernel
theorem d_Model_init_12 : decode prog_13_method_1_code 12 = .ok (.aload_n 0, 1) := by decide +kernel
theorem d_Model_init_13 : decode prog_13_method_1_code 13 = .ok (.lconst 1, 1) := by decide +kernel
theorem d_Model_init_14 : decode prog_13_method_1_code 14 = .ok (.putfield 13, 3) := by decide +kernel
theorem d_Model_init_17 : decode prog_13_method_1_code 17 = .ok (.aload_n 0, 1) := by decide +kernel
theorem d_Model_init_18 : decode prog_13_method_1_code 18 = .ok (.iconst 3, 1) := by decide +kernel
theorem d_Model_init_19 : decode prog_13_method_1_code 19 = .ok (.newarray .int, 2) := by decide +kernel
theorem d_Model_init_21 : decode prog_13_method_1_code 21 = .ok (.putfield 17, 3) := by decide +kernel
theorem d_Model_init_24 : decode prog_13_method_1_code 24 = .ok (.aload_n 0, 1) := by decide +kernel
theorem d_Model_init_25 : decode prog_13_method_1_code 25 = .ok (.sipush 150, 3) := by decide +kernel
theorem d_Model_init_28 : decode prog_13_method_1_code 28 = .ok (.newarray .int, 2) := by decide +kernel
theorem d_Model_init_30 : decode prog_13_method_1_code 30 = .ok (.putfield 20, 3) := by decide +kernel
theorem d_Model_init_33 : decode prog_13_method_1_code 33 = .ok (.aload_n 0, 1) := by decide +kernel
theorem d_Model_init_34 : decode prog_13_method_1_code 34 = .ok (.iconst 2, 1) := by decide +kernel
theorem d_Model_init_35 : decode prog_13_method_1_code 35 = .ok (.newarray .int, 2) := by decide +kernel
theorem d_Model_init_37 : decode prog_13_method_1_code 37 = .ok (.putfield 23, 3) := by decide +kernel
theorem d_Model_init_40 : decode prog_13_method_1_code 40 = .ok (.aload_n 0, 1) := by decide +kernel
theorem d_Model_init_41 : decode prog_13_method_1_code 41 = .ok (.bipush 32, 2) := by decide +kernel
theorem d_Model_init_43 : decode prog_13_method_1_code 43 = .ok (.newarray .int, 2) := by decide +kernel
theorem d_Model_init_45 : decode prog_13_method_1_code 45 = .ok (.putfield 26, 3) := by decide +kernel
theorem d_Model_init_48 : decode prog_13_method_1_code 48 = .ok (.aload_n 0, 1) := by decide +kernel
theorem d_Model_init_49 : decode prog_13_method_1_code 49 = .ok (.sipush 3200, 3) := by decide +kernel
theorem d_Model_init_52 : decode prog_13_method_1_code 52 = .ok (.newarray .int, 2) := by decide +kernel
theorem d_Model_init_54 : decode prog_13_method_1_code 54 = .ok (.putfield 29, 3) := by decide +kernel
theorem d_Model_init_57 : decode prog_13_method_1_code 57 = .ok (.aload_n 0, 1) := by decide +kernel
theorem d_Model_init_58 : decode prog_13_method_1_code 58 = .ok (.iconst 4, 1) := by decide +kernel
theorem d_Model_init_59 : decode prog_13_method_1_code 59 = .ok (.newarray .int, 2) := by decide +kernel
theorem d_Model_init_61 : decode prog_13_method_1_code 61 = .ok (.putfield 32, 3) := by decide +kernel
theorem d_Model_init_64 : decode prog_13_method_1_code 64 = .ok (.aload_n 0, 1) := by decide +kernel
theorem d_Model_init_65 : decode prog_13_method_1_code 65 = .ok (.iconst 2, 1) := by decide +kernel
theorem d_Model_init_66 : decode prog_13_method_1_code 66 = .ok (.newarray .boolean, 2) := by decide +kernel
theorem d_Model_init_68 : decode prog_13_method_1_code 68 = .ok (.putfield 35, 3) := by decide +kernel
theorem d_Model_init_71 : decode prog_13_method_1_code 71 = .ok (.aload_n 0, 1) := by decide +kernel
theorem d_Model_init_72 : decode prog_13_method_1_code 72 = .ok (.bipush 106, 2) := by decide +kernel
theorem d_Model_init_74 : decode prog_13_method_1_code 74 = .ok (.newarray .int, 2) := by decide +kernel
theorem d_Model_init_76 : decode prog_13_method_1_code 76 = .ok (.putfield 39, 3) := by decide +kernel
theorem d_Model_init_79 : decode prog_13_method_1_code 79 = .ok (.aload_n 0, 1) := by decide +kernel
theorem d_Model_init_80 : decode prog_13_method_1_code 80 = .ok (.bipush 64, 2) := by decide +kernel
theorem d_Model_init_82 : decode prog_13_method_1_code 82 = .ok (.newarray .int, 2) := by decide +kernel
theorem d_Model_init_84 : decode prog_13_method_1_code 84 = .ok (.putfield 42, 3) := by decide +kernel
theorem d_Model_init_87 : decode prog_13_method_1_code 87 = .ok (.aload_n 0, 1) := by decide +kernel
theorem d_Model_init_88 : decode prog_13_method_1_code 88 = .ok (.iconst 2, 1) := by decide +kernel
theorem d_Model_init_89 : decode prog_13_method_1_code 89 = .ok (.newarray .int, 2) := by decide +kernel
theorem d_Model_init_91 : decode prog_13_method_1_code 91 = .ok (.putfield 45, 3) := by decide +kernel
theorem d_Model_init_94 : decode prog_13_method_1_code 94 = .ok (.aload_n 0, 1) := by decide +kernel
theorem d_Model_init_95 : decode prog_13_method_1_code 95 = .ok (.iconst 1, 1) := by decide +kernel
theorem d_Model_init_96 : decode prog_13_method_1_code 96 = .ok (.invokevirtual 48, 3) := by decide +kernel
theorem d_Model_init_99 : decode prog_13_method_1_code 99 = .ok (.return_, 1) := by decide +kernel
theorem d_Model_in_0 : decode prog_13_method_2_code 0 = .ok (.lload_n 0, 1) := by decide +kernel
theorem d_Model_in_1 : decode prog_13_method_2_code 1 = .ok (.lload_n 2, 1) := by decide +kernel
theorem d_Model_in_2 : decode prog_13_method_2_code 2 = .ok (.lcmp, 1) := by decide +kernel
theorem d_Model_in_3 : decode prog_13_method_2_code 3 = .ok (.ifCond .lt 14, 3) := by decide +kernel
theorem d_Model_in_6 : decode prog_13_method_2_code 6 = .ok (.lload_n 0, 1) := by decide +kernel
theorem d_Model_in_7 : decode prog_13_method_2_code 7 = .ok (.lload 4, 2) := by decide +kernel
theorem d_Model_in_9 : decode prog_13_method_2_code 9 = .ok (.lcmp, 1) := by decide +kernel
theorem d_Model_in_10 : decode prog_13_method_2_code 10 = .ok (.ifCond .gt 7, 3) := by decide +kernel
theorem d_Model_in_13 : decode prog_13_method_2_code 13 = .ok (.iconst 1, 1) := by decide +kernel
theorem d_Model_in_14 : decode prog_13_method_2_code 14 = .ok (.goto 4, 3) := by decide +kernel
theorem d_Model_in_17 : decode prog_13_method_2_code 17 = .ok (.iconst 0, 1) := by decide +kernel
theorem d_Model_in_18 : decode prog_13_method_2_code 18 = .ok (.ireturn, 1) := by decide +kernel
theorem d_Model_has_0 : decode prog_13_method_3_code 0 = .ok (.iload_n 0, 1) := by decide +kernel
theorem d_Model_has_1 : decode prog_13_method_3_code 1 = .ok (.iload_n 1, 1) := by decide +kernel
theorem d_Model_has_2 : decode prog_13_method_3_code 2 = .ok (.ishr, 1) := by decide +kernel
theorem d_Model_has_3 : decode prog_13_method_3_code 3 = .ok (.iconst 1, 1) := by decide +kernel
theorem d_Model_has_4 : decode prog_13_method_3_code 4 = .ok (.iand, 1) := by decide +kernel
theorem d_Model_has_5 : decode prog_13_method_3_code 5 = .ok (.iconst 1, 1) := by decide +kernel
theorem d_Model_has_6 : decode prog_13_method_3_code 6 = .ok (.if_icmp .ne 7, 3) := by decide +kernel
theorem d_Model_has_9 : decode prog_13_method_3_code 9 = .ok (.iconst 1, 1) := by decide +kernel
theorem d_Model_has_10 : decode prog_13_method_3_code 10 = .ok (.goto 4, 3) := by decide +kernel
theorem d_Model_has_13 : decode prog_13_method_3_code 13 = .ok (.iconst 0, 1) := by decide +kernel
theorem d_Model_has_14 : decode prog_13_method_3_code 14 = .ok (.ireturn, 1) := by decide +kernel
theorem d_Model_bad_0 : decode prog_13_method_4_code 0 = .ok (.aload_n 0, 1) := by decide +kernel
theorem d_Model_bad_1 : decode prog_13_method_4_code 1 = .ok (.getfield 17, 3) := by decide +kernel
theorem d_Model_bad_4 : decode prog_13_method_4_code 4 = .ok (.iconst 0, 1) := by decide +kernel
theorem d_Model_bad_5 : decode prog_13_method_4_code 5 = .ok (.dup2, 1) := by decide +kernel
theorem d_Model_bad_6 : decode prog_13_method_4_code 6 = .ok (.iaload, 1) := by decide +kernel
theorem d_Model_bad_7 : decode prog_13_method_4_code 7 = .ok (.iconst 1, 1) := by decide +kernel
theorem d_Model_bad_8 : decode prog_13_method_4_code 8 = .ok (.iadd, 1) := by decide +kernel
theorem d_Model_bad_9 : decode prog_13_method_4_code 9 = .ok (.iastore, 1) := by decide +kernel
theorem d_Model_bad_10 : decode prog_13_method_4_code 10 = .ok (.bipush (-2), 2) := by decide +kernel
theorem d_Model_bad_12 : decode prog_13_method_4_code 12 = .ok (.ireturn, 1) := by decide +kernel
theorem d_Model_no_0 : decode prog_13_method_5_code 0 = .ok (.aload_n 0, 1) := by decide +kernel
theorem d_Model_no_1 : decode prog_13_method_5_code 1 = .ok (.getfield 17, 3) := by decide +kernel
theorem d_Model_no_4 : decode prog_13_method_5_code 4 = .ok (.iconst 1, 1) := by decide +kernel
theorem d_Model_no_5 : decode prog_13_method_5_code 5 = .ok (.dup2, 1) := by decide +kernel
theorem d_Model_no_6 : decode prog_13_method_5_code 6 = .ok (.iaload, 1) := by decide +kernel
theorem d_Model_no_7 : decode prog_13_method_5_code 7 = .ok (.iconst 1, 1) := by decide +kernel
theorem d_Model_no_8 : decode prog_13_method_5_code 8 = .ok (.iadd, 1) := by decide +kernel
theorem d_Model_no_9 : decode prog_13_method_5_code 9 = .ok (.iastore, 1) := by decide +kernel
theorem d_Model_no_10 : decode prog_13_method_5_code 10 = .ok (.bipush (-3), 2) := by decide +kernel
theorem d_Model_no_12 : decode prog_13_method_5_code 12 = .ok (.ireturn, 1) := by decide +kernel
theorem d_Model_full_0 : decode prog_13_method_6_code 0 = .ok (.aload_n 0, 1) := by decide +kernel
theorem d_Model_full_1 : decode prog_13_method_6_code 1 = .ok (.getfield 17, 3) := by decide +kernel
theorem d_Model_full_4 : decode prog_13_method_6_code 4 = .ok (.iconst 2, 1) := by decide +kernel
theorem d_Model_full_5 : decode prog_13_method_6_code 5 = .ok (.dup2, 1) := by decide +kernel
theorem d_Model_full_6 : decode prog_13_method_6_code 6 = .ok (.iaload, 1) := by decide +kernel
theorem d_Model_full_7 : decode prog_13_method_6_code 7 = .ok (.iconst 1, 1) := by decide +kernel
theorem d_Model_full_8 : decode prog_13_method_6_code 8 = .ok (.iadd, 1) := by decide +kernel
theorem d_Model_full_9 : decode prog_13_method_6_code 9 = .ok (.iastore, 1) := by decide +kernel
theorem d_Model_full_10 : decode prog_13_method_6_code 10 = .ok (.bipush (-4), 2) := by decide +kernel
theorem d_Model_full_12 : decode prog_13_method_6_code 12 = .ok (.ireturn, 1) := by decide +kernel
theorem d_Model_isDoing_0 : decode prog_13_method_7_code 0 = .ok (.iload_n 1, 1) := by decide +kernel
theorem d_Model_isDoing_1 : decode prog_13_method_7_code 1 = .ok (.i2l, 1) := by decide +kernel
theorem d_Model_isDoing_2 : decode prog_13_method_7_code 2 = .ok (.lconst 0, 1) := by decide +kernel
theorem d_Model_isDoing_3 : decode prog_13_method_7_code 3 = .ok (.aload_n 0, 1) := by decide +kernel
theorem d_Model_isDoing_4 : decode prog_13_method_7_code 4 = .ok (.getfield 7, 3) := by decide +kernel
theorem d_Model_isDoing_7 : decode prog_13_method_7_code 7 = .ok (.bipush 9, 2) := by decide +kernel
theorem d_Model_isDoing_9 : decode prog_13_method_7_code 9 = .ok (.iaload, 1) := by decide +kernel
theorem d_Model_isDoing_10 : decode prog_13_method_7_code 10 = .ok (.iconst 1, 1) := by decide +kernel
theorem d_Model_isDoing_11 : decode prog_13_method_7_code 11 = .ok (.isub, 1) := by decide +kernel
theorem d_Model_isDoing_12 : decode prog_13_method_7_code 12 = .ok (.i2l, 1) := by decide +kernel
theorem d_Model_isDoing_13 : decode prog_13_method_7_code 13 = .ok (.invokestatic 52, 3) := by decide +kernel
theorem d_Model_isDoing_16 : decode prog_13_method_7_code 16 = .ok (.ireturn, 1) := by decide +kernel
theorem d_Model_isSide_0 : decode prog_13_method_8_code 0 = .ok (.iload_n 0, 1) := by decide +kernel
theorem d_Model_isSide_1 : decode prog_13_method_8_code 1 = .ok (.i2l, 1) := by decide +kernel
theorem d_Model_isSide_2 : decode prog_13_method_8_code 2 = .ok (.lconst 0, 1) := by decide +kernel
theorem d_Model_isSide_3 : decode prog_13_method_8_code 3 = .ok (.lconst 1, 1) := by decide +kernel
theorem d_Model_isSide_4 : decode prog_13_method_8_code 4 = .ok (.invokestatic 52, 3) := by decide +kernel
theorem d_Model_isSide_7 : decode prog_13_method_8_code 7 = .ok (.ireturn, 1) := by decide +kernel
theorem d_Model_isHour_0 : decode prog_13_method_9_code 0 = .ok (.iload_n 0, 1) := by decide +kernel
theorem d_Model_isHour_1 : decode prog_13_method_9_code 1 = .ok (.i2l, 1) := by decide +kernel
theorem d_Model_isHour_2 : decode prog_13_method_9_code 2 = .ok (.lconst 0, 1) := by decide +kernel
theorem d_Model_isHour_3 : decode prog_13_method_9_code 3 = .ok (.ldc2_w 56, 3) := by decide +kernel
theorem d_Model_isHour_6 : decode prog_13_method_9_code 6 = .ok (.invokestatic 52, 3) := by decide +kernel
theorem d_Model_isHour_9 : decode prog_13_method_9_code 9 = .ok (.ireturn, 1) := by decide +kernel
theorem d_Model_anew_0 : decode prog_13_method_10_code 0 = .ok (.iconst 0, 1) := by decide +kernel
theorem d_Model_anew_1 : decode prog_13_method_10_code 1 = .ok (.istore_n 2, 1) := by decide +kernel
theorem d_Model_anew_2 : decode prog_13_method_10_code 2 = .ok (.iload_n 2, 1) := by decide +kernel
theorem d_Model_anew_3 : decode prog_13_method_10_code 3 = .ok (.bipush 53, 2) := by decide +kernel
theorem d_Model_anew_5 : decode prog_13_method_10_code 5 = .ok (.if_icmp .ge 16, 3) := by decide +kernel
theorem d_Model_anew_8 : decode prog_13_method_10_code 8 = .ok (.aload_n 0, 1) := by decide +kernel
theorem d_Model_anew_9 : decode prog_13_method_10_code 9 = .ok (.getfield 7, 3) := by decide +kernel
theorem d_Model_anew_12 : decode prog_13_method_10_code 12 = .ok (.iload_n 2, 1) := by decide +kernel
theorem d_Model_anew_13 : decode prog_13_method_10_code 13 = .ok (.iconst 0, 1) := by decide +kernel
theorem d_Model_anew_14 : decode prog_13_method_10_code 14 = .ok (.iastore, 1) := by decide +kernel
theorem d_Model_anew_15 : decode prog_13_method_10_code 15 = .ok (.iinc 2 1, 3) := by decide +kernel
theorem d_Model_anew_18 : decode prog_13_method_10_code 18 = .ok (.goto (-16), 3) := by decide +kernel
theorem d_Model_anew_21 : decode prog_13_method_10_code 21 = .ok (.aload_n 0, 1) := by decide +kernel
theorem d_Model_anew_22 : decode prog_13_method_10_code 22 = .ok (.getfield 7, 3) := by decide +kernel
theorem d_Model_anew_25 : decode prog_13_method_10_code 25 = .ok (.iconst 4, 1) := by decide +kernel
theorem d_Model_anew_26 : decode prog_13_method_10_code 26 = .ok (.iload_n 1, 1) := by decide +kernel
theorem d_Model_anew_27 : decode prog_13_method_10_code 27 = .ok (.iastore, 1) := by decide +kernel
theorem d_Model_anew_28 : decode prog_13_method_10_code 28 = .ok (.aload_n 0, 1) := by decide +kernel
theorem d_Model_anew_29 : decode prog_13_method_10_code 29 = .ok (.getfield 7, 3) := by decide +kernel
theorem d_Model_anew_32 : decode prog_13_method_10_code 32 = .ok (.iconst 5, 1) := by decide +kernel
theorem d_Model_anew_33 : decode prog_13_method_10_code 33 = .ok (.iconst 1, 1) := by decide +kernel
theorem d_Model_anew_34 : decode prog_13_method_10_code 34 = .ok (.iastore, 1) := by decide +kernel
theorem d_Model_anew_35 : decode prog_13_method_10_code 35 = .ok (.aload_n 0, 1) := by decide +kernel
theorem d_Model_anew_36 : decode prog_13_method_10_code 36 = .ok (.getfield 7, 3) := by decide +kernel
theorem d_Model_anew_39 : decode prog_13_method_10_code 39 = .ok (.bipush 6, 2) := by decide +kernel
theorem d_Model_anew_41 : decode prog_13_method_10_code 41 = .ok (.iconst 1, 1) := by decide +kernel
theorem d_Model_anew_42 : decode prog_13_method_10_code 42 = .ok (.iastore, 1) := by decide +kernel
theorem d_Model_anew_43 : decode prog_13_method_10_code 43 = .ok (.aload_n 0, 1) := by decide +kernel
theorem d_Model_anew_44 : decode prog_13_method_10_code 44 = .ok (.iconst 0, 1) := by decide +kernel
theorem d_Model_anew_45 : decode prog_13_method_10_code 45 = .ok (.putfield 58, 3) := by decide +kernel
theorem d_Model_anew_48 : decode prog_13_method_10_code 48 = .ok (.return_, 1) := by decide +kernel
theorem d_Model_house_0 : decode prog_13_method_11_code 0 = .ok (.iload_n 1, 1) := by decide +kernel
theorem d_Model_house_1 : decode prog_13_method_11_code 1 = .ok (.i2l, 1) := by decide +kernel
theorem d_Model_house_2 : decode prog_13_method_11_code 2 = .ok (.lconst 0, 1) := by decide +kernel
theorem d_Model_house_3 : decode prog_13_method_11_code 3 = .ok (.ldc2_w 62, 3) := by decide +kernel
theorem d_Model_house_6 : decode prog_13_method_11_code 6 = .ok (.invokestatic 52, 3) := by decide +kernel
theorem d_Model_house_9 : decode prog_13_method_11_code 9 = .ok (.ifCond .ne 8, 3) := by decide +kernel
theorem d_Model_house_12 : decode prog_13_method_11_code 12 = .ok (.aload_n 0, 1) := by decide +kernel
theorem d_Model_house_13 : decode prog_13_method_11_code 13 = .ok (.invokevirtual 64, 3) := by decide +kernel
theorem d_Model_house_16 : decode prog_13_method_11_code 16 = .ok (.ireturn, 1) := by decide +kernel
theorem d_Model_house_17 : decode prog_13_method_11_code 17 = .ok (.aload_n 0, 1) := by decide +kernel
theorem d_Model_house_18 : decode prog_13_method_11_code 18 = .ok (.getfield 7, 3) := by decide +kernel
theorem d_Model_house_21 : decode prog_13_method_11_code 21 = .ok (.bipush 9, 2) := by decide +kernel
theorem d_Model_house_23 : decode prog_13_method_11_code 23 = .ok (.iaload, 1) := by decide +kernel
theorem d_Model_house_24 : decode prog_13_method_11_code 24 = .ok (.istore_n 2, 1) := by decide +kernel
theorem d_Model_house_25 : decode prog_13_method_11_code 25 = .ok (.aload_n 0, 1) := by decide +kernel
theorem d_Model_house_26 : decode prog_13_method_11_code 26 = .ok (.iload_n 1, 1) := by decide +kernel
theorem d_Model_house_27 : decode prog_13_method_11_code 27 = .ok (.invokevirtual 48, 3) := by decide +kernel
theorem d_Model_house_30 : decode prog_13_method_11_code 30 = .ok (.iload_n 2, 1) := by decide +kernel
theorem d_Model_house_31 : decode prog_13_method_11_code 31 = .ok (.ireturn, 1) := by decide +kernel
theorem d_Model_rate_0 : decode prog_13_method_12_code 0 = .ok (.iload_n 1, 1) := by decide +kernel
theorem d_Model_rate_1 : decode prog_13_method_12_code 1 = .ok (.invokestatic 68, 3) := by decide +kernel
theorem d_Model_rate_4 : decode prog_13_method_12_code 4 = .ok (.ifCond .eq 15, 3) := by decide +kernel
theorem d_Model_rate_7 : decode prog_13_method_12_code 7 = .ok (.iload_n 2, 1) := by decide +kernel
theorem d_Model_rate_8 : decode prog_13_method_12_code 8 = .ok (.i2l, 1) := by decide +kernel
theorem d_Model_rate_9 : decode prog_13_method_12_code 9 = .ok (.lconst 0, 1) := by decide +kernel
theorem d_Model_rate_10 : decode prog_13_method_12_code 10 = .ok (.ldc2_w 62, 3) := by decide +kernel
theorem d_Model_rate_13 : decode prog_13_method_12_code 13 = .ok (.invokestatic 52, 3) := by decide +kernel
theorem d_Model_rate_16 : decode prog_13_method_12_code 16 = .ok (.ifCond .ne 8, 3) := by decide +kernel
theorem d_Model_rate_19 : decode prog_13_method_12_code 19 = .ok (.aload_n 0, 1) := by decide +kernel
theorem d_Model_rate_20 : decode prog_13_method_12_code 20 = .ok (.invokevirtual 64, 3) := by decide +kernel
theorem d_Model_rate_23 : decode prog_13_method_12_code 23 = .ok (.ireturn, 1) := by decide +kernel
theorem d_Model_rate_24 : decode prog_13_method_12_code 24 = .ok (.aload_n 0, 1) := by decide +kernel
theorem d_Model_rate_25 : decode prog_13_method_12_code 25 = .ok (.getfield 7, 3) := by decide +kernel
theorem d_Model_rate_28 : decode prog_13_method_12_code 28 = .ok (.iconst 5, 1) := by decide +kernel
theorem d_Model_rate_29 : decode prog_13_method_12_code 29 = .ok (.iload_n 1, 1) := by decide +kernel
theorem d_Model_rate_30 : decode prog_13_method_12_code 30 = .ok (.iadd, 1) := by decide +kernel
theorem d_Model_rate_31 : decode prog_13_method_12_code 31 = .ok (.iaload, 1) := by decide +kernel
theorem d_Model_rate_32 : decode prog_13_method_12_code 32 = .ok (.istore_n 3, 1) := by decide +kernel
theorem d_Model_rate_33 : decode prog_13_method_12_code 33 = .ok (.aload_n 0, 1) := by decide +kernel
theorem d_Model_rate_34 : decode prog_13_method_12_code 34 = .ok (.getfield 7, 3) := by decide +kernel
theorem d_Model_rate_37 : decode prog_13_method_12_code 37 = .ok (.iconst 5, 1) := by decide +kernel
theorem d_Model_rate_38 : decode prog_13_method_12_code 38 = .ok (.iload_n 1, 1) := by decide +kernel
theorem d_Model_rate_39 : decode prog_13_method_12_code 39 = .ok (.iadd, 1) := by decide +kernel
theorem d_Model_rate_40 : decode prog_13_method_12_code 40 = .ok (.iload_n 2, 1) := by decide +kernel
theorem d_Model_rate_41 : decode prog_13_method_12_code 41 = .ok (.iastore, 1) := by decide +kernel
theorem d_Model_rate_42 : decode prog_13_method_12_code 42 = .ok (.iload_n 3, 1) := by decide +kernel
theorem d_Model_rate_43 : decode prog_13_method_12_code 43 = .ok (.ireturn, 1) := by decide +kernel
theorem d_Model_bar_0 : decode prog_13_method_13_code 0 = .ok (.iload_n 1, 1) := by decide +kernel
theorem d_Model_bar_1 : decode prog_13_method_13_code 1 = .ok (.invokestatic 68, 3) := by decide +kernel
theorem d_Model_bar_4 : decode prog_13_method_13_code 4 = .ok (.ifCond .eq 15, 3) := by decide +kernel
theorem d_Model_bar_7 : decode prog_13_method_13_code 7 = .ok (.iload_n 2, 1) := by decide +kernel
theorem d_Model_bar_8 : decode prog_13_method_13_code 8 = .ok (.i2l, 1) := by decide +kernel
theorem d_Model_bar_9 : decode prog_13_method_13_code 9 = .ok (.lconst 0, 1) := by decide +kernel
theorem d_Model_bar_10 : decode prog_13_method_13_code 10 = .ok (.ldc2_w 72, 3) := by decide +kernel
theorem d_Model_bar_13 : decode prog_13_method_13_code 13 = .ok (.invokestatic 52, 3) := by decide +kernel
theorem d_Model_bar_16 : decode prog_13_method_13_code 16 = .ok (.ifCond .ne 8, 3) := by decide +kernel
theorem d_Model_bar_19 : decode prog_13_method_13_code 19 = .ok (.aload_n 0, 1) := by decide +kernel
theorem d_Model_bar_20 : decode prog_13_method_13_code 20 = .ok (.invokevirtual 64, 3) := by decide +kernel
theorem d_Model_bar_23 : decode prog_13_method_13_code 23 = .ok (.ireturn, 1) := by decide +kernel
theorem d_Model_bar_24 : decode prog_13_method_13_code 24 = .ok (.aload_n 0, 1) := by decide +kernel
theorem d_Model_bar_25 : decode prog_13_method_13_code 25 = .ok (.getfield 7, 3) := by decide +kernel
theorem d_Model_bar_28 : decode prog_13_method_13_code 28 = .ok (.bipush 7, 2) := by decide +kernel
theorem d_Model_bar_30 : decode prog_13_method_13_code 30 = .ok (.iload_n 1, 1) := by decide +kernel
theorem d_Model_bar_31 : decode prog_13_method_13_code 31 = .ok (.iadd, 1) := by decide +kernel
theorem d_Model_bar_32 : decode prog_13_method_13_code 32 = .ok (.iaload, 1) := by decide +kernel
theorem d_Model_bar_33 : decode prog_13_method_13_code 33 = .ok (.istore_n 3, 1) := by decide +kernel
theorem d_Model_bar_34 : decode prog_13_method_13_code 34 = .ok (.aload_n 0, 1) := by decide +kernel
theorem d_Model_bar_35 : decode prog_13_method_13_code 35 = .ok (.getfield 7, 3) := by decide +kernel
theorem d_Model_bar_38 : decode prog_13_method_13_code 38 = .ok (.bipush 7, 2) := by decide +kernel
theorem d_Model_bar_40 : decode prog_13_method_13_code 40 = .ok (.iload_n 1, 1) := by decide +kernel
theorem d_Model_bar_41 : decode prog_13_method_13_code 41 = .ok (.iadd, 1) := by decide +kernel
theorem d_Model_bar_42 : decode prog_13_method_13_code 42 = .ok (.iload_n 2, 1) := by decide +kernel
theorem d_Model_bar_43 : decode prog_13_method_13_code 43 = .ok (.iastore, 1) := by decide +kernel
theorem d_Model_bar_44 : decode prog_13_method_13_code 44 = .ok (.iload_n 3, 1) := by decide +kernel
theorem d_Model_bar_45 : decode prog_13_method_13_code 45 = .ok (.ireturn, 1) := by decide +kernel
theorem d_Model_add_0 : decode prog_13_method_14_code 0 = .ok (.aload_n 0, 1) := by decide +kernel
theorem d_Model_add_1 : decode prog_13_method_14_code 1 = .ok (.getfield 7, 3) := by decide +kernel
theorem d_Model_add_4 : decode prog_13_method_14_code 4 = .ok (.bipush 10, 2) := by decide +kernel
theorem d_Model_add_6 : decode prog_13_method_14_code 6 = .ok (.aload_n 0, 1) := by decide +kernel
theorem d_Model_add_7 : decode prog_13_method_14_code 7 = .ok (.getfield 7, 3) := by decide +kernel
theorem d_Model_add_10 : decode prog_13_method_14_code 10 = .ok (.bipush 9, 2) := by decide +kernel
theorem d_Model_add_12 : decode prog_13_method_14_code 12 = .ok (.iaload, 1) := by decide +kernel
theorem d_Model_add_13 : decode prog_13_method_14_code 13 = .ok (.iadd, 1) := by decide +kernel
theorem d_Model_add_14 : decode prog_13_method_14_code 14 = .ok (.iload_n 1, 1) := by decide +kernel
theorem d_Model_add_15 : decode prog_13_method_14_code 15 = .ok (.iastore, 1) := by decide +kernel
theorem d_Model_add_16 : decode prog_13_method_14_code 16 = .ok (.aload_n 0, 1) := by decide +kernel
theorem d_Model_add_17 : decode prog_13_method_14_code 17 = .ok (.getfield 7, 3) := by decide +kernel
theorem d_Model_add_20 : decode prog_13_method_14_code 20 = .ok (.bipush 16, 2) := by decide +kernel
theorem d_Model_add_22 : decode prog_13_method_14_code 22 = .ok (.aload_n 0, 1) := by decide +kernel
theorem d_Model_add_23 : decode prog_13_method_14_code 23 = .ok (.getfield 7, 3) := by decide +kernel
theorem d_Model_add_26 : decode prog_13_method_14_code 26 = .ok (.bipush 9, 2) := by decide +kernel
theorem d_Model_add_28 : decode prog_13_method_14_code 28 = .ok (.iaload, 1) := by decide +kernel
theorem d_Model_add_29 : decode prog_13_method_14_code 29 = .ok (.iadd, 1) := by decide +kernel
theorem d_Model_add_30 : decode prog_13_method_14_code 30 = .ok (.iload_n 2, 1) := by decide +kernel
theorem d_Model_add_31 : decode prog_13_method_14_code 31 = .ok (.iastore, 1) := by decide +kernel
theorem d_Model_add_32 : decode prog_13_method_14_code 32 = .ok (.aload_n 0, 1) := by decide +kernel
theorem d_Model_add_33 : decode prog_13_method_14_code 33 = .ok (.getfield 7, 3) := by decide +kernel
theorem d_Model_add_36 : decode prog_13_method_14_code 36 = .ok (.bipush 9, 2) := by decide +kernel
theorem d_Model_add_38 : decode prog_13_method_14_code 38 = .ok (.dup2, 1) := by decide +kernel
theorem d_Model_add_39 : decode prog_13_method_14_code 39 = .ok (.iaload, 1) := by decide +kernel
theorem d_Model_add_40 : decode prog_13_method_14_code 40 = .ok (.iconst 1, 1) := by decide +kernel
theorem d_Model_add_41 : decode prog_13_method_14_code 41 = .ok (.iadd, 1) := by decide +kernel
theorem d_Model_add_42 : decode prog_13_method_14_code 42 = .ok (.iastore, 1) := by decide +kernel
theorem d_Model_add_43 : decode prog_13_method_14_code 43 = .ok (.return_, 1) := by decide +kernel
theorem d_Model_doing_0 : decode prog_13_method_15_code 0 = .ok (.iload_n 1, 1) := by decide +kernel
theorem d_Model_doing_1 : decode prog_13_method_15_code 1 = .ok (.i2l, 1) := by decide +kernel
theorem d_Model_doing_2 : decode prog_13_method_15_code 2 = .ok (.lconst 0, 1) := by decide +kernel
theorem d_Model_doing_3 : decode prog_13_method_15_code 3 = .ok (.ldc2_w 74, 3) := by decide +kernel
theorem d_Model_doing_6 : decode prog_13_method_15_code 6 = .ok (.invokestatic 52, 3) := by decide +kernel
theorem d_Model_doing_9 : decode prog_13_method_15_code 9 = .ok (.ifCond .eq 15, 3) := by decide +kernel
theorem d_Model_doing_12 : decode prog_13_method_15_code 12 = .ok (.iload_n 2, 1) := by decide +kernel
theorem d_Model_doing_13 : decode prog_13_method_15_code 13 = .ok (.i2l, 1) := by decide +kernel
theorem d_Model_doing_14 : decode prog_13_method_15_code 14 = .ok (.lconst 0, 1) := by decide +kernel
theorem d_Model_doing_15 : decode prog_13_method_15_code 15 = .ok (.ldc2_w 76, 3) := by decide +kernel
theorem d_Model_doing_18 : decode prog_13_method_15_code 18 = .ok (.invokestatic 52, 3) := by decide +kernel
theorem d_Model_doing_21 : decode prog_13_method_15_code 21 = .ok (.ifCond .ne 8, 3) := by decide +kernel
theorem d_Model_doing_24 : decode prog_13_method_15_code 24 = .ok (.aload_n 0, 1) := by decide +kernel
theorem d_Model_doing_25 : decode prog_13_method_15_code 25 = .ok (.invokevirtual 64, 3) := by decide +kernel
theorem d_Model_doing_28 : decode prog_13_method_15_code 28 = .ok (.ireturn, 1) := by decide +kernel
theorem d_Model_doing_29 : decode prog_13_method_15_code 29 = .ok (.aload_n 0, 1) := by decide +kernel
theorem d_Model_doing_30 : decode prog_13_method_15_code 30 = .ok (.getfield 7, 3) := by decide +kernel
theorem d_Model_doing_33 : decode prog_13_method_15_code 33 = .ok (.bipush 9, 2) := by decide +kernel
theorem d_Model_doing_35 : decode prog_13_method_15_code 35 = .ok (.iaload, 1) := by decide +kernel
theorem d_Model_doing_36 : decode prog_13_method_15_code 36 = .ok (.bipush 6, 2) := by decide +kernel
theorem d_Model_doing_38 : decode prog_13_method_15_code 38 = .ok (.if_icmp .ne 8, 3) := by decide +kernel
theorem d_Model_doing_41 : decode prog_13_method_15_code 41 = .ok (.aload_n 0, 1) := by decide +kernel
theorem d_Model_doing_42 : decode prog_13_method_15_code 42 = .ok (.invokevirtual 78, 3) := by decide +kernel
theorem d_Model_doing_45 : decode prog_13_method_15_code 45 = .ok (.ireturn, 1) := by decide +kernel
theorem d_Model_doing_46 : decode prog_13_method_15_code 46 = .ok (.aload_n 0, 1) := by decide +kernel
theorem d_Model_doing_47 : decode prog_13_method_15_code 47 = .ok (.iload_n 1, 1) := by decide +kernel
theorem d_Model_doing_48 : decode prog_13_method_15_code 48 = .ok (.iload_n 2, 1) := by decide +kernel
theorem d_Model_doing_49 : decode prog_13_method_15_code 49 = .ok (.invokevirtual 81, 3) := by decide +kernel
theorem d_Model_doing_52 : decode prog_13_method_15_code 52 = .ok (.aload_n 0, 1) := by decide +kernel
theorem d_Model_doing_53 : decode prog_13_method_15_code 53 = .ok (.iconst 0, 1) := by decide +kernel
theorem d_Model_doing_54 : decode prog_13_method_15_code 54 = .ok (.putfield 58, 3) := by decide +kernel
theorem d_Model_doing_57 : decode prog_13_method_15_code 57 = .ok (.aload_n 0, 1) := by decide +kernel
theorem d_Model_doing_58 : decode prog_13_method_15_code 58 = .ok (.getfield 7, 3) := by decide +kernel
theorem d_Model_doing_61 : decode prog_13_method_15_code 61 = .ok (.bipush 9, 2) := by decide +kernel
theorem d_Model_doing_63 : decode prog_13_method_15_code 63 = .ok (.iaload, 1) := by decide +kernel
theorem d_Model_doing_64 : decode prog_13_method_15_code 64 = .ok (.iconst 1, 1) := by decide +kernel
theorem d_Model_doing_65 : decode prog_13_method_15_code 65 = .ok (.isub, 1) := by decide +kernel
theorem d_Model_doing_66 : decode prog_13_method_15_code 66 = .ok (.ireturn, 1) := by decide +kernel
theorem d_Model_type_0 : decode prog_13_method_16_code 0 = .ok (.iload_n 1, 1) := by decide +kernel
theorem d_Model_type_1 : decode prog_13_method_16_code 1 = .ok (.i2l, 1) := by decide +kernel
theorem d_Model_type_2 : decode prog_13_method_16_code 2 = .ok (.lconst 0, 1) := by decide +kernel
theorem d_Model_type_3 : decode prog_13_method_16_code 3 = .ok (.ldc2_w 85, 3) := by decide +kernel
theorem d_Model_type_6 : decode prog_13_method_16_code 6 = .ok (.invokestatic 52, 3) := by decide +kernel
theorem d_Model_type_9 : decode prog_13_method_16_code 9 = .ok (.ifCond .ne 8, 3) := by decide +kernel
theorem d_Model_type_12 : decode prog_13_method_16_code 12 = .ok (.aload_n 0, 1) := by decide +kernel
theorem d_Model_type_13 : decode prog_13_method_16_code 13 = .ok (.invokevirtual 64, 3) := by decide +kernel
theorem d_Model_type_16 : decode prog_13_method_16_code 16 = .ok (.ireturn, 1) := by decide +kernel
theorem d_Model_type_17 : decode prog_13_method_16_code 17 = .ok (.aload_n 0, 1) := by decide +kernel
theorem d_Model_type_18 : decode prog_13_method_16_code 18 = .ok (.getfield 87, 3) := by decide +kernel
theorem d_Model_type_21 : decode prog_13_method_16_code 21 = .ok (.sipush 150, 3) := by decide +kernel
theorem d_Model_type_24 : decode prog_13_method_16_code 24 = .ok (.if_icmp .ne 8, 3) := by decide +kernel
theorem d_Model_type_27 : decode prog_13_method_16_code 27 = .ok (.aload_n 0, 1) := by decide +kernel
theorem d_Model_type_28 : decode prog_13_method_16_code 28 = .ok (.invokevirtual 78, 3) := by decide +kernel
theorem d_Model_type_31 : decode prog_13_method_16_code 31 = .ok (.ireturn, 1) := by decide +kernel
theorem d_Model_type_32 : decode prog_13_method_16_code 32 = .ok (.aload_n 0, 1) := by decide +kernel
theorem d_Model_type_33 : decode prog_13_method_16_code 33 = .ok (.getfield 20, 3) := by decide +kernel
theorem d_Model_type_36 : decode prog_13_method_16_code 36 = .ok (.aload_n 0, 1) := by decide +kernel
theorem d_Model_type_37 : decode prog_13_method_16_code 37 = .ok (.getfield 87, 3) := by decide +kernel
theorem d_Model_type_40 : decode prog_13_method_16_code 40 = .ok (.iload_n 1, 1) := by decide +kernel
theorem d_Model_type_41 : decode prog_13_method_16_code 41 = .ok (.iastore, 1) := by decide +kernel
theorem d_Model_type_42 : decode prog_13_method_16_code 42 = .ok (.aload_n 0, 1) := by decide +kernel
theorem d_Model_type_43 : decode prog_13_method_16_code 43 = .ok (.dup, 1) := by decide +kernel
theorem d_Model_type_44 : decode prog_13_method_16_code 44 = .ok (.getfield 87, 3) := by decide +kernel
theorem d_Model_type_47 : decode prog_13_method_16_code 47 = .ok (.iconst 1, 1) := by decide +kernel
theorem d_Model_type_48 : decode prog_13_method_16_code 48 = .ok (.iadd, 1) := by decide +kernel
theorem d_Model_type_49 : decode prog_13_method_16_code 49 = .ok (.putfield 87, 3) := by decide +kernel
theorem d_Model_type_52 : decode prog_13_method_16_code 52 = .ok (.aload_n 0, 1) := by decide +kernel
theorem d_Model_type_53 : decode prog_13_method_16_code 53 = .ok (.getfield 87, 3) := by decide +kernel
theorem d_Model_type_56 : decode prog_13_method_16_code 56 = .ok (.ireturn, 1) := by decide +kernel
theorem d_Model_clear_0 : decode prog_13_method_17_code 0 = .ok (.aload_n 0, 1) := by decide +kernel
theorem d_Model_clear_1 : decode prog_13_method_17_code 1 = .ok (.getfield 87, 3) := by decide +kernel
theorem d_Model_clear_4 : decode prog_13_method_17_code 4 = .ok (.istore_n 1, 1) := by decide +kernel
theorem d_Model_clear_5 : decode prog_13_method_17_code 5 = .ok (.aload_n 0, 1) := by decide +kernel
theorem d_Model_clear_6 : decode prog_13_method_17_code 6 = .ok (.iconst 0, 1) := by decide +kernel
theorem d_Model_clear_7 : decode prog_13_method_17_code 7 = .ok (.putfield 87, 3) := by decide +kernel
theorem d_Model_clear_10 : decode prog_13_method_17_code 10 = .ok (.iload_n 1, 1) := by decide +kernel
theorem d_Model_clear_11 : decode prog_13_method_17_code 11 = .ok (.ireturn, 1) := by decide +kernel
theorem d_Model_byteAt_0 : decode prog_13_method_18_code 0 = .ok (.iload_n 1, 1) := by decide +kernel
theorem d_Model_byteAt_1 : decode prog_13_method_18_code 1 = .ok (.aload_n 0, 1) := by decide +kernel
theorem d_Model_byteAt_2 : decode prog_13_method_18_code 2 = .ok (.getfield 87, 3) := by decide +kernel
theorem d_Model_byteAt_5 : decode prog_13_method_18_code 5 = .ok (.if_icmp .ge 12, 3) := by decide +kernel
theorem d_Model_byteAt_8 : decode prog_13_method_18_code 8 = .ok (.aload_n 0, 1) := by decide +kernel
theorem d_Model_byteAt_9 : decode prog_13_method_18_code 9 = .ok (.getfield 20, 3) := by decide +kernel
theorem d_Model_byteAt_12 : decode prog_13_method_18_code 12 = .ok (.iload_n 1, 1) := by decide +kernel
theorem d_Model_byteAt_13 : decode prog_13_method_18_code 13 = .ok (.iaload, 1) := by decide +kernel
theorem d_Model_byteAt_14 : decode prog_13_method_18_code 14 = .ok (.goto 4, 3) := by decide +kernel
theorem d_Model_byteAt_17 : decode prog_13_method_18_code 17 = .ok (.iconst (-1), 1) := by decide +kernel
theorem d_Model_byteAt_18 : decode prog_13_method_18_code 18 = .ok (.ireturn, 1) := by decide +kernel
theorem d_Model_nextToken_0 : decode prog_13_method_19_code 0 = .ok (.aload_n 0, 1) := by decide +kernel
theorem d_Model_nextToken_1 : decode prog_13_method_19_code 1 = .ok (.aload_n 0, 1) := by decide +kernel
theorem d_Model_nextToken_2 : decode prog_13_method_19_code 2 = .ok (.getfield 90, 3) := by decide +kernel
theorem d_Model_nextToken_5 : decode prog_13_method_19_code 5 = .ok (.invokevirtual 93, 3) := by decide +kernel
theorem d_Model_nextToken_8 : decode prog_13_method_19_code 8 = .ok (.bipush 32, 2) := by decide +kernel
theorem d_Model_nextToken_10 : decode prog_13_method_19_code 10 = .ok (.if_icmp .ne 16, 3) := by decide +kernel
theorem d_Model_nextToken_13 : decode prog_13_method_19_code 13 = .ok (.aload_n 0, 1) := by decide +kernel
theorem d_Model_nextToken_14 : decode prog_13_method_19_code 14 = .ok (.dup, 1) := by decide +kernel
theorem d_Model_nextToken_15 : decode prog_13_method_19_code 15 = .ok (.getfield 90, 3) := by decide +kernel
theorem d_Model_nextToken_18 : decode prog_13_method_19_code 18 = .ok (.iconst 1, 1) := by decide +kernel
theorem d_Model_nextToken_19 : decode prog_13_method_19_code 19 = .ok (.iadd, 1) := by decide +kernel
theorem d_Model_nextToken_20 : decode prog_13_method_19_code 20 = .ok (.putfield 90, 3) := by decide +kernel
theorem d_Model_nextToken_23 : decode prog_13_method_19_code 23 = .ok (.goto (-23), 3) := by decide +kernel
theorem d_Model_nextToken_26 : decode prog_13_method_19_code 26 = .ok (.aload_n 0, 1) := by decide +kernel
theorem d_Model_nextToken_27 : decode prog_13_method_19_code 27 = .ok (.aload_n 0, 1) := by decide +kernel
theorem d_Model_nextToken_28 : decode prog_13_method_19_code 28 = .ok (.getfield 90, 3) := by decide +kernel
theorem d_Model_nextToken_31 : decode prog_13_method_19_code 31 = .ok (.putfield 97, 3) := by decide +kernel
theorem d_Model_nextToken_34 : decode prog_13_method_19_code 34 = .ok (.aload_n 0, 1) := by decide +kernel
theorem d_Model_nextToken_35 : decode prog_13_method_19_code 35 = .ok (.iconst 0, 1) := by decide +kernel
theorem d_Model_nextToken_36 : decode prog_13_method_19_code 36 = .ok (.putfield 100, 3) := by decide +kernel
theorem d_Model_nextToken_39 : decode prog_13_method_19_code 39 = .ok (.aload_n 0, 1) := by decide +kernel
theorem d_Model_nextToken_40 : decode prog_13_method_19_code 40 = .ok (.aload_n 0, 1) := by decide +kernel
theorem d_Model_nextToken_41 : decode prog_13_method_19_code 41 = .ok (.getfield 90, 3) := by decide +kernel
theorem d_Model_nextToken_44 : decode prog_13_method_19_code 44 = .ok (.aload_n 0, 1) := by decide +kernel
theorem d_Model_nextToken_45 : decode prog_13_method_19_code 45 = .ok (.getfield 87, 3) := by decide +kernel
theorem d_Model_nextToken_48 : decode prog_13_method_19_code 48 = .ok (.if_icmp .ne 7, 3) := by decide +kernel
theorem d_Model_nextToken_51 : decode prog_13_method_19_code 51 = .ok (.iconst 3, 1) := by decide +kernel
theorem d_Model_nextToken_52 : decode prog_13_method_19_code 52 = .ok (.goto 4, 3) := by decide +kernel
theorem d_Model_nextToken_55 : decode prog_13_method_19_code 55 = .ok (.iconst 0, 1) := by decide +kernel
theorem d_Model_nextToken_56 : decode prog_13_method_19_code 56 = .ok (.putfield 103, 3) := by decide +kernel
theorem d_Model_nextToken_59 : decode prog_13_method_19_code 59 = .ok (.aload_n 0, 1) := by decide +kernel
theorem d_Model_nextToken_60 : decode prog_13_method_19_code 60 = .ok (.aload_n 0, 1) := by decide +kernel
theorem d_Model_nextToken_61 : decode prog_13_method_19_code 61 = .ok (.getfield 90, 3) := by decide +kernel
theorem d_Model_nextToken_64 : decode prog_13_method_19_code 64 = .ok (.invokevirtual 93, 3) := by decide +kernel
theorem d_Model_nextToken_67 : decode prog_13_method_19_code 67 = .ok (.i2l, 1) := by decide +kernel
theorem d_Model_nextToken_68 : decode prog_13_method_19_code 68 = .ok (.ldc2_w 106, 3) := by decide +kernel
theorem d_Model_nextToken_71 : decode prog_13_method_19_code 71 = .ok (.ldc2_w 108, 3) := by decide +kernel
theorem d_Model_nextToken_74 : decode prog_13_method_19_code 74 = .ok (.invokestatic 52, 3) := by decide +kernel
theorem d_Model_nextToken_77 : decode prog_13_method_19_code 77 = .ok (.ifCond .eq 29, 3) := by decide +kernel
theorem d_Model_nextToken_80 : decode prog_13_method_19_code 80 = .ok (.aload_n 0, 1) := by decide +kernel
theorem d_Model_nextToken_81 : decode prog_13_method_19_code 81 = .ok (.getfield 103, 3) := by decide +kernel
theorem d_Model_nextToken_84 : decode prog_13_method_19_code 84 = .ok (.iconst 2, 1) := by decide +kernel
theorem d_Model_nextToken_85 : decode prog_13_method_19_code 85 = .ok (.if_icmp .ge 21, 3) := by decide +kernel
theorem d_Model_nextToken_88 : decode prog_13_method_19_code 88 = .ok (.aload_n 0, 1) := by decide +kernel
theorem d_Model_nextToken_89 : decode prog_13_method_19_code 89 = .ok (.iconst 1, 1) := by decide +kernel
theorem d_Model_nextToken_90 : decode prog_13_method_19_code 90 = .ok (.putfield 103, 3) := by decide +kernel
theorem d_Model_nextToken_93 : decode prog_13_method_19_code 93 = .ok (.aload_n 0, 1) := by decide +kernel
theorem d_Model_nextToken_94 : decode prog_13_method_19_code 94 = .ok (.dup, 1) := by decide +kernel
theorem d_Model_nextToken_95 : decode prog_13_method_19_code 95 = .ok (.getfield 90, 3) := by decide +kernel
theorem d_Model_nextToken_98 : decode prog_13_method_19_code 98 = .ok (.iconst 1, 1) := by decide +kernel
theorem d_Model_nextToken_99 : decode prog_13_method_19_code 99 = .ok (.iadd, 1) := by decide +kernel
theorem d_Model_nextToken_100 : decode prog_13_method_19_code 100 = .ok (.putfield 90, 3) := by decide +kernel
theorem d_Model_nextToken_103 : decode prog_13_method_19_code 103 = .ok (.goto (-44), 3) := by decide +kernel
theorem d_Model_nextToken_106 : decode prog_13_method_19_code 106 = .ok (.aload_n 0, 1) := by decide +kernel
theorem d_Model_nextToken_107 : decode prog_13_method_19_code 107 = .ok (.aload_n 0, 1) := by decide +kernel
theorem d_Model_nextToken_108 : decode prog_13_method_19_code 108 = .ok (.getfield 90, 3) := by decide +kernel
theorem d_Model_nextToken_111 : decode prog_13_method_19_code 111 = .ok (.invokevirtual 93, 3) := by decide +kernel
theorem d_Model_nextToken_114 : decode prog_13_method_19_code 114 = .ok (.i2l, 1) := by decide +kernel
theorem d_Model_nextToken_115 : decode prog_13_method_19_code 115 = .ok (.ldc2_w 110, 3) := by decide +kernel
theorem d_Model_nextToken_118 : decode prog_13_method_19_code 118 = .ok (.ldc2_w 112, 3) := by decide +kernel
theorem d_Model_nextToken_121 : decode prog_13_method_19_code 121 = .ok (.invokestatic 52, 3) := by decide +kernel
theorem d_Model_nextToken_124 : decode prog_13_method_19_code 124 = .ok (.ifCond .eq 69, 3) := by decide +kernel
theorem d_Model_nextToken_127 : decode prog_13_method_19_code 127 = .ok (.aload_n 0, 1) := by decide +kernel
theorem d_Model_nextToken_128 : decode prog_13_method_19_code 128 = .ok (.getfield 103, 3) := by decide +kernel
theorem d_Model_nextToken_131 : decode prog_13_method_19_code 131 = .ok (.iconst 1, 1) := by decide +kernel
theorem d_Model_nextToken_132 : decode prog_13_method_19_code 132 = .ok (.if_icmp .eq 61, 3) := by decide +kernel
theorem d_Model_nextToken_135 : decode prog_13_method_19_code 135 = .ok (.aload_n 0, 1) := by decide +kernel
theorem d_Model_nextToken_136 : decode prog_13_method_19_code 136 = .ok (.iconst 2, 1) := by decide +kernel
theorem d_Model_nextToken_137 : decode prog_13_method_19_code 137 = .ok (.putfield 103, 3) := by decide +kernel
theorem d_Model_nextToken_140 : decode prog_13_method_19_code 140 = .ok (.aload_n 0, 1) := by decide +kernel
theorem d_Model_nextToken_141 : decode prog_13_method_19_code 141 = .ok (.aload_n 0, 1) := by decide +kernel
theorem d_Model_nextToken_142 : decode prog_13_method_19_code 142 = .ok (.getfield 100, 3) := by decide +kernel
theorem d_Model_nextToken_145 : decode prog_13_method_19_code 145 = .ok (.bipush 99, 2) := by decide +kernel
theorem d_Model_nextToken_147 : decode prog_13_method_19_code 147 = .ok (.if_icmp .le 10, 3) := by decide +kernel
theorem d_Model_nextToken_150 : decode prog_13_method_19_code 150 = .ok (.aload_n 0, 1) := by decide +kernel
theorem d_Model_nextToken_151 : decode prog_13_method_19_code 151 = .ok (.getfield 100, 3) := by decide +kernel
theorem d_Model_nextToken_154 : decode prog_13_method_19_code 154 = .ok (.goto 23, 3) := by decide +kernel
theorem d_Model_nextToken_157 : decode prog_13_method_19_code 157 = .ok (.bipush 10, 2) := by decide +kernel
theorem d_Model_nextToken_159 : decode prog_13_method_19_code 159 = .ok (.aload_n 0, 1) := by decide +kernel
theorem d_Model_nextToken_160 : decode prog_13_method_19_code 160 = .ok (.getfield 100, 3) := by decide +kernel
theorem d_Model_nextToken_163 : decode prog_13_method_19_code 163 = .ok (.imul, 1) := by decide +kernel
theorem d_Model_nextToken_164 : decode prog_13_method_19_code 164 = .ok (.aload_n 0, 1) := by decide +kernel
theorem d_Model_nextToken_165 : decode prog_13_method_19_code 165 = .ok (.getfield 20, 3) := by decide +kernel
theorem d_Model_nextToken_168 : decode prog_13_method_19_code 168 = .ok (.aload_n 0, 1) := by decide +kernel
theorem d_Model_nextToken_169 : decode prog_13_method_19_code 169 = .ok (.getfield 90, 3) := by decide +kernel
theorem d_Model_nextToken_172 : decode prog_13_method_19_code 172 = .ok (.iaload, 1) := by decide +kernel
theorem d_Model_nextToken_173 : decode prog_13_method_19_code 173 = .ok (.iadd, 1) := by decide +kernel
theorem d_Model_nextToken_174 : decode prog_13_method_19_code 174 = .ok (.bipush 48, 2) := by decide +kernel
theorem d_Model_nextToken_176 : decode prog_13_method_19_code 176 = .ok (.isub, 1) := by decide +kernel
theorem d_Model_nextToken_177 : decode prog_13_method_19_code 177 = .ok (.putfield 100, 3) := by decide +kernel
theorem d_Model_nextToken_180 : decode prog_13_method_19_code 180 = .ok (.aload_n 0, 1) := by decide +kernel
theorem d_Model_nextToken_181 : decode prog_13_method_19_code 181 = .ok (.dup, 1) := by decide +kernel
theorem d_Model_nextToken_182 : decode prog_13_method_19_code 182 = .ok (.getfield 90, 3) := by decide +kernel
theorem d_Model_nextToken_185 : decode prog_13_method_19_code 185 = .ok (.iconst 1, 1) := by decide +kernel
theorem d_Model_nextToken_186 : decode prog_13_method_19_code 186 = .ok (.iadd, 1) := by decide +kernel
theorem d_Model_nextToken_187 : decode prog_13_method_19_code 187 = .ok (.putfield 90, 3) := by decide +kernel
theorem d_Model_nextToken_190 : decode prog_13_method_19_code 190 = .ok (.goto (-84), 3) := by decide +kernel
theorem d_Model_nextToken_193 : decode prog_13_method_19_code 193 = .ok (.aload_n 0, 1) := by decide +kernel
theorem d_Model_nextToken_194 : decode prog_13_method_19_code 194 = .ok (.getfield 103, 3) := by decide +kernel
theorem d_Model_nextToken_197 : decode prog_13_method_19_code 197 = .ok (.iconst 2, 1) := by decide +kernel
theorem d_Model_nextToken_198 : decode prog_13_method_19_code 198 = .ok (.if_icmp .ne 24, 3) := by decide +kernel
theorem d_Model_nextToken_201 : decode prog_13_method_19_code 201 = .ok (.aload_n 0, 1) := by decide +kernel
theorem d_Model_nextToken_202 : decode prog_13_method_19_code 202 = .ok (.getfield 90, 3) := by decide +kernel
theorem d_Model_nextToken_205 : decode prog_13_method_19_code 205 = .ok (.aload_n 0, 1) := by decide +kernel
theorem d_Model_nextToken_206 : decode prog_13_method_19_code 206 = .ok (.getfield 97, 3) := by decide +kernel
theorem d_Model_nextToken_209 : decode prog_13_method_19_code 209 = .ok (.isub, 1) := by decide +kernel
theorem d_Model_nextToken_210 : decode prog_13_method_19_code 210 = .ok (.iconst 2, 1) := by decide +kernel
theorem d_Model_nextToken_211 : decode prog_13_method_19_code 211 = .ok (.if_icmp .le 11, 3) := by decide +kernel
theorem d_Model_nextToken_214 : decode prog_13_method_19_code 214 = .ok (.aload_n 0, 1) := by decide +kernel
theorem d_Model_nextToken_215 : decode prog_13_method_19_code 215 = .ok (.iconst 0, 1) := by decide +kernel
theorem d_Model_nextToken_216 : decode prog_13_method_19_code 216 = .ok (.putfield 103, 3) := by decide +kernel
theorem d_Model_nextToken_219 : decode prog_13_method_19_code 219 = .ok (.goto 42, 3) := by decide +kernel
theorem d_Model_nextToken_222 : decode prog_13_method_19_code 222 = .ok (.aload_n 0, 1) := by decide +kernel
theorem d_Model_nextToken_223 : decode prog_13_method_19_code 223 = .ok (.getfield 103, 3) := by decide +kernel
theorem d_Model_nextToken_226 : decode prog_13_method_19_code 226 = .ok (.ifCond .ne 35, 3) := by decide +kernel
theorem d_Model_nextToken_229 : decode prog_13_method_19_code 229 = .ok (.aload_n 0, 1) := by decide +kernel
theorem d_Model_nextToken_230 : decode prog_13_method_19_code 230 = .ok (.aload_n 0, 1) := by decide +kernel
theorem d_Model_nextToken_231 : decode prog_13_method_19_code 231 = .ok (.aload_n 0, 1) := by decide +kernel
theorem d_Model_nextToken_232 : decode prog_13_method_19_code 232 = .ok (.getfield 90, 3) := by decide +kernel
theorem d_Model_nextToken_235 : decode prog_13_method_19_code 235 = .ok (.invokevirtual 93, 3) := by decide +kernel
theorem d_Model_nextToken_238 : decode prog_13_method_19_code 238 = .ok (.bipush 59, 2) := by decide +kernel
theorem d_Model_nextToken_240 : decode prog_13_method_19_code 240 = .ok (.if_icmp .ne 7, 3) := by decide +kernel
theorem d_Model_nextToken_243 : decode prog_13_method_19_code 243 = .ok (.iconst 4, 1) := by decide +kernel
theorem d_Model_nextToken_244 : decode prog_13_method_19_code 244 = .ok (.goto 4, 3) := by decide +kernel
theorem d_Model_nextToken_247 : decode prog_13_method_19_code 247 = .ok (.iconst 0, 1) := by decide +kernel
theorem d_Model_nextToken_248 : decode prog_13_method_19_code 248 = .ok (.putfield 103, 3) := by decide +kernel
theorem d_Model_nextToken_251 : decode prog_13_method_19_code 251 = .ok (.aload_n 0, 1) := by decide +kernel
theorem d_Model_nextToken_252 : decode prog_13_method_19_code 252 = .ok (.dup, 1) := by decide +kernel
theorem d_Model_nextToken_253 : decode prog_13_method_19_code 253 = .ok (.getfield 90, 3) := by decide +kernel
theorem d_Model_nextToken_256 : decode prog_13_method_19_code 256 = .ok (.iconst 1, 1) := by decide +kernel
theorem d_Model_nextToken_257 : decode prog_13_method_19_code 257 = .ok (.iadd, 1) := by decide +kernel
theorem d_Model_nextToken_258 : decode prog_13_method_19_code 258 = .ok (.putfield 90, 3) := by decide +kernel
theorem d_Model_nextToken_261 : decode prog_13_method_19_code 261 = .ok (.return_, 1) := by decide +kernel
theorem d_Model_isWord_0 : decode prog_13_method_20_code 0 = .ok (.iload 4, 2) := by decide +kernel
theorem d_Model_isWord_2 : decode prog_13_method_20_code 2 = .ok (.ifCond .ne 7, 3) := by decide +kernel
theorem d_Model_isWord_5 : decode prog_13_method_20_code 5 = .ok (.iconst 3, 1) := by decide +kernel
theorem d_Model_isWord_6 : decode prog_13_method_20_code 6 = .ok (.goto 13, 3) := by decide +kernel
theorem d_Model_isWord_9 : decode prog_13_method_20_code 9 = .ok (.iload 5, 2) := by decide +kernel
theorem d_Model_isWord_11 : decode prog_13_method_20_code 11 = .ok (.ifCond .ne 7, 3) := by decide +kernel
theorem d_Model_isWord_14 : decode prog_13_method_20_code 14 = .ok (.iconst 4, 1) := by decide +kernel
theorem d_Model_isWord_15 : decode prog_13_method_20_code 15 = .ok (.goto 4, 3) := by decide +kernel
theorem d_Model_isWord_18 : decode prog_13_method_20_code 18 = .ok (.iconst 5, 1) := by decide +kernel
theorem d_Model_isWord_19 : decode prog_13_method_20_code 19 = .ok (.istore 6, 2) := by decide +kernel
theorem d_Model_isWord_21 : decode prog_13_method_20_code 21 = .ok (.aload_n 0, 1) := by decide +kernel
theorem d_Model_isWord_22 : decode prog_13_method_20_code 22 = .ok (.getfield 103, 3) := by decide +kernel
theorem d_Model_isWord_25 : decode prog_13_method_20_code 25 = .ok (.iconst 1, 1) := by decide +kernel
theorem d_Model_isWord_26 : decode prog_13_method_20_code 26 = .ok (.if_icmp .ne 64, 3) := by decide +kernel
theorem d_Model_isWord_29 : decode prog_13_method_20_code 29 = .ok (.aload_n 0, 1) := by decide +kernel
theorem d_Model_isWord_30 : decode prog_13_method_20_code 30 = .ok (.getfield 90, 3) := by decide +kernel
theorem d_Model_isWord_33 : decode prog_13_method_20_code 33 = .ok (.aload_n 0, 1) := by decide +kernel
theorem d_Model_isWord_34 : decode prog_13_method_20_code 34 = .ok (.getfield 97, 3) := by decide +kernel
theorem d_Model_isWord_37 : decode prog_13_method_20_code 37 = .ok (.isub, 1) := by decide +kernel
theorem d_Model_isWord_38 : decode prog_13_method_20_code 38 = .ok (.iload 6, 2) := by decide +kernel
theorem d_Model_isWord_40 : decode prog_13_method_20_code 40 = .ok (.if_icmp .ne 50, 3) := by decide +kernel
theorem d_Model_isWord_43 : decode prog_13_method_20_code 43 = .ok (.aload_n 0, 1) := by decide +kernel
theorem d_Model_isWord_44 : decode prog_13_method_20_code 44 = .ok (.getfield 20, 3) := by decide +kernel
theorem d_Model_isWord_47 : decode prog_13_method_20_code 47 = .ok (.aload_n 0, 1) := by decide +kernel
theorem d_Model_isWord_48 : decode prog_13_method_20_code 48 = .ok (.getfield 97, 3) := by decide +kernel
theorem d_Model_isWord_51 : decode prog_13_method_20_code 51 = .ok (.iaload, 1) := by decide +kernel
theorem d_Model_isWord_52 : decode prog_13_method_20_code 52 = .ok (.iload_n 1, 1) := by decide +kernel
theorem d_Model_isWord_53 : decode prog_13_method_20_code 53 = .ok (.if_icmp .ne 37, 3) := by decide +kernel
theorem d_Model_isWord_56 : decode prog_13_method_20_code 56 = .ok (.aload_n 0, 1) := by decide +kernel
theorem d_Model_isWord_57 : decode prog_13_method_20_code 57 = .ok (.getfield 20, 3) := by decide +kernel
theorem d_Model_isWord_60 : decode prog_13_method_20_code 60 = .ok (.aload_n 0, 1) := by decide +kernel
theorem d_Model_isWord_61 : decode prog_13_method_20_code 61 = .ok (.getfield 97, 3) := by decide +kernel
theorem d_Model_isWord_64 : decode prog_13_method_20_code 64 = .ok (.iconst 1, 1) := by decide +kernel
theorem d_Model_isWord_65 : decode prog_13_method_20_code 65 = .ok (.iadd, 1) := by decide +kernel
theorem d_Model_isWord_66 : decode prog_13_method_20_code 66 = .ok (.iaload, 1) := by decide +kernel
theorem d_Model_isWord_67 : decode prog_13_method_20_code 67 = .ok (.iload_n 2, 1) := by decide +kernel
theorem d_Model_isWord_68 : decode prog_13_method_20_code 68 = .ok (.if_icmp .ne 22, 3) := by decide +kernel
theorem d_Model_isWord_71 : decode prog_13_method_20_code 71 = .ok (.aload_n 0, 1) := by decide +kernel
theorem d_Model_isWord_72 : decode prog_13_method_20_code 72 = .ok (.getfield 20, 3) := by decide +kernel
theorem d_Model_isWord_75 : decode prog_13_method_20_code 75 = .ok (.aload_n 0, 1) := by decide +kernel
theorem d_Model_isWord_76 : decode prog_13_method_20_code 76 = .ok (.getfield 97, 3) := by decide +kernel
theorem d_Model_isWord_79 : decode prog_13_method_20_code 79 = .ok (.iconst 2, 1) := by decide +kernel
theorem d_Model_isWord_80 : decode prog_13_method_20_code 80 = .ok (.iadd, 1) := by decide +kernel
theorem d_Model_isWord_81 : decode prog_13_method_20_code 81 = .ok (.iaload, 1) := by decide +kernel
theorem d_Model_isWord_82 : decode prog_13_method_20_code 82 = .ok (.iload_n 3, 1) := by decide +kernel
theorem d_Model_isWord_83 : decode prog_13_method_20_code 83 = .ok (.if_icmp .ne 7, 3) := by decide +kernel
theorem d_Model_isWord_86 : decode prog_13_method_20_code 86 = .ok (.iconst 1, 1) := by decide +kernel
theorem d_Model_isWord_87 : decode prog_13_method_20_code 87 = .ok (.goto 4, 3) := by decide +kernel
theorem d_Model_isWord_90 : decode prog_13_method_20_code 90 = .ok (.iconst 0, 1) := by decide +kernel
theorem d_Model_isWord_91 : decode prog_13_method_20_code 91 = .ok (.istore 7, 2) := by decide +kernel
theorem d_Model_isWord_93 : decode prog_13_method_20_code 93 = .ok (.iload 7, 2) := by decide +kernel
theorem d_Model_isWord_95 : decode prog_13_method_20_code 95 = .ok (.ifCond .eq 51, 3) := by decide +kernel
theorem d_Model_isWord_98 : decode prog_13_method_20_code 98 = .ok (.iload 6, 2) := by decide +kernel
theorem d_Model_isWord_100 : decode prog_13_method_20_code 100 = .ok (.iconst 4, 1) := by decide +kernel
theorem d_Model_isWord_101 : decode prog_13_method_20_code 101 = .ok (.if_icmp .lt 19, 3) := by decide +kernel
theorem d_Model_isWord_104 : decode prog_13_method_20_code 104 = .ok (.aload_n 0, 1) := by decide +kernel
theorem d_Model_isWord_105 : decode prog_13_method_20_code 105 = .ok (.getfield 20, 3) := by decide +kernel
theorem d_Model_isWord_108 : decode prog_13_method_20_code 108 = .ok (.aload_n 0, 1) := by decide +kernel
theorem d_Model_isWord_109 : decode prog_13_method_20_code 109 = .ok (.getfield 97, 3) := by decide +kernel
theorem d_Model_isWord_112 : decode prog_13_method_20_code 112 = .ok (.iconst 3, 1) := by decide +kernel
theorem d_Model_isWord_113 : decode prog_13_method_20_code 113 = .ok (.iadd, 1) := by decide +kernel
theorem d_Model_isWord_114 : decode prog_13_method_20_code 114 = .ok (.iaload, 1) := by decide +kernel
theorem d_Model_isWord_115 : decode prog_13_method_20_code 115 = .ok (.iload 4, 2) := by decide +kernel
theorem d_Model_isWord_117 : decode prog_13_method_20_code 117 = .ok (.if_icmp .ne 29, 3) := by decide +kernel
theorem d_Model_isWord_120 : decode prog_13_method_20_code 120 = .ok (.iload 6, 2) := by decide +kernel
theorem d_Model_isWord_122 : decode prog_13_method_20_code 122 = .ok (.iconst 5, 1) := by decide +kernel
theorem d_Model_isWord_123 : decode prog_13_method_20_code 123 = .ok (.if_icmp .lt 19, 3) := by decide +kernel
theorem d_Model_isWord_126 : decode prog_13_method_20_code 126 = .ok (.aload_n 0, 1) := by decide +kernel
theorem d_Model_isWord_127 : decode prog_13_method_20_code 127 = .ok (.getfield 20, 3) := by decide +kernel
theorem d_Model_isWord_130 : decode prog_13_method_20_code 130 = .ok (.aload_n 0, 1) := by decide +kernel
theorem d_Model_isWord_131 : decode prog_13_method_20_code 131 = .ok (.getfield 97, 3) := by decide +kernel
theorem d_Model_isWord_134 : decode prog_13_method_20_code 134 = .ok (.iconst 4, 1) := by decide +kernel
theorem d_Model_isWord_135 : decode prog_13_method_20_code 135 = .ok (.iadd, 1) := by decide +kernel
theorem d_Model_isWord_136 : decode prog_13_method_20_code 136 = .ok (.iaload, 1) := by decide +kernel
theorem d_Model_isWord_137 : decode prog_13_method_20_code 137 = .ok (.iload 5, 2) := by decide +kernel
theorem d_Model_isWord_139 : decode prog_13_method_20_code 139 = .ok (.if_icmp .ne 7, 3) := by decide +kernel
theorem d_Model_isWord_142 : decode prog_13_method_20_code 142 = .ok (.iconst 1, 1) := by decide +kernel
theorem d_Model_isWord_143 : decode prog_13_method_20_code 143 = .ok (.goto 4, 3) := by decide +kernel
theorem d_Model_isWord_146 : decode prog_13_method_20_code 146 = .ok (.iconst 0, 1) := by decide +kernel
theorem d_Model_isWord_147 : decode prog_13_method_20_code 147 = .ok (.ireturn, 1) := by decide +kernel
theorem d_Model_reads_0 : decode prog_13_method_21_code 0 = .ok (.aload_n 0, 1) := by decide +kernel
theorem d_Model_reads_1 : decode prog_13_method_21_code 1 = .ok (.invokevirtual 114, 3) := by decide +kernel
theorem d_Model_reads_4 : decode prog_13_method_21_code 4 = .ok (.aload_n 0, 1) := by decide +kernel
theorem d_Model_reads_5 : decode prog_13_method_21_code 5 = .ok (.getfield 23, 3) := by decide +kernel
theorem d_Model_reads_8 : decode prog_13_method_21_code 8 = .ok (.iload_n 1, 1) := by decide +kernel
theorem d_Model_reads_9 : decode prog_13_method_21_code 9 = .ok (.aload_n 0, 1) := by decide +kernel
theorem d_Model_reads_10 : decode prog_13_method_21_code 10 = .ok (.getfield 100, 3) := by decide +kernel
theorem d_Model_reads_13 : decode prog_13_method_21_code 13 = .ok (.iastore, 1) := by decide +kernel
theorem d_Model_reads_14 : decode prog_13_method_21_code 14 = .ok (.aload_n 0, 1) := by decide +kernel
theorem d_Model_reads_15 : decode prog_13_method_21_code 15 = .ok (.getfield 103, 3) := by decide +kernel
theorem d_Model_reads_18 : decode prog_13_method_21_code 18 = .ok (.iconst 2, 1) := by decide +kernel
theorem d_Model_reads_19 : decode prog_13_method_21_code 19 = .ok (.if_icmp .ne 15, 3) := by decide +kernel
theorem d_Model_reads_22 : decode prog_13_method_21_code 22 = .ok (.aload_n 0, 1) := by decide +kernel
theorem d_Model_reads_23 : decode prog_13_method_21_code 23 = .ok (.getfield 100, 3) := by decide +kernel
theorem d_Model_reads_26 : decode prog_13_method_21_code 26 = .ok (.iload_n 2, 1) := by decide +kernel
theorem d_Model_reads_27 : decode prog_13_method_21_code 27 = .ok (.if_icmp .gt 7, 3) := by decide +kernel
theorem d_Model_reads_30 : decode prog_13_method_21_code 30 = .ok (.iconst 1, 1) := by decide +kernel
theorem d_Model_reads_31 : decode prog_13_method_21_code 31 = .ok (.goto 4, 3) := by decide +kernel
theorem d_Model_reads_34 : decode prog_13_method_21_code 34 = .ok (.iconst 0, 1) := by decide +kernel
theorem d_Model_reads_35 : decode prog_13_method_21_code 35 = .ok (.ireturn, 1) := by decide +kernel
theorem d_Model_ends_0 : decode prog_13_method_22_code 0 = .ok (.aload_n 0, 1) := by decide +kernel
theorem d_Model_ends_1 : decode prog_13_method_22_code 1 = .ok (.invokevirtual 114, 3) := by decide +kernel
theorem d_Model_ends_4 : decode prog_13_method_22_code 4 = .ok (.aload_n 0, 1) := by decide +kernel
theorem d_Model_ends_5 : decode prog_13_method_22_code 5 = .ok (.getfield 103, 3) := by decide +kernel
theorem d_Model_ends_8 : decode prog_13_method_22_code 8 = .ok (.iconst 4, 1) := by decide +kernel
theorem d_Model_ends_9 : decode prog_13_method_22_code 9 = .ok (.if_icmp .ne 7, 3) := by decide +kernel
theorem d_Model_ends_12 : decode prog_13_method_22_code 12 = .ok (.iconst 1, 1) := by decide +kernel
theorem d_Model_ends_13 : decode prog_13_method_22_code 13 = .ok (.goto 4, 3) := by decide +kernel
theorem d_Model_ends_16 : decode prog_13_method_22_code 16 = .ok (.iconst 0, 1) := by decide +kernel
theorem d_Model_ends_17 : decode prog_13_method_22_code 17 = .ok (.ireturn, 1) := by decide +kernel
theorem d_Model_readHours_0 : decode prog_13_method_23_code 0 = .ok (.aload_n 0, 1) := by decide +kernel
theorem d_Model_readHours_1 : decode prog_13_method_23_code 1 = .ok (.iconst 0, 1) := by decide +kernel
theorem d_Model_readHours_2 : decode prog_13_method_23_code 2 = .ok (.putfield 117, 3) := by decide +kernel
theorem d_Model_readHours_5 : decode prog_13_method_23_code 5 = .ok (.aload_n 0, 1) := by decide +kernel
theorem d_Model_readHours_6 : decode prog_13_method_23_code 6 = .ok (.invokevirtual 114, 3) := by decide +kernel
theorem d_Model_readHours_9 : decode prog_13_method_23_code 9 = .ok (.aload_n 0, 1) := by decide +kernel
theorem d_Model_readHours_10 : decode prog_13_method_23_code 10 = .ok (.getfield 103, 3) := by decide +kernel
theorem d_Model_readHours_13 : decode prog_13_method_23_code 13 = .ok (.iconst 2, 1) := by decide +kernel
theorem d_Model_readHours_14 : decode prog_13_method_23_code 14 = .ok (.if_icmp .ne 34, 3) := by decide +kernel
theorem d_Model_readHours_17 : decode prog_13_method_23_code 17 = .ok (.aload_n 0, 1) := by decide +kernel
theorem d_Model_readHours_18 : decode prog_13_method_23_code 18 = .ok (.getfield 100, 3) := by decide +kernel
theorem d_Model_readHours_21 : decode prog_13_method_23_code 21 = .ok (.bipush 24, 2) := by decide +kernel
theorem d_Model_readHours_23 : decode prog_13_method_23_code 23 = .ok (.if_icmp .ge 25, 3) := by decide +kernel
theorem d_Model_readHours_26 : decode prog_13_method_23_code 26 = .ok (.aload_n 0, 1) := by decide +kernel
theorem d_Model_readHours_27 : decode prog_13_method_23_code 27 = .ok (.dup, 1) := by decide +kernel
theorem d_Model_readHours_28 : decode prog_13_method_23_code 28 = .ok (.getfield 117, 3) := by decide +kernel
theorem d_Model_readHours_31 : decode prog_13_method_23_code 31 = .ok (.iconst 1, 1) := by decide +kernel
theorem d_Model_readHours_32 : decode prog_13_method_23_code 32 = .ok (.aload_n 0, 1) := by decide +kernel
theorem d_Model_readHours_33 : decode prog_13_method_23_code 33 = .ok (.getfield 100, 3) := by decide +kernel
theorem d_Model_readHours_36 : decode prog_13_method_23_code 36 = .ok (.ishl, 1) := by decide +kernel
theorem d_Model_readHours_37 : decode prog_13_method_23_code 37 = .ok (.ior, 1) := by decide +kernel
theorem d_Model_readHours_38 : decode prog_13_method_23_code 38 = .ok (.putfield 117, 3) := by decide +kernel
theorem d_Model_readHours_41 : decode prog_13_method_23_code 41 = .ok (.aload_n 0, 1) := by decide +kernel
theorem d_Model_readHours_42 : decode prog_13_method_23_code 42 = .ok (.invokevirtual 114, 3) := by decide +kernel
theorem d_Model_readHours_45 : decode prog_13_method_23_code 45 = .ok (.goto (-36), 3) := by decide +kernel
theorem d_Model_readHours_48 : decode prog_13_method_23_code 48 = .ok (.aload_n 0, 1) := by decide +kernel
theorem d_Model_readHours_49 : decode prog_13_method_23_code 49 = .ok (.getfield 103, 3) := by decide +kernel
theorem d_Model_readHours_52 : decode prog_13_method_23_code 52 = .ok (.iconst 4, 1) := by decide +kernel
theorem d_Model_readHours_53 : decode prog_13_method_23_code 53 = .ok (.if_icmp .ne 7, 3) := by decide +kernel
theorem d_Model_readHours_56 : decode prog_13_method_23_code 56 = .ok (.iconst 1, 1) := by decide +kernel
theorem d_Model_readHours_57 : decode prog_13_method_23_code 57 = .ok (.goto 4, 3) := by decide +kernel
theorem d_Model_readHours_60 : decode prog_13_method_23_code 60 = .ok (.iconst 0, 1) := by decide +kernel
theorem d_Model_readHours_61 : decode prog_13_method_23_code 61 = .ok (.ireturn, 1) := by decide +kernel
theorem d_Model_readItem_0 : decode prog_13_method_24_code 0 = .ok (.iload_n 1, 1) := by decide +kernel
theorem d_Model_readItem_1 : decode prog_13_method_24_code 1 = .ok (.ifCond .ne 71, 3) := by decide +kernel
theorem d_Model_readItem_4 : decode prog_13_method_24_code 4 = .ok (.aload_n 0, 1) := by decide +kernel
theorem d_Model_readItem_5 : decode prog_13_method_24_code 5 = .ok (.bipush 104, 2) := by decide +kernel
theorem d_Model_readItem_7 : decode prog_13_method_24_code 7 = .ok (.bipush 111, 2) := by decide +kernel
theorem d_Model_readItem_9 : decode prog_13_method_24_code 9 = .ok (.bipush 117, 2) := by decide +kernel
theorem d_Model_readItem_11 : decode prog_13_method_24_code 11 = .ok (.bipush 115, 2) := by decide +kernel
theorem d_Model_readItem_13 : decode prog_13_method_24_code 13 = .ok (.bipush 101, 2) := by decide +kernel
theorem d_Model_readItem_15 : decode prog_13_method_24_code 15 = .ok (.invokevirtual 120, 3) := by decide +kernel
theorem d_Model_readItem_18 : decode prog_13_method_24_code 18 = .ok (.ifCond .eq 17, 3) := by decide +kernel
theorem d_Model_readItem_21 : decode prog_13_method_24_code 21 = .ok (.aload_n 0, 1) := by decide +kernel
theorem d_Model_readItem_22 : decode prog_13_method_24_code 22 = .ok (.iconst 0, 1) := by decide +kernel
theorem d_Model_readItem_23 : decode prog_13_method_24_code 23 = .ok (.bipush 9, 2) := by decide +kernel
theorem d_Model_readItem_25 : decode prog_13_method_24_code 25 = .ok (.invokevirtual 124, 3) := by decide +kernel
theorem d_Model_readItem_28 : decode prog_13_method_24_code 28 = .ok (.ifCond .eq 7, 3) := by decide +kernel
theorem d_Model_readItem_31 : decode prog_13_method_24_code 31 = .ok (.iconst 1, 1) := by decide +kernel
theorem d_Model_readItem_32 : decode prog_13_method_24_code 32 = .ok (.goto 4, 3) := by decide +kernel
theorem d_Model_readItem_35 : decode prog_13_method_24_code 35 = .ok (.iconst 0, 1) := by decide +kernel
theorem d_Model_readItem_36 : decode prog_13_method_24_code 36 = .ok (.istore_n 3, 1) := by decide +kernel
theorem d_Model_readItem_37 : decode prog_13_method_24_code 37 = .ok (.iload_n 3, 1) := by decide +kernel
theorem d_Model_readItem_38 : decode prog_13_method_24_code 38 = .ok (.ifCond .eq 17, 3) := by decide +kernel
theorem d_Model_readItem_41 : decode prog_13_method_24_code 41 = .ok (.iload_n 2, 1) := by decide +kernel
theorem d_Model_readItem_42 : decode prog_13_method_24_code 42 = .ok (.ifCond .eq 13, 3) := by decide +kernel
theorem d_Model_readItem_45 : decode prog_13_method_24_code 45 = .ok (.aload_n 0, 1) := by decide +kernel
theorem d_Model_readItem_46 : decode prog_13_method_24_code 46 = .ok (.aload_n 0, 1) := by decide +kernel
theorem d_Model_readItem_47 : decode prog_13_method_24_code 47 = .ok (.getfield 23, 3) := by decide +kernel
theorem d_Model_readItem_50 : decode prog_13_method_24_code 50 = .ok (.iconst 0, 1) := by decide +kernel
theorem d_Model_readItem_51 : decode prog_13_method_24_code 51 = .ok (.iaload, 1) := by decide +kernel
theorem d_Model_readItem_52 : decode prog_13_method_24_code 52 = .ok (.invokevirtual 48, 3) := by decide +kernel
theorem d_Model_readItem_55 : decode prog_13_method_24_code 55 = .ok (.iload_n 3, 1) := by decide +kernel
theorem d_Model_readItem_56 : decode prog_13_method_24_code 56 = .ok (.ifCond .eq 14, 3) := by decide +kernel
theorem d_Model_readItem_59 : decode prog_13_method_24_code 59 = .ok (.aload_n 0, 1) := by decide +kernel
theorem d_Model_readItem_60 : decode prog_13_method_24_code 60 = .ok (.invokevirtual 128, 3) := by decide +kernel
theorem d_Model_readItem_63 : decode prog_13_method_24_code 63 = .ok (.ifCond .eq 7, 3) := by decide +kernel
theorem d_Model_readItem_66 : decode prog_13_method_24_code 66 = .ok (.iconst 1, 1) := by decide +kernel
theorem d_Model_readItem_67 : decode prog_13_method_24_code 67 = .ok (.goto 4, 3) := by decide +kernel
theorem d_Model_readItem_70 : decode prog_13_method_24_code 70 = .ok (.iconst 0, 1) := by decide +kernel
theorem d_Model_readItem_71 : decode prog_13_method_24_code 71 = .ok (.ireturn, 1) := by decide +kernel
theorem d_Model_readItem_72 : decode prog_13_method_24_code 72 = .ok (.aload_n 0, 1) := by decide +kernel
theorem d_Model_readItem_73 : decode prog_13_method_24_code 73 = .ok (.bipush 114, 2) := by decide +kernel
theorem d_Model_readItem_75 : decode prog_13_method_24_code 75 = .ok (.bipush 97, 2) := by decide +kernel
theorem d_Model_readItem_77 : decode prog_13_method_24_code 77 = .ok (.bipush 116, 2) := by decide +kernel
theorem d_Model_readItem_79 : decode prog_13_method_24_code 79 = .ok (.bipush 101, 2) := by decide +kernel
theorem d_Model_readItem_81 : decode prog_13_method_24_code 81 = .ok (.iconst 0, 1) := by decide +kernel
theorem d_Model_readItem_82 : decode prog_13_method_24_code 82 = .ok (.invokevirtual 120, 3) := by decide +kernel
theorem d_Model_readItem_85 : decode prog_13_method_24_code 85 = .ok (.ifCond .eq 72, 3) := by decide +kernel
theorem d_Model_readItem_88 : decode prog_13_method_24_code 88 = .ok (.aload_n 0, 1) := by decide +kernel
theorem d_Model_readItem_89 : decode prog_13_method_24_code 89 = .ok (.iconst 0, 1) := by decide +kernel
theorem d_Model_readItem_90 : decode prog_13_method_24_code 90 = .ok (.iconst 1, 1) := by decide +kernel
theorem d_Model_readItem_91 : decode prog_13_method_24_code 91 = .ok (.invokevirtual 124, 3) := by decide +kernel
theorem d_Model_readItem_94 : decode prog_13_method_24_code 94 = .ok (.ifCond .eq 17, 3) := by decide +kernel
theorem d_Model_readItem_97 : decode prog_13_method_24_code 97 = .ok (.aload_n 0, 1) := by decide +kernel
theorem d_Model_readItem_98 : decode prog_13_method_24_code 98 = .ok (.iconst 1, 1) := by decide +kernel
theorem d_Model_readItem_99 : decode prog_13_method_24_code 99 = .ok (.bipush 9, 2) := by decide +kernel
theorem d_Model_readItem_101 : decode prog_13_method_24_code 101 = .ok (.invokevirtual 124, 3) := by decide +kernel
theorem d_Model_readItem_104 : decode prog_13_method_24_code 104 = .ok (.ifCond .eq 7, 3) := by decide +kernel
theorem d_Model_readItem_107 : decode prog_13_method_24_code 107 = .ok (.iconst 1, 1) := by decide +kernel
theorem d_Model_readItem_108 : decode prog_13_method_24_code 108 = .ok (.goto 4, 3) := by decide +kernel
theorem d_Model_readItem_111 : decode prog_13_method_24_code 111 = .ok (.iconst 0, 1) := by decide +kernel
theorem d_Model_readItem_112 : decode prog_13_method_24_code 112 = .ok (.istore_n 3, 1) := by decide +kernel
theorem d_Model_readItem_113 : decode prog_13_method_24_code 113 = .ok (.iload_n 3, 1) := by decide +kernel
theorem d_Model_readItem_114 : decode prog_13_method_24_code 114 = .ok (.ifCond .eq 26, 3) := by decide +kernel
theorem d_Model_readItem_117 : decode prog_13_method_24_code 117 = .ok (.iload_n 2, 1) := by decide +kernel
theorem d_Model_readItem_118 : decode prog_13_method_24_code 118 = .ok (.ifCond .eq 22, 3) := by decide +kernel
theorem d_Model_readItem_121 : decode prog_13_method_24_code 121 = .ok (.aload_n 0, 1) := by decide +kernel
theorem d_Model_readItem_122 : decode prog_13_method_24_code 122 = .ok (.getfield 7, 3) := by decide +kernel
theorem d_Model_readItem_125 : decode prog_13_method_24_code 125 = .ok (.iconst 5, 1) := by decide +kernel
theorem d_Model_readItem_126 : decode prog_13_method_24_code 126 = .ok (.aload_n 0, 1) := by decide +kernel
theorem d_Model_readItem_127 : decode prog_13_method_24_code 127 = .ok (.getfield 23, 3) := by decide +kernel
theorem d_Model_readItem_130 : decode prog_13_method_24_code 130 = .ok (.iconst 0, 1) := by decide +kernel
theorem d_Model_readItem_131 : decode prog_13_method_24_code 131 = .ok (.iaload, 1) := by decide +kernel
theorem d_Model_readItem_132 : decode prog_13_method_24_code 132 = .ok (.iadd, 1) := by decide +kernel
theorem d_Model_readItem_133 : decode prog_13_method_24_code 133 = .ok (.aload_n 0, 1) := by decide +kernel
theorem d_Model_readItem_134 : decode prog_13_method_24_code 134 = .ok (.getfield 23, 3) := by decide +kernel
theorem d_Model_readItem_137 : decode prog_13_method_24_code 137 = .ok (.iconst 1, 1) := by decide +kernel
theorem d_Model_readItem_138 : decode prog_13_method_24_code 138 = .ok (.iaload, 1) := by decide +kernel
theorem d_Model_readItem_139 : decode prog_13_method_24_code 139 = .ok (.iastore, 1) := by decide +kernel
theorem d_Model_readItem_140 : decode prog_13_method_24_code 140 = .ok (.iload_n 3, 1) := by decide +kernel
theorem d_Model_readItem_141 : decode prog_13_method_24_code 141 = .ok (.ifCond .eq 14, 3) := by decide +kernel
theorem d_Model_readItem_144 : decode prog_13_method_24_code 144 = .ok (.aload_n 0, 1) := by decide +kernel
theorem d_Model_readItem_145 : decode prog_13_method_24_code 145 = .ok (.invokevirtual 128, 3) := by decide +kernel
theorem d_Model_readItem_148 : decode prog_13_method_24_code 148 = .ok (.ifCond .eq 7, 3) := by decide +kernel
theorem d_Model_readItem_151 : decode prog_13_method_24_code 151 = .ok (.iconst 1, 1) := by decide +kernel
theorem d_Model_readItem_152 : decode prog_13_method_24_code 152 = .ok (.goto 4, 3) := by decide +kernel
theorem d_Model_readItem_155 : decode prog_13_method_24_code 155 = .ok (.iconst 0, 1) := by decide +kernel
theorem d_Model_readItem_156 : decode prog_13_method_24_code 156 = .ok (.ireturn, 1) := by decide +kernel
theorem d_Model_readItem_157 : decode prog_13_method_24_code 157 = .ok (.aload_n 0, 1) := by decide +kernel
theorem d_Model_readItem_158 : decode prog_13_method_24_code 158 = .ok (.bipush 98, 2) := by decide +kernel
theorem d_Model_readItem_160 : decode prog_13_method_24_code 160 = .ok (.bipush 97, 2) := by decide +kernel
theorem d_Model_readItem_162 : decode prog_13_method_24_code 162 = .ok (.bipush 114, 2) := by decide +kernel
theorem d_Model_readItem_164 : decode prog_13_method_24_code 164 = .ok (.iconst 0, 1) := by decide +kernel
theorem d_Model_readItem_165 : decode prog_13_method_24_code 165 = .ok (.iconst 0, 1) := by decide +kernel
theorem d_Model_readItem_166 : decode prog_13_method_24_code 166 = .ok (.invokevirtual 120, 3) := by decide +kernel
theorem d_Model_readItem_169 : decode prog_13_method_24_code 169 = .ok (.ifCond .eq 53, 3) := by decide +kernel
theorem d_Model_readItem_172 : decode prog_13_method_24_code 172 = .ok (.aload_n 0, 1) := by decide +kernel
theorem d_Model_readItem_173 : decode prog_13_method_24_code 173 = .ok (.iconst 0, 1) := by decide +kernel
theorem d_Model_readItem_174 : decode prog_13_method_24_code 174 = .ok (.iconst 1, 1) := by decide +kernel
theorem d_Model_readItem_175 : decode prog_13_method_24_code 175 = .ok (.invokevirtual 124, 3) := by decide +kernel
theorem d_Model_readItem_178 : decode prog_13_method_24_code 178 = .ok (.ifCond .eq 14, 3) := by decide +kernel
theorem d_Model_readItem_181 : decode prog_13_method_24_code 181 = .ok (.aload_n 0, 1) := by decide +kernel
theorem d_Model_readItem_182 : decode prog_13_method_24_code 182 = .ok (.invokevirtual 132, 3) := by decide +kernel
theorem d_Model_readItem_185 : decode prog_13_method_24_code 185 = .ok (.ifCond .eq 7, 3) := by decide +kernel
theorem d_Model_readItem_188 : decode prog_13_method_24_code 188 = .ok (.iconst 1, 1) := by decide +kernel
theorem d_Model_readItem_189 : decode prog_13_method_24_code 189 = .ok (.goto 4, 3) := by decide +kernel
theorem d_Model_readItem_192 : decode prog_13_method_24_code 192 = .ok (.iconst 0, 1) := by decide +kernel
theorem d_Model_readItem_193 : decode prog_13_method_24_code 193 = .ok (.istore_n 3, 1) := by decide +kernel
theorem d_Model_readItem_194 : decode prog_13_method_24_code 194 = .ok (.iload_n 3, 1) := by decide +kernel
theorem d_Model_readItem_195 : decode prog_13_method_24_code 195 = .ok (.ifCond .eq 25, 3) := by decide +kernel
theorem d_Model_readItem_198 : decode prog_13_method_24_code 198 = .ok (.iload_n 2, 1) := by decide +kernel
theorem d_Model_readItem_199 : decode prog_13_method_24_code 199 = .ok (.ifCond .eq 21, 3) := by decide +kernel
theorem d_Model_readItem_202 : decode prog_13_method_24_code 202 = .ok (.aload_n 0, 1) := by decide +kernel
theorem d_Model_readItem_203 : decode prog_13_method_24_code 203 = .ok (.getfield 7, 3) := by decide +kernel
theorem d_Model_readItem_206 : decode prog_13_method_24_code 206 = .ok (.bipush 7, 2) := by decide +kernel
theorem d_Model_readItem_208 : decode prog_13_method_24_code 208 = .ok (.aload_n 0, 1) := by decide +kernel
theorem d_Model_readItem_209 : decode prog_13_method_24_code 209 = .ok (.getfield 23, 3) := by decide +kernel
theorem d_Model_readItem_212 : decode prog_13_method_24_code 212 = .ok (.iconst 0, 1) := by decide +kernel
theorem d_Model_readItem_213 : decode prog_13_method_24_code 213 = .ok (.iaload, 1) := by decide +kernel
theorem d_Model_readItem_214 : decode prog_13_method_24_code 214 = .ok (.iadd, 1) := by decide +kernel
theorem d_Model_readItem_215 : decode prog_13_method_24_code 215 = .ok (.aload_n 0, 1) := by decide +kernel
theorem d_Model_readItem_216 : decode prog_13_method_24_code 216 = .ok (.getfield 117, 3) := by decide +kernel
theorem d_Model_readItem_219 : decode prog_13_method_24_code 219 = .ok (.iastore, 1) := by decide +kernel
theorem d_Model_readItem_220 : decode prog_13_method_24_code 220 = .ok (.iload_n 3, 1) := by decide +kernel
theorem d_Model_readItem_221 : decode prog_13_method_24_code 221 = .ok (.ireturn, 1) := by decide +kernel
theorem d_Model_readItem_222 : decode prog_13_method_24_code 222 = .ok (.aload_n 0, 1) := by decide +kernel
theorem d_Model_readItem_223 : decode prog_13_method_24_code 223 = .ok (.bipush 119, 2) := by decide +kernel
theorem d_Model_readItem_225 : decode prog_13_method_24_code 225 = .ok (.bipush 97, 2) := by decide +kernel
theorem d_Model_readItem_227 : decode prog_13_method_24_code 227 = .ok (.bipush 114, 2) := by decide +kernel
theorem d_Model_readItem_229 : decode prog_13_method_24_code 229 = .ok (.iconst 0, 1) := by decide +kernel
theorem d_Model_readItem_230 : decode prog_13_method_24_code 230 = .ok (.iconst 0, 1) := by decide +kernel
theorem d_Model_readItem_231 : decode prog_13_method_24_code 231 = .ok (.invokevirtual 120, 3) := by decide +kernel
theorem d_Model_readItem_234 : decode prog_13_method_24_code 234 = .ok (.ifCond .eq 28, 3) := by decide +kernel
theorem d_Model_readItem_237 : decode prog_13_method_24_code 237 = .ok (.aload_n 0, 1) := by decide +kernel
theorem d_Model_readItem_238 : decode prog_13_method_24_code 238 = .ok (.getfield 7, 3) := by decide +kernel
theorem d_Model_readItem_241 : decode prog_13_method_24_code 241 = .ok (.iconst 3, 1) := by decide +kernel
theorem d_Model_readItem_242 : decode prog_13_method_24_code 242 = .ok (.iload_n 2, 1) := by decide +kernel
theorem d_Model_readItem_243 : decode prog_13_method_24_code 243 = .ok (.ifCond .eq 7, 3) := by decide +kernel
theorem d_Model_readItem_246 : decode prog_13_method_24_code 246 = .ok (.iconst 1, 1) := by decide +kernel
theorem d_Model_readItem_247 : decode prog_13_method_24_code 247 = .ok (.goto 9, 3) := by decide +kernel
theorem d_Model_readItem_250 : decode prog_13_method_24_code 250 = .ok (.aload_n 0, 1) := by decide +kernel
theorem d_Model_readItem_251 : decode prog_13_method_24_code 251 = .ok (.getfield 7, 3) := by decide +kernel
theorem d_Model_readItem_254 : decode prog_13_method_24_code 254 = .ok (.iconst 3, 1) := by decide +kernel
theorem d_Model_readItem_255 : decode prog_13_method_24_code 255 = .ok (.iaload, 1) := by decide +kernel
theorem d_Model_readItem_256 : decode prog_13_method_24_code 256 = .ok (.iastore, 1) := by decide +kernel
theorem d_Model_readItem_257 : decode prog_13_method_24_code 257 = .ok (.aload_n 0, 1) := by decide +kernel
theorem d_Model_readItem_258 : decode prog_13_method_24_code 258 = .ok (.invokevirtual 128, 3) := by decide +kernel
theorem d_Model_readItem_261 : decode prog_13_method_24_code 261 = .ok (.ireturn, 1) := by decide +kernel
theorem d_Model_readItem_262 : decode prog_13_method_24_code 262 = .ok (.aload_n 0, 1) := by decide +kernel
theorem d_Model_readItem_263 : decode prog_13_method_24_code 263 = .ok (.bipush 100, 2) := by decide +kernel
theorem d_Model_readItem_265 : decode prog_13_method_24_code 265 = .ok (.bipush 111, 2) := by decide +kernel
theorem d_Model_readItem_267 : decode prog_13_method_24_code 267 = .ok (.bipush 105, 2) := by decide +kernel
theorem d_Model_readItem_269 : decode prog_13_method_24_code 269 = .ok (.bipush 110, 2) := by decide +kernel
theorem d_Model_readItem_271 : decode prog_13_method_24_code 271 = .ok (.bipush 103, 2) := by decide +kernel
theorem d_Model_readItem_273 : decode prog_13_method_24_code 273 = .ok (.invokevirtual 120, 3) := by decide +kernel
theorem d_Model_readItem_276 : decode prog_13_method_24_code 276 = .ok (.ifCond .eq 35, 3) := by decide +kernel
theorem d_Model_readItem_279 : decode prog_13_method_24_code 279 = .ok (.aload_n 0, 1) := by decide +kernel
theorem d_Model_readItem_280 : decode prog_13_method_24_code 280 = .ok (.getfield 135, 3) := by decide +kernel
theorem d_Model_readItem_283 : decode prog_13_method_24_code 283 = .ok (.bipush 6, 2) := by decide +kernel
theorem d_Model_readItem_285 : decode prog_13_method_24_code 285 = .ok (.if_icmp .ge 26, 3) := by decide +kernel
theorem d_Model_readItem_288 : decode prog_13_method_24_code 288 = .ok (.aload_n 0, 1) := by decide +kernel
theorem d_Model_readItem_289 : decode prog_13_method_24_code 289 = .ok (.iconst 0, 1) := by decide +kernel
theorem d_Model_readItem_290 : decode prog_13_method_24_code 290 = .ok (.iconst 5, 1) := by decide +kernel
theorem d_Model_readItem_291 : decode prog_13_method_24_code 291 = .ok (.invokevirtual 124, 3) := by decide +kernel
theorem d_Model_readItem_294 : decode prog_13_method_24_code 294 = .ok (.ifCond .eq 17, 3) := by decide +kernel
theorem d_Model_readItem_297 : decode prog_13_method_24_code 297 = .ok (.aload_n 0, 1) := by decide +kernel
theorem d_Model_readItem_298 : decode prog_13_method_24_code 298 = .ok (.iconst 1, 1) := by decide +kernel
theorem d_Model_readItem_299 : decode prog_13_method_24_code 299 = .ok (.bipush 20, 2) := by decide +kernel
theorem d_Model_readItem_301 : decode prog_13_method_24_code 301 = .ok (.invokevirtual 124, 3) := by decide +kernel
theorem d_Model_readItem_304 : decode prog_13_method_24_code 304 = .ok (.ifCond .eq 7, 3) := by decide +kernel
theorem d_Model_readItem_307 : decode prog_13_method_24_code 307 = .ok (.iconst 1, 1) := by decide +kernel
theorem d_Model_readItem_308 : decode prog_13_method_24_code 308 = .ok (.goto 4, 3) := by decide +kernel
theorem d_Model_readItem_311 : decode prog_13_method_24_code 311 = .ok (.iconst 0, 1) := by decide +kernel
theorem d_Model_readItem_312 : decode prog_13_method_24_code 312 = .ok (.istore_n 3, 1) := by decide +kernel
theorem d_Model_readItem_313 : decode prog_13_method_24_code 313 = .ok (.aload_n 0, 1) := by decide +kernel
theorem d_Model_readItem_314 : decode prog_13_method_24_code 314 = .ok (.dup, 1) := by decide +kernel
theorem d_Model_readItem_315 : decode prog_13_method_24_code 315 = .ok (.getfield 135, 3) := by decide +kernel
theorem d_Model_readItem_318 : decode prog_13_method_24_code 318 = .ok (.iconst 1, 1) := by decide +kernel
theorem d_Model_readItem_319 : decode prog_13_method_24_code 319 = .ok (.iadd, 1) := by decide +kernel
theorem d_Model_readItem_320 : decode prog_13_method_24_code 320 = .ok (.putfield 135, 3) := by decide +kernel
theorem d_Model_readItem_323 : decode prog_13_method_24_code 323 = .ok (.iload_n 3, 1) := by decide +kernel
theorem d_Model_readItem_324 : decode prog_13_method_24_code 324 = .ok (.ifCond .eq 23, 3) := by decide +kernel
theorem d_Model_readItem_327 : decode prog_13_method_24_code 327 = .ok (.iload_n 2, 1) := by decide +kernel
theorem d_Model_readItem_328 : decode prog_13_method_24_code 328 = .ok (.ifCond .eq 19, 3) := by decide +kernel
theorem d_Model_readItem_331 : decode prog_13_method_24_code 331 = .ok (.aload_n 0, 1) := by decide +kernel
theorem d_Model_readItem_332 : decode prog_13_method_24_code 332 = .ok (.aload_n 0, 1) := by decide +kernel
theorem d_Model_readItem_333 : decode prog_13_method_24_code 333 = .ok (.getfield 23, 3) := by decide +kernel
theorem d_Model_readItem_336 : decode prog_13_method_24_code 336 = .ok (.iconst 0, 1) := by decide +kernel
theorem d_Model_readItem_337 : decode prog_13_method_24_code 337 = .ok (.iaload, 1) := by decide +kernel
theorem d_Model_readItem_338 : decode prog_13_method_24_code 338 = .ok (.aload_n 0, 1) := by decide +kernel
theorem d_Model_readItem_339 : decode prog_13_method_24_code 339 = .ok (.getfield 23, 3) := by decide +kernel
theorem d_Model_readItem_342 : decode prog_13_method_24_code 342 = .ok (.iconst 1, 1) := by decide +kernel
theorem d_Model_readItem_343 : decode prog_13_method_24_code 343 = .ok (.iaload, 1) := by decide +kernel
theorem d_Model_readItem_344 : decode prog_13_method_24_code 344 = .ok (.invokevirtual 81, 3) := by decide +kernel
theorem d_Model_readItem_347 : decode prog_13_method_24_code 347 = .ok (.iload_n 3, 1) := by decide +kernel
theorem d_Model_readItem_348 : decode prog_13_method_24_code 348 = .ok (.ifCond .eq 14, 3) := by decide +kernel
theorem d_Model_readItem_351 : decode prog_13_method_24_code 351 = .ok (.aload_n 0, 1) := by decide +kernel
theorem d_Model_readItem_352 : decode prog_13_method_24_code 352 = .ok (.invokevirtual 128, 3) := by decide +kernel
theorem d_Model_readItem_355 : decode prog_13_method_24_code 355 = .ok (.ifCond .eq 7, 3) := by decide +kernel
theorem d_Model_readItem_358 : decode prog_13_method_24_code 358 = .ok (.iconst 1, 1) := by decide +kernel
theorem d_Model_readItem_359 : decode prog_13_method_24_code 359 = .ok (.goto 4, 3) := by decide +kernel
theorem d_Model_readItem_362 : decode prog_13_method_24_code 362 = .ok (.iconst 0, 1) := by decide +kernel
theorem d_Model_readItem_363 : decode prog_13_method_24_code 363 = .ok (.ireturn, 1) := by decide +kernel
theorem d_Model_readText_0 : decode prog_13_method_25_code 0 = .ok (.aload_n 0, 1) := by decide +kernel
theorem d_Model_readText_1 : decode prog_13_method_25_code 1 = .ok (.iconst 0, 1) := by decide +kernel
theorem d_Model_readText_2 : decode prog_13_method_25_code 2 = .ok (.putfield 90, 3) := by decide +kernel
theorem d_Model_readText_5 : decode prog_13_method_25_code 5 = .ok (.aload_n 0, 1) := by decide +kernel
theorem d_Model_readText_6 : decode prog_13_method_25_code 6 = .ok (.iconst 0, 1) := by decide +kernel
theorem d_Model_readText_7 : decode prog_13_method_25_code 7 = .ok (.putfield 135, 3) := by decide +kernel
theorem d_Model_readText_10 : decode prog_13_method_25_code 10 = .ok (.iconst 0, 1) := by decide +kernel
theorem d_Model_readText_11 : decode prog_13_method_25_code 11 = .ok (.istore_n 2, 1) := by decide +kernel
theorem d_Model_readText_12 : decode prog_13_method_25_code 12 = .ok (.aload_n 0, 1) := by decide +kernel
theorem d_Model_readText_13 : decode prog_13_method_25_code 13 = .ok (.invokevirtual 114, 3) := by decide +kernel
theorem d_Model_readText_16 : decode prog_13_method_25_code 16 = .ok (.iload_n 2, 1) := by decide +kernel
theorem d_Model_readText_17 : decode prog_13_method_25_code 17 = .ok (.ifCond .eq 11, 3) := by decide +kernel
theorem d_Model_readText_20 : decode prog_13_method_25_code 20 = .ok (.aload_n 0, 1) := by decide +kernel
theorem d_Model_readText_21 : decode prog_13_method_25_code 21 = .ok (.getfield 103, 3) := by decide +kernel
theorem d_Model_readText_24 : decode prog_13_method_25_code 24 = .ok (.iconst 3, 1) := by decide +kernel
theorem d_Model_readText_25 : decode prog_13_method_25_code 25 = .ok (.if_icmp .eq 24, 3) := by decide +kernel
theorem d_Model_readText_28 : decode prog_13_method_25_code 28 = .ok (.aload_n 0, 1) := by decide +kernel
theorem d_Model_readText_29 : decode prog_13_method_25_code 29 = .ok (.iload_n 2, 1) := by decide +kernel
theorem d_Model_readText_30 : decode prog_13_method_25_code 30 = .ok (.iload_n 1, 1) := by decide +kernel
theorem d_Model_readText_31 : decode prog_13_method_25_code 31 = .ok (.invokevirtual 138, 3) := by decide +kernel
theorem d_Model_readText_34 : decode prog_13_method_25_code 34 = .ok (.ifCond .ne 5, 3) := by decide +kernel
theorem d_Model_readText_37 : decode prog_13_method_25_code 37 = .ok (.iconst (-1), 1) := by decide +kernel
theorem d_Model_readText_38 : decode prog_13_method_25_code 38 = .ok (.ireturn, 1) := by decide +kernel
theorem d_Model_readText_39 : decode prog_13_method_25_code 39 = .ok (.iinc 2 1, 3) := by decide +kernel
theorem d_Model_readText_42 : decode prog_13_method_25_code 42 = .ok (.aload_n 0, 1) := by decide +kernel
theorem d_Model_readText_43 : decode prog_13_method_25_code 43 = .ok (.invokevirtual 114, 3) := by decide +kernel
theorem d_Model_readText_46 : decode prog_13_method_25_code 46 = .ok (.goto (-30), 3) := by decide +kernel
theorem d_Model_readText_49 : decode prog_13_method_25_code 49 = .ok (.iload_n 2, 1) := by decide +kernel
theorem d_Model_readText_50 : decode prog_13_method_25_code 50 = .ok (.ireturn, 1) := by decide +kernel
theorem d_Model_read_0 : decode prog_13_method_26_code 0 = .ok (.aload_n 0, 1) := by decide +kernel
theorem d_Model_read_1 : decode prog_13_method_26_code 1 = .ok (.iconst 0, 1) := by decide +kernel
theorem d_Model_read_2 : decode prog_13_method_26_code 2 = .ok (.invokevirtual 142, 3) := by decide +kernel
theorem d_Model_read_5 : decode prog_13_method_26_code 5 = .ok (.ifCond .ge 11, 3) := by decide +kernel
theorem d_Model_read_8 : decode prog_13_method_26_code 8 = .ok (.bipush (-10), 2) := by decide +kernel
theorem d_Model_read_10 : decode prog_13_method_26_code 10 = .ok (.aload_n 0, 1) := by decide +kernel
theorem d_Model_read_11 : decode prog_13_method_26_code 11 = .ok (.getfield 97, 3) := by decide +kernel
theorem d_Model_read_14 : decode prog_13_method_26_code 14 = .ok (.isub, 1) := by decide +kernel
theorem d_Model_read_15 : decode prog_13_method_26_code 15 = .ok (.ireturn, 1) := by decide +kernel
theorem d_Model_read_16 : decode prog_13_method_26_code 16 = .ok (.aload_n 0, 1) := by decide +kernel
theorem d_Model_read_17 : decode prog_13_method_26_code 17 = .ok (.iconst 1, 1) := by decide +kernel
theorem d_Model_read_18 : decode prog_13_method_26_code 18 = .ok (.invokevirtual 142, 3) := by decide +kernel
theorem d_Model_read_21 : decode prog_13_method_26_code 21 = .ok (.ireturn, 1) := by decide +kernel
theorem d_Model_clockOf_0 : decode prog_13_method_27_code 0 = .ok (.iload_n 1, 1) := by decide +kernel
theorem d_Model_clockOf_1 : decode prog_13_method_27_code 1 = .ok (.iload_n 0, 1) := by decide +kernel
theorem d_Model_clockOf_2 : decode prog_13_method_27_code 2 = .ok (.iadd, 1) := by decide +kernel
theorem d_Model_clockOf_3 : decode prog_13_method_27_code 3 = .ok (.bipush 24, 2) := by decide +kernel
theorem d_Model_clockOf_5 : decode prog_13_method_27_code 5 = .ok (.irem, 1) := by decide +kernel
theorem d_Model_clockOf_6 : decode prog_13_method_27_code 6 = .ok (.ireturn, 1) := by decide +kernel
theorem d_Model_dueBy_0 : decode prog_13_method_28_code 0 = .ok (.aload_n 0, 1) := by decide +kernel
theorem d_Model_dueBy_1 : decode prog_13_method_28_code 1 = .ok (.getfield 7, 3) := by decide +kernel
theorem d_Model_dueBy_4 : decode prog_13_method_28_code 4 = .ok (.iconst 5, 1) := by decide +kernel
theorem d_Model_dueBy_5 : decode prog_13_method_28_code 5 = .ok (.iload_n 3, 1) := by decide +kernel
theorem d_Model_dueBy_6 : decode prog_13_method_28_code 6 = .ok (.iadd, 1) := by decide +kernel
theorem d_Model_dueBy_7 : decode prog_13_method_28_code 7 = .ok (.iaload, 1) := by decide +kernel
theorem d_Model_dueBy_8 : decode prog_13_method_28_code 8 = .ok (.iload_n 2, 1) := by decide +kernel
theorem d_Model_dueBy_9 : decode prog_13_method_28_code 9 = .ok (.iconst 5, 1) := by decide +kernel
theorem d_Model_dueBy_10 : decode prog_13_method_28_code 10 = .ok (.idiv, 1) := by decide +kernel
theorem d_Model_dueBy_11 : decode prog_13_method_28_code 11 = .ok (.iadd, 1) := by decide +kernel
theorem d_Model_dueBy_12 : decode prog_13_method_28_code 12 = .ok (.istore 6, 2) := by decide +kernel
theorem d_Model_dueBy_14 : decode prog_13_method_28_code 14 = .ok (.iload 4, 2) := by decide +kernel
theorem d_Model_dueBy_16 : decode prog_13_method_28_code 16 = .ok (.bipush 22, 2) := by decide +kernel
theorem d_Model_dueBy_18 : decode prog_13_method_28_code 18 = .ok (.if_icmp .ge 10, 3) := by decide +kernel
theorem d_Model_dueBy_21 : decode prog_13_method_28_code 21 = .ok (.iload 4, 2) := by decide +kernel
theorem d_Model_dueBy_23 : decode prog_13_method_28_code 23 = .ok (.bipush 6, 2) := by decide +kernel
theorem d_Model_dueBy_25 : decode prog_13_method_28_code 25 = .ok (.if_icmp .ge 10, 3) := by decide +kernel
theorem d_Model_dueBy_28 : decode prog_13_method_28_code 28 = .ok (.iload 6, 2) := by decide +kernel
theorem d_Model_dueBy_30 : decode prog_13_method_28_code 30 = .ok (.iconst 2, 1) := by decide +kernel
theorem d_Model_dueBy_31 : decode prog_13_method_28_code 31 = .ok (.iadd, 1) := by decide +kernel
theorem d_Model_dueBy_32 : decode prog_13_method_28_code 32 = .ok (.goto 5, 3) := by decide +kernel
theorem d_Model_dueBy_35 : decode prog_13_method_28_code 35 = .ok (.iload 6, 2) := by decide +kernel
theorem d_Model_dueBy_37 : decode prog_13_method_28_code 37 = .ok (.istore 7, 2) := by decide +kernel
theorem d_Model_dueBy_39 : decode prog_13_method_28_code 39 = .ok (.iload_n 1, 1) := by decide +kernel
theorem d_Model_dueBy_40 : decode prog_13_method_28_code 40 = .ok (.tableswitch 77 1 5 #[36, 38, 54, 36, 57], 36) := by decide +kernel
theorem d_Model_dueBy_76 : decode prog_13_method_28_code 76 = .ok (.iconst 0, 1) := by decide +kernel
theorem d_Model_dueBy_77 : decode prog_13_method_28_code 77 = .ok (.ireturn, 1) := by decide +kernel
theorem d_Model_dueBy_78 : decode prog_13_method_28_code 78 = .ok (.iload 5, 2) := by decide +kernel
theorem d_Model_dueBy_80 : decode prog_13_method_28_code 80 = .ok (.iconst 1, 1) := by decide +kernel
theorem d_Model_dueBy_81 : decode prog_13_method_28_code 81 = .ok (.if_icmp .ne 10, 3) := by decide +kernel
theorem d_Model_dueBy_84 : decode prog_13_method_28_code 84 = .ok (.iconst 2, 1) := by decide +kernel
theorem d_Model_dueBy_85 : decode prog_13_method_28_code 85 = .ok (.iload 6, 2) := by decide +kernel
theorem d_Model_dueBy_87 : decode prog_13_method_28_code 87 = .ok (.imul, 1) := by decide +kernel
theorem d_Model_dueBy_88 : decode prog_13_method_28_code 88 = .ok (.goto 5, 3) := by decide +kernel
theorem d_Model_dueBy_91 : decode prog_13_method_28_code 91 = .ok (.iload 6, 2) := by decide +kernel
theorem d_Model_dueBy_93 : decode prog_13_method_28_code 93 = .ok (.ireturn, 1) := by decide +kernel
theorem d_Model_dueBy_94 : decode prog_13_method_28_code 94 = .ok (.iload 7, 2) := by decide +kernel
theorem d_Model_dueBy_96 : decode prog_13_method_28_code 96 = .ok (.ireturn, 1) := by decide +kernel
theorem d_Model_dueBy_97 : decode prog_13_method_28_code 97 = .ok (.iload_n 3, 1) := by decide +kernel
theorem d_Model_dueBy_98 : decode prog_13_method_28_code 98 = .ok (.iconst 1, 1) := by decide +kernel
theorem d_Model_dueBy_99 : decode prog_13_method_28_code 99 = .ok (.if_icmp .ne 15, 3) := by decide +kernel
theorem d_Model_dueBy_102 : decode prog_13_method_28_code 102 = .ok (.iload 7, 2) := by decide +kernel
theorem d_Model_dueBy_104 : decode prog_13_method_28_code 104 = .ok (.ifCond .le 10, 3) := by decide +kernel
theorem d_Model_dueBy_107 : decode prog_13_method_28_code 107 = .ok (.iload 7, 2) := by decide +kernel
theorem d_Model_dueBy_109 : decode prog_13_method_28_code 109 = .ok (.iconst 1, 1) := by decide +kernel
theorem d_Model_dueBy_110 : decode prog_13_method_28_code 110 = .ok (.isub, 1) := by decide +kernel
theorem d_Model_dueBy_111 : decode prog_13_method_28_code 111 = .ok (.goto 5, 3) := by decide +kernel
theorem d_Model_dueBy_114 : decode prog_13_method_28_code 114 = .ok (.iload 7, 2) := by decide +kernel
theorem d_Model_dueBy_116 : decode prog_13_method_28_code 116 = .ok (.ireturn, 1) := by decide +kernel
theorem d_Model_dueBy_117 : decode prog_13_method_28_code 117 = .ok (.iload 6, 2) := by decide +kernel
theorem d_Model_dueBy_119 : decode prog_13_method_28_code 119 = .ok (.ireturn, 1) := by decide +kernel
theorem d_Model_passes_0 : decode prog_13_method_29_code 0 = .ok (.aload_n 0, 1) := by decide +kernel
theorem d_Model_passes_1 : decode prog_13_method_29_code 1 = .ok (.getfield 7, 3) := by decide +kernel
theorem d_Model_passes_4 : decode prog_13_method_29_code 4 = .ok (.bipush 10, 2) := by decide +kernel
theorem d_Model_passes_6 : decode prog_13_method_29_code 6 = .ok (.iload_n 1, 1) := by decide +kernel
theorem d_Model_passes_7 : decode prog_13_method_29_code 7 = .ok (.iadd, 1) := by decide +kernel
theorem d_Model_passes_8 : decode prog_13_method_29_code 8 = .ok (.iaload, 1) := by decide +kernel
theorem d_Model_passes_9 : decode prog_13_method_29_code 9 = .ok (.istore_n 3, 1) := by decide +kernel
theorem d_Model_passes_10 : decode prog_13_method_29_code 10 = .ok (.iload_n 3, 1) := by decide +kernel
theorem d_Model_passes_11 : decode prog_13_method_29_code 11 = .ok (.iconst 4, 1) := by decide +kernel
theorem d_Model_passes_12 : decode prog_13_method_29_code 12 = .ok (.if_icmp .eq 34, 3) := by decide +kernel
theorem d_Model_passes_15 : decode prog_13_method_29_code 15 = .ok (.iload_n 3, 1) := by decide +kernel
theorem d_Model_passes_16 : decode prog_13_method_29_code 16 = .ok (.iconst 3, 1) := by decide +kernel
theorem d_Model_passes_17 : decode prog_13_method_29_code 17 = .ok (.if_icmp .ne 9, 3) := by decide +kernel
theorem d_Model_passes_20 : decode prog_13_method_29_code 20 = .ok (.iload_n 2, 1) := by decide +kernel
theorem d_Model_passes_21 : decode prog_13_method_29_code 21 = .ok (.bipush 22, 2) := by decide +kernel
theorem d_Model_passes_23 : decode prog_13_method_29_code 23 = .ok (.if_icmp .ge 23, 3) := by decide +kernel
theorem d_Model_passes_26 : decode prog_13_method_29_code 26 = .ok (.iload_n 3, 1) := by decide +kernel
theorem d_Model_passes_27 : decode prog_13_method_29_code 27 = .ok (.iconst 5, 1) := by decide +kernel
theorem d_Model_passes_28 : decode prog_13_method_29_code 28 = .ok (.if_icmp .ne 22, 3) := by decide +kernel
theorem d_Model_passes_31 : decode prog_13_method_29_code 31 = .ok (.iload_n 2, 1) := by decide +kernel
theorem d_Model_passes_32 : decode prog_13_method_29_code 32 = .ok (.bipush 22, 2) := by decide +kernel
theorem d_Model_passes_34 : decode prog_13_method_29_code 34 = .ok (.if_icmp .lt 16, 3) := by decide +kernel
theorem d_Model_passes_37 : decode prog_13_method_29_code 37 = .ok (.aload_n 0, 1) := by decide +kernel
theorem d_Model_passes_38 : decode prog_13_method_29_code 38 = .ok (.getfield 7, 3) := by decide +kernel
theorem d_Model_passes_41 : decode prog_13_method_29_code 41 = .ok (.iconst 3, 1) := by decide +kernel
theorem d_Model_passes_42 : decode prog_13_method_29_code 42 = .ok (.iaload, 1) := by decide +kernel
theorem d_Model_passes_43 : decode prog_13_method_29_code 43 = .ok (.ifCond .ne 7, 3) := by decide +kernel
theorem d_Model_passes_46 : decode prog_13_method_29_code 46 = .ok (.iconst 1, 1) := by decide +kernel
theorem d_Model_passes_47 : decode prog_13_method_29_code 47 = .ok (.goto 4, 3) := by decide +kernel
theorem d_Model_passes_50 : decode prog_13_method_29_code 50 = .ok (.iconst 0, 1) := by decide +kernel
theorem d_Model_passes_51 : decode prog_13_method_29_code 51 = .ok (.ireturn, 1) := by decide +kernel
theorem d_Model_isThrough_0 : decode prog_13_method_30_code 0 = .ok (.iload_n 2, 1) := by decide +kernel
theorem d_Model_isThrough_1 : decode prog_13_method_30_code 1 = .ok (.iload_n 3, 1) := by decide +kernel
theorem d_Model_isThrough_2 : decode prog_13_method_30_code 2 = .ok (.invokestatic 146, 3) := by decide +kernel
theorem d_Model_isThrough_5 : decode prog_13_method_30_code 5 = .ok (.istore 4, 2) := by decide +kernel
theorem d_Model_isThrough_7 : decode prog_13_method_30_code 7 = .ok (.aload_n 0, 1) := by decide +kernel
theorem d_Model_isThrough_8 : decode prog_13_method_30_code 8 = .ok (.getfield 7, 3) := by decide +kernel
theorem d_Model_isThrough_11 : decode prog_13_method_30_code 11 = .ok (.bipush 7, 2) := by decide +kernel
theorem d_Model_isThrough_13 : decode prog_13_method_30_code 13 = .ok (.iload_n 2, 1) := by decide +kernel
theorem d_Model_isThrough_14 : decode prog_13_method_30_code 14 = .ok (.iadd, 1) := by decide +kernel
theorem d_Model_isThrough_15 : decode prog_13_method_30_code 15 = .ok (.iaload, 1) := by decide +kernel
theorem d_Model_isThrough_16 : decode prog_13_method_30_code 16 = .ok (.iload 4, 2) := by decide +kernel
theorem d_Model_isThrough_18 : decode prog_13_method_30_code 18 = .ok (.invokestatic 150, 3) := by decide +kernel
theorem d_Model_isThrough_21 : decode prog_13_method_30_code 21 = .ok (.ifCond .eq 13, 3) := by decide +kernel
theorem d_Model_isThrough_24 : decode prog_13_method_30_code 24 = .ok (.aload_n 0, 1) := by decide +kernel
theorem d_Model_isThrough_25 : decode prog_13_method_30_code 25 = .ok (.iload_n 1, 1) := by decide +kernel
theorem d_Model_isThrough_26 : decode prog_13_method_30_code 26 = .ok (.iload 4, 2) := by decide +kernel
theorem d_Model_isThrough_28 : decode prog_13_method_30_code 28 = .ok (.invokevirtual 153, 3) := by decide +kernel
theorem d_Model_isThrough_31 : decode prog_13_method_30_code 31 = .ok (.ifCond .eq 7, 3) := by decide +kernel
theorem d_Model_isThrough_34 : decode prog_13_method_30_code 34 = .ok (.iconst 1, 1) := by decide +kernel
theorem d_Model_isThrough_35 : decode prog_13_method_30_code 35 = .ok (.goto 4, 3) := by decide +kernel
theorem d_Model_isThrough_38 : decode prog_13_method_30_code 38 = .ok (.iconst 0, 1) := by decide +kernel
theorem d_Model_isThrough_39 : decode prog_13_method_30_code 39 = .ok (.ireturn, 1) := by decide +kernel
theorem d_Model_dueIn_0 : decode prog_13_method_31_code 0 = .ok (.aload_n 0, 1) := by decide +kernel
theorem d_Model_dueIn_1 : decode prog_13_method_31_code 1 = .ok (.aload_n 0, 1) := by decide +kernel
theorem d_Model_dueIn_2 : decode prog_13_method_31_code 2 = .ok (.getfield 7, 3) := by decide +kernel
theorem d_Model_dueIn_5 : decode prog_13_method_31_code 5 = .ok (.bipush 10, 2) := by decide +kernel
theorem d_Model_dueIn_7 : decode prog_13_method_31_code 7 = .ok (.iload_n 1, 1) := by decide +kernel
theorem d_Model_dueIn_8 : decode prog_13_method_31_code 8 = .ok (.iadd, 1) := by decide +kernel
theorem d_Model_dueIn_9 : decode prog_13_method_31_code 9 = .ok (.iaload, 1) := by decide +kernel
theorem d_Model_dueIn_10 : decode prog_13_method_31_code 10 = .ok (.aload_n 0, 1) := by decide +kernel
theorem d_Model_dueIn_11 : decode prog_13_method_31_code 11 = .ok (.getfield 7, 3) := by decide +kernel
theorem d_Model_dueIn_14 : decode prog_13_method_31_code 14 = .ok (.bipush 16, 2) := by decide +kernel
theorem d_Model_dueIn_16 : decode prog_13_method_31_code 16 = .ok (.iload_n 1, 1) := by decide +kernel
theorem d_Model_dueIn_17 : decode prog_13_method_31_code 17 = .ok (.iadd, 1) := by decide +kernel
theorem d_Model_dueIn_18 : decode prog_13_method_31_code 18 = .ok (.iaload, 1) := by decide +kernel
theorem d_Model_dueIn_19 : decode prog_13_method_31_code 19 = .ok (.iload_n 2, 1) := by decide +kernel
theorem d_Model_dueIn_20 : decode prog_13_method_31_code 20 = .ok (.iload_n 2, 1) := by decide +kernel
theorem d_Model_dueIn_21 : decode prog_13_method_31_code 21 = .ok (.iload_n 3, 1) := by decide +kernel
theorem d_Model_dueIn_22 : decode prog_13_method_31_code 22 = .ok (.invokestatic 146, 3) := by decide +kernel
theorem d_Model_dueIn_25 : decode prog_13_method_31_code 25 = .ok (.aload_n 0, 1) := by decide +kernel
theorem d_Model_dueIn_26 : decode prog_13_method_31_code 26 = .ok (.getfield 7, 3) := by decide +kernel
theorem d_Model_dueIn_29 : decode prog_13_method_31_code 29 = .ok (.iconst 3, 1) := by decide +kernel
theorem d_Model_dueIn_30 : decode prog_13_method_31_code 30 = .ok (.iaload, 1) := by decide +kernel
theorem d_Model_dueIn_31 : decode prog_13_method_31_code 31 = .ok (.invokevirtual 156, 3) := by decide +kernel
theorem d_Model_dueIn_34 : decode prog_13_method_31_code 34 = .ok (.ireturn, 1) := by decide +kernel
theorem d_Model_noteStep_0 : decode prog_13_method_32_code 0 = .ok (.aload_n 0, 1) := by decide +kernel
theorem d_Model_noteStep_1 : decode prog_13_method_32_code 1 = .ok (.getfield 58, 3) := by decide +kernel
theorem d_Model_noteStep_4 : decode prog_13_method_32_code 4 = .ok (.bipush 8, 2) := by decide +kernel
theorem d_Model_noteStep_6 : decode prog_13_method_32_code 6 = .ok (.if_icmp .ne 41, 3) := by decide +kernel
theorem d_Model_noteStep_9 : decode prog_13_method_32_code 9 = .ok (.iconst 0, 1) := by decide +kernel
theorem d_Model_noteStep_10 : decode prog_13_method_32_code 10 = .ok (.istore_n 1, 1) := by decide +kernel
theorem d_Model_noteStep_11 : decode prog_13_method_32_code 11 = .ok (.iload_n 1, 1) := by decide +kernel
theorem d_Model_noteStep_12 : decode prog_13_method_32_code 12 = .ok (.bipush 28, 2) := by decide +kernel
theorem d_Model_noteStep_14 : decode prog_13_method_32_code 14 = .ok (.if_icmp .ge 23, 3) := by decide +kernel
theorem d_Model_noteStep_17 : decode prog_13_method_32_code 17 = .ok (.aload_n 0, 1) := by decide +kernel
theorem d_Model_noteStep_18 : decode prog_13_method_32_code 18 = .ok (.getfield 26, 3) := by decide +kernel
theorem d_Model_noteStep_21 : decode prog_13_method_32_code 21 = .ok (.iload_n 1, 1) := by decide +kernel
theorem d_Model_noteStep_22 : decode prog_13_method_32_code 22 = .ok (.aload_n 0, 1) := by decide +kernel
theorem d_Model_noteStep_23 : decode prog_13_method_32_code 23 = .ok (.getfield 26, 3) := by decide +kernel
theorem d_Model_noteStep_26 : decode prog_13_method_32_code 26 = .ok (.iload_n 1, 1) := by decide +kernel
theorem d_Model_noteStep_27 : decode prog_13_method_32_code 27 = .ok (.iconst 4, 1) := by decide +kernel
theorem d_Model_noteStep_28 : decode prog_13_method_32_code 28 = .ok (.iadd, 1) := by decide +kernel
theorem d_Model_noteStep_29 : decode prog_13_method_32_code 29 = .ok (.iaload, 1) := by decide +kernel
theorem d_Model_noteStep_30 : decode prog_13_method_32_code 30 = .ok (.iastore, 1) := by decide +kernel
theorem d_Model_noteStep_31 : decode prog_13_method_32_code 31 = .ok (.iinc 1 1, 3) := by decide +kernel
theorem d_Model_noteStep_34 : decode prog_13_method_32_code 34 = .ok (.goto (-23), 3) := by decide +kernel
theorem d_Model_noteStep_37 : decode prog_13_method_32_code 37 = .ok (.aload_n 0, 1) := by decide +kernel
theorem d_Model_noteStep_38 : decode prog_13_method_32_code 38 = .ok (.dup, 1) := by decide +kernel
theorem d_Model_noteStep_39 : decode prog_13_method_32_code 39 = .ok (.getfield 58, 3) := by decide +kernel
theorem d_Model_noteStep_42 : decode prog_13_method_32_code 42 = .ok (.iconst 1, 1) := by decide +kernel
theorem d_Model_noteStep_43 : decode prog_13_method_32_code 43 = .ok (.isub, 1) := by decide +kernel
theorem d_Model_noteStep_44 : decode prog_13_method_32_code 44 = .ok (.putfield 58, 3) := by decide +kernel
theorem d_Model_noteStep_47 : decode prog_13_method_32_code 47 = .ok (.iconst 0, 1) := by decide +kernel
theorem d_Model_noteStep_48 : decode prog_13_method_32_code 48 = .ok (.istore_n 1, 1) := by decide +kernel
theorem d_Model_noteStep_49 : decode prog_13_method_32_code 49 = .ok (.iload_n 1, 1) := by decide +kernel
theorem d_Model_noteStep_50 : decode prog_13_method_32_code 50 = .ok (.iconst 4, 1) := by decide +kernel
theorem d_Model_noteStep_51 : decode prog_13_method_32_code 51 = .ok (.if_icmp .ge 28, 3) := by decide +kernel
theorem d_Model_noteStep_54 : decode prog_13_method_32_code 54 = .ok (.aload_n 0, 1) := by decide +kernel
theorem d_Model_noteStep_55 : decode prog_13_method_32_code 55 = .ok (.getfield 26, 3) := by decide +kernel
theorem d_Model_noteStep_58 : decode prog_13_method_32_code 58 = .ok (.iconst 4, 1) := by decide +kernel
theorem d_Model_noteStep_59 : decode prog_13_method_32_code 59 = .ok (.aload_n 0, 1) := by decide +kernel
theorem d_Model_noteStep_60 : decode prog_13_method_32_code 60 = .ok (.getfield 58, 3) := by decide +kernel
theorem d_Model_noteStep_63 : decode prog_13_method_32_code 63 = .ok (.imul, 1) := by decide +kernel
theorem d_Model_noteStep_64 : decode prog_13_method_32_code 64 = .ok (.iload_n 1, 1) := by decide +kernel
theorem d_Model_noteStep_65 : decode prog_13_method_32_code 65 = .ok (.iadd, 1) := by decide +kernel
theorem d_Model_noteStep_66 : decode prog_13_method_32_code 66 = .ok (.aload_n 0, 1) := by decide +kernel
theorem d_Model_noteStep_67 : decode prog_13_method_32_code 67 = .ok (.getfield 7, 3) := by decide +kernel
theorem d_Model_noteStep_70 : decode prog_13_method_32_code 70 = .ok (.iload_n 1, 1) := by decide +kernel
theorem d_Model_noteStep_71 : decode prog_13_method_32_code 71 = .ok (.iaload, 1) := by decide +kernel
theorem d_Model_noteStep_72 : decode prog_13_method_32_code 72 = .ok (.iastore, 1) := by decide +kernel
theorem d_Model_noteStep_73 : decode prog_13_method_32_code 73 = .ok (.iinc 1 1, 3) := by decide +kernel
theorem d_Model_noteStep_76 : decode prog_13_method_32_code 76 = .ok (.goto (-27), 3) := by decide +kernel
theorem d_Model_noteStep_79 : decode prog_13_method_32_code 79 = .ok (.aload_n 0, 1) := by decide +kernel
theorem d_Model_noteStep_80 : decode prog_13_method_32_code 80 = .ok (.dup, 1) := by decide +kernel
theorem d_Model_noteStep_81 : decode prog_13_method_32_code 81 = .ok (.getfield 58, 3) := by decide +kernel
theorem d_Model_noteStep_84 : decode prog_13_method_32_code 84 = .ok (.iconst 1, 1) := by decide +kernel
theorem d_Model_noteStep_85 : decode prog_13_method_32_code 85 = .ok (.iadd, 1) := by decide +kernel
theorem d_Model_noteStep_86 : decode prog_13_method_32_code 86 = .ok (.putfield 58, 3) := by decide +kernel
theorem d_Model_noteStep_89 : decode prog_13_method_32_code 89 = .ok (.return_, 1) := by decide +kernel
theorem d_Model_isDone_0 : decode prog_13_method_33_code 0 = .ok (.aload_n 0, 1) := by decide +kernel
theorem d_Model_isDone_1 : decode prog_13_method_33_code 1 = .ok (.iload_n 1, 1) := by decide +kernel
theorem d_Model_isDone_2 : decode prog_13_method_33_code 2 = .ok (.iload_n 2, 1) := by decide +kernel
theorem d_Model_isDone_3 : decode prog_13_method_33_code 3 = .ok (.aload_n 0, 1) := by decide +kernel
theorem d_Model_isDone_4 : decode prog_13_method_33_code 4 = .ok (.getfield 7, 3) := by decide +kernel
theorem d_Model_isDone_7 : decode prog_13_method_33_code 7 = .ok (.iconst 1, 1) := by decide +kernel
theorem d_Model_isDone_8 : decode prog_13_method_33_code 8 = .ok (.iaload, 1) := by decide +kernel
theorem d_Model_isDone_9 : decode prog_13_method_33_code 9 = .ok (.invokevirtual 160, 3) := by decide +kernel
theorem d_Model_isDone_12 : decode prog_13_method_33_code 12 = .ok (.iload_n 2, 1) := by decide +kernel
theorem d_Model_isDone_13 : decode prog_13_method_33_code 13 = .ok (.aload_n 0, 1) := by decide +kernel
theorem d_Model_isDone_14 : decode prog_13_method_33_code 14 = .ok (.getfield 7, 3) := by decide +kernel
theorem d_Model_isDone_17 : decode prog_13_method_33_code 17 = .ok (.iconst 0, 1) := by decide +kernel
theorem d_Model_isDone_18 : decode prog_13_method_33_code 18 = .ok (.iaload, 1) := by decide +kernel
theorem d_Model_isDone_19 : decode prog_13_method_33_code 19 = .ok (.if_icmp .eq 12, 3) := by decide +kernel
theorem d_Model_isDone_22 : decode prog_13_method_33_code 22 = .ok (.aload_n 0, 1) := by decide +kernel
theorem d_Model_isDone_23 : decode prog_13_method_33_code 23 = .ok (.getfield 7, 3) := by decide +kernel
theorem d_Model_isDone_26 : decode prog_13_method_33_code 26 = .ok (.iconst 4, 1) := by decide +kernel
theorem d_Model_isDone_27 : decode prog_13_method_33_code 27 = .ok (.iaload, 1) := by decide +kernel
theorem d_Model_isDone_28 : decode prog_13_method_33_code 28 = .ok (.goto 4, 3) := by decide +kernel
theorem d_Model_isDone_31 : decode prog_13_method_33_code 31 = .ok (.iconst 0, 1) := by decide +kernel
theorem d_Model_isDone_32 : decode prog_13_method_33_code 32 = .ok (.iadd, 1) := by decide +kernel
theorem d_Model_isDone_33 : decode prog_13_method_33_code 33 = .ok (.istore_n 3, 1) := by decide +kernel
theorem d_Model_isDone_34 : decode prog_13_method_33_code 34 = .ok (.aload_n 0, 1) := by decide +kernel
theorem d_Model_isDone_35 : decode prog_13_method_33_code 35 = .ok (.getfield 7, 3) := by decide +kernel
theorem d_Model_isDone_38 : decode prog_13_method_33_code 38 = .ok (.iconst 0, 1) := by decide +kernel
theorem d_Model_isDone_39 : decode prog_13_method_33_code 39 = .ok (.iload_n 2, 1) := by decide +kernel
theorem d_Model_isDone_40 : decode prog_13_method_33_code 40 = .ok (.iastore, 1) := by decide +kernel
theorem d_Model_isDone_41 : decode prog_13_method_33_code 41 = .ok (.aload_n 0, 1) := by decide +kernel
theorem d_Model_isDone_42 : decode prog_13_method_33_code 42 = .ok (.getfield 7, 3) := by decide +kernel
theorem d_Model_isDone_45 : decode prog_13_method_33_code 45 = .ok (.iconst 2, 1) := by decide +kernel
theorem d_Model_isDone_46 : decode prog_13_method_33_code 46 = .ok (.dup2, 1) := by decide +kernel
theorem d_Model_isDone_47 : decode prog_13_method_33_code 47 = .ok (.iaload, 1) := by decide +kernel
theorem d_Model_isDone_48 : decode prog_13_method_33_code 48 = .ok (.iload_n 3, 1) := by decide +kernel
theorem d_Model_isDone_49 : decode prog_13_method_33_code 49 = .ok (.iadd, 1) := by decide +kernel
theorem d_Model_isDone_50 : decode prog_13_method_33_code 50 = .ok (.iastore, 1) := by decide +kernel
theorem d_Model_isDone_51 : decode prog_13_method_33_code 51 = .ok (.aload_n 0, 1) := by decide +kernel
theorem d_Model_isDone_52 : decode prog_13_method_33_code 52 = .ok (.getfield 7, 3) := by decide +kernel
theorem d_Model_isDone_55 : decode prog_13_method_33_code 55 = .ok (.iconst 1, 1) := by decide +kernel
theorem d_Model_isDone_56 : decode prog_13_method_33_code 56 = .ok (.aload_n 0, 1) := by decide +kernel
theorem d_Model_isDone_57 : decode prog_13_method_33_code 57 = .ok (.getfield 7, 3) := by decide +kernel
theorem d_Model_isDone_60 : decode prog_13_method_33_code 60 = .ok (.iconst 1, 1) := by decide +kernel
theorem d_Model_isDone_61 : decode prog_13_method_33_code 61 = .ok (.iaload, 1) := by decide +kernel
theorem d_Model_isDone_62 : decode prog_13_method_33_code 62 = .ok (.iconst 1, 1) := by decide +kernel
theorem d_Model_isDone_63 : decode prog_13_method_33_code 63 = .ok (.iadd, 1) := by decide +kernel
theorem d_Model_isDone_64 : decode prog_13_method_33_code 64 = .ok (.bipush 24, 2) := by decide +kernel
theorem d_Model_isDone_66 : decode prog_13_method_33_code 66 = .ok (.irem, 1) := by decide +kernel
theorem d_Model_isDone_67 : decode prog_13_method_33_code 67 = .ok (.iastore, 1) := by decide +kernel
theorem d_Model_isDone_68 : decode prog_13_method_33_code 68 = .ok (.iload_n 3, 1) := by decide +kernel
theorem d_Model_isDone_69 : decode prog_13_method_33_code 69 = .ok (.ireturn, 1) := by decide +kernel
theorem d_Model_does_0 : decode prog_13_method_34_code 0 = .ok (.aload_n 0, 1) := by decide +kernel
theorem d_Model_does_1 : decode prog_13_method_34_code 1 = .ok (.iload_n 1, 1) := by decide +kernel
theorem d_Model_does_2 : decode prog_13_method_34_code 2 = .ok (.invokevirtual 164, 3) := by decide +kernel
theorem d_Model_does_5 : decode prog_13_method_34_code 5 = .ok (.ifCond .eq 10, 3) := by decide +kernel
theorem d_Model_does_8 : decode prog_13_method_34_code 8 = .ok (.iload_n 2, 1) := by decide +kernel
theorem d_Model_does_9 : decode prog_13_method_34_code 9 = .ok (.invokestatic 68, 3) := by decide +kernel
theorem d_Model_does_12 : decode prog_13_method_34_code 12 = .ok (.ifCond .ne 8, 3) := by decide +kernel
theorem d_Model_does_15 : decode prog_13_method_34_code 15 = .ok (.aload_n 0, 1) := by decide +kernel
theorem d_Model_does_16 : decode prog_13_method_34_code 16 = .ok (.invokevirtual 64, 3) := by decide +kernel
theorem d_Model_does_19 : decode prog_13_method_34_code 19 = .ok (.ireturn, 1) := by decide +kernel
theorem d_Model_does_20 : decode prog_13_method_34_code 20 = .ok (.aload_n 0, 1) := by decide +kernel
theorem d_Model_does_21 : decode prog_13_method_34_code 21 = .ok (.iload_n 1, 1) := by decide +kernel
theorem d_Model_does_22 : decode prog_13_method_34_code 22 = .ok (.iload_n 2, 1) := by decide +kernel
theorem d_Model_does_23 : decode prog_13_method_34_code 23 = .ok (.aload_n 0, 1) := by decide +kernel
theorem d_Model_does_24 : decode prog_13_method_34_code 24 = .ok (.getfield 7, 3) := by decide +kernel
theorem d_Model_does_27 : decode prog_13_method_34_code 27 = .ok (.iconst 1, 1) := by decide +kernel
theorem d_Model_does_28 : decode prog_13_method_34_code 28 = .ok (.iaload, 1) := by decide +kernel
theorem d_Model_does_29 : decode prog_13_method_34_code 29 = .ok (.invokevirtual 167, 3) := by decide +kernel
theorem d_Model_does_32 : decode prog_13_method_34_code 32 = .ok (.ifCond .ne 8, 3) := by decide +kernel
theorem d_Model_does_35 : decode prog_13_method_34_code 35 = .ok (.aload_n 0, 1) := by decide +kernel
theorem d_Model_does_36 : decode prog_13_method_34_code 36 = .ok (.invokevirtual 171, 3) := by decide +kernel
theorem d_Model_does_39 : decode prog_13_method_34_code 39 = .ok (.ireturn, 1) := by decide +kernel
theorem d_Model_does_40 : decode prog_13_method_34_code 40 = .ok (.aload_n 0, 1) := by decide +kernel
theorem d_Model_does_41 : decode prog_13_method_34_code 41 = .ok (.invokevirtual 174, 3) := by decide +kernel
theorem d_Model_does_44 : decode prog_13_method_34_code 44 = .ok (.aload_n 0, 1) := by decide +kernel
theorem d_Model_does_45 : decode prog_13_method_34_code 45 = .ok (.iload_n 1, 1) := by decide +kernel
theorem d_Model_does_46 : decode prog_13_method_34_code 46 = .ok (.iload_n 2, 1) := by decide +kernel
theorem d_Model_does_47 : decode prog_13_method_34_code 47 = .ok (.invokevirtual 177, 3) := by decide +kernel
theorem d_Model_does_50 : decode prog_13_method_34_code 50 = .ok (.ireturn, 1) := by decide +kernel
theorem d_Model_waits_0 : decode prog_13_method_35_code 0 = .ok (.iload_n 1, 1) := by decide +kernel
theorem d_Model_waits_1 : decode prog_13_method_35_code 1 = .ok (.i2l, 1) := by decide +kernel
theorem d_Model_waits_2 : decode prog_13_method_35_code 2 = .ok (.lconst 1, 1) := by decide +kernel
theorem d_Model_waits_3 : decode prog_13_method_35_code 3 = .ok (.ldc2_w 180, 3) := by decide +kernel
theorem d_Model_waits_6 : decode prog_13_method_35_code 6 = .ok (.invokestatic 52, 3) := by decide +kernel
theorem d_Model_waits_9 : decode prog_13_method_35_code 9 = .ok (.ifCond .ne 8, 3) := by decide +kernel
theorem d_Model_waits_12 : decode prog_13_method_35_code 12 = .ok (.aload_n 0, 1) := by decide +kernel
theorem d_Model_waits_13 : decode prog_13_method_35_code 13 = .ok (.invokevirtual 64, 3) := by decide +kernel
theorem d_Model_waits_16 : decode prog_13_method_35_code 16 = .ok (.ireturn, 1) := by decide +kernel
theorem d_Model_waits_17 : decode prog_13_method_35_code 17 = .ok (.aload_n 0, 1) := by decide +kernel
theorem d_Model_waits_18 : decode prog_13_method_35_code 18 = .ok (.invokevirtual 174, 3) := by decide +kernel
theorem d_Model_waits_21 : decode prog_13_method_35_code 21 = .ok (.aload_n 0, 1) := by decide +kernel
theorem d_Model_waits_22 : decode prog_13_method_35_code 22 = .ok (.getfield 7, 3) := by decide +kernel
theorem d_Model_waits_25 : decode prog_13_method_35_code 25 = .ok (.iconst 1, 1) := by decide +kernel
theorem d_Model_waits_26 : decode prog_13_method_35_code 26 = .ok (.aload_n 0, 1) := by decide +kernel
theorem d_Model_waits_27 : decode prog_13_method_35_code 27 = .ok (.getfield 7, 3) := by decide +kernel
theorem d_Model_waits_30 : decode prog_13_method_35_code 30 = .ok (.iconst 1, 1) := by decide +kernel
theorem d_Model_waits_31 : decode prog_13_method_35_code 31 = .ok (.iaload, 1) := by decide +kernel
theorem d_Model_waits_32 : decode prog_13_method_35_code 32 = .ok (.iload_n 1, 1) := by decide +kernel
theorem d_Model_waits_33 : decode prog_13_method_35_code 33 = .ok (.iadd, 1) := by decide +kernel
theorem d_Model_waits_34 : decode prog_13_method_35_code 34 = .ok (.bipush 24, 2) := by decide +kernel
theorem d_Model_waits_36 : decode prog_13_method_35_code 36 = .ok (.irem, 1) := by decide +kernel
theorem d_Model_waits_37 : decode prog_13_method_35_code 37 = .ok (.iastore, 1) := by decide +kernel
theorem d_Model_waits_38 : decode prog_13_method_35_code 38 = .ok (.aload_n 0, 1) := by decide +kernel
theorem d_Model_waits_39 : decode prog_13_method_35_code 39 = .ok (.getfield 7, 3) := by decide +kernel
theorem d_Model_waits_42 : decode prog_13_method_35_code 42 = .ok (.iconst 1, 1) := by decide +kernel
theorem d_Model_waits_43 : decode prog_13_method_35_code 43 = .ok (.iaload, 1) := by decide +kernel
theorem d_Model_waits_44 : decode prog_13_method_35_code 44 = .ok (.ireturn, 1) := by decide +kernel
theorem d_Model_war_0 : decode prog_13_method_36_code 0 = .ok (.iload_n 1, 1) := by decide +kernel
theorem d_Model_war_1 : decode prog_13_method_36_code 1 = .ok (.i2l, 1) := by decide +kernel
theorem d_Model_war_2 : decode prog_13_method_36_code 2 = .ok (.lconst 0, 1) := by decide +kernel
theorem d_Model_war_3 : decode prog_13_method_36_code 3 = .ok (.lconst 1, 1) := by decide +kernel
theorem d_Model_war_4 : decode prog_13_method_36_code 4 = .ok (.invokestatic 52, 3) := by decide +kernel
theorem d_Model_war_7 : decode prog_13_method_36_code 7 = .ok (.ifCond .ne 8, 3) := by decide +kernel
theorem d_Model_war_10 : decode prog_13_method_36_code 10 = .ok (.aload_n 0, 1) := by decide +kernel
theorem d_Model_war_11 : decode prog_13_method_36_code 11 = .ok (.invokevirtual 64, 3) := by decide +kernel
theorem d_Model_war_14 : decode prog_13_method_36_code 14 = .ok (.ireturn, 1) := by decide +kernel
theorem d_Model_war_15 : decode prog_13_method_36_code 15 = .ok (.aload_n 0, 1) := by decide +kernel
theorem d_Model_war_16 : decode prog_13_method_36_code 16 = .ok (.invokevirtual 174, 3) := by decide +kernel
theorem d_Model_war_19 : decode prog_13_method_36_code 19 = .ok (.aload_n 0, 1) := by decide +kernel
theorem d_Model_war_20 : decode prog_13_method_36_code 20 = .ok (.getfield 7, 3) := by decide +kernel
theorem d_Model_war_23 : decode prog_13_method_36_code 23 = .ok (.iconst 3, 1) := by decide +kernel
theorem d_Model_war_24 : decode prog_13_method_36_code 24 = .ok (.iaload, 1) := by decide +kernel
theorem d_Model_war_25 : decode prog_13_method_36_code 25 = .ok (.istore_n 2, 1) := by decide +kernel
theorem d_Model_war_26 : decode prog_13_method_36_code 26 = .ok (.aload_n 0, 1) := by decide +kernel
theorem d_Model_war_27 : decode prog_13_method_36_code 27 = .ok (.getfield 7, 3) := by decide +kernel
theorem d_Model_war_30 : decode prog_13_method_36_code 30 = .ok (.iconst 3, 1) := by decide +kernel
theorem d_Model_war_31 : decode prog_13_method_36_code 31 = .ok (.iload_n 1, 1) := by decide +kernel
theorem d_Model_war_32 : decode prog_13_method_36_code 32 = .ok (.iastore, 1) := by decide +kernel
theorem d_Model_war_33 : decode prog_13_method_36_code 33 = .ok (.iload_n 2, 1) := by decide +kernel
theorem d_Model_war_34 : decode prog_13_method_36_code 34 = .ok (.ireturn, 1) := by decide +kernel
theorem d_Model_undo_0 : decode prog_13_method_37_code 0 = .ok (.aload_n 0, 1) := by decide +kernel
theorem d_Model_undo_1 : decode prog_13_method_37_code 1 = .ok (.getfield 58, 3) := by decide +kernel
theorem d_Model_undo_4 : decode prog_13_method_37_code 4 = .ok (.ifCond .ne 8, 3) := by decide +kernel
theorem d_Model_undo_7 : decode prog_13_method_37_code 7 = .ok (.aload_n 0, 1) := by decide +kernel
theorem d_Model_undo_8 : decode prog_13_method_37_code 8 = .ok (.invokevirtual 171, 3) := by decide +kernel
theorem d_Model_undo_11 : decode prog_13_method_37_code 11 = .ok (.ireturn, 1) := by decide +kernel
theorem d_Model_undo_12 : decode prog_13_method_37_code 12 = .ok (.aload_n 0, 1) := by decide +kernel
theorem d_Model_undo_13 : decode prog_13_method_37_code 13 = .ok (.dup, 1) := by decide +kernel
theorem d_Model_undo_14 : decode prog_13_method_37_code 14 = .ok (.getfield 58, 3) := by decide +kernel
theorem d_Model_undo_17 : decode prog_13_method_37_code 17 = .ok (.iconst 1, 1) := by decide +kernel
theorem d_Model_undo_18 : decode prog_13_method_37_code 18 = .ok (.isub, 1) := by decide +kernel
theorem d_Model_undo_19 : decode prog_13_method_37_code 19 = .ok (.putfield 58, 3) := by decide +kernel
theorem d_Model_undo_22 : decode prog_13_method_37_code 22 = .ok (.iconst 0, 1) := by decide +kernel
theorem d_Model_undo_23 : decode prog_13_method_37_code 23 = .ok (.istore_n 1, 1) := by decide +kernel
theorem d_Model_undo_24 : decode prog_13_method_37_code 24 = .ok (.iload_n 1, 1) := by decide +kernel
theorem d_Model_undo_25 : decode prog_13_method_37_code 25 = .ok (.iconst 4, 1) := by decide +kernel
theorem d_Model_undo_26 : decode prog_13_method_37_code 26 = .ok (.if_icmp .ge 28, 3) := by decide +kernel
theorem d_Model_undo_29 : decode prog_13_method_37_code 29 = .ok (.aload_n 0, 1) := by decide +kernel
theorem d_Model_undo_30 : decode prog_13_method_37_code 30 = .ok (.getfield 7, 3) := by decide +kernel
theorem d_Model_undo_33 : decode prog_13_method_37_code 33 = .ok (.iload_n 1, 1) := by decide +kernel
theorem d_Model_undo_34 : decode prog_13_method_37_code 34 = .ok (.aload_n 0, 1) := by decide +kernel
theorem d_Model_undo_35 : decode prog_13_method_37_code 35 = .ok (.getfield 26, 3) := by decide +kernel
theorem d_Model_undo_38 : decode prog_13_method_37_code 38 = .ok (.iconst 4, 1) := by decide +kernel
theorem d_Model_undo_39 : decode prog_13_method_37_code 39 = .ok (.aload_n 0, 1) := by decide +kernel
theorem d_Model_undo_40 : decode prog_13_method_37_code 40 = .ok (.getfield 58, 3) := by decide +kernel
theorem d_Model_undo_43 : decode prog_13_method_37_code 43 = .ok (.imul, 1) := by decide +kernel
theorem d_Model_undo_44 : decode prog_13_method_37_code 44 = .ok (.iload_n 1, 1) := by decide +kernel
theorem d_Model_undo_45 : decode prog_13_method_37_code 45 = .ok (.iadd, 1) := by decide +kernel
theorem d_Model_undo_46 : decode prog_13_method_37_code 46 = .ok (.iaload, 1) := by decide +kernel
theorem d_Model_undo_47 : decode prog_13_method_37_code 47 = .ok (.iastore, 1) := by decide +kernel
theorem d_Model_undo_48 : decode prog_13_method_37_code 48 = .ok (.iinc 1 1, 3) := by decide +kernel
theorem d_Model_undo_51 : decode prog_13_method_37_code 51 = .ok (.goto (-27), 3) := by decide +kernel
theorem d_Model_undo_54 : decode prog_13_method_37_code 54 = .ok (.aload_n 0, 1) := by decide +kernel
theorem d_Model_undo_55 : decode prog_13_method_37_code 55 = .ok (.getfield 7, 3) := by decide +kernel
theorem d_Model_undo_58 : decode prog_13_method_37_code 58 = .ok (.iconst 2, 1) := by decide +kernel
theorem d_Model_undo_59 : decode prog_13_method_37_code 59 = .ok (.iaload, 1) := by decide +kernel
theorem d_Model_undo_60 : decode prog_13_method_37_code 60 = .ok (.ireturn, 1) := by decide +kernel
theorem d_Model_of_0 : decode prog_13_method_38_code 0 = .ok (.aload_n 0, 1) := by decide +kernel
theorem d_Model_of_1 : decode prog_13_method_38_code 1 = .ok (.iload_n 1, 1) := by decide +kernel
theorem d_Model_of_2 : decode prog_13_method_38_code 2 = .ok (.invokevirtual 164, 3) := by decide +kernel
theorem d_Model_of_5 : decode prog_13_method_38_code 5 = .ok (.ifCond .eq 13, 3) := by decide +kernel
theorem d_Model_of_8 : decode prog_13_method_38_code 8 = .ok (.iload_n 2, 1) := by decide +kernel
theorem d_Model_of_9 : decode prog_13_method_38_code 9 = .ok (.i2l, 1) := by decide +kernel
theorem d_Model_of_10 : decode prog_13_method_38_code 10 = .ok (.lconst 0, 1) := by decide +kernel
theorem d_Model_of_11 : decode prog_13_method_38_code 11 = .ok (.lconst 1, 1) := by decide +kernel
theorem d_Model_of_12 : decode prog_13_method_38_code 12 = .ok (.invokestatic 52, 3) := by decide +kernel
theorem d_Model_of_15 : decode prog_13_method_38_code 15 = .ok (.ifCond .ne 10, 3) := by decide +kernel
theorem d_Model_of_18 : decode prog_13_method_38_code 18 = .ok (.aload_n 0, 1) := by decide +kernel
theorem d_Model_of_19 : decode prog_13_method_38_code 19 = .ok (.invokevirtual 64, 3) := by decide +kernel
theorem d_Model_of_22 : decode prog_13_method_38_code 22 = .ok (.goto 21, 3) := by decide +kernel
theorem d_Model_of_25 : decode prog_13_method_38_code 25 = .ok (.aload_n 0, 1) := by decide +kernel
theorem d_Model_of_26 : decode prog_13_method_38_code 26 = .ok (.getfield 7, 3) := by decide +kernel
theorem d_Model_of_29 : decode prog_13_method_38_code 29 = .ok (.iload_n 2, 1) := by decide +kernel
theorem d_Model_of_30 : decode prog_13_method_38_code 30 = .ok (.ifCond .ne 8, 3) := by decide +kernel
theorem d_Model_of_33 : decode prog_13_method_38_code 33 = .ok (.bipush 10, 2) := by decide +kernel
theorem d_Model_of_35 : decode prog_13_method_38_code 35 = .ok (.goto 5, 3) := by decide +kernel
theorem d_Model_of_38 : decode prog_13_method_38_code 38 = .ok (.bipush 16, 2) := by decide +kernel
theorem d_Model_of_40 : decode prog_13_method_38_code 40 = .ok (.iload_n 1, 1) := by decide +kernel
theorem d_Model_of_41 : decode prog_13_method_38_code 41 = .ok (.iadd, 1) := by decide +kernel
theorem d_Model_of_42 : decode prog_13_method_38_code 42 = .ok (.iaload, 1) := by decide +kernel
theorem d_Model_of_43 : decode prog_13_method_38_code 43 = .ok (.ireturn, 1) := by decide +kernel
theorem d_Model_now_0 : decode prog_13_method_39_code 0 = .ok (.iload_n 1, 1) := by decide +kernel
theorem d_Model_now_1 : decode prog_13_method_39_code 1 = .ok (.i2l, 1) := by decide +kernel
theorem d_Model_now_2 : decode prog_13_method_39_code 2 = .ok (.lconst 0, 1) := by decide +kernel
theorem d_Model_now_3 : decode prog_13_method_39_code 3 = .ok (.ldc2_w 182, 3) := by decide +kernel
theorem d_Model_now_6 : decode prog_13_method_39_code 6 = .ok (.invokestatic 52, 3) := by decide +kernel
theorem d_Model_now_9 : decode prog_13_method_39_code 9 = .ok (.ifCond .ne 10, 3) := by decide +kernel
theorem d_Model_now_12 : decode prog_13_method_39_code 12 = .ok (.aload_n 0, 1) := by decide +kernel
theorem d_Model_now_13 : decode prog_13_method_39_code 13 = .ok (.invokevirtual 64, 3) := by decide +kernel
theorem d_Model_now_16 : decode prog_13_method_39_code 16 = .ok (.goto 11, 3) := by decide +kernel
theorem d_Model_now_19 : decode prog_13_method_39_code 19 = .ok (.aload_n 0, 1) := by decide +kernel
theorem d_Model_now_20 : decode prog_13_method_39_code 20 = .ok (.getfield 7, 3) := by decide +kernel
theorem d_Model_now_23 : decode prog_13_method_39_code 23 = .ok (.iconst 0, 1) := by decide +kernel
theorem d_Model_now_24 : decode prog_13_method_39_code 24 = .ok (.iload_n 1, 1) := by decide +kernel
theorem d_Model_now_25 : decode prog_13_method_39_code 25 = .ok (.iadd, 1) := by decide +kernel
theorem d_Model_now_26 : decode prog_13_method_39_code 26 = .ok (.iaload, 1) := by decide +kernel
theorem d_Model_now_27 : decode prog_13_method_39_code 27 = .ok (.ireturn, 1) := by decide +kernel
theorem d_Model_due_0 : decode prog_13_method_40_code 0 = .ok (.aload_n 0, 1) := by decide +kernel
theorem d_Model_due_1 : decode prog_13_method_40_code 1 = .ok (.iload_n 1, 1) := by decide +kernel
theorem d_Model_due_2 : decode prog_13_method_40_code 2 = .ok (.invokevirtual 164, 3) := by decide +kernel
theorem d_Model_due_5 : decode prog_13_method_40_code 5 = .ok (.ifCond .eq 17, 3) := by decide +kernel
theorem d_Model_due_8 : decode prog_13_method_40_code 8 = .ok (.iload_n 2, 1) := by decide +kernel
theorem d_Model_due_9 : decode prog_13_method_40_code 9 = .ok (.invokestatic 68, 3) := by decide +kernel
theorem d_Model_due_12 : decode prog_13_method_40_code 12 = .ok (.ifCond .eq 10, 3) := by decide +kernel
theorem d_Model_due_15 : decode prog_13_method_40_code 15 = .ok (.iload_n 3, 1) := by decide +kernel
theorem d_Model_due_16 : decode prog_13_method_40_code 16 = .ok (.invokestatic 184, 3) := by decide +kernel
theorem d_Model_due_19 : decode prog_13_method_40_code 19 = .ok (.ifCond .ne 8, 3) := by decide +kernel
theorem d_Model_due_22 : decode prog_13_method_40_code 22 = .ok (.aload_n 0, 1) := by decide +kernel
theorem d_Model_due_23 : decode prog_13_method_40_code 23 = .ok (.invokevirtual 64, 3) := by decide +kernel
theorem d_Model_due_26 : decode prog_13_method_40_code 26 = .ok (.ireturn, 1) := by decide +kernel
theorem d_Model_due_27 : decode prog_13_method_40_code 27 = .ok (.aload_n 0, 1) := by decide +kernel
theorem d_Model_due_28 : decode prog_13_method_40_code 28 = .ok (.iload_n 1, 1) := by decide +kernel
theorem d_Model_due_29 : decode prog_13_method_40_code 29 = .ok (.iload_n 2, 1) := by decide +kernel
theorem d_Model_due_30 : decode prog_13_method_40_code 30 = .ok (.iload_n 3, 1) := by decide +kernel
theorem d_Model_due_31 : decode prog_13_method_40_code 31 = .ok (.invokevirtual 167, 3) := by decide +kernel
theorem d_Model_due_34 : decode prog_13_method_40_code 34 = .ok (.ifCond .eq 13, 3) := by decide +kernel
theorem d_Model_due_37 : decode prog_13_method_40_code 37 = .ok (.aload_n 0, 1) := by decide +kernel
theorem d_Model_due_38 : decode prog_13_method_40_code 38 = .ok (.iload_n 1, 1) := by decide +kernel
theorem d_Model_due_39 : decode prog_13_method_40_code 39 = .ok (.iload_n 2, 1) := by decide +kernel
theorem d_Model_due_40 : decode prog_13_method_40_code 40 = .ok (.iload_n 3, 1) := by decide +kernel
theorem d_Model_due_41 : decode prog_13_method_40_code 41 = .ok (.invokevirtual 160, 3) := by decide +kernel
theorem d_Model_due_44 : decode prog_13_method_40_code 44 = .ok (.goto 4, 3) := by decide +kernel
theorem d_Model_due_47 : decode prog_13_method_40_code 47 = .ok (.iconst (-1), 1) := by decide +kernel
theorem d_Model_due_48 : decode prog_13_method_40_code 48 = .ok (.ireturn, 1) := by decide +kernel
theorem d_Model_both_0 : decode prog_13_method_41_code 0 = .ok (.aload_n 0, 1) := by decide +kernel
theorem d_Model_both_1 : decode prog_13_method_41_code 1 = .ok (.iload_n 1, 1) := by decide +kernel
theorem d_Model_both_2 : decode prog_13_method_41_code 2 = .ok (.invokevirtual 164, 3) := by decide +kernel
theorem d_Model_both_5 : decode prog_13_method_41_code 5 = .ok (.ifCond .eq 13, 3) := by decide +kernel
theorem d_Model_both_8 : decode prog_13_method_41_code 8 = .ok (.iload_n 2, 1) := by decide +kernel
theorem d_Model_both_9 : decode prog_13_method_41_code 9 = .ok (.i2l, 1) := by decide +kernel
theorem d_Model_both_10 : decode prog_13_method_41_code 10 = .ok (.lconst 0, 1) := by decide +kernel
theorem d_Model_both_11 : decode prog_13_method_41_code 11 = .ok (.lconst 1, 1) := by decide +kernel
theorem d_Model_both_12 : decode prog_13_method_41_code 12 = .ok (.invokestatic 52, 3) := by decide +kernel
theorem d_Model_both_15 : decode prog_13_method_41_code 15 = .ok (.ifCond .ne 8, 3) := by decide +kernel
theorem d_Model_both_18 : decode prog_13_method_41_code 18 = .ok (.aload_n 0, 1) := by decide +kernel
theorem d_Model_both_19 : decode prog_13_method_41_code 19 = .ok (.invokevirtual 64, 3) := by decide +kernel
theorem d_Model_both_22 : decode prog_13_method_41_code 22 = .ok (.ireturn, 1) := by decide +kernel
theorem d_Model_both_23 : decode prog_13_method_41_code 23 = .ok (.iconst 0, 1) := by decide +kernel
theorem d_Model_both_24 : decode prog_13_method_41_code 24 = .ok (.istore_n 3, 1) := by decide +kernel
theorem d_Model_both_25 : decode prog_13_method_41_code 25 = .ok (.iconst (-1), 1) := by decide +kernel
theorem d_Model_both_26 : decode prog_13_method_41_code 26 = .ok (.istore 4, 2) := by decide +kernel
theorem d_Model_both_28 : decode prog_13_method_41_code 28 = .ok (.bipush 23, 2) := by decide +kernel
theorem d_Model_both_30 : decode prog_13_method_41_code 30 = .ok (.istore 5, 2) := by decide +kernel
theorem d_Model_both_32 : decode prog_13_method_41_code 32 = .ok (.iload 5, 2) := by decide +kernel
theorem d_Model_both_34 : decode prog_13_method_41_code 34 = .ok (.ifCond .lt 56, 3) := by decide +kernel
theorem d_Model_both_37 : decode prog_13_method_41_code 37 = .ok (.aload_n 0, 1) := by decide +kernel
theorem d_Model_both_38 : decode prog_13_method_41_code 38 = .ok (.getfield 7, 3) := by decide +kernel
theorem d_Model_both_41 : decode prog_13_method_41_code 41 = .ok (.iconst 1, 1) := by decide +kernel
theorem d_Model_both_42 : decode prog_13_method_41_code 42 = .ok (.iaload, 1) := by decide +kernel
theorem d_Model_both_43 : decode prog_13_method_41_code 43 = .ok (.iload 5, 2) := by decide +kernel
theorem d_Model_both_45 : decode prog_13_method_41_code 45 = .ok (.iadd, 1) := by decide +kernel
theorem d_Model_both_46 : decode prog_13_method_41_code 46 = .ok (.bipush 24, 2) := by decide +kernel
theorem d_Model_both_48 : decode prog_13_method_41_code 48 = .ok (.irem, 1) := by decide +kernel
theorem d_Model_both_49 : decode prog_13_method_41_code 49 = .ok (.istore 6, 2) := by decide +kernel
theorem d_Model_both_51 : decode prog_13_method_41_code 51 = .ok (.aload_n 0, 1) := by decide +kernel
theorem d_Model_both_52 : decode prog_13_method_41_code 52 = .ok (.iload_n 1, 1) := by decide +kernel
theorem d_Model_both_53 : decode prog_13_method_41_code 53 = .ok (.iconst 0, 1) := by decide +kernel
theorem d_Model_both_54 : decode prog_13_method_41_code 54 = .ok (.iload 6, 2) := by decide +kernel
theorem d_Model_both_56 : decode prog_13_method_41_code 56 = .ok (.invokevirtual 167, 3) := by decide +kernel
theorem d_Model_both_59 : decode prog_13_method_41_code 59 = .ok (.ifCond .ne 25, 3) := by decide +kernel
theorem d_Model_both_62 : decode prog_13_method_41_code 62 = .ok (.aload_n 0, 1) := by decide +kernel
theorem d_Model_both_63 : decode prog_13_method_41_code 63 = .ok (.iload_n 1, 1) := by decide +kernel
theorem d_Model_both_64 : decode prog_13_method_41_code 64 = .ok (.iconst 1, 1) := by decide +kernel
theorem d_Model_both_65 : decode prog_13_method_41_code 65 = .ok (.iload 6, 2) := by decide +kernel
theorem d_Model_both_67 : decode prog_13_method_41_code 67 = .ok (.invokevirtual 167, 3) := by decide +kernel
theorem d_Model_both_70 : decode prog_13_method_41_code 70 = .ok (.ifCond .ne 14, 3) := by decide +kernel
theorem d_Model_both_73 : decode prog_13_method_41_code 73 = .ok (.iload_n 3, 1) := by decide +kernel
theorem d_Model_both_74 : decode prog_13_method_41_code 74 = .ok (.iconst 1, 1) := by decide +kernel
theorem d_Model_both_75 : decode prog_13_method_41_code 75 = .ok (.iload 6, 2) := by decide +kernel
theorem d_Model_both_77 : decode prog_13_method_41_code 77 = .ok (.ishl, 1) := by decide +kernel
theorem d_Model_both_78 : decode prog_13_method_41_code 78 = .ok (.ior, 1) := by decide +kernel
theorem d_Model_both_79 : decode prog_13_method_41_code 79 = .ok (.istore_n 3, 1) := by decide +kernel
theorem d_Model_both_80 : decode prog_13_method_41_code 80 = .ok (.iload 6, 2) := by decide +kernel
theorem d_Model_both_82 : decode prog_13_method_41_code 82 = .ok (.istore 4, 2) := by decide +kernel
theorem d_Model_both_84 : decode prog_13_method_41_code 84 = .ok (.iinc 5 (-1), 3) := by decide +kernel
theorem d_Model_both_87 : decode prog_13_method_41_code 87 = .ok (.goto (-55), 3) := by decide +kernel
theorem d_Model_both_90 : decode prog_13_method_41_code 90 = .ok (.iload_n 2, 1) := by decide +kernel
theorem d_Model_both_91 : decode prog_13_method_41_code 91 = .ok (.ifCond .ne 7, 3) := by decide +kernel
theorem d_Model_both_94 : decode prog_13_method_41_code 94 = .ok (.iload_n 3, 1) := by decide +kernel
theorem d_Model_both_95 : decode prog_13_method_41_code 95 = .ok (.goto 5, 3) := by decide +kernel
theorem d_Model_both_98 : decode prog_13_method_41_code 98 = .ok (.iload 4, 2) := by decide +kernel
theorem d_Model_both_100 : decode prog_13_method_41_code 100 = .ok (.ireturn, 1) := by decide +kernel
theorem d_Model_leftAt_0 : decode prog_13_method_42_code 0 = .ok (.aload_n 0, 1) := by decide +kernel
theorem d_Model_leftAt_1 : decode prog_13_method_42_code 1 = .ok (.getfield 29, 3) := by decide +kernel
theorem d_Model_leftAt_4 : decode prog_13_method_42_code 4 = .ok (.sipush 128, 3) := by decide +kernel
theorem d_Model_leftAt_7 : decode prog_13_method_42_code 7 = .ok (.iload_n 1, 1) := by decide +kernel
theorem d_Model_leftAt_8 : decode prog_13_method_42_code 8 = .ok (.imul, 1) := by decide +kernel
theorem d_Model_leftAt_9 : decode prog_13_method_42_code 9 = .ok (.iconst 2, 1) := by decide +kernel
theorem d_Model_leftAt_10 : decode prog_13_method_42_code 10 = .ok (.iload_n 2, 1) := by decide +kernel
theorem d_Model_leftAt_11 : decode prog_13_method_42_code 11 = .ok (.imul, 1) := by decide +kernel
theorem d_Model_leftAt_12 : decode prog_13_method_42_code 12 = .ok (.iadd, 1) := by decide +kernel
theorem d_Model_leftAt_13 : decode prog_13_method_42_code 13 = .ok (.iload_n 3, 1) := by decide +kernel
theorem d_Model_leftAt_14 : decode prog_13_method_42_code 14 = .ok (.iadd, 1) := by decide +kernel
theorem d_Model_leftAt_15 : decode prog_13_method_42_code 15 = .ok (.iaload, 1) := by decide +kernel
theorem d_Model_leftAt_16 : decode prog_13_method_42_code 16 = .ok (.ireturn, 1) := by decide +kernel
theorem d_Model_costBy_0 : decode prog_13_method_43_code 0 = .ok (.iload_n 2, 1) := by decide +kernel
theorem d_Model_costBy_1 : decode prog_13_method_43_code 1 = .ok (.iload 4, 2) := by decide +kernel
theorem d_Model_costBy_3 : decode prog_13_method_43_code 3 = .ok (.invokestatic 150, 3) := by decide +kernel
theorem d_Model_costBy_6 : decode prog_13_method_43_code 6 = .ok (.ifCond .ne 15, 3) := by decide +kernel
theorem d_Model_costBy_9 : decode prog_13_method_43_code 9 = .ok (.aload_n 0, 1) := by decide +kernel
theorem d_Model_costBy_10 : decode prog_13_method_43_code 10 = .ok (.iload 4, 2) := by decide +kernel
theorem d_Model_costBy_12 : decode prog_13_method_43_code 12 = .ok (.iload 5, 2) := by decide +kernel
theorem d_Model_costBy_14 : decode prog_13_method_43_code 14 = .ok (.iload_n 1, 1) := by decide +kernel
theorem d_Model_costBy_15 : decode prog_13_method_43_code 15 = .ok (.invokevirtual 167, 3) := by decide +kernel
theorem d_Model_costBy_18 : decode prog_13_method_43_code 18 = .ok (.ifCond .ne 7, 3) := by decide +kernel
theorem d_Model_costBy_21 : decode prog_13_method_43_code 21 = .ok (.sipush 9999, 3) := by decide +kernel
theorem d_Model_costBy_24 : decode prog_13_method_43_code 24 = .ok (.ireturn, 1) := by decide +kernel
theorem d_Model_costBy_25 : decode prog_13_method_43_code 25 = .ok (.aload_n 0, 1) := by decide +kernel
theorem d_Model_costBy_26 : decode prog_13_method_43_code 26 = .ok (.iload 4, 2) := by decide +kernel
theorem d_Model_costBy_28 : decode prog_13_method_43_code 28 = .ok (.iload 5, 2) := by decide +kernel
theorem d_Model_costBy_30 : decode prog_13_method_43_code 30 = .ok (.iload_n 1, 1) := by decide +kernel
theorem d_Model_costBy_31 : decode prog_13_method_43_code 31 = .ok (.invokevirtual 160, 3) := by decide +kernel
theorem d_Model_costBy_34 : decode prog_13_method_43_code 34 = .ok (.iload 5, 2) := by decide +kernel
theorem d_Model_costBy_36 : decode prog_13_method_43_code 36 = .ok (.iload_n 3, 1) := by decide +kernel
theorem d_Model_costBy_37 : decode prog_13_method_43_code 37 = .ok (.if_icmp .eq 12, 3) := by decide +kernel
theorem d_Model_costBy_40 : decode prog_13_method_43_code 40 = .ok (.aload_n 0, 1) := by decide +kernel
theorem d_Model_costBy_41 : decode prog_13_method_43_code 41 = .ok (.getfield 7, 3) := by decide +kernel
theorem d_Model_costBy_44 : decode prog_13_method_43_code 44 = .ok (.iconst 4, 1) := by decide +kernel
theorem d_Model_costBy_45 : decode prog_13_method_43_code 45 = .ok (.iaload, 1) := by decide +kernel
theorem d_Model_costBy_46 : decode prog_13_method_43_code 46 = .ok (.goto 4, 3) := by decide +kernel
theorem d_Model_costBy_49 : decode prog_13_method_43_code 49 = .ok (.iconst 0, 1) := by decide +kernel
theorem d_Model_costBy_50 : decode prog_13_method_43_code 50 = .ok (.iadd, 1) := by decide +kernel
theorem d_Model_costBy_51 : decode prog_13_method_43_code 51 = .ok (.aload_n 0, 1) := by decide +kernel
theorem d_Model_costBy_52 : decode prog_13_method_43_code 52 = .ok (.iload_n 1, 1) := by decide +kernel
theorem d_Model_costBy_53 : decode prog_13_method_43_code 53 = .ok (.iconst 1, 1) := by decide +kernel
theorem d_Model_costBy_54 : decode prog_13_method_43_code 54 = .ok (.iadd, 1) := by decide +kernel
theorem d_Model_costBy_55 : decode prog_13_method_43_code 55 = .ok (.iload_n 2, 1) := by decide +kernel
theorem d_Model_costBy_56 : decode prog_13_method_43_code 56 = .ok (.iconst 1, 1) := by decide +kernel
theorem d_Model_costBy_57 : decode prog_13_method_43_code 57 = .ok (.iload 4, 2) := by decide +kernel
theorem d_Model_costBy_59 : decode prog_13_method_43_code 59 = .ok (.ishl, 1) := by decide +kernel
theorem d_Model_costBy_60 : decode prog_13_method_43_code 60 = .ok (.ior, 1) := by decide +kernel
theorem d_Model_costBy_61 : decode prog_13_method_43_code 61 = .ok (.iload 5, 2) := by decide +kernel
theorem d_Model_costBy_63 : decode prog_13_method_43_code 63 = .ok (.invokevirtual 187, 3) := by decide +kernel
theorem d_Model_costBy_66 : decode prog_13_method_43_code 66 = .ok (.iadd, 1) := by decide +kernel
theorem d_Model_costBy_67 : decode prog_13_method_43_code 67 = .ok (.ireturn, 1) := by decide +kernel
theorem d_Model_findLeast_0 : decode prog_13_method_44_code 0 = .ok (.iconst 1, 1) := by decide +kernel
theorem d_Model_findLeast_1 : decode prog_13_method_44_code 1 = .ok (.aload_n 0, 1) := by decide +kernel
theorem d_Model_findLeast_2 : decode prog_13_method_44_code 2 = .ok (.getfield 7, 3) := by decide +kernel
theorem d_Model_findLeast_5 : decode prog_13_method_44_code 5 = .ok (.bipush 9, 2) := by decide +kernel
theorem d_Model_findLeast_7 : decode prog_13_method_44_code 7 = .ok (.iaload, 1) := by decide +kernel
theorem d_Model_findLeast_8 : decode prog_13_method_44_code 8 = .ok (.ishl, 1) := by decide +kernel
theorem d_Model_findLeast_9 : decode prog_13_method_44_code 9 = .ok (.iconst 1, 1) := by decide +kernel
theorem d_Model_findLeast_10 : decode prog_13_method_44_code 10 = .ok (.isub, 1) := by decide +kernel
theorem d_Model_findLeast_11 : decode prog_13_method_44_code 11 = .ok (.istore_n 1, 1) := by decide +kernel
theorem d_Model_findLeast_12 : decode prog_13_method_44_code 12 = .ok (.bipush 24, 2) := by decide +kernel
theorem d_Model_findLeast_14 : decode prog_13_method_44_code 14 = .ok (.istore_n 2, 1) := by decide +kernel
theorem d_Model_findLeast_15 : decode prog_13_method_44_code 15 = .ok (.iload_n 2, 1) := by decide +kernel
theorem d_Model_findLeast_16 : decode prog_13_method_44_code 16 = .ok (.aload_n 0, 1) := by decide +kernel
theorem d_Model_findLeast_17 : decode prog_13_method_44_code 17 = .ok (.getfield 7, 3) := by decide +kernel
theorem d_Model_findLeast_20 : decode prog_13_method_44_code 20 = .ok (.iconst 1, 1) := by decide +kernel
theorem d_Model_findLeast_21 : decode prog_13_method_44_code 21 = .ok (.iaload, 1) := by decide +kernel
theorem d_Model_findLeast_22 : decode prog_13_method_44_code 22 = .ok (.if_icmp .lt 155, 3) := by decide +kernel
theorem d_Model_findLeast_25 : decode prog_13_method_44_code 25 = .ok (.iconst 0, 1) := by decide +kernel
theorem d_Model_findLeast_26 : decode prog_13_method_44_code 26 = .ok (.istore_n 3, 1) := by decide +kernel
theorem d_Model_findLeast_27 : decode prog_13_method_44_code 27 = .ok (.iload_n 3, 1) := by decide +kernel
theorem d_Model_findLeast_28 : decode prog_13_method_44_code 28 = .ok (.iconst 2, 1) := by decide +kernel
theorem d_Model_findLeast_29 : decode prog_13_method_44_code 29 = .ok (.iload_n 1, 1) := by decide +kernel
theorem d_Model_findLeast_30 : decode prog_13_method_44_code 30 = .ok (.imul, 1) := by decide +kernel
theorem d_Model_findLeast_31 : decode prog_13_method_44_code 31 = .ok (.iconst 1, 1) := by decide +kernel
theorem d_Model_findLeast_32 : decode prog_13_method_44_code 32 = .ok (.iadd, 1) := by decide +kernel
theorem d_Model_findLeast_33 : decode prog_13_method_44_code 33 = .ok (.if_icmp .gt 138, 3) := by decide +kernel
theorem d_Model_findLeast_36 : decode prog_13_method_44_code 36 = .ok (.iload_n 3, 1) := by decide +kernel
theorem d_Model_findLeast_37 : decode prog_13_method_44_code 37 = .ok (.iconst 1, 1) := by decide +kernel
theorem d_Model_findLeast_38 : decode prog_13_method_44_code 38 = .ok (.ishr, 1) := by decide +kernel
theorem d_Model_findLeast_39 : decode prog_13_method_44_code 39 = .ok (.istore 4, 2) := by decide +kernel
theorem d_Model_findLeast_41 : decode prog_13_method_44_code 41 = .ok (.iload_n 2, 1) := by decide +kernel
theorem d_Model_findLeast_42 : decode prog_13_method_44_code 42 = .ok (.bipush 24, 2) := by decide +kernel
theorem d_Model_findLeast_44 : decode prog_13_method_44_code 44 = .ok (.if_icmp .ne 19, 3) := by decide +kernel
theorem d_Model_findLeast_47 : decode prog_13_method_44_code 47 = .ok (.iload 4, 2) := by decide +kernel
theorem d_Model_findLeast_49 : decode prog_13_method_44_code 49 = .ok (.iload_n 1, 1) := by decide +kernel
theorem d_Model_findLeast_50 : decode prog_13_method_44_code 50 = .ok (.if_icmp .ne 7, 3) := by decide +kernel
theorem d_Model_findLeast_53 : decode prog_13_method_44_code 53 = .ok (.iconst 0, 1) := by decide +kernel
theorem d_Model_findLeast_54 : decode prog_13_method_44_code 54 = .ok (.goto 21, 3) := by decide +kernel
theorem d_Model_findLeast_57 : decode prog_13_method_44_code 57 = .ok (.sipush 9999, 3) := by decide +kernel
theorem d_Model_findLeast_60 : decode prog_13_method_44_code 60 = .ok (.goto 15, 3) := by decide +kernel
theorem d_Model_findLeast_63 : decode prog_13_method_44_code 63 = .ok (.aload_n 0, 1) := by decide +kernel
theorem d_Model_findLeast_64 : decode prog_13_method_44_code 64 = .ok (.iload_n 2, 1) := by decide +kernel
theorem d_Model_findLeast_65 : decode prog_13_method_44_code 65 = .ok (.iconst 1, 1) := by decide +kernel
theorem d_Model_findLeast_66 : decode prog_13_method_44_code 66 = .ok (.iadd, 1) := by decide +kernel
theorem d_Model_findLeast_67 : decode prog_13_method_44_code 67 = .ok (.iload 4, 2) := by decide +kernel
theorem d_Model_findLeast_69 : decode prog_13_method_44_code 69 = .ok (.iload_n 3, 1) := by decide +kernel
theorem d_Model_findLeast_70 : decode prog_13_method_44_code 70 = .ok (.iconst 1, 1) := by decide +kernel
theorem d_Model_findLeast_71 : decode prog_13_method_44_code 71 = .ok (.iand, 1) := by decide +kernel
theorem d_Model_findLeast_72 : decode prog_13_method_44_code 72 = .ok (.invokevirtual 187, 3) := by decide +kernel
theorem d_Model_findLeast_75 : decode prog_13_method_44_code 75 = .ok (.istore 5, 2) := by decide +kernel
theorem d_Model_findLeast_77 : decode prog_13_method_44_code 77 = .ok (.iconst 0, 1) := by decide +kernel
theorem d_Model_findLeast_78 : decode prog_13_method_44_code 78 = .ok (.istore 6, 2) := by decide +kernel
theorem d_Model_findLeast_80 : decode prog_13_method_44_code 80 = .ok (.iload 6, 2) := by decide +kernel
theorem d_Model_findLeast_82 : decode prog_13_method_44_code 82 = .ok (.aload_n 0, 1) := by decide +kernel
theorem d_Model_findLeast_83 : decode prog_13_method_44_code 83 = .ok (.getfield 7, 3) := by decide +kernel
theorem d_Model_findLeast_86 : decode prog_13_method_44_code 86 = .ok (.bipush 9, 2) := by decide +kernel
theorem d_Model_findLeast_88 : decode prog_13_method_44_code 88 = .ok (.iaload, 1) := by decide +kernel
theorem d_Model_findLeast_89 : decode prog_13_method_44_code 89 = .ok (.if_icmp .ge 62, 3) := by decide +kernel
theorem d_Model_findLeast_92 : decode prog_13_method_44_code 92 = .ok (.iload_n 2, 1) := by decide +kernel
theorem d_Model_findLeast_93 : decode prog_13_method_44_code 93 = .ok (.bipush 24, 2) := by decide +kernel
theorem d_Model_findLeast_95 : decode prog_13_method_44_code 95 = .ok (.if_icmp .ge 56, 3) := by decide +kernel
theorem d_Model_findLeast_98 : decode prog_13_method_44_code 98 = .ok (.iconst 0, 1) := by decide +kernel
theorem d_Model_findLeast_99 : decode prog_13_method_44_code 99 = .ok (.istore 7, 2) := by decide +kernel
theorem d_Model_findLeast_101 : decode prog_13_method_44_code 101 = .ok (.iload 7, 2) := by decide +kernel
theorem d_Model_findLeast_103 : decode prog_13_method_44_code 103 = .ok (.iconst 2, 1) := by decide +kernel
theorem d_Model_findLeast_104 : decode prog_13_method_44_code 104 = .ok (.if_icmp .ge 41, 3) := by decide +kernel
theorem d_Model_findLeast_107 : decode prog_13_method_44_code 107 = .ok (.aload_n 0, 1) := by decide +kernel
theorem d_Model_findLeast_108 : decode prog_13_method_44_code 108 = .ok (.iload_n 2, 1) := by decide +kernel
theorem d_Model_findLeast_109 : decode prog_13_method_44_code 109 = .ok (.iload 4, 2) := by decide +kernel
theorem d_Model_findLeast_111 : decode prog_13_method_44_code 111 = .ok (.iload_n 3, 1) := by decide +kernel
theorem d_Model_findLeast_112 : decode prog_13_method_44_code 112 = .ok (.iconst 1, 1) := by decide +kernel
theorem d_Model_findLeast_113 : decode prog_13_method_44_code 113 = .ok (.iand, 1) := by decide +kernel
theorem d_Model_findLeast_114 : decode prog_13_method_44_code 114 = .ok (.iload 6, 2) := by decide +kernel
theorem d_Model_findLeast_116 : decode prog_13_method_44_code 116 = .ok (.iload 7, 2) := by decide +kernel
theorem d_Model_findLeast_118 : decode prog_13_method_44_code 118 = .ok (.invokevirtual 190, 3) := by decide +kernel
theorem d_Model_findLeast_121 : decode prog_13_method_44_code 121 = .ok (.istore 8, 2) := by decide +kernel
theorem d_Model_findLeast_123 : decode prog_13_method_44_code 123 = .ok (.iload 8, 2) := by decide +kernel
theorem d_Model_findLeast_125 : decode prog_13_method_44_code 125 = .ok (.iload 5, 2) := by decide +kernel
theorem d_Model_findLeast_127 : decode prog_13_method_44_code 127 = .ok (.if_icmp .ge 8, 3) := by decide +kernel
theorem d_Model_findLeast_130 : decode prog_13_method_44_code 130 = .ok (.iload 8, 2) := by decide +kernel
theorem d_Model_findLeast_132 : decode prog_13_method_44_code 132 = .ok (.goto 5, 3) := by decide +kernel
theorem d_Model_findLeast_135 : decode prog_13_method_44_code 135 = .ok (.iload 5, 2) := by decide +kernel
theorem d_Model_findLeast_137 : decode prog_13_method_44_code 137 = .ok (.istore 5, 2) := by decide +kernel
theorem d_Model_findLeast_139 : decode prog_13_method_44_code 139 = .ok (.iinc 7 1, 3) := by decide +kernel
theorem d_Model_findLeast_142 : decode prog_13_method_44_code 142 = .ok (.goto (-41), 3) := by decide +kernel
theorem d_Model_findLeast_145 : decode prog_13_method_44_code 145 = .ok (.iinc 6 1, 3) := by decide +kernel
theorem d_Model_findLeast_148 : decode prog_13_method_44_code 148 = .ok (.goto (-68), 3) := by decide +kernel
theorem d_Model_findLeast_151 : decode prog_13_method_44_code 151 = .ok (.aload_n 0, 1) := by decide +kernel
theorem d_Model_findLeast_152 : decode prog_13_method_44_code 152 = .ok (.getfield 29, 3) := by decide +kernel
theorem d_Model_findLeast_155 : decode prog_13_method_44_code 155 = .ok (.sipush 128, 3) := by decide +kernel
theorem d_Model_findLeast_158 : decode prog_13_method_44_code 158 = .ok (.iload_n 2, 1) := by decide +kernel
theorem d_Model_findLeast_159 : decode prog_13_method_44_code 159 = .ok (.imul, 1) := by decide +kernel
theorem d_Model_findLeast_160 : decode prog_13_method_44_code 160 = .ok (.iload_n 3, 1) := by decide +kernel
theorem d_Model_findLeast_161 : decode prog_13_method_44_code 161 = .ok (.iadd, 1) := by decide +kernel
theorem d_Model_findLeast_162 : decode prog_13_method_44_code 162 = .ok (.iload 5, 2) := by decide +kernel
theorem d_Model_findLeast_164 : decode prog_13_method_44_code 164 = .ok (.iastore, 1) := by decide +kernel
theorem d_Model_findLeast_165 : decode prog_13_method_44_code 165 = .ok (.iinc 3 1, 3) := by decide +kernel
theorem d_Model_findLeast_168 : decode prog_13_method_44_code 168 = .ok (.goto (-141), 3) := by decide +kernel
theorem d_Model_findLeast_171 : decode prog_13_method_44_code 171 = .ok (.iinc 2 (-1), 3) := by decide +kernel
theorem d_Model_findLeast_174 : decode prog_13_method_44_code 174 = .ok (.goto (-159), 3) := by decide +kernel
theorem d_Model_findLeast_177 : decode prog_13_method_44_code 177 = .ok (.return_, 1) := by decide +kernel
theorem d_Model_least_0 : decode prog_13_method_45_code 0 = .ok (.iload_n 1, 1) := by decide +kernel
theorem d_Model_least_1 : decode prog_13_method_45_code 1 = .ok (.iconst (-1), 1) := by decide +kernel
theorem d_Model_least_2 : decode prog_13_method_45_code 2 = .ok (.if_icmp .eq 19, 3) := by decide +kernel
theorem d_Model_least_5 : decode prog_13_method_45_code 5 = .ok (.aload_n 0, 1) := by decide +kernel
theorem d_Model_least_6 : decode prog_13_method_45_code 6 = .ok (.iload_n 1, 1) := by decide +kernel
theorem d_Model_least_7 : decode prog_13_method_45_code 7 = .ok (.invokevirtual 164, 3) := by decide +kernel
theorem d_Model_least_10 : decode prog_13_method_45_code 10 = .ok (.ifCond .ne 11, 3) := by decide +kernel
theorem d_Model_least_13 : decode prog_13_method_45_code 13 = .ok (.aload_n 0, 1) := by decide +kernel
theorem d_Model_least_14 : decode prog_13_method_45_code 14 = .ok (.invokevirtual 64, 3) := by decide +kernel
theorem d_Model_least_17 : decode prog_13_method_45_code 17 = .ok (.pop, 1) := by decide +kernel
theorem d_Model_least_18 : decode prog_13_method_45_code 18 = .ok (.bipush (-10), 2) := by decide +kernel
theorem d_Model_least_20 : decode prog_13_method_45_code 20 = .ok (.ireturn, 1) := by decide +kernel
theorem d_Model_least_21 : decode prog_13_method_45_code 21 = .ok (.aload_n 0, 1) := by decide +kernel
theorem d_Model_least_22 : decode prog_13_method_45_code 22 = .ok (.invokevirtual 193, 3) := by decide +kernel
theorem d_Model_least_25 : decode prog_13_method_45_code 25 = .ok (.aload_n 0, 1) := by decide +kernel
theorem d_Model_least_26 : decode prog_13_method_45_code 26 = .ok (.aload_n 0, 1) := by decide +kernel
theorem d_Model_least_27 : decode prog_13_method_45_code 27 = .ok (.getfield 7, 3) := by decide +kernel
theorem d_Model_least_30 : decode prog_13_method_45_code 30 = .ok (.iconst 1, 1) := by decide +kernel
theorem d_Model_least_31 : decode prog_13_method_45_code 31 = .ok (.iaload, 1) := by decide +kernel
theorem d_Model_least_32 : decode prog_13_method_45_code 32 = .ok (.iconst 0, 1) := by decide +kernel
theorem d_Model_least_33 : decode prog_13_method_45_code 33 = .ok (.aload_n 0, 1) := by decide +kernel
theorem d_Model_least_34 : decode prog_13_method_45_code 34 = .ok (.getfield 7, 3) := by decide +kernel
theorem d_Model_least_37 : decode prog_13_method_45_code 37 = .ok (.iconst 0, 1) := by decide +kernel
theorem d_Model_least_38 : decode prog_13_method_45_code 38 = .ok (.iaload, 1) := by decide +kernel
theorem d_Model_least_39 : decode prog_13_method_45_code 39 = .ok (.invokevirtual 187, 3) := by decide +kernel
theorem d_Model_least_42 : decode prog_13_method_45_code 42 = .ok (.istore_n 2, 1) := by decide +kernel
theorem d_Model_least_43 : decode prog_13_method_45_code 43 = .ok (.iload_n 2, 1) := by decide +kernel
theorem d_Model_least_44 : decode prog_13_method_45_code 44 = .ok (.sipush 9999, 3) := by decide +kernel
theorem d_Model_least_47 : decode prog_13_method_45_code 47 = .ok (.if_icmp .lt 5, 3) := by decide +kernel
theorem d_Model_least_50 : decode prog_13_method_45_code 50 = .ok (.iconst (-1), 1) := by decide +kernel
theorem d_Model_least_51 : decode prog_13_method_45_code 51 = .ok (.ireturn, 1) := by decide +kernel
theorem d_Model_least_52 : decode prog_13_method_45_code 52 = .ok (.iload_n 1, 1) := by decide +kernel
theorem d_Model_least_53 : decode prog_13_method_45_code 53 = .ok (.ifCond .ge 5, 3) := by decide +kernel
theorem d_Model_least_56 : decode prog_13_method_45_code 56 = .ok (.iload_n 2, 1) := by decide +kernel
theorem d_Model_least_57 : decode prog_13_method_45_code 57 = .ok (.ireturn, 1) := by decide +kernel
theorem d_Model_least_58 : decode prog_13_method_45_code 58 = .ok (.iconst 0, 1) := by decide +kernel
theorem d_Model_least_59 : decode prog_13_method_45_code 59 = .ok (.istore_n 3, 1) := by decide +kernel
theorem d_Model_least_60 : decode prog_13_method_45_code 60 = .ok (.aload_n 0, 1) := by decide +kernel
theorem d_Model_least_61 : decode prog_13_method_45_code 61 = .ok (.getfield 7, 3) := by decide +kernel
theorem d_Model_least_64 : decode prog_13_method_45_code 64 = .ok (.iconst 0, 1) := by decide +kernel
theorem d_Model_least_65 : decode prog_13_method_45_code 65 = .ok (.iaload, 1) := by decide +kernel
theorem d_Model_least_66 : decode prog_13_method_45_code 66 = .ok (.istore 4, 2) := by decide +kernel
theorem d_Model_least_68 : decode prog_13_method_45_code 68 = .ok (.aload_n 0, 1) := by decide +kernel
theorem d_Model_least_69 : decode prog_13_method_45_code 69 = .ok (.getfield 7, 3) := by decide +kernel
theorem d_Model_least_72 : decode prog_13_method_45_code 72 = .ok (.iconst 1, 1) := by decide +kernel
theorem d_Model_least_73 : decode prog_13_method_45_code 73 = .ok (.iaload, 1) := by decide +kernel
theorem d_Model_least_74 : decode prog_13_method_45_code 74 = .ok (.istore 5, 2) := by decide +kernel
theorem d_Model_least_76 : decode prog_13_method_45_code 76 = .ok (.iload_n 3, 1) := by decide +kernel
theorem d_Model_least_77 : decode prog_13_method_45_code 77 = .ok (.iload_n 1, 1) := by decide +kernel
theorem d_Model_least_78 : decode prog_13_method_45_code 78 = .ok (.invokestatic 150, 3) := by decide +kernel
theorem d_Model_least_81 : decode prog_13_method_45_code 81 = .ok (.ifCond .ne 79, 3) := by decide +kernel
theorem d_Model_least_84 : decode prog_13_method_45_code 84 = .ok (.aload_n 0, 1) := by decide +kernel
theorem d_Model_least_85 : decode prog_13_method_45_code 85 = .ok (.iload 5, 2) := by decide +kernel
theorem d_Model_least_87 : decode prog_13_method_45_code 87 = .ok (.iload_n 3, 1) := by decide +kernel
theorem d_Model_least_88 : decode prog_13_method_45_code 88 = .ok (.iload 4, 2) := by decide +kernel
theorem d_Model_least_90 : decode prog_13_method_45_code 90 = .ok (.invokevirtual 187, 3) := by decide +kernel
theorem d_Model_least_93 : decode prog_13_method_45_code 93 = .ok (.istore_n 2, 1) := by decide +kernel
theorem d_Model_least_94 : decode prog_13_method_45_code 94 = .ok (.aload_n 0, 1) := by decide +kernel
theorem d_Model_least_95 : decode prog_13_method_45_code 95 = .ok (.iload 5, 2) := by decide +kernel
theorem d_Model_least_97 : decode prog_13_method_45_code 97 = .ok (.iconst 1, 1) := by decide +kernel
theorem d_Model_least_98 : decode prog_13_method_45_code 98 = .ok (.iadd, 1) := by decide +kernel
theorem d_Model_least_99 : decode prog_13_method_45_code 99 = .ok (.iload_n 3, 1) := by decide +kernel
theorem d_Model_least_100 : decode prog_13_method_45_code 100 = .ok (.iload 4, 2) := by decide +kernel
theorem d_Model_least_102 : decode prog_13_method_45_code 102 = .ok (.invokevirtual 187, 3) := by decide +kernel
theorem d_Model_least_105 : decode prog_13_method_45_code 105 = .ok (.iload_n 2, 1) := by decide +kernel
theorem d_Model_least_106 : decode prog_13_method_45_code 106 = .ok (.if_icmp .eq 48, 3) := by decide +kernel
theorem d_Model_least_109 : decode prog_13_method_45_code 109 = .ok (.iconst 0, 1) := by decide +kernel
theorem d_Model_least_110 : decode prog_13_method_45_code 110 = .ok (.istore 6, 2) := by decide +kernel
theorem d_Model_least_112 : decode prog_13_method_45_code 112 = .ok (.aload_n 0, 1) := by decide +kernel
theorem d_Model_least_113 : decode prog_13_method_45_code 113 = .ok (.iload 5, 2) := by decide +kernel
theorem d_Model_least_115 : decode prog_13_method_45_code 115 = .ok (.iload_n 3, 1) := by decide +kernel
theorem d_Model_least_116 : decode prog_13_method_45_code 116 = .ok (.iload 4, 2) := by decide +kernel
theorem d_Model_least_118 : decode prog_13_method_45_code 118 = .ok (.iload 6, 2) := by decide +kernel
theorem d_Model_least_120 : decode prog_13_method_45_code 120 = .ok (.iconst 2, 1) := by decide +kernel
theorem d_Model_least_121 : decode prog_13_method_45_code 121 = .ok (.idiv, 1) := by decide +kernel
theorem d_Model_least_122 : decode prog_13_method_45_code 122 = .ok (.iload 6, 2) := by decide +kernel
theorem d_Model_least_124 : decode prog_13_method_45_code 124 = .ok (.iconst 2, 1) := by decide +kernel
theorem d_Model_least_125 : decode prog_13_method_45_code 125 = .ok (.irem, 1) := by decide +kernel
theorem d_Model_least_126 : decode prog_13_method_45_code 126 = .ok (.invokevirtual 190, 3) := by decide +kernel
theorem d_Model_least_129 : decode prog_13_method_45_code 129 = .ok (.iload_n 2, 1) := by decide +kernel
theorem d_Model_least_130 : decode prog_13_method_45_code 130 = .ok (.if_icmp .eq 9, 3) := by decide +kernel
theorem d_Model_least_133 : decode prog_13_method_45_code 133 = .ok (.iinc 6 1, 3) := by decide +kernel
theorem d_Model_least_136 : decode prog_13_method_45_code 136 = .ok (.goto (-24), 3) := by decide +kernel
theorem d_Model_least_139 : decode prog_13_method_45_code 139 = .ok (.iload_n 3, 1) := by decide +kernel
theorem d_Model_least_140 : decode prog_13_method_45_code 140 = .ok (.iconst 1, 1) := by decide +kernel
theorem d_Model_least_141 : decode prog_13_method_45_code 141 = .ok (.iload 6, 2) := by decide +kernel
theorem d_Model_least_143 : decode prog_13_method_45_code 143 = .ok (.iconst 2, 1) := by decide +kernel
theorem d_Model_least_144 : decode prog_13_method_45_code 144 = .ok (.idiv, 1) := by decide +kernel
theorem d_Model_least_145 : decode prog_13_method_45_code 145 = .ok (.ishl, 1) := by decide +kernel
theorem d_Model_least_146 : decode prog_13_method_45_code 146 = .ok (.ior, 1) := by decide +kernel
theorem d_Model_least_147 : decode prog_13_method_45_code 147 = .ok (.istore_n 3, 1) := by decide +kernel
theorem d_Model_least_148 : decode prog_13_method_45_code 148 = .ok (.iload 6, 2) := by decide +kernel
theorem d_Model_least_150 : decode prog_13_method_45_code 150 = .ok (.iconst 2, 1) := by decide +kernel
theorem d_Model_least_151 : decode prog_13_method_45_code 151 = .ok (.irem, 1) := by decide +kernel
theorem d_Model_least_152 : decode prog_13_method_45_code 152 = .ok (.istore 4, 2) := by decide +kernel
theorem d_Model_least_154 : decode prog_13_method_45_code 154 = .ok (.iinc 5 1, 3) := by decide +kernel
theorem d_Model_least_157 : decode prog_13_method_45_code 157 = .ok (.goto (-81), 3) := by decide +kernel
theorem d_Model_least_160 : decode prog_13_method_45_code 160 = .ok (.bipush 10, 2) := by decide +kernel
theorem d_Model_least_162 : decode prog_13_method_45_code 162 = .ok (.iload 5, 2) := by decide +kernel
theorem d_Model_least_164 : decode prog_13_method_45_code 164 = .ok (.iconst 1, 1) := by decide +kernel
theorem d_Model_least_165 : decode prog_13_method_45_code 165 = .ok (.isub, 1) := by decide +kernel
theorem d_Model_least_166 : decode prog_13_method_45_code 166 = .ok (.imul, 1) := by decide +kernel
theorem d_Model_least_167 : decode prog_13_method_45_code 167 = .ok (.iload 4, 2) := by decide +kernel
theorem d_Model_least_169 : decode prog_13_method_45_code 169 = .ok (.iadd, 1) := by decide +kernel
theorem d_Model_least_170 : decode prog_13_method_45_code 170 = .ok (.ireturn, 1) := by decide +kernel
theorem d_Model_before_0 : decode prog_13_method_46_code 0 = .ok (.iload_n 1, 1) := by decide +kernel
theorem d_Model_before_1 : decode prog_13_method_46_code 1 = .ok (.invokestatic 68, 3) := by decide +kernel
theorem d_Model_before_4 : decode prog_13_method_46_code 4 = .ok (.ifCond .eq 25, 3) := by decide +kernel
theorem d_Model_before_7 : decode prog_13_method_46_code 7 = .ok (.iload_n 2, 1) := by decide +kernel
theorem d_Model_before_8 : decode prog_13_method_46_code 8 = .ok (.invokestatic 184, 3) := by decide +kernel
theorem d_Model_before_11 : decode prog_13_method_46_code 11 = .ok (.ifCond .eq 18, 3) := by decide +kernel
theorem d_Model_before_14 : decode prog_13_method_46_code 14 = .ok (.iload_n 3, 1) := by decide +kernel
theorem d_Model_before_15 : decode prog_13_method_46_code 15 = .ok (.invokestatic 68, 3) := by decide +kernel
theorem d_Model_before_18 : decode prog_13_method_46_code 18 = .ok (.ifCond .eq 11, 3) := by decide +kernel
theorem d_Model_before_21 : decode prog_13_method_46_code 21 = .ok (.iload 4, 2) := by decide +kernel
theorem d_Model_before_23 : decode prog_13_method_46_code 23 = .ok (.invokestatic 184, 3) := by decide +kernel
theorem d_Model_before_26 : decode prog_13_method_46_code 26 = .ok (.ifCond .ne 8, 3) := by decide +kernel
theorem d_Model_before_29 : decode prog_13_method_46_code 29 = .ok (.aload_n 0, 1) := by decide +kernel
theorem d_Model_before_30 : decode prog_13_method_46_code 30 = .ok (.invokevirtual 64, 3) := by decide +kernel
theorem d_Model_before_33 : decode prog_13_method_46_code 33 = .ok (.ireturn, 1) := by decide +kernel
theorem d_Model_before_34 : decode prog_13_method_46_code 34 = .ok (.iload_n 2, 1) := by decide +kernel
theorem d_Model_before_35 : decode prog_13_method_46_code 35 = .ok (.bipush 24, 2) := by decide +kernel
theorem d_Model_before_37 : decode prog_13_method_46_code 37 = .ok (.iadd, 1) := by decide +kernel
theorem d_Model_before_38 : decode prog_13_method_46_code 38 = .ok (.iload_n 1, 1) := by decide +kernel
theorem d_Model_before_39 : decode prog_13_method_46_code 39 = .ok (.isub, 1) := by decide +kernel
theorem d_Model_before_40 : decode prog_13_method_46_code 40 = .ok (.bipush 24, 2) := by decide +kernel
theorem d_Model_before_42 : decode prog_13_method_46_code 42 = .ok (.irem, 1) := by decide +kernel
theorem d_Model_before_43 : decode prog_13_method_46_code 43 = .ok (.istore 5, 2) := by decide +kernel
theorem d_Model_before_45 : decode prog_13_method_46_code 45 = .ok (.iload 4, 2) := by decide +kernel
theorem d_Model_before_47 : decode prog_13_method_46_code 47 = .ok (.bipush 24, 2) := by decide +kernel
theorem d_Model_before_49 : decode prog_13_method_46_code 49 = .ok (.iadd, 1) := by decide +kernel
theorem d_Model_before_50 : decode prog_13_method_46_code 50 = .ok (.iload_n 3, 1) := by decide +kernel
theorem d_Model_before_51 : decode prog_13_method_46_code 51 = .ok (.isub, 1) := by decide +kernel
theorem d_Model_before_52 : decode prog_13_method_46_code 52 = .ok (.bipush 24, 2) := by decide +kernel
theorem d_Model_before_54 : decode prog_13_method_46_code 54 = .ok (.irem, 1) := by decide +kernel
theorem d_Model_before_55 : decode prog_13_method_46_code 55 = .ok (.istore 6, 2) := by decide +kernel
theorem d_Model_before_57 : decode prog_13_method_46_code 57 = .ok (.iload 5, 2) := by decide +kernel
theorem d_Model_before_59 : decode prog_13_method_46_code 59 = .ok (.iload 6, 2) := by decide +kernel
theorem d_Model_before_61 : decode prog_13_method_46_code 61 = .ok (.if_icmp .ge 7, 3) := by decide +kernel
theorem d_Model_before_64 : decode prog_13_method_46_code 64 = .ok (.iconst 1, 1) := by decide +kernel
theorem d_Model_before_65 : decode prog_13_method_46_code 65 = .ok (.goto 15, 3) := by decide +kernel
theorem d_Model_before_68 : decode prog_13_method_46_code 68 = .ok (.iload 5, 2) := by decide +kernel
theorem d_Model_before_70 : decode prog_13_method_46_code 70 = .ok (.iload 6, 2) := by decide +kernel
theorem d_Model_before_72 : decode prog_13_method_46_code 72 = .ok (.if_icmp .ne 7, 3) := by decide +kernel
theorem d_Model_before_75 : decode prog_13_method_46_code 75 = .ok (.iconst 0, 1) := by decide +kernel
theorem d_Model_before_76 : decode prog_13_method_46_code 76 = .ok (.goto 4, 3) := by decide +kernel
theorem d_Model_before_79 : decode prog_13_method_46_code 79 = .ok (.iconst 2, 1) := by decide +kernel
theorem d_Model_before_80 : decode prog_13_method_46_code 80 = .ok (.ireturn, 1) := by decide +kernel
theorem d_Model_hersOf_0 : decode prog_13_method_47_code 0 = .ok (.iload_n 0, 1) := by decide +kernel
theorem d_Model_hersOf_1 : decode prog_13_method_47_code 1 = .ok (.iconst 4, 1) := by decide +kernel
theorem d_Model_hersOf_2 : decode prog_13_method_47_code 2 = .ok (.if_icmp .le 7, 3) := by decide +kernel
theorem d_Model_hersOf_5 : decode prog_13_method_47_code 5 = .ok (.iconst 3, 1) := by decide +kernel
theorem d_Model_hersOf_6 : decode prog_13_method_47_code 6 = .ok (.goto 15, 3) := by decide +kernel
theorem d_Model_hersOf_9 : decode prog_13_method_47_code 9 = .ok (.iload_n 0, 1) := by decide +kernel
theorem d_Model_hersOf_10 : decode prog_13_method_47_code 10 = .ok (.iconst 3, 1) := by decide +kernel
theorem d_Model_hersOf_11 : decode prog_13_method_47_code 11 = .ok (.if_icmp .ge 7, 3) := by decide +kernel
theorem d_Model_hersOf_14 : decode prog_13_method_47_code 14 = .ok (.iconst 0, 1) := by decide +kernel
theorem d_Model_hersOf_15 : decode prog_13_method_47_code 15 = .ok (.goto 6, 3) := by decide +kernel
theorem d_Model_hersOf_18 : decode prog_13_method_47_code 18 = .ok (.iload_n 0, 1) := by decide +kernel
theorem d_Model_hersOf_19 : decode prog_13_method_47_code 19 = .ok (.iconst 2, 1) := by decide +kernel
theorem d_Model_hersOf_20 : decode prog_13_method_47_code 20 = .ok (.isub, 1) := by decide +kernel
theorem d_Model_hersOf_21 : decode prog_13_method_47_code 21 = .ok (.ireturn, 1) := by decide +kernel
theorem d_Model_setFraction_0 : decode prog_13_method_48_code 0 = .ok (.lload_n 1, 1) := by decide +kernel
theorem d_Model_setFraction_1 : decode prog_13_method_48_code 1 = .ok (.lstore 5, 2) := by decide +kernel
theorem d_Model_setFraction_3 : decode prog_13_method_48_code 3 = .ok (.lload_n 3, 1) := by decide +kernel
theorem d_Model_setFraction_4 : decode prog_13_method_48_code 4 = .ok (.lstore 7, 2) := by decide +kernel
theorem d_Model_setFraction_6 : decode prog_13_method_48_code 6 = .ok (.lload 7, 2) := by decide +kernel
theorem d_Model_setFraction_8 : decode prog_13_method_48_code 8 = .ok (.lconst 0, 1) := by decide +kernel
theorem d_Model_setFraction_9 : decode prog_13_method_48_code 9 = .ok (.lcmp, 1) := by decide +kernel
theorem d_Model_setFraction_10 : decode prog_13_method_48_code 10 = .ok (.ifCond .eq 21, 3) := by decide +kernel
theorem d_Model_setFraction_13 : decode prog_13_method_48_code 13 = .ok (.lload 5, 2) := by decide +kernel
theorem d_Model_setFraction_15 : decode prog_13_method_48_code 15 = .ok (.lload 7, 2) := by decide +kernel
theorem d_Model_setFraction_17 : decode prog_13_method_48_code 17 = .ok (.lrem, 1) := by decide +kernel
theorem d_Model_setFraction_18 : decode prog_13_method_48_code 18 = .ok (.lstore 9, 2) := by decide +kernel
theorem d_Model_setFraction_20 : decode prog_13_method_48_code 20 = .ok (.lload 7, 2) := by decide +kernel
theorem d_Model_setFraction_22 : decode prog_13_method_48_code 22 = .ok (.lstore 5, 2) := by decide +kernel
theorem d_Model_setFraction_24 : decode prog_13_method_48_code 24 = .ok (.lload 9, 2) := by decide +kernel
theorem d_Model_setFraction_26 : decode prog_13_method_48_code 26 = .ok (.lstore 7, 2) := by decide +kernel
theorem d_Model_setFraction_28 : decode prog_13_method_48_code 28 = .ok (.goto (-22), 3) := by decide +kernel
theorem d_Model_setFraction_31 : decode prog_13_method_48_code 31 = .ok (.aload_n 0, 1) := by decide +kernel
theorem d_Model_setFraction_32 : decode prog_13_method_48_code 32 = .ok (.lload_n 1, 1) := by decide +kernel
theorem d_Model_setFraction_33 : decode prog_13_method_48_code 33 = .ok (.lload 5, 2) := by decide +kernel
theorem d_Model_setFraction_35 : decode prog_13_method_48_code 35 = .ok (.ldiv, 1) := by decide +kernel
theorem d_Model_setFraction_36 : decode prog_13_method_48_code 36 = .ok (.putfield 196, 3) := by decide +kernel
theorem d_Model_setFraction_39 : decode prog_13_method_48_code 39 = .ok (.aload_n 0, 1) := by decide +kernel
theorem d_Model_setFraction_40 : decode prog_13_method_48_code 40 = .ok (.lload_n 3, 1) := by decide +kernel
theorem d_Model_setFraction_41 : decode prog_13_method_48_code 41 = .ok (.lload 5, 2) := by decide +kernel
theorem d_Model_setFraction_43 : decode prog_13_method_48_code 43 = .ok (.ldiv, 1) := by decide +kernel
theorem d_Model_setFraction_44 : decode prog_13_method_48_code 44 = .ok (.putfield 13, 3) := by decide +kernel
theorem d_Model_setFraction_47 : decode prog_13_method_48_code 47 = .ok (.return_, 1) := by decide +kernel
theorem d_Model_child_0 : decode prog_13_method_49_code 0 = .ok (.iload_n 1, 1) := by decide +kernel
theorem d_Model_child_1 : decode prog_13_method_49_code 1 = .ok (.i2l, 1) := by decide +kernel
theorem d_Model_child_2 : decode prog_13_method_49_code 2 = .ok (.lconst 0, 1) := by decide +kernel
theorem d_Model_child_3 : decode prog_13_method_49_code 3 = .ok (.ldc2_w 199, 3) := by decide +kernel
theorem d_Model_child_6 : decode prog_13_method_49_code 6 = .ok (.invokestatic 52, 3) := by decide +kernel
theorem d_Model_child_9 : decode prog_13_method_49_code 9 = .ok (.ifCond .ne 8, 3) := by decide +kernel
theorem d_Model_child_12 : decode prog_13_method_49_code 12 = .ok (.aload_n 0, 1) := by decide +kernel
theorem d_Model_child_13 : decode prog_13_method_49_code 13 = .ok (.invokevirtual 64, 3) := by decide +kernel
theorem d_Model_child_16 : decode prog_13_method_49_code 16 = .ok (.ireturn, 1) := by decide +kernel
theorem d_Model_child_17 : decode prog_13_method_49_code 17 = .ok (.aload_n 0, 1) := by decide +kernel
theorem d_Model_child_18 : decode prog_13_method_49_code 18 = .ok (.iload_n 1, 1) := by decide +kernel
theorem d_Model_child_19 : decode prog_13_method_49_code 19 = .ok (.invokestatic 201, 3) := by decide +kernel
theorem d_Model_child_22 : decode prog_13_method_49_code 22 = .ok (.i2l, 1) := by decide +kernel
theorem d_Model_child_23 : decode prog_13_method_49_code 23 = .ok (.ldc2_w 182, 3) := by decide +kernel
theorem d_Model_child_26 : decode prog_13_method_49_code 26 = .ok (.invokevirtual 204, 3) := by decide +kernel
theorem d_Model_child_29 : decode prog_13_method_49_code 29 = .ok (.iconst 1, 1) := by decide +kernel
theorem d_Model_child_30 : decode prog_13_method_49_code 30 = .ok (.ireturn, 1) := by decide +kernel
theorem d_Model_where_0 : decode prog_13_method_50_code 0 = .ok (.aload_n 0, 1) := by decide +kernel
theorem d_Model_where_1 : decode prog_13_method_50_code 1 = .ok (.iload_n 1, 1) := by decide +kernel
theorem d_Model_where_2 : decode prog_13_method_50_code 2 = .ok (.invokevirtual 164, 3) := by decide +kernel
theorem d_Model_where_5 : decode prog_13_method_50_code 5 = .ok (.ifCond .ne 8, 3) := by decide +kernel
theorem d_Model_where_8 : decode prog_13_method_50_code 8 = .ok (.aload_n 0, 1) := by decide +kernel
theorem d_Model_where_9 : decode prog_13_method_50_code 9 = .ok (.invokevirtual 64, 3) := by decide +kernel
theorem d_Model_where_12 : decode prog_13_method_50_code 12 = .ok (.ireturn, 1) := by decide +kernel
theorem d_Model_where_13 : decode prog_13_method_50_code 13 = .ok (.aload_n 0, 1) := by decide +kernel
theorem d_Model_where_14 : decode prog_13_method_50_code 14 = .ok (.iload_n 1, 1) := by decide +kernel
theorem d_Model_where_15 : decode prog_13_method_50_code 15 = .ok (.iconst 0, 1) := by decide +kernel
theorem d_Model_where_16 : decode prog_13_method_50_code 16 = .ok (.aload_n 0, 1) := by decide +kernel
theorem d_Model_where_17 : decode prog_13_method_50_code 17 = .ok (.getfield 7, 3) := by decide +kernel
theorem d_Model_where_20 : decode prog_13_method_50_code 20 = .ok (.iconst 1, 1) := by decide +kernel
theorem d_Model_where_21 : decode prog_13_method_50_code 21 = .ok (.iaload, 1) := by decide +kernel
theorem d_Model_where_22 : decode prog_13_method_50_code 22 = .ok (.invokevirtual 167, 3) := by decide +kernel
theorem d_Model_where_25 : decode prog_13_method_50_code 25 = .ok (.ifCond .eq 18, 3) := by decide +kernel
theorem d_Model_where_28 : decode prog_13_method_50_code 28 = .ok (.aload_n 0, 1) := by decide +kernel
theorem d_Model_where_29 : decode prog_13_method_50_code 29 = .ok (.iload_n 1, 1) := by decide +kernel
theorem d_Model_where_30 : decode prog_13_method_50_code 30 = .ok (.iconst 0, 1) := by decide +kernel
theorem d_Model_where_31 : decode prog_13_method_50_code 31 = .ok (.aload_n 0, 1) := by decide +kernel
theorem d_Model_where_32 : decode prog_13_method_50_code 32 = .ok (.getfield 7, 3) := by decide +kernel
theorem d_Model_where_35 : decode prog_13_method_50_code 35 = .ok (.iconst 1, 1) := by decide +kernel
theorem d_Model_where_36 : decode prog_13_method_50_code 36 = .ok (.iaload, 1) := by decide +kernel
theorem d_Model_where_37 : decode prog_13_method_50_code 37 = .ok (.invokevirtual 160, 3) := by decide +kernel
theorem d_Model_where_40 : decode prog_13_method_50_code 40 = .ok (.goto 5, 3) := by decide +kernel
theorem d_Model_where_43 : decode prog_13_method_50_code 43 = .ok (.bipush 99, 2) := by decide +kernel
theorem d_Model_where_45 : decode prog_13_method_50_code 45 = .ok (.istore_n 2, 1) := by decide +kernel
theorem d_Model_where_46 : decode prog_13_method_50_code 46 = .ok (.aload_n 0, 1) := by decide +kernel
theorem d_Model_where_47 : decode prog_13_method_50_code 47 = .ok (.iload_n 1, 1) := by decide +kernel
theorem d_Model_where_48 : decode prog_13_method_50_code 48 = .ok (.iconst 1, 1) := by decide +kernel
theorem d_Model_where_49 : decode prog_13_method_50_code 49 = .ok (.aload_n 0, 1) := by decide +kernel
theorem d_Model_where_50 : decode prog_13_method_50_code 50 = .ok (.getfield 7, 3) := by decide +kernel
theorem d_Model_where_53 : decode prog_13_method_50_code 53 = .ok (.iconst 1, 1) := by decide +kernel
theorem d_Model_where_54 : decode prog_13_method_50_code 54 = .ok (.iaload, 1) := by decide +kernel
theorem d_Model_where_55 : decode prog_13_method_50_code 55 = .ok (.invokevirtual 167, 3) := by decide +kernel
theorem d_Model_where_58 : decode prog_13_method_50_code 58 = .ok (.ifCond .eq 18, 3) := by decide +kernel
theorem d_Model_where_61 : decode prog_13_method_50_code 61 = .ok (.aload_n 0, 1) := by decide +kernel
theorem d_Model_where_62 : decode prog_13_method_50_code 62 = .ok (.iload_n 1, 1) := by decide +kernel
theorem d_Model_where_63 : decode prog_13_method_50_code 63 = .ok (.iconst 1, 1) := by decide +kernel
theorem d_Model_where_64 : decode prog_13_method_50_code 64 = .ok (.aload_n 0, 1) := by decide +kernel
theorem d_Model_where_65 : decode prog_13_method_50_code 65 = .ok (.getfield 7, 3) := by decide +kernel
theorem d_Model_where_68 : decode prog_13_method_50_code 68 = .ok (.iconst 1, 1) := by decide +kernel
theorem d_Model_where_69 : decode prog_13_method_50_code 69 = .ok (.iaload, 1) := by decide +kernel
theorem d_Model_where_70 : decode prog_13_method_50_code 70 = .ok (.invokevirtual 160, 3) := by decide +kernel
theorem d_Model_where_73 : decode prog_13_method_50_code 73 = .ok (.goto 5, 3) := by decide +kernel
theorem d_Model_where_76 : decode prog_13_method_50_code 76 = .ok (.bipush 99, 2) := by decide +kernel
theorem d_Model_where_78 : decode prog_13_method_50_code 78 = .ok (.istore_n 3, 1) := by decide +kernel
theorem d_Model_where_79 : decode prog_13_method_50_code 79 = .ok (.iconst 0, 1) := by decide +kernel
theorem d_Model_where_80 : decode prog_13_method_50_code 80 = .ok (.istore 4, 2) := by decide +kernel
theorem d_Model_where_82 : decode prog_13_method_50_code 82 = .ok (.iconst 3, 1) := by decide +kernel
theorem d_Model_where_83 : decode prog_13_method_50_code 83 = .ok (.iload_n 2, 1) := by decide +kernel
theorem d_Model_where_84 : decode prog_13_method_50_code 84 = .ok (.imul, 1) := by decide +kernel
theorem d_Model_where_85 : decode prog_13_method_50_code 85 = .ok (.istore 5, 2) := by decide +kernel
theorem d_Model_where_87 : decode prog_13_method_50_code 87 = .ok (.iconst 1, 1) := by decide +kernel
theorem d_Model_where_88 : decode prog_13_method_50_code 88 = .ok (.istore 6, 2) := by decide +kernel
theorem d_Model_where_90 : decode prog_13_method_50_code 90 = .ok (.iload 6, 2) := by decide +kernel
theorem d_Model_where_92 : decode prog_13_method_50_code 92 = .ok (.bipush 8, 2) := by decide +kernel
theorem d_Model_where_94 : decode prog_13_method_50_code 94 = .ok (.if_icmp .ge 60, 3) := by decide +kernel
theorem d_Model_where_97 : decode prog_13_method_50_code 97 = .ok (.iconst 3, 1) := by decide +kernel
theorem d_Model_where_98 : decode prog_13_method_50_code 98 = .ok (.iload 6, 2) := by decide +kernel
theorem d_Model_where_100 : decode prog_13_method_50_code 100 = .ok (.invokestatic 201, 3) := by decide +kernel
theorem d_Model_where_103 : decode prog_13_method_50_code 103 = .ok (.isub, 1) := by decide +kernel
theorem d_Model_where_104 : decode prog_13_method_50_code 104 = .ok (.iload_n 2, 1) := by decide +kernel
theorem d_Model_where_105 : decode prog_13_method_50_code 105 = .ok (.imul, 1) := by decide +kernel
theorem d_Model_where_106 : decode prog_13_method_50_code 106 = .ok (.iload 6, 2) := by decide +kernel
theorem d_Model_where_108 : decode prog_13_method_50_code 108 = .ok (.invokestatic 201, 3) := by decide +kernel
theorem d_Model_where_111 : decode prog_13_method_50_code 111 = .ok (.iload_n 3, 1) := by decide +kernel
theorem d_Model_where_112 : decode prog_13_method_50_code 112 = .ok (.imul, 1) := by decide +kernel
theorem d_Model_where_113 : decode prog_13_method_50_code 113 = .ok (.iadd, 1) := by decide +kernel
theorem d_Model_where_114 : decode prog_13_method_50_code 114 = .ok (.istore 7, 2) := by decide +kernel
theorem d_Model_where_116 : decode prog_13_method_50_code 116 = .ok (.iload 7, 2) := by decide +kernel
theorem d_Model_where_118 : decode prog_13_method_50_code 118 = .ok (.iload 5, 2) := by decide +kernel
theorem d_Model_where_120 : decode prog_13_method_50_code 120 = .ok (.if_icmp .ge 8, 3) := by decide +kernel
theorem d_Model_where_123 : decode prog_13_method_50_code 123 = .ok (.iload 6, 2) := by decide +kernel
theorem d_Model_where_125 : decode prog_13_method_50_code 125 = .ok (.goto 5, 3) := by decide +kernel
theorem d_Model_where_128 : decode prog_13_method_50_code 128 = .ok (.iload 4, 2) := by decide +kernel
theorem d_Model_where_130 : decode prog_13_method_50_code 130 = .ok (.istore 4, 2) := by decide +kernel
theorem d_Model_where_132 : decode prog_13_method_50_code 132 = .ok (.iload 7, 2) := by decide +kernel
theorem d_Model_where_134 : decode prog_13_method_50_code 134 = .ok (.iload 5, 2) := by decide +kernel
theorem d_Model_where_136 : decode prog_13_method_50_code 136 = .ok (.if_icmp .ge 8, 3) := by decide +kernel
theorem d_Model_where_139 : decode prog_13_method_50_code 139 = .ok (.iload 7, 2) := by decide +kernel
theorem d_Model_where_141 : decode prog_13_method_50_code 141 = .ok (.goto 5, 3) := by decide +kernel
theorem d_Model_where_144 : decode prog_13_method_50_code 144 = .ok (.iload 5, 2) := by decide +kernel
theorem d_Model_where_146 : decode prog_13_method_50_code 146 = .ok (.istore 5, 2) := by decide +kernel
theorem d_Model_where_148 : decode prog_13_method_50_code 148 = .ok (.iinc 6 1, 3) := by decide +kernel
theorem d_Model_where_151 : decode prog_13_method_50_code 151 = .ok (.goto (-61), 3) := by decide +kernel
theorem d_Model_where_154 : decode prog_13_method_50_code 154 = .ok (.iload 4, 2) := by decide +kernel
theorem d_Model_where_156 : decode prog_13_method_50_code 156 = .ok (.ireturn, 1) := by decide +kernel
theorem d_Model_hasBy_0 : decode prog_13_method_51_code 0 = .ok (.iload_n 3, 1) := by decide +kernel
theorem d_Model_hasBy_1 : decode prog_13_method_51_code 1 = .ok (.iconst 0, 1) := by decide +kernel
theorem d_Model_hasBy_2 : decode prog_13_method_51_code 2 = .ok (.invokestatic 150, 3) := by decide +kernel
theorem d_Model_hasBy_5 : decode prog_13_method_51_code 5 = .ok (.ifCond .eq 21, 3) := by decide +kernel
theorem d_Model_hasBy_8 : decode prog_13_method_51_code 8 = .ok (.aload_n 0, 1) := by decide +kernel
theorem d_Model_hasBy_9 : decode prog_13_method_51_code 9 = .ok (.iload_n 1, 1) := by decide +kernel
theorem d_Model_hasBy_10 : decode prog_13_method_51_code 10 = .ok (.iconst 0, 1) := by decide +kernel
theorem d_Model_hasBy_11 : decode prog_13_method_51_code 11 = .ok (.aload_n 0, 1) := by decide +kernel
theorem d_Model_hasBy_12 : decode prog_13_method_51_code 12 = .ok (.getfield 7, 3) := by decide +kernel
theorem d_Model_hasBy_15 : decode prog_13_method_51_code 15 = .ok (.iconst 1, 1) := by decide +kernel
theorem d_Model_hasBy_16 : decode prog_13_method_51_code 16 = .ok (.iaload, 1) := by decide +kernel
theorem d_Model_hasBy_17 : decode prog_13_method_51_code 17 = .ok (.invokestatic 146, 3) := by decide +kernel
theorem d_Model_hasBy_20 : decode prog_13_method_51_code 20 = .ok (.invokevirtual 153, 3) := by decide +kernel
theorem d_Model_hasBy_23 : decode prog_13_method_51_code 23 = .ok (.ifCond .eq 18, 3) := by decide +kernel
theorem d_Model_hasBy_26 : decode prog_13_method_51_code 26 = .ok (.aload_n 0, 1) := by decide +kernel
theorem d_Model_hasBy_27 : decode prog_13_method_51_code 27 = .ok (.iload_n 1, 1) := by decide +kernel
theorem d_Model_hasBy_28 : decode prog_13_method_51_code 28 = .ok (.iconst 0, 1) := by decide +kernel
theorem d_Model_hasBy_29 : decode prog_13_method_51_code 29 = .ok (.aload_n 0, 1) := by decide +kernel
theorem d_Model_hasBy_30 : decode prog_13_method_51_code 30 = .ok (.getfield 7, 3) := by decide +kernel
theorem d_Model_hasBy_33 : decode prog_13_method_51_code 33 = .ok (.iconst 1, 1) := by decide +kernel
theorem d_Model_hasBy_34 : decode prog_13_method_51_code 34 = .ok (.iaload, 1) := by decide +kernel
theorem d_Model_hasBy_35 : decode prog_13_method_51_code 35 = .ok (.invokevirtual 160, 3) := by decide +kernel
theorem d_Model_hasBy_38 : decode prog_13_method_51_code 38 = .ok (.goto 4, 3) := by decide +kernel
theorem d_Model_hasBy_41 : decode prog_13_method_51_code 41 = .ok (.iconst (-1), 1) := by decide +kernel
theorem d_Model_hasBy_42 : decode prog_13_method_51_code 42 = .ok (.istore 4, 2) := by decide +kernel
theorem d_Model_hasBy_44 : decode prog_13_method_51_code 44 = .ok (.iload_n 3, 1) := by decide +kernel
theorem d_Model_hasBy_45 : decode prog_13_method_51_code 45 = .ok (.iconst 1, 1) := by decide +kernel
theorem d_Model_hasBy_46 : decode prog_13_method_51_code 46 = .ok (.invokestatic 150, 3) := by decide +kernel
theorem d_Model_hasBy_49 : decode prog_13_method_51_code 49 = .ok (.ifCond .eq 21, 3) := by decide +kernel
theorem d_Model_hasBy_52 : decode prog_13_method_51_code 52 = .ok (.aload_n 0, 1) := by decide +kernel
theorem d_Model_hasBy_53 : decode prog_13_method_51_code 53 = .ok (.iload_n 1, 1) := by decide +kernel
theorem d_Model_hasBy_54 : decode prog_13_method_51_code 54 = .ok (.iconst 1, 1) := by decide +kernel
theorem d_Model_hasBy_55 : decode prog_13_method_51_code 55 = .ok (.aload_n 0, 1) := by decide +kernel
theorem d_Model_hasBy_56 : decode prog_13_method_51_code 56 = .ok (.getfield 7, 3) := by decide +kernel
theorem d_Model_hasBy_59 : decode prog_13_method_51_code 59 = .ok (.iconst 1, 1) := by decide +kernel
theorem d_Model_hasBy_60 : decode prog_13_method_51_code 60 = .ok (.iaload, 1) := by decide +kernel
theorem d_Model_hasBy_61 : decode prog_13_method_51_code 61 = .ok (.invokestatic 146, 3) := by decide +kernel
theorem d_Model_hasBy_64 : decode prog_13_method_51_code 64 = .ok (.invokevirtual 153, 3) := by decide +kernel
theorem d_Model_hasBy_67 : decode prog_13_method_51_code 67 = .ok (.ifCond .eq 18, 3) := by decide +kernel
theorem d_Model_hasBy_70 : decode prog_13_method_51_code 70 = .ok (.aload_n 0, 1) := by decide +kernel
theorem d_Model_hasBy_71 : decode prog_13_method_51_code 71 = .ok (.iload_n 1, 1) := by decide +kernel
theorem d_Model_hasBy_72 : decode prog_13_method_51_code 72 = .ok (.iconst 1, 1) := by decide +kernel
theorem d_Model_hasBy_73 : decode prog_13_method_51_code 73 = .ok (.aload_n 0, 1) := by decide +kernel
theorem d_Model_hasBy_74 : decode prog_13_method_51_code 74 = .ok (.getfield 7, 3) := by decide +kernel
theorem d_Model_hasBy_77 : decode prog_13_method_51_code 77 = .ok (.iconst 1, 1) := by decide +kernel
theorem d_Model_hasBy_78 : decode prog_13_method_51_code 78 = .ok (.iaload, 1) := by decide +kernel
theorem d_Model_hasBy_79 : decode prog_13_method_51_code 79 = .ok (.invokevirtual 160, 3) := by decide +kernel
theorem d_Model_hasBy_82 : decode prog_13_method_51_code 82 = .ok (.goto 4, 3) := by decide +kernel
theorem d_Model_hasBy_85 : decode prog_13_method_51_code 85 = .ok (.iconst (-1), 1) := by decide +kernel
theorem d_Model_hasBy_86 : decode prog_13_method_51_code 86 = .ok (.istore 5, 2) := by decide +kernel
theorem d_Model_hasBy_88 : decode prog_13_method_51_code 88 = .ok (.iload 4, 2) := by decide +kernel
theorem d_Model_hasBy_90 : decode prog_13_method_51_code 90 = .ok (.ifCond .lt 19, 3) := by decide +kernel
theorem d_Model_hasBy_93 : decode prog_13_method_51_code 93 = .ok (.iload 5, 2) := by decide +kernel
theorem d_Model_hasBy_95 : decode prog_13_method_51_code 95 = .ok (.ifCond .lt 10, 3) := by decide +kernel
theorem d_Model_hasBy_98 : decode prog_13_method_51_code 98 = .ok (.iload 4, 2) := by decide +kernel
theorem d_Model_hasBy_100 : decode prog_13_method_51_code 100 = .ok (.iload 5, 2) := by decide +kernel
theorem d_Model_hasBy_102 : decode prog_13_method_51_code 102 = .ok (.if_icmp .gt 7, 3) := by decide +kernel
theorem d_Model_hasBy_105 : decode prog_13_method_51_code 105 = .ok (.iconst 0, 1) := by decide +kernel
theorem d_Model_hasBy_106 : decode prog_13_method_51_code 106 = .ok (.goto 13, 3) := by decide +kernel
theorem d_Model_hasBy_109 : decode prog_13_method_51_code 109 = .ok (.iload 5, 2) := by decide +kernel
theorem d_Model_hasBy_111 : decode prog_13_method_51_code 111 = .ok (.ifCond .lt 7, 3) := by decide +kernel
theorem d_Model_hasBy_114 : decode prog_13_method_51_code 114 = .ok (.iconst 1, 1) := by decide +kernel
theorem d_Model_hasBy_115 : decode prog_13_method_51_code 115 = .ok (.goto 4, 3) := by decide +kernel
theorem d_Model_hasBy_118 : decode prog_13_method_51_code 118 = .ok (.iconst (-1), 1) := by decide +kernel
theorem d_Model_hasBy_119 : decode prog_13_method_51_code 119 = .ok (.istore 6, 2) := by decide +kernel
theorem d_Model_hasBy_121 : decode prog_13_method_51_code 121 = .ok (.iload 6, 2) := by decide +kernel
theorem d_Model_hasBy_123 : decode prog_13_method_51_code 123 = .ok (.iload_n 2, 1) := by decide +kernel
theorem d_Model_hasBy_124 : decode prog_13_method_51_code 124 = .ok (.if_icmp .eq 7, 3) := by decide +kernel
theorem d_Model_hasBy_127 : decode prog_13_method_51_code 127 = .ok (.iconst 0, 1) := by decide +kernel
theorem d_Model_hasBy_128 : decode prog_13_method_51_code 128 = .ok (.goto 14, 3) := by decide +kernel
theorem d_Model_hasBy_131 : decode prog_13_method_51_code 131 = .ok (.iload_n 2, 1) := by decide +kernel
theorem d_Model_hasBy_132 : decode prog_13_method_51_code 132 = .ok (.ifCond .ne 8, 3) := by decide +kernel
theorem d_Model_hasBy_135 : decode prog_13_method_51_code 135 = .ok (.iload 4, 2) := by decide +kernel
theorem d_Model_hasBy_137 : decode prog_13_method_51_code 137 = .ok (.goto 5, 3) := by decide +kernel
theorem d_Model_hasBy_140 : decode prog_13_method_51_code 140 = .ok (.iload 5, 2) := by decide +kernel
theorem d_Model_hasBy_142 : decode prog_13_method_51_code 142 = .ok (.ireturn, 1) := by decide +kernel
theorem d_Model_bars_0 : decode prog_13_method_52_code 0 = .ok (.aload_n 0, 1) := by decide +kernel
theorem d_Model_bars_1 : decode prog_13_method_52_code 1 = .ok (.iload_n 1, 1) := by decide +kernel
theorem d_Model_bars_2 : decode prog_13_method_52_code 2 = .ok (.invokevirtual 164, 3) := by decide +kernel
theorem d_Model_bars_5 : decode prog_13_method_52_code 5 = .ok (.ifCond .ne 8, 3) := by decide +kernel
theorem d_Model_bars_8 : decode prog_13_method_52_code 8 = .ok (.aload_n 0, 1) := by decide +kernel
theorem d_Model_bars_9 : decode prog_13_method_52_code 9 = .ok (.invokevirtual 64, 3) := by decide +kernel
theorem d_Model_bars_12 : decode prog_13_method_52_code 12 = .ok (.ireturn, 1) := by decide +kernel
theorem d_Model_bars_13 : decode prog_13_method_52_code 13 = .ok (.iconst 0, 1) := by decide +kernel
theorem d_Model_bars_14 : decode prog_13_method_52_code 14 = .ok (.istore_n 2, 1) := by decide +kernel
theorem d_Model_bars_15 : decode prog_13_method_52_code 15 = .ok (.iconst 0, 1) := by decide +kernel
theorem d_Model_bars_16 : decode prog_13_method_52_code 16 = .ok (.istore_n 3, 1) := by decide +kernel
theorem d_Model_bars_17 : decode prog_13_method_52_code 17 = .ok (.iload_n 3, 1) := by decide +kernel
theorem d_Model_bars_18 : decode prog_13_method_52_code 18 = .ok (.iconst 4, 1) := by decide +kernel
theorem d_Model_bars_19 : decode prog_13_method_52_code 19 = .ok (.if_icmp .ge 69, 3) := by decide +kernel
theorem d_Model_bars_22 : decode prog_13_method_52_code 22 = .ok (.aload_n 0, 1) := by decide +kernel
theorem d_Model_bars_23 : decode prog_13_method_52_code 23 = .ok (.iload_n 1, 1) := by decide +kernel
theorem d_Model_bars_24 : decode prog_13_method_52_code 24 = .ok (.iconst 0, 1) := by decide +kernel
theorem d_Model_bars_25 : decode prog_13_method_52_code 25 = .ok (.iload_n 3, 1) := by decide +kernel
theorem d_Model_bars_26 : decode prog_13_method_52_code 26 = .ok (.iconst 1, 1) := by decide +kernel
theorem d_Model_bars_27 : decode prog_13_method_52_code 27 = .ok (.ixor, 1) := by decide +kernel
theorem d_Model_bars_28 : decode prog_13_method_52_code 28 = .ok (.invokevirtual 208, 3) := by decide +kernel
theorem d_Model_bars_31 : decode prog_13_method_52_code 31 = .ok (.aload_n 0, 1) := by decide +kernel
theorem d_Model_bars_32 : decode prog_13_method_52_code 32 = .ok (.iload_n 1, 1) := by decide +kernel
theorem d_Model_bars_33 : decode prog_13_method_52_code 33 = .ok (.iconst 0, 1) := by decide +kernel
theorem d_Model_bars_34 : decode prog_13_method_52_code 34 = .ok (.iload_n 3, 1) := by decide +kernel
theorem d_Model_bars_35 : decode prog_13_method_52_code 35 = .ok (.invokevirtual 208, 3) := by decide +kernel
theorem d_Model_bars_38 : decode prog_13_method_52_code 38 = .ok (.if_icmp .gt 26, 3) := by decide +kernel
theorem d_Model_bars_41 : decode prog_13_method_52_code 41 = .ok (.aload_n 0, 1) := by decide +kernel
theorem d_Model_bars_42 : decode prog_13_method_52_code 42 = .ok (.iload_n 1, 1) := by decide +kernel
theorem d_Model_bars_43 : decode prog_13_method_52_code 43 = .ok (.iconst 1, 1) := by decide +kernel
theorem d_Model_bars_44 : decode prog_13_method_52_code 44 = .ok (.iload_n 3, 1) := by decide +kernel
theorem d_Model_bars_45 : decode prog_13_method_52_code 45 = .ok (.iconst 2, 1) := by decide +kernel
theorem d_Model_bars_46 : decode prog_13_method_52_code 46 = .ok (.ixor, 1) := by decide +kernel
theorem d_Model_bars_47 : decode prog_13_method_52_code 47 = .ok (.invokevirtual 208, 3) := by decide +kernel
theorem d_Model_bars_50 : decode prog_13_method_52_code 50 = .ok (.aload_n 0, 1) := by decide +kernel
theorem d_Model_bars_51 : decode prog_13_method_52_code 51 = .ok (.iload_n 1, 1) := by decide +kernel
theorem d_Model_bars_52 : decode prog_13_method_52_code 52 = .ok (.iconst 1, 1) := by decide +kernel
theorem d_Model_bars_53 : decode prog_13_method_52_code 53 = .ok (.iload_n 3, 1) := by decide +kernel
theorem d_Model_bars_54 : decode prog_13_method_52_code 54 = .ok (.invokevirtual 208, 3) := by decide +kernel
theorem d_Model_bars_57 : decode prog_13_method_52_code 57 = .ok (.if_icmp .gt 7, 3) := by decide +kernel
theorem d_Model_bars_60 : decode prog_13_method_52_code 60 = .ok (.iconst 1, 1) := by decide +kernel
theorem d_Model_bars_61 : decode prog_13_method_52_code 61 = .ok (.goto 4, 3) := by decide +kernel
theorem d_Model_bars_64 : decode prog_13_method_52_code 64 = .ok (.iconst 0, 1) := by decide +kernel
theorem d_Model_bars_65 : decode prog_13_method_52_code 65 = .ok (.istore 4, 2) := by decide +kernel
theorem d_Model_bars_67 : decode prog_13_method_52_code 67 = .ok (.iload_n 2, 1) := by decide +kernel
theorem d_Model_bars_68 : decode prog_13_method_52_code 68 = .ok (.iload 4, 2) := by decide +kernel
theorem d_Model_bars_70 : decode prog_13_method_52_code 70 = .ok (.ifCond .eq 9, 3) := by decide +kernel
theorem d_Model_bars_73 : decode prog_13_method_52_code 73 = .ok (.iconst 1, 1) := by decide +kernel
theorem d_Model_bars_74 : decode prog_13_method_52_code 74 = .ok (.iload_n 3, 1) := by decide +kernel
theorem d_Model_bars_75 : decode prog_13_method_52_code 75 = .ok (.ishl, 1) := by decide +kernel
theorem d_Model_bars_76 : decode prog_13_method_52_code 76 = .ok (.goto 4, 3) := by decide +kernel
theorem d_Model_bars_79 : decode prog_13_method_52_code 79 = .ok (.iconst 0, 1) := by decide +kernel
theorem d_Model_bars_80 : decode prog_13_method_52_code 80 = .ok (.ior, 1) := by decide +kernel
theorem d_Model_bars_81 : decode prog_13_method_52_code 81 = .ok (.istore_n 2, 1) := by decide +kernel
theorem d_Model_bars_82 : decode prog_13_method_52_code 82 = .ok (.iinc 3 1, 3) := by decide +kernel
theorem d_Model_bars_85 : decode prog_13_method_52_code 85 = .ok (.goto (-68), 3) := by decide +kernel
theorem d_Model_bars_88 : decode prog_13_method_52_code 88 = .ok (.iload_n 2, 1) := by decide +kernel
theorem d_Model_bars_89 : decode prog_13_method_52_code 89 = .ok (.ireturn, 1) := by decide +kernel
theorem d_Model_note_0 : decode prog_13_method_53_code 0 = .ok (.aload_n 0, 1) := by decide +kernel
theorem d_Model_note_1 : decode prog_13_method_53_code 1 = .ok (.iload_n 1, 1) := by decide +kernel
theorem d_Model_note_2 : decode prog_13_method_53_code 2 = .ok (.invokevirtual 164, 3) := by decide +kernel
theorem d_Model_note_5 : decode prog_13_method_53_code 5 = .ok (.ifCond .eq 41, 3) := by decide +kernel
theorem d_Model_note_8 : decode prog_13_method_53_code 8 = .ok (.iload_n 2, 1) := by decide +kernel
theorem d_Model_note_9 : decode prog_13_method_53_code 9 = .ok (.invokestatic 68, 3) := by decide +kernel
theorem d_Model_note_12 : decode prog_13_method_53_code 12 = .ok (.ifCond .eq 34, 3) := by decide +kernel
theorem d_Model_note_15 : decode prog_13_method_53_code 15 = .ok (.iload_n 3, 1) := by decide +kernel
theorem d_Model_note_16 : decode prog_13_method_53_code 16 = .ok (.invokestatic 184, 3) := by decide +kernel
theorem d_Model_note_19 : decode prog_13_method_53_code 19 = .ok (.ifCond .eq 27, 3) := by decide +kernel
theorem d_Model_note_22 : decode prog_13_method_53_code 22 = .ok (.iload 4, 2) := by decide +kernel
theorem d_Model_note_24 : decode prog_13_method_53_code 24 = .ok (.i2l, 1) := by decide +kernel
theorem d_Model_note_25 : decode prog_13_method_53_code 25 = .ok (.lconst 0, 1) := by decide +kernel
theorem d_Model_note_26 : decode prog_13_method_53_code 26 = .ok (.lconst 1, 1) := by decide +kernel
theorem d_Model_note_27 : decode prog_13_method_53_code 27 = .ok (.invokestatic 52, 3) := by decide +kernel
theorem d_Model_note_30 : decode prog_13_method_53_code 30 = .ok (.ifCond .eq 16, 3) := by decide +kernel
theorem d_Model_note_33 : decode prog_13_method_53_code 33 = .ok (.iload 5, 2) := by decide +kernel
theorem d_Model_note_35 : decode prog_13_method_53_code 35 = .ok (.i2l, 1) := by decide +kernel
theorem d_Model_note_36 : decode prog_13_method_53_code 36 = .ok (.lconst 0, 1) := by decide +kernel
theorem d_Model_note_37 : decode prog_13_method_53_code 37 = .ok (.ldc2_w 211, 3) := by decide +kernel
theorem d_Model_note_40 : decode prog_13_method_53_code 40 = .ok (.invokestatic 52, 3) := by decide +kernel
theorem d_Model_note_43 : decode prog_13_method_53_code 43 = .ok (.ifCond .ne 8, 3) := by decide +kernel
theorem d_Model_note_46 : decode prog_13_method_53_code 46 = .ok (.aload_n 0, 1) := by decide +kernel
theorem d_Model_note_47 : decode prog_13_method_53_code 47 = .ok (.invokevirtual 64, 3) := by decide +kernel
theorem d_Model_note_50 : decode prog_13_method_53_code 50 = .ok (.ireturn, 1) := by decide +kernel
theorem d_Model_note_51 : decode prog_13_method_53_code 51 = .ok (.aload_n 0, 1) := by decide +kernel
theorem d_Model_note_52 : decode prog_13_method_53_code 52 = .ok (.getfield 7, 3) := by decide +kernel
theorem d_Model_note_55 : decode prog_13_method_53_code 55 = .ok (.bipush 22, 2) := by decide +kernel
theorem d_Model_note_57 : decode prog_13_method_53_code 57 = .ok (.iaload, 1) := by decide +kernel
theorem d_Model_note_58 : decode prog_13_method_53_code 58 = .ok (.bipush 6, 2) := by decide +kernel
theorem d_Model_note_60 : decode prog_13_method_53_code 60 = .ok (.if_icmp .ne 8, 3) := by decide +kernel
theorem d_Model_note_63 : decode prog_13_method_53_code 63 = .ok (.aload_n 0, 1) := by decide +kernel
theorem d_Model_note_64 : decode prog_13_method_53_code 64 = .ok (.invokevirtual 78, 3) := by decide +kernel
theorem d_Model_note_67 : decode prog_13_method_53_code 67 = .ok (.ireturn, 1) := by decide +kernel
theorem d_Model_note_68 : decode prog_13_method_53_code 68 = .ok (.bipush 23, 2) := by decide +kernel
theorem d_Model_note_70 : decode prog_13_method_53_code 70 = .ok (.iconst 5, 1) := by decide +kernel
theorem d_Model_note_71 : decode prog_13_method_53_code 71 = .ok (.aload_n 0, 1) := by decide +kernel
theorem d_Model_note_72 : decode prog_13_method_53_code 72 = .ok (.getfield 7, 3) := by decide +kernel
theorem d_Model_note_75 : decode prog_13_method_53_code 75 = .ok (.bipush 22, 2) := by decide +kernel
theorem d_Model_note_77 : decode prog_13_method_53_code 77 = .ok (.iaload, 1) := by decide +kernel
theorem d_Model_note_78 : decode prog_13_method_53_code 78 = .ok (.imul, 1) := by decide +kernel
theorem d_Model_note_79 : decode prog_13_method_53_code 79 = .ok (.iadd, 1) := by decide +kernel
theorem d_Model_note_80 : decode prog_13_method_53_code 80 = .ok (.istore 6, 2) := by decide +kernel
theorem d_Model_note_82 : decode prog_13_method_53_code 82 = .ok (.aload_n 0, 1) := by decide +kernel
theorem d_Model_note_83 : decode prog_13_method_53_code 83 = .ok (.getfield 7, 3) := by decide +kernel
theorem d_Model_note_86 : decode prog_13_method_53_code 86 = .ok (.iload 6, 2) := by decide +kernel
theorem d_Model_note_88 : decode prog_13_method_53_code 88 = .ok (.iload_n 1, 1) := by decide +kernel
theorem d_Model_note_89 : decode prog_13_method_53_code 89 = .ok (.iastore, 1) := by decide +kernel
theorem d_Model_note_90 : decode prog_13_method_53_code 90 = .ok (.aload_n 0, 1) := by decide +kernel
theorem d_Model_note_91 : decode prog_13_method_53_code 91 = .ok (.getfield 7, 3) := by decide +kernel
theorem d_Model_note_94 : decode prog_13_method_53_code 94 = .ok (.iload 6, 2) := by decide +kernel
theorem d_Model_note_96 : decode prog_13_method_53_code 96 = .ok (.iconst 1, 1) := by decide +kernel
theorem d_Model_note_97 : decode prog_13_method_53_code 97 = .ok (.iadd, 1) := by decide +kernel
theorem d_Model_note_98 : decode prog_13_method_53_code 98 = .ok (.iload_n 2, 1) := by decide +kernel
theorem d_Model_note_99 : decode prog_13_method_53_code 99 = .ok (.iastore, 1) := by decide +kernel
theorem d_Model_note_100 : decode prog_13_method_53_code 100 = .ok (.aload_n 0, 1) := by decide +kernel
theorem d_Model_note_101 : decode prog_13_method_53_code 101 = .ok (.getfield 7, 3) := by decide +kernel
theorem d_Model_note_104 : decode prog_13_method_53_code 104 = .ok (.iload 6, 2) := by decide +kernel
theorem d_Model_note_106 : decode prog_13_method_53_code 106 = .ok (.iconst 2, 1) := by decide +kernel
theorem d_Model_note_107 : decode prog_13_method_53_code 107 = .ok (.iadd, 1) := by decide +kernel
theorem d_Model_note_108 : decode prog_13_method_53_code 108 = .ok (.iload_n 3, 1) := by decide +kernel
theorem d_Model_note_109 : decode prog_13_method_53_code 109 = .ok (.iastore, 1) := by decide +kernel
theorem d_Model_note_110 : decode prog_13_method_53_code 110 = .ok (.aload_n 0, 1) := by decide +kernel
theorem d_Model_note_111 : decode prog_13_method_53_code 111 = .ok (.getfield 7, 3) := by decide +kernel
theorem d_Model_note_114 : decode prog_13_method_53_code 114 = .ok (.iload 6, 2) := by decide +kernel
theorem d_Model_note_116 : decode prog_13_method_53_code 116 = .ok (.iconst 3, 1) := by decide +kernel
theorem d_Model_note_117 : decode prog_13_method_53_code 117 = .ok (.iadd, 1) := by decide +kernel
theorem d_Model_note_118 : decode prog_13_method_53_code 118 = .ok (.iload 4, 2) := by decide +kernel
theorem d_Model_note_120 : decode prog_13_method_53_code 120 = .ok (.iastore, 1) := by decide +kernel
theorem d_Model_note_121 : decode prog_13_method_53_code 121 = .ok (.aload_n 0, 1) := by decide +kernel
theorem d_Model_note_122 : decode prog_13_method_53_code 122 = .ok (.getfield 7, 3) := by decide +kernel
theorem d_Model_note_125 : decode prog_13_method_53_code 125 = .ok (.iload 6, 2) := by decide +kernel
theorem d_Model_note_127 : decode prog_13_method_53_code 127 = .ok (.iconst 4, 1) := by decide +kernel
theorem d_Model_note_128 : decode prog_13_method_53_code 128 = .ok (.iadd, 1) := by decide +kernel
theorem d_Model_note_129 : decode prog_13_method_53_code 129 = .ok (.iload 5, 2) := by decide +kernel
theorem d_Model_note_131 : decode prog_13_method_53_code 131 = .ok (.iastore, 1) := by decide +kernel
theorem d_Model_note_132 : decode prog_13_method_53_code 132 = .ok (.aload_n 0, 1) := by decide +kernel
theorem d_Model_note_133 : decode prog_13_method_53_code 133 = .ok (.getfield 7, 3) := by decide +kernel
theorem d_Model_note_136 : decode prog_13_method_53_code 136 = .ok (.bipush 22, 2) := by decide +kernel
theorem d_Model_note_138 : decode prog_13_method_53_code 138 = .ok (.dup2, 1) := by decide +kernel
theorem d_Model_note_139 : decode prog_13_method_53_code 139 = .ok (.iaload, 1) := by decide +kernel
theorem d_Model_note_140 : decode prog_13_method_53_code 140 = .ok (.iconst 1, 1) := by decide +kernel
theorem d_Model_note_141 : decode prog_13_method_53_code 141 = .ok (.iadd, 1) := by decide +kernel
theorem d_Model_note_142 : decode prog_13_method_53_code 142 = .ok (.iastore, 1) := by decide +kernel
theorem d_Model_note_143 : decode prog_13_method_53_code 143 = .ok (.aload_n 0, 1) := by decide +kernel
theorem d_Model_note_144 : decode prog_13_method_53_code 144 = .ok (.getfield 7, 3) := by decide +kernel
theorem d_Model_note_147 : decode prog_13_method_53_code 147 = .ok (.bipush 22, 2) := by decide +kernel
theorem d_Model_note_149 : decode prog_13_method_53_code 149 = .ok (.iaload, 1) := by decide +kernel
theorem d_Model_note_150 : decode prog_13_method_53_code 150 = .ok (.ireturn, 1) := by decide +kernel
theorem d_Model_forget_0 : decode prog_13_method_54_code 0 = .ok (.aload_n 0, 1) := by decide +kernel
theorem d_Model_forget_1 : decode prog_13_method_54_code 1 = .ok (.getfield 7, 3) := by decide +kernel
theorem d_Model_forget_4 : decode prog_13_method_54_code 4 = .ok (.bipush 22, 2) := by decide +kernel
theorem d_Model_forget_6 : decode prog_13_method_54_code 6 = .ok (.iaload, 1) := by decide +kernel
theorem d_Model_forget_7 : decode prog_13_method_54_code 7 = .ok (.istore_n 1, 1) := by decide +kernel
theorem d_Model_forget_8 : decode prog_13_method_54_code 8 = .ok (.aload_n 0, 1) := by decide +kernel
theorem d_Model_forget_9 : decode prog_13_method_54_code 9 = .ok (.getfield 7, 3) := by decide +kernel
theorem d_Model_forget_12 : decode prog_13_method_54_code 12 = .ok (.bipush 22, 2) := by decide +kernel
theorem d_Model_forget_14 : decode prog_13_method_54_code 14 = .ok (.iconst 0, 1) := by decide +kernel
theorem d_Model_forget_15 : decode prog_13_method_54_code 15 = .ok (.iastore, 1) := by decide +kernel
theorem d_Model_forget_16 : decode prog_13_method_54_code 16 = .ok (.iload_n 1, 1) := by decide +kernel
theorem d_Model_forget_17 : decode prog_13_method_54_code 17 = .ok (.ireturn, 1) := by decide +kernel
theorem d_Model_kindsOf_0 : decode prog_13_method_55_code 0 = .ok (.iconst 0, 1) := by decide +kernel
theorem d_Model_kindsOf_1 : decode prog_13_method_55_code 1 = .ok (.istore_n 2, 1) := by decide +kernel
theorem d_Model_kindsOf_2 : decode prog_13_method_55_code 2 = .ok (.iconst 0, 1) := by decide +kernel
theorem d_Model_kindsOf_3 : decode prog_13_method_55_code 3 = .ok (.istore_n 3, 1) := by decide +kernel
theorem d_Model_kindsOf_4 : decode prog_13_method_55_code 4 = .ok (.iload_n 3, 1) := by decide +kernel
theorem d_Model_kindsOf_5 : decode prog_13_method_55_code 5 = .ok (.iconst 5, 1) := by decide +kernel
theorem d_Model_kindsOf_6 : decode prog_13_method_55_code 6 = .ok (.if_icmp .gt 133, 3) := by decide +kernel
theorem d_Model_kindsOf_9 : decode prog_13_method_55_code 9 = .ok (.iconst 1, 1) := by decide +kernel
theorem d_Model_kindsOf_10 : decode prog_13_method_55_code 10 = .ok (.istore 4, 2) := by decide +kernel
theorem d_Model_kindsOf_12 : decode prog_13_method_55_code 12 = .ok (.iconst 0, 1) := by decide +kernel
theorem d_Model_kindsOf_13 : decode prog_13_method_55_code 13 = .ok (.istore 5, 2) := by decide +kernel
theorem d_Model_kindsOf_15 : decode prog_13_method_55_code 15 = .ok (.iload 5, 2) := by decide +kernel
theorem d_Model_kindsOf_17 : decode prog_13_method_55_code 17 = .ok (.aload_n 0, 1) := by decide +kernel
theorem d_Model_kindsOf_18 : decode prog_13_method_55_code 18 = .ok (.getfield 7, 3) := by decide +kernel
theorem d_Model_kindsOf_21 : decode prog_13_method_55_code 21 = .ok (.bipush 22, 2) := by decide +kernel
theorem d_Model_kindsOf_23 : decode prog_13_method_55_code 23 = .ok (.iaload, 1) := by decide +kernel
theorem d_Model_kindsOf_24 : decode prog_13_method_55_code 24 = .ok (.if_icmp .ge 94, 3) := by decide +kernel
theorem d_Model_kindsOf_27 : decode prog_13_method_55_code 27 = .ok (.bipush 23, 2) := by decide +kernel
theorem d_Model_kindsOf_29 : decode prog_13_method_55_code 29 = .ok (.iconst 5, 1) := by decide +kernel
theorem d_Model_kindsOf_30 : decode prog_13_method_55_code 30 = .ok (.iload 5, 2) := by decide +kernel
theorem d_Model_kindsOf_32 : decode prog_13_method_55_code 32 = .ok (.imul, 1) := by decide +kernel
theorem d_Model_kindsOf_33 : decode prog_13_method_55_code 33 = .ok (.iadd, 1) := by decide +kernel
theorem d_Model_kindsOf_34 : decode prog_13_method_55_code 34 = .ok (.istore 6, 2) := by decide +kernel
theorem d_Model_kindsOf_36 : decode prog_13_method_55_code 36 = .ok (.iload 4, 2) := by decide +kernel
theorem d_Model_kindsOf_38 : decode prog_13_method_55_code 38 = .ok (.ifCond .eq 71, 3) := by decide +kernel
theorem d_Model_kindsOf_41 : decode prog_13_method_55_code 41 = .ok (.aload_n 0, 1) := by decide +kernel
theorem d_Model_kindsOf_42 : decode prog_13_method_55_code 42 = .ok (.getfield 7, 3) := by decide +kernel
theorem d_Model_kindsOf_45 : decode prog_13_method_55_code 45 = .ok (.iload 6, 2) := by decide +kernel
theorem d_Model_kindsOf_47 : decode prog_13_method_55_code 47 = .ok (.iaload, 1) := by decide +kernel
theorem d_Model_kindsOf_48 : decode prog_13_method_55_code 48 = .ok (.iload_n 1, 1) := by decide +kernel
theorem d_Model_kindsOf_49 : decode prog_13_method_55_code 49 = .ok (.if_icmp .ne 56, 3) := by decide +kernel
theorem d_Model_kindsOf_52 : decode prog_13_method_55_code 52 = .ok (.aload_n 0, 1) := by decide +kernel
theorem d_Model_kindsOf_53 : decode prog_13_method_55_code 53 = .ok (.iload_n 3, 1) := by decide +kernel
theorem d_Model_kindsOf_54 : decode prog_13_method_55_code 54 = .ok (.aload_n 0, 1) := by decide +kernel
theorem d_Model_kindsOf_55 : decode prog_13_method_55_code 55 = .ok (.getfield 7, 3) := by decide +kernel
theorem d_Model_kindsOf_58 : decode prog_13_method_55_code 58 = .ok (.bipush 16, 2) := by decide +kernel
theorem d_Model_kindsOf_60 : decode prog_13_method_55_code 60 = .ok (.iload_n 1, 1) := by decide +kernel
theorem d_Model_kindsOf_61 : decode prog_13_method_55_code 61 = .ok (.iadd, 1) := by decide +kernel
theorem d_Model_kindsOf_62 : decode prog_13_method_55_code 62 = .ok (.iaload, 1) := by decide +kernel
theorem d_Model_kindsOf_63 : decode prog_13_method_55_code 63 = .ok (.aload_n 0, 1) := by decide +kernel
theorem d_Model_kindsOf_64 : decode prog_13_method_55_code 64 = .ok (.getfield 7, 3) := by decide +kernel
theorem d_Model_kindsOf_67 : decode prog_13_method_55_code 67 = .ok (.iload 6, 2) := by decide +kernel
theorem d_Model_kindsOf_69 : decode prog_13_method_55_code 69 = .ok (.iconst 1, 1) := by decide +kernel
theorem d_Model_kindsOf_70 : decode prog_13_method_55_code 70 = .ok (.iadd, 1) := by decide +kernel
theorem d_Model_kindsOf_71 : decode prog_13_method_55_code 71 = .ok (.iaload, 1) := by decide +kernel
theorem d_Model_kindsOf_72 : decode prog_13_method_55_code 72 = .ok (.aload_n 0, 1) := by decide +kernel
theorem d_Model_kindsOf_73 : decode prog_13_method_55_code 73 = .ok (.getfield 7, 3) := by decide +kernel
theorem d_Model_kindsOf_76 : decode prog_13_method_55_code 76 = .ok (.iload 6, 2) := by decide +kernel
theorem d_Model_kindsOf_78 : decode prog_13_method_55_code 78 = .ok (.iconst 2, 1) := by decide +kernel
theorem d_Model_kindsOf_79 : decode prog_13_method_55_code 79 = .ok (.iadd, 1) := by decide +kernel
theorem d_Model_kindsOf_80 : decode prog_13_method_55_code 80 = .ok (.iaload, 1) := by decide +kernel
theorem d_Model_kindsOf_81 : decode prog_13_method_55_code 81 = .ok (.aload_n 0, 1) := by decide +kernel
theorem d_Model_kindsOf_82 : decode prog_13_method_55_code 82 = .ok (.getfield 7, 3) := by decide +kernel
theorem d_Model_kindsOf_85 : decode prog_13_method_55_code 85 = .ok (.iload 6, 2) := by decide +kernel
theorem d_Model_kindsOf_87 : decode prog_13_method_55_code 87 = .ok (.iconst 3, 1) := by decide +kernel
theorem d_Model_kindsOf_88 : decode prog_13_method_55_code 88 = .ok (.iadd, 1) := by decide +kernel
theorem d_Model_kindsOf_89 : decode prog_13_method_55_code 89 = .ok (.iaload, 1) := by decide +kernel
theorem d_Model_kindsOf_90 : decode prog_13_method_55_code 90 = .ok (.invokevirtual 156, 3) := by decide +kernel
theorem d_Model_kindsOf_93 : decode prog_13_method_55_code 93 = .ok (.aload_n 0, 1) := by decide +kernel
theorem d_Model_kindsOf_94 : decode prog_13_method_55_code 94 = .ok (.getfield 7, 3) := by decide +kernel
theorem d_Model_kindsOf_97 : decode prog_13_method_55_code 97 = .ok (.iload 6, 2) := by decide +kernel
theorem d_Model_kindsOf_99 : decode prog_13_method_55_code 99 = .ok (.iconst 4, 1) := by decide +kernel
theorem d_Model_kindsOf_100 : decode prog_13_method_55_code 100 = .ok (.iadd, 1) := by decide +kernel
theorem d_Model_kindsOf_101 : decode prog_13_method_55_code 101 = .ok (.iaload, 1) := by decide +kernel
theorem d_Model_kindsOf_102 : decode prog_13_method_55_code 102 = .ok (.if_icmp .ne 7, 3) := by decide +kernel
theorem d_Model_kindsOf_105 : decode prog_13_method_55_code 105 = .ok (.iconst 1, 1) := by decide +kernel
theorem d_Model_kindsOf_106 : decode prog_13_method_55_code 106 = .ok (.goto 4, 3) := by decide +kernel
theorem d_Model_kindsOf_109 : decode prog_13_method_55_code 109 = .ok (.iconst 0, 1) := by decide +kernel
theorem d_Model_kindsOf_110 : decode prog_13_method_55_code 110 = .ok (.istore 4, 2) := by decide +kernel
theorem d_Model_kindsOf_112 : decode prog_13_method_55_code 112 = .ok (.iinc 5 1, 3) := by decide +kernel
theorem d_Model_kindsOf_115 : decode prog_13_method_55_code 115 = .ok (.goto (-100), 3) := by decide +kernel
theorem d_Model_kindsOf_118 : decode prog_13_method_55_code 118 = .ok (.iload_n 2, 1) := by decide +kernel
theorem d_Model_kindsOf_119 : decode prog_13_method_55_code 119 = .ok (.iload 4, 2) := by decide +kernel
theorem d_Model_kindsOf_121 : decode prog_13_method_55_code 121 = .ok (.ifCond .eq 9, 3) := by decide +kernel
theorem d_Model_kindsOf_124 : decode prog_13_method_55_code 124 = .ok (.iconst 1, 1) := by decide +kernel
theorem d_Model_kindsOf_125 : decode prog_13_method_55_code 125 = .ok (.iload_n 3, 1) := by decide +kernel
theorem d_Model_kindsOf_126 : decode prog_13_method_55_code 126 = .ok (.ishl, 1) := by decide +kernel
theorem d_Model_kindsOf_127 : decode prog_13_method_55_code 127 = .ok (.goto 4, 3) := by decide +kernel
theorem d_Model_kindsOf_130 : decode prog_13_method_55_code 130 = .ok (.iconst 0, 1) := by decide +kernel
theorem d_Model_kindsOf_131 : decode prog_13_method_55_code 131 = .ok (.ior, 1) := by decide +kernel
theorem d_Model_kindsOf_132 : decode prog_13_method_55_code 132 = .ok (.istore_n 2, 1) := by decide +kernel
theorem d_Model_kindsOf_133 : decode prog_13_method_55_code 133 = .ok (.iinc 3 1, 3) := by decide +kernel
theorem d_Model_kindsOf_136 : decode prog_13_method_55_code 136 = .ok (.goto (-132), 3) := by decide +kernel
theorem d_Model_kindsOf_139 : decode prog_13_method_55_code 139 = .ok (.iload_n 2, 1) := by decide +kernel
theorem d_Model_kindsOf_140 : decode prog_13_method_55_code 140 = .ok (.ireturn, 1) := by decide +kernel
theorem d_Model_is_0 : decode prog_13_method_56_code 0 = .ok (.aload_n 0, 1) := by decide +kernel
theorem d_Model_is_1 : decode prog_13_method_56_code 1 = .ok (.iload_n 1, 1) := by decide +kernel
theorem d_Model_is_2 : decode prog_13_method_56_code 2 = .ok (.invokevirtual 164, 3) := by decide +kernel
theorem d_Model_is_5 : decode prog_13_method_56_code 5 = .ok (.ifCond .eq 11, 3) := by decide +kernel
theorem d_Model_is_8 : decode prog_13_method_56_code 8 = .ok (.aload_n 0, 1) := by decide +kernel
theorem d_Model_is_9 : decode prog_13_method_56_code 9 = .ok (.iload_n 1, 1) := by decide +kernel
theorem d_Model_is_10 : decode prog_13_method_56_code 10 = .ok (.invokevirtual 213, 3) := by decide +kernel
theorem d_Model_is_13 : decode prog_13_method_56_code 13 = .ok (.goto 7, 3) := by decide +kernel
theorem d_Model_is_16 : decode prog_13_method_56_code 16 = .ok (.aload_n 0, 1) := by decide +kernel
theorem d_Model_is_17 : decode prog_13_method_56_code 17 = .ok (.invokevirtual 64, 3) := by decide +kernel
theorem d_Model_is_20 : decode prog_13_method_56_code 20 = .ok (.ireturn, 1) := by decide +kernel
theorem d_Model_partBy_0 : decode prog_13_method_57_code 0 = .ok (.iconst 0, 1) := by decide +kernel
theorem d_Model_partBy_1 : decode prog_13_method_57_code 1 = .ok (.istore 5, 2) := by decide +kernel
theorem d_Model_partBy_3 : decode prog_13_method_57_code 3 = .ok (.iconst 0, 1) := by decide +kernel
theorem d_Model_partBy_4 : decode prog_13_method_57_code 4 = .ok (.istore 6, 2) := by decide +kernel
theorem d_Model_partBy_6 : decode prog_13_method_57_code 6 = .ok (.iload 6, 2) := by decide +kernel
theorem d_Model_partBy_8 : decode prog_13_method_57_code 8 = .ok (.iconst 5, 1) := by decide +kernel
theorem d_Model_partBy_9 : decode prog_13_method_57_code 9 = .ok (.if_icmp .gt 124, 3) := by decide +kernel
theorem d_Model_partBy_12 : decode prog_13_method_57_code 12 = .ok (.iconst 0, 1) := by decide +kernel
theorem d_Model_partBy_13 : decode prog_13_method_57_code 13 = .ok (.istore 7, 2) := by decide +kernel
theorem d_Model_partBy_15 : decode prog_13_method_57_code 15 = .ok (.iconst 0, 1) := by decide +kernel
theorem d_Model_partBy_16 : decode prog_13_method_57_code 16 = .ok (.istore 8, 2) := by decide +kernel
theorem d_Model_partBy_18 : decode prog_13_method_57_code 18 = .ok (.iload 8, 2) := by decide +kernel
theorem d_Model_partBy_20 : decode prog_13_method_57_code 20 = .ok (.iconst 5, 1) := by decide +kernel
theorem d_Model_partBy_21 : decode prog_13_method_57_code 21 = .ok (.if_icmp .gt 90, 3) := by decide +kernel
theorem d_Model_partBy_24 : decode prog_13_method_57_code 24 = .ok (.aload_n 0, 1) := by decide +kernel
theorem d_Model_partBy_25 : decode prog_13_method_57_code 25 = .ok (.iload 6, 2) := by decide +kernel
theorem d_Model_partBy_27 : decode prog_13_method_57_code 27 = .ok (.aload_n 0, 1) := by decide +kernel
theorem d_Model_partBy_28 : decode prog_13_method_57_code 28 = .ok (.getfield 7, 3) := by decide +kernel
theorem d_Model_partBy_31 : decode prog_13_method_57_code 31 = .ok (.bipush 16, 2) := by decide +kernel
theorem d_Model_partBy_33 : decode prog_13_method_57_code 33 = .ok (.iload_n 2, 1) := by decide +kernel
theorem d_Model_partBy_34 : decode prog_13_method_57_code 34 = .ok (.iadd, 1) := by decide +kernel
theorem d_Model_partBy_35 : decode prog_13_method_57_code 35 = .ok (.iaload, 1) := by decide +kernel
theorem d_Model_partBy_36 : decode prog_13_method_57_code 36 = .ok (.iload_n 3, 1) := by decide +kernel
theorem d_Model_partBy_37 : decode prog_13_method_57_code 37 = .ok (.iload 4, 2) := by decide +kernel
theorem d_Model_partBy_39 : decode prog_13_method_57_code 39 = .ok (.iconst 0, 1) := by decide +kernel
theorem d_Model_partBy_40 : decode prog_13_method_57_code 40 = .ok (.invokevirtual 156, 3) := by decide +kernel
theorem d_Model_partBy_43 : decode prog_13_method_57_code 43 = .ok (.aload_n 0, 1) := by decide +kernel
theorem d_Model_partBy_44 : decode prog_13_method_57_code 44 = .ok (.iload 8, 2) := by decide +kernel
theorem d_Model_partBy_46 : decode prog_13_method_57_code 46 = .ok (.aload_n 0, 1) := by decide +kernel
theorem d_Model_partBy_47 : decode prog_13_method_57_code 47 = .ok (.getfield 7, 3) := by decide +kernel
theorem d_Model_partBy_50 : decode prog_13_method_57_code 50 = .ok (.bipush 16, 2) := by decide +kernel
theorem d_Model_partBy_52 : decode prog_13_method_57_code 52 = .ok (.iload_n 2, 1) := by decide +kernel
theorem d_Model_partBy_53 : decode prog_13_method_57_code 53 = .ok (.iadd, 1) := by decide +kernel
theorem d_Model_partBy_54 : decode prog_13_method_57_code 54 = .ok (.iaload, 1) := by decide +kernel
theorem d_Model_partBy_55 : decode prog_13_method_57_code 55 = .ok (.iload_n 3, 1) := by decide +kernel
theorem d_Model_partBy_56 : decode prog_13_method_57_code 56 = .ok (.iload 4, 2) := by decide +kernel
theorem d_Model_partBy_58 : decode prog_13_method_57_code 58 = .ok (.iconst 0, 1) := by decide +kernel
theorem d_Model_partBy_59 : decode prog_13_method_57_code 59 = .ok (.invokevirtual 156, 3) := by decide +kernel
theorem d_Model_partBy_62 : decode prog_13_method_57_code 62 = .ok (.if_icmp .ne 7, 3) := by decide +kernel
theorem d_Model_partBy_65 : decode prog_13_method_57_code 65 = .ok (.iconst 1, 1) := by decide +kernel
theorem d_Model_partBy_66 : decode prog_13_method_57_code 66 = .ok (.goto 4, 3) := by decide +kernel
theorem d_Model_partBy_69 : decode prog_13_method_57_code 69 = .ok (.iconst 0, 1) := by decide +kernel
theorem d_Model_partBy_70 : decode prog_13_method_57_code 70 = .ok (.istore 9, 2) := by decide +kernel
theorem d_Model_partBy_72 : decode prog_13_method_57_code 72 = .ok (.iload 7, 2) := by decide +kernel
theorem d_Model_partBy_74 : decode prog_13_method_57_code 74 = .ok (.iload_n 1, 1) := by decide +kernel
theorem d_Model_partBy_75 : decode prog_13_method_57_code 75 = .ok (.iload 6, 2) := by decide +kernel
theorem d_Model_partBy_77 : decode prog_13_method_57_code 77 = .ok (.invokestatic 150, 3) := by decide +kernel
theorem d_Model_partBy_80 : decode prog_13_method_57_code 80 = .ok (.ifCond .eq 21, 3) := by decide +kernel
theorem d_Model_partBy_83 : decode prog_13_method_57_code 83 = .ok (.iload_n 1, 1) := by decide +kernel
theorem d_Model_partBy_84 : decode prog_13_method_57_code 84 = .ok (.iload 8, 2) := by decide +kernel
theorem d_Model_partBy_86 : decode prog_13_method_57_code 86 = .ok (.invokestatic 150, 3) := by decide +kernel
theorem d_Model_partBy_89 : decode prog_13_method_57_code 89 = .ok (.ifCond .eq 12, 3) := by decide +kernel
theorem d_Model_partBy_92 : decode prog_13_method_57_code 92 = .ok (.iload 9, 2) := by decide +kernel
theorem d_Model_partBy_94 : decode prog_13_method_57_code 94 = .ok (.ifCond .eq 7, 3) := by decide +kernel
theorem d_Model_partBy_97 : decode prog_13_method_57_code 97 = .ok (.iconst 1, 1) := by decide +kernel
theorem d_Model_partBy_98 : decode prog_13_method_57_code 98 = .ok (.goto 4, 3) := by decide +kernel
theorem d_Model_partBy_101 : decode prog_13_method_57_code 101 = .ok (.iconst 0, 1) := by decide +kernel
theorem d_Model_partBy_102 : decode prog_13_method_57_code 102 = .ok (.iadd, 1) := by decide +kernel
theorem d_Model_partBy_103 : decode prog_13_method_57_code 103 = .ok (.istore 7, 2) := by decide +kernel
theorem d_Model_partBy_105 : decode prog_13_method_57_code 105 = .ok (.iinc 8 1, 3) := by decide +kernel
theorem d_Model_partBy_108 : decode prog_13_method_57_code 108 = .ok (.goto (-90), 3) := by decide +kernel
theorem d_Model_partBy_111 : decode prog_13_method_57_code 111 = .ok (.iload 7, 2) := by decide +kernel
theorem d_Model_partBy_113 : decode prog_13_method_57_code 113 = .ok (.iload 5, 2) := by decide +kernel
theorem d_Model_partBy_115 : decode prog_13_method_57_code 115 = .ok (.if_icmp .le 8, 3) := by decide +kernel
theorem d_Model_partBy_118 : decode prog_13_method_57_code 118 = .ok (.iload 7, 2) := by decide +kernel
theorem d_Model_partBy_120 : decode prog_13_method_57_code 120 = .ok (.goto 5, 3) := by decide +kernel
theorem d_Model_partBy_123 : decode prog_13_method_57_code 123 = .ok (.iload 5, 2) := by decide +kernel
theorem d_Model_partBy_125 : decode prog_13_method_57_code 125 = .ok (.istore 5, 2) := by decide +kernel
theorem d_Model_partBy_127 : decode prog_13_method_57_code 127 = .ok (.iinc 6 1, 3) := by decide +kernel
theorem d_Model_partBy_130 : decode prog_13_method_57_code 130 = .ok (.goto (-124), 3) := by decide +kernel
theorem d_Model_partBy_133 : decode prog_13_method_57_code 133 = .ok (.iload 5, 2) := by decide +kernel
theorem d_Model_partBy_135 : decode prog_13_method_57_code 135 = .ok (.ireturn, 1) := by decide +kernel
theorem d_Model_look_0 : decode prog_13_method_58_code 0 = .ok (.aload_n 0, 1) := by decide +kernel
theorem d_Model_look_1 : decode prog_13_method_58_code 1 = .ok (.iload_n 1, 1) := by decide +kernel
theorem d_Model_look_2 : decode prog_13_method_58_code 2 = .ok (.invokevirtual 164, 3) := by decide +kernel
theorem d_Model_look_5 : decode prog_13_method_58_code 5 = .ok (.ifCond .eq 10, 3) := by decide +kernel
theorem d_Model_look_8 : decode prog_13_method_58_code 8 = .ok (.iload_n 2, 1) := by decide +kernel
theorem d_Model_look_9 : decode prog_13_method_58_code 9 = .ok (.invokestatic 68, 3) := by decide +kernel
theorem d_Model_look_12 : decode prog_13_method_58_code 12 = .ok (.ifCond .ne 8, 3) := by decide +kernel
theorem d_Model_look_15 : decode prog_13_method_58_code 15 = .ok (.aload_n 0, 1) := by decide +kernel
theorem d_Model_look_16 : decode prog_13_method_58_code 16 = .ok (.invokevirtual 64, 3) := by decide +kernel
theorem d_Model_look_19 : decode prog_13_method_58_code 19 = .ok (.ireturn, 1) := by decide +kernel
theorem d_Model_look_20 : decode prog_13_method_58_code 20 = .ok (.aload_n 0, 1) := by decide +kernel
theorem d_Model_look_21 : decode prog_13_method_58_code 21 = .ok (.iload_n 1, 1) := by decide +kernel
theorem d_Model_look_22 : decode prog_13_method_58_code 22 = .ok (.invokevirtual 213, 3) := by decide +kernel
theorem d_Model_look_25 : decode prog_13_method_58_code 25 = .ok (.istore_n 3, 1) := by decide +kernel
theorem d_Model_look_26 : decode prog_13_method_58_code 26 = .ok (.iconst (-1), 1) := by decide +kernel
theorem d_Model_look_27 : decode prog_13_method_58_code 27 = .ok (.istore 4, 2) := by decide +kernel
theorem d_Model_look_29 : decode prog_13_method_58_code 29 = .ok (.iconst 0, 1) := by decide +kernel
theorem d_Model_look_30 : decode prog_13_method_58_code 30 = .ok (.istore 5, 2) := by decide +kernel
theorem d_Model_look_32 : decode prog_13_method_58_code 32 = .ok (.iload 5, 2) := by decide +kernel
theorem d_Model_look_34 : decode prog_13_method_58_code 34 = .ok (.bipush 24, 2) := by decide +kernel
theorem d_Model_look_36 : decode prog_13_method_58_code 36 = .ok (.if_icmp .ge 48, 3) := by decide +kernel
theorem d_Model_look_39 : decode prog_13_method_58_code 39 = .ok (.iload_n 3, 1) := by decide +kernel
theorem d_Model_look_40 : decode prog_13_method_58_code 40 = .ok (.ifCond .eq 44, 3) := by decide +kernel
theorem d_Model_look_43 : decode prog_13_method_58_code 43 = .ok (.iload 4, 2) := by decide +kernel
theorem d_Model_look_45 : decode prog_13_method_58_code 45 = .ok (.ifCond .lt 24, 3) := by decide +kernel
theorem d_Model_look_48 : decode prog_13_method_58_code 48 = .ok (.aload_n 0, 1) := by decide +kernel
theorem d_Model_look_49 : decode prog_13_method_58_code 49 = .ok (.iload_n 3, 1) := by decide +kernel
theorem d_Model_look_50 : decode prog_13_method_58_code 50 = .ok (.iload_n 1, 1) := by decide +kernel
theorem d_Model_look_51 : decode prog_13_method_58_code 51 = .ok (.iload_n 2, 1) := by decide +kernel
theorem d_Model_look_52 : decode prog_13_method_58_code 52 = .ok (.iload 5, 2) := by decide +kernel
theorem d_Model_look_54 : decode prog_13_method_58_code 54 = .ok (.invokevirtual 216, 3) := by decide +kernel
theorem d_Model_look_57 : decode prog_13_method_58_code 57 = .ok (.aload_n 0, 1) := by decide +kernel
theorem d_Model_look_58 : decode prog_13_method_58_code 58 = .ok (.iload_n 3, 1) := by decide +kernel
theorem d_Model_look_59 : decode prog_13_method_58_code 59 = .ok (.iload_n 1, 1) := by decide +kernel
theorem d_Model_look_60 : decode prog_13_method_58_code 60 = .ok (.iload_n 2, 1) := by decide +kernel
theorem d_Model_look_61 : decode prog_13_method_58_code 61 = .ok (.iload 4, 2) := by decide +kernel
theorem d_Model_look_63 : decode prog_13_method_58_code 63 = .ok (.invokevirtual 216, 3) := by decide +kernel
theorem d_Model_look_66 : decode prog_13_method_58_code 66 = .ok (.if_icmp .ge 8, 3) := by decide +kernel
theorem d_Model_look_69 : decode prog_13_method_58_code 69 = .ok (.iload 5, 2) := by decide +kernel
theorem d_Model_look_71 : decode prog_13_method_58_code 71 = .ok (.goto 5, 3) := by decide +kernel
theorem d_Model_look_74 : decode prog_13_method_58_code 74 = .ok (.iload 4, 2) := by decide +kernel
theorem d_Model_look_76 : decode prog_13_method_58_code 76 = .ok (.istore 4, 2) := by decide +kernel
theorem d_Model_look_78 : decode prog_13_method_58_code 78 = .ok (.iinc 5 1, 3) := by decide +kernel
theorem d_Model_look_81 : decode prog_13_method_58_code 81 = .ok (.goto (-49), 3) := by decide +kernel
theorem d_Model_look_84 : decode prog_13_method_58_code 84 = .ok (.iload 4, 2) := by decide +kernel
theorem d_Model_look_86 : decode prog_13_method_58_code 86 = .ok (.ireturn, 1) := by decide +kernel
theorem d_Model_wars_0 : decode prog_13_method_59_code 0 = .ok (.iload_n 1, 1) := by decide +kernel
theorem d_Model_wars_1 : decode prog_13_method_59_code 1 = .ok (.invokestatic 68, 3) := by decide +kernel
theorem d_Model_wars_4 : decode prog_13_method_59_code 4 = .ok (.ifCond .eq 10, 3) := by decide +kernel
theorem d_Model_wars_7 : decode prog_13_method_59_code 7 = .ok (.iload_n 2, 1) := by decide +kernel
theorem d_Model_wars_8 : decode prog_13_method_59_code 8 = .ok (.invokestatic 184, 3) := by decide +kernel
theorem d_Model_wars_11 : decode prog_13_method_59_code 11 = .ok (.ifCond .ne 12, 3) := by decide +kernel
theorem d_Model_wars_14 : decode prog_13_method_59_code 14 = .ok (.aload_n 0, 1) := by decide +kernel
theorem d_Model_wars_15 : decode prog_13_method_59_code 15 = .ok (.invokevirtual 64, 3) := by decide +kernel
theorem d_Model_wars_18 : decode prog_13_method_59_code 18 = .ok (.pop, 1) := by decide +kernel
theorem d_Model_wars_19 : decode prog_13_method_59_code 19 = .ok (.sipush (-1000), 3) := by decide +kernel
theorem d_Model_wars_22 : decode prog_13_method_59_code 22 = .ok (.ireturn, 1) := by decide +kernel
theorem d_Model_wars_23 : decode prog_13_method_59_code 23 = .ok (.iconst 0, 1) := by decide +kernel
theorem d_Model_wars_24 : decode prog_13_method_59_code 24 = .ok (.istore_n 3, 1) := by decide +kernel
theorem d_Model_wars_25 : decode prog_13_method_59_code 25 = .ok (.iconst 0, 1) := by decide +kernel
theorem d_Model_wars_26 : decode prog_13_method_59_code 26 = .ok (.istore 4, 2) := by decide +kernel
theorem d_Model_wars_28 : decode prog_13_method_59_code 28 = .ok (.iload 4, 2) := by decide +kernel
theorem d_Model_wars_30 : decode prog_13_method_59_code 30 = .ok (.aload_n 0, 1) := by decide +kernel
theorem d_Model_wars_31 : decode prog_13_method_59_code 31 = .ok (.getfield 7, 3) := by decide +kernel
theorem d_Model_wars_34 : decode prog_13_method_59_code 34 = .ok (.bipush 9, 2) := by decide +kernel
theorem d_Model_wars_36 : decode prog_13_method_59_code 36 = .ok (.iaload, 1) := by decide +kernel
theorem d_Model_wars_37 : decode prog_13_method_59_code 37 = .ok (.if_icmp .ge 76, 3) := by decide +kernel
theorem d_Model_wars_40 : decode prog_13_method_59_code 40 = .ok (.iload_n 1, 1) := by decide +kernel
theorem d_Model_wars_41 : decode prog_13_method_59_code 41 = .ok (.iload_n 2, 1) := by decide +kernel
theorem d_Model_wars_42 : decode prog_13_method_59_code 42 = .ok (.invokestatic 146, 3) := by decide +kernel
theorem d_Model_wars_45 : decode prog_13_method_59_code 45 = .ok (.istore 5, 2) := by decide +kernel
theorem d_Model_wars_47 : decode prog_13_method_59_code 47 = .ok (.iload_n 3, 1) := by decide +kernel
theorem d_Model_wars_48 : decode prog_13_method_59_code 48 = .ok (.aload_n 0, 1) := by decide +kernel
theorem d_Model_wars_49 : decode prog_13_method_59_code 49 = .ok (.aload_n 0, 1) := by decide +kernel
theorem d_Model_wars_50 : decode prog_13_method_59_code 50 = .ok (.getfield 7, 3) := by decide +kernel
theorem d_Model_wars_53 : decode prog_13_method_59_code 53 = .ok (.bipush 10, 2) := by decide +kernel
theorem d_Model_wars_55 : decode prog_13_method_59_code 55 = .ok (.iload 4, 2) := by decide +kernel
theorem d_Model_wars_57 : decode prog_13_method_59_code 57 = .ok (.iadd, 1) := by decide +kernel
theorem d_Model_wars_58 : decode prog_13_method_59_code 58 = .ok (.iaload, 1) := by decide +kernel
theorem d_Model_wars_59 : decode prog_13_method_59_code 59 = .ok (.aload_n 0, 1) := by decide +kernel
theorem d_Model_wars_60 : decode prog_13_method_59_code 60 = .ok (.getfield 7, 3) := by decide +kernel
theorem d_Model_wars_63 : decode prog_13_method_59_code 63 = .ok (.bipush 16, 2) := by decide +kernel
theorem d_Model_wars_65 : decode prog_13_method_59_code 65 = .ok (.iload 4, 2) := by decide +kernel
theorem d_Model_wars_67 : decode prog_13_method_59_code 67 = .ok (.iadd, 1) := by decide +kernel
theorem d_Model_wars_68 : decode prog_13_method_59_code 68 = .ok (.iaload, 1) := by decide +kernel
theorem d_Model_wars_69 : decode prog_13_method_59_code 69 = .ok (.iload_n 1, 1) := by decide +kernel
theorem d_Model_wars_70 : decode prog_13_method_59_code 70 = .ok (.iload 5, 2) := by decide +kernel
theorem d_Model_wars_72 : decode prog_13_method_59_code 72 = .ok (.iconst 1, 1) := by decide +kernel
theorem d_Model_wars_73 : decode prog_13_method_59_code 73 = .ok (.invokevirtual 156, 3) := by decide +kernel
theorem d_Model_wars_76 : decode prog_13_method_59_code 76 = .ok (.aload_n 0, 1) := by decide +kernel
theorem d_Model_wars_77 : decode prog_13_method_59_code 77 = .ok (.aload_n 0, 1) := by decide +kernel
theorem d_Model_wars_78 : decode prog_13_method_59_code 78 = .ok (.getfield 7, 3) := by decide +kernel
theorem d_Model_wars_81 : decode prog_13_method_59_code 81 = .ok (.bipush 10, 2) := by decide +kernel
theorem d_Model_wars_83 : decode prog_13_method_59_code 83 = .ok (.iload 4, 2) := by decide +kernel
theorem d_Model_wars_85 : decode prog_13_method_59_code 85 = .ok (.iadd, 1) := by decide +kernel
theorem d_Model_wars_86 : decode prog_13_method_59_code 86 = .ok (.iaload, 1) := by decide +kernel
theorem d_Model_wars_87 : decode prog_13_method_59_code 87 = .ok (.aload_n 0, 1) := by decide +kernel
theorem d_Model_wars_88 : decode prog_13_method_59_code 88 = .ok (.getfield 7, 3) := by decide +kernel
theorem d_Model_wars_91 : decode prog_13_method_59_code 91 = .ok (.bipush 16, 2) := by decide +kernel
theorem d_Model_wars_93 : decode prog_13_method_59_code 93 = .ok (.iload 4, 2) := by decide +kernel
theorem d_Model_wars_95 : decode prog_13_method_59_code 95 = .ok (.iadd, 1) := by decide +kernel
theorem d_Model_wars_96 : decode prog_13_method_59_code 96 = .ok (.iaload, 1) := by decide +kernel
theorem d_Model_wars_97 : decode prog_13_method_59_code 97 = .ok (.iload_n 1, 1) := by decide +kernel
theorem d_Model_wars_98 : decode prog_13_method_59_code 98 = .ok (.iload 5, 2) := by decide +kernel
theorem d_Model_wars_100 : decode prog_13_method_59_code 100 = .ok (.iconst 0, 1) := by decide +kernel
theorem d_Model_wars_101 : decode prog_13_method_59_code 101 = .ok (.invokevirtual 156, 3) := by decide +kernel
theorem d_Model_wars_104 : decode prog_13_method_59_code 104 = .ok (.isub, 1) := by decide +kernel
theorem d_Model_wars_105 : decode prog_13_method_59_code 105 = .ok (.iadd, 1) := by decide +kernel
theorem d_Model_wars_106 : decode prog_13_method_59_code 106 = .ok (.istore_n 3, 1) := by decide +kernel
theorem d_Model_wars_107 : decode prog_13_method_59_code 107 = .ok (.iinc 4 1, 3) := by decide +kernel
theorem d_Model_wars_110 : decode prog_13_method_59_code 110 = .ok (.goto (-82), 3) := by decide +kernel
theorem d_Model_wars_113 : decode prog_13_method_59_code 113 = .ok (.iload_n 3, 1) := by decide +kernel
theorem d_Model_wars_114 : decode prog_13_method_59_code 114 = .ok (.ireturn, 1) := by decide +kernel
theorem d_Model_sentry_0 : decode prog_13_method_60_code 0 = .ok (.aload_n 0, 1) := by decide +kernel
theorem d_Model_sentry_1 : decode prog_13_method_60_code 1 = .ok (.iload_n 1, 1) := by decide +kernel
theorem d_Model_sentry_2 : decode prog_13_method_60_code 2 = .ok (.invokevirtual 164, 3) := by decide +kernel
theorem d_Model_sentry_5 : decode prog_13_method_60_code 5 = .ok (.ifCond .eq 15, 3) := by decide +kernel
theorem d_Model_sentry_8 : decode prog_13_method_60_code 8 = .ok (.iload_n 2, 1) := by decide +kernel
theorem d_Model_sentry_9 : decode prog_13_method_60_code 9 = .ok (.i2l, 1) := by decide +kernel
theorem d_Model_sentry_10 : decode prog_13_method_60_code 10 = .ok (.lconst 0, 1) := by decide +kernel
theorem d_Model_sentry_11 : decode prog_13_method_60_code 11 = .ok (.ldc2_w 220, 3) := by decide +kernel
theorem d_Model_sentry_14 : decode prog_13_method_60_code 14 = .ok (.invokestatic 52, 3) := by decide +kernel
theorem d_Model_sentry_17 : decode prog_13_method_60_code 17 = .ok (.ifCond .ne 8, 3) := by decide +kernel
theorem d_Model_sentry_20 : decode prog_13_method_60_code 20 = .ok (.aload_n 0, 1) := by decide +kernel
theorem d_Model_sentry_21 : decode prog_13_method_60_code 21 = .ok (.invokevirtual 64, 3) := by decide +kernel
theorem d_Model_sentry_24 : decode prog_13_method_60_code 24 = .ok (.ireturn, 1) := by decide +kernel
theorem d_Model_sentry_25 : decode prog_13_method_60_code 25 = .ok (.lconst 1, 1) := by decide +kernel
theorem d_Model_sentry_26 : decode prog_13_method_60_code 26 = .ok (.lstore_n 3, 1) := by decide +kernel
theorem d_Model_sentry_27 : decode prog_13_method_60_code 27 = .ok (.iconst 0, 1) := by decide +kernel
theorem d_Model_sentry_28 : decode prog_13_method_60_code 28 = .ok (.istore 5, 2) := by decide +kernel
theorem d_Model_sentry_30 : decode prog_13_method_60_code 30 = .ok (.iload 5, 2) := by decide +kernel
theorem d_Model_sentry_32 : decode prog_13_method_60_code 32 = .ok (.iconst 2, 1) := by decide +kernel
theorem d_Model_sentry_33 : decode prog_13_method_60_code 33 = .ok (.if_icmp .ge 63, 3) := by decide +kernel
theorem d_Model_sentry_36 : decode prog_13_method_60_code 36 = .ok (.aload_n 0, 1) := by decide +kernel
theorem d_Model_sentry_37 : decode prog_13_method_60_code 37 = .ok (.iload_n 1, 1) := by decide +kernel
theorem d_Model_sentry_38 : decode prog_13_method_60_code 38 = .ok (.iload 5, 2) := by decide +kernel
theorem d_Model_sentry_40 : decode prog_13_method_60_code 40 = .ok (.aload_n 0, 1) := by decide +kernel
theorem d_Model_sentry_41 : decode prog_13_method_60_code 41 = .ok (.getfield 7, 3) := by decide +kernel
theorem d_Model_sentry_44 : decode prog_13_method_60_code 44 = .ok (.iconst 1, 1) := by decide +kernel
theorem d_Model_sentry_45 : decode prog_13_method_60_code 45 = .ok (.iaload, 1) := by decide +kernel
theorem d_Model_sentry_46 : decode prog_13_method_60_code 46 = .ok (.invokestatic 146, 3) := by decide +kernel
theorem d_Model_sentry_49 : decode prog_13_method_60_code 49 = .ok (.invokevirtual 153, 3) := by decide +kernel
theorem d_Model_sentry_52 : decode prog_13_method_60_code 52 = .ok (.istore 6, 2) := by decide +kernel
theorem d_Model_sentry_54 : decode prog_13_method_60_code 54 = .ok (.lload_n 3, 1) := by decide +kernel
theorem d_Model_sentry_55 : decode prog_13_method_60_code 55 = .ok (.iload 6, 2) := by decide +kernel
theorem d_Model_sentry_57 : decode prog_13_method_60_code 57 = .ok (.ifCond .eq 7, 3) := by decide +kernel
theorem d_Model_sentry_60 : decode prog_13_method_60_code 60 = .ok (.lconst 0, 1) := by decide +kernel
theorem d_Model_sentry_61 : decode prog_13_method_60_code 61 = .ok (.goto 27, 3) := by decide +kernel
theorem d_Model_sentry_64 : decode prog_13_method_60_code 64 = .ok (.aload_n 0, 1) := by decide +kernel
theorem d_Model_sentry_65 : decode prog_13_method_60_code 65 = .ok (.iload_n 1, 1) := by decide +kernel
theorem d_Model_sentry_66 : decode prog_13_method_60_code 66 = .ok (.iload 5, 2) := by decide +kernel
theorem d_Model_sentry_68 : decode prog_13_method_60_code 68 = .ok (.aload_n 0, 1) := by decide +kernel
theorem d_Model_sentry_69 : decode prog_13_method_60_code 69 = .ok (.getfield 7, 3) := by decide +kernel
theorem d_Model_sentry_72 : decode prog_13_method_60_code 72 = .ok (.iconst 1, 1) := by decide +kernel
theorem d_Model_sentry_73 : decode prog_13_method_60_code 73 = .ok (.iaload, 1) := by decide +kernel
theorem d_Model_sentry_74 : decode prog_13_method_60_code 74 = .ok (.invokevirtual 167, 3) := by decide +kernel
theorem d_Model_sentry_77 : decode prog_13_method_60_code 77 = .ok (.ifCond .eq 8, 3) := by decide +kernel
theorem d_Model_sentry_80 : decode prog_13_method_60_code 80 = .ok (.iload_n 2, 1) := by decide +kernel
theorem d_Model_sentry_81 : decode prog_13_method_60_code 81 = .ok (.i2l, 1) := by decide +kernel
theorem d_Model_sentry_82 : decode prog_13_method_60_code 82 = .ok (.goto 6, 3) := by decide +kernel
theorem d_Model_sentry_85 : decode prog_13_method_60_code 85 = .ok (.ldc2_w 220, 3) := by decide +kernel
theorem d_Model_sentry_88 : decode prog_13_method_60_code 88 = .ok (.lmul, 1) := by decide +kernel
theorem d_Model_sentry_89 : decode prog_13_method_60_code 89 = .ok (.lstore_n 3, 1) := by decide +kernel
theorem d_Model_sentry_90 : decode prog_13_method_60_code 90 = .ok (.iinc 5 1, 3) := by decide +kernel
theorem d_Model_sentry_93 : decode prog_13_method_60_code 93 = .ok (.goto (-63), 3) := by decide +kernel
theorem d_Model_sentry_96 : decode prog_13_method_60_code 96 = .ok (.aload_n 0, 1) := by decide +kernel
theorem d_Model_sentry_97 : decode prog_13_method_60_code 97 = .ok (.ldc2_w 222, 3) := by decide +kernel
theorem d_Model_sentry_100 : decode prog_13_method_60_code 100 = .ok (.lload_n 3, 1) := by decide +kernel
theorem d_Model_sentry_101 : decode prog_13_method_60_code 101 = .ok (.lsub, 1) := by decide +kernel
theorem d_Model_sentry_102 : decode prog_13_method_60_code 102 = .ok (.ldc2_w 222, 3) := by decide +kernel
theorem d_Model_sentry_105 : decode prog_13_method_60_code 105 = .ok (.invokevirtual 204, 3) := by decide +kernel
theorem d_Model_sentry_108 : decode prog_13_method_60_code 108 = .ok (.iconst 1, 1) := by decide +kernel
theorem d_Model_sentry_109 : decode prog_13_method_60_code 109 = .ok (.ireturn, 1) := by decide +kernel
theorem d_Model_draw_0 : decode prog_13_method_61_code 0 = .ok (.aload_n 0, 1) := by decide +kernel
theorem d_Model_draw_1 : decode prog_13_method_61_code 1 = .ok (.aload_n 0, 1) := by decide +kernel
theorem d_Model_draw_2 : decode prog_13_method_61_code 2 = .ok (.getfield 224, 3) := by decide +kernel
theorem d_Model_draw_5 : decode prog_13_method_61_code 5 = .ok (.ldc2_w 227, 3) := by decide +kernel
theorem d_Model_draw_8 : decode prog_13_method_61_code 8 = .ok (.lmul, 1) := by decide +kernel
theorem d_Model_draw_9 : decode prog_13_method_61_code 9 = .ok (.ldc2_w 229, 3) := by decide +kernel
theorem d_Model_draw_12 : decode prog_13_method_61_code 12 = .ok (.ladd, 1) := by decide +kernel
theorem d_Model_draw_13 : decode prog_13_method_61_code 13 = .ok (.ldc2_w 231, 3) := by decide +kernel
theorem d_Model_draw_16 : decode prog_13_method_61_code 16 = .ok (.lrem, 1) := by decide +kernel
theorem d_Model_draw_17 : decode prog_13_method_61_code 17 = .ok (.putfield 224, 3) := by decide +kernel
theorem d_Model_draw_20 : decode prog_13_method_61_code 20 = .ok (.aload_n 0, 1) := by decide +kernel
theorem d_Model_draw_21 : decode prog_13_method_61_code 21 = .ok (.getfield 224, 3) := by decide +kernel
theorem d_Model_draw_24 : decode prog_13_method_61_code 24 = .ok (.ldc2_w 233, 3) := by decide +kernel
theorem d_Model_draw_27 : decode prog_13_method_61_code 27 = .ok (.ldiv, 1) := by decide +kernel
theorem d_Model_draw_28 : decode prog_13_method_61_code 28 = .ok (.iload_n 1, 1) := by decide +kernel
theorem d_Model_draw_29 : decode prog_13_method_61_code 29 = .ok (.i2l, 1) := by decide +kernel
theorem d_Model_draw_30 : decode prog_13_method_61_code 30 = .ok (.lrem, 1) := by decide +kernel
theorem d_Model_draw_31 : decode prog_13_method_61_code 31 = .ok (.l2i, 1) := by decide +kernel
theorem d_Model_draw_32 : decode prog_13_method_61_code 32 = .ok (.ireturn, 1) := by decide +kernel
theorem d_Model_days_0 : decode prog_13_method_62_code 0 = .ok (.iload_n 1, 1) := by decide +kernel
theorem d_Model_days_1 : decode prog_13_method_62_code 1 = .ok (.i2l, 1) := by decide +kernel
theorem d_Model_days_2 : decode prog_13_method_62_code 2 = .ok (.lconst 0, 1) := by decide +kernel
theorem d_Model_days_3 : decode prog_13_method_62_code 3 = .ok (.ldc2_w 235, 3) := by decide +kernel
theorem d_Model_days_6 : decode prog_13_method_62_code 6 = .ok (.invokestatic 52, 3) := by decide +kernel
theorem d_Model_days_9 : decode prog_13_method_62_code 9 = .ok (.ifCond .eq 15, 3) := by decide +kernel
theorem d_Model_days_12 : decode prog_13_method_62_code 12 = .ok (.iload_n 2, 1) := by decide +kernel
theorem d_Model_days_13 : decode prog_13_method_62_code 13 = .ok (.i2l, 1) := by decide +kernel
theorem d_Model_days_14 : decode prog_13_method_62_code 14 = .ok (.lconst 0, 1) := by decide +kernel
theorem d_Model_days_15 : decode prog_13_method_62_code 15 = .ok (.ldc2_w 211, 3) := by decide +kernel
theorem d_Model_days_18 : decode prog_13_method_62_code 18 = .ok (.invokestatic 52, 3) := by decide +kernel
theorem d_Model_days_21 : decode prog_13_method_62_code 21 = .ok (.ifCond .ne 8, 3) := by decide +kernel
theorem d_Model_days_24 : decode prog_13_method_62_code 24 = .ok (.aload_n 0, 1) := by decide +kernel
theorem d_Model_days_25 : decode prog_13_method_62_code 25 = .ok (.invokevirtual 64, 3) := by decide +kernel
theorem d_Model_days_28 : decode prog_13_method_62_code 28 = .ok (.ireturn, 1) := by decide +kernel
theorem d_Model_days_29 : decode prog_13_method_62_code 29 = .ok (.aload_n 0, 1) := by decide +kernel
theorem d_Model_days_30 : decode prog_13_method_62_code 30 = .ok (.getfield 7, 3) := by decide +kernel
theorem d_Model_days_33 : decode prog_13_method_62_code 33 = .ok (.bipush 9, 2) := by decide +kernel
theorem d_Model_days_35 : decode prog_13_method_62_code 35 = .ok (.iaload, 1) := by decide +kernel
theorem d_Model_days_36 : decode prog_13_method_62_code 36 = .ok (.ifCond .ne 8, 3) := by decide +kernel
theorem d_Model_days_39 : decode prog_13_method_62_code 39 = .ok (.aload_n 0, 1) := by decide +kernel
theorem d_Model_days_40 : decode prog_13_method_62_code 40 = .ok (.invokevirtual 171, 3) := by decide +kernel
theorem d_Model_days_43 : decode prog_13_method_62_code 43 = .ok (.ireturn, 1) := by decide +kernel
theorem d_Model_days_44 : decode prog_13_method_62_code 44 = .ok (.iconst 0, 1) := by decide +kernel
theorem d_Model_days_45 : decode prog_13_method_62_code 45 = .ok (.istore_n 3, 1) := by decide +kernel
theorem d_Model_days_46 : decode prog_13_method_62_code 46 = .ok (.iload_n 3, 1) := by decide +kernel
theorem d_Model_days_47 : decode prog_13_method_62_code 47 = .ok (.iconst 4, 1) := by decide +kernel
theorem d_Model_days_48 : decode prog_13_method_62_code 48 = .ok (.if_icmp .ge 21, 3) := by decide +kernel
theorem d_Model_days_51 : decode prog_13_method_62_code 51 = .ok (.aload_n 0, 1) := by decide +kernel
theorem d_Model_days_52 : decode prog_13_method_62_code 52 = .ok (.getfield 32, 3) := by decide +kernel
theorem d_Model_days_55 : decode prog_13_method_62_code 55 = .ok (.iload_n 3, 1) := by decide +kernel
theorem d_Model_days_56 : decode prog_13_method_62_code 56 = .ok (.aload_n 0, 1) := by decide +kernel
theorem d_Model_days_57 : decode prog_13_method_62_code 57 = .ok (.getfield 7, 3) := by decide +kernel
theorem d_Model_days_60 : decode prog_13_method_62_code 60 = .ok (.iload_n 3, 1) := by decide +kernel
theorem d_Model_days_61 : decode prog_13_method_62_code 61 = .ok (.iaload, 1) := by decide +kernel
theorem d_Model_days_62 : decode prog_13_method_62_code 62 = .ok (.iastore, 1) := by decide +kernel
theorem d_Model_days_63 : decode prog_13_method_62_code 63 = .ok (.iinc 3 1, 3) := by decide +kernel
theorem d_Model_days_66 : decode prog_13_method_62_code 66 = .ok (.goto (-20), 3) := by decide +kernel
theorem d_Model_days_69 : decode prog_13_method_62_code 69 = .ok (.aload_n 0, 1) := by decide +kernel
theorem d_Model_days_70 : decode prog_13_method_62_code 70 = .ok (.iload_n 1, 1) := by decide +kernel
theorem d_Model_days_71 : decode prog_13_method_62_code 71 = .ok (.i2l, 1) := by decide +kernel
theorem d_Model_days_72 : decode prog_13_method_62_code 72 = .ok (.putfield 224, 3) := by decide +kernel
theorem d_Model_days_75 : decode prog_13_method_62_code 75 = .ok (.iconst 0, 1) := by decide +kernel
theorem d_Model_days_76 : decode prog_13_method_62_code 76 = .ok (.istore_n 3, 1) := by decide +kernel
theorem d_Model_days_77 : decode prog_13_method_62_code 77 = .ok (.iconst 0, 1) := by decide +kernel
theorem d_Model_days_78 : decode prog_13_method_62_code 78 = .ok (.istore 4, 2) := by decide +kernel
theorem d_Model_days_80 : decode prog_13_method_62_code 80 = .ok (.iload 4, 2) := by decide +kernel
theorem d_Model_days_82 : decode prog_13_method_62_code 82 = .ok (.iload_n 2, 1) := by decide +kernel
theorem d_Model_days_83 : decode prog_13_method_62_code 83 = .ok (.if_icmp .ge 77, 3) := by decide +kernel
theorem d_Model_days_86 : decode prog_13_method_62_code 86 = .ok (.aload_n 0, 1) := by decide +kernel
theorem d_Model_days_87 : decode prog_13_method_62_code 87 = .ok (.aload_n 0, 1) := by decide +kernel
theorem d_Model_days_88 : decode prog_13_method_62_code 88 = .ok (.getfield 7, 3) := by decide +kernel
theorem d_Model_days_91 : decode prog_13_method_62_code 91 = .ok (.bipush 9, 2) := by decide +kernel
theorem d_Model_days_93 : decode prog_13_method_62_code 93 = .ok (.iaload, 1) := by decide +kernel
theorem d_Model_days_94 : decode prog_13_method_62_code 94 = .ok (.invokevirtual 237, 3) := by decide +kernel
theorem d_Model_days_97 : decode prog_13_method_62_code 97 = .ok (.istore 5, 2) := by decide +kernel
theorem d_Model_days_99 : decode prog_13_method_62_code 99 = .ok (.aload_n 0, 1) := by decide +kernel
theorem d_Model_days_100 : decode prog_13_method_62_code 100 = .ok (.iconst 2, 1) := by decide +kernel
theorem d_Model_days_101 : decode prog_13_method_62_code 101 = .ok (.invokevirtual 237, 3) := by decide +kernel
theorem d_Model_days_104 : decode prog_13_method_62_code 104 = .ok (.istore 6, 2) := by decide +kernel
theorem d_Model_days_106 : decode prog_13_method_62_code 106 = .ok (.aload_n 0, 1) := by decide +kernel
theorem d_Model_days_107 : decode prog_13_method_62_code 107 = .ok (.iload 5, 2) := by decide +kernel
theorem d_Model_days_109 : decode prog_13_method_62_code 109 = .ok (.iload 6, 2) := by decide +kernel
theorem d_Model_days_111 : decode prog_13_method_62_code 111 = .ok (.aload_n 0, 1) := by decide +kernel
theorem d_Model_days_112 : decode prog_13_method_62_code 112 = .ok (.getfield 7, 3) := by decide +kernel
theorem d_Model_days_115 : decode prog_13_method_62_code 115 = .ok (.iconst 1, 1) := by decide +kernel
theorem d_Model_days_116 : decode prog_13_method_62_code 116 = .ok (.iaload, 1) := by decide +kernel
theorem d_Model_days_117 : decode prog_13_method_62_code 117 = .ok (.invokevirtual 167, 3) := by decide +kernel
theorem d_Model_days_120 : decode prog_13_method_62_code 120 = .ok (.ifCond .eq 17, 3) := by decide +kernel
theorem d_Model_days_123 : decode prog_13_method_62_code 123 = .ok (.iload_n 3, 1) := by decide +kernel
theorem d_Model_days_124 : decode prog_13_method_62_code 124 = .ok (.aload_n 0, 1) := by decide +kernel
theorem d_Model_days_125 : decode prog_13_method_62_code 125 = .ok (.iload 5, 2) := by decide +kernel
theorem d_Model_days_127 : decode prog_13_method_62_code 127 = .ok (.iload 6, 2) := by decide +kernel
theorem d_Model_days_129 : decode prog_13_method_62_code 129 = .ok (.invokevirtual 177, 3) := by decide +kernel
theorem d_Model_days_132 : decode prog_13_method_62_code 132 = .ok (.iadd, 1) := by decide +kernel
theorem d_Model_days_133 : decode prog_13_method_62_code 133 = .ok (.istore_n 3, 1) := by decide +kernel
theorem d_Model_days_134 : decode prog_13_method_62_code 134 = .ok (.goto 20, 3) := by decide +kernel
theorem d_Model_days_137 : decode prog_13_method_62_code 137 = .ok (.aload_n 0, 1) := by decide +kernel
theorem d_Model_days_138 : decode prog_13_method_62_code 138 = .ok (.getfield 7, 3) := by decide +kernel
theorem d_Model_days_141 : decode prog_13_method_62_code 141 = .ok (.iconst 1, 1) := by decide +kernel
theorem d_Model_days_142 : decode prog_13_method_62_code 142 = .ok (.aload_n 0, 1) := by decide +kernel
theorem d_Model_days_143 : decode prog_13_method_62_code 143 = .ok (.getfield 7, 3) := by decide +kernel
theorem d_Model_days_146 : decode prog_13_method_62_code 146 = .ok (.iconst 1, 1) := by decide +kernel
theorem d_Model_days_147 : decode prog_13_method_62_code 147 = .ok (.iaload, 1) := by decide +kernel
theorem d_Model_days_148 : decode prog_13_method_62_code 148 = .ok (.iconst 1, 1) := by decide +kernel
theorem d_Model_days_149 : decode prog_13_method_62_code 149 = .ok (.iadd, 1) := by decide +kernel
theorem d_Model_days_150 : decode prog_13_method_62_code 150 = .ok (.bipush 24, 2) := by decide +kernel
theorem d_Model_days_152 : decode prog_13_method_62_code 152 = .ok (.irem, 1) := by decide +kernel
theorem d_Model_days_153 : decode prog_13_method_62_code 153 = .ok (.iastore, 1) := by decide +kernel
theorem d_Model_days_154 : decode prog_13_method_62_code 154 = .ok (.iinc 4 1, 3) := by decide +kernel
theorem d_Model_days_157 : decode prog_13_method_62_code 157 = .ok (.goto (-77), 3) := by decide +kernel
theorem d_Model_days_160 : decode prog_13_method_62_code 160 = .ok (.iconst 0, 1) := by decide +kernel
theorem d_Model_days_161 : decode prog_13_method_62_code 161 = .ok (.istore 4, 2) := by decide +kernel
theorem d_Model_days_163 : decode prog_13_method_62_code 163 = .ok (.iload 4, 2) := by decide +kernel
theorem d_Model_days_165 : decode prog_13_method_62_code 165 = .ok (.iconst 4, 1) := by decide +kernel
theorem d_Model_days_166 : decode prog_13_method_62_code 166 = .ok (.if_icmp .ge 23, 3) := by decide +kernel
theorem d_Model_days_169 : decode prog_13_method_62_code 169 = .ok (.aload_n 0, 1) := by decide +kernel
theorem d_Model_days_170 : decode prog_13_method_62_code 170 = .ok (.getfield 7, 3) := by decide +kernel
theorem d_Model_days_173 : decode prog_13_method_62_code 173 = .ok (.iload 4, 2) := by decide +kernel
theorem d_Model_days_175 : decode prog_13_method_62_code 175 = .ok (.aload_n 0, 1) := by decide +kernel
theorem d_Model_days_176 : decode prog_13_method_62_code 176 = .ok (.getfield 32, 3) := by decide +kernel
theorem d_Model_days_179 : decode prog_13_method_62_code 179 = .ok (.iload 4, 2) := by decide +kernel
theorem d_Model_days_181 : decode prog_13_method_62_code 181 = .ok (.iaload, 1) := by decide +kernel
theorem d_Model_days_182 : decode prog_13_method_62_code 182 = .ok (.iastore, 1) := by decide +kernel
theorem d_Model_days_183 : decode prog_13_method_62_code 183 = .ok (.iinc 4 1, 3) := by decide +kernel
theorem d_Model_days_186 : decode prog_13_method_62_code 186 = .ok (.goto (-23), 3) := by decide +kernel
theorem d_Model_days_189 : decode prog_13_method_62_code 189 = .ok (.iload_n 3, 1) := by decide +kernel
theorem d_Model_days_190 : decode prog_13_method_62_code 190 = .ok (.ireturn, 1) := by decide +kernel
theorem d_Model_part_0 : decode prog_13_method_63_code 0 = .ok (.iload_n 1, 1) := by decide +kernel
theorem d_Model_part_1 : decode prog_13_method_63_code 1 = .ok (.ifCond .ne 10, 3) := by decide +kernel
theorem d_Model_part_4 : decode prog_13_method_63_code 4 = .ok (.aload_n 0, 1) := by decide +kernel
theorem d_Model_part_5 : decode prog_13_method_63_code 5 = .ok (.getfield 196, 3) := by decide +kernel
theorem d_Model_part_8 : decode prog_13_method_63_code 8 = .ok (.goto 20, 3) := by decide +kernel
theorem d_Model_part_11 : decode prog_13_method_63_code 11 = .ok (.iload_n 1, 1) := by decide +kernel
theorem d_Model_part_12 : decode prog_13_method_63_code 12 = .ok (.iconst 1, 1) := by decide +kernel
theorem d_Model_part_13 : decode prog_13_method_63_code 13 = .ok (.if_icmp .ne 10, 3) := by decide +kernel
theorem d_Model_part_16 : decode prog_13_method_63_code 16 = .ok (.aload_n 0, 1) := by decide +kernel
theorem d_Model_part_17 : decode prog_13_method_63_code 17 = .ok (.getfield 13, 3) := by decide +kernel
theorem d_Model_part_20 : decode prog_13_method_63_code 20 = .ok (.goto 8, 3) := by decide +kernel
theorem d_Model_part_23 : decode prog_13_method_63_code 23 = .ok (.aload_n 0, 1) := by decide +kernel
theorem d_Model_part_24 : decode prog_13_method_63_code 24 = .ok (.invokevirtual 64, 3) := by decide +kernel
theorem d_Model_part_27 : decode prog_13_method_63_code 27 = .ok (.i2l, 1) := by decide +kernel
theorem d_Model_part_28 : decode prog_13_method_63_code 28 = .ok (.lreturn, 1) := by decide +kernel
theorem d_Model_image_0 : decode prog_13_method_64_code 0 = .ok (.iload_n 1, 1) := by decide +kernel
theorem d_Model_image_1 : decode prog_13_method_64_code 1 = .ok (.i2l, 1) := by decide +kernel
theorem d_Model_image_2 : decode prog_13_method_64_code 2 = .ok (.lconst 0, 1) := by decide +kernel
theorem d_Model_image_3 : decode prog_13_method_64_code 3 = .ok (.lconst 1, 1) := by decide +kernel
theorem d_Model_image_4 : decode prog_13_method_64_code 4 = .ok (.invokestatic 52, 3) := by decide +kernel
theorem d_Model_image_7 : decode prog_13_method_64_code 7 = .ok (.ifCond .ne 8, 3) := by decide +kernel
theorem d_Model_image_10 : decode prog_13_method_64_code 10 = .ok (.aload_n 0, 1) := by decide +kernel
theorem d_Model_image_11 : decode prog_13_method_64_code 11 = .ok (.invokevirtual 64, 3) := by decide +kernel
theorem d_Model_image_14 : decode prog_13_method_64_code 14 = .ok (.ireturn, 1) := by decide +kernel
theorem d_Model_image_15 : decode prog_13_method_64_code 15 = .ok (.iconst 0, 1) := by decide +kernel
theorem d_Model_image_16 : decode prog_13_method_64_code 16 = .ok (.istore_n 2, 1) := by decide +kernel
theorem d_Model_image_17 : decode prog_13_method_64_code 17 = .ok (.iload_n 2, 1) := by decide +kernel
theorem d_Model_image_18 : decode prog_13_method_64_code 18 = .ok (.bipush 53, 2) := by decide +kernel
theorem d_Model_image_20 : decode prog_13_method_64_code 20 = .ok (.if_icmp .ge 26, 3) := by decide +kernel
theorem d_Model_image_23 : decode prog_13_method_64_code 23 = .ok (.aload_n 0, 1) := by decide +kernel
theorem d_Model_image_24 : decode prog_13_method_64_code 24 = .ok (.getfield 39, 3) := by decide +kernel
theorem d_Model_image_27 : decode prog_13_method_64_code 27 = .ok (.bipush 53, 2) := by decide +kernel
theorem d_Model_image_29 : decode prog_13_method_64_code 29 = .ok (.iload_n 1, 1) := by decide +kernel
theorem d_Model_image_30 : decode prog_13_method_64_code 30 = .ok (.imul, 1) := by decide +kernel
theorem d_Model_image_31 : decode prog_13_method_64_code 31 = .ok (.iload_n 2, 1) := by decide +kernel
theorem d_Model_image_32 : decode prog_13_method_64_code 32 = .ok (.iadd, 1) := by decide +kernel
theorem d_Model_image_33 : decode prog_13_method_64_code 33 = .ok (.aload_n 0, 1) := by decide +kernel
theorem d_Model_image_34 : decode prog_13_method_64_code 34 = .ok (.getfield 7, 3) := by decide +kernel
theorem d_Model_image_37 : decode prog_13_method_64_code 37 = .ok (.iload_n 2, 1) := by decide +kernel
theorem d_Model_image_38 : decode prog_13_method_64_code 38 = .ok (.iaload, 1) := by decide +kernel
theorem d_Model_image_39 : decode prog_13_method_64_code 39 = .ok (.iastore, 1) := by decide +kernel
theorem d_Model_image_40 : decode prog_13_method_64_code 40 = .ok (.iinc 2 1, 3) := by decide +kernel
theorem d_Model_image_43 : decode prog_13_method_64_code 43 = .ok (.goto (-26), 3) := by decide +kernel
theorem d_Model_image_46 : decode prog_13_method_64_code 46 = .ok (.iconst 0, 1) := by decide +kernel
theorem d_Model_image_47 : decode prog_13_method_64_code 47 = .ok (.istore_n 2, 1) := by decide +kernel
theorem d_Model_image_48 : decode prog_13_method_64_code 48 = .ok (.iload_n 2, 1) := by decide +kernel
theorem d_Model_image_49 : decode prog_13_method_64_code 49 = .ok (.bipush 32, 2) := by decide +kernel
theorem d_Model_image_51 : decode prog_13_method_64_code 51 = .ok (.if_icmp .ge 26, 3) := by decide +kernel
theorem d_Model_image_54 : decode prog_13_method_64_code 54 = .ok (.aload_n 0, 1) := by decide +kernel
theorem d_Model_image_55 : decode prog_13_method_64_code 55 = .ok (.getfield 42, 3) := by decide +kernel
theorem d_Model_image_58 : decode prog_13_method_64_code 58 = .ok (.bipush 32, 2) := by decide +kernel
theorem d_Model_image_60 : decode prog_13_method_64_code 60 = .ok (.iload_n 1, 1) := by decide +kernel
theorem d_Model_image_61 : decode prog_13_method_64_code 61 = .ok (.imul, 1) := by decide +kernel
theorem d_Model_image_62 : decode prog_13_method_64_code 62 = .ok (.iload_n 2, 1) := by decide +kernel
theorem d_Model_image_63 : decode prog_13_method_64_code 63 = .ok (.iadd, 1) := by decide +kernel
theorem d_Model_image_64 : decode prog_13_method_64_code 64 = .ok (.aload_n 0, 1) := by decide +kernel
theorem d_Model_image_65 : decode prog_13_method_64_code 65 = .ok (.getfield 26, 3) := by decide +kernel
theorem d_Model_image_68 : decode prog_13_method_64_code 68 = .ok (.iload_n 2, 1) := by decide +kernel
theorem d_Model_image_69 : decode prog_13_method_64_code 69 = .ok (.iaload, 1) := by decide +kernel
theorem d_Model_image_70 : decode prog_13_method_64_code 70 = .ok (.iastore, 1) := by decide +kernel
theorem d_Model_image_71 : decode prog_13_method_64_code 71 = .ok (.iinc 2 1, 3) := by decide +kernel
theorem d_Model_image_74 : decode prog_13_method_64_code 74 = .ok (.goto (-26), 3) := by decide +kernel
theorem d_Model_image_77 : decode prog_13_method_64_code 77 = .ok (.aload_n 0, 1) := by decide +kernel
theorem d_Model_image_78 : decode prog_13_method_64_code 78 = .ok (.getfield 45, 3) := by decide +kernel
theorem d_Model_image_81 : decode prog_13_method_64_code 81 = .ok (.iload_n 1, 1) := by decide +kernel
theorem d_Model_image_82 : decode prog_13_method_64_code 82 = .ok (.aload_n 0, 1) := by decide +kernel
theorem d_Model_image_83 : decode prog_13_method_64_code 83 = .ok (.getfield 58, 3) := by decide +kernel
theorem d_Model_image_86 : decode prog_13_method_64_code 86 = .ok (.iastore, 1) := by decide +kernel
theorem d_Model_image_87 : decode prog_13_method_64_code 87 = .ok (.aload_n 0, 1) := by decide +kernel
theorem d_Model_image_88 : decode prog_13_method_64_code 88 = .ok (.getfield 35, 3) := by decide +kernel
theorem d_Model_image_91 : decode prog_13_method_64_code 91 = .ok (.iload_n 1, 1) := by decide +kernel
theorem d_Model_image_92 : decode prog_13_method_64_code 92 = .ok (.iconst 1, 1) := by decide +kernel
theorem d_Model_image_93 : decode prog_13_method_64_code 93 = .ok (.bastore, 1) := by decide +kernel
theorem d_Model_image_94 : decode prog_13_method_64_code 94 = .ok (.iconst 1, 1) := by decide +kernel
theorem d_Model_image_95 : decode prog_13_method_64_code 95 = .ok (.ireturn, 1) := by decide +kernel
theorem d_Model_from_0 : decode prog_13_method_65_code 0 = .ok (.iload_n 1, 1) := by decide +kernel
theorem d_Model_from_1 : decode prog_13_method_65_code 1 = .ok (.i2l, 1) := by decide +kernel
theorem d_Model_from_2 : decode prog_13_method_65_code 2 = .ok (.lconst 0, 1) := by decide +kernel
theorem d_Model_from_3 : decode prog_13_method_65_code 3 = .ok (.lconst 1, 1) := by decide +kernel
theorem d_Model_from_4 : decode prog_13_method_65_code 4 = .ok (.invokestatic 52, 3) := by decide +kernel
theorem d_Model_from_7 : decode prog_13_method_65_code 7 = .ok (.ifCond .ne 8, 3) := by decide +kernel
theorem d_Model_from_10 : decode prog_13_method_65_code 10 = .ok (.aload_n 0, 1) := by decide +kernel
theorem d_Model_from_11 : decode prog_13_method_65_code 11 = .ok (.invokevirtual 64, 3) := by decide +kernel
theorem d_Model_from_14 : decode prog_13_method_65_code 14 = .ok (.ireturn, 1) := by decide +kernel
theorem d_Model_from_15 : decode prog_13_method_65_code 15 = .ok (.aload_n 0, 1) := by decide +kernel
theorem d_Model_from_16 : decode prog_13_method_65_code 16 = .ok (.getfield 35, 3) := by decide +kernel
theorem d_Model_from_19 : decode prog_13_method_65_code 19 = .ok (.iload_n 1, 1) := by decide +kernel
theorem d_Model_from_20 : decode prog_13_method_65_code 20 = .ok (.baload, 1) := by decide +kernel
theorem d_Model_from_21 : decode prog_13_method_65_code 21 = .ok (.ifCond .ne 8, 3) := by decide +kernel
theorem d_Model_from_24 : decode prog_13_method_65_code 24 = .ok (.aload_n 0, 1) := by decide +kernel
theorem d_Model_from_25 : decode prog_13_method_65_code 25 = .ok (.invokevirtual 171, 3) := by decide +kernel
theorem d_Model_from_28 : decode prog_13_method_65_code 28 = .ok (.ireturn, 1) := by decide +kernel
theorem d_Model_from_29 : decode prog_13_method_65_code 29 = .ok (.iconst 0, 1) := by decide +kernel
theorem d_Model_from_30 : decode prog_13_method_65_code 30 = .ok (.istore_n 2, 1) := by decide +kernel
theorem d_Model_from_31 : decode prog_13_method_65_code 31 = .ok (.iload_n 2, 1) := by decide +kernel
theorem d_Model_from_32 : decode prog_13_method_65_code 32 = .ok (.bipush 53, 2) := by decide +kernel
theorem d_Model_from_34 : decode prog_13_method_65_code 34 = .ok (.if_icmp .ge 26, 3) := by decide +kernel
theorem d_Model_from_37 : decode prog_13_method_65_code 37 = .ok (.aload_n 0, 1) := by decide +kernel
theorem d_Model_from_38 : decode prog_13_method_65_code 38 = .ok (.getfield 7, 3) := by decide +kernel
theorem d_Model_from_41 : decode prog_13_method_65_code 41 = .ok (.iload_n 2, 1) := by decide +kernel
theorem d_Model_from_42 : decode prog_13_method_65_code 42 = .ok (.aload_n 0, 1) := by decide +kernel
theorem d_Model_from_43 : decode prog_13_method_65_code 43 = .ok (.getfield 39, 3) := by decide +kernel
theorem d_Model_from_46 : decode prog_13_method_65_code 46 = .ok (.bipush 53, 2) := by decide +kernel
theorem d_Model_from_48 : decode prog_13_method_65_code 48 = .ok (.iload_n 1, 1) := by decide +kernel
theorem d_Model_from_49 : decode prog_13_method_65_code 49 = .ok (.imul, 1) := by decide +kernel
theorem d_Model_from_50 : decode prog_13_method_65_code 50 = .ok (.iload_n 2, 1) := by decide +kernel
theorem d_Model_from_51 : decode prog_13_method_65_code 51 = .ok (.iadd, 1) := by decide +kernel
theorem d_Model_from_52 : decode prog_13_method_65_code 52 = .ok (.iaload, 1) := by decide +kernel
theorem d_Model_from_53 : decode prog_13_method_65_code 53 = .ok (.iastore, 1) := by decide +kernel
theorem d_Model_from_54 : decode prog_13_method_65_code 54 = .ok (.iinc 2 1, 3) := by decide +kernel
theorem d_Model_from_57 : decode prog_13_method_65_code 57 = .ok (.goto (-26), 3) := by decide +kernel
theorem d_Model_from_60 : decode prog_13_method_65_code 60 = .ok (.iconst 0, 1) := by decide +kernel
theorem d_Model_from_61 : decode prog_13_method_65_code 61 = .ok (.istore_n 2, 1) := by decide +kernel
theorem d_Model_from_62 : decode prog_13_method_65_code 62 = .ok (.iload_n 2, 1) := by decide +kernel
theorem d_Model_from_63 : decode prog_13_method_65_code 63 = .ok (.bipush 32, 2) := by decide +kernel
theorem d_Model_from_65 : decode prog_13_method_65_code 65 = .ok (.if_icmp .ge 26, 3) := by decide +kernel
theorem d_Model_from_68 : decode prog_13_method_65_code 68 = .ok (.aload_n 0, 1) := by decide +kernel
theorem d_Model_from_69 : decode prog_13_method_65_code 69 = .ok (.getfield 26, 3) := by decide +kernel
theorem d_Model_from_72 : decode prog_13_method_65_code 72 = .ok (.iload_n 2, 1) := by decide +kernel
theorem d_Model_from_73 : decode prog_13_method_65_code 73 = .ok (.aload_n 0, 1) := by decide +kernel
theorem d_Model_from_74 : decode prog_13_method_65_code 74 = .ok (.getfield 42, 3) := by decide +kernel
theorem d_Model_from_77 : decode prog_13_method_65_code 77 = .ok (.bipush 32, 2) := by decide +kernel
theorem d_Model_from_79 : decode prog_13_method_65_code 79 = .ok (.iload_n 1, 1) := by decide +kernel
theorem d_Model_from_80 : decode prog_13_method_65_code 80 = .ok (.imul, 1) := by decide +kernel
theorem d_Model_from_81 : decode prog_13_method_65_code 81 = .ok (.iload_n 2, 1) := by decide +kernel
theorem d_Model_from_82 : decode prog_13_method_65_code 82 = .ok (.iadd, 1) := by decide +kernel
theorem d_Model_from_83 : decode prog_13_method_65_code 83 = .ok (.iaload, 1) := by decide +kernel
theorem d_Model_from_84 : decode prog_13_method_65_code 84 = .ok (.iastore, 1) := by decide +kernel
theorem d_Model_from_85 : decode prog_13_method_65_code 85 = .ok (.iinc 2 1, 3) := by decide +kernel
theorem d_Model_from_88 : decode prog_13_method_65_code 88 = .ok (.goto (-26), 3) := by decide +kernel
theorem d_Model_from_91 : decode prog_13_method_65_code 91 = .ok (.aload_n 0, 1) := by decide +kernel
theorem d_Model_from_92 : decode prog_13_method_65_code 92 = .ok (.aload_n 0, 1) := by decide +kernel
theorem d_Model_from_93 : decode prog_13_method_65_code 93 = .ok (.getfield 45, 3) := by decide +kernel
theorem d_Model_from_96 : decode prog_13_method_65_code 96 = .ok (.iload_n 1, 1) := by decide +kernel
theorem d_Model_from_97 : decode prog_13_method_65_code 97 = .ok (.iaload, 1) := by decide +kernel
theorem d_Model_from_98 : decode prog_13_method_65_code 98 = .ok (.putfield 58, 3) := by decide +kernel
theorem d_Model_from_101 : decode prog_13_method_65_code 101 = .ok (.iconst 1, 1) := by decide +kernel
theorem d_Model_from_102 : decode prog_13_method_65_code 102 = .ok (.ireturn, 1) := by decide +kernel
theorem d_Model_status_0 : decode prog_13_method_66_code 0 = .ok (.iload_n 1, 1) := by decide +kernel
theorem d_Model_status_1 : decode prog_13_method_66_code 1 = .ok (.i2l, 1) := by decide +kernel
theorem d_Model_status_2 : decode prog_13_method_66_code 2 = .ok (.lconst 0, 1) := by decide +kernel
theorem d_Model_status_3 : decode prog_13_method_66_code 3 = .ok (.ldc2_w 240, 3) := by decide +kernel
theorem d_Model_status_6 : decode prog_13_method_66_code 6 = .ok (.invokestatic 52, 3) := by decide +kernel
theorem d_Model_status_9 : decode prog_13_method_66_code 9 = .ok (.ifCond .ne 10, 3) := by decide +kernel
theorem d_Model_status_12 : decode prog_13_method_66_code 12 = .ok (.aload_n 0, 1) := by decide +kernel
theorem d_Model_status_13 : decode prog_13_method_66_code 13 = .ok (.invokevirtual 64, 3) := by decide +kernel
theorem d_Model_status_16 : decode prog_13_method_66_code 16 = .ok (.pop, 1) := by decide +kernel
theorem d_Model_status_17 : decode prog_13_method_66_code 17 = .ok (.iconst (-1), 1) := by decide +kernel
theorem d_Model_status_18 : decode prog_13_method_66_code 18 = .ok (.ireturn, 1) := by decide +kernel
theorem d_Model_status_19 : decode prog_13_method_66_code 19 = .ok (.aload_n 0, 1) := by decide +kernel
theorem d_Model_status_20 : decode prog_13_method_66_code 20 = .ok (.getfield 17, 3) := by decide +kernel
theorem d_Model_status_23 : decode prog_13_method_66_code 23 = .ok (.iload_n 1, 1) := by decide +kernel
theorem d_Model_status_24 : decode prog_13_method_66_code 24 = .ok (.iaload, 1) := by decide +kernel
theorem d_Model_status_25 : decode prog_13_method_66_code 25 = .ok (.ireturn, 1) := by decide +kernel
theorem d_Model_countOf_0 : decode prog_13_method_67_code 0 = .ok (.iload_n 1, 1) := by decide +kernel
theorem d_Model_countOf_1 : decode prog_13_method_67_code 1 = .ok (.tableswitch 81 0 5 #[39, 47, 54, 61, 68, 76], 39) := by decide +kernel
theorem d_Model_countOf_40 : decode prog_13_method_67_code 40 = .ok (.aload_n 0, 1) := by decide +kernel
theorem d_Model_countOf_41 : decode prog_13_method_67_code 41 = .ok (.getfield 7, 3) := by decide +kernel
theorem d_Model_countOf_44 : decode prog_13_method_67_code 44 = .ok (.bipush 9, 2) := by decide +kernel
theorem d_Model_countOf_46 : decode prog_13_method_67_code 46 = .ok (.iaload, 1) := by decide +kernel
theorem d_Model_countOf_47 : decode prog_13_method_67_code 47 = .ok (.ireturn, 1) := by decide +kernel
theorem d_Model_countOf_48 : decode prog_13_method_67_code 48 = .ok (.aload_n 0, 1) := by decide +kernel
theorem d_Model_countOf_49 : decode prog_13_method_67_code 49 = .ok (.getfield 7, 3) := by decide +kernel
theorem d_Model_countOf_52 : decode prog_13_method_67_code 52 = .ok (.iconst 1, 1) := by decide +kernel
theorem d_Model_countOf_53 : decode prog_13_method_67_code 53 = .ok (.iaload, 1) := by decide +kernel
theorem d_Model_countOf_54 : decode prog_13_method_67_code 54 = .ok (.ireturn, 1) := by decide +kernel
theorem d_Model_countOf_55 : decode prog_13_method_67_code 55 = .ok (.aload_n 0, 1) := by decide +kernel
theorem d_Model_countOf_56 : decode prog_13_method_67_code 56 = .ok (.getfield 7, 3) := by decide +kernel
theorem d_Model_countOf_59 : decode prog_13_method_67_code 59 = .ok (.iconst 0, 1) := by decide +kernel
theorem d_Model_countOf_60 : decode prog_13_method_67_code 60 = .ok (.iaload, 1) := by decide +kernel
theorem d_Model_countOf_61 : decode prog_13_method_67_code 61 = .ok (.ireturn, 1) := by decide +kernel
theorem d_Model_countOf_62 : decode prog_13_method_67_code 62 = .ok (.aload_n 0, 1) := by decide +kernel
theorem d_Model_countOf_63 : decode prog_13_method_67_code 63 = .ok (.getfield 7, 3) := by decide +kernel
theorem d_Model_countOf_66 : decode prog_13_method_67_code 66 = .ok (.iconst 2, 1) := by decide +kernel
theorem d_Model_countOf_67 : decode prog_13_method_67_code 67 = .ok (.iaload, 1) := by decide +kernel
theorem d_Model_countOf_68 : decode prog_13_method_67_code 68 = .ok (.ireturn, 1) := by decide +kernel
theorem d_Model_countOf_69 : decode prog_13_method_67_code 69 = .ok (.aload_n 0, 1) := by decide +kernel
theorem d_Model_countOf_70 : decode prog_13_method_67_code 70 = .ok (.getfield 7, 3) := by decide +kernel
theorem d_Model_countOf_73 : decode prog_13_method_67_code 73 = .ok (.bipush 22, 2) := by decide +kernel
theorem d_Model_countOf_75 : decode prog_13_method_67_code 75 = .ok (.iaload, 1) := by decide +kernel
theorem d_Model_countOf_76 : decode prog_13_method_67_code 76 = .ok (.ireturn, 1) := by decide +kernel
theorem d_Model_countOf_77 : decode prog_13_method_67_code 77 = .ok (.aload_n 0, 1) := by decide +kernel
theorem d_Model_countOf_78 : decode prog_13_method_67_code 78 = .ok (.getfield 58, 3) := by decide +kernel
theorem d_Model_countOf_81 : decode prog_13_method_67_code 81 = .ok (.ireturn, 1) := by decide +kernel
theorem d_Model_countOf_82 : decode prog_13_method_67_code 82 = .ok (.aload_n 0, 1) := by decide +kernel
theorem d_Model_countOf_83 : decode prog_13_method_67_code 83 = .ok (.getfield 87, 3) := by decide +kernel
theorem d_Model_countOf_86 : decode prog_13_method_67_code 86 = .ok (.ireturn, 1) := by decide +kernel
theorem d_Model_count_0 : decode prog_13_method_68_code 0 = .ok (.iload_n 1, 1) := by decide +kernel
theorem d_Model_count_1 : decode prog_13_method_68_code 1 = .ok (.i2l, 1) := by decide +kernel
theorem d_Model_count_2 : decode prog_13_method_68_code 2 = .ok (.lconst 0, 1) := by decide +kernel
theorem d_Model_count_3 : decode prog_13_method_68_code 3 = .ok (.ldc2_w 242, 3) := by decide +kernel
theorem d_Model_count_6 : decode prog_13_method_68_code 6 = .ok (.invokestatic 52, 3) := by decide +kernel
theorem d_Model_count_9 : decode prog_13_method_68_code 9 = .ok (.ifCond .eq 11, 3) := by decide +kernel
theorem d_Model_count_12 : decode prog_13_method_68_code 12 = .ok (.aload_n 0, 1) := by decide +kernel
theorem d_Model_count_13 : decode prog_13_method_68_code 13 = .ok (.iload_n 1, 1) := by decide +kernel
theorem d_Model_count_14 : decode prog_13_method_68_code 14 = .ok (.invokevirtual 244, 3) := by decide +kernel
theorem d_Model_count_17 : decode prog_13_method_68_code 17 = .ok (.goto 7, 3) := by decide +kernel
theorem d_Model_count_20 : decode prog_13_method_68_code 20 = .ok (.aload_n 0, 1) := by decide +kernel
theorem d_Model_count_21 : decode prog_13_method_68_code 21 = .ok (.invokevirtual 64, 3) := by decide +kernel
theorem d_Model_count_24 : decode prog_13_method_68_code 24 = .ok (.ireturn, 1) := by decide +kernel
theorem d_Model_digest_0 : decode prog_13_method_69_code 0 = .ok (.ldc2_w 247, 3) := by decide +kernel
theorem d_Model_digest_3 : decode prog_13_method_69_code 3 = .ok (.lstore_n 1, 1) := by decide +kernel
theorem d_Model_digest_4 : decode prog_13_method_69_code 4 = .ok (.iconst 0, 1) := by decide +kernel
theorem d_Model_digest_5 : decode prog_13_method_69_code 5 = .ok (.istore_n 3, 1) := by decide +kernel
theorem d_Model_digest_6 : decode prog_13_method_69_code 6 = .ok (.iload_n 3, 1) := by decide +kernel
theorem d_Model_digest_7 : decode prog_13_method_69_code 7 = .ok (.bipush 7, 2) := by decide +kernel
theorem d_Model_digest_9 : decode prog_13_method_69_code 9 = .ok (.if_icmp .ge 22, 3) := by decide +kernel
theorem d_Model_digest_12 : decode prog_13_method_69_code 12 = .ok (.ldc2_w 249, 3) := by decide +kernel
theorem d_Model_digest_15 : decode prog_13_method_69_code 15 = .ok (.lload_n 1, 1) := by decide +kernel
theorem d_Model_digest_16 : decode prog_13_method_69_code 16 = .ok (.lmul, 1) := by decide +kernel
theorem d_Model_digest_17 : decode prog_13_method_69_code 17 = .ok (.aload_n 0, 1) := by decide +kernel
theorem d_Model_digest_18 : decode prog_13_method_69_code 18 = .ok (.iload_n 3, 1) := by decide +kernel
theorem d_Model_digest_19 : decode prog_13_method_69_code 19 = .ok (.invokevirtual 244, 3) := by decide +kernel
theorem d_Model_digest_22 : decode prog_13_method_69_code 22 = .ok (.i2l, 1) := by decide +kernel
theorem d_Model_digest_23 : decode prog_13_method_69_code 23 = .ok (.ladd, 1) := by decide +kernel
theorem d_Model_digest_24 : decode prog_13_method_69_code 24 = .ok (.lstore_n 1, 1) := by decide +kernel
theorem d_Model_digest_25 : decode prog_13_method_69_code 25 = .ok (.iinc 3 1, 3) := by decide +kernel
theorem d_Model_digest_28 : decode prog_13_method_69_code 28 = .ok (.goto (-22), 3) := by decide +kernel
theorem d_Model_digest_31 : decode prog_13_method_69_code 31 = .ok (.ldc2_w 249, 3) := by decide +kernel
theorem d_Model_digest_34 : decode prog_13_method_69_code 34 = .ok (.lload_n 1, 1) := by decide +kernel
theorem d_Model_digest_35 : decode prog_13_method_69_code 35 = .ok (.lmul, 1) := by decide +kernel
theorem d_Model_digest_36 : decode prog_13_method_69_code 36 = .ok (.aload_n 0, 1) := by decide +kernel
theorem d_Model_digest_37 : decode prog_13_method_69_code 37 = .ok (.getfield 7, 3) := by decide +kernel
theorem d_Model_digest_40 : decode prog_13_method_69_code 40 = .ok (.iconst 4, 1) := by decide +kernel
theorem d_Model_digest_41 : decode prog_13_method_69_code 41 = .ok (.iaload, 1) := by decide +kernel
theorem d_Model_digest_42 : decode prog_13_method_69_code 42 = .ok (.i2l, 1) := by decide +kernel
theorem d_Model_digest_43 : decode prog_13_method_69_code 43 = .ok (.ladd, 1) := by decide +kernel
theorem d_Model_digest_44 : decode prog_13_method_69_code 44 = .ok (.lstore_n 1, 1) := by decide +kernel
theorem d_Model_digest_45 : decode prog_13_method_69_code 45 = .ok (.ldc2_w 249, 3) := by decide +kernel
theorem d_Model_digest_48 : decode prog_13_method_69_code 48 = .ok (.lload_n 1, 1) := by decide +kernel
theorem d_Model_digest_49 : decode prog_13_method_69_code 49 = .ok (.lmul, 1) := by decide +kernel
theorem d_Model_digest_50 : decode prog_13_method_69_code 50 = .ok (.aload_n 0, 1) := by decide +kernel
theorem d_Model_digest_51 : decode prog_13_method_69_code 51 = .ok (.getfield 7, 3) := by decide +kernel
theorem d_Model_digest_54 : decode prog_13_method_69_code 54 = .ok (.iconst 3, 1) := by decide +kernel
theorem d_Model_digest_55 : decode prog_13_method_69_code 55 = .ok (.iaload, 1) := by decide +kernel
theorem d_Model_digest_56 : decode prog_13_method_69_code 56 = .ok (.i2l, 1) := by decide +kernel
theorem d_Model_digest_57 : decode prog_13_method_69_code 57 = .ok (.ladd, 1) := by decide +kernel
theorem d_Model_digest_58 : decode prog_13_method_69_code 58 = .ok (.lstore_n 1, 1) := by decide +kernel
theorem d_Model_digest_59 : decode prog_13_method_69_code 59 = .ok (.iconst 0, 1) := by decide +kernel
theorem d_Model_digest_60 : decode prog_13_method_69_code 60 = .ok (.istore_n 3, 1) := by decide +kernel
theorem d_Model_digest_61 : decode prog_13_method_69_code 61 = .ok (.iload_n 3, 1) := by decide +kernel
theorem d_Model_digest_62 : decode prog_13_method_69_code 62 = .ok (.iconst 2, 1) := by decide +kernel
theorem d_Model_digest_63 : decode prog_13_method_69_code 63 = .ok (.if_icmp .ge 42, 3) := by decide +kernel
theorem d_Model_digest_66 : decode prog_13_method_69_code 66 = .ok (.ldc2_w 249, 3) := by decide +kernel
theorem d_Model_digest_69 : decode prog_13_method_69_code 69 = .ok (.lload_n 1, 1) := by decide +kernel
theorem d_Model_digest_70 : decode prog_13_method_69_code 70 = .ok (.lmul, 1) := by decide +kernel
theorem d_Model_digest_71 : decode prog_13_method_69_code 71 = .ok (.aload_n 0, 1) := by decide +kernel
theorem d_Model_digest_72 : decode prog_13_method_69_code 72 = .ok (.getfield 7, 3) := by decide +kernel
theorem d_Model_digest_75 : decode prog_13_method_69_code 75 = .ok (.iconst 5, 1) := by decide +kernel
theorem d_Model_digest_76 : decode prog_13_method_69_code 76 = .ok (.iload_n 3, 1) := by decide +kernel
theorem d_Model_digest_77 : decode prog_13_method_69_code 77 = .ok (.iadd, 1) := by decide +kernel
theorem d_Model_digest_78 : decode prog_13_method_69_code 78 = .ok (.iaload, 1) := by decide +kernel
theorem d_Model_digest_79 : decode prog_13_method_69_code 79 = .ok (.i2l, 1) := by decide +kernel
theorem d_Model_digest_80 : decode prog_13_method_69_code 80 = .ok (.ladd, 1) := by decide +kernel
theorem d_Model_digest_81 : decode prog_13_method_69_code 81 = .ok (.lstore_n 1, 1) := by decide +kernel
theorem d_Model_digest_82 : decode prog_13_method_69_code 82 = .ok (.ldc2_w 249, 3) := by decide +kernel
theorem d_Model_digest_85 : decode prog_13_method_69_code 85 = .ok (.lload_n 1, 1) := by decide +kernel
theorem d_Model_digest_86 : decode prog_13_method_69_code 86 = .ok (.lmul, 1) := by decide +kernel
theorem d_Model_digest_87 : decode prog_13_method_69_code 87 = .ok (.aload_n 0, 1) := by decide +kernel
theorem d_Model_digest_88 : decode prog_13_method_69_code 88 = .ok (.getfield 7, 3) := by decide +kernel
theorem d_Model_digest_91 : decode prog_13_method_69_code 91 = .ok (.bipush 7, 2) := by decide +kernel
theorem d_Model_digest_93 : decode prog_13_method_69_code 93 = .ok (.iload_n 3, 1) := by decide +kernel
theorem d_Model_digest_94 : decode prog_13_method_69_code 94 = .ok (.iadd, 1) := by decide +kernel
theorem d_Model_digest_95 : decode prog_13_method_69_code 95 = .ok (.iaload, 1) := by decide +kernel
theorem d_Model_digest_96 : decode prog_13_method_69_code 96 = .ok (.i2l, 1) := by decide +kernel
theorem d_Model_digest_97 : decode prog_13_method_69_code 97 = .ok (.ladd, 1) := by decide +kernel
theorem d_Model_digest_98 : decode prog_13_method_69_code 98 = .ok (.lstore_n 1, 1) := by decide +kernel
theorem d_Model_digest_99 : decode prog_13_method_69_code 99 = .ok (.iinc 3 1, 3) := by decide +kernel
theorem d_Model_digest_102 : decode prog_13_method_69_code 102 = .ok (.goto (-41), 3) := by decide +kernel
theorem d_Model_digest_105 : decode prog_13_method_69_code 105 = .ok (.iconst 0, 1) := by decide +kernel
theorem d_Model_digest_106 : decode prog_13_method_69_code 106 = .ok (.istore_n 3, 1) := by decide +kernel
theorem d_Model_digest_107 : decode prog_13_method_69_code 107 = .ok (.iload_n 3, 1) := by decide +kernel
theorem d_Model_digest_108 : decode prog_13_method_69_code 108 = .ok (.aload_n 0, 1) := by decide +kernel
theorem d_Model_digest_109 : decode prog_13_method_69_code 109 = .ok (.getfield 7, 3) := by decide +kernel
theorem d_Model_digest_112 : decode prog_13_method_69_code 112 = .ok (.bipush 9, 2) := by decide +kernel
theorem d_Model_digest_114 : decode prog_13_method_69_code 114 = .ok (.iaload, 1) := by decide +kernel
theorem d_Model_digest_115 : decode prog_13_method_69_code 115 = .ok (.if_icmp .ge 43, 3) := by decide +kernel
theorem d_Model_digest_118 : decode prog_13_method_69_code 118 = .ok (.ldc2_w 249, 3) := by decide +kernel
theorem d_Model_digest_121 : decode prog_13_method_69_code 121 = .ok (.lload_n 1, 1) := by decide +kernel
theorem d_Model_digest_122 : decode prog_13_method_69_code 122 = .ok (.lmul, 1) := by decide +kernel
theorem d_Model_digest_123 : decode prog_13_method_69_code 123 = .ok (.aload_n 0, 1) := by decide +kernel
theorem d_Model_digest_124 : decode prog_13_method_69_code 124 = .ok (.getfield 7, 3) := by decide +kernel
theorem d_Model_digest_127 : decode prog_13_method_69_code 127 = .ok (.bipush 10, 2) := by decide +kernel
theorem d_Model_digest_129 : decode prog_13_method_69_code 129 = .ok (.iload_n 3, 1) := by decide +kernel
theorem d_Model_digest_130 : decode prog_13_method_69_code 130 = .ok (.iadd, 1) := by decide +kernel
theorem d_Model_digest_131 : decode prog_13_method_69_code 131 = .ok (.iaload, 1) := by decide +kernel
theorem d_Model_digest_132 : decode prog_13_method_69_code 132 = .ok (.i2l, 1) := by decide +kernel
theorem d_Model_digest_133 : decode prog_13_method_69_code 133 = .ok (.ladd, 1) := by decide +kernel
theorem d_Model_digest_134 : decode prog_13_method_69_code 134 = .ok (.lstore_n 1, 1) := by decide +kernel
theorem d_Model_digest_135 : decode prog_13_method_69_code 135 = .ok (.ldc2_w 249, 3) := by decide +kernel
theorem d_Model_digest_138 : decode prog_13_method_69_code 138 = .ok (.lload_n 1, 1) := by decide +kernel
theorem d_Model_digest_139 : decode prog_13_method_69_code 139 = .ok (.lmul, 1) := by decide +kernel
theorem d_Model_digest_140 : decode prog_13_method_69_code 140 = .ok (.aload_n 0, 1) := by decide +kernel
theorem d_Model_digest_141 : decode prog_13_method_69_code 141 = .ok (.getfield 7, 3) := by decide +kernel
theorem d_Model_digest_144 : decode prog_13_method_69_code 144 = .ok (.bipush 16, 2) := by decide +kernel
theorem d_Model_digest_146 : decode prog_13_method_69_code 146 = .ok (.iload_n 3, 1) := by decide +kernel
theorem d_Model_digest_147 : decode prog_13_method_69_code 147 = .ok (.iadd, 1) := by decide +kernel
theorem d_Model_digest_148 : decode prog_13_method_69_code 148 = .ok (.iaload, 1) := by decide +kernel
theorem d_Model_digest_149 : decode prog_13_method_69_code 149 = .ok (.i2l, 1) := by decide +kernel
theorem d_Model_digest_150 : decode prog_13_method_69_code 150 = .ok (.ladd, 1) := by decide +kernel
theorem d_Model_digest_151 : decode prog_13_method_69_code 151 = .ok (.lstore_n 1, 1) := by decide +kernel
theorem d_Model_digest_152 : decode prog_13_method_69_code 152 = .ok (.iinc 3 1, 3) := by decide +kernel
theorem d_Model_digest_155 : decode prog_13_method_69_code 155 = .ok (.goto (-48), 3) := by decide +kernel
theorem d_Model_digest_158 : decode prog_13_method_69_code 158 = .ok (.iconst 0, 1) := by decide +kernel
theorem d_Model_digest_159 : decode prog_13_method_69_code 159 = .ok (.istore_n 3, 1) := by decide +kernel
theorem d_Model_digest_160 : decode prog_13_method_69_code 160 = .ok (.iload_n 3, 1) := by decide +kernel
theorem d_Model_digest_161 : decode prog_13_method_69_code 161 = .ok (.iconst 5, 1) := by decide +kernel
theorem d_Model_digest_162 : decode prog_13_method_69_code 162 = .ok (.aload_n 0, 1) := by decide +kernel
theorem d_Model_digest_163 : decode prog_13_method_69_code 163 = .ok (.getfield 7, 3) := by decide +kernel
theorem d_Model_digest_166 : decode prog_13_method_69_code 166 = .ok (.bipush 22, 2) := by decide +kernel
theorem d_Model_digest_168 : decode prog_13_method_69_code 168 = .ok (.iaload, 1) := by decide +kernel
theorem d_Model_digest_169 : decode prog_13_method_69_code 169 = .ok (.imul, 1) := by decide +kernel
theorem d_Model_digest_170 : decode prog_13_method_69_code 170 = .ok (.if_icmp .ge 26, 3) := by decide +kernel
theorem d_Model_digest_173 : decode prog_13_method_69_code 173 = .ok (.ldc2_w 249, 3) := by decide +kernel
theorem d_Model_digest_176 : decode prog_13_method_69_code 176 = .ok (.lload_n 1, 1) := by decide +kernel
theorem d_Model_digest_177 : decode prog_13_method_69_code 177 = .ok (.lmul, 1) := by decide +kernel
theorem d_Model_digest_178 : decode prog_13_method_69_code 178 = .ok (.aload_n 0, 1) := by decide +kernel
theorem d_Model_digest_179 : decode prog_13_method_69_code 179 = .ok (.getfield 7, 3) := by decide +kernel
theorem d_Model_digest_182 : decode prog_13_method_69_code 182 = .ok (.bipush 23, 2) := by decide +kernel
theorem d_Model_digest_184 : decode prog_13_method_69_code 184 = .ok (.iload_n 3, 1) := by decide +kernel
theorem d_Model_digest_185 : decode prog_13_method_69_code 185 = .ok (.iadd, 1) := by decide +kernel
theorem d_Model_digest_186 : decode prog_13_method_69_code 186 = .ok (.iaload, 1) := by decide +kernel
theorem d_Model_digest_187 : decode prog_13_method_69_code 187 = .ok (.i2l, 1) := by decide +kernel
theorem d_Model_digest_188 : decode prog_13_method_69_code 188 = .ok (.ladd, 1) := by decide +kernel
theorem d_Model_digest_189 : decode prog_13_method_69_code 189 = .ok (.lstore_n 1, 1) := by decide +kernel
theorem d_Model_digest_190 : decode prog_13_method_69_code 190 = .ok (.iinc 3 1, 3) := by decide +kernel
theorem d_Model_digest_193 : decode prog_13_method_69_code 193 = .ok (.goto (-33), 3) := by decide +kernel
theorem d_Model_digest_196 : decode prog_13_method_69_code 196 = .ok (.ldc2_w 249, 3) := by decide +kernel
theorem d_Model_digest_199 : decode prog_13_method_69_code 199 = .ok (.lload_n 1, 1) := by decide +kernel
theorem d_Model_digest_200 : decode prog_13_method_69_code 200 = .ok (.lmul, 1) := by decide +kernel
theorem d_Model_digest_201 : decode prog_13_method_69_code 201 = .ok (.aload_n 0, 1) := by decide +kernel
theorem d_Model_digest_202 : decode prog_13_method_69_code 202 = .ok (.getfield 196, 3) := by decide +kernel
theorem d_Model_digest_205 : decode prog_13_method_69_code 205 = .ok (.ladd, 1) := by decide +kernel
theorem d_Model_digest_206 : decode prog_13_method_69_code 206 = .ok (.lstore_n 1, 1) := by decide +kernel
theorem d_Model_digest_207 : decode prog_13_method_69_code 207 = .ok (.ldc2_w 249, 3) := by decide +kernel
theorem d_Model_digest_210 : decode prog_13_method_69_code 210 = .ok (.lload_n 1, 1) := by decide +kernel
theorem d_Model_digest_211 : decode prog_13_method_69_code 211 = .ok (.lmul, 1) := by decide +kernel
theorem d_Model_digest_212 : decode prog_13_method_69_code 212 = .ok (.aload_n 0, 1) := by decide +kernel
theorem d_Model_digest_213 : decode prog_13_method_69_code 213 = .ok (.getfield 13, 3) := by decide +kernel
theorem d_Model_digest_216 : decode prog_13_method_69_code 216 = .ok (.ladd, 1) := by decide +kernel
theorem d_Model_digest_217 : decode prog_13_method_69_code 217 = .ok (.lreturn, 1) := by decide +kernel
theorem d_Law_law_0 : decode code 0 = .ok (.new 7, 3) := by decide +kernel
theorem d_Law_law_3 : decode code 3 = .ok (.dup, 1) := by decide +kernel
theorem d_Law_law_4 : decode code 4 = .ok (.invokespecial 9, 3) := by decide +kernel
theorem d_Law_law_7 : decode code 7 = .ok (.astore_n 1, 1) := by decide +kernel
theorem d_Law_law_8 : decode code 8 = .ok (.new 10, 3) := by decide +kernel
theorem d_Law_law_11 : decode code 11 = .ok (.dup, 1) := by decide +kernel
theorem d_Law_law_12 : decode code 12 = .ok (.invokespecial 12, 3) := by decide +kernel
theorem d_Law_law_15 : decode code 15 = .ok (.astore_n 2, 1) := by decide +kernel
theorem d_Law_law_16 : decode code 16 = .ok (.iconst 0, 1) := by decide +kernel
theorem d_Law_law_17 : decode code 17 = .ok (.istore_n 3, 1) := by decide +kernel
theorem d_Law_law_18 : decode code 18 = .ok (.iload_n 3, 1) := by decide +kernel
theorem d_Law_law_19 : decode code 19 = .ok (.aload_n 0, 1) := by decide +kernel
theorem d_Law_law_20 : decode code 20 = .ok (.arraylength, 1) := by decide +kernel
theorem d_Law_law_21 : decode code 21 = .ok (.bipush 6, 2) := by decide +kernel
theorem d_Law_law_23 : decode code 23 = .ok (.isub, 1) := by decide +kernel
theorem d_Law_law_24 : decode code 24 = .ok (.if_icmp .gt 1063, 3) := by decide +kernel
theorem d_Law_law_27 : decode code 27 = .ok (.aload_n 0, 1) := by decide +kernel
theorem d_Law_law_28 : decode code 28 = .ok (.iload_n 3, 1) := by decide +kernel
theorem d_Law_law_29 : decode code 29 = .ok (.iaload, 1) := by decide +kernel
theorem d_Law_law_30 : decode code 30 = .ok (.bipush 63, 2) := by decide +kernel
theorem d_Law_law_32 : decode code 32 = .ok (.iand, 1) := by decide +kernel
theorem d_Law_law_33 : decode code 33 = .ok (.tableswitch 1048 0 32 #[147, 170, 203, 236, 269, 292, 305, 318, 351, 374, 397, 410, 443, 466, 509, 542, 565, 618, 641, 664, 687, 750, 763, 786, 819, 852, 885, 918, 942, 965, 988, 1011, 1034], 147) := by decide +kernel
theorem d_Law_law_180 : decode code 180 = .ok (.aload_n 1, 1) := by decide +kernel
theorem d_Law_law_181 : decode code 181 = .ok (.aload_n 0, 1) := by decide +kernel
theorem d_Law_law_182 : decode code 182 = .ok (.iload_n 3, 1) := by decide +kernel
theorem d_Law_law_183 : decode code 183 = .ok (.iconst 1, 1) := by decide +kernel
theorem d_Law_law_184 : decode code 184 = .ok (.iadd, 1) := by decide +kernel
theorem d_Law_law_185 : decode code 185 = .ok (.iaload, 1) := by decide +kernel
theorem d_Law_law_186 : decode code 186 = .ok (.invokevirtual 13, 3) := by decide +kernel
theorem d_Law_law_189 : decode code 189 = .ok (.aload_n 2, 1) := by decide +kernel
theorem d_Law_law_190 : decode code 190 = .ok (.aload_n 0, 1) := by decide +kernel
theorem d_Law_law_191 : decode code 191 = .ok (.iload_n 3, 1) := by decide +kernel
theorem d_Law_law_192 : decode code 192 = .ok (.iconst 1, 1) := by decide +kernel
theorem d_Law_law_193 : decode code 193 = .ok (.iadd, 1) := by decide +kernel
theorem d_Law_law_194 : decode code 194 = .ok (.iaload, 1) := by decide +kernel
theorem d_Law_law_195 : decode code 195 = .ok (.invokevirtual 17, 3) := by decide +kernel
theorem d_Law_law_198 : decode code 198 = .ok (.if_icmp .eq 883, 3) := by decide +kernel
theorem d_Law_law_201 : decode code 201 = .ok (.iconst 0, 1) := by decide +kernel
theorem d_Law_law_202 : decode code 202 = .ok (.ireturn, 1) := by decide +kernel
theorem d_Law_law_203 : decode code 203 = .ok (.aload_n 1, 1) := by decide +kernel
theorem d_Law_law_204 : decode code 204 = .ok (.aload_n 0, 1) := by decide +kernel
theorem d_Law_law_205 : decode code 205 = .ok (.iload_n 3, 1) := by decide +kernel
theorem d_Law_law_206 : decode code 206 = .ok (.iconst 1, 1) := by decide +kernel
theorem d_Law_law_207 : decode code 207 = .ok (.iadd, 1) := by decide +kernel
theorem d_Law_law_208 : decode code 208 = .ok (.iaload, 1) := by decide +kernel
theorem d_Law_law_209 : decode code 209 = .ok (.aload_n 0, 1) := by decide +kernel
theorem d_Law_law_210 : decode code 210 = .ok (.iload_n 3, 1) := by decide +kernel
theorem d_Law_law_211 : decode code 211 = .ok (.iconst 2, 1) := by decide +kernel
theorem d_Law_law_212 : decode code 212 = .ok (.iadd, 1) := by decide +kernel
theorem d_Law_law_213 : decode code 213 = .ok (.iaload, 1) := by decide +kernel
theorem d_Law_law_214 : decode code 214 = .ok (.invokevirtual 18, 3) := by decide +kernel
theorem d_Law_law_217 : decode code 217 = .ok (.aload_n 2, 1) := by decide +kernel
theorem d_Law_law_218 : decode code 218 = .ok (.aload_n 0, 1) := by decide +kernel
theorem d_Law_law_219 : decode code 219 = .ok (.iload_n 3, 1) := by decide +kernel
theorem d_Law_law_220 : decode code 220 = .ok (.iconst 1, 1) := by decide +kernel
theorem d_Law_law_221 : decode code 221 = .ok (.iadd, 1) := by decide +kernel
theorem d_Law_law_222 : decode code 222 = .ok (.iaload, 1) := by decide +kernel
theorem d_Law_law_223 : decode code 223 = .ok (.aload_n 0, 1) := by decide +kernel
theorem d_Law_law_224 : decode code 224 = .ok (.iload_n 3, 1) := by decide +kernel
theorem d_Law_law_225 : decode code 225 = .ok (.iconst 2, 1) := by decide +kernel
theorem d_Law_law_226 : decode code 226 = .ok (.iadd, 1) := by decide +kernel
theorem d_Law_law_227 : decode code 227 = .ok (.iaload, 1) := by decide +kernel
theorem d_Law_law_228 : decode code 228 = .ok (.invokevirtual 22, 3) := by decide +kernel
theorem d_Law_law_231 : decode code 231 = .ok (.if_icmp .eq 850, 3) := by decide +kernel
theorem d_Law_law_234 : decode code 234 = .ok (.iconst 0, 1) := by decide +kernel
theorem d_Law_law_235 : decode code 235 = .ok (.ireturn, 1) := by decide +kernel
theorem d_Law_law_236 : decode code 236 = .ok (.aload_n 1, 1) := by decide +kernel
theorem d_Law_law_237 : decode code 237 = .ok (.aload_n 0, 1) := by decide +kernel
theorem d_Law_law_238 : decode code 238 = .ok (.iload_n 3, 1) := by decide +kernel
theorem d_Law_law_239 : decode code 239 = .ok (.iconst 1, 1) := by decide +kernel
theorem d_Law_law_240 : decode code 240 = .ok (.iadd, 1) := by decide +kernel
theorem d_Law_law_241 : decode code 241 = .ok (.iaload, 1) := by decide +kernel
theorem d_Law_law_242 : decode code 242 = .ok (.aload_n 0, 1) := by decide +kernel
theorem d_Law_law_243 : decode code 243 = .ok (.iload_n 3, 1) := by decide +kernel
theorem d_Law_law_244 : decode code 244 = .ok (.iconst 2, 1) := by decide +kernel
theorem d_Law_law_245 : decode code 245 = .ok (.iadd, 1) := by decide +kernel
theorem d_Law_law_246 : decode code 246 = .ok (.iaload, 1) := by decide +kernel
theorem d_Law_law_247 : decode code 247 = .ok (.invokevirtual 23, 3) := by decide +kernel
theorem d_Law_law_250 : decode code 250 = .ok (.aload_n 2, 1) := by decide +kernel
theorem d_Law_law_251 : decode code 251 = .ok (.aload_n 0, 1) := by decide +kernel
theorem d_Law_law_252 : decode code 252 = .ok (.iload_n 3, 1) := by decide +kernel
theorem d_Law_law_253 : decode code 253 = .ok (.iconst 1, 1) := by decide +kernel
theorem d_Law_law_254 : decode code 254 = .ok (.iadd, 1) := by decide +kernel
theorem d_Law_law_255 : decode code 255 = .ok (.iaload, 1) := by decide +kernel
theorem d_Law_law_256 : decode code 256 = .ok (.aload_n 0, 1) := by decide +kernel
theorem d_Law_law_257 : decode code 257 = .ok (.iload_n 3, 1) := by decide +kernel
theorem d_Law_law_258 : decode code 258 = .ok (.iconst 2, 1) := by decide +kernel
theorem d_Law_law_259 : decode code 259 = .ok (.iadd, 1) := by decide +kernel
theorem d_Law_law_260 : decode code 260 = .ok (.iaload, 1) := by decide +kernel
theorem d_Law_law_261 : decode code 261 = .ok (.invokevirtual 26, 3) := by decide +kernel
theorem d_Law_law_264 : decode code 264 = .ok (.if_icmp .eq 817, 3) := by decide +kernel
theorem d_Law_law_267 : decode code 267 = .ok (.iconst 0, 1) := by decide +kernel
theorem d_Law_law_268 : decode code 268 = .ok (.ireturn, 1) := by decide +kernel
theorem d_Law_law_269 : decode code 269 = .ok (.aload_n 1, 1) := by decide +kernel
theorem d_Law_law_270 : decode code 270 = .ok (.aload_n 0, 1) := by decide +kernel
theorem d_Law_law_271 : decode code 271 = .ok (.iload_n 3, 1) := by decide +kernel
theorem d_Law_law_272 : decode code 272 = .ok (.iconst 1, 1) := by decide +kernel
theorem d_Law_law_273 : decode code 273 = .ok (.iadd, 1) := by decide +kernel
theorem d_Law_law_274 : decode code 274 = .ok (.iaload, 1) := by decide +kernel
theorem d_Law_law_275 : decode code 275 = .ok (.aload_n 0, 1) := by decide +kernel
theorem d_Law_law_276 : decode code 276 = .ok (.iload_n 3, 1) := by decide +kernel
theorem d_Law_law_277 : decode code 277 = .ok (.iconst 2, 1) := by decide +kernel
theorem d_Law_law_278 : decode code 278 = .ok (.iadd, 1) := by decide +kernel
theorem d_Law_law_279 : decode code 279 = .ok (.iaload, 1) := by decide +kernel
theorem d_Law_law_280 : decode code 280 = .ok (.invokevirtual 27, 3) := by decide +kernel
theorem d_Law_law_283 : decode code 283 = .ok (.aload_n 2, 1) := by decide +kernel
theorem d_Law_law_284 : decode code 284 = .ok (.aload_n 0, 1) := by decide +kernel
theorem d_Law_law_285 : decode code 285 = .ok (.iload_n 3, 1) := by decide +kernel
theorem d_Law_law_286 : decode code 286 = .ok (.iconst 1, 1) := by decide +kernel
theorem d_Law_law_287 : decode code 287 = .ok (.iadd, 1) := by decide +kernel
theorem d_Law_law_288 : decode code 288 = .ok (.iaload, 1) := by decide +kernel
theorem d_Law_law_289 : decode code 289 = .ok (.aload_n 0, 1) := by decide +kernel
theorem d_Law_law_290 : decode code 290 = .ok (.iload_n 3, 1) := by decide +kernel
theorem d_Law_law_291 : decode code 291 = .ok (.iconst 2, 1) := by decide +kernel
theorem d_Law_law_292 : decode code 292 = .ok (.iadd, 1) := by decide +kernel
theorem d_Law_law_293 : decode code 293 = .ok (.iaload, 1) := by decide +kernel
theorem d_Law_law_294 : decode code 294 = .ok (.invokevirtual 30, 3) := by decide +kernel
theorem d_Law_law_297 : decode code 297 = .ok (.if_icmp .eq 784, 3) := by decide +kernel
theorem d_Law_law_300 : decode code 300 = .ok (.iconst 0, 1) := by decide +kernel
theorem d_Law_law_301 : decode code 301 = .ok (.ireturn, 1) := by decide +kernel
theorem d_Law_law_302 : decode code 302 = .ok (.aload_n 1, 1) := by decide +kernel
theorem d_Law_law_303 : decode code 303 = .ok (.aload_n 0, 1) := by decide +kernel
theorem d_Law_law_304 : decode code 304 = .ok (.iload_n 3, 1) := by decide +kernel
theorem d_Law_law_305 : decode code 305 = .ok (.iconst 1, 1) := by decide +kernel
theorem d_Law_law_306 : decode code 306 = .ok (.iadd, 1) := by decide +kernel
theorem d_Law_law_307 : decode code 307 = .ok (.iaload, 1) := by decide +kernel
theorem d_Law_law_308 : decode code 308 = .ok (.invokevirtual 31, 3) := by decide +kernel
theorem d_Law_law_311 : decode code 311 = .ok (.aload_n 2, 1) := by decide +kernel
theorem d_Law_law_312 : decode code 312 = .ok (.aload_n 0, 1) := by decide +kernel
theorem d_Law_law_313 : decode code 313 = .ok (.iload_n 3, 1) := by decide +kernel
theorem d_Law_law_314 : decode code 314 = .ok (.iconst 1, 1) := by decide +kernel
theorem d_Law_law_315 : decode code 315 = .ok (.iadd, 1) := by decide +kernel
theorem d_Law_law_316 : decode code 316 = .ok (.iaload, 1) := by decide +kernel
theorem d_Law_law_317 : decode code 317 = .ok (.invokevirtual 34, 3) := by decide +kernel
theorem d_Law_law_320 : decode code 320 = .ok (.if_icmp .eq 761, 3) := by decide +kernel
theorem d_Law_law_323 : decode code 323 = .ok (.iconst 0, 1) := by decide +kernel
theorem d_Law_law_324 : decode code 324 = .ok (.ireturn, 1) := by decide +kernel
theorem d_Law_law_325 : decode code 325 = .ok (.aload_n 1, 1) := by decide +kernel
theorem d_Law_law_326 : decode code 326 = .ok (.invokevirtual 35, 3) := by decide +kernel
theorem d_Law_law_329 : decode code 329 = .ok (.aload_n 2, 1) := by decide +kernel
theorem d_Law_law_330 : decode code 330 = .ok (.invokevirtual 39, 3) := by decide +kernel
theorem d_Law_law_333 : decode code 333 = .ok (.if_icmp .eq 748, 3) := by decide +kernel
theorem d_Law_law_336 : decode code 336 = .ok (.iconst 0, 1) := by decide +kernel
theorem d_Law_law_337 : decode code 337 = .ok (.ireturn, 1) := by decide +kernel
theorem d_Law_law_338 : decode code 338 = .ok (.aload_n 1, 1) := by decide +kernel
theorem d_Law_law_339 : decode code 339 = .ok (.invokevirtual 40, 3) := by decide +kernel
theorem d_Law_law_342 : decode code 342 = .ok (.aload_n 2, 1) := by decide +kernel
theorem d_Law_law_343 : decode code 343 = .ok (.invokevirtual 43, 3) := by decide +kernel
theorem d_Law_law_346 : decode code 346 = .ok (.if_icmp .eq 735, 3) := by decide +kernel
theorem d_Law_law_349 : decode code 349 = .ok (.iconst 0, 1) := by decide +kernel
theorem d_Law_law_350 : decode code 350 = .ok (.ireturn, 1) := by decide +kernel
theorem d_Law_law_351 : decode code 351 = .ok (.aload_n 1, 1) := by decide +kernel
theorem d_Law_law_352 : decode code 352 = .ok (.aload_n 0, 1) := by decide +kernel
theorem d_Law_law_353 : decode code 353 = .ok (.iload_n 3, 1) := by decide +kernel
theorem d_Law_law_354 : decode code 354 = .ok (.iconst 1, 1) := by decide +kernel
theorem d_Law_law_355 : decode code 355 = .ok (.iadd, 1) := by decide +kernel
theorem d_Law_law_356 : decode code 356 = .ok (.iaload, 1) := by decide +kernel
theorem d_Law_law_357 : decode code 357 = .ok (.aload_n 0, 1) := by decide +kernel
theorem d_Law_law_358 : decode code 358 = .ok (.iload_n 3, 1) := by decide +kernel
theorem d_Law_law_359 : decode code 359 = .ok (.iconst 2, 1) := by decide +kernel
theorem d_Law_law_360 : decode code 360 = .ok (.iadd, 1) := by decide +kernel
theorem d_Law_law_361 : decode code 361 = .ok (.iaload, 1) := by decide +kernel
theorem d_Law_law_362 : decode code 362 = .ok (.invokevirtual 44, 3) := by decide +kernel
theorem d_Law_law_365 : decode code 365 = .ok (.aload_n 2, 1) := by decide +kernel
theorem d_Law_law_366 : decode code 366 = .ok (.aload_n 0, 1) := by decide +kernel
theorem d_Law_law_367 : decode code 367 = .ok (.iload_n 3, 1) := by decide +kernel
theorem d_Law_law_368 : decode code 368 = .ok (.iconst 1, 1) := by decide +kernel
theorem d_Law_law_369 : decode code 369 = .ok (.iadd, 1) := by decide +kernel
theorem d_Law_law_370 : decode code 370 = .ok (.iaload, 1) := by decide +kernel
theorem d_Law_law_371 : decode code 371 = .ok (.aload_n 0, 1) := by decide +kernel
theorem d_Law_law_372 : decode code 372 = .ok (.iload_n 3, 1) := by decide +kernel
theorem d_Law_law_373 : decode code 373 = .ok (.iconst 2, 1) := by decide +kernel
theorem d_Law_law_374 : decode code 374 = .ok (.iadd, 1) := by decide +kernel
theorem d_Law_law_375 : decode code 375 = .ok (.iaload, 1) := by decide +kernel
theorem d_Law_law_376 : decode code 376 = .ok (.invokevirtual 47, 3) := by decide +kernel
theorem d_Law_law_379 : decode code 379 = .ok (.if_icmp .eq 702, 3) := by decide +kernel
theorem d_Law_law_382 : decode code 382 = .ok (.iconst 0, 1) := by decide +kernel
theorem d_Law_law_383 : decode code 383 = .ok (.ireturn, 1) := by decide +kernel
theorem d_Law_law_384 : decode code 384 = .ok (.aload_n 1, 1) := by decide +kernel
theorem d_Law_law_385 : decode code 385 = .ok (.aload_n 0, 1) := by decide +kernel
theorem d_Law_law_386 : decode code 386 = .ok (.iload_n 3, 1) := by decide +kernel
theorem d_Law_law_387 : decode code 387 = .ok (.iconst 1, 1) := by decide +kernel
theorem d_Law_law_388 : decode code 388 = .ok (.iadd, 1) := by decide +kernel
theorem d_Law_law_389 : decode code 389 = .ok (.iaload, 1) := by decide +kernel
theorem d_Law_law_390 : decode code 390 = .ok (.invokevirtual 48, 3) := by decide +kernel
theorem d_Law_law_393 : decode code 393 = .ok (.aload_n 2, 1) := by decide +kernel
theorem d_Law_law_394 : decode code 394 = .ok (.aload_n 0, 1) := by decide +kernel
theorem d_Law_law_395 : decode code 395 = .ok (.iload_n 3, 1) := by decide +kernel
theorem d_Law_law_396 : decode code 396 = .ok (.iconst 1, 1) := by decide +kernel
theorem d_Law_law_397 : decode code 397 = .ok (.iadd, 1) := by decide +kernel
theorem d_Law_law_398 : decode code 398 = .ok (.iaload, 1) := by decide +kernel
theorem d_Law_law_399 : decode code 399 = .ok (.invokevirtual 51, 3) := by decide +kernel
theorem d_Law_law_402 : decode code 402 = .ok (.if_icmp .eq 679, 3) := by decide +kernel
theorem d_Law_law_405 : decode code 405 = .ok (.iconst 0, 1) := by decide +kernel
theorem d_Law_law_406 : decode code 406 = .ok (.ireturn, 1) := by decide +kernel
theorem d_Law_law_407 : decode code 407 = .ok (.aload_n 1, 1) := by decide +kernel
theorem d_Law_law_408 : decode code 408 = .ok (.aload_n 0, 1) := by decide +kernel
theorem d_Law_law_409 : decode code 409 = .ok (.iload_n 3, 1) := by decide +kernel
theorem d_Law_law_410 : decode code 410 = .ok (.iconst 1, 1) := by decide +kernel
theorem d_Law_law_411 : decode code 411 = .ok (.iadd, 1) := by decide +kernel
theorem d_Law_law_412 : decode code 412 = .ok (.iaload, 1) := by decide +kernel
theorem d_Law_law_413 : decode code 413 = .ok (.invokevirtual 52, 3) := by decide +kernel
theorem d_Law_law_416 : decode code 416 = .ok (.aload_n 2, 1) := by decide +kernel
theorem d_Law_law_417 : decode code 417 = .ok (.aload_n 0, 1) := by decide +kernel
theorem d_Law_law_418 : decode code 418 = .ok (.iload_n 3, 1) := by decide +kernel
theorem d_Law_law_419 : decode code 419 = .ok (.iconst 1, 1) := by decide +kernel
theorem d_Law_law_420 : decode code 420 = .ok (.iadd, 1) := by decide +kernel
theorem d_Law_law_421 : decode code 421 = .ok (.iaload, 1) := by decide +kernel
theorem d_Law_law_422 : decode code 422 = .ok (.invokevirtual 55, 3) := by decide +kernel
theorem d_Law_law_425 : decode code 425 = .ok (.if_icmp .eq 656, 3) := by decide +kernel
theorem d_Law_law_428 : decode code 428 = .ok (.iconst 0, 1) := by decide +kernel
theorem d_Law_law_429 : decode code 429 = .ok (.ireturn, 1) := by decide +kernel
theorem d_Law_law_430 : decode code 430 = .ok (.aload_n 1, 1) := by decide +kernel
theorem d_Law_law_431 : decode code 431 = .ok (.invokevirtual 56, 3) := by decide +kernel
theorem d_Law_law_434 : decode code 434 = .ok (.aload_n 2, 1) := by decide +kernel
theorem d_Law_law_435 : decode code 435 = .ok (.invokevirtual 59, 3) := by decide +kernel
theorem d_Law_law_438 : decode code 438 = .ok (.if_icmp .eq 643, 3) := by decide +kernel
theorem d_Law_law_441 : decode code 441 = .ok (.iconst 0, 1) := by decide +kernel
theorem d_Law_law_442 : decode code 442 = .ok (.ireturn, 1) := by decide +kernel
theorem d_Law_law_443 : decode code 443 = .ok (.aload_n 1, 1) := by decide +kernel
theorem d_Law_law_444 : decode code 444 = .ok (.aload_n 0, 1) := by decide +kernel
theorem d_Law_law_445 : decode code 445 = .ok (.iload_n 3, 1) := by decide +kernel
theorem d_Law_law_446 : decode code 446 = .ok (.iconst 1, 1) := by decide +kernel
theorem d_Law_law_447 : decode code 447 = .ok (.iadd, 1) := by decide +kernel
theorem d_Law_law_448 : decode code 448 = .ok (.iaload, 1) := by decide +kernel
theorem d_Law_law_449 : decode code 449 = .ok (.aload_n 0, 1) := by decide +kernel
theorem d_Law_law_450 : decode code 450 = .ok (.iload_n 3, 1) := by decide +kernel
theorem d_Law_law_451 : decode code 451 = .ok (.iconst 2, 1) := by decide +kernel
theorem d_Law_law_452 : decode code 452 = .ok (.iadd, 1) := by decide +kernel
theorem d_Law_law_453 : decode code 453 = .ok (.iaload, 1) := by decide +kernel
theorem d_Law_law_454 : decode code 454 = .ok (.invokevirtual 60, 3) := by decide +kernel
theorem d_Law_law_457 : decode code 457 = .ok (.aload_n 2, 1) := by decide +kernel
theorem d_Law_law_458 : decode code 458 = .ok (.aload_n 0, 1) := by decide +kernel
theorem d_Law_law_459 : decode code 459 = .ok (.iload_n 3, 1) := by decide +kernel
theorem d_Law_law_460 : decode code 460 = .ok (.iconst 1, 1) := by decide +kernel
theorem d_Law_law_461 : decode code 461 = .ok (.iadd, 1) := by decide +kernel
theorem d_Law_law_462 : decode code 462 = .ok (.iaload, 1) := by decide +kernel
theorem d_Law_law_463 : decode code 463 = .ok (.aload_n 0, 1) := by decide +kernel
theorem d_Law_law_464 : decode code 464 = .ok (.iload_n 3, 1) := by decide +kernel
theorem d_Law_law_465 : decode code 465 = .ok (.iconst 2, 1) := by decide +kernel
theorem d_Law_law_466 : decode code 466 = .ok (.iadd, 1) := by decide +kernel
theorem d_Law_law_467 : decode code 467 = .ok (.iaload, 1) := by decide +kernel
theorem d_Law_law_468 : decode code 468 = .ok (.invokevirtual 63, 3) := by decide +kernel
theorem d_Law_law_471 : decode code 471 = .ok (.if_icmp .eq 610, 3) := by decide +kernel
theorem d_Law_law_474 : decode code 474 = .ok (.iconst 0, 1) := by decide +kernel
theorem d_Law_law_475 : decode code 475 = .ok (.ireturn, 1) := by decide +kernel
theorem d_Law_law_476 : decode code 476 = .ok (.aload_n 1, 1) := by decide +kernel
theorem d_Law_law_477 : decode code 477 = .ok (.aload_n 0, 1) := by decide +kernel
theorem d_Law_law_478 : decode code 478 = .ok (.iload_n 3, 1) := by decide +kernel
theorem d_Law_law_479 : decode code 479 = .ok (.iconst 1, 1) := by decide +kernel
theorem d_Law_law_480 : decode code 480 = .ok (.iadd, 1) := by decide +kernel
theorem d_Law_law_481 : decode code 481 = .ok (.iaload, 1) := by decide +kernel
theorem d_Law_law_482 : decode code 482 = .ok (.invokevirtual 64, 3) := by decide +kernel
theorem d_Law_law_485 : decode code 485 = .ok (.aload_n 2, 1) := by decide +kernel
theorem d_Law_law_486 : decode code 486 = .ok (.aload_n 0, 1) := by decide +kernel
theorem d_Law_law_487 : decode code 487 = .ok (.iload_n 3, 1) := by decide +kernel
theorem d_Law_law_488 : decode code 488 = .ok (.iconst 1, 1) := by decide +kernel
theorem d_Law_law_489 : decode code 489 = .ok (.iadd, 1) := by decide +kernel
theorem d_Law_law_490 : decode code 490 = .ok (.iaload, 1) := by decide +kernel
theorem d_Law_law_491 : decode code 491 = .ok (.invokevirtual 67, 3) := by decide +kernel
theorem d_Law_law_494 : decode code 494 = .ok (.if_icmp .eq 587, 3) := by decide +kernel
theorem d_Law_law_497 : decode code 497 = .ok (.iconst 0, 1) := by decide +kernel
theorem d_Law_law_498 : decode code 498 = .ok (.ireturn, 1) := by decide +kernel
theorem d_Law_law_499 : decode code 499 = .ok (.aload_n 1, 1) := by decide +kernel
theorem d_Law_law_500 : decode code 500 = .ok (.aload_n 0, 1) := by decide +kernel
theorem d_Law_law_501 : decode code 501 = .ok (.iload_n 3, 1) := by decide +kernel
theorem d_Law_law_502 : decode code 502 = .ok (.iconst 1, 1) := by decide +kernel
theorem d_Law_law_503 : decode code 503 = .ok (.iadd, 1) := by decide +kernel
theorem d_Law_law_504 : decode code 504 = .ok (.iaload, 1) := by decide +kernel
theorem d_Law_law_505 : decode code 505 = .ok (.aload_n 0, 1) := by decide +kernel
theorem d_Law_law_506 : decode code 506 = .ok (.iload_n 3, 1) := by decide +kernel
theorem d_Law_law_507 : decode code 507 = .ok (.iconst 2, 1) := by decide +kernel
theorem d_Law_law_508 : decode code 508 = .ok (.iadd, 1) := by decide +kernel
theorem d_Law_law_509 : decode code 509 = .ok (.iaload, 1) := by decide +kernel
theorem d_Law_law_510 : decode code 510 = .ok (.aload_n 0, 1) := by decide +kernel
theorem d_Law_law_511 : decode code 511 = .ok (.iload_n 3, 1) := by decide +kernel
theorem d_Law_law_512 : decode code 512 = .ok (.iconst 3, 1) := by decide +kernel
theorem d_Law_law_513 : decode code 513 = .ok (.iadd, 1) := by decide +kernel
theorem d_Law_law_514 : decode code 514 = .ok (.iaload, 1) := by decide +kernel
theorem d_Law_law_515 : decode code 515 = .ok (.invokevirtual 68, 3) := by decide +kernel
theorem d_Law_law_518 : decode code 518 = .ok (.aload_n 2, 1) := by decide +kernel
theorem d_Law_law_519 : decode code 519 = .ok (.aload_n 0, 1) := by decide +kernel
theorem d_Law_law_520 : decode code 520 = .ok (.iload_n 3, 1) := by decide +kernel
theorem d_Law_law_521 : decode code 521 = .ok (.iconst 1, 1) := by decide +kernel
theorem d_Law_law_522 : decode code 522 = .ok (.iadd, 1) := by decide +kernel
theorem d_Law_law_523 : decode code 523 = .ok (.iaload, 1) := by decide +kernel
theorem d_Law_law_524 : decode code 524 = .ok (.aload_n 0, 1) := by decide +kernel
theorem d_Law_law_525 : decode code 525 = .ok (.iload_n 3, 1) := by decide +kernel
theorem d_Law_law_526 : decode code 526 = .ok (.iconst 2, 1) := by decide +kernel
theorem d_Law_law_527 : decode code 527 = .ok (.iadd, 1) := by decide +kernel
theorem d_Law_law_528 : decode code 528 = .ok (.iaload, 1) := by decide +kernel
theorem d_Law_law_529 : decode code 529 = .ok (.aload_n 0, 1) := by decide +kernel
theorem d_Law_law_530 : decode code 530 = .ok (.iload_n 3, 1) := by decide +kernel
theorem d_Law_law_531 : decode code 531 = .ok (.iconst 3, 1) := by decide +kernel
theorem d_Law_law_532 : decode code 532 = .ok (.iadd, 1) := by decide +kernel
theorem d_Law_law_533 : decode code 533 = .ok (.iaload, 1) := by decide +kernel
theorem d_Law_law_534 : decode code 534 = .ok (.invokevirtual 72, 3) := by decide +kernel
theorem d_Law_law_537 : decode code 537 = .ok (.if_icmp .eq 544, 3) := by decide +kernel
theorem d_Law_law_540 : decode code 540 = .ok (.iconst 0, 1) := by decide +kernel
theorem d_Law_law_541 : decode code 541 = .ok (.ireturn, 1) := by decide +kernel
theorem d_Law_law_542 : decode code 542 = .ok (.aload_n 1, 1) := by decide +kernel
theorem d_Law_law_543 : decode code 543 = .ok (.aload_n 0, 1) := by decide +kernel
theorem d_Law_law_544 : decode code 544 = .ok (.iload_n 3, 1) := by decide +kernel
theorem d_Law_law_545 : decode code 545 = .ok (.iconst 1, 1) := by decide +kernel
theorem d_Law_law_546 : decode code 546 = .ok (.iadd, 1) := by decide +kernel
theorem d_Law_law_547 : decode code 547 = .ok (.iaload, 1) := by decide +kernel
theorem d_Law_law_548 : decode code 548 = .ok (.aload_n 0, 1) := by decide +kernel
theorem d_Law_law_549 : decode code 549 = .ok (.iload_n 3, 1) := by decide +kernel
theorem d_Law_law_550 : decode code 550 = .ok (.iconst 2, 1) := by decide +kernel
theorem d_Law_law_551 : decode code 551 = .ok (.iadd, 1) := by decide +kernel
theorem d_Law_law_552 : decode code 552 = .ok (.iaload, 1) := by decide +kernel
theorem d_Law_law_553 : decode code 553 = .ok (.invokevirtual 73, 3) := by decide +kernel
theorem d_Law_law_556 : decode code 556 = .ok (.aload_n 2, 1) := by decide +kernel
theorem d_Law_law_557 : decode code 557 = .ok (.aload_n 0, 1) := by decide +kernel
theorem d_Law_law_558 : decode code 558 = .ok (.iload_n 3, 1) := by decide +kernel
theorem d_Law_law_559 : decode code 559 = .ok (.iconst 1, 1) := by decide +kernel
theorem d_Law_law_560 : decode code 560 = .ok (.iadd, 1) := by decide +kernel
theorem d_Law_law_561 : decode code 561 = .ok (.iaload, 1) := by decide +kernel
theorem d_Law_law_562 : decode code 562 = .ok (.aload_n 0, 1) := by decide +kernel
theorem d_Law_law_563 : decode code 563 = .ok (.iload_n 3, 1) := by decide +kernel
theorem d_Law_law_564 : decode code 564 = .ok (.iconst 2, 1) := by decide +kernel
theorem d_Law_law_565 : decode code 565 = .ok (.iadd, 1) := by decide +kernel
theorem d_Law_law_566 : decode code 566 = .ok (.iaload, 1) := by decide +kernel
theorem d_Law_law_567 : decode code 567 = .ok (.invokevirtual 76, 3) := by decide +kernel
theorem d_Law_law_570 : decode code 570 = .ok (.if_icmp .eq 511, 3) := by decide +kernel
theorem d_Law_law_573 : decode code 573 = .ok (.iconst 0, 1) := by decide +kernel
theorem d_Law_law_574 : decode code 574 = .ok (.ireturn, 1) := by decide +kernel
theorem d_Law_law_575 : decode code 575 = .ok (.aload_n 1, 1) := by decide +kernel
theorem d_Law_law_576 : decode code 576 = .ok (.aload_n 0, 1) := by decide +kernel
theorem d_Law_law_577 : decode code 577 = .ok (.iload_n 3, 1) := by decide +kernel
theorem d_Law_law_578 : decode code 578 = .ok (.iconst 1, 1) := by decide +kernel
theorem d_Law_law_579 : decode code 579 = .ok (.iadd, 1) := by decide +kernel
theorem d_Law_law_580 : decode code 580 = .ok (.iaload, 1) := by decide +kernel
theorem d_Law_law_581 : decode code 581 = .ok (.invokevirtual 77, 3) := by decide +kernel
theorem d_Law_law_584 : decode code 584 = .ok (.aload_n 2, 1) := by decide +kernel
theorem d_Law_law_585 : decode code 585 = .ok (.aload_n 0, 1) := by decide +kernel
theorem d_Law_law_586 : decode code 586 = .ok (.iload_n 3, 1) := by decide +kernel
theorem d_Law_law_587 : decode code 587 = .ok (.iconst 1, 1) := by decide +kernel
theorem d_Law_law_588 : decode code 588 = .ok (.iadd, 1) := by decide +kernel
theorem d_Law_law_589 : decode code 589 = .ok (.iaload, 1) := by decide +kernel
theorem d_Law_law_590 : decode code 590 = .ok (.invokevirtual 80, 3) := by decide +kernel
theorem d_Law_law_593 : decode code 593 = .ok (.if_icmp .eq 488, 3) := by decide +kernel
theorem d_Law_law_596 : decode code 596 = .ok (.iconst 0, 1) := by decide +kernel
theorem d_Law_law_597 : decode code 597 = .ok (.ireturn, 1) := by decide +kernel
theorem d_Law_law_598 : decode code 598 = .ok (.aload_n 1, 1) := by decide +kernel
theorem d_Law_law_599 : decode code 599 = .ok (.aload_n 0, 1) := by decide +kernel
theorem d_Law_law_600 : decode code 600 = .ok (.iload_n 3, 1) := by decide +kernel
theorem d_Law_law_601 : decode code 601 = .ok (.iconst 1, 1) := by decide +kernel
theorem d_Law_law_602 : decode code 602 = .ok (.iadd, 1) := by decide +kernel
theorem d_Law_law_603 : decode code 603 = .ok (.iaload, 1) := by decide +kernel
theorem d_Law_law_604 : decode code 604 = .ok (.aload_n 0, 1) := by decide +kernel
theorem d_Law_law_605 : decode code 605 = .ok (.iload_n 3, 1) := by decide +kernel
theorem d_Law_law_606 : decode code 606 = .ok (.iconst 2, 1) := by decide +kernel
theorem d_Law_law_607 : decode code 607 = .ok (.iadd, 1) := by decide +kernel
theorem d_Law_law_608 : decode code 608 = .ok (.iaload, 1) := by decide +kernel
theorem d_Law_law_609 : decode code 609 = .ok (.aload_n 0, 1) := by decide +kernel
theorem d_Law_law_610 : decode code 610 = .ok (.iload_n 3, 1) := by decide +kernel
theorem d_Law_law_611 : decode code 611 = .ok (.iconst 3, 1) := by decide +kernel
theorem d_Law_law_612 : decode code 612 = .ok (.iadd, 1) := by decide +kernel
theorem d_Law_law_613 : decode code 613 = .ok (.iaload, 1) := by decide +kernel
theorem d_Law_law_614 : decode code 614 = .ok (.aload_n 0, 1) := by decide +kernel
theorem d_Law_law_615 : decode code 615 = .ok (.iload_n 3, 1) := by decide +kernel
theorem d_Law_law_616 : decode code 616 = .ok (.iconst 4, 1) := by decide +kernel
theorem d_Law_law_617 : decode code 617 = .ok (.iadd, 1) := by decide +kernel
theorem d_Law_law_618 : decode code 618 = .ok (.iaload, 1) := by decide +kernel
theorem d_Law_law_619 : decode code 619 = .ok (.invokevirtual 81, 3) := by decide +kernel
theorem d_Law_law_622 : decode code 622 = .ok (.aload_n 2, 1) := by decide +kernel
theorem d_Law_law_623 : decode code 623 = .ok (.aload_n 0, 1) := by decide +kernel
theorem d_Law_law_624 : decode code 624 = .ok (.iload_n 3, 1) := by decide +kernel
theorem d_Law_law_625 : decode code 625 = .ok (.iconst 1, 1) := by decide +kernel
theorem d_Law_law_626 : decode code 626 = .ok (.iadd, 1) := by decide +kernel
theorem d_Law_law_627 : decode code 627 = .ok (.iaload, 1) := by decide +kernel
theorem d_Law_law_628 : decode code 628 = .ok (.aload_n 0, 1) := by decide +kernel
theorem d_Law_law_629 : decode code 629 = .ok (.iload_n 3, 1) := by decide +kernel
theorem d_Law_law_630 : decode code 630 = .ok (.iconst 2, 1) := by decide +kernel
theorem d_Law_law_631 : decode code 631 = .ok (.iadd, 1) := by decide +kernel
theorem d_Law_law_632 : decode code 632 = .ok (.iaload, 1) := by decide +kernel
theorem d_Law_law_633 : decode code 633 = .ok (.aload_n 0, 1) := by decide +kernel
theorem d_Law_law_634 : decode code 634 = .ok (.iload_n 3, 1) := by decide +kernel
theorem d_Law_law_635 : decode code 635 = .ok (.iconst 3, 1) := by decide +kernel
theorem d_Law_law_636 : decode code 636 = .ok (.iadd, 1) := by decide +kernel
theorem d_Law_law_637 : decode code 637 = .ok (.iaload, 1) := by decide +kernel
theorem d_Law_law_638 : decode code 638 = .ok (.aload_n 0, 1) := by decide +kernel
theorem d_Law_law_639 : decode code 639 = .ok (.iload_n 3, 1) := by decide +kernel
theorem d_Law_law_640 : decode code 640 = .ok (.iconst 4, 1) := by decide +kernel
theorem d_Law_law_641 : decode code 641 = .ok (.iadd, 1) := by decide +kernel
theorem d_Law_law_642 : decode code 642 = .ok (.iaload, 1) := by decide +kernel
theorem d_Law_law_643 : decode code 643 = .ok (.invokevirtual 85, 3) := by decide +kernel
theorem d_Law_law_646 : decode code 646 = .ok (.if_icmp .eq 435, 3) := by decide +kernel
theorem d_Law_law_649 : decode code 649 = .ok (.iconst 0, 1) := by decide +kernel
theorem d_Law_law_650 : decode code 650 = .ok (.ireturn, 1) := by decide +kernel
theorem d_Law_law_651 : decode code 651 = .ok (.aload_n 1, 1) := by decide +kernel
theorem d_Law_law_652 : decode code 652 = .ok (.aload_n 0, 1) := by decide +kernel
theorem d_Law_law_653 : decode code 653 = .ok (.iload_n 3, 1) := by decide +kernel
theorem d_Law_law_654 : decode code 654 = .ok (.iconst 1, 1) := by decide +kernel
theorem d_Law_law_655 : decode code 655 = .ok (.iadd, 1) := by decide +kernel
theorem d_Law_law_656 : decode code 656 = .ok (.iaload, 1) := by decide +kernel
theorem d_Law_law_657 : decode code 657 = .ok (.invokevirtual 86, 3) := by decide +kernel
theorem d_Law_law_660 : decode code 660 = .ok (.aload_n 2, 1) := by decide +kernel
theorem d_Law_law_661 : decode code 661 = .ok (.aload_n 0, 1) := by decide +kernel
theorem d_Law_law_662 : decode code 662 = .ok (.iload_n 3, 1) := by decide +kernel
theorem d_Law_law_663 : decode code 663 = .ok (.iconst 1, 1) := by decide +kernel
theorem d_Law_law_664 : decode code 664 = .ok (.iadd, 1) := by decide +kernel
theorem d_Law_law_665 : decode code 665 = .ok (.iaload, 1) := by decide +kernel
theorem d_Law_law_666 : decode code 666 = .ok (.invokevirtual 89, 3) := by decide +kernel
theorem d_Law_law_669 : decode code 669 = .ok (.if_icmp .eq 412, 3) := by decide +kernel
theorem d_Law_law_672 : decode code 672 = .ok (.iconst 0, 1) := by decide +kernel
theorem d_Law_law_673 : decode code 673 = .ok (.ireturn, 1) := by decide +kernel
theorem d_Law_law_674 : decode code 674 = .ok (.aload_n 1, 1) := by decide +kernel
theorem d_Law_law_675 : decode code 675 = .ok (.aload_n 0, 1) := by decide +kernel
theorem d_Law_law_676 : decode code 676 = .ok (.iload_n 3, 1) := by decide +kernel
theorem d_Law_law_677 : decode code 677 = .ok (.iconst 1, 1) := by decide +kernel
theorem d_Law_law_678 : decode code 678 = .ok (.iadd, 1) := by decide +kernel
theorem d_Law_law_679 : decode code 679 = .ok (.iaload, 1) := by decide +kernel
theorem d_Law_law_680 : decode code 680 = .ok (.invokevirtual 90, 3) := by decide +kernel
theorem d_Law_law_683 : decode code 683 = .ok (.aload_n 2, 1) := by decide +kernel
theorem d_Law_law_684 : decode code 684 = .ok (.aload_n 0, 1) := by decide +kernel
theorem d_Law_law_685 : decode code 685 = .ok (.iload_n 3, 1) := by decide +kernel
theorem d_Law_law_686 : decode code 686 = .ok (.iconst 1, 1) := by decide +kernel
theorem d_Law_law_687 : decode code 687 = .ok (.iadd, 1) := by decide +kernel
theorem d_Law_law_688 : decode code 688 = .ok (.iaload, 1) := by decide +kernel
theorem d_Law_law_689 : decode code 689 = .ok (.invokevirtual 93, 3) := by decide +kernel
theorem d_Law_law_692 : decode code 692 = .ok (.if_icmp .eq 389, 3) := by decide +kernel
theorem d_Law_law_695 : decode code 695 = .ok (.iconst 0, 1) := by decide +kernel
theorem d_Law_law_696 : decode code 696 = .ok (.ireturn, 1) := by decide +kernel
theorem d_Law_law_697 : decode code 697 = .ok (.aload_n 1, 1) := by decide +kernel
theorem d_Law_law_698 : decode code 698 = .ok (.aload_n 0, 1) := by decide +kernel
theorem d_Law_law_699 : decode code 699 = .ok (.iload_n 3, 1) := by decide +kernel
theorem d_Law_law_700 : decode code 700 = .ok (.iconst 1, 1) := by decide +kernel
theorem d_Law_law_701 : decode code 701 = .ok (.iadd, 1) := by decide +kernel
theorem d_Law_law_702 : decode code 702 = .ok (.iaload, 1) := by decide +kernel
theorem d_Law_law_703 : decode code 703 = .ok (.invokevirtual 94, 3) := by decide +kernel
theorem d_Law_law_706 : decode code 706 = .ok (.aload_n 2, 1) := by decide +kernel
theorem d_Law_law_707 : decode code 707 = .ok (.aload_n 0, 1) := by decide +kernel
theorem d_Law_law_708 : decode code 708 = .ok (.iload_n 3, 1) := by decide +kernel
theorem d_Law_law_709 : decode code 709 = .ok (.iconst 1, 1) := by decide +kernel
theorem d_Law_law_710 : decode code 710 = .ok (.iadd, 1) := by decide +kernel
theorem d_Law_law_711 : decode code 711 = .ok (.iaload, 1) := by decide +kernel
theorem d_Law_law_712 : decode code 712 = .ok (.invokevirtual 97, 3) := by decide +kernel
theorem d_Law_law_715 : decode code 715 = .ok (.if_icmp .eq 366, 3) := by decide +kernel
theorem d_Law_law_718 : decode code 718 = .ok (.iconst 0, 1) := by decide +kernel
theorem d_Law_law_719 : decode code 719 = .ok (.ireturn, 1) := by decide +kernel
theorem d_Law_law_720 : decode code 720 = .ok (.aload_n 1, 1) := by decide +kernel
theorem d_Law_law_721 : decode code 721 = .ok (.aload_n 0, 1) := by decide +kernel
theorem d_Law_law_722 : decode code 722 = .ok (.iload_n 3, 1) := by decide +kernel
theorem d_Law_law_723 : decode code 723 = .ok (.iconst 1, 1) := by decide +kernel
theorem d_Law_law_724 : decode code 724 = .ok (.iadd, 1) := by decide +kernel
theorem d_Law_law_725 : decode code 725 = .ok (.iaload, 1) := by decide +kernel
theorem d_Law_law_726 : decode code 726 = .ok (.aload_n 0, 1) := by decide +kernel
theorem d_Law_law_727 : decode code 727 = .ok (.iload_n 3, 1) := by decide +kernel
theorem d_Law_law_728 : decode code 728 = .ok (.iconst 2, 1) := by decide +kernel
theorem d_Law_law_729 : decode code 729 = .ok (.iadd, 1) := by decide +kernel
theorem d_Law_law_730 : decode code 730 = .ok (.iaload, 1) := by decide +kernel
theorem d_Law_law_731 : decode code 731 = .ok (.aload_n 0, 1) := by decide +kernel
theorem d_Law_law_732 : decode code 732 = .ok (.iload_n 3, 1) := by decide +kernel
theorem d_Law_law_733 : decode code 733 = .ok (.iconst 3, 1) := by decide +kernel
theorem d_Law_law_734 : decode code 734 = .ok (.iadd, 1) := by decide +kernel
theorem d_Law_law_735 : decode code 735 = .ok (.iaload, 1) := by decide +kernel
theorem d_Law_law_736 : decode code 736 = .ok (.aload_n 0, 1) := by decide +kernel
theorem d_Law_law_737 : decode code 737 = .ok (.iload_n 3, 1) := by decide +kernel
theorem d_Law_law_738 : decode code 738 = .ok (.iconst 4, 1) := by decide +kernel
theorem d_Law_law_739 : decode code 739 = .ok (.iadd, 1) := by decide +kernel
theorem d_Law_law_740 : decode code 740 = .ok (.iaload, 1) := by decide +kernel
theorem d_Law_law_741 : decode code 741 = .ok (.aload_n 0, 1) := by decide +kernel
theorem d_Law_law_742 : decode code 742 = .ok (.iload_n 3, 1) := by decide +kernel
theorem d_Law_law_743 : decode code 743 = .ok (.iconst 5, 1) := by decide +kernel
theorem d_Law_law_744 : decode code 744 = .ok (.iadd, 1) := by decide +kernel
theorem d_Law_law_745 : decode code 745 = .ok (.iaload, 1) := by decide +kernel
theorem d_Law_law_746 : decode code 746 = .ok (.invokevirtual 98, 3) := by decide +kernel
theorem d_Law_law_749 : decode code 749 = .ok (.aload_n 2, 1) := by decide +kernel
theorem d_Law_law_750 : decode code 750 = .ok (.aload_n 0, 1) := by decide +kernel
theorem d_Law_law_751 : decode code 751 = .ok (.iload_n 3, 1) := by decide +kernel
theorem d_Law_law_752 : decode code 752 = .ok (.iconst 1, 1) := by decide +kernel
theorem d_Law_law_753 : decode code 753 = .ok (.iadd, 1) := by decide +kernel
theorem d_Law_law_754 : decode code 754 = .ok (.iaload, 1) := by decide +kernel
theorem d_Law_law_755 : decode code 755 = .ok (.aload_n 0, 1) := by decide +kernel
theorem d_Law_law_756 : decode code 756 = .ok (.iload_n 3, 1) := by decide +kernel
theorem d_Law_law_757 : decode code 757 = .ok (.iconst 2, 1) := by decide +kernel
theorem d_Law_law_758 : decode code 758 = .ok (.iadd, 1) := by decide +kernel
theorem d_Law_law_759 : decode code 759 = .ok (.iaload, 1) := by decide +kernel
theorem d_Law_law_760 : decode code 760 = .ok (.aload_n 0, 1) := by decide +kernel
theorem d_Law_law_761 : decode code 761 = .ok (.iload_n 3, 1) := by decide +kernel
theorem d_Law_law_762 : decode code 762 = .ok (.iconst 3, 1) := by decide +kernel
theorem d_Law_law_763 : decode code 763 = .ok (.iadd, 1) := by decide +kernel
theorem d_Law_law_764 : decode code 764 = .ok (.iaload, 1) := by decide +kernel
theorem d_Law_law_765 : decode code 765 = .ok (.aload_n 0, 1) := by decide +kernel
theorem d_Law_law_766 : decode code 766 = .ok (.iload_n 3, 1) := by decide +kernel
theorem d_Law_law_767 : decode code 767 = .ok (.iconst 4, 1) := by decide +kernel
theorem d_Law_law_768 : decode code 768 = .ok (.iadd, 1) := by decide +kernel
theorem d_Law_law_769 : decode code 769 = .ok (.iaload, 1) := by decide +kernel
theorem d_Law_law_770 : decode code 770 = .ok (.aload_n 0, 1) := by decide +kernel
theorem d_Law_law_771 : decode code 771 = .ok (.iload_n 3, 1) := by decide +kernel
theorem d_Law_law_772 : decode code 772 = .ok (.iconst 5, 1) := by decide +kernel
theorem d_Law_law_773 : decode code 773 = .ok (.iadd, 1) := by decide +kernel
theorem d_Law_law_774 : decode code 774 = .ok (.iaload, 1) := by decide +kernel
theorem d_Law_law_775 : decode code 775 = .ok (.invokevirtual 102, 3) := by decide +kernel
theorem d_Law_law_778 : decode code 778 = .ok (.if_icmp .eq 303, 3) := by decide +kernel
theorem d_Law_law_781 : decode code 781 = .ok (.iconst 0, 1) := by decide +kernel
theorem d_Law_law_782 : decode code 782 = .ok (.ireturn, 1) := by decide +kernel
theorem d_Law_law_783 : decode code 783 = .ok (.aload_n 1, 1) := by decide +kernel
theorem d_Law_law_784 : decode code 784 = .ok (.invokevirtual 103, 3) := by decide +kernel
theorem d_Law_law_787 : decode code 787 = .ok (.aload_n 2, 1) := by decide +kernel
theorem d_Law_law_788 : decode code 788 = .ok (.invokevirtual 106, 3) := by decide +kernel
theorem d_Law_law_791 : decode code 791 = .ok (.if_icmp .eq 290, 3) := by decide +kernel
theorem d_Law_law_794 : decode code 794 = .ok (.iconst 0, 1) := by decide +kernel
theorem d_Law_law_795 : decode code 795 = .ok (.ireturn, 1) := by decide +kernel
theorem d_Law_law_796 : decode code 796 = .ok (.aload_n 1, 1) := by decide +kernel
theorem d_Law_law_797 : decode code 797 = .ok (.aload_n 0, 1) := by decide +kernel
theorem d_Law_law_798 : decode code 798 = .ok (.iload_n 3, 1) := by decide +kernel
theorem d_Law_law_799 : decode code 799 = .ok (.iconst 1, 1) := by decide +kernel
theorem d_Law_law_800 : decode code 800 = .ok (.iadd, 1) := by decide +kernel
theorem d_Law_law_801 : decode code 801 = .ok (.iaload, 1) := by decide +kernel
theorem d_Law_law_802 : decode code 802 = .ok (.invokevirtual 107, 3) := by decide +kernel
theorem d_Law_law_805 : decode code 805 = .ok (.aload_n 2, 1) := by decide +kernel
theorem d_Law_law_806 : decode code 806 = .ok (.aload_n 0, 1) := by decide +kernel
theorem d_Law_law_807 : decode code 807 = .ok (.iload_n 3, 1) := by decide +kernel
theorem d_Law_law_808 : decode code 808 = .ok (.iconst 1, 1) := by decide +kernel
theorem d_Law_law_809 : decode code 809 = .ok (.iadd, 1) := by decide +kernel
theorem d_Law_law_810 : decode code 810 = .ok (.iaload, 1) := by decide +kernel
theorem d_Law_law_811 : decode code 811 = .ok (.invokevirtual 110, 3) := by decide +kernel
theorem d_Law_law_814 : decode code 814 = .ok (.if_icmp .eq 267, 3) := by decide +kernel
theorem d_Law_law_817 : decode code 817 = .ok (.iconst 0, 1) := by decide +kernel
theorem d_Law_law_818 : decode code 818 = .ok (.ireturn, 1) := by decide +kernel
theorem d_Law_law_819 : decode code 819 = .ok (.aload_n 1, 1) := by decide +kernel
theorem d_Law_law_820 : decode code 820 = .ok (.aload_n 0, 1) := by decide +kernel
theorem d_Law_law_821 : decode code 821 = .ok (.iload_n 3, 1) := by decide +kernel
theorem d_Law_law_822 : decode code 822 = .ok (.iconst 1, 1) := by decide +kernel
theorem d_Law_law_823 : decode code 823 = .ok (.iadd, 1) := by decide +kernel
theorem d_Law_law_824 : decode code 824 = .ok (.iaload, 1) := by decide +kernel
theorem d_Law_law_825 : decode code 825 = .ok (.aload_n 0, 1) := by decide +kernel
theorem d_Law_law_826 : decode code 826 = .ok (.iload_n 3, 1) := by decide +kernel
theorem d_Law_law_827 : decode code 827 = .ok (.iconst 2, 1) := by decide +kernel
theorem d_Law_law_828 : decode code 828 = .ok (.iadd, 1) := by decide +kernel
theorem d_Law_law_829 : decode code 829 = .ok (.iaload, 1) := by decide +kernel
theorem d_Law_law_830 : decode code 830 = .ok (.invokevirtual 111, 3) := by decide +kernel
theorem d_Law_law_833 : decode code 833 = .ok (.aload_n 2, 1) := by decide +kernel
theorem d_Law_law_834 : decode code 834 = .ok (.aload_n 0, 1) := by decide +kernel
theorem d_Law_law_835 : decode code 835 = .ok (.iload_n 3, 1) := by decide +kernel
theorem d_Law_law_836 : decode code 836 = .ok (.iconst 1, 1) := by decide +kernel
theorem d_Law_law_837 : decode code 837 = .ok (.iadd, 1) := by decide +kernel
theorem d_Law_law_838 : decode code 838 = .ok (.iaload, 1) := by decide +kernel
theorem d_Law_law_839 : decode code 839 = .ok (.aload_n 0, 1) := by decide +kernel
theorem d_Law_law_840 : decode code 840 = .ok (.iload_n 3, 1) := by decide +kernel
theorem d_Law_law_841 : decode code 841 = .ok (.iconst 2, 1) := by decide +kernel
theorem d_Law_law_842 : decode code 842 = .ok (.iadd, 1) := by decide +kernel
theorem d_Law_law_843 : decode code 843 = .ok (.iaload, 1) := by decide +kernel
theorem d_Law_law_844 : decode code 844 = .ok (.invokevirtual 114, 3) := by decide +kernel
theorem d_Law_law_847 : decode code 847 = .ok (.if_icmp .eq 234, 3) := by decide +kernel
theorem d_Law_law_850 : decode code 850 = .ok (.iconst 0, 1) := by decide +kernel
theorem d_Law_law_851 : decode code 851 = .ok (.ireturn, 1) := by decide +kernel
theorem d_Law_law_852 : decode code 852 = .ok (.aload_n 1, 1) := by decide +kernel
theorem d_Law_law_853 : decode code 853 = .ok (.aload_n 0, 1) := by decide +kernel
theorem d_Law_law_854 : decode code 854 = .ok (.iload_n 3, 1) := by decide +kernel
theorem d_Law_law_855 : decode code 855 = .ok (.iconst 1, 1) := by decide +kernel
theorem d_Law_law_856 : decode code 856 = .ok (.iadd, 1) := by decide +kernel
theorem d_Law_law_857 : decode code 857 = .ok (.iaload, 1) := by decide +kernel
theorem d_Law_law_858 : decode code 858 = .ok (.aload_n 0, 1) := by decide +kernel
theorem d_Law_law_859 : decode code 859 = .ok (.iload_n 3, 1) := by decide +kernel
theorem d_Law_law_860 : decode code 860 = .ok (.iconst 2, 1) := by decide +kernel
theorem d_Law_law_861 : decode code 861 = .ok (.iadd, 1) := by decide +kernel
theorem d_Law_law_862 : decode code 862 = .ok (.iaload, 1) := by decide +kernel
theorem d_Law_law_863 : decode code 863 = .ok (.invokevirtual 115, 3) := by decide +kernel
theorem d_Law_law_866 : decode code 866 = .ok (.aload_n 2, 1) := by decide +kernel
theorem d_Law_law_867 : decode code 867 = .ok (.aload_n 0, 1) := by decide +kernel
theorem d_Law_law_868 : decode code 868 = .ok (.iload_n 3, 1) := by decide +kernel
theorem d_Law_law_869 : decode code 869 = .ok (.iconst 1, 1) := by decide +kernel
theorem d_Law_law_870 : decode code 870 = .ok (.iadd, 1) := by decide +kernel
theorem d_Law_law_871 : decode code 871 = .ok (.iaload, 1) := by decide +kernel
theorem d_Law_law_872 : decode code 872 = .ok (.aload_n 0, 1) := by decide +kernel
theorem d_Law_law_873 : decode code 873 = .ok (.iload_n 3, 1) := by decide +kernel
theorem d_Law_law_874 : decode code 874 = .ok (.iconst 2, 1) := by decide +kernel
theorem d_Law_law_875 : decode code 875 = .ok (.iadd, 1) := by decide +kernel
theorem d_Law_law_876 : decode code 876 = .ok (.iaload, 1) := by decide +kernel
theorem d_Law_law_877 : decode code 877 = .ok (.invokevirtual 118, 3) := by decide +kernel
theorem d_Law_law_880 : decode code 880 = .ok (.if_icmp .eq 201, 3) := by decide +kernel
theorem d_Law_law_883 : decode code 883 = .ok (.iconst 0, 1) := by decide +kernel
theorem d_Law_law_884 : decode code 884 = .ok (.ireturn, 1) := by decide +kernel
theorem d_Law_law_885 : decode code 885 = .ok (.aload_n 1, 1) := by decide +kernel
theorem d_Law_law_886 : decode code 886 = .ok (.aload_n 0, 1) := by decide +kernel
theorem d_Law_law_887 : decode code 887 = .ok (.iload_n 3, 1) := by decide +kernel
theorem d_Law_law_888 : decode code 888 = .ok (.iconst 1, 1) := by decide +kernel
theorem d_Law_law_889 : decode code 889 = .ok (.iadd, 1) := by decide +kernel
theorem d_Law_law_890 : decode code 890 = .ok (.iaload, 1) := by decide +kernel
theorem d_Law_law_891 : decode code 891 = .ok (.aload_n 0, 1) := by decide +kernel
theorem d_Law_law_892 : decode code 892 = .ok (.iload_n 3, 1) := by decide +kernel
theorem d_Law_law_893 : decode code 893 = .ok (.iconst 2, 1) := by decide +kernel
theorem d_Law_law_894 : decode code 894 = .ok (.iadd, 1) := by decide +kernel
theorem d_Law_law_895 : decode code 895 = .ok (.iaload, 1) := by decide +kernel
theorem d_Law_law_896 : decode code 896 = .ok (.invokevirtual 119, 3) := by decide +kernel
theorem d_Law_law_899 : decode code 899 = .ok (.aload_n 2, 1) := by decide +kernel
theorem d_Law_law_900 : decode code 900 = .ok (.aload_n 0, 1) := by decide +kernel
theorem d_Law_law_901 : decode code 901 = .ok (.iload_n 3, 1) := by decide +kernel
theorem d_Law_law_902 : decode code 902 = .ok (.iconst 1, 1) := by decide +kernel
theorem d_Law_law_903 : decode code 903 = .ok (.iadd, 1) := by decide +kernel
theorem d_Law_law_904 : decode code 904 = .ok (.iaload, 1) := by decide +kernel
theorem d_Law_law_905 : decode code 905 = .ok (.aload_n 0, 1) := by decide +kernel
theorem d_Law_law_906 : decode code 906 = .ok (.iload_n 3, 1) := by decide +kernel
theorem d_Law_law_907 : decode code 907 = .ok (.iconst 2, 1) := by decide +kernel
theorem d_Law_law_908 : decode code 908 = .ok (.iadd, 1) := by decide +kernel
theorem d_Law_law_909 : decode code 909 = .ok (.iaload, 1) := by decide +kernel
theorem d_Law_law_910 : decode code 910 = .ok (.invokevirtual 122, 3) := by decide +kernel
theorem d_Law_law_913 : decode code 913 = .ok (.if_icmp .eq 168, 3) := by decide +kernel
theorem d_Law_law_916 : decode code 916 = .ok (.iconst 0, 1) := by decide +kernel
theorem d_Law_law_917 : decode code 917 = .ok (.ireturn, 1) := by decide +kernel
theorem d_Law_law_918 : decode code 918 = .ok (.aload_n 1, 1) := by decide +kernel
theorem d_Law_law_919 : decode code 919 = .ok (.aload_n 0, 1) := by decide +kernel
theorem d_Law_law_920 : decode code 920 = .ok (.iload_n 3, 1) := by decide +kernel
theorem d_Law_law_921 : decode code 921 = .ok (.iconst 1, 1) := by decide +kernel
theorem d_Law_law_922 : decode code 922 = .ok (.iadd, 1) := by decide +kernel
theorem d_Law_law_923 : decode code 923 = .ok (.iaload, 1) := by decide +kernel
theorem d_Law_law_924 : decode code 924 = .ok (.aload_n 0, 1) := by decide +kernel
theorem d_Law_law_925 : decode code 925 = .ok (.iload_n 3, 1) := by decide +kernel
theorem d_Law_law_926 : decode code 926 = .ok (.iconst 2, 1) := by decide +kernel
theorem d_Law_law_927 : decode code 927 = .ok (.iadd, 1) := by decide +kernel
theorem d_Law_law_928 : decode code 928 = .ok (.iaload, 1) := by decide +kernel
theorem d_Law_law_929 : decode code 929 = .ok (.invokevirtual 123, 3) := by decide +kernel
theorem d_Law_law_932 : decode code 932 = .ok (.aload_n 2, 1) := by decide +kernel
theorem d_Law_law_933 : decode code 933 = .ok (.aload_n 0, 1) := by decide +kernel
theorem d_Law_law_934 : decode code 934 = .ok (.iload_n 3, 1) := by decide +kernel
theorem d_Law_law_935 : decode code 935 = .ok (.iconst 1, 1) := by decide +kernel
theorem d_Law_law_936 : decode code 936 = .ok (.iadd, 1) := by decide +kernel
theorem d_Law_law_937 : decode code 937 = .ok (.iaload, 1) := by decide +kernel
theorem d_Law_law_938 : decode code 938 = .ok (.aload_n 0, 1) := by decide +kernel
theorem d_Law_law_939 : decode code 939 = .ok (.iload_n 3, 1) := by decide +kernel
theorem d_Law_law_940 : decode code 940 = .ok (.iconst 2, 1) := by decide +kernel
theorem d_Law_law_941 : decode code 941 = .ok (.iadd, 1) := by decide +kernel
theorem d_Law_law_942 : decode code 942 = .ok (.iaload, 1) := by decide +kernel
theorem d_Law_law_943 : decode code 943 = .ok (.invokevirtual 126, 3) := by decide +kernel
theorem d_Law_law_946 : decode code 946 = .ok (.if_icmp .eq 135, 3) := by decide +kernel
theorem d_Law_law_949 : decode code 949 = .ok (.iconst 0, 1) := by decide +kernel
theorem d_Law_law_950 : decode code 950 = .ok (.ireturn, 1) := by decide +kernel
theorem d_Law_law_951 : decode code 951 = .ok (.aload_n 1, 1) := by decide +kernel
theorem d_Law_law_952 : decode code 952 = .ok (.aload_n 0, 1) := by decide +kernel
theorem d_Law_law_953 : decode code 953 = .ok (.iload_n 3, 1) := by decide +kernel
theorem d_Law_law_954 : decode code 954 = .ok (.iconst 1, 1) := by decide +kernel
theorem d_Law_law_955 : decode code 955 = .ok (.iadd, 1) := by decide +kernel
theorem d_Law_law_956 : decode code 956 = .ok (.iaload, 1) := by decide +kernel
theorem d_Law_law_957 : decode code 957 = .ok (.invokevirtual 127, 3) := by decide +kernel
theorem d_Law_law_960 : decode code 960 = .ok (.aload_n 2, 1) := by decide +kernel
theorem d_Law_law_961 : decode code 961 = .ok (.aload_n 0, 1) := by decide +kernel
theorem d_Law_law_962 : decode code 962 = .ok (.iload_n 3, 1) := by decide +kernel
theorem d_Law_law_963 : decode code 963 = .ok (.iconst 1, 1) := by decide +kernel
theorem d_Law_law_964 : decode code 964 = .ok (.iadd, 1) := by decide +kernel
theorem d_Law_law_965 : decode code 965 = .ok (.iaload, 1) := by decide +kernel
theorem d_Law_law_966 : decode code 966 = .ok (.invokevirtual 131, 3) := by decide +kernel
theorem d_Law_law_969 : decode code 969 = .ok (.lcmp, 1) := by decide +kernel
theorem d_Law_law_970 : decode code 970 = .ok (.ifCond .eq 111, 3) := by decide +kernel
theorem d_Law_law_973 : decode code 973 = .ok (.iconst 0, 1) := by decide +kernel
theorem d_Law_law_974 : decode code 974 = .ok (.ireturn, 1) := by decide +kernel
theorem d_Law_law_975 : decode code 975 = .ok (.aload_n 1, 1) := by decide +kernel
theorem d_Law_law_976 : decode code 976 = .ok (.aload_n 0, 1) := by decide +kernel
theorem d_Law_law_977 : decode code 977 = .ok (.iload_n 3, 1) := by decide +kernel
theorem d_Law_law_978 : decode code 978 = .ok (.iconst 1, 1) := by decide +kernel
theorem d_Law_law_979 : decode code 979 = .ok (.iadd, 1) := by decide +kernel
theorem d_Law_law_980 : decode code 980 = .ok (.iaload, 1) := by decide +kernel
theorem d_Law_law_981 : decode code 981 = .ok (.invokevirtual 132, 3) := by decide +kernel
theorem d_Law_law_984 : decode code 984 = .ok (.aload_n 2, 1) := by decide +kernel
theorem d_Law_law_985 : decode code 985 = .ok (.aload_n 0, 1) := by decide +kernel
theorem d_Law_law_986 : decode code 986 = .ok (.iload_n 3, 1) := by decide +kernel
theorem d_Law_law_987 : decode code 987 = .ok (.iconst 1, 1) := by decide +kernel
theorem d_Law_law_988 : decode code 988 = .ok (.iadd, 1) := by decide +kernel
theorem d_Law_law_989 : decode code 989 = .ok (.iaload, 1) := by decide +kernel
theorem d_Law_law_990 : decode code 990 = .ok (.invokevirtual 135, 3) := by decide +kernel
theorem d_Law_law_993 : decode code 993 = .ok (.if_icmp .eq 88, 3) := by decide +kernel
theorem d_Law_law_996 : decode code 996 = .ok (.iconst 0, 1) := by decide +kernel
theorem d_Law_law_997 : decode code 997 = .ok (.ireturn, 1) := by decide +kernel
theorem d_Law_law_998 : decode code 998 = .ok (.aload_n 1, 1) := by decide +kernel
theorem d_Law_law_999 : decode code 999 = .ok (.aload_n 0, 1) := by decide +kernel
theorem d_Law_law_1000 : decode code 1000 = .ok (.iload_n 3, 1) := by decide +kernel
theorem d_Law_law_1001 : decode code 1001 = .ok (.iconst 1, 1) := by decide +kernel
theorem d_Law_law_1002 : decode code 1002 = .ok (.iadd, 1) := by decide +kernel
theorem d_Law_law_1003 : decode code 1003 = .ok (.iaload, 1) := by decide +kernel
theorem d_Law_law_1004 : decode code 1004 = .ok (.invokevirtual 136, 3) := by decide +kernel
theorem d_Law_law_1007 : decode code 1007 = .ok (.aload_n 2, 1) := by decide +kernel
theorem d_Law_law_1008 : decode code 1008 = .ok (.aload_n 0, 1) := by decide +kernel
theorem d_Law_law_1009 : decode code 1009 = .ok (.iload_n 3, 1) := by decide +kernel
theorem d_Law_law_1010 : decode code 1010 = .ok (.iconst 1, 1) := by decide +kernel
theorem d_Law_law_1011 : decode code 1011 = .ok (.iadd, 1) := by decide +kernel
theorem d_Law_law_1012 : decode code 1012 = .ok (.iaload, 1) := by decide +kernel
theorem d_Law_law_1013 : decode code 1013 = .ok (.invokevirtual 139, 3) := by decide +kernel
theorem d_Law_law_1016 : decode code 1016 = .ok (.if_icmp .eq 65, 3) := by decide +kernel
theorem d_Law_law_1019 : decode code 1019 = .ok (.iconst 0, 1) := by decide +kernel
theorem d_Law_law_1020 : decode code 1020 = .ok (.ireturn, 1) := by decide +kernel
theorem d_Law_law_1021 : decode code 1021 = .ok (.aload_n 1, 1) := by decide +kernel
theorem d_Law_law_1022 : decode code 1022 = .ok (.aload_n 0, 1) := by decide +kernel
theorem d_Law_law_1023 : decode code 1023 = .ok (.iload_n 3, 1) := by decide +kernel
theorem d_Law_law_1024 : decode code 1024 = .ok (.iconst 1, 1) := by decide +kernel
theorem d_Law_law_1025 : decode code 1025 = .ok (.iadd, 1) := by decide +kernel
theorem d_Law_law_1026 : decode code 1026 = .ok (.iaload, 1) := by decide +kernel
theorem d_Law_law_1027 : decode code 1027 = .ok (.invokevirtual 140, 3) := by decide +kernel
theorem d_Law_law_1030 : decode code 1030 = .ok (.aload_n 2, 1) := by decide +kernel
theorem d_Law_law_1031 : decode code 1031 = .ok (.aload_n 0, 1) := by decide +kernel
theorem d_Law_law_1032 : decode code 1032 = .ok (.iload_n 3, 1) := by decide +kernel
theorem d_Law_law_1033 : decode code 1033 = .ok (.iconst 1, 1) := by decide +kernel
theorem d_Law_law_1034 : decode code 1034 = .ok (.iadd, 1) := by decide +kernel
theorem d_Law_law_1035 : decode code 1035 = .ok (.iaload, 1) := by decide +kernel
theorem d_Law_law_1036 : decode code 1036 = .ok (.invokevirtual 143, 3) := by decide +kernel
theorem d_Law_law_1039 : decode code 1039 = .ok (.if_icmp .eq 42, 3) := by decide +kernel
theorem d_Law_law_1042 : decode code 1042 = .ok (.iconst 0, 1) := by decide +kernel
theorem d_Law_law_1043 : decode code 1043 = .ok (.ireturn, 1) := by decide +kernel
theorem d_Law_law_1044 : decode code 1044 = .ok (.aload_n 1, 1) := by decide +kernel
theorem d_Law_law_1045 : decode code 1045 = .ok (.aload_n 0, 1) := by decide +kernel
theorem d_Law_law_1046 : decode code 1046 = .ok (.iload_n 3, 1) := by decide +kernel
theorem d_Law_law_1047 : decode code 1047 = .ok (.iconst 1, 1) := by decide +kernel
theorem d_Law_law_1048 : decode code 1048 = .ok (.iadd, 1) := by decide +kernel
theorem d_Law_law_1049 : decode code 1049 = .ok (.iaload, 1) := by decide +kernel
theorem d_Law_law_1050 : decode code 1050 = .ok (.invokevirtual 144, 3) := by decide +kernel
theorem d_Law_law_1053 : decode code 1053 = .ok (.aload_n 2, 1) := by decide +kernel
theorem d_Law_law_1054 : decode code 1054 = .ok (.aload_n 0, 1) := by decide +kernel
theorem d_Law_law_1055 : decode code 1055 = .ok (.iload_n 3, 1) := by decide +kernel
theorem d_Law_law_1056 : decode code 1056 = .ok (.iconst 1, 1) := by decide +kernel
theorem d_Law_law_1057 : decode code 1057 = .ok (.iadd, 1) := by decide +kernel
theorem d_Law_law_1058 : decode code 1058 = .ok (.iaload, 1) := by decide +kernel
theorem d_Law_law_1059 : decode code 1059 = .ok (.invokevirtual 147, 3) := by decide +kernel
theorem d_Law_law_1062 : decode code 1062 = .ok (.if_icmp .eq 19, 3) := by decide +kernel
theorem d_Law_law_1065 : decode code 1065 = .ok (.iconst 0, 1) := by decide +kernel
theorem d_Law_law_1066 : decode code 1066 = .ok (.ireturn, 1) := by decide +kernel
theorem d_Law_law_1067 : decode code 1067 = .ok (.aload_n 1, 1) := by decide +kernel
theorem d_Law_law_1068 : decode code 1068 = .ok (.invokevirtual 148, 3) := by decide +kernel
theorem d_Law_law_1071 : decode code 1071 = .ok (.aload_n 2, 1) := by decide +kernel
theorem d_Law_law_1072 : decode code 1072 = .ok (.invokevirtual 152, 3) := by decide +kernel
theorem d_Law_law_1075 : decode code 1075 = .ok (.lcmp, 1) := by decide +kernel
theorem d_Law_law_1076 : decode code 1076 = .ok (.ifCond .eq 5, 3) := by decide +kernel
theorem d_Law_law_1079 : decode code 1079 = .ok (.iconst 0, 1) := by decide +kernel
theorem d_Law_law_1080 : decode code 1080 = .ok (.ireturn, 1) := by decide +kernel
theorem d_Law_law_1081 : decode code 1081 = .ok (.iinc 3 6, 3) := by decide +kernel
theorem d_Law_law_1084 : decode code 1084 = .ok (.goto (-1066), 3) := by decide +kernel
theorem d_Law_law_1087 : decode code 1087 = .ok (.iconst 1, 1) := by decide +kernel
theorem d_Law_law_1088 : decode code 1088 = .ok (.ireturn, 1) := by decide +kernel
