theorem d_Face_init_0 : decode prog_1_method_1_code 0 = .ok (.aload_n 0, 1) := by decide +kernel
theorem d_Face_init_1 : decode prog_1_method_1_code 1 = .ok (.invokespecial 1, 3) := by decide +kernel
theorem d_Face_init_4 : decode prog_1_method_1_code 4 = .ok (.bipush 6, 2) := by decide +kernel
theorem d_Face_init_6 : decode prog_1_method_1_code 6 = .ok (.anewarray 7, 3) := by decide +kernel
theorem d_Face_init_9 : decode prog_1_method_1_code 9 = .ok (.dup, 1) := by decide +kernel
theorem d_Face_init_10 : decode prog_1_method_1_code 10 = .ok (.iconst 0, 1) := by decide +kernel
theorem d_Face_init_11 : decode prog_1_method_1_code 11 = .ok (.new 7, 3) := by decide +kernel
theorem d_Face_init_14 : decode prog_1_method_1_code 14 = .ok (.dup, 1) := by decide +kernel
theorem d_Face_init_15 : decode prog_1_method_1_code 15 = .ok (.invokespecial 9, 3) := by decide +kernel
theorem d_Face_init_18 : decode prog_1_method_1_code 18 = .ok (.aastore, 1) := by decide +kernel
theorem d_Face_init_19 : decode prog_1_method_1_code 19 = .ok (.dup, 1) := by decide +kernel
theorem d_Face_init_20 : decode prog_1_method_1_code 20 = .ok (.iconst 1, 1) := by decide +kernel
theorem d_Face_init_21 : decode prog_1_method_1_code 21 = .ok (.new 10, 3) := by decide +kernel
theorem d_Face_init_24 : decode prog_1_method_1_code 24 = .ok (.dup, 1) := by decide +kernel
theorem d_Face_init_25 : decode prog_1_method_1_code 25 = .ok (.invokespecial 12, 3) := by decide +kernel
theorem d_Face_init_28 : decode prog_1_method_1_code 28 = .ok (.aastore, 1) := by decide +kernel
theorem d_Face_init_29 : decode prog_1_method_1_code 29 = .ok (.dup, 1) := by decide +kernel
theorem d_Face_init_30 : decode prog_1_method_1_code 30 = .ok (.iconst 2, 1) := by decide +kernel
theorem d_Face_init_31 : decode prog_1_method_1_code 31 = .ok (.new 13, 3) := by decide +kernel
theorem d_Face_init_34 : decode prog_1_method_1_code 34 = .ok (.dup, 1) := by decide +kernel
theorem d_Face_init_35 : decode prog_1_method_1_code 35 = .ok (.invokespecial 15, 3) := by decide +kernel
theorem d_Face_init_38 : decode prog_1_method_1_code 38 = .ok (.aastore, 1) := by decide +kernel
theorem d_Face_init_39 : decode prog_1_method_1_code 39 = .ok (.dup, 1) := by decide +kernel
theorem d_Face_init_40 : decode prog_1_method_1_code 40 = .ok (.iconst 3, 1) := by decide +kernel
theorem d_Face_init_41 : decode prog_1_method_1_code 41 = .ok (.new 16, 3) := by decide +kernel
theorem d_Face_init_44 : decode prog_1_method_1_code 44 = .ok (.dup, 1) := by decide +kernel
theorem d_Face_init_45 : decode prog_1_method_1_code 45 = .ok (.invokespecial 18, 3) := by decide +kernel
theorem d_Face_init_48 : decode prog_1_method_1_code 48 = .ok (.aastore, 1) := by decide +kernel
theorem d_Face_init_49 : decode prog_1_method_1_code 49 = .ok (.dup, 1) := by decide +kernel
theorem d_Face_init_50 : decode prog_1_method_1_code 50 = .ok (.iconst 4, 1) := by decide +kernel
theorem d_Face_init_51 : decode prog_1_method_1_code 51 = .ok (.new 19, 3) := by decide +kernel
theorem d_Face_init_54 : decode prog_1_method_1_code 54 = .ok (.dup, 1) := by decide +kernel
theorem d_Face_init_55 : decode prog_1_method_1_code 55 = .ok (.invokespecial 21, 3) := by decide +kernel
theorem d_Face_init_58 : decode prog_1_method_1_code 58 = .ok (.aastore, 1) := by decide +kernel
theorem d_Face_init_59 : decode prog_1_method_1_code 59 = .ok (.dup, 1) := by decide +kernel
theorem d_Face_init_60 : decode prog_1_method_1_code 60 = .ok (.iconst 5, 1) := by decide +kernel
theorem d_Face_init_61 : decode prog_1_method_1_code 61 = .ok (.new 22, 3) := by decide +kernel
theorem d_Face_init_64 : decode prog_1_method_1_code 64 = .ok (.dup, 1) := by decide +kernel
theorem d_Face_init_65 : decode prog_1_method_1_code 65 = .ok (.invokespecial 24, 3) := by decide +kernel
theorem d_Face_init_68 : decode prog_1_method_1_code 68 = .ok (.aastore, 1) := by decide +kernel
theorem d_Face_init_69 : decode prog_1_method_1_code 69 = .ok (.astore_n 1, 1) := by decide +kernel
theorem d_Face_init_70 : decode prog_1_method_1_code 70 = .ok (.aload_n 0, 1) := by decide +kernel
theorem d_Face_init_71 : decode prog_1_method_1_code 71 = .ok (.new 25, 3) := by decide +kernel
theorem d_Face_init_74 : decode prog_1_method_1_code 74 = .ok (.dup, 1) := by decide +kernel
theorem d_Face_init_75 : decode prog_1_method_1_code 75 = .ok (.aload_n 1, 1) := by decide +kernel
theorem d_Face_init_76 : decode prog_1_method_1_code 76 = .ok (.invokespecial 27, 3) := by decide +kernel
theorem d_Face_init_79 : decode prog_1_method_1_code 79 = .ok (.putfield 30, 3) := by decide +kernel
theorem d_Face_init_82 : decode prog_1_method_1_code 82 = .ok (.aload_n 0, 1) := by decide +kernel
theorem d_Face_init_83 : decode prog_1_method_1_code 83 = .ok (.new 36, 3) := by decide +kernel
theorem d_Face_init_86 : decode prog_1_method_1_code 86 = .ok (.dup, 1) := by decide +kernel
theorem d_Face_init_87 : decode prog_1_method_1_code 87 = .ok (.new 25, 3) := by decide +kernel
theorem d_Face_init_90 : decode prog_1_method_1_code 90 = .ok (.dup, 1) := by decide +kernel
theorem d_Face_init_91 : decode prog_1_method_1_code 91 = .ok (.aload_n 1, 1) := by decide +kernel
theorem d_Face_init_92 : decode prog_1_method_1_code 92 = .ok (.invokespecial 27, 3) := by decide +kernel
theorem d_Face_init_95 : decode prog_1_method_1_code 95 = .ok (.invokespecial 38, 3) := by decide +kernel
theorem d_Face_init_98 : decode prog_1_method_1_code 98 = .ok (.putfield 41, 3) := by decide +kernel
theorem d_Face_init_101 : decode prog_1_method_1_code 101 = .ok (.aload_n 0, 1) := by decide +kernel
theorem d_Face_init_102 : decode prog_1_method_1_code 102 = .ok (.new 45, 3) := by decide +kernel
theorem d_Face_init_105 : decode prog_1_method_1_code 105 = .ok (.dup, 1) := by decide +kernel
theorem d_Face_init_106 : decode prog_1_method_1_code 106 = .ok (.aload_n 0, 1) := by decide +kernel
theorem d_Face_init_107 : decode prog_1_method_1_code 107 = .ok (.getfield 30, 3) := by decide +kernel
theorem d_Face_init_110 : decode prog_1_method_1_code 110 = .ok (.invokespecial 47, 3) := by decide +kernel
theorem d_Face_init_113 : decode prog_1_method_1_code 113 = .ok (.putfield 48, 3) := by decide +kernel
theorem d_Face_init_116 : decode prog_1_method_1_code 116 = .ok (.aload_n 0, 1) := by decide +kernel
theorem d_Face_init_117 : decode prog_1_method_1_code 117 = .ok (.iconst 2, 1) := by decide +kernel
theorem d_Face_init_118 : decode prog_1_method_1_code 118 = .ok (.anewarray 25, 3) := by decide +kernel
theorem d_Face_init_121 : decode prog_1_method_1_code 121 = .ok (.putfield 52, 3) := by decide +kernel
theorem d_Face_init_124 : decode prog_1_method_1_code 124 = .ok (.aload_n 0, 1) := by decide +kernel
theorem d_Face_init_125 : decode prog_1_method_1_code 125 = .ok (.iconst 1, 1) := by decide +kernel
theorem d_Face_init_126 : decode prog_1_method_1_code 126 = .ok (.putfield 56, 3) := by decide +kernel
theorem d_Face_init_129 : decode prog_1_method_1_code 129 = .ok (.return_, 1) := by decide +kernel
theorem d_Face_house_0 : decode prog_1_method_2_code 0 = .ok (.iload_n 1, 1) := by decide +kernel
theorem d_Face_house_1 : decode prog_1_method_2_code 1 = .ok (.bipush 9, 2) := by decide +kernel
theorem d_Face_house_3 : decode prog_1_method_2_code 3 = .ok (.invokestatic 60, 3) := by decide +kernel
theorem d_Face_house_6 : decode prog_1_method_2_code 6 = .ok (.ifCond .ne 10, 3) := by decide +kernel
theorem d_Face_house_9 : decode prog_1_method_2_code 9 = .ok (.aload_n 0, 1) := by decide +kernel
theorem d_Face_house_10 : decode prog_1_method_2_code 10 = .ok (.bipush (-2), 2) := by decide +kernel
theorem d_Face_house_12 : decode prog_1_method_2_code 12 = .ok (.invokevirtual 64, 3) := by decide +kernel
theorem d_Face_house_15 : decode prog_1_method_2_code 15 = .ok (.ireturn, 1) := by decide +kernel
theorem d_Face_house_16 : decode prog_1_method_2_code 16 = .ok (.aload_n 0, 1) := by decide +kernel
theorem d_Face_house_17 : decode prog_1_method_2_code 17 = .ok (.getfield 30, 3) := by decide +kernel
theorem d_Face_house_20 : decode prog_1_method_2_code 20 = .ok (.getfield 68, 3) := by decide +kernel
theorem d_Face_house_23 : decode prog_1_method_2_code 23 = .ok (.istore_n 2, 1) := by decide +kernel
theorem d_Face_house_24 : decode prog_1_method_2_code 24 = .ok (.aload_n 0, 1) := by decide +kernel
theorem d_Face_house_25 : decode prog_1_method_2_code 25 = .ok (.getfield 30, 3) := by decide +kernel
theorem d_Face_house_28 : decode prog_1_method_2_code 28 = .ok (.iload_n 1, 1) := by decide +kernel
theorem d_Face_house_29 : decode prog_1_method_2_code 29 = .ok (.invokevirtual 71, 3) := by decide +kernel
theorem d_Face_house_32 : decode prog_1_method_2_code 32 = .ok (.iload_n 2, 1) := by decide +kernel
theorem d_Face_house_33 : decode prog_1_method_2_code 33 = .ok (.ireturn, 1) := by decide +kernel
theorem d_Face_rate_0 : decode prog_1_method_3_code 0 = .ok (.iload_n 1, 1) := by decide +kernel
theorem d_Face_rate_1 : decode prog_1_method_3_code 1 = .ok (.invokestatic 75, 3) := by decide +kernel
theorem d_Face_rate_4 : decode prog_1_method_3_code 4 = .ok (.ifCond .eq 12, 3) := by decide +kernel
theorem d_Face_rate_7 : decode prog_1_method_3_code 7 = .ok (.iload_n 2, 1) := by decide +kernel
theorem d_Face_rate_8 : decode prog_1_method_3_code 8 = .ok (.bipush 9, 2) := by decide +kernel
theorem d_Face_rate_10 : decode prog_1_method_3_code 10 = .ok (.invokestatic 60, 3) := by decide +kernel
theorem d_Face_rate_13 : decode prog_1_method_3_code 13 = .ok (.ifCond .ne 10, 3) := by decide +kernel
theorem d_Face_rate_16 : decode prog_1_method_3_code 16 = .ok (.aload_n 0, 1) := by decide +kernel
theorem d_Face_rate_17 : decode prog_1_method_3_code 17 = .ok (.bipush (-2), 2) := by decide +kernel
theorem d_Face_rate_19 : decode prog_1_method_3_code 19 = .ok (.invokevirtual 64, 3) := by decide +kernel
theorem d_Face_rate_22 : decode prog_1_method_3_code 22 = .ok (.ireturn, 1) := by decide +kernel
theorem d_Face_rate_23 : decode prog_1_method_3_code 23 = .ok (.aload_n 0, 1) := by decide +kernel
theorem d_Face_rate_24 : decode prog_1_method_3_code 24 = .ok (.getfield 30, 3) := by decide +kernel
theorem d_Face_rate_27 : decode prog_1_method_3_code 27 = .ok (.getfield 79, 3) := by decide +kernel
theorem d_Face_rate_30 : decode prog_1_method_3_code 30 = .ok (.iload_n 1, 1) := by decide +kernel
theorem d_Face_rate_31 : decode prog_1_method_3_code 31 = .ok (.iaload, 1) := by decide +kernel
theorem d_Face_rate_32 : decode prog_1_method_3_code 32 = .ok (.istore_n 3, 1) := by decide +kernel
theorem d_Face_rate_33 : decode prog_1_method_3_code 33 = .ok (.aload_n 0, 1) := by decide +kernel
theorem d_Face_rate_34 : decode prog_1_method_3_code 34 = .ok (.getfield 30, 3) := by decide +kernel
theorem d_Face_rate_37 : decode prog_1_method_3_code 37 = .ok (.getfield 79, 3) := by decide +kernel
theorem d_Face_rate_40 : decode prog_1_method_3_code 40 = .ok (.iload_n 1, 1) := by decide +kernel
theorem d_Face_rate_41 : decode prog_1_method_3_code 41 = .ok (.iload_n 2, 1) := by decide +kernel
theorem d_Face_rate_42 : decode prog_1_method_3_code 42 = .ok (.iastore, 1) := by decide +kernel
theorem d_Face_rate_43 : decode prog_1_method_3_code 43 = .ok (.iload_n 3, 1) := by decide +kernel
theorem d_Face_rate_44 : decode prog_1_method_3_code 44 = .ok (.ireturn, 1) := by decide +kernel
theorem d_Face_bar_0 : decode prog_1_method_4_code 0 = .ok (.iload_n 1, 1) := by decide +kernel
theorem d_Face_bar_1 : decode prog_1_method_4_code 1 = .ok (.invokestatic 75, 3) := by decide +kernel
theorem d_Face_bar_4 : decode prog_1_method_4_code 4 = .ok (.ifCond .eq 12, 3) := by decide +kernel
theorem d_Face_bar_7 : decode prog_1_method_4_code 7 = .ok (.iload_n 2, 1) := by decide +kernel
theorem d_Face_bar_8 : decode prog_1_method_4_code 8 = .ok (.ldc 83, 2) := by decide +kernel
theorem d_Face_bar_10 : decode prog_1_method_4_code 10 = .ok (.invokestatic 60, 3) := by decide +kernel
theorem d_Face_bar_13 : decode prog_1_method_4_code 13 = .ok (.ifCond .ne 10, 3) := by decide +kernel
theorem d_Face_bar_16 : decode prog_1_method_4_code 16 = .ok (.aload_n 0, 1) := by decide +kernel
theorem d_Face_bar_17 : decode prog_1_method_4_code 17 = .ok (.bipush (-2), 2) := by decide +kernel
theorem d_Face_bar_19 : decode prog_1_method_4_code 19 = .ok (.invokevirtual 64, 3) := by decide +kernel
theorem d_Face_bar_22 : decode prog_1_method_4_code 22 = .ok (.ireturn, 1) := by decide +kernel
theorem d_Face_bar_23 : decode prog_1_method_4_code 23 = .ok (.aload_n 0, 1) := by decide +kernel
theorem d_Face_bar_24 : decode prog_1_method_4_code 24 = .ok (.getfield 30, 3) := by decide +kernel
theorem d_Face_bar_27 : decode prog_1_method_4_code 27 = .ok (.getfield 84, 3) := by decide +kernel
theorem d_Face_bar_30 : decode prog_1_method_4_code 30 = .ok (.iload_n 1, 1) := by decide +kernel
theorem d_Face_bar_31 : decode prog_1_method_4_code 31 = .ok (.iaload, 1) := by decide +kernel
theorem d_Face_bar_32 : decode prog_1_method_4_code 32 = .ok (.istore_n 3, 1) := by decide +kernel
theorem d_Face_bar_33 : decode prog_1_method_4_code 33 = .ok (.aload_n 0, 1) := by decide +kernel
theorem d_Face_bar_34 : decode prog_1_method_4_code 34 = .ok (.getfield 30, 3) := by decide +kernel
theorem d_Face_bar_37 : decode prog_1_method_4_code 37 = .ok (.getfield 84, 3) := by decide +kernel
theorem d_Face_bar_40 : decode prog_1_method_4_code 40 = .ok (.iload_n 1, 1) := by decide +kernel
theorem d_Face_bar_41 : decode prog_1_method_4_code 41 = .ok (.iload_n 2, 1) := by decide +kernel
theorem d_Face_bar_42 : decode prog_1_method_4_code 42 = .ok (.iastore, 1) := by decide +kernel
theorem d_Face_bar_43 : decode prog_1_method_4_code 43 = .ok (.iload_n 3, 1) := by decide +kernel
theorem d_Face_bar_44 : decode prog_1_method_4_code 44 = .ok (.ireturn, 1) := by decide +kernel
theorem d_Face_doing_0 : decode prog_1_method_5_code 0 = .ok (.iload_n 1, 1) := by decide +kernel
theorem d_Face_doing_1 : decode prog_1_method_5_code 1 = .ok (.iconst 5, 1) := by decide +kernel
theorem d_Face_doing_2 : decode prog_1_method_5_code 2 = .ok (.invokestatic 60, 3) := by decide +kernel
theorem d_Face_doing_5 : decode prog_1_method_5_code 5 = .ok (.ifCond .eq 12, 3) := by decide +kernel
theorem d_Face_doing_8 : decode prog_1_method_5_code 8 = .ok (.iload_n 2, 1) := by decide +kernel
theorem d_Face_doing_9 : decode prog_1_method_5_code 9 = .ok (.bipush 20, 2) := by decide +kernel
theorem d_Face_doing_11 : decode prog_1_method_5_code 11 = .ok (.invokestatic 60, 3) := by decide +kernel
theorem d_Face_doing_14 : decode prog_1_method_5_code 14 = .ok (.ifCond .ne 10, 3) := by decide +kernel
theorem d_Face_doing_17 : decode prog_1_method_5_code 17 = .ok (.aload_n 0, 1) := by decide +kernel
theorem d_Face_doing_18 : decode prog_1_method_5_code 18 = .ok (.bipush (-2), 2) := by decide +kernel
theorem d_Face_doing_20 : decode prog_1_method_5_code 20 = .ok (.invokevirtual 64, 3) := by decide +kernel
theorem d_Face_doing_23 : decode prog_1_method_5_code 23 = .ok (.ireturn, 1) := by decide +kernel
theorem d_Face_doing_24 : decode prog_1_method_5_code 24 = .ok (.aload_n 0, 1) := by decide +kernel
theorem d_Face_doing_25 : decode prog_1_method_5_code 25 = .ok (.getfield 30, 3) := by decide +kernel
theorem d_Face_doing_28 : decode prog_1_method_5_code 28 = .ok (.getfield 68, 3) := by decide +kernel
theorem d_Face_doing_31 : decode prog_1_method_5_code 31 = .ok (.bipush 6, 2) := by decide +kernel
theorem d_Face_doing_33 : decode prog_1_method_5_code 33 = .ok (.if_icmp .lt 8, 3) := by decide +kernel
theorem d_Face_doing_36 : decode prog_1_method_5_code 36 = .ok (.aload_n 0, 1) := by decide +kernel
theorem d_Face_doing_37 : decode prog_1_method_5_code 37 = .ok (.invokevirtual 87, 3) := by decide +kernel
theorem d_Face_doing_40 : decode prog_1_method_5_code 40 = .ok (.ireturn, 1) := by decide +kernel
theorem d_Face_doing_41 : decode prog_1_method_5_code 41 = .ok (.aload_n 0, 1) := by decide +kernel
theorem d_Face_doing_42 : decode prog_1_method_5_code 42 = .ok (.getfield 30, 3) := by decide +kernel
theorem d_Face_doing_45 : decode prog_1_method_5_code 45 = .ok (.iload_n 1, 1) := by decide +kernel
theorem d_Face_doing_46 : decode prog_1_method_5_code 46 = .ok (.iload_n 2, 1) := by decide +kernel
theorem d_Face_doing_47 : decode prog_1_method_5_code 47 = .ok (.invokevirtual 91, 3) := by decide +kernel
theorem d_Face_doing_50 : decode prog_1_method_5_code 50 = .ok (.ireturn, 1) := by decide +kernel
theorem d_Face_type_0 : decode prog_1_method_6_code 0 = .ok (.iload_n 1, 1) := by decide +kernel
theorem d_Face_type_1 : decode prog_1_method_6_code 1 = .ok (.bipush 127, 2) := by decide +kernel
theorem d_Face_type_3 : decode prog_1_method_6_code 3 = .ok (.invokestatic 60, 3) := by decide +kernel
theorem d_Face_type_6 : decode prog_1_method_6_code 6 = .ok (.ifCond .ne 10, 3) := by decide +kernel
theorem d_Face_type_9 : decode prog_1_method_6_code 9 = .ok (.aload_n 0, 1) := by decide +kernel
theorem d_Face_type_10 : decode prog_1_method_6_code 10 = .ok (.bipush (-2), 2) := by decide +kernel
theorem d_Face_type_12 : decode prog_1_method_6_code 12 = .ok (.invokevirtual 64, 3) := by decide +kernel
theorem d_Face_type_15 : decode prog_1_method_6_code 15 = .ok (.ireturn, 1) := by decide +kernel
theorem d_Face_type_16 : decode prog_1_method_6_code 16 = .ok (.aload_n 0, 1) := by decide +kernel
theorem d_Face_type_17 : decode prog_1_method_6_code 17 = .ok (.getfield 41, 3) := by decide +kernel
theorem d_Face_type_20 : decode prog_1_method_6_code 20 = .ok (.getfield 95, 3) := by decide +kernel
theorem d_Face_type_23 : decode prog_1_method_6_code 23 = .ok (.sipush 150, 3) := by decide +kernel
theorem d_Face_type_26 : decode prog_1_method_6_code 26 = .ok (.if_icmp .lt 8, 3) := by decide +kernel
theorem d_Face_type_29 : decode prog_1_method_6_code 29 = .ok (.aload_n 0, 1) := by decide +kernel
theorem d_Face_type_30 : decode prog_1_method_6_code 30 = .ok (.invokevirtual 87, 3) := by decide +kernel
theorem d_Face_type_33 : decode prog_1_method_6_code 33 = .ok (.ireturn, 1) := by decide +kernel
theorem d_Face_type_34 : decode prog_1_method_6_code 34 = .ok (.aload_n 0, 1) := by decide +kernel
theorem d_Face_type_35 : decode prog_1_method_6_code 35 = .ok (.getfield 41, 3) := by decide +kernel
theorem d_Face_type_38 : decode prog_1_method_6_code 38 = .ok (.iload_n 1, 1) := by decide +kernel
theorem d_Face_type_39 : decode prog_1_method_6_code 39 = .ok (.invokevirtual 98, 3) := by decide +kernel
theorem d_Face_type_42 : decode prog_1_method_6_code 42 = .ok (.ireturn, 1) := by decide +kernel
theorem d_Face_clear_0 : decode prog_1_method_7_code 0 = .ok (.aload_n 0, 1) := by decide +kernel
theorem d_Face_clear_1 : decode prog_1_method_7_code 1 = .ok (.getfield 41, 3) := by decide +kernel
theorem d_Face_clear_4 : decode prog_1_method_7_code 4 = .ok (.getfield 95, 3) := by decide +kernel
theorem d_Face_clear_7 : decode prog_1_method_7_code 7 = .ok (.istore_n 1, 1) := by decide +kernel
theorem d_Face_clear_8 : decode prog_1_method_7_code 8 = .ok (.aload_n 0, 1) := by decide +kernel
theorem d_Face_clear_9 : decode prog_1_method_7_code 9 = .ok (.getfield 41, 3) := by decide +kernel
theorem d_Face_clear_12 : decode prog_1_method_7_code 12 = .ok (.iconst 0, 1) := by decide +kernel
theorem d_Face_clear_13 : decode prog_1_method_7_code 13 = .ok (.putfield 95, 3) := by decide +kernel
theorem d_Face_clear_16 : decode prog_1_method_7_code 16 = .ok (.iload_n 1, 1) := by decide +kernel
theorem d_Face_clear_17 : decode prog_1_method_7_code 17 = .ok (.ireturn, 1) := by decide +kernel
theorem d_Face_read_0 : decode prog_1_method_8_code 0 = .ok (.aload_n 0, 1) := by decide +kernel
theorem d_Face_read_1 : decode prog_1_method_8_code 1 = .ok (.getfield 41, 3) := by decide +kernel
theorem d_Face_read_4 : decode prog_1_method_8_code 4 = .ok (.invokevirtual 101, 3) := by decide +kernel
theorem d_Face_read_7 : decode prog_1_method_8_code 7 = .ok (.istore_n 1, 1) := by decide +kernel
theorem d_Face_read_8 : decode prog_1_method_8_code 8 = .ok (.iload_n 1, 1) := by decide +kernel
theorem d_Face_read_9 : decode prog_1_method_8_code 9 = .ok (.ifCond .le 17, 3) := by decide +kernel
theorem d_Face_read_12 : decode prog_1_method_8_code 12 = .ok (.aload_n 0, 1) := by decide +kernel
theorem d_Face_read_13 : decode prog_1_method_8_code 13 = .ok (.getfield 30, 3) := by decide +kernel
theorem d_Face_read_16 : decode prog_1_method_8_code 16 = .ok (.aload_n 0, 1) := by decide +kernel
theorem d_Face_read_17 : decode prog_1_method_8_code 17 = .ok (.getfield 41, 3) := by decide +kernel
theorem d_Face_read_20 : decode prog_1_method_8_code 20 = .ok (.getfield 104, 3) := by decide +kernel
theorem d_Face_read_23 : decode prog_1_method_8_code 23 = .ok (.invokevirtual 107, 3) := by decide +kernel
theorem d_Face_read_26 : decode prog_1_method_8_code 26 = .ok (.iload_n 1, 1) := by decide +kernel
theorem d_Face_read_27 : decode prog_1_method_8_code 27 = .ok (.ireturn, 1) := by decide +kernel
theorem d_Face_does_0 : decode prog_1_method_9_code 0 = .ok (.aload_n 0, 1) := by decide +kernel
theorem d_Face_does_1 : decode prog_1_method_9_code 1 = .ok (.iload_n 1, 1) := by decide +kernel
theorem d_Face_does_2 : decode prog_1_method_9_code 2 = .ok (.invokevirtual 110, 3) := by decide +kernel
theorem d_Face_does_5 : decode prog_1_method_9_code 5 = .ok (.ifCond .eq 10, 3) := by decide +kernel
theorem d_Face_does_8 : decode prog_1_method_9_code 8 = .ok (.iload_n 2, 1) := by decide +kernel
theorem d_Face_does_9 : decode prog_1_method_9_code 9 = .ok (.invokestatic 75, 3) := by decide +kernel
theorem d_Face_does_12 : decode prog_1_method_9_code 12 = .ok (.ifCond .ne 10, 3) := by decide +kernel
theorem d_Face_does_15 : decode prog_1_method_9_code 15 = .ok (.aload_n 0, 1) := by decide +kernel
theorem d_Face_does_16 : decode prog_1_method_9_code 16 = .ok (.bipush (-2), 2) := by decide +kernel
theorem d_Face_does_18 : decode prog_1_method_9_code 18 = .ok (.invokevirtual 64, 3) := by decide +kernel
theorem d_Face_does_21 : decode prog_1_method_9_code 21 = .ok (.ireturn, 1) := by decide +kernel
theorem d_Face_does_22 : decode prog_1_method_9_code 22 = .ok (.aload_n 0, 1) := by decide +kernel
theorem d_Face_does_23 : decode prog_1_method_9_code 23 = .ok (.getfield 30, 3) := by decide +kernel
theorem d_Face_does_26 : decode prog_1_method_9_code 26 = .ok (.iload_n 1, 1) := by decide +kernel
theorem d_Face_does_27 : decode prog_1_method_9_code 27 = .ok (.iload_n 2, 1) := by decide +kernel
theorem d_Face_does_28 : decode prog_1_method_9_code 28 = .ok (.aload_n 0, 1) := by decide +kernel
theorem d_Face_does_29 : decode prog_1_method_9_code 29 = .ok (.getfield 30, 3) := by decide +kernel
theorem d_Face_does_32 : decode prog_1_method_9_code 32 = .ok (.getfield 113, 3) := by decide +kernel
theorem d_Face_does_35 : decode prog_1_method_9_code 35 = .ok (.invokevirtual 116, 3) := by decide +kernel
theorem d_Face_does_38 : decode prog_1_method_9_code 38 = .ok (.ifCond .ne 8, 3) := by decide +kernel
theorem d_Face_does_41 : decode prog_1_method_9_code 41 = .ok (.aload_n 0, 1) := by decide +kernel
theorem d_Face_does_42 : decode prog_1_method_9_code 42 = .ok (.invokevirtual 120, 3) := by decide +kernel
theorem d_Face_does_45 : decode prog_1_method_9_code 45 = .ok (.ireturn, 1) := by decide +kernel
theorem d_Face_does_46 : decode prog_1_method_9_code 46 = .ok (.aload_n 0, 1) := by decide +kernel
theorem d_Face_does_47 : decode prog_1_method_9_code 47 = .ok (.getfield 30, 3) := by decide +kernel
theorem d_Face_does_50 : decode prog_1_method_9_code 50 = .ok (.iload_n 1, 1) := by decide +kernel
theorem d_Face_does_51 : decode prog_1_method_9_code 51 = .ok (.iload_n 2, 1) := by decide +kernel
theorem d_Face_does_52 : decode prog_1_method_9_code 52 = .ok (.invokevirtual 123, 3) := by decide +kernel
theorem d_Face_does_55 : decode prog_1_method_9_code 55 = .ok (.ireturn, 1) := by decide +kernel
theorem d_Face_waits_0 : decode prog_1_method_10_code 0 = .ok (.iload_n 1, 1) := by decide +kernel
theorem d_Face_waits_1 : decode prog_1_method_10_code 1 = .ok (.iconst 1, 1) := by decide +kernel
theorem d_Face_waits_2 : decode prog_1_method_10_code 2 = .ok (.if_icmp .lt 9, 3) := by decide +kernel
theorem d_Face_waits_5 : decode prog_1_method_10_code 5 = .ok (.iload_n 1, 1) := by decide +kernel
theorem d_Face_waits_6 : decode prog_1_method_10_code 6 = .ok (.bipush 24, 2) := by decide +kernel
theorem d_Face_waits_8 : decode prog_1_method_10_code 8 = .ok (.if_icmp .le 10, 3) := by decide +kernel
theorem d_Face_waits_11 : decode prog_1_method_10_code 11 = .ok (.aload_n 0, 1) := by decide +kernel
theorem d_Face_waits_12 : decode prog_1_method_10_code 12 = .ok (.bipush (-2), 2) := by decide +kernel
theorem d_Face_waits_14 : decode prog_1_method_10_code 14 = .ok (.invokevirtual 64, 3) := by decide +kernel
theorem d_Face_waits_17 : decode prog_1_method_10_code 17 = .ok (.ireturn, 1) := by decide +kernel
theorem d_Face_waits_18 : decode prog_1_method_10_code 18 = .ok (.aload_n 0, 1) := by decide +kernel
theorem d_Face_waits_19 : decode prog_1_method_10_code 19 = .ok (.getfield 30, 3) := by decide +kernel
theorem d_Face_waits_22 : decode prog_1_method_10_code 22 = .ok (.invokevirtual 126, 3) := by decide +kernel
theorem d_Face_waits_25 : decode prog_1_method_10_code 25 = .ok (.aload_n 0, 1) := by decide +kernel
theorem d_Face_waits_26 : decode prog_1_method_10_code 26 = .ok (.getfield 30, 3) := by decide +kernel
theorem d_Face_waits_29 : decode prog_1_method_10_code 29 = .ok (.aload_n 0, 1) := by decide +kernel
theorem d_Face_waits_30 : decode prog_1_method_10_code 30 = .ok (.getfield 30, 3) := by decide +kernel
theorem d_Face_waits_33 : decode prog_1_method_10_code 33 = .ok (.getfield 113, 3) := by decide +kernel
theorem d_Face_waits_36 : decode prog_1_method_10_code 36 = .ok (.iload_n 1, 1) := by decide +kernel
theorem d_Face_waits_37 : decode prog_1_method_10_code 37 = .ok (.iadd, 1) := by decide +kernel
theorem d_Face_waits_38 : decode prog_1_method_10_code 38 = .ok (.bipush 24, 2) := by decide +kernel
theorem d_Face_waits_40 : decode prog_1_method_10_code 40 = .ok (.irem, 1) := by decide +kernel
theorem d_Face_waits_41 : decode prog_1_method_10_code 41 = .ok (.putfield 113, 3) := by decide +kernel
theorem d_Face_waits_44 : decode prog_1_method_10_code 44 = .ok (.aload_n 0, 1) := by decide +kernel
theorem d_Face_waits_45 : decode prog_1_method_10_code 45 = .ok (.getfield 30, 3) := by decide +kernel
theorem d_Face_waits_48 : decode prog_1_method_10_code 48 = .ok (.getfield 113, 3) := by decide +kernel
theorem d_Face_waits_51 : decode prog_1_method_10_code 51 = .ok (.ireturn, 1) := by decide +kernel
theorem d_Face_war_0 : decode prog_1_method_11_code 0 = .ok (.iload_n 1, 1) := by decide +kernel
theorem d_Face_war_1 : decode prog_1_method_11_code 1 = .ok (.iconst 1, 1) := by decide +kernel
theorem d_Face_war_2 : decode prog_1_method_11_code 2 = .ok (.invokestatic 60, 3) := by decide +kernel
theorem d_Face_war_5 : decode prog_1_method_11_code 5 = .ok (.ifCond .ne 10, 3) := by decide +kernel
theorem d_Face_war_8 : decode prog_1_method_11_code 8 = .ok (.aload_n 0, 1) := by decide +kernel
theorem d_Face_war_9 : decode prog_1_method_11_code 9 = .ok (.bipush (-2), 2) := by decide +kernel
theorem d_Face_war_11 : decode prog_1_method_11_code 11 = .ok (.invokevirtual 64, 3) := by decide +kernel
theorem d_Face_war_14 : decode prog_1_method_11_code 14 = .ok (.ireturn, 1) := by decide +kernel
theorem d_Face_war_15 : decode prog_1_method_11_code 15 = .ok (.aload_n 0, 1) := by decide +kernel
theorem d_Face_war_16 : decode prog_1_method_11_code 16 = .ok (.getfield 30, 3) := by decide +kernel
theorem d_Face_war_19 : decode prog_1_method_11_code 19 = .ok (.invokevirtual 129, 3) := by decide +kernel
theorem d_Face_war_22 : decode prog_1_method_11_code 22 = .ok (.istore_n 2, 1) := by decide +kernel
theorem d_Face_war_23 : decode prog_1_method_11_code 23 = .ok (.aload_n 0, 1) := by decide +kernel
theorem d_Face_war_24 : decode prog_1_method_11_code 24 = .ok (.getfield 30, 3) := by decide +kernel
theorem d_Face_war_27 : decode prog_1_method_11_code 27 = .ok (.invokevirtual 126, 3) := by decide +kernel
theorem d_Face_war_30 : decode prog_1_method_11_code 30 = .ok (.aload_n 0, 1) := by decide +kernel
theorem d_Face_war_31 : decode prog_1_method_11_code 31 = .ok (.getfield 30, 3) := by decide +kernel
theorem d_Face_war_34 : decode prog_1_method_11_code 34 = .ok (.iload_n 1, 1) := by decide +kernel
theorem d_Face_war_35 : decode prog_1_method_11_code 35 = .ok (.iconst 1, 1) := by decide +kernel
theorem d_Face_war_36 : decode prog_1_method_11_code 36 = .ok (.if_icmp .ne 7, 3) := by decide +kernel
theorem d_Face_war_39 : decode prog_1_method_11_code 39 = .ok (.iconst 1, 1) := by decide +kernel
theorem d_Face_war_40 : decode prog_1_method_11_code 40 = .ok (.goto 4, 3) := by decide +kernel
theorem d_Face_war_43 : decode prog_1_method_11_code 43 = .ok (.iconst 0, 1) := by decide +kernel
theorem d_Face_war_44 : decode prog_1_method_11_code 44 = .ok (.putfield 132, 3) := by decide +kernel
theorem d_Face_war_47 : decode prog_1_method_11_code 47 = .ok (.iload_n 2, 1) := by decide +kernel
theorem d_Face_war_48 : decode prog_1_method_11_code 48 = .ok (.ireturn, 1) := by decide +kernel
theorem d_Face_undo_0 : decode prog_1_method_12_code 0 = .ok (.aload_n 0, 1) := by decide +kernel
theorem d_Face_undo_1 : decode prog_1_method_12_code 1 = .ok (.getfield 30, 3) := by decide +kernel
theorem d_Face_undo_4 : decode prog_1_method_12_code 4 = .ok (.getfield 136, 3) := by decide +kernel
theorem d_Face_undo_7 : decode prog_1_method_12_code 7 = .ok (.ifCond .ne 8, 3) := by decide +kernel
theorem d_Face_undo_10 : decode prog_1_method_12_code 10 = .ok (.aload_n 0, 1) := by decide +kernel
theorem d_Face_undo_11 : decode prog_1_method_12_code 11 = .ok (.invokevirtual 120, 3) := by decide +kernel
theorem d_Face_undo_14 : decode prog_1_method_12_code 14 = .ok (.ireturn, 1) := by decide +kernel
theorem d_Face_undo_15 : decode prog_1_method_12_code 15 = .ok (.aload_n 0, 1) := by decide +kernel
theorem d_Face_undo_16 : decode prog_1_method_12_code 16 = .ok (.getfield 30, 3) := by decide +kernel
theorem d_Face_undo_19 : decode prog_1_method_12_code 19 = .ok (.invokevirtual 139, 3) := by decide +kernel
theorem d_Face_undo_22 : decode prog_1_method_12_code 22 = .ok (.aload_n 0, 1) := by decide +kernel
theorem d_Face_undo_23 : decode prog_1_method_12_code 23 = .ok (.getfield 30, 3) := by decide +kernel
theorem d_Face_undo_26 : decode prog_1_method_12_code 26 = .ok (.getfield 142, 3) := by decide +kernel
theorem d_Face_undo_29 : decode prog_1_method_12_code 29 = .ok (.ireturn, 1) := by decide +kernel
theorem d_Face_of_0 : decode prog_1_method_13_code 0 = .ok (.aload_n 0, 1) := by decide +kernel
theorem d_Face_of_1 : decode prog_1_method_13_code 1 = .ok (.iload_n 1, 1) := by decide +kernel
theorem d_Face_of_2 : decode prog_1_method_13_code 2 = .ok (.invokevirtual 110, 3) := by decide +kernel
theorem d_Face_of_5 : decode prog_1_method_13_code 5 = .ok (.ifCond .eq 11, 3) := by decide +kernel
theorem d_Face_of_8 : decode prog_1_method_13_code 8 = .ok (.iload_n 2, 1) := by decide +kernel
theorem d_Face_of_9 : decode prog_1_method_13_code 9 = .ok (.iconst 1, 1) := by decide +kernel
theorem d_Face_of_10 : decode prog_1_method_13_code 10 = .ok (.invokestatic 60, 3) := by decide +kernel
theorem d_Face_of_13 : decode prog_1_method_13_code 13 = .ok (.ifCond .ne 10, 3) := by decide +kernel
theorem d_Face_of_16 : decode prog_1_method_13_code 16 = .ok (.aload_n 0, 1) := by decide +kernel
theorem d_Face_of_17 : decode prog_1_method_13_code 17 = .ok (.bipush (-2), 2) := by decide +kernel
theorem d_Face_of_19 : decode prog_1_method_13_code 19 = .ok (.invokevirtual 64, 3) := by decide +kernel
theorem d_Face_of_22 : decode prog_1_method_13_code 22 = .ok (.ireturn, 1) := by decide +kernel
theorem d_Face_of_23 : decode prog_1_method_13_code 23 = .ok (.iload_n 2, 1) := by decide +kernel
theorem d_Face_of_24 : decode prog_1_method_13_code 24 = .ok (.ifCond .ne 15, 3) := by decide +kernel
theorem d_Face_of_27 : decode prog_1_method_13_code 27 = .ok (.aload_n 0, 1) := by decide +kernel
theorem d_Face_of_28 : decode prog_1_method_13_code 28 = .ok (.getfield 30, 3) := by decide +kernel
theorem d_Face_of_31 : decode prog_1_method_13_code 31 = .ok (.getfield 145, 3) := by decide +kernel
theorem d_Face_of_34 : decode prog_1_method_13_code 34 = .ok (.iload_n 1, 1) := by decide +kernel
theorem d_Face_of_35 : decode prog_1_method_13_code 35 = .ok (.iaload, 1) := by decide +kernel
theorem d_Face_of_36 : decode prog_1_method_13_code 36 = .ok (.goto 12, 3) := by decide +kernel
theorem d_Face_of_39 : decode prog_1_method_13_code 39 = .ok (.aload_n 0, 1) := by decide +kernel
theorem d_Face_of_40 : decode prog_1_method_13_code 40 = .ok (.getfield 30, 3) := by decide +kernel
theorem d_Face_of_43 : decode prog_1_method_13_code 43 = .ok (.getfield 148, 3) := by decide +kernel
theorem d_Face_of_46 : decode prog_1_method_13_code 46 = .ok (.iload_n 1, 1) := by decide +kernel
theorem d_Face_of_47 : decode prog_1_method_13_code 47 = .ok (.iaload, 1) := by decide +kernel
theorem d_Face_of_48 : decode prog_1_method_13_code 48 = .ok (.ireturn, 1) := by decide +kernel
theorem d_Face_now_0 : decode prog_1_method_14_code 0 = .ok (.iload_n 1, 1) := by decide +kernel
theorem d_Face_now_1 : decode prog_1_method_14_code 1 = .ok (.tableswitch 63 0 3 #[31, 39, 47, 55], 31) := by decide +kernel
theorem d_Face_now_32 : decode prog_1_method_14_code 32 = .ok (.aload_n 0, 1) := by decide +kernel
theorem d_Face_now_33 : decode prog_1_method_14_code 33 = .ok (.getfield 30, 3) := by decide +kernel
theorem d_Face_now_36 : decode prog_1_method_14_code 36 = .ok (.getfield 151, 3) := by decide +kernel
theorem d_Face_now_39 : decode prog_1_method_14_code 39 = .ok (.ireturn, 1) := by decide +kernel
theorem d_Face_now_40 : decode prog_1_method_14_code 40 = .ok (.aload_n 0, 1) := by decide +kernel
theorem d_Face_now_41 : decode prog_1_method_14_code 41 = .ok (.getfield 30, 3) := by decide +kernel
theorem d_Face_now_44 : decode prog_1_method_14_code 44 = .ok (.getfield 113, 3) := by decide +kernel
theorem d_Face_now_47 : decode prog_1_method_14_code 47 = .ok (.ireturn, 1) := by decide +kernel
theorem d_Face_now_48 : decode prog_1_method_14_code 48 = .ok (.aload_n 0, 1) := by decide +kernel
theorem d_Face_now_49 : decode prog_1_method_14_code 49 = .ok (.getfield 30, 3) := by decide +kernel
theorem d_Face_now_52 : decode prog_1_method_14_code 52 = .ok (.getfield 142, 3) := by decide +kernel
theorem d_Face_now_55 : decode prog_1_method_14_code 55 = .ok (.ireturn, 1) := by decide +kernel
theorem d_Face_now_56 : decode prog_1_method_14_code 56 = .ok (.aload_n 0, 1) := by decide +kernel
theorem d_Face_now_57 : decode prog_1_method_14_code 57 = .ok (.getfield 30, 3) := by decide +kernel
theorem d_Face_now_60 : decode prog_1_method_14_code 60 = .ok (.invokevirtual 129, 3) := by decide +kernel
theorem d_Face_now_63 : decode prog_1_method_14_code 63 = .ok (.ireturn, 1) := by decide +kernel
theorem d_Face_now_64 : decode prog_1_method_14_code 64 = .ok (.aload_n 0, 1) := by decide +kernel
theorem d_Face_now_65 : decode prog_1_method_14_code 65 = .ok (.bipush (-2), 2) := by decide +kernel
theorem d_Face_now_67 : decode prog_1_method_14_code 67 = .ok (.invokevirtual 64, 3) := by decide +kernel
theorem d_Face_now_70 : decode prog_1_method_14_code 70 = .ok (.ireturn, 1) := by decide +kernel
theorem d_Face_due_0 : decode prog_1_method_15_code 0 = .ok (.aload_n 0, 1) := by decide +kernel
theorem d_Face_due_1 : decode prog_1_method_15_code 1 = .ok (.iload_n 1, 1) := by decide +kernel
theorem d_Face_due_2 : decode prog_1_method_15_code 2 = .ok (.invokevirtual 110, 3) := by decide +kernel
theorem d_Face_due_5 : decode prog_1_method_15_code 5 = .ok (.ifCond .eq 17, 3) := by decide +kernel
theorem d_Face_due_8 : decode prog_1_method_15_code 8 = .ok (.iload_n 2, 1) := by decide +kernel
theorem d_Face_due_9 : decode prog_1_method_15_code 9 = .ok (.invokestatic 75, 3) := by decide +kernel
theorem d_Face_due_12 : decode prog_1_method_15_code 12 = .ok (.ifCond .eq 10, 3) := by decide +kernel
theorem d_Face_due_15 : decode prog_1_method_15_code 15 = .ok (.iload_n 3, 1) := by decide +kernel
theorem d_Face_due_16 : decode prog_1_method_15_code 16 = .ok (.invokestatic 154, 3) := by decide +kernel
theorem d_Face_due_19 : decode prog_1_method_15_code 19 = .ok (.ifCond .ne 10, 3) := by decide +kernel
theorem d_Face_due_22 : decode prog_1_method_15_code 22 = .ok (.aload_n 0, 1) := by decide +kernel
theorem d_Face_due_23 : decode prog_1_method_15_code 23 = .ok (.bipush (-2), 2) := by decide +kernel
theorem d_Face_due_25 : decode prog_1_method_15_code 25 = .ok (.invokevirtual 64, 3) := by decide +kernel
theorem d_Face_due_28 : decode prog_1_method_15_code 28 = .ok (.ireturn, 1) := by decide +kernel
theorem d_Face_due_29 : decode prog_1_method_15_code 29 = .ok (.aload_n 0, 1) := by decide +kernel
theorem d_Face_due_30 : decode prog_1_method_15_code 30 = .ok (.getfield 30, 3) := by decide +kernel
theorem d_Face_due_33 : decode prog_1_method_15_code 33 = .ok (.iload_n 1, 1) := by decide +kernel
theorem d_Face_due_34 : decode prog_1_method_15_code 34 = .ok (.iload_n 2, 1) := by decide +kernel
theorem d_Face_due_35 : decode prog_1_method_15_code 35 = .ok (.iload_n 3, 1) := by decide +kernel
theorem d_Face_due_36 : decode prog_1_method_15_code 36 = .ok (.invokevirtual 116, 3) := by decide +kernel
theorem d_Face_due_39 : decode prog_1_method_15_code 39 = .ok (.ifCond .eq 16, 3) := by decide +kernel
theorem d_Face_due_42 : decode prog_1_method_15_code 42 = .ok (.aload_n 0, 1) := by decide +kernel
theorem d_Face_due_43 : decode prog_1_method_15_code 43 = .ok (.getfield 30, 3) := by decide +kernel
theorem d_Face_due_46 : decode prog_1_method_15_code 46 = .ok (.iload_n 1, 1) := by decide +kernel
theorem d_Face_due_47 : decode prog_1_method_15_code 47 = .ok (.iload_n 2, 1) := by decide +kernel
theorem d_Face_due_48 : decode prog_1_method_15_code 48 = .ok (.iload_n 3, 1) := by decide +kernel
theorem d_Face_due_49 : decode prog_1_method_15_code 49 = .ok (.invokevirtual 157, 3) := by decide +kernel
theorem d_Face_due_52 : decode prog_1_method_15_code 52 = .ok (.goto 4, 3) := by decide +kernel
theorem d_Face_due_55 : decode prog_1_method_15_code 55 = .ok (.iconst (-1), 1) := by decide +kernel
theorem d_Face_due_56 : decode prog_1_method_15_code 56 = .ok (.ireturn, 1) := by decide +kernel
theorem d_Face_both_0 : decode prog_1_method_16_code 0 = .ok (.aload_n 0, 1) := by decide +kernel
theorem d_Face_both_1 : decode prog_1_method_16_code 1 = .ok (.iload_n 1, 1) := by decide +kernel
theorem d_Face_both_2 : decode prog_1_method_16_code 2 = .ok (.invokevirtual 110, 3) := by decide +kernel
theorem d_Face_both_5 : decode prog_1_method_16_code 5 = .ok (.ifCond .eq 11, 3) := by decide +kernel
theorem d_Face_both_8 : decode prog_1_method_16_code 8 = .ok (.iload_n 2, 1) := by decide +kernel
theorem d_Face_both_9 : decode prog_1_method_16_code 9 = .ok (.iconst 1, 1) := by decide +kernel
theorem d_Face_both_10 : decode prog_1_method_16_code 10 = .ok (.invokestatic 60, 3) := by decide +kernel
theorem d_Face_both_13 : decode prog_1_method_16_code 13 = .ok (.ifCond .ne 10, 3) := by decide +kernel
theorem d_Face_both_16 : decode prog_1_method_16_code 16 = .ok (.aload_n 0, 1) := by decide +kernel
theorem d_Face_both_17 : decode prog_1_method_16_code 17 = .ok (.bipush (-2), 2) := by decide +kernel
theorem d_Face_both_19 : decode prog_1_method_16_code 19 = .ok (.invokevirtual 64, 3) := by decide +kernel
theorem d_Face_both_22 : decode prog_1_method_16_code 22 = .ok (.ireturn, 1) := by decide +kernel
theorem d_Face_both_23 : decode prog_1_method_16_code 23 = .ok (.aload_n 0, 1) := by decide +kernel
theorem d_Face_both_24 : decode prog_1_method_16_code 24 = .ok (.getfield 48, 3) := by decide +kernel
theorem d_Face_both_27 : decode prog_1_method_16_code 27 = .ok (.iload_n 1, 1) := by decide +kernel
theorem d_Face_both_28 : decode prog_1_method_16_code 28 = .ok (.invokevirtual 161, 3) := by decide +kernel
theorem d_Face_both_31 : decode prog_1_method_16_code 31 = .ok (.istore_n 3, 1) := by decide +kernel
theorem d_Face_both_32 : decode prog_1_method_16_code 32 = .ok (.iload_n 2, 1) := by decide +kernel
theorem d_Face_both_33 : decode prog_1_method_16_code 33 = .ok (.ifCond .ne 7, 3) := by decide +kernel
theorem d_Face_both_36 : decode prog_1_method_16_code 36 = .ok (.iload_n 3, 1) := by decide +kernel
theorem d_Face_both_37 : decode prog_1_method_16_code 37 = .ok (.goto 11, 3) := by decide +kernel
theorem d_Face_both_40 : decode prog_1_method_16_code 40 = .ok (.aload_n 0, 1) := by decide +kernel
theorem d_Face_both_41 : decode prog_1_method_16_code 41 = .ok (.getfield 48, 3) := by decide +kernel
theorem d_Face_both_44 : decode prog_1_method_16_code 44 = .ok (.iload_n 3, 1) := by decide +kernel
theorem d_Face_both_45 : decode prog_1_method_16_code 45 = .ok (.invokevirtual 164, 3) := by decide +kernel
theorem d_Face_both_48 : decode prog_1_method_16_code 48 = .ok (.ireturn, 1) := by decide +kernel
theorem d_Face_least_0 : decode prog_1_method_17_code 0 = .ok (.iload_n 1, 1) := by decide +kernel
theorem d_Face_least_1 : decode prog_1_method_17_code 1 = .ok (.iconst (-1), 1) := by decide +kernel
theorem d_Face_least_2 : decode prog_1_method_17_code 2 = .ok (.if_icmp .eq 18, 3) := by decide +kernel
theorem d_Face_least_5 : decode prog_1_method_17_code 5 = .ok (.aload_n 0, 1) := by decide +kernel
theorem d_Face_least_6 : decode prog_1_method_17_code 6 = .ok (.iload_n 1, 1) := by decide +kernel
theorem d_Face_least_7 : decode prog_1_method_17_code 7 = .ok (.invokevirtual 110, 3) := by decide +kernel
theorem d_Face_least_10 : decode prog_1_method_17_code 10 = .ok (.ifCond .ne 10, 3) := by decide +kernel
theorem d_Face_least_13 : decode prog_1_method_17_code 13 = .ok (.aload_n 0, 1) := by decide +kernel
theorem d_Face_least_14 : decode prog_1_method_17_code 14 = .ok (.bipush (-10), 2) := by decide +kernel
theorem d_Face_least_16 : decode prog_1_method_17_code 16 = .ok (.invokevirtual 64, 3) := by decide +kernel
theorem d_Face_least_19 : decode prog_1_method_17_code 19 = .ok (.ireturn, 1) := by decide +kernel
theorem d_Face_least_20 : decode prog_1_method_17_code 20 = .ok (.aload_n 0, 1) := by decide +kernel
theorem d_Face_least_21 : decode prog_1_method_17_code 21 = .ok (.getfield 167, 3) := by decide +kernel
theorem d_Face_least_24 : decode prog_1_method_17_code 24 = .ok (.ifnonnull 18, 3) := by decide +kernel
theorem d_Face_least_27 : decode prog_1_method_17_code 27 = .ok (.aload_n 0, 1) := by decide +kernel
theorem d_Face_least_28 : decode prog_1_method_17_code 28 = .ok (.new 171, 3) := by decide +kernel
theorem d_Face_least_31 : decode prog_1_method_17_code 31 = .ok (.dup, 1) := by decide +kernel
theorem d_Face_least_32 : decode prog_1_method_17_code 32 = .ok (.aload_n 0, 1) := by decide +kernel
theorem d_Face_least_33 : decode prog_1_method_17_code 33 = .ok (.getfield 30, 3) := by decide +kernel
theorem d_Face_least_36 : decode prog_1_method_17_code 36 = .ok (.invokespecial 173, 3) := by decide +kernel
theorem d_Face_least_39 : decode prog_1_method_17_code 39 = .ok (.putfield 167, 3) := by decide +kernel
theorem d_Face_least_42 : decode prog_1_method_17_code 42 = .ok (.aload_n 0, 1) := by decide +kernel
theorem d_Face_least_43 : decode prog_1_method_17_code 43 = .ok (.getfield 167, 3) := by decide +kernel
theorem d_Face_least_46 : decode prog_1_method_17_code 46 = .ok (.invokevirtual 174, 3) := by decide +kernel
theorem d_Face_least_49 : decode prog_1_method_17_code 49 = .ok (.istore_n 2, 1) := by decide +kernel
theorem d_Face_least_50 : decode prog_1_method_17_code 50 = .ok (.iload_n 2, 1) := by decide +kernel
theorem d_Face_least_51 : decode prog_1_method_17_code 51 = .ok (.iconst (-1), 1) := by decide +kernel
theorem d_Face_least_52 : decode prog_1_method_17_code 52 = .ok (.if_icmp .eq 8, 3) := by decide +kernel
theorem d_Face_least_55 : decode prog_1_method_17_code 55 = .ok (.iload_n 1, 1) := by decide +kernel
theorem d_Face_least_56 : decode prog_1_method_17_code 56 = .ok (.iconst (-1), 1) := by decide +kernel
theorem d_Face_least_57 : decode prog_1_method_17_code 57 = .ok (.if_icmp .ne 5, 3) := by decide +kernel
theorem d_Face_least_60 : decode prog_1_method_17_code 60 = .ok (.iload_n 2, 1) := by decide +kernel
theorem d_Face_least_61 : decode prog_1_method_17_code 61 = .ok (.ireturn, 1) := by decide +kernel
theorem d_Face_least_62 : decode prog_1_method_17_code 62 = .ok (.aload_n 0, 1) := by decide +kernel
theorem d_Face_least_63 : decode prog_1_method_17_code 63 = .ok (.getfield 167, 3) := by decide +kernel
theorem d_Face_least_66 : decode prog_1_method_17_code 66 = .ok (.iload_n 1, 1) := by decide +kernel
theorem d_Face_least_67 : decode prog_1_method_17_code 67 = .ok (.invokevirtual 177, 3) := by decide +kernel
theorem d_Face_least_70 : decode prog_1_method_17_code 70 = .ok (.ireturn, 1) := by decide +kernel
theorem d_Face_before_0 : decode prog_1_method_18_code 0 = .ok (.iload_n 1, 1) := by decide +kernel
theorem d_Face_before_1 : decode prog_1_method_18_code 1 = .ok (.invokestatic 75, 3) := by decide +kernel
theorem d_Face_before_4 : decode prog_1_method_18_code 4 = .ok (.ifCond .eq 25, 3) := by decide +kernel
theorem d_Face_before_7 : decode prog_1_method_18_code 7 = .ok (.iload_n 2, 1) := by decide +kernel
theorem d_Face_before_8 : decode prog_1_method_18_code 8 = .ok (.invokestatic 154, 3) := by decide +kernel
theorem d_Face_before_11 : decode prog_1_method_18_code 11 = .ok (.ifCond .eq 18, 3) := by decide +kernel
theorem d_Face_before_14 : decode prog_1_method_18_code 14 = .ok (.iload_n 3, 1) := by decide +kernel
theorem d_Face_before_15 : decode prog_1_method_18_code 15 = .ok (.invokestatic 75, 3) := by decide +kernel
theorem d_Face_before_18 : decode prog_1_method_18_code 18 = .ok (.ifCond .eq 11, 3) := by decide +kernel
theorem d_Face_before_21 : decode prog_1_method_18_code 21 = .ok (.iload 4, 2) := by decide +kernel
theorem d_Face_before_23 : decode prog_1_method_18_code 23 = .ok (.invokestatic 154, 3) := by decide +kernel
theorem d_Face_before_26 : decode prog_1_method_18_code 26 = .ok (.ifCond .ne 10, 3) := by decide +kernel
theorem d_Face_before_29 : decode prog_1_method_18_code 29 = .ok (.aload_n 0, 1) := by decide +kernel
theorem d_Face_before_30 : decode prog_1_method_18_code 30 = .ok (.bipush (-2), 2) := by decide +kernel
theorem d_Face_before_32 : decode prog_1_method_18_code 32 = .ok (.invokevirtual 64, 3) := by decide +kernel
theorem d_Face_before_35 : decode prog_1_method_18_code 35 = .ok (.ireturn, 1) := by decide +kernel
theorem d_Face_before_36 : decode prog_1_method_18_code 36 = .ok (.iload_n 1, 1) := by decide +kernel
theorem d_Face_before_37 : decode prog_1_method_18_code 37 = .ok (.iload_n 2, 1) := by decide +kernel
theorem d_Face_before_38 : decode prog_1_method_18_code 38 = .ok (.invokestatic 180, 3) := by decide +kernel
theorem d_Face_before_41 : decode prog_1_method_18_code 41 = .ok (.istore 5, 2) := by decide +kernel
theorem d_Face_before_43 : decode prog_1_method_18_code 43 = .ok (.iload_n 3, 1) := by decide +kernel
theorem d_Face_before_44 : decode prog_1_method_18_code 44 = .ok (.iload 4, 2) := by decide +kernel
theorem d_Face_before_46 : decode prog_1_method_18_code 46 = .ok (.invokestatic 180, 3) := by decide +kernel
theorem d_Face_before_49 : decode prog_1_method_18_code 49 = .ok (.istore 6, 2) := by decide +kernel
theorem d_Face_before_51 : decode prog_1_method_18_code 51 = .ok (.iload 5, 2) := by decide +kernel
theorem d_Face_before_53 : decode prog_1_method_18_code 53 = .ok (.iload 6, 2) := by decide +kernel
theorem d_Face_before_55 : decode prog_1_method_18_code 55 = .ok (.if_icmp .ne 5, 3) := by decide +kernel
theorem d_Face_before_58 : decode prog_1_method_18_code 58 = .ok (.iconst 0, 1) := by decide +kernel
theorem d_Face_before_59 : decode prog_1_method_18_code 59 = .ok (.ireturn, 1) := by decide +kernel
theorem d_Face_before_60 : decode prog_1_method_18_code 60 = .ok (.iload 5, 2) := by decide +kernel
theorem d_Face_before_62 : decode prog_1_method_18_code 62 = .ok (.iload 6, 2) := by decide +kernel
theorem d_Face_before_64 : decode prog_1_method_18_code 64 = .ok (.if_icmp .ge 7, 3) := by decide +kernel
theorem d_Face_before_67 : decode prog_1_method_18_code 67 = .ok (.iconst 1, 1) := by decide +kernel
theorem d_Face_before_68 : decode prog_1_method_18_code 68 = .ok (.goto 4, 3) := by decide +kernel
theorem d_Face_before_71 : decode prog_1_method_18_code 71 = .ok (.iconst 2, 1) := by decide +kernel
theorem d_Face_before_72 : decode prog_1_method_18_code 72 = .ok (.ireturn, 1) := by decide +kernel
theorem d_Face_child_0 : decode prog_1_method_19_code 0 = .ok (.iload_n 1, 1) := by decide +kernel
theorem d_Face_child_1 : decode prog_1_method_19_code 1 = .ok (.bipush 7, 2) := by decide +kernel
theorem d_Face_child_3 : decode prog_1_method_19_code 3 = .ok (.invokestatic 60, 3) := by decide +kernel
theorem d_Face_child_6 : decode prog_1_method_19_code 6 = .ok (.ifCond .ne 10, 3) := by decide +kernel
theorem d_Face_child_9 : decode prog_1_method_19_code 9 = .ok (.aload_n 0, 1) := by decide +kernel
theorem d_Face_child_10 : decode prog_1_method_19_code 10 = .ok (.bipush (-2), 2) := by decide +kernel
theorem d_Face_child_12 : decode prog_1_method_19_code 12 = .ok (.invokevirtual 64, 3) := by decide +kernel
theorem d_Face_child_15 : decode prog_1_method_19_code 15 = .ok (.ireturn, 1) := by decide +kernel
theorem d_Face_child_16 : decode prog_1_method_19_code 16 = .ok (.aload_n 0, 1) := by decide +kernel
theorem d_Face_child_17 : decode prog_1_method_19_code 17 = .ok (.iload_n 1, 1) := by decide +kernel
theorem d_Face_child_18 : decode prog_1_method_19_code 18 = .ok (.invokestatic 183, 3) := by decide +kernel
theorem d_Face_child_21 : decode prog_1_method_19_code 21 = .ok (.iconst 3, 1) := by decide +kernel
theorem d_Face_child_22 : decode prog_1_method_19_code 22 = .ok (.invokevirtual 186, 3) := by decide +kernel
theorem d_Face_child_25 : decode prog_1_method_19_code 25 = .ok (.iconst 1, 1) := by decide +kernel
theorem d_Face_child_26 : decode prog_1_method_19_code 26 = .ok (.ireturn, 1) := by decide +kernel
theorem d_Face_where_0 : decode prog_1_method_20_code 0 = .ok (.aload_n 0, 1) := by decide +kernel
theorem d_Face_where_1 : decode prog_1_method_20_code 1 = .ok (.iload_n 1, 1) := by decide +kernel
theorem d_Face_where_2 : decode prog_1_method_20_code 2 = .ok (.invokevirtual 110, 3) := by decide +kernel
theorem d_Face_where_5 : decode prog_1_method_20_code 5 = .ok (.ifCond .ne 10, 3) := by decide +kernel
theorem d_Face_where_8 : decode prog_1_method_20_code 8 = .ok (.aload_n 0, 1) := by decide +kernel
theorem d_Face_where_9 : decode prog_1_method_20_code 9 = .ok (.bipush (-2), 2) := by decide +kernel
theorem d_Face_where_11 : decode prog_1_method_20_code 11 = .ok (.invokevirtual 64, 3) := by decide +kernel
theorem d_Face_where_14 : decode prog_1_method_20_code 14 = .ok (.ireturn, 1) := by decide +kernel
theorem d_Face_where_15 : decode prog_1_method_20_code 15 = .ok (.aload_n 0, 1) := by decide +kernel
theorem d_Face_where_16 : decode prog_1_method_20_code 16 = .ok (.getfield 48, 3) := by decide +kernel
theorem d_Face_where_19 : decode prog_1_method_20_code 19 = .ok (.iload_n 1, 1) := by decide +kernel
theorem d_Face_where_20 : decode prog_1_method_20_code 20 = .ok (.invokevirtual 190, 3) := by decide +kernel
theorem d_Face_where_23 : decode prog_1_method_20_code 23 = .ok (.ireturn, 1) := by decide +kernel
theorem d_Face_bars_0 : decode prog_1_method_21_code 0 = .ok (.aload_n 0, 1) := by decide +kernel
theorem d_Face_bars_1 : decode prog_1_method_21_code 1 = .ok (.iload_n 1, 1) := by decide +kernel
theorem d_Face_bars_2 : decode prog_1_method_21_code 2 = .ok (.invokevirtual 110, 3) := by decide +kernel
theorem d_Face_bars_5 : decode prog_1_method_21_code 5 = .ok (.ifCond .ne 10, 3) := by decide +kernel
theorem d_Face_bars_8 : decode prog_1_method_21_code 8 = .ok (.aload_n 0, 1) := by decide +kernel
theorem d_Face_bars_9 : decode prog_1_method_21_code 9 = .ok (.bipush (-2), 2) := by decide +kernel
theorem d_Face_bars_11 : decode prog_1_method_21_code 11 = .ok (.invokevirtual 64, 3) := by decide +kernel
theorem d_Face_bars_14 : decode prog_1_method_21_code 14 = .ok (.ireturn, 1) := by decide +kernel
theorem d_Face_bars_15 : decode prog_1_method_21_code 15 = .ok (.aload_n 0, 1) := by decide +kernel
theorem d_Face_bars_16 : decode prog_1_method_21_code 16 = .ok (.getfield 48, 3) := by decide +kernel
theorem d_Face_bars_19 : decode prog_1_method_21_code 19 = .ok (.iload_n 1, 1) := by decide +kernel
theorem d_Face_bars_20 : decode prog_1_method_21_code 20 = .ok (.invokevirtual 193, 3) := by decide +kernel
theorem d_Face_bars_23 : decode prog_1_method_21_code 23 = .ok (.ireturn, 1) := by decide +kernel
theorem d_Face_note_0 : decode prog_1_method_22_code 0 = .ok (.aload_n 0, 1) := by decide +kernel
theorem d_Face_note_1 : decode prog_1_method_22_code 1 = .ok (.iload_n 1, 1) := by decide +kernel
theorem d_Face_note_2 : decode prog_1_method_22_code 2 = .ok (.invokevirtual 110, 3) := by decide +kernel
theorem d_Face_note_5 : decode prog_1_method_22_code 5 = .ok (.ifCond .eq 36, 3) := by decide +kernel
theorem d_Face_note_8 : decode prog_1_method_22_code 8 = .ok (.iload_n 2, 1) := by decide +kernel
theorem d_Face_note_9 : decode prog_1_method_22_code 9 = .ok (.invokestatic 75, 3) := by decide +kernel
theorem d_Face_note_12 : decode prog_1_method_22_code 12 = .ok (.ifCond .eq 29, 3) := by decide +kernel
theorem d_Face_note_15 : decode prog_1_method_22_code 15 = .ok (.iload_n 3, 1) := by decide +kernel
theorem d_Face_note_16 : decode prog_1_method_22_code 16 = .ok (.invokestatic 154, 3) := by decide +kernel
theorem d_Face_note_19 : decode prog_1_method_22_code 19 = .ok (.ifCond .eq 22, 3) := by decide +kernel
theorem d_Face_note_22 : decode prog_1_method_22_code 22 = .ok (.iload 4, 2) := by decide +kernel
theorem d_Face_note_24 : decode prog_1_method_22_code 24 = .ok (.iconst 1, 1) := by decide +kernel
theorem d_Face_note_25 : decode prog_1_method_22_code 25 = .ok (.invokestatic 60, 3) := by decide +kernel
theorem d_Face_note_28 : decode prog_1_method_22_code 28 = .ok (.ifCond .eq 13, 3) := by decide +kernel
theorem d_Face_note_31 : decode prog_1_method_22_code 31 = .ok (.iload 5, 2) := by decide +kernel
theorem d_Face_note_33 : decode prog_1_method_22_code 33 = .ok (.bipush 60, 2) := by decide +kernel
theorem d_Face_note_35 : decode prog_1_method_22_code 35 = .ok (.invokestatic 60, 3) := by decide +kernel
theorem d_Face_note_38 : decode prog_1_method_22_code 38 = .ok (.ifCond .ne 10, 3) := by decide +kernel
theorem d_Face_note_41 : decode prog_1_method_22_code 41 = .ok (.aload_n 0, 1) := by decide +kernel
theorem d_Face_note_42 : decode prog_1_method_22_code 42 = .ok (.bipush (-2), 2) := by decide +kernel
theorem d_Face_note_44 : decode prog_1_method_22_code 44 = .ok (.invokevirtual 64, 3) := by decide +kernel
theorem d_Face_note_47 : decode prog_1_method_22_code 47 = .ok (.ireturn, 1) := by decide +kernel
theorem d_Face_note_48 : decode prog_1_method_22_code 48 = .ok (.aload_n 0, 1) := by decide +kernel
theorem d_Face_note_49 : decode prog_1_method_22_code 49 = .ok (.getfield 30, 3) := by decide +kernel
theorem d_Face_note_52 : decode prog_1_method_22_code 52 = .ok (.getfield 196, 3) := by decide +kernel
theorem d_Face_note_55 : decode prog_1_method_22_code 55 = .ok (.bipush 6, 2) := by decide +kernel
theorem d_Face_note_57 : decode prog_1_method_22_code 57 = .ok (.if_icmp .lt 8, 3) := by decide +kernel
theorem d_Face_note_60 : decode prog_1_method_22_code 60 = .ok (.aload_n 0, 1) := by decide +kernel
theorem d_Face_note_61 : decode prog_1_method_22_code 61 = .ok (.invokevirtual 87, 3) := by decide +kernel
theorem d_Face_note_64 : decode prog_1_method_22_code 64 = .ok (.ireturn, 1) := by decide +kernel
theorem d_Face_note_65 : decode prog_1_method_22_code 65 = .ok (.aload_n 0, 1) := by decide +kernel
theorem d_Face_note_66 : decode prog_1_method_22_code 66 = .ok (.getfield 30, 3) := by decide +kernel
theorem d_Face_note_69 : decode prog_1_method_22_code 69 = .ok (.iload_n 1, 1) := by decide +kernel
theorem d_Face_note_70 : decode prog_1_method_22_code 70 = .ok (.iload_n 2, 1) := by decide +kernel
theorem d_Face_note_71 : decode prog_1_method_22_code 71 = .ok (.iload_n 3, 1) := by decide +kernel
theorem d_Face_note_72 : decode prog_1_method_22_code 72 = .ok (.iload 4, 2) := by decide +kernel
theorem d_Face_note_74 : decode prog_1_method_22_code 74 = .ok (.iload 5, 2) := by decide +kernel
theorem d_Face_note_76 : decode prog_1_method_22_code 76 = .ok (.invokevirtual 199, 3) := by decide +kernel
theorem d_Face_note_79 : decode prog_1_method_22_code 79 = .ok (.ireturn, 1) := by decide +kernel
theorem d_Face_forget_0 : decode prog_1_method_23_code 0 = .ok (.aload_n 0, 1) := by decide +kernel
theorem d_Face_forget_1 : decode prog_1_method_23_code 1 = .ok (.getfield 30, 3) := by decide +kernel
theorem d_Face_forget_4 : decode prog_1_method_23_code 4 = .ok (.getfield 196, 3) := by decide +kernel
theorem d_Face_forget_7 : decode prog_1_method_23_code 7 = .ok (.istore_n 1, 1) := by decide +kernel
theorem d_Face_forget_8 : decode prog_1_method_23_code 8 = .ok (.aload_n 0, 1) := by decide +kernel
theorem d_Face_forget_9 : decode prog_1_method_23_code 9 = .ok (.getfield 30, 3) := by decide +kernel
theorem d_Face_forget_12 : decode prog_1_method_23_code 12 = .ok (.iconst 0, 1) := by decide +kernel
theorem d_Face_forget_13 : decode prog_1_method_23_code 13 = .ok (.putfield 196, 3) := by decide +kernel
theorem d_Face_forget_16 : decode prog_1_method_23_code 16 = .ok (.iload_n 1, 1) := by decide +kernel
theorem d_Face_forget_17 : decode prog_1_method_23_code 17 = .ok (.ireturn, 1) := by decide +kernel
theorem d_Face_is_0 : decode prog_1_method_24_code 0 = .ok (.aload_n 0, 1) := by decide +kernel
theorem d_Face_is_1 : decode prog_1_method_24_code 1 = .ok (.iload_n 1, 1) := by decide +kernel
theorem d_Face_is_2 : decode prog_1_method_24_code 2 = .ok (.invokevirtual 110, 3) := by decide +kernel
theorem d_Face_is_5 : decode prog_1_method_24_code 5 = .ok (.ifCond .ne 10, 3) := by decide +kernel
theorem d_Face_is_8 : decode prog_1_method_24_code 8 = .ok (.aload_n 0, 1) := by decide +kernel
theorem d_Face_is_9 : decode prog_1_method_24_code 9 = .ok (.bipush (-2), 2) := by decide +kernel
theorem d_Face_is_11 : decode prog_1_method_24_code 11 = .ok (.invokevirtual 64, 3) := by decide +kernel
theorem d_Face_is_14 : decode prog_1_method_24_code 14 = .ok (.ireturn, 1) := by decide +kernel
theorem d_Face_is_15 : decode prog_1_method_24_code 15 = .ok (.aload_n 0, 1) := by decide +kernel
theorem d_Face_is_16 : decode prog_1_method_24_code 16 = .ok (.getfield 48, 3) := by decide +kernel
theorem d_Face_is_19 : decode prog_1_method_24_code 19 = .ok (.iload_n 1, 1) := by decide +kernel
theorem d_Face_is_20 : decode prog_1_method_24_code 20 = .ok (.invokevirtual 203, 3) := by decide +kernel
theorem d_Face_is_23 : decode prog_1_method_24_code 23 = .ok (.ireturn, 1) := by decide +kernel
theorem d_Face_look_0 : decode prog_1_method_25_code 0 = .ok (.aload_n 0, 1) := by decide +kernel
theorem d_Face_look_1 : decode prog_1_method_25_code 1 = .ok (.iload_n 1, 1) := by decide +kernel
theorem d_Face_look_2 : decode prog_1_method_25_code 2 = .ok (.invokevirtual 110, 3) := by decide +kernel
theorem d_Face_look_5 : decode prog_1_method_25_code 5 = .ok (.ifCond .eq 10, 3) := by decide +kernel
theorem d_Face_look_8 : decode prog_1_method_25_code 8 = .ok (.iload_n 2, 1) := by decide +kernel
theorem d_Face_look_9 : decode prog_1_method_25_code 9 = .ok (.invokestatic 75, 3) := by decide +kernel
theorem d_Face_look_12 : decode prog_1_method_25_code 12 = .ok (.ifCond .ne 10, 3) := by decide +kernel
theorem d_Face_look_15 : decode prog_1_method_25_code 15 = .ok (.aload_n 0, 1) := by decide +kernel
theorem d_Face_look_16 : decode prog_1_method_25_code 16 = .ok (.bipush (-2), 2) := by decide +kernel
theorem d_Face_look_18 : decode prog_1_method_25_code 18 = .ok (.invokevirtual 64, 3) := by decide +kernel
theorem d_Face_look_21 : decode prog_1_method_25_code 21 = .ok (.ireturn, 1) := by decide +kernel
theorem d_Face_look_22 : decode prog_1_method_25_code 22 = .ok (.aload_n 0, 1) := by decide +kernel
theorem d_Face_look_23 : decode prog_1_method_25_code 23 = .ok (.getfield 48, 3) := by decide +kernel
theorem d_Face_look_26 : decode prog_1_method_25_code 26 = .ok (.iload_n 1, 1) := by decide +kernel
theorem d_Face_look_27 : decode prog_1_method_25_code 27 = .ok (.iload_n 2, 1) := by decide +kernel
theorem d_Face_look_28 : decode prog_1_method_25_code 28 = .ok (.aload_n 0, 1) := by decide +kernel
theorem d_Face_look_29 : decode prog_1_method_25_code 29 = .ok (.getfield 48, 3) := by decide +kernel
theorem d_Face_look_32 : decode prog_1_method_25_code 32 = .ok (.iload_n 1, 1) := by decide +kernel
theorem d_Face_look_33 : decode prog_1_method_25_code 33 = .ok (.invokevirtual 203, 3) := by decide +kernel
theorem d_Face_look_36 : decode prog_1_method_25_code 36 = .ok (.invokevirtual 206, 3) := by decide +kernel
theorem d_Face_look_39 : decode prog_1_method_25_code 39 = .ok (.ireturn, 1) := by decide +kernel
theorem d_Face_wars_0 : decode prog_1_method_26_code 0 = .ok (.iload_n 1, 1) := by decide +kernel
theorem d_Face_wars_1 : decode prog_1_method_26_code 1 = .ok (.invokestatic 75, 3) := by decide +kernel
theorem d_Face_wars_4 : decode prog_1_method_26_code 4 = .ok (.ifCond .eq 10, 3) := by decide +kernel
theorem d_Face_wars_7 : decode prog_1_method_26_code 7 = .ok (.iload_n 2, 1) := by decide +kernel
theorem d_Face_wars_8 : decode prog_1_method_26_code 8 = .ok (.invokestatic 154, 3) := by decide +kernel
theorem d_Face_wars_11 : decode prog_1_method_26_code 11 = .ok (.ifCond .ne 11, 3) := by decide +kernel
theorem d_Face_wars_14 : decode prog_1_method_26_code 14 = .ok (.aload_n 0, 1) := by decide +kernel
theorem d_Face_wars_15 : decode prog_1_method_26_code 15 = .ok (.sipush (-1000), 3) := by decide +kernel
theorem d_Face_wars_18 : decode prog_1_method_26_code 18 = .ok (.invokevirtual 64, 3) := by decide +kernel
theorem d_Face_wars_21 : decode prog_1_method_26_code 21 = .ok (.ireturn, 1) := by decide +kernel
theorem d_Face_wars_22 : decode prog_1_method_26_code 22 = .ok (.aload_n 0, 1) := by decide +kernel
theorem d_Face_wars_23 : decode prog_1_method_26_code 23 = .ok (.getfield 48, 3) := by decide +kernel
theorem d_Face_wars_26 : decode prog_1_method_26_code 26 = .ok (.iload_n 1, 1) := by decide +kernel
theorem d_Face_wars_27 : decode prog_1_method_26_code 27 = .ok (.iload_n 2, 1) := by decide +kernel
theorem d_Face_wars_28 : decode prog_1_method_26_code 28 = .ok (.invokevirtual 209, 3) := by decide +kernel
theorem d_Face_wars_31 : decode prog_1_method_26_code 31 = .ok (.ireturn, 1) := by decide +kernel
theorem d_Face_sentry_0 : decode prog_1_method_27_code 0 = .ok (.aload_n 0, 1) := by decide +kernel
theorem d_Face_sentry_1 : decode prog_1_method_27_code 1 = .ok (.iload_n 1, 1) := by decide +kernel
theorem d_Face_sentry_2 : decode prog_1_method_27_code 2 = .ok (.invokevirtual 110, 3) := by decide +kernel
theorem d_Face_sentry_5 : decode prog_1_method_27_code 5 = .ok (.ifCond .eq 12, 3) := by decide +kernel
theorem d_Face_sentry_8 : decode prog_1_method_27_code 8 = .ok (.iload_n 2, 1) := by decide +kernel
theorem d_Face_sentry_9 : decode prog_1_method_27_code 9 = .ok (.bipush 10, 2) := by decide +kernel
theorem d_Face_sentry_11 : decode prog_1_method_27_code 11 = .ok (.invokestatic 60, 3) := by decide +kernel
theorem d_Face_sentry_14 : decode prog_1_method_27_code 14 = .ok (.ifCond .ne 10, 3) := by decide +kernel
theorem d_Face_sentry_17 : decode prog_1_method_27_code 17 = .ok (.aload_n 0, 1) := by decide +kernel
theorem d_Face_sentry_18 : decode prog_1_method_27_code 18 = .ok (.bipush (-2), 2) := by decide +kernel
theorem d_Face_sentry_20 : decode prog_1_method_27_code 20 = .ok (.invokevirtual 64, 3) := by decide +kernel
theorem d_Face_sentry_23 : decode prog_1_method_27_code 23 = .ok (.ireturn, 1) := by decide +kernel
theorem d_Face_sentry_24 : decode prog_1_method_27_code 24 = .ok (.aload_n 0, 1) := by decide +kernel
theorem d_Face_sentry_25 : decode prog_1_method_27_code 25 = .ok (.bipush 100, 2) := by decide +kernel
theorem d_Face_sentry_27 : decode prog_1_method_27_code 27 = .ok (.aload_n 0, 1) := by decide +kernel
theorem d_Face_sentry_28 : decode prog_1_method_27_code 28 = .ok (.getfield 48, 3) := by decide +kernel
theorem d_Face_sentry_31 : decode prog_1_method_27_code 31 = .ok (.iload_n 1, 1) := by decide +kernel
theorem d_Face_sentry_32 : decode prog_1_method_27_code 32 = .ok (.iload_n 2, 1) := by decide +kernel
theorem d_Face_sentry_33 : decode prog_1_method_27_code 33 = .ok (.invokevirtual 212, 3) := by decide +kernel
theorem d_Face_sentry_36 : decode prog_1_method_27_code 36 = .ok (.isub, 1) := by decide +kernel
theorem d_Face_sentry_37 : decode prog_1_method_27_code 37 = .ok (.bipush 100, 2) := by decide +kernel
theorem d_Face_sentry_39 : decode prog_1_method_27_code 39 = .ok (.invokevirtual 186, 3) := by decide +kernel
theorem d_Face_sentry_42 : decode prog_1_method_27_code 42 = .ok (.iconst 1, 1) := by decide +kernel
theorem d_Face_sentry_43 : decode prog_1_method_27_code 43 = .ok (.ireturn, 1) := by decide +kernel
theorem d_Face_days_0 : decode prog_1_method_28_code 0 = .ok (.iload_n 1, 1) := by decide +kernel
theorem d_Face_days_1 : decode prog_1_method_28_code 1 = .ok (.ldc 215, 2) := by decide +kernel
theorem d_Face_days_3 : decode prog_1_method_28_code 3 = .ok (.invokestatic 60, 3) := by decide +kernel
theorem d_Face_days_6 : decode prog_1_method_28_code 6 = .ok (.ifCond .eq 12, 3) := by decide +kernel
theorem d_Face_days_9 : decode prog_1_method_28_code 9 = .ok (.iload_n 2, 1) := by decide +kernel
theorem d_Face_days_10 : decode prog_1_method_28_code 10 = .ok (.bipush 60, 2) := by decide +kernel
theorem d_Face_days_12 : decode prog_1_method_28_code 12 = .ok (.invokestatic 60, 3) := by decide +kernel
theorem d_Face_days_15 : decode prog_1_method_28_code 15 = .ok (.ifCond .ne 10, 3) := by decide +kernel
theorem d_Face_days_18 : decode prog_1_method_28_code 18 = .ok (.aload_n 0, 1) := by decide +kernel
theorem d_Face_days_19 : decode prog_1_method_28_code 19 = .ok (.bipush (-2), 2) := by decide +kernel
theorem d_Face_days_21 : decode prog_1_method_28_code 21 = .ok (.invokevirtual 64, 3) := by decide +kernel
theorem d_Face_days_24 : decode prog_1_method_28_code 24 = .ok (.ireturn, 1) := by decide +kernel
theorem d_Face_days_25 : decode prog_1_method_28_code 25 = .ok (.aload_n 0, 1) := by decide +kernel
theorem d_Face_days_26 : decode prog_1_method_28_code 26 = .ok (.getfield 30, 3) := by decide +kernel
theorem d_Face_days_29 : decode prog_1_method_28_code 29 = .ok (.getfield 68, 3) := by decide +kernel
theorem d_Face_days_32 : decode prog_1_method_28_code 32 = .ok (.ifCond .ne 8, 3) := by decide +kernel
theorem d_Face_days_35 : decode prog_1_method_28_code 35 = .ok (.aload_n 0, 1) := by decide +kernel
theorem d_Face_days_36 : decode prog_1_method_28_code 36 = .ok (.invokevirtual 120, 3) := by decide +kernel
theorem d_Face_days_39 : decode prog_1_method_28_code 39 = .ok (.ireturn, 1) := by decide +kernel
theorem d_Face_days_40 : decode prog_1_method_28_code 40 = .ok (.aload_n 0, 1) := by decide +kernel
theorem d_Face_days_41 : decode prog_1_method_28_code 41 = .ok (.getfield 48, 3) := by decide +kernel
theorem d_Face_days_44 : decode prog_1_method_28_code 44 = .ok (.iload_n 1, 1) := by decide +kernel
theorem d_Face_days_45 : decode prog_1_method_28_code 45 = .ok (.iload_n 2, 1) := by decide +kernel
theorem d_Face_days_46 : decode prog_1_method_28_code 46 = .ok (.invokevirtual 216, 3) := by decide +kernel
theorem d_Face_days_49 : decode prog_1_method_28_code 49 = .ok (.ireturn, 1) := by decide +kernel
theorem d_Face_part_0 : decode prog_1_method_29_code 0 = .ok (.iload_n 1, 1) := by decide +kernel
theorem d_Face_part_1 : decode prog_1_method_29_code 1 = .ok (.iconst 1, 1) := by decide +kernel
theorem d_Face_part_2 : decode prog_1_method_29_code 2 = .ok (.invokestatic 60, 3) := by decide +kernel
theorem d_Face_part_5 : decode prog_1_method_29_code 5 = .ok (.ifCond .ne 11, 3) := by decide +kernel
theorem d_Face_part_8 : decode prog_1_method_29_code 8 = .ok (.aload_n 0, 1) := by decide +kernel
theorem d_Face_part_9 : decode prog_1_method_29_code 9 = .ok (.bipush (-2), 2) := by decide +kernel
theorem d_Face_part_11 : decode prog_1_method_29_code 11 = .ok (.invokevirtual 64, 3) := by decide +kernel
theorem d_Face_part_14 : decode prog_1_method_29_code 14 = .ok (.i2l, 1) := by decide +kernel
theorem d_Face_part_15 : decode prog_1_method_29_code 15 = .ok (.lreturn, 1) := by decide +kernel
theorem d_Face_part_16 : decode prog_1_method_29_code 16 = .ok (.iload_n 1, 1) := by decide +kernel
theorem d_Face_part_17 : decode prog_1_method_29_code 17 = .ok (.ifCond .ne 11, 3) := by decide +kernel
theorem d_Face_part_20 : decode prog_1_method_29_code 20 = .ok (.aload_n 0, 1) := by decide +kernel
theorem d_Face_part_21 : decode prog_1_method_29_code 21 = .ok (.getfield 219, 3) := by decide +kernel
theorem d_Face_part_24 : decode prog_1_method_29_code 24 = .ok (.i2l, 1) := by decide +kernel
theorem d_Face_part_25 : decode prog_1_method_29_code 25 = .ok (.goto 8, 3) := by decide +kernel
theorem d_Face_part_28 : decode prog_1_method_29_code 28 = .ok (.aload_n 0, 1) := by decide +kernel
theorem d_Face_part_29 : decode prog_1_method_29_code 29 = .ok (.getfield 56, 3) := by decide +kernel
theorem d_Face_part_32 : decode prog_1_method_29_code 32 = .ok (.i2l, 1) := by decide +kernel
theorem d_Face_part_33 : decode prog_1_method_29_code 33 = .ok (.lreturn, 1) := by decide +kernel
theorem d_Face_image_0 : decode prog_1_method_30_code 0 = .ok (.iload_n 1, 1) := by decide +kernel
theorem d_Face_image_1 : decode prog_1_method_30_code 1 = .ok (.iconst 1, 1) := by decide +kernel
theorem d_Face_image_2 : decode prog_1_method_30_code 2 = .ok (.invokestatic 60, 3) := by decide +kernel
theorem d_Face_image_5 : decode prog_1_method_30_code 5 = .ok (.ifCond .ne 10, 3) := by decide +kernel
theorem d_Face_image_8 : decode prog_1_method_30_code 8 = .ok (.aload_n 0, 1) := by decide +kernel
theorem d_Face_image_9 : decode prog_1_method_30_code 9 = .ok (.bipush (-2), 2) := by decide +kernel
theorem d_Face_image_11 : decode prog_1_method_30_code 11 = .ok (.invokevirtual 64, 3) := by decide +kernel
theorem d_Face_image_14 : decode prog_1_method_30_code 14 = .ok (.ireturn, 1) := by decide +kernel
theorem d_Face_image_15 : decode prog_1_method_30_code 15 = .ok (.aload_n 0, 1) := by decide +kernel
theorem d_Face_image_16 : decode prog_1_method_30_code 16 = .ok (.getfield 52, 3) := by decide +kernel
theorem d_Face_image_19 : decode prog_1_method_30_code 19 = .ok (.iload_n 1, 1) := by decide +kernel
theorem d_Face_image_20 : decode prog_1_method_30_code 20 = .ok (.aaload, 1) := by decide +kernel
theorem d_Face_image_21 : decode prog_1_method_30_code 21 = .ok (.ifnonnull 23, 3) := by decide +kernel
theorem d_Face_image_24 : decode prog_1_method_30_code 24 = .ok (.aload_n 0, 1) := by decide +kernel
theorem d_Face_image_25 : decode prog_1_method_30_code 25 = .ok (.getfield 52, 3) := by decide +kernel
theorem d_Face_image_28 : decode prog_1_method_30_code 28 = .ok (.iload_n 1, 1) := by decide +kernel
theorem d_Face_image_29 : decode prog_1_method_30_code 29 = .ok (.new 25, 3) := by decide +kernel
theorem d_Face_image_32 : decode prog_1_method_30_code 32 = .ok (.dup, 1) := by decide +kernel
theorem d_Face_image_33 : decode prog_1_method_30_code 33 = .ok (.aload_n 0, 1) := by decide +kernel
theorem d_Face_image_34 : decode prog_1_method_30_code 34 = .ok (.getfield 30, 3) := by decide +kernel
theorem d_Face_image_37 : decode prog_1_method_30_code 37 = .ok (.getfield 222, 3) := by decide +kernel
theorem d_Face_image_40 : decode prog_1_method_30_code 40 = .ok (.invokespecial 27, 3) := by decide +kernel
theorem d_Face_image_43 : decode prog_1_method_30_code 43 = .ok (.aastore, 1) := by decide +kernel
theorem d_Face_image_44 : decode prog_1_method_30_code 44 = .ok (.aload_n 0, 1) := by decide +kernel
theorem d_Face_image_45 : decode prog_1_method_30_code 45 = .ok (.getfield 52, 3) := by decide +kernel
theorem d_Face_image_48 : decode prog_1_method_30_code 48 = .ok (.iload_n 1, 1) := by decide +kernel
theorem d_Face_image_49 : decode prog_1_method_30_code 49 = .ok (.aaload, 1) := by decide +kernel
theorem d_Face_image_50 : decode prog_1_method_30_code 50 = .ok (.aload_n 0, 1) := by decide +kernel
theorem d_Face_image_51 : decode prog_1_method_30_code 51 = .ok (.getfield 30, 3) := by decide +kernel
theorem d_Face_image_54 : decode prog_1_method_30_code 54 = .ok (.invokevirtual 107, 3) := by decide +kernel
theorem d_Face_image_57 : decode prog_1_method_30_code 57 = .ok (.iconst 1, 1) := by decide +kernel
theorem d_Face_image_58 : decode prog_1_method_30_code 58 = .ok (.ireturn, 1) := by decide +kernel
theorem d_Face_from_0 : decode prog_1_method_31_code 0 = .ok (.iload_n 1, 1) := by decide +kernel
theorem d_Face_from_1 : decode prog_1_method_31_code 1 = .ok (.iconst 1, 1) := by decide +kernel
theorem d_Face_from_2 : decode prog_1_method_31_code 2 = .ok (.invokestatic 60, 3) := by decide +kernel
theorem d_Face_from_5 : decode prog_1_method_31_code 5 = .ok (.ifCond .ne 10, 3) := by decide +kernel
theorem d_Face_from_8 : decode prog_1_method_31_code 8 = .ok (.aload_n 0, 1) := by decide +kernel
theorem d_Face_from_9 : decode prog_1_method_31_code 9 = .ok (.bipush (-2), 2) := by decide +kernel
theorem d_Face_from_11 : decode prog_1_method_31_code 11 = .ok (.invokevirtual 64, 3) := by decide +kernel
theorem d_Face_from_14 : decode prog_1_method_31_code 14 = .ok (.ireturn, 1) := by decide +kernel
theorem d_Face_from_15 : decode prog_1_method_31_code 15 = .ok (.aload_n 0, 1) := by decide +kernel
theorem d_Face_from_16 : decode prog_1_method_31_code 16 = .ok (.getfield 52, 3) := by decide +kernel
theorem d_Face_from_19 : decode prog_1_method_31_code 19 = .ok (.iload_n 1, 1) := by decide +kernel
theorem d_Face_from_20 : decode prog_1_method_31_code 20 = .ok (.aaload, 1) := by decide +kernel
theorem d_Face_from_21 : decode prog_1_method_31_code 21 = .ok (.ifnonnull 8, 3) := by decide +kernel
theorem d_Face_from_24 : decode prog_1_method_31_code 24 = .ok (.aload_n 0, 1) := by decide +kernel
theorem d_Face_from_25 : decode prog_1_method_31_code 25 = .ok (.invokevirtual 120, 3) := by decide +kernel
theorem d_Face_from_28 : decode prog_1_method_31_code 28 = .ok (.ireturn, 1) := by decide +kernel
theorem d_Face_from_29 : decode prog_1_method_31_code 29 = .ok (.aload_n 0, 1) := by decide +kernel
theorem d_Face_from_30 : decode prog_1_method_31_code 30 = .ok (.getfield 30, 3) := by decide +kernel
theorem d_Face_from_33 : decode prog_1_method_31_code 33 = .ok (.aload_n 0, 1) := by decide +kernel
theorem d_Face_from_34 : decode prog_1_method_31_code 34 = .ok (.getfield 52, 3) := by decide +kernel
theorem d_Face_from_37 : decode prog_1_method_31_code 37 = .ok (.iload_n 1, 1) := by decide +kernel
theorem d_Face_from_38 : decode prog_1_method_31_code 38 = .ok (.aaload, 1) := by decide +kernel
theorem d_Face_from_39 : decode prog_1_method_31_code 39 = .ok (.invokevirtual 107, 3) := by decide +kernel
theorem d_Face_from_42 : decode prog_1_method_31_code 42 = .ok (.iconst 1, 1) := by decide +kernel
theorem d_Face_from_43 : decode prog_1_method_31_code 43 = .ok (.ireturn, 1) := by decide +kernel
theorem d_Face_status_0 : decode prog_1_method_32_code 0 = .ok (.iload_n 1, 1) := by decide +kernel
theorem d_Face_status_1 : decode prog_1_method_32_code 1 = .ok (.tableswitch 42 0 2 #[27, 32, 37], 27) := by decide +kernel
theorem d_Face_status_28 : decode prog_1_method_32_code 28 = .ok (.aload_n 0, 1) := by decide +kernel
theorem d_Face_status_29 : decode prog_1_method_32_code 29 = .ok (.getfield 226, 3) := by decide +kernel
theorem d_Face_status_32 : decode prog_1_method_32_code 32 = .ok (.ireturn, 1) := by decide +kernel
theorem d_Face_status_33 : decode prog_1_method_32_code 33 = .ok (.aload_n 0, 1) := by decide +kernel
theorem d_Face_status_34 : decode prog_1_method_32_code 34 = .ok (.getfield 229, 3) := by decide +kernel
theorem d_Face_status_37 : decode prog_1_method_32_code 37 = .ok (.ireturn, 1) := by decide +kernel
theorem d_Face_status_38 : decode prog_1_method_32_code 38 = .ok (.aload_n 0, 1) := by decide +kernel
theorem d_Face_status_39 : decode prog_1_method_32_code 39 = .ok (.getfield 232, 3) := by decide +kernel
theorem d_Face_status_42 : decode prog_1_method_32_code 42 = .ok (.ireturn, 1) := by decide +kernel
theorem d_Face_status_43 : decode prog_1_method_32_code 43 = .ok (.aload_n 0, 1) := by decide +kernel
theorem d_Face_status_44 : decode prog_1_method_32_code 44 = .ok (.iconst (-1), 1) := by decide +kernel
theorem d_Face_status_45 : decode prog_1_method_32_code 45 = .ok (.invokevirtual 64, 3) := by decide +kernel
theorem d_Face_status_48 : decode prog_1_method_32_code 48 = .ok (.ireturn, 1) := by decide +kernel
theorem d_Face_count_0 : decode prog_1_method_33_code 0 = .ok (.iload_n 1, 1) := by decide +kernel
theorem d_Face_count_1 : decode prog_1_method_33_code 1 = .ok (.bipush 6, 2) := by decide +kernel
theorem d_Face_count_3 : decode prog_1_method_33_code 3 = .ok (.invokestatic 60, 3) := by decide +kernel
theorem d_Face_count_6 : decode prog_1_method_33_code 6 = .ok (.ifCond .ne 10, 3) := by decide +kernel
theorem d_Face_count_9 : decode prog_1_method_33_code 9 = .ok (.aload_n 0, 1) := by decide +kernel
theorem d_Face_count_10 : decode prog_1_method_33_code 10 = .ok (.bipush (-2), 2) := by decide +kernel
theorem d_Face_count_12 : decode prog_1_method_33_code 12 = .ok (.invokevirtual 64, 3) := by decide +kernel
theorem d_Face_count_15 : decode prog_1_method_33_code 15 = .ok (.ireturn, 1) := by decide +kernel
theorem d_Face_count_16 : decode prog_1_method_33_code 16 = .ok (.aload_n 0, 1) := by decide +kernel
theorem d_Face_count_17 : decode prog_1_method_33_code 17 = .ok (.iload_n 1, 1) := by decide +kernel
theorem d_Face_count_18 : decode prog_1_method_33_code 18 = .ok (.invokevirtual 235, 3) := by decide +kernel
theorem d_Face_count_21 : decode prog_1_method_33_code 21 = .ok (.ireturn, 1) := by decide +kernel
theorem d_Face_digest_0 : decode prog_1_method_34_code 0 = .ok (.ldc2_w 238, 3) := by decide +kernel
theorem d_Face_digest_3 : decode prog_1_method_34_code 3 = .ok (.lstore_n 1, 1) := by decide +kernel
theorem d_Face_digest_4 : decode prog_1_method_34_code 4 = .ok (.iconst 0, 1) := by decide +kernel
theorem d_Face_digest_5 : decode prog_1_method_34_code 5 = .ok (.istore_n 3, 1) := by decide +kernel
theorem d_Face_digest_6 : decode prog_1_method_34_code 6 = .ok (.iload_n 3, 1) := by decide +kernel
theorem d_Face_digest_7 : decode prog_1_method_34_code 7 = .ok (.bipush 6, 2) := by decide +kernel
theorem d_Face_digest_9 : decode prog_1_method_34_code 9 = .ok (.if_icmp .gt 22, 3) := by decide +kernel
theorem d_Face_digest_12 : decode prog_1_method_34_code 12 = .ok (.ldc2_w 240, 3) := by decide +kernel
theorem d_Face_digest_15 : decode prog_1_method_34_code 15 = .ok (.lload_n 1, 1) := by decide +kernel
theorem d_Face_digest_16 : decode prog_1_method_34_code 16 = .ok (.lmul, 1) := by decide +kernel
theorem d_Face_digest_17 : decode prog_1_method_34_code 17 = .ok (.aload_n 0, 1) := by decide +kernel
theorem d_Face_digest_18 : decode prog_1_method_34_code 18 = .ok (.iload_n 3, 1) := by decide +kernel
theorem d_Face_digest_19 : decode prog_1_method_34_code 19 = .ok (.invokevirtual 235, 3) := by decide +kernel
theorem d_Face_digest_22 : decode prog_1_method_34_code 22 = .ok (.i2l, 1) := by decide +kernel
theorem d_Face_digest_23 : decode prog_1_method_34_code 23 = .ok (.ladd, 1) := by decide +kernel
theorem d_Face_digest_24 : decode prog_1_method_34_code 24 = .ok (.lstore_n 1, 1) := by decide +kernel
theorem d_Face_digest_25 : decode prog_1_method_34_code 25 = .ok (.iinc 3 1, 3) := by decide +kernel
theorem d_Face_digest_28 : decode prog_1_method_34_code 28 = .ok (.goto (-22), 3) := by decide +kernel
theorem d_Face_digest_31 : decode prog_1_method_34_code 31 = .ok (.aload_n 0, 1) := by decide +kernel
theorem d_Face_digest_32 : decode prog_1_method_34_code 32 = .ok (.getfield 30, 3) := by decide +kernel
theorem d_Face_digest_35 : decode prog_1_method_34_code 35 = .ok (.lload_n 1, 1) := by decide +kernel
theorem d_Face_digest_36 : decode prog_1_method_34_code 36 = .ok (.invokevirtual 242, 3) := by decide +kernel
theorem d_Face_digest_39 : decode prog_1_method_34_code 39 = .ok (.lstore_n 1, 1) := by decide +kernel
theorem d_Face_digest_40 : decode prog_1_method_34_code 40 = .ok (.ldc2_w 240, 3) := by decide +kernel
theorem d_Face_digest_43 : decode prog_1_method_34_code 43 = .ok (.lload_n 1, 1) := by decide +kernel
theorem d_Face_digest_44 : decode prog_1_method_34_code 44 = .ok (.lmul, 1) := by decide +kernel
theorem d_Face_digest_45 : decode prog_1_method_34_code 45 = .ok (.aload_n 0, 1) := by decide +kernel
theorem d_Face_digest_46 : decode prog_1_method_34_code 46 = .ok (.getfield 219, 3) := by decide +kernel
theorem d_Face_digest_49 : decode prog_1_method_34_code 49 = .ok (.i2l, 1) := by decide +kernel
theorem d_Face_digest_50 : decode prog_1_method_34_code 50 = .ok (.ladd, 1) := by decide +kernel
theorem d_Face_digest_51 : decode prog_1_method_34_code 51 = .ok (.lstore_n 1, 1) := by decide +kernel
theorem d_Face_digest_52 : decode prog_1_method_34_code 52 = .ok (.ldc2_w 240, 3) := by decide +kernel
theorem d_Face_digest_55 : decode prog_1_method_34_code 55 = .ok (.lload_n 1, 1) := by decide +kernel
theorem d_Face_digest_56 : decode prog_1_method_34_code 56 = .ok (.lmul, 1) := by decide +kernel
theorem d_Face_digest_57 : decode prog_1_method_34_code 57 = .ok (.aload_n 0, 1) := by decide +kernel
theorem d_Face_digest_58 : decode prog_1_method_34_code 58 = .ok (.getfield 56, 3) := by decide +kernel
theorem d_Face_digest_61 : decode prog_1_method_34_code 61 = .ok (.i2l, 1) := by decide +kernel
theorem d_Face_digest_62 : decode prog_1_method_34_code 62 = .ok (.ladd, 1) := by decide +kernel
theorem d_Face_digest_63 : decode prog_1_method_34_code 63 = .ok (.lreturn, 1) := by decide +kernel
theorem d_Face_howMany_0 : decode prog_1_method_35_code 0 = .ok (.iload_n 1, 1) := by decide +kernel
theorem d_Face_howMany_1 : decode prog_1_method_35_code 1 = .ok (.tableswitch 87 0 5 #[39, 47, 55, 63, 71, 79], 39) := by decide +kernel
theorem d_Face_howMany_40 : decode prog_1_method_35_code 40 = .ok (.aload_n 0, 1) := by decide +kernel
theorem d_Face_howMany_41 : decode prog_1_method_35_code 41 = .ok (.getfield 30, 3) := by decide +kernel
theorem d_Face_howMany_44 : decode prog_1_method_35_code 44 = .ok (.getfield 68, 3) := by decide +kernel
theorem d_Face_howMany_47 : decode prog_1_method_35_code 47 = .ok (.ireturn, 1) := by decide +kernel
theorem d_Face_howMany_48 : decode prog_1_method_35_code 48 = .ok (.aload_n 0, 1) := by decide +kernel
theorem d_Face_howMany_49 : decode prog_1_method_35_code 49 = .ok (.getfield 30, 3) := by decide +kernel
theorem d_Face_howMany_52 : decode prog_1_method_35_code 52 = .ok (.getfield 113, 3) := by decide +kernel
theorem d_Face_howMany_55 : decode prog_1_method_35_code 55 = .ok (.ireturn, 1) := by decide +kernel
theorem d_Face_howMany_56 : decode prog_1_method_35_code 56 = .ok (.aload_n 0, 1) := by decide +kernel
theorem d_Face_howMany_57 : decode prog_1_method_35_code 57 = .ok (.getfield 30, 3) := by decide +kernel
theorem d_Face_howMany_60 : decode prog_1_method_35_code 60 = .ok (.getfield 151, 3) := by decide +kernel
theorem d_Face_howMany_63 : decode prog_1_method_35_code 63 = .ok (.ireturn, 1) := by decide +kernel
theorem d_Face_howMany_64 : decode prog_1_method_35_code 64 = .ok (.aload_n 0, 1) := by decide +kernel
theorem d_Face_howMany_65 : decode prog_1_method_35_code 65 = .ok (.getfield 30, 3) := by decide +kernel
theorem d_Face_howMany_68 : decode prog_1_method_35_code 68 = .ok (.getfield 142, 3) := by decide +kernel
theorem d_Face_howMany_71 : decode prog_1_method_35_code 71 = .ok (.ireturn, 1) := by decide +kernel
theorem d_Face_howMany_72 : decode prog_1_method_35_code 72 = .ok (.aload_n 0, 1) := by decide +kernel
theorem d_Face_howMany_73 : decode prog_1_method_35_code 73 = .ok (.getfield 30, 3) := by decide +kernel
theorem d_Face_howMany_76 : decode prog_1_method_35_code 76 = .ok (.getfield 196, 3) := by decide +kernel
theorem d_Face_howMany_79 : decode prog_1_method_35_code 79 = .ok (.ireturn, 1) := by decide +kernel
theorem d_Face_howMany_80 : decode prog_1_method_35_code 80 = .ok (.aload_n 0, 1) := by decide +kernel
theorem d_Face_howMany_81 : decode prog_1_method_35_code 81 = .ok (.getfield 30, 3) := by decide +kernel
theorem d_Face_howMany_84 : decode prog_1_method_35_code 84 = .ok (.getfield 136, 3) := by decide +kernel
theorem d_Face_howMany_87 : decode prog_1_method_35_code 87 = .ok (.ireturn, 1) := by decide +kernel
theorem d_Face_howMany_88 : decode prog_1_method_35_code 88 = .ok (.aload_n 0, 1) := by decide +kernel
theorem d_Face_howMany_89 : decode prog_1_method_35_code 89 = .ok (.getfield 41, 3) := by decide +kernel
theorem d_Face_howMany_92 : decode prog_1_method_35_code 92 = .ok (.getfield 95, 3) := by decide +kernel
theorem d_Face_howMany_95 : decode prog_1_method_35_code 95 = .ok (.ireturn, 1) := by decide +kernel
theorem d_Face_refuseBad_0 : decode prog_1_method_36_code 0 = .ok (.aload_n 0, 1) := by decide +kernel
theorem d_Face_refuseBad_1 : decode prog_1_method_36_code 1 = .ok (.dup, 1) := by decide +kernel
theorem d_Face_refuseBad_2 : decode prog_1_method_36_code 2 = .ok (.getfield 226, 3) := by decide +kernel
theorem d_Face_refuseBad_5 : decode prog_1_method_36_code 5 = .ok (.iconst 1, 1) := by decide +kernel
theorem d_Face_refuseBad_6 : decode prog_1_method_36_code 6 = .ok (.iadd, 1) := by decide +kernel
theorem d_Face_refuseBad_7 : decode prog_1_method_36_code 7 = .ok (.putfield 226, 3) := by decide +kernel
theorem d_Face_refuseBad_10 : decode prog_1_method_36_code 10 = .ok (.iload_n 1, 1) := by decide +kernel
theorem d_Face_refuseBad_11 : decode prog_1_method_36_code 11 = .ok (.ireturn, 1) := by decide +kernel
theorem d_Face_refuseNo_0 : decode prog_1_method_37_code 0 = .ok (.aload_n 0, 1) := by decide +kernel
theorem d_Face_refuseNo_1 : decode prog_1_method_37_code 1 = .ok (.dup, 1) := by decide +kernel
theorem d_Face_refuseNo_2 : decode prog_1_method_37_code 2 = .ok (.getfield 229, 3) := by decide +kernel
theorem d_Face_refuseNo_5 : decode prog_1_method_37_code 5 = .ok (.iconst 1, 1) := by decide +kernel
theorem d_Face_refuseNo_6 : decode prog_1_method_37_code 6 = .ok (.iadd, 1) := by decide +kernel
theorem d_Face_refuseNo_7 : decode prog_1_method_37_code 7 = .ok (.putfield 229, 3) := by decide +kernel
theorem d_Face_refuseNo_10 : decode prog_1_method_37_code 10 = .ok (.bipush (-3), 2) := by decide +kernel
theorem d_Face_refuseNo_12 : decode prog_1_method_37_code 12 = .ok (.ireturn, 1) := by decide +kernel
theorem d_Face_refuseFull_0 : decode prog_1_method_38_code 0 = .ok (.aload_n 0, 1) := by decide +kernel
theorem d_Face_refuseFull_1 : decode prog_1_method_38_code 1 = .ok (.dup, 1) := by decide +kernel
theorem d_Face_refuseFull_2 : decode prog_1_method_38_code 2 = .ok (.getfield 232, 3) := by decide +kernel
theorem d_Face_refuseFull_5 : decode prog_1_method_38_code 5 = .ok (.iconst 1, 1) := by decide +kernel
theorem d_Face_refuseFull_6 : decode prog_1_method_38_code 6 = .ok (.iadd, 1) := by decide +kernel
theorem d_Face_refuseFull_7 : decode prog_1_method_38_code 7 = .ok (.putfield 232, 3) := by decide +kernel
theorem d_Face_refuseFull_10 : decode prog_1_method_38_code 10 = .ok (.bipush (-4), 2) := by decide +kernel
theorem d_Face_refuseFull_12 : decode prog_1_method_38_code 12 = .ok (.ireturn, 1) := by decide +kernel
theorem d_Face_isDoing_0 : decode prog_1_method_39_code 0 = .ok (.iload_n 1, 1) := by decide +kernel
theorem d_Face_isDoing_1 : decode prog_1_method_39_code 1 = .ok (.ifCond .lt 18, 3) := by decide +kernel
theorem d_Face_isDoing_4 : decode prog_1_method_39_code 4 = .ok (.iload_n 1, 1) := by decide +kernel
theorem d_Face_isDoing_5 : decode prog_1_method_39_code 5 = .ok (.aload_n 0, 1) := by decide +kernel
theorem d_Face_isDoing_6 : decode prog_1_method_39_code 6 = .ok (.getfield 30, 3) := by decide +kernel
theorem d_Face_isDoing_9 : decode prog_1_method_39_code 9 = .ok (.getfield 68, 3) := by decide +kernel
theorem d_Face_isDoing_12 : decode prog_1_method_39_code 12 = .ok (.if_icmp .ge 7, 3) := by decide +kernel
theorem d_Face_isDoing_15 : decode prog_1_method_39_code 15 = .ok (.iconst 1, 1) := by decide +kernel
theorem d_Face_isDoing_16 : decode prog_1_method_39_code 16 = .ok (.goto 4, 3) := by decide +kernel
theorem d_Face_isDoing_19 : decode prog_1_method_39_code 19 = .ok (.iconst 0, 1) := by decide +kernel
theorem d_Face_isDoing_20 : decode prog_1_method_39_code 20 = .ok (.ireturn, 1) := by decide +kernel
theorem d_Face_isSide_0 : decode prog_1_method_40_code 0 = .ok (.iload_n 0, 1) := by decide +kernel
theorem d_Face_isSide_1 : decode prog_1_method_40_code 1 = .ok (.iconst 1, 1) := by decide +kernel
theorem d_Face_isSide_2 : decode prog_1_method_40_code 2 = .ok (.invokestatic 60, 3) := by decide +kernel
theorem d_Face_isSide_5 : decode prog_1_method_40_code 5 = .ok (.ireturn, 1) := by decide +kernel
theorem d_Face_isHour_0 : decode prog_1_method_41_code 0 = .ok (.iload_n 0, 1) := by decide +kernel
theorem d_Face_isHour_1 : decode prog_1_method_41_code 1 = .ok (.bipush 23, 2) := by decide +kernel
theorem d_Face_isHour_3 : decode prog_1_method_41_code 3 = .ok (.invokestatic 60, 3) := by decide +kernel
theorem d_Face_isHour_6 : decode prog_1_method_41_code 6 = .ok (.ireturn, 1) := by decide +kernel
theorem d_Face_within_0 : decode prog_1_method_42_code 0 = .ok (.iload_n 0, 1) := by decide +kernel
theorem d_Face_within_1 : decode prog_1_method_42_code 1 = .ok (.ifCond .lt 12, 3) := by decide +kernel
theorem d_Face_within_4 : decode prog_1_method_42_code 4 = .ok (.iload_n 0, 1) := by decide +kernel
theorem d_Face_within_5 : decode prog_1_method_42_code 5 = .ok (.iload_n 1, 1) := by decide +kernel
theorem d_Face_within_6 : decode prog_1_method_42_code 6 = .ok (.if_icmp .gt 7, 3) := by decide +kernel
theorem d_Face_within_9 : decode prog_1_method_42_code 9 = .ok (.iconst 1, 1) := by decide +kernel
theorem d_Face_within_10 : decode prog_1_method_42_code 10 = .ok (.goto 4, 3) := by decide +kernel
theorem d_Face_within_13 : decode prog_1_method_42_code 13 = .ok (.iconst 0, 1) := by decide +kernel
theorem d_Face_within_14 : decode prog_1_method_42_code 14 = .ok (.ireturn, 1) := by decide +kernel
theorem d_Face_hisHour_0 : decode prog_1_method_43_code 0 = .ok (.iload_n 0, 1) := by decide +kernel
theorem d_Face_hisHour_1 : decode prog_1_method_43_code 1 = .ok (.ifCond .ne 7, 3) := by decide +kernel
theorem d_Face_hisHour_4 : decode prog_1_method_43_code 4 = .ok (.iload_n 1, 1) := by decide +kernel
theorem d_Face_hisHour_5 : decode prog_1_method_43_code 5 = .ok (.goto 12, 3) := by decide +kernel
theorem d_Face_hisHour_8 : decode prog_1_method_43_code 8 = .ok (.iload_n 1, 1) := by decide +kernel
theorem d_Face_hisHour_9 : decode prog_1_method_43_code 9 = .ok (.bipush 24, 2) := by decide +kernel
theorem d_Face_hisHour_11 : decode prog_1_method_43_code 11 = .ok (.iadd, 1) := by decide +kernel
theorem d_Face_hisHour_12 : decode prog_1_method_43_code 12 = .ok (.iconst 1, 1) := by decide +kernel
theorem d_Face_hisHour_13 : decode prog_1_method_43_code 13 = .ok (.isub, 1) := by decide +kernel
theorem d_Face_hisHour_14 : decode prog_1_method_43_code 14 = .ok (.bipush 24, 2) := by decide +kernel
theorem d_Face_hisHour_16 : decode prog_1_method_43_code 16 = .ok (.irem, 1) := by decide +kernel
theorem d_Face_hisHour_17 : decode prog_1_method_43_code 17 = .ok (.ireturn, 1) := by decide +kernel
theorem d_Face_ownHour_0 : decode prog_1_method_44_code 0 = .ok (.iload_n 0, 1) := by decide +kernel
theorem d_Face_ownHour_1 : decode prog_1_method_44_code 1 = .ok (.ifCond .ne 7, 3) := by decide +kernel
theorem d_Face_ownHour_4 : decode prog_1_method_44_code 4 = .ok (.iload_n 1, 1) := by decide +kernel
theorem d_Face_ownHour_5 : decode prog_1_method_44_code 5 = .ok (.goto 9, 3) := by decide +kernel
theorem d_Face_ownHour_8 : decode prog_1_method_44_code 8 = .ok (.iload_n 1, 1) := by decide +kernel
theorem d_Face_ownHour_9 : decode prog_1_method_44_code 9 = .ok (.iconst 1, 1) := by decide +kernel
theorem d_Face_ownHour_10 : decode prog_1_method_44_code 10 = .ok (.iadd, 1) := by decide +kernel
theorem d_Face_ownHour_11 : decode prog_1_method_44_code 11 = .ok (.bipush 24, 2) := by decide +kernel
theorem d_Face_ownHour_13 : decode prog_1_method_44_code 13 = .ok (.irem, 1) := by decide +kernel
theorem d_Face_ownHour_14 : decode prog_1_method_44_code 14 = .ok (.ireturn, 1) := by decide +kernel
theorem d_Face_setFraction_0 : decode prog_1_method_45_code 0 = .ok (.iload_n 1, 1) := by decide +kernel
theorem d_Face_setFraction_1 : decode prog_1_method_45_code 1 = .ok (.iload_n 2, 1) := by decide +kernel
theorem d_Face_setFraction_2 : decode prog_1_method_45_code 2 = .ok (.invokestatic 246, 3) := by decide +kernel
theorem d_Face_setFraction_5 : decode prog_1_method_45_code 5 = .ok (.istore_n 3, 1) := by decide +kernel
theorem d_Face_setFraction_6 : decode prog_1_method_45_code 6 = .ok (.aload_n 0, 1) := by decide +kernel
theorem d_Face_setFraction_7 : decode prog_1_method_45_code 7 = .ok (.iload_n 1, 1) := by decide +kernel
theorem d_Face_setFraction_8 : decode prog_1_method_45_code 8 = .ok (.iload_n 3, 1) := by decide +kernel
theorem d_Face_setFraction_9 : decode prog_1_method_45_code 9 = .ok (.idiv, 1) := by decide +kernel
theorem d_Face_setFraction_10 : decode prog_1_method_45_code 10 = .ok (.putfield 219, 3) := by decide +kernel
theorem d_Face_setFraction_13 : decode prog_1_method_45_code 13 = .ok (.aload_n 0, 1) := by decide +kernel
theorem d_Face_setFraction_14 : decode prog_1_method_45_code 14 = .ok (.iload_n 2, 1) := by decide +kernel
theorem d_Face_setFraction_15 : decode prog_1_method_45_code 15 = .ok (.iload_n 3, 1) := by decide +kernel
theorem d_Face_setFraction_16 : decode prog_1_method_45_code 16 = .ok (.idiv, 1) := by decide +kernel
theorem d_Face_setFraction_17 : decode prog_1_method_45_code 17 = .ok (.putfield 56, 3) := by decide +kernel
theorem d_Face_setFraction_20 : decode prog_1_method_45_code 20 = .ok (.return_, 1) := by decide +kernel
theorem d_Face_greatestDivisor_0 : decode prog_1_method_46_code 0 = .ok (.iload_n 0, 1) := by decide +kernel
theorem d_Face_greatestDivisor_1 : decode prog_1_method_46_code 1 = .ok (.istore_n 2, 1) := by decide +kernel
theorem d_Face_greatestDivisor_2 : decode prog_1_method_46_code 2 = .ok (.iload_n 1, 1) := by decide +kernel
theorem d_Face_greatestDivisor_3 : decode prog_1_method_46_code 3 = .ok (.istore_n 3, 1) := by decide +kernel
theorem d_Face_greatestDivisor_4 : decode prog_1_method_46_code 4 = .ok (.iconst 0, 1) := by decide +kernel
theorem d_Face_greatestDivisor_5 : decode prog_1_method_46_code 5 = .ok (.istore 4, 2) := by decide +kernel
theorem d_Face_greatestDivisor_7 : decode prog_1_method_46_code 7 = .ok (.iload 4, 2) := by decide +kernel
theorem d_Face_greatestDivisor_9 : decode prog_1_method_46_code 9 = .ok (.bipush 64, 2) := by decide +kernel
theorem d_Face_greatestDivisor_11 : decode prog_1_method_46_code 11 = .ok (.if_icmp .ge 23, 3) := by decide +kernel
theorem d_Face_greatestDivisor_14 : decode prog_1_method_46_code 14 = .ok (.iload_n 3, 1) := by decide +kernel
theorem d_Face_greatestDivisor_15 : decode prog_1_method_46_code 15 = .ok (.ifCond .eq 19, 3) := by decide +kernel
theorem d_Face_greatestDivisor_18 : decode prog_1_method_46_code 18 = .ok (.iload_n 2, 1) := by decide +kernel
theorem d_Face_greatestDivisor_19 : decode prog_1_method_46_code 19 = .ok (.iload_n 3, 1) := by decide +kernel
theorem d_Face_greatestDivisor_20 : decode prog_1_method_46_code 20 = .ok (.irem, 1) := by decide +kernel
theorem d_Face_greatestDivisor_21 : decode prog_1_method_46_code 21 = .ok (.istore 5, 2) := by decide +kernel
theorem d_Face_greatestDivisor_23 : decode prog_1_method_46_code 23 = .ok (.iload_n 3, 1) := by decide +kernel
theorem d_Face_greatestDivisor_24 : decode prog_1_method_46_code 24 = .ok (.istore_n 2, 1) := by decide +kernel
theorem d_Face_greatestDivisor_25 : decode prog_1_method_46_code 25 = .ok (.iload 5, 2) := by decide +kernel
theorem d_Face_greatestDivisor_27 : decode prog_1_method_46_code 27 = .ok (.istore_n 3, 1) := by decide +kernel
theorem d_Face_greatestDivisor_28 : decode prog_1_method_46_code 28 = .ok (.iinc 4 1, 3) := by decide +kernel
theorem d_Face_greatestDivisor_31 : decode prog_1_method_46_code 31 = .ok (.goto (-24), 3) := by decide +kernel
theorem d_Face_greatestDivisor_34 : decode prog_1_method_46_code 34 = .ok (.iload_n 2, 1) := by decide +kernel
theorem d_Face_greatestDivisor_35 : decode prog_1_method_46_code 35 = .ok (.iconst 1, 1) := by decide +kernel
theorem d_Face_greatestDivisor_36 : decode prog_1_method_46_code 36 = .ok (.invokestatic 249, 3) := by decide +kernel
theorem d_Face_greatestDivisor_39 : decode prog_1_method_46_code 39 = .ok (.ireturn, 1) := by decide +kernel
theorem d_Cat_init_0 : decode prog_2_method_1_code 0 = .ok (.aload_n 0, 1) := by decide +kernel
theorem d_Cat_init_1 : decode prog_2_method_1_code 1 = .ok (.invokespecial 1, 3) := by decide +kernel
theorem d_Cat_init_4 : decode prog_2_method_1_code 4 = .ok (.return_, 1) := by decide +kernel
theorem d_Cat_passes_0 : decode prog_2_method_2_code 0 = .ok (.iconst 1, 1) := by decide +kernel
theorem d_Cat_passes_1 : decode prog_2_method_2_code 1 = .ok (.ireturn, 1) := by decide +kernel
theorem d_Clerk_init_0 : decode prog_3_method_1_code 0 = .ok (.aload_n 0, 1) := by decide +kernel
theorem d_Clerk_init_1 : decode prog_3_method_1_code 1 = .ok (.invokespecial 3, 3) := by decide +kernel
theorem d_Clerk_init_4 : decode prog_3_method_1_code 4 = .ok (.aload_n 0, 1) := by decide +kernel
theorem d_Clerk_init_5 : decode prog_3_method_1_code 5 = .ok (.bipush 6, 2) := by decide +kernel
theorem d_Clerk_init_7 : decode prog_3_method_1_code 7 = .ok (.newarray .int, 2) := by decide +kernel
theorem d_Clerk_init_9 : decode prog_3_method_1_code 9 = .ok (.putfield 9, 3) := by decide +kernel
theorem d_Clerk_init_12 : decode prog_3_method_1_code 12 = .ok (.aload_n 0, 1) := by decide +kernel
theorem d_Clerk_init_13 : decode prog_3_method_1_code 13 = .ok (.aload_n 1, 1) := by decide +kernel
theorem d_Clerk_init_14 : decode prog_3_method_1_code 14 = .ok (.putfield 15, 3) := by decide +kernel
theorem d_Clerk_init_17 : decode prog_3_method_1_code 17 = .ok (.return_, 1) := by decide +kernel
theorem d_Clerk_hoursBothBar_0 : decode prog_3_method_2_code 0 = .ok (.iconst 0, 1) := by decide +kernel
theorem d_Clerk_hoursBothBar_1 : decode prog_3_method_2_code 1 = .ok (.istore_n 2, 1) := by decide +kernel
theorem d_Clerk_hoursBothBar_2 : decode prog_3_method_2_code 2 = .ok (.iconst 0, 1) := by decide +kernel
theorem d_Clerk_hoursBothBar_3 : decode prog_3_method_2_code 3 = .ok (.istore_n 3, 1) := by decide +kernel
theorem d_Clerk_hoursBothBar_4 : decode prog_3_method_2_code 4 = .ok (.iload_n 3, 1) := by decide +kernel
theorem d_Clerk_hoursBothBar_5 : decode prog_3_method_2_code 5 = .ok (.bipush 24, 2) := by decide +kernel
theorem d_Clerk_hoursBothBar_7 : decode prog_3_method_2_code 7 = .ok (.if_icmp .ge 41, 3) := by decide +kernel
theorem d_Clerk_hoursBothBar_10 : decode prog_3_method_2_code 10 = .ok (.aload_n 0, 1) := by decide +kernel
theorem d_Clerk_hoursBothBar_11 : decode prog_3_method_2_code 11 = .ok (.getfield 15, 3) := by decide +kernel
theorem d_Clerk_hoursBothBar_14 : decode prog_3_method_2_code 14 = .ok (.iload_n 1, 1) := by decide +kernel
theorem d_Clerk_hoursBothBar_15 : decode prog_3_method_2_code 15 = .ok (.iconst 0, 1) := by decide +kernel
theorem d_Clerk_hoursBothBar_16 : decode prog_3_method_2_code 16 = .ok (.iload_n 3, 1) := by decide +kernel
theorem d_Clerk_hoursBothBar_17 : decode prog_3_method_2_code 17 = .ok (.invokevirtual 19, 3) := by decide +kernel
theorem d_Clerk_hoursBothBar_20 : decode prog_3_method_2_code 20 = .ok (.ifCond .ne 22, 3) := by decide +kernel
theorem d_Clerk_hoursBothBar_23 : decode prog_3_method_2_code 23 = .ok (.aload_n 0, 1) := by decide +kernel
theorem d_Clerk_hoursBothBar_24 : decode prog_3_method_2_code 24 = .ok (.getfield 15, 3) := by decide +kernel
theorem d_Clerk_hoursBothBar_27 : decode prog_3_method_2_code 27 = .ok (.iload_n 1, 1) := by decide +kernel
theorem d_Clerk_hoursBothBar_28 : decode prog_3_method_2_code 28 = .ok (.iconst 1, 1) := by decide +kernel
theorem d_Clerk_hoursBothBar_29 : decode prog_3_method_2_code 29 = .ok (.iload_n 3, 1) := by decide +kernel
theorem d_Clerk_hoursBothBar_30 : decode prog_3_method_2_code 30 = .ok (.invokevirtual 19, 3) := by decide +kernel
theorem d_Clerk_hoursBothBar_33 : decode prog_3_method_2_code 33 = .ok (.ifCond .ne 9, 3) := by decide +kernel
theorem d_Clerk_hoursBothBar_36 : decode prog_3_method_2_code 36 = .ok (.iload_n 2, 1) := by decide +kernel
theorem d_Clerk_hoursBothBar_37 : decode prog_3_method_2_code 37 = .ok (.iconst 1, 1) := by decide +kernel
theorem d_Clerk_hoursBothBar_38 : decode prog_3_method_2_code 38 = .ok (.iload_n 3, 1) := by decide +kernel
theorem d_Clerk_hoursBothBar_39 : decode prog_3_method_2_code 39 = .ok (.ishl, 1) := by decide +kernel
theorem d_Clerk_hoursBothBar_40 : decode prog_3_method_2_code 40 = .ok (.ior, 1) := by decide +kernel
theorem d_Clerk_hoursBothBar_41 : decode prog_3_method_2_code 41 = .ok (.istore_n 2, 1) := by decide +kernel
theorem d_Clerk_hoursBothBar_42 : decode prog_3_method_2_code 42 = .ok (.iinc 3 1, 3) := by decide +kernel
theorem d_Clerk_hoursBothBar_45 : decode prog_3_method_2_code 45 = .ok (.goto (-41), 3) := by decide +kernel
theorem d_Clerk_hoursBothBar_48 : decode prog_3_method_2_code 48 = .ok (.iload_n 2, 1) := by decide +kernel
theorem d_Clerk_hoursBothBar_49 : decode prog_3_method_2_code 49 = .ok (.ireturn, 1) := by decide +kernel
theorem d_Clerk_firstFromNow_0 : decode prog_3_method_3_code 0 = .ok (.iconst 0, 1) := by decide +kernel
theorem d_Clerk_firstFromNow_1 : decode prog_3_method_3_code 1 = .ok (.istore_n 2, 1) := by decide +kernel
theorem d_Clerk_firstFromNow_2 : decode prog_3_method_3_code 2 = .ok (.iload_n 2, 1) := by decide +kernel
theorem d_Clerk_firstFromNow_3 : decode prog_3_method_3_code 3 = .ok (.bipush 24, 2) := by decide +kernel
theorem d_Clerk_firstFromNow_5 : decode prog_3_method_3_code 5 = .ok (.if_icmp .ge 33, 3) := by decide +kernel
theorem d_Clerk_firstFromNow_8 : decode prog_3_method_3_code 8 = .ok (.aload_n 0, 1) := by decide +kernel
theorem d_Clerk_firstFromNow_9 : decode prog_3_method_3_code 9 = .ok (.getfield 15, 3) := by decide +kernel
theorem d_Clerk_firstFromNow_12 : decode prog_3_method_3_code 12 = .ok (.getfield 25, 3) := by decide +kernel
theorem d_Clerk_firstFromNow_15 : decode prog_3_method_3_code 15 = .ok (.iload_n 2, 1) := by decide +kernel
theorem d_Clerk_firstFromNow_16 : decode prog_3_method_3_code 16 = .ok (.iadd, 1) := by decide +kernel
theorem d_Clerk_firstFromNow_17 : decode prog_3_method_3_code 17 = .ok (.bipush 24, 2) := by decide +kernel
theorem d_Clerk_firstFromNow_19 : decode prog_3_method_3_code 19 = .ok (.irem, 1) := by decide +kernel
theorem d_Clerk_firstFromNow_20 : decode prog_3_method_3_code 20 = .ok (.istore_n 3, 1) := by decide +kernel
theorem d_Clerk_firstFromNow_21 : decode prog_3_method_3_code 21 = .ok (.iload_n 1, 1) := by decide +kernel
theorem d_Clerk_firstFromNow_22 : decode prog_3_method_3_code 22 = .ok (.iload_n 3, 1) := by decide +kernel
theorem d_Clerk_firstFromNow_23 : decode prog_3_method_3_code 23 = .ok (.ishr, 1) := by decide +kernel
theorem d_Clerk_firstFromNow_24 : decode prog_3_method_3_code 24 = .ok (.iconst 1, 1) := by decide +kernel
theorem d_Clerk_firstFromNow_25 : decode prog_3_method_3_code 25 = .ok (.iand, 1) := by decide +kernel
theorem d_Clerk_firstFromNow_26 : decode prog_3_method_3_code 26 = .ok (.iconst 1, 1) := by decide +kernel
theorem d_Clerk_firstFromNow_27 : decode prog_3_method_3_code 27 = .ok (.if_icmp .ne 5, 3) := by decide +kernel
theorem d_Clerk_firstFromNow_30 : decode prog_3_method_3_code 30 = .ok (.iload_n 3, 1) := by decide +kernel
theorem d_Clerk_firstFromNow_31 : decode prog_3_method_3_code 31 = .ok (.ireturn, 1) := by decide +kernel
theorem d_Clerk_firstFromNow_32 : decode prog_3_method_3_code 32 = .ok (.iinc 2 1, 3) := by decide +kernel
theorem d_Clerk_firstFromNow_35 : decode prog_3_method_3_code 35 = .ok (.goto (-33), 3) := by decide +kernel
theorem d_Clerk_firstFromNow_38 : decode prog_3_method_3_code 38 = .ok (.iconst (-1), 1) := by decide +kernel
theorem d_Clerk_firstFromNow_39 : decode prog_3_method_3_code 39 = .ok (.ireturn, 1) := by decide +kernel
theorem d_Clerk_cellsOfHers_0 : decode prog_3_method_4_code 0 = .ok (.iconst 0, 1) := by decide +kernel
theorem d_Clerk_cellsOfHers_1 : decode prog_3_method_4_code 1 = .ok (.iconst 3, 1) := by decide +kernel
theorem d_Clerk_cellsOfHers_2 : decode prog_3_method_4_code 2 = .ok (.iload_n 0, 1) := by decide +kernel
theorem d_Clerk_cellsOfHers_3 : decode prog_3_method_4_code 3 = .ok (.iconst 3, 1) := by decide +kernel
theorem d_Clerk_cellsOfHers_4 : decode prog_3_method_4_code 4 = .ok (.iadd, 1) := by decide +kernel
theorem d_Clerk_cellsOfHers_5 : decode prog_3_method_4_code 5 = .ok (.iconst 5, 1) := by decide +kernel
theorem d_Clerk_cellsOfHers_6 : decode prog_3_method_4_code 6 = .ok (.isub, 1) := by decide +kernel
theorem d_Clerk_cellsOfHers_7 : decode prog_3_method_4_code 7 = .ok (.invokestatic 29, 3) := by decide +kernel
theorem d_Clerk_cellsOfHers_10 : decode prog_3_method_4_code 10 = .ok (.invokestatic 35, 3) := by decide +kernel
theorem d_Clerk_cellsOfHers_13 : decode prog_3_method_4_code 13 = .ok (.ireturn, 1) := by decide +kernel
theorem d_Clerk_bestCell_0 : decode prog_3_method_5_code 0 = .ok (.aload_n 0, 1) := by decide +kernel
theorem d_Clerk_bestCell_1 : decode prog_3_method_5_code 1 = .ok (.iload_n 1, 1) := by decide +kernel
theorem d_Clerk_bestCell_2 : decode prog_3_method_5_code 2 = .ok (.iconst 0, 1) := by decide +kernel
theorem d_Clerk_bestCell_3 : decode prog_3_method_5_code 3 = .ok (.invokevirtual 38, 3) := by decide +kernel
theorem d_Clerk_bestCell_6 : decode prog_3_method_5_code 6 = .ok (.istore_n 2, 1) := by decide +kernel
theorem d_Clerk_bestCell_7 : decode prog_3_method_5_code 7 = .ok (.aload_n 0, 1) := by decide +kernel
theorem d_Clerk_bestCell_8 : decode prog_3_method_5_code 8 = .ok (.iload_n 1, 1) := by decide +kernel
theorem d_Clerk_bestCell_9 : decode prog_3_method_5_code 9 = .ok (.iconst 1, 1) := by decide +kernel
theorem d_Clerk_bestCell_10 : decode prog_3_method_5_code 10 = .ok (.invokevirtual 38, 3) := by decide +kernel
theorem d_Clerk_bestCell_13 : decode prog_3_method_5_code 13 = .ok (.istore_n 3, 1) := by decide +kernel
theorem d_Clerk_bestCell_14 : decode prog_3_method_5_code 14 = .ok (.iconst 0, 1) := by decide +kernel
theorem d_Clerk_bestCell_15 : decode prog_3_method_5_code 15 = .ok (.istore 4, 2) := by decide +kernel
theorem d_Clerk_bestCell_17 : decode prog_3_method_5_code 17 = .ok (.iconst 3, 1) := by decide +kernel
theorem d_Clerk_bestCell_18 : decode prog_3_method_5_code 18 = .ok (.iload_n 2, 1) := by decide +kernel
theorem d_Clerk_bestCell_19 : decode prog_3_method_5_code 19 = .ok (.imul, 1) := by decide +kernel
theorem d_Clerk_bestCell_20 : decode prog_3_method_5_code 20 = .ok (.istore 5, 2) := by decide +kernel
theorem d_Clerk_bestCell_22 : decode prog_3_method_5_code 22 = .ok (.iconst 1, 1) := by decide +kernel
theorem d_Clerk_bestCell_23 : decode prog_3_method_5_code 23 = .ok (.istore 6, 2) := by decide +kernel
theorem d_Clerk_bestCell_25 : decode prog_3_method_5_code 25 = .ok (.iload 6, 2) := by decide +kernel
theorem d_Clerk_bestCell_27 : decode prog_3_method_5_code 27 = .ok (.bipush 7, 2) := by decide +kernel
theorem d_Clerk_bestCell_29 : decode prog_3_method_5_code 29 = .ok (.if_icmp .gt 44, 3) := by decide +kernel
theorem d_Clerk_bestCell_32 : decode prog_3_method_5_code 32 = .ok (.iload 6, 2) := by decide +kernel
theorem d_Clerk_bestCell_34 : decode prog_3_method_5_code 34 = .ok (.invokestatic 41, 3) := by decide +kernel
theorem d_Clerk_bestCell_37 : decode prog_3_method_5_code 37 = .ok (.istore 7, 2) := by decide +kernel
theorem d_Clerk_bestCell_39 : decode prog_3_method_5_code 39 = .ok (.iconst 3, 1) := by decide +kernel
theorem d_Clerk_bestCell_40 : decode prog_3_method_5_code 40 = .ok (.iload 7, 2) := by decide +kernel
theorem d_Clerk_bestCell_42 : decode prog_3_method_5_code 42 = .ok (.isub, 1) := by decide +kernel
theorem d_Clerk_bestCell_43 : decode prog_3_method_5_code 43 = .ok (.iload_n 2, 1) := by decide +kernel
theorem d_Clerk_bestCell_44 : decode prog_3_method_5_code 44 = .ok (.imul, 1) := by decide +kernel
theorem d_Clerk_bestCell_45 : decode prog_3_method_5_code 45 = .ok (.iload 7, 2) := by decide +kernel
theorem d_Clerk_bestCell_47 : decode prog_3_method_5_code 47 = .ok (.iload_n 3, 1) := by decide +kernel
theorem d_Clerk_bestCell_48 : decode prog_3_method_5_code 48 = .ok (.imul, 1) := by decide +kernel
theorem d_Clerk_bestCell_49 : decode prog_3_method_5_code 49 = .ok (.iadd, 1) := by decide +kernel
theorem d_Clerk_bestCell_50 : decode prog_3_method_5_code 50 = .ok (.istore 8, 2) := by decide +kernel
theorem d_Clerk_bestCell_52 : decode prog_3_method_5_code 52 = .ok (.iload 8, 2) := by decide +kernel
theorem d_Clerk_bestCell_54 : decode prog_3_method_5_code 54 = .ok (.iload 5, 2) := by decide +kernel
theorem d_Clerk_bestCell_56 : decode prog_3_method_5_code 56 = .ok (.if_icmp .ge 11, 3) := by decide +kernel
theorem d_Clerk_bestCell_59 : decode prog_3_method_5_code 59 = .ok (.iload 8, 2) := by decide +kernel
theorem d_Clerk_bestCell_61 : decode prog_3_method_5_code 61 = .ok (.istore 5, 2) := by decide +kernel
theorem d_Clerk_bestCell_63 : decode prog_3_method_5_code 63 = .ok (.iload 6, 2) := by decide +kernel
theorem d_Clerk_bestCell_65 : decode prog_3_method_5_code 65 = .ok (.istore 4, 2) := by decide +kernel
theorem d_Clerk_bestCell_67 : decode prog_3_method_5_code 67 = .ok (.iinc 6 1, 3) := by decide +kernel
theorem d_Clerk_bestCell_70 : decode prog_3_method_5_code 70 = .ok (.goto (-45), 3) := by decide +kernel
theorem d_Clerk_bestCell_73 : decode prog_3_method_5_code 73 = .ok (.iload 4, 2) := by decide +kernel
theorem d_Clerk_bestCell_75 : decode prog_3_method_5_code 75 = .ok (.ireturn, 1) := by decide +kernel
theorem d_Clerk_priceOfCell_0 : decode prog_3_method_6_code 0 = .ok (.aload_n 0, 1) := by decide +kernel
theorem d_Clerk_priceOfCell_1 : decode prog_3_method_6_code 1 = .ok (.getfield 15, 3) := by decide +kernel
theorem d_Clerk_priceOfCell_4 : decode prog_3_method_6_code 4 = .ok (.iload_n 1, 1) := by decide +kernel
theorem d_Clerk_priceOfCell_5 : decode prog_3_method_6_code 5 = .ok (.iload_n 2, 1) := by decide +kernel
theorem d_Clerk_priceOfCell_6 : decode prog_3_method_6_code 6 = .ok (.aload_n 0, 1) := by decide +kernel
theorem d_Clerk_priceOfCell_7 : decode prog_3_method_6_code 7 = .ok (.getfield 15, 3) := by decide +kernel
theorem d_Clerk_priceOfCell_10 : decode prog_3_method_6_code 10 = .ok (.getfield 25, 3) := by decide +kernel
theorem d_Clerk_priceOfCell_13 : decode prog_3_method_6_code 13 = .ok (.invokevirtual 19, 3) := by decide +kernel
theorem d_Clerk_priceOfCell_16 : decode prog_3_method_6_code 16 = .ok (.ifCond .eq 22, 3) := by decide +kernel
theorem d_Clerk_priceOfCell_19 : decode prog_3_method_6_code 19 = .ok (.aload_n 0, 1) := by decide +kernel
theorem d_Clerk_priceOfCell_20 : decode prog_3_method_6_code 20 = .ok (.getfield 15, 3) := by decide +kernel
theorem d_Clerk_priceOfCell_23 : decode prog_3_method_6_code 23 = .ok (.iload_n 1, 1) := by decide +kernel
theorem d_Clerk_priceOfCell_24 : decode prog_3_method_6_code 24 = .ok (.iload_n 2, 1) := by decide +kernel
theorem d_Clerk_priceOfCell_25 : decode prog_3_method_6_code 25 = .ok (.aload_n 0, 1) := by decide +kernel
theorem d_Clerk_priceOfCell_26 : decode prog_3_method_6_code 26 = .ok (.getfield 15, 3) := by decide +kernel
theorem d_Clerk_priceOfCell_29 : decode prog_3_method_6_code 29 = .ok (.getfield 25, 3) := by decide +kernel
theorem d_Clerk_priceOfCell_32 : decode prog_3_method_6_code 32 = .ok (.invokevirtual 45, 3) := by decide +kernel
theorem d_Clerk_priceOfCell_35 : decode prog_3_method_6_code 35 = .ok (.goto 5, 3) := by decide +kernel
theorem d_Clerk_priceOfCell_38 : decode prog_3_method_6_code 38 = .ok (.bipush 99, 2) := by decide +kernel
theorem d_Clerk_priceOfCell_40 : decode prog_3_method_6_code 40 = .ok (.ireturn, 1) := by decide +kernel
theorem d_Clerk_restingPairs_0 : decode prog_3_method_7_code 0 = .ok (.iconst 0, 1) := by decide +kernel
theorem d_Clerk_restingPairs_1 : decode prog_3_method_7_code 1 = .ok (.istore_n 2, 1) := by decide +kernel
theorem d_Clerk_restingPairs_2 : decode prog_3_method_7_code 2 = .ok (.iconst 0, 1) := by decide +kernel
theorem d_Clerk_restingPairs_3 : decode prog_3_method_7_code 3 = .ok (.istore_n 3, 1) := by decide +kernel
theorem d_Clerk_restingPairs_4 : decode prog_3_method_7_code 4 = .ok (.iload_n 3, 1) := by decide +kernel
theorem d_Clerk_restingPairs_5 : decode prog_3_method_7_code 5 = .ok (.iconst 4, 1) := by decide +kernel
theorem d_Clerk_restingPairs_6 : decode prog_3_method_7_code 6 = .ok (.if_icmp .ge 73, 3) := by decide +kernel
theorem d_Clerk_restingPairs_9 : decode prog_3_method_7_code 9 = .ok (.aload_n 0, 1) := by decide +kernel
theorem d_Clerk_restingPairs_10 : decode prog_3_method_7_code 10 = .ok (.iload_n 1, 1) := by decide +kernel
theorem d_Clerk_restingPairs_11 : decode prog_3_method_7_code 11 = .ok (.iload_n 3, 1) := by decide +kernel
theorem d_Clerk_restingPairs_12 : decode prog_3_method_7_code 12 = .ok (.invokevirtual 49, 3) := by decide +kernel
theorem d_Clerk_restingPairs_15 : decode prog_3_method_7_code 15 = .ok (.aload_n 0, 1) := by decide +kernel
theorem d_Clerk_restingPairs_16 : decode prog_3_method_7_code 16 = .ok (.iload_n 1, 1) := by decide +kernel
theorem d_Clerk_restingPairs_17 : decode prog_3_method_7_code 17 = .ok (.iload_n 3, 1) := by decide +kernel
theorem d_Clerk_restingPairs_18 : decode prog_3_method_7_code 18 = .ok (.iconst 1, 1) := by decide +kernel
theorem d_Clerk_restingPairs_19 : decode prog_3_method_7_code 19 = .ok (.ixor, 1) := by decide +kernel
theorem d_Clerk_restingPairs_20 : decode prog_3_method_7_code 20 = .ok (.invokevirtual 49, 3) := by decide +kernel
theorem d_Clerk_restingPairs_23 : decode prog_3_method_7_code 23 = .ok (.if_icmp .lt 7, 3) := by decide +kernel
theorem d_Clerk_restingPairs_26 : decode prog_3_method_7_code 26 = .ok (.iconst 1, 1) := by decide +kernel
theorem d_Clerk_restingPairs_27 : decode prog_3_method_7_code 27 = .ok (.goto 4, 3) := by decide +kernel
theorem d_Clerk_restingPairs_30 : decode prog_3_method_7_code 30 = .ok (.iconst 0, 1) := by decide +kernel
theorem d_Clerk_restingPairs_31 : decode prog_3_method_7_code 31 = .ok (.istore 4, 2) := by decide +kernel
theorem d_Clerk_restingPairs_33 : decode prog_3_method_7_code 33 = .ok (.aload_n 0, 1) := by decide +kernel
theorem d_Clerk_restingPairs_34 : decode prog_3_method_7_code 34 = .ok (.iload_n 1, 1) := by decide +kernel
theorem d_Clerk_restingPairs_35 : decode prog_3_method_7_code 35 = .ok (.iload_n 3, 1) := by decide +kernel
theorem d_Clerk_restingPairs_36 : decode prog_3_method_7_code 36 = .ok (.invokevirtual 52, 3) := by decide +kernel
theorem d_Clerk_restingPairs_39 : decode prog_3_method_7_code 39 = .ok (.aload_n 0, 1) := by decide +kernel
theorem d_Clerk_restingPairs_40 : decode prog_3_method_7_code 40 = .ok (.iload_n 1, 1) := by decide +kernel
theorem d_Clerk_restingPairs_41 : decode prog_3_method_7_code 41 = .ok (.iload_n 3, 1) := by decide +kernel
theorem d_Clerk_restingPairs_42 : decode prog_3_method_7_code 42 = .ok (.iconst 2, 1) := by decide +kernel
theorem d_Clerk_restingPairs_43 : decode prog_3_method_7_code 43 = .ok (.ixor, 1) := by decide +kernel
theorem d_Clerk_restingPairs_44 : decode prog_3_method_7_code 44 = .ok (.invokevirtual 52, 3) := by decide +kernel
theorem d_Clerk_restingPairs_47 : decode prog_3_method_7_code 47 = .ok (.if_icmp .lt 7, 3) := by decide +kernel
theorem d_Clerk_restingPairs_50 : decode prog_3_method_7_code 50 = .ok (.iconst 1, 1) := by decide +kernel
theorem d_Clerk_restingPairs_51 : decode prog_3_method_7_code 51 = .ok (.goto 4, 3) := by decide +kernel
theorem d_Clerk_restingPairs_54 : decode prog_3_method_7_code 54 = .ok (.iconst 0, 1) := by decide +kernel
theorem d_Clerk_restingPairs_55 : decode prog_3_method_7_code 55 = .ok (.istore 5, 2) := by decide +kernel
theorem d_Clerk_restingPairs_57 : decode prog_3_method_7_code 57 = .ok (.iload 4, 2) := by decide +kernel
theorem d_Clerk_restingPairs_59 : decode prog_3_method_7_code 59 = .ok (.ifCond .eq 14, 3) := by decide +kernel
theorem d_Clerk_restingPairs_62 : decode prog_3_method_7_code 62 = .ok (.iload 5, 2) := by decide +kernel
theorem d_Clerk_restingPairs_64 : decode prog_3_method_7_code 64 = .ok (.ifCond .eq 9, 3) := by decide +kernel
theorem d_Clerk_restingPairs_67 : decode prog_3_method_7_code 67 = .ok (.iload_n 2, 1) := by decide +kernel
theorem d_Clerk_restingPairs_68 : decode prog_3_method_7_code 68 = .ok (.iconst 1, 1) := by decide +kernel
theorem d_Clerk_restingPairs_69 : decode prog_3_method_7_code 69 = .ok (.iload_n 3, 1) := by decide +kernel
theorem d_Clerk_restingPairs_70 : decode prog_3_method_7_code 70 = .ok (.ishl, 1) := by decide +kernel
theorem d_Clerk_restingPairs_71 : decode prog_3_method_7_code 71 = .ok (.ior, 1) := by decide +kernel
theorem d_Clerk_restingPairs_72 : decode prog_3_method_7_code 72 = .ok (.istore_n 2, 1) := by decide +kernel
theorem d_Clerk_restingPairs_73 : decode prog_3_method_7_code 73 = .ok (.iinc 3 1, 3) := by decide +kernel
theorem d_Clerk_restingPairs_76 : decode prog_3_method_7_code 76 = .ok (.goto (-72), 3) := by decide +kernel
theorem d_Clerk_restingPairs_79 : decode prog_3_method_7_code 79 = .ok (.iload_n 2, 1) := by decide +kernel
theorem d_Clerk_restingPairs_80 : decode prog_3_method_7_code 80 = .ok (.ireturn, 1) := by decide +kernel
theorem d_Clerk_gainOfHis_0 : decode prog_3_method_8_code 0 = .ok (.aload_n 0, 1) := by decide +kernel
theorem d_Clerk_gainOfHis_1 : decode prog_3_method_8_code 1 = .ok (.getfield 15, 3) := by decide +kernel
theorem d_Clerk_gainOfHis_4 : decode prog_3_method_8_code 4 = .ok (.iload_n 1, 1) := by decide +kernel
theorem d_Clerk_gainOfHis_5 : decode prog_3_method_8_code 5 = .ok (.iconst 0, 1) := by decide +kernel
theorem d_Clerk_gainOfHis_6 : decode prog_3_method_8_code 6 = .ok (.aload_n 0, 1) := by decide +kernel
theorem d_Clerk_gainOfHis_7 : decode prog_3_method_8_code 7 = .ok (.getfield 15, 3) := by decide +kernel
theorem d_Clerk_gainOfHis_10 : decode prog_3_method_8_code 10 = .ok (.getfield 25, 3) := by decide +kernel
theorem d_Clerk_gainOfHis_13 : decode prog_3_method_8_code 13 = .ok (.invokevirtual 45, 3) := by decide +kernel
theorem d_Clerk_gainOfHis_16 : decode prog_3_method_8_code 16 = .ok (.istore_n 3, 1) := by decide +kernel
theorem d_Clerk_gainOfHis_17 : decode prog_3_method_8_code 17 = .ok (.aload_n 0, 1) := by decide +kernel
theorem d_Clerk_gainOfHis_18 : decode prog_3_method_8_code 18 = .ok (.iload_n 1, 1) := by decide +kernel
theorem d_Clerk_gainOfHis_19 : decode prog_3_method_8_code 19 = .ok (.iconst 1, 1) := by decide +kernel
theorem d_Clerk_gainOfHis_20 : decode prog_3_method_8_code 20 = .ok (.iload_n 2, 1) := by decide +kernel
theorem d_Clerk_gainOfHis_21 : decode prog_3_method_8_code 21 = .ok (.invokevirtual 55, 3) := by decide +kernel
theorem d_Clerk_gainOfHis_24 : decode prog_3_method_8_code 24 = .ok (.ifCond .eq 27, 3) := by decide +kernel
theorem d_Clerk_gainOfHis_27 : decode prog_3_method_8_code 27 = .ok (.aload_n 0, 1) := by decide +kernel
theorem d_Clerk_gainOfHis_28 : decode prog_3_method_8_code 28 = .ok (.getfield 15, 3) := by decide +kernel
theorem d_Clerk_gainOfHis_31 : decode prog_3_method_8_code 31 = .ok (.iload_n 1, 1) := by decide +kernel
theorem d_Clerk_gainOfHis_32 : decode prog_3_method_8_code 32 = .ok (.iconst 1, 1) := by decide +kernel
theorem d_Clerk_gainOfHis_33 : decode prog_3_method_8_code 33 = .ok (.aload_n 0, 1) := by decide +kernel
theorem d_Clerk_gainOfHis_34 : decode prog_3_method_8_code 34 = .ok (.getfield 15, 3) := by decide +kernel
theorem d_Clerk_gainOfHis_37 : decode prog_3_method_8_code 37 = .ok (.getfield 25, 3) := by decide +kernel
theorem d_Clerk_gainOfHis_40 : decode prog_3_method_8_code 40 = .ok (.invokevirtual 45, 3) := by decide +kernel
theorem d_Clerk_gainOfHis_43 : decode prog_3_method_8_code 43 = .ok (.iload_n 3, 1) := by decide +kernel
theorem d_Clerk_gainOfHis_44 : decode prog_3_method_8_code 44 = .ok (.if_icmp .ge 7, 3) := by decide +kernel
theorem d_Clerk_gainOfHis_47 : decode prog_3_method_8_code 47 = .ok (.iconst 1, 1) := by decide +kernel
theorem d_Clerk_gainOfHis_48 : decode prog_3_method_8_code 48 = .ok (.goto 4, 3) := by decide +kernel
theorem d_Clerk_gainOfHis_51 : decode prog_3_method_8_code 51 = .ok (.iconst 0, 1) := by decide +kernel
theorem d_Clerk_gainOfHis_52 : decode prog_3_method_8_code 52 = .ok (.istore 4, 2) := by decide +kernel
theorem d_Clerk_gainOfHis_54 : decode prog_3_method_8_code 54 = .ok (.aload_n 0, 1) := by decide +kernel
theorem d_Clerk_gainOfHis_55 : decode prog_3_method_8_code 55 = .ok (.iload_n 1, 1) := by decide +kernel
theorem d_Clerk_gainOfHis_56 : decode prog_3_method_8_code 56 = .ok (.iconst 0, 1) := by decide +kernel
theorem d_Clerk_gainOfHis_57 : decode prog_3_method_8_code 57 = .ok (.iload_n 2, 1) := by decide +kernel
theorem d_Clerk_gainOfHis_58 : decode prog_3_method_8_code 58 = .ok (.invokevirtual 55, 3) := by decide +kernel
theorem d_Clerk_gainOfHis_61 : decode prog_3_method_8_code 61 = .ok (.ifCond .eq 12, 3) := by decide +kernel
theorem d_Clerk_gainOfHis_64 : decode prog_3_method_8_code 64 = .ok (.iload 4, 2) := by decide +kernel
theorem d_Clerk_gainOfHis_66 : decode prog_3_method_8_code 66 = .ok (.ifCond .ne 7, 3) := by decide +kernel
theorem d_Clerk_gainOfHis_69 : decode prog_3_method_8_code 69 = .ok (.iload_n 3, 1) := by decide +kernel
theorem d_Clerk_gainOfHis_70 : decode prog_3_method_8_code 70 = .ok (.goto 4, 3) := by decide +kernel
theorem d_Clerk_gainOfHis_73 : decode prog_3_method_8_code 73 = .ok (.iconst 0, 1) := by decide +kernel
theorem d_Clerk_gainOfHis_74 : decode prog_3_method_8_code 74 = .ok (.ireturn, 1) := by decide +kernel
theorem d_Clerk_gainOfHers_0 : decode prog_3_method_9_code 0 = .ok (.aload_n 0, 1) := by decide +kernel
theorem d_Clerk_gainOfHers_1 : decode prog_3_method_9_code 1 = .ok (.getfield 15, 3) := by decide +kernel
theorem d_Clerk_gainOfHers_4 : decode prog_3_method_9_code 4 = .ok (.iload_n 1, 1) := by decide +kernel
theorem d_Clerk_gainOfHers_5 : decode prog_3_method_9_code 5 = .ok (.iconst 1, 1) := by decide +kernel
theorem d_Clerk_gainOfHers_6 : decode prog_3_method_9_code 6 = .ok (.aload_n 0, 1) := by decide +kernel
theorem d_Clerk_gainOfHers_7 : decode prog_3_method_9_code 7 = .ok (.getfield 15, 3) := by decide +kernel
theorem d_Clerk_gainOfHers_10 : decode prog_3_method_9_code 10 = .ok (.getfield 25, 3) := by decide +kernel
theorem d_Clerk_gainOfHers_13 : decode prog_3_method_9_code 13 = .ok (.invokevirtual 45, 3) := by decide +kernel
theorem d_Clerk_gainOfHers_16 : decode prog_3_method_9_code 16 = .ok (.istore_n 3, 1) := by decide +kernel
theorem d_Clerk_gainOfHers_17 : decode prog_3_method_9_code 17 = .ok (.aload_n 0, 1) := by decide +kernel
theorem d_Clerk_gainOfHers_18 : decode prog_3_method_9_code 18 = .ok (.iload_n 1, 1) := by decide +kernel
theorem d_Clerk_gainOfHers_19 : decode prog_3_method_9_code 19 = .ok (.iconst 0, 1) := by decide +kernel
theorem d_Clerk_gainOfHers_20 : decode prog_3_method_9_code 20 = .ok (.iload_n 2, 1) := by decide +kernel
theorem d_Clerk_gainOfHers_21 : decode prog_3_method_9_code 21 = .ok (.invokevirtual 55, 3) := by decide +kernel
theorem d_Clerk_gainOfHers_24 : decode prog_3_method_9_code 24 = .ok (.ifCond .eq 27, 3) := by decide +kernel
theorem d_Clerk_gainOfHers_27 : decode prog_3_method_9_code 27 = .ok (.aload_n 0, 1) := by decide +kernel
theorem d_Clerk_gainOfHers_28 : decode prog_3_method_9_code 28 = .ok (.getfield 15, 3) := by decide +kernel
theorem d_Clerk_gainOfHers_31 : decode prog_3_method_9_code 31 = .ok (.iload_n 1, 1) := by decide +kernel
theorem d_Clerk_gainOfHers_32 : decode prog_3_method_9_code 32 = .ok (.iconst 0, 1) := by decide +kernel
theorem d_Clerk_gainOfHers_33 : decode prog_3_method_9_code 33 = .ok (.aload_n 0, 1) := by decide +kernel
theorem d_Clerk_gainOfHers_34 : decode prog_3_method_9_code 34 = .ok (.getfield 15, 3) := by decide +kernel
theorem d_Clerk_gainOfHers_37 : decode prog_3_method_9_code 37 = .ok (.getfield 25, 3) := by decide +kernel
theorem d_Clerk_gainOfHers_40 : decode prog_3_method_9_code 40 = .ok (.invokevirtual 45, 3) := by decide +kernel
theorem d_Clerk_gainOfHers_43 : decode prog_3_method_9_code 43 = .ok (.iload_n 3, 1) := by decide +kernel
theorem d_Clerk_gainOfHers_44 : decode prog_3_method_9_code 44 = .ok (.if_icmp .gt 7, 3) := by decide +kernel
theorem d_Clerk_gainOfHers_47 : decode prog_3_method_9_code 47 = .ok (.iconst 1, 1) := by decide +kernel
theorem d_Clerk_gainOfHers_48 : decode prog_3_method_9_code 48 = .ok (.goto 4, 3) := by decide +kernel
theorem d_Clerk_gainOfHers_51 : decode prog_3_method_9_code 51 = .ok (.iconst 0, 1) := by decide +kernel
theorem d_Clerk_gainOfHers_52 : decode prog_3_method_9_code 52 = .ok (.istore 4, 2) := by decide +kernel
theorem d_Clerk_gainOfHers_54 : decode prog_3_method_9_code 54 = .ok (.aload_n 0, 1) := by decide +kernel
theorem d_Clerk_gainOfHers_55 : decode prog_3_method_9_code 55 = .ok (.iload_n 1, 1) := by decide +kernel
theorem d_Clerk_gainOfHers_56 : decode prog_3_method_9_code 56 = .ok (.iconst 1, 1) := by decide +kernel
theorem d_Clerk_gainOfHers_57 : decode prog_3_method_9_code 57 = .ok (.iload_n 2, 1) := by decide +kernel
theorem d_Clerk_gainOfHers_58 : decode prog_3_method_9_code 58 = .ok (.invokevirtual 55, 3) := by decide +kernel
theorem d_Clerk_gainOfHers_61 : decode prog_3_method_9_code 61 = .ok (.ifCond .eq 12, 3) := by decide +kernel
theorem d_Clerk_gainOfHers_64 : decode prog_3_method_9_code 64 = .ok (.iload 4, 2) := by decide +kernel
theorem d_Clerk_gainOfHers_66 : decode prog_3_method_9_code 66 = .ok (.ifCond .ne 7, 3) := by decide +kernel
theorem d_Clerk_gainOfHers_69 : decode prog_3_method_9_code 69 = .ok (.iload_n 3, 1) := by decide +kernel
theorem d_Clerk_gainOfHers_70 : decode prog_3_method_9_code 70 = .ok (.goto 4, 3) := by decide +kernel
theorem d_Clerk_gainOfHers_73 : decode prog_3_method_9_code 73 = .ok (.iconst 0, 1) := by decide +kernel
theorem d_Clerk_gainOfHers_74 : decode prog_3_method_9_code 74 = .ok (.ireturn, 1) := by decide +kernel
theorem d_Clerk_isOpen_0 : decode prog_3_method_10_code 0 = .ok (.iload_n 3, 1) := by decide +kernel
theorem d_Clerk_isOpen_1 : decode prog_3_method_10_code 1 = .ok (.iload_n 2, 1) := by decide +kernel
theorem d_Clerk_isOpen_2 : decode prog_3_method_10_code 2 = .ok (.ishr, 1) := by decide +kernel
theorem d_Clerk_isOpen_3 : decode prog_3_method_10_code 3 = .ok (.iconst 1, 1) := by decide +kernel
theorem d_Clerk_isOpen_4 : decode prog_3_method_10_code 4 = .ok (.iand, 1) := by decide +kernel
theorem d_Clerk_isOpen_5 : decode prog_3_method_10_code 5 = .ok (.ifCond .eq 22, 3) := by decide +kernel
theorem d_Clerk_isOpen_8 : decode prog_3_method_10_code 8 = .ok (.aload_n 0, 1) := by decide +kernel
theorem d_Clerk_isOpen_9 : decode prog_3_method_10_code 9 = .ok (.getfield 15, 3) := by decide +kernel
theorem d_Clerk_isOpen_12 : decode prog_3_method_10_code 12 = .ok (.iload_n 1, 1) := by decide +kernel
theorem d_Clerk_isOpen_13 : decode prog_3_method_10_code 13 = .ok (.iload_n 2, 1) := by decide +kernel
theorem d_Clerk_isOpen_14 : decode prog_3_method_10_code 14 = .ok (.aload_n 0, 1) := by decide +kernel
theorem d_Clerk_isOpen_15 : decode prog_3_method_10_code 15 = .ok (.getfield 15, 3) := by decide +kernel
theorem d_Clerk_isOpen_18 : decode prog_3_method_10_code 18 = .ok (.getfield 25, 3) := by decide +kernel
theorem d_Clerk_isOpen_21 : decode prog_3_method_10_code 21 = .ok (.invokevirtual 58, 3) := by decide +kernel
theorem d_Clerk_isOpen_24 : decode prog_3_method_10_code 24 = .ok (.ifCond .eq 7, 3) := by decide +kernel
theorem d_Clerk_isOpen_27 : decode prog_3_method_10_code 27 = .ok (.iconst 1, 1) := by decide +kernel
theorem d_Clerk_isOpen_28 : decode prog_3_method_10_code 28 = .ok (.goto 4, 3) := by decide +kernel
theorem d_Clerk_isOpen_31 : decode prog_3_method_10_code 31 = .ok (.iconst 0, 1) := by decide +kernel
theorem d_Clerk_isOpen_32 : decode prog_3_method_10_code 32 = .ok (.ireturn, 1) := by decide +kernel
theorem d_Clerk_kindsThatFit_0 : decode prog_3_method_11_code 0 = .ok (.iconst 0, 1) := by decide +kernel
theorem d_Clerk_kindsThatFit_1 : decode prog_3_method_11_code 1 = .ok (.istore_n 2, 1) := by decide +kernel
theorem d_Clerk_kindsThatFit_2 : decode prog_3_method_11_code 2 = .ok (.iconst 0, 1) := by decide +kernel
theorem d_Clerk_kindsThatFit_3 : decode prog_3_method_11_code 3 = .ok (.istore_n 3, 1) := by decide +kernel
theorem d_Clerk_kindsThatFit_4 : decode prog_3_method_11_code 4 = .ok (.iload_n 3, 1) := by decide +kernel
theorem d_Clerk_kindsThatFit_5 : decode prog_3_method_11_code 5 = .ok (.bipush 6, 2) := by decide +kernel
theorem d_Clerk_kindsThatFit_7 : decode prog_3_method_11_code 7 = .ok (.if_icmp .ge 24, 3) := by decide +kernel
theorem d_Clerk_kindsThatFit_10 : decode prog_3_method_11_code 10 = .ok (.aload_n 0, 1) := by decide +kernel
theorem d_Clerk_kindsThatFit_11 : decode prog_3_method_11_code 11 = .ok (.iload_n 3, 1) := by decide +kernel
theorem d_Clerk_kindsThatFit_12 : decode prog_3_method_11_code 12 = .ok (.iload_n 1, 1) := by decide +kernel
theorem d_Clerk_kindsThatFit_13 : decode prog_3_method_11_code 13 = .ok (.invokevirtual 61, 3) := by decide +kernel
theorem d_Clerk_kindsThatFit_16 : decode prog_3_method_11_code 16 = .ok (.ifCond .eq 9, 3) := by decide +kernel
theorem d_Clerk_kindsThatFit_19 : decode prog_3_method_11_code 19 = .ok (.iload_n 2, 1) := by decide +kernel
theorem d_Clerk_kindsThatFit_20 : decode prog_3_method_11_code 20 = .ok (.iconst 1, 1) := by decide +kernel
theorem d_Clerk_kindsThatFit_21 : decode prog_3_method_11_code 21 = .ok (.iload_n 3, 1) := by decide +kernel
theorem d_Clerk_kindsThatFit_22 : decode prog_3_method_11_code 22 = .ok (.ishl, 1) := by decide +kernel
theorem d_Clerk_kindsThatFit_23 : decode prog_3_method_11_code 23 = .ok (.ior, 1) := by decide +kernel
theorem d_Clerk_kindsThatFit_24 : decode prog_3_method_11_code 24 = .ok (.istore_n 2, 1) := by decide +kernel
theorem d_Clerk_kindsThatFit_25 : decode prog_3_method_11_code 25 = .ok (.iinc 3 1, 3) := by decide +kernel
theorem d_Clerk_kindsThatFit_28 : decode prog_3_method_11_code 28 = .ok (.goto (-24), 3) := by decide +kernel
theorem d_Clerk_kindsThatFit_31 : decode prog_3_method_11_code 31 = .ok (.iload_n 2, 1) := by decide +kernel
theorem d_Clerk_kindsThatFit_32 : decode prog_3_method_11_code 32 = .ok (.ireturn, 1) := by decide +kernel
theorem d_Clerk_fitsNotes_0 : decode prog_3_method_12_code 0 = .ok (.iconst 0, 1) := by decide +kernel
theorem d_Clerk_fitsNotes_1 : decode prog_3_method_12_code 1 = .ok (.istore_n 3, 1) := by decide +kernel
theorem d_Clerk_fitsNotes_2 : decode prog_3_method_12_code 2 = .ok (.iload_n 3, 1) := by decide +kernel
theorem d_Clerk_fitsNotes_3 : decode prog_3_method_12_code 3 = .ok (.aload_n 0, 1) := by decide +kernel
theorem d_Clerk_fitsNotes_4 : decode prog_3_method_12_code 4 = .ok (.getfield 15, 3) := by decide +kernel
theorem d_Clerk_fitsNotes_7 : decode prog_3_method_12_code 7 = .ok (.getfield 65, 3) := by decide +kernel
theorem d_Clerk_fitsNotes_10 : decode prog_3_method_12_code 10 = .ok (.if_icmp .ge 107, 3) := by decide +kernel
theorem d_Clerk_fitsNotes_13 : decode prog_3_method_12_code 13 = .ok (.iload_n 3, 1) := by decide +kernel
theorem d_Clerk_fitsNotes_14 : decode prog_3_method_12_code 14 = .ok (.iconst 5, 1) := by decide +kernel
theorem d_Clerk_fitsNotes_15 : decode prog_3_method_12_code 15 = .ok (.imul, 1) := by decide +kernel
theorem d_Clerk_fitsNotes_16 : decode prog_3_method_12_code 16 = .ok (.istore 4, 2) := by decide +kernel
theorem d_Clerk_fitsNotes_18 : decode prog_3_method_12_code 18 = .ok (.aload_n 0, 1) := by decide +kernel
theorem d_Clerk_fitsNotes_19 : decode prog_3_method_12_code 19 = .ok (.getfield 15, 3) := by decide +kernel
theorem d_Clerk_fitsNotes_22 : decode prog_3_method_12_code 22 = .ok (.getfield 68, 3) := by decide +kernel
theorem d_Clerk_fitsNotes_25 : decode prog_3_method_12_code 25 = .ok (.iload 4, 2) := by decide +kernel
theorem d_Clerk_fitsNotes_27 : decode prog_3_method_12_code 27 = .ok (.iaload, 1) := by decide +kernel
theorem d_Clerk_fitsNotes_28 : decode prog_3_method_12_code 28 = .ok (.iload_n 2, 1) := by decide +kernel
theorem d_Clerk_fitsNotes_29 : decode prog_3_method_12_code 29 = .ok (.if_icmp .ne 82, 3) := by decide +kernel
theorem d_Clerk_fitsNotes_32 : decode prog_3_method_12_code 32 = .ok (.aload_n 0, 1) := by decide +kernel
theorem d_Clerk_fitsNotes_33 : decode prog_3_method_12_code 33 = .ok (.getfield 15, 3) := by decide +kernel
theorem d_Clerk_fitsNotes_36 : decode prog_3_method_12_code 36 = .ok (.getfield 68, 3) := by decide +kernel
theorem d_Clerk_fitsNotes_39 : decode prog_3_method_12_code 39 = .ok (.iload 4, 2) := by decide +kernel
theorem d_Clerk_fitsNotes_41 : decode prog_3_method_12_code 41 = .ok (.iconst 3, 1) := by decide +kernel
theorem d_Clerk_fitsNotes_42 : decode prog_3_method_12_code 42 = .ok (.iadd, 1) := by decide +kernel
theorem d_Clerk_fitsNotes_43 : decode prog_3_method_12_code 43 = .ok (.iaload, 1) := by decide +kernel
theorem d_Clerk_fitsNotes_44 : decode prog_3_method_12_code 44 = .ok (.iconst 1, 1) := by decide +kernel
theorem d_Clerk_fitsNotes_45 : decode prog_3_method_12_code 45 = .ok (.if_icmp .ne 7, 3) := by decide +kernel
theorem d_Clerk_fitsNotes_48 : decode prog_3_method_12_code 48 = .ok (.iconst 1, 1) := by decide +kernel
theorem d_Clerk_fitsNotes_49 : decode prog_3_method_12_code 49 = .ok (.goto 4, 3) := by decide +kernel
theorem d_Clerk_fitsNotes_52 : decode prog_3_method_12_code 52 = .ok (.iconst 0, 1) := by decide +kernel
theorem d_Clerk_fitsNotes_53 : decode prog_3_method_12_code 53 = .ok (.istore 5, 2) := by decide +kernel
theorem d_Clerk_fitsNotes_55 : decode prog_3_method_12_code 55 = .ok (.aload_n 0, 1) := by decide +kernel
theorem d_Clerk_fitsNotes_56 : decode prog_3_method_12_code 56 = .ok (.getfield 15, 3) := by decide +kernel
theorem d_Clerk_fitsNotes_59 : decode prog_3_method_12_code 59 = .ok (.iload_n 1, 1) := by decide +kernel
theorem d_Clerk_fitsNotes_60 : decode prog_3_method_12_code 60 = .ok (.iload_n 2, 1) := by decide +kernel
theorem d_Clerk_fitsNotes_61 : decode prog_3_method_12_code 61 = .ok (.aload_n 0, 1) := by decide +kernel
theorem d_Clerk_fitsNotes_62 : decode prog_3_method_12_code 62 = .ok (.getfield 15, 3) := by decide +kernel
theorem d_Clerk_fitsNotes_65 : decode prog_3_method_12_code 65 = .ok (.getfield 68, 3) := by decide +kernel
theorem d_Clerk_fitsNotes_68 : decode prog_3_method_12_code 68 = .ok (.iload 4, 2) := by decide +kernel
theorem d_Clerk_fitsNotes_70 : decode prog_3_method_12_code 70 = .ok (.iconst 1, 1) := by decide +kernel
theorem d_Clerk_fitsNotes_71 : decode prog_3_method_12_code 71 = .ok (.iadd, 1) := by decide +kernel
theorem d_Clerk_fitsNotes_72 : decode prog_3_method_12_code 72 = .ok (.iaload, 1) := by decide +kernel
theorem d_Clerk_fitsNotes_73 : decode prog_3_method_12_code 73 = .ok (.aload_n 0, 1) := by decide +kernel
theorem d_Clerk_fitsNotes_74 : decode prog_3_method_12_code 74 = .ok (.getfield 15, 3) := by decide +kernel
theorem d_Clerk_fitsNotes_77 : decode prog_3_method_12_code 77 = .ok (.getfield 68, 3) := by decide +kernel
theorem d_Clerk_fitsNotes_80 : decode prog_3_method_12_code 80 = .ok (.iload 4, 2) := by decide +kernel
theorem d_Clerk_fitsNotes_82 : decode prog_3_method_12_code 82 = .ok (.iconst 2, 1) := by decide +kernel
theorem d_Clerk_fitsNotes_83 : decode prog_3_method_12_code 83 = .ok (.iadd, 1) := by decide +kernel
theorem d_Clerk_fitsNotes_84 : decode prog_3_method_12_code 84 = .ok (.iaload, 1) := by decide +kernel
theorem d_Clerk_fitsNotes_85 : decode prog_3_method_12_code 85 = .ok (.iload 5, 2) := by decide +kernel
theorem d_Clerk_fitsNotes_87 : decode prog_3_method_12_code 87 = .ok (.invokevirtual 71, 3) := by decide +kernel
theorem d_Clerk_fitsNotes_90 : decode prog_3_method_12_code 90 = .ok (.istore 6, 2) := by decide +kernel
theorem d_Clerk_fitsNotes_92 : decode prog_3_method_12_code 92 = .ok (.iload 6, 2) := by decide +kernel
theorem d_Clerk_fitsNotes_94 : decode prog_3_method_12_code 94 = .ok (.aload_n 0, 1) := by decide +kernel
theorem d_Clerk_fitsNotes_95 : decode prog_3_method_12_code 95 = .ok (.getfield 15, 3) := by decide +kernel
theorem d_Clerk_fitsNotes_98 : decode prog_3_method_12_code 98 = .ok (.getfield 68, 3) := by decide +kernel
theorem d_Clerk_fitsNotes_101 : decode prog_3_method_12_code 101 = .ok (.iload 4, 2) := by decide +kernel
theorem d_Clerk_fitsNotes_103 : decode prog_3_method_12_code 103 = .ok (.iconst 4, 1) := by decide +kernel
theorem d_Clerk_fitsNotes_104 : decode prog_3_method_12_code 104 = .ok (.iadd, 1) := by decide +kernel
theorem d_Clerk_fitsNotes_105 : decode prog_3_method_12_code 105 = .ok (.iaload, 1) := by decide +kernel
theorem d_Clerk_fitsNotes_106 : decode prog_3_method_12_code 106 = .ok (.if_icmp .eq 5, 3) := by decide +kernel
theorem d_Clerk_fitsNotes_109 : decode prog_3_method_12_code 109 = .ok (.iconst 0, 1) := by decide +kernel
theorem d_Clerk_fitsNotes_110 : decode prog_3_method_12_code 110 = .ok (.ireturn, 1) := by decide +kernel
theorem d_Clerk_fitsNotes_111 : decode prog_3_method_12_code 111 = .ok (.iinc 3 1, 3) := by decide +kernel
theorem d_Clerk_fitsNotes_114 : decode prog_3_method_12_code 114 = .ok (.goto (-112), 3) := by decide +kernel
theorem d_Clerk_fitsNotes_117 : decode prog_3_method_12_code 117 = .ok (.iconst 1, 1) := by decide +kernel
theorem d_Clerk_fitsNotes_118 : decode prog_3_method_12_code 118 = .ok (.ireturn, 1) := by decide +kernel
theorem d_Clerk_hourToLook_0 : decode prog_3_method_13_code 0 = .ok (.iload_n 3, 1) := by decide +kernel
theorem d_Clerk_hourToLook_1 : decode prog_3_method_13_code 1 = .ok (.ifCond .ne 5, 3) := by decide +kernel
theorem d_Clerk_hourToLook_4 : decode prog_3_method_13_code 4 = .ok (.iconst (-1), 1) := by decide +kernel
theorem d_Clerk_hourToLook_5 : decode prog_3_method_13_code 5 = .ok (.ireturn, 1) := by decide +kernel
theorem d_Clerk_hourToLook_6 : decode prog_3_method_13_code 6 = .ok (.iconst 0, 1) := by decide +kernel
theorem d_Clerk_hourToLook_7 : decode prog_3_method_13_code 7 = .ok (.istore 4, 2) := by decide +kernel
theorem d_Clerk_hourToLook_9 : decode prog_3_method_13_code 9 = .ok (.bipush 7, 2) := by decide +kernel
theorem d_Clerk_hourToLook_11 : decode prog_3_method_13_code 11 = .ok (.istore 5, 2) := by decide +kernel
theorem d_Clerk_hourToLook_13 : decode prog_3_method_13_code 13 = .ok (.iconst 0, 1) := by decide +kernel
theorem d_Clerk_hourToLook_14 : decode prog_3_method_13_code 14 = .ok (.istore 6, 2) := by decide +kernel
theorem d_Clerk_hourToLook_16 : decode prog_3_method_13_code 16 = .ok (.iload 6, 2) := by decide +kernel
theorem d_Clerk_hourToLook_18 : decode prog_3_method_13_code 18 = .ok (.bipush 24, 2) := by decide +kernel
theorem d_Clerk_hourToLook_20 : decode prog_3_method_13_code 20 = .ok (.if_icmp .ge 68, 3) := by decide +kernel
theorem d_Clerk_hourToLook_23 : decode prog_3_method_13_code 23 = .ok (.iconst 0, 1) := by decide +kernel
theorem d_Clerk_hourToLook_24 : decode prog_3_method_13_code 24 = .ok (.istore 7, 2) := by decide +kernel
theorem d_Clerk_hourToLook_26 : decode prog_3_method_13_code 26 = .ok (.iload 7, 2) := by decide +kernel
theorem d_Clerk_hourToLook_28 : decode prog_3_method_13_code 28 = .ok (.bipush 6, 2) := by decide +kernel
theorem d_Clerk_hourToLook_30 : decode prog_3_method_13_code 30 = .ok (.if_icmp .ge 30, 3) := by decide +kernel
theorem d_Clerk_hourToLook_33 : decode prog_3_method_13_code 33 = .ok (.aload_n 0, 1) := by decide +kernel
theorem d_Clerk_hourToLook_34 : decode prog_3_method_13_code 34 = .ok (.getfield 9, 3) := by decide +kernel
theorem d_Clerk_hourToLook_37 : decode prog_3_method_13_code 37 = .ok (.iload 7, 2) := by decide +kernel
theorem d_Clerk_hourToLook_39 : decode prog_3_method_13_code 39 = .ok (.aload_n 0, 1) := by decide +kernel
theorem d_Clerk_hourToLook_40 : decode prog_3_method_13_code 40 = .ok (.getfield 15, 3) := by decide +kernel
theorem d_Clerk_hourToLook_43 : decode prog_3_method_13_code 43 = .ok (.iload 7, 2) := by decide +kernel
theorem d_Clerk_hourToLook_45 : decode prog_3_method_13_code 45 = .ok (.iload_n 1, 1) := by decide +kernel
theorem d_Clerk_hourToLook_46 : decode prog_3_method_13_code 46 = .ok (.iload_n 2, 1) := by decide +kernel
theorem d_Clerk_hourToLook_47 : decode prog_3_method_13_code 47 = .ok (.iload 6, 2) := by decide +kernel
theorem d_Clerk_hourToLook_49 : decode prog_3_method_13_code 49 = .ok (.iconst 0, 1) := by decide +kernel
theorem d_Clerk_hourToLook_50 : decode prog_3_method_13_code 50 = .ok (.invokevirtual 71, 3) := by decide +kernel
theorem d_Clerk_hourToLook_53 : decode prog_3_method_13_code 53 = .ok (.iastore, 1) := by decide +kernel
theorem d_Clerk_hourToLook_54 : decode prog_3_method_13_code 54 = .ok (.iinc 7 1, 3) := by decide +kernel
theorem d_Clerk_hourToLook_57 : decode prog_3_method_13_code 57 = .ok (.goto (-31), 3) := by decide +kernel
theorem d_Clerk_hourToLook_60 : decode prog_3_method_13_code 60 = .ok (.aload_n 0, 1) := by decide +kernel
theorem d_Clerk_hourToLook_61 : decode prog_3_method_13_code 61 = .ok (.iload_n 3, 1) := by decide +kernel
theorem d_Clerk_hourToLook_62 : decode prog_3_method_13_code 62 = .ok (.invokevirtual 75, 3) := by decide +kernel
theorem d_Clerk_hourToLook_65 : decode prog_3_method_13_code 65 = .ok (.istore 7, 2) := by decide +kernel
theorem d_Clerk_hourToLook_67 : decode prog_3_method_13_code 67 = .ok (.iload 7, 2) := by decide +kernel
theorem d_Clerk_hourToLook_69 : decode prog_3_method_13_code 69 = .ok (.iload 5, 2) := by decide +kernel
theorem d_Clerk_hourToLook_71 : decode prog_3_method_13_code 71 = .ok (.if_icmp .ge 11, 3) := by decide +kernel
theorem d_Clerk_hourToLook_74 : decode prog_3_method_13_code 74 = .ok (.iload 7, 2) := by decide +kernel
theorem d_Clerk_hourToLook_76 : decode prog_3_method_13_code 76 = .ok (.istore 5, 2) := by decide +kernel
theorem d_Clerk_hourToLook_78 : decode prog_3_method_13_code 78 = .ok (.iload 6, 2) := by decide +kernel
theorem d_Clerk_hourToLook_80 : decode prog_3_method_13_code 80 = .ok (.istore 4, 2) := by decide +kernel
theorem d_Clerk_hourToLook_82 : decode prog_3_method_13_code 82 = .ok (.iinc 6 1, 3) := by decide +kernel
theorem d_Clerk_hourToLook_85 : decode prog_3_method_13_code 85 = .ok (.goto (-69), 3) := by decide +kernel
theorem d_Clerk_hourToLook_88 : decode prog_3_method_13_code 88 = .ok (.iload 4, 2) := by decide +kernel
theorem d_Clerk_hourToLook_90 : decode prog_3_method_13_code 90 = .ok (.ireturn, 1) := by decide +kernel
theorem d_Clerk_mostAlike_0 : decode prog_3_method_14_code 0 = .ok (.iconst 0, 1) := by decide +kernel
theorem d_Clerk_mostAlike_1 : decode prog_3_method_14_code 1 = .ok (.istore_n 2, 1) := by decide +kernel
theorem d_Clerk_mostAlike_2 : decode prog_3_method_14_code 2 = .ok (.iconst 0, 1) := by decide +kernel
theorem d_Clerk_mostAlike_3 : decode prog_3_method_14_code 3 = .ok (.istore_n 3, 1) := by decide +kernel
theorem d_Clerk_mostAlike_4 : decode prog_3_method_14_code 4 = .ok (.iload_n 3, 1) := by decide +kernel
theorem d_Clerk_mostAlike_5 : decode prog_3_method_14_code 5 = .ok (.bipush 6, 2) := by decide +kernel
theorem d_Clerk_mostAlike_7 : decode prog_3_method_14_code 7 = .ok (.if_icmp .ge 64, 3) := by decide +kernel
theorem d_Clerk_mostAlike_10 : decode prog_3_method_14_code 10 = .ok (.iconst 0, 1) := by decide +kernel
theorem d_Clerk_mostAlike_11 : decode prog_3_method_14_code 11 = .ok (.istore 4, 2) := by decide +kernel
theorem d_Clerk_mostAlike_13 : decode prog_3_method_14_code 13 = .ok (.iconst 0, 1) := by decide +kernel
theorem d_Clerk_mostAlike_14 : decode prog_3_method_14_code 14 = .ok (.istore 5, 2) := by decide +kernel
theorem d_Clerk_mostAlike_16 : decode prog_3_method_14_code 16 = .ok (.iload 5, 2) := by decide +kernel
theorem d_Clerk_mostAlike_18 : decode prog_3_method_14_code 18 = .ok (.bipush 6, 2) := by decide +kernel
theorem d_Clerk_mostAlike_20 : decode prog_3_method_14_code 20 = .ok (.if_icmp .ge 38, 3) := by decide +kernel
theorem d_Clerk_mostAlike_23 : decode prog_3_method_14_code 23 = .ok (.iload_n 1, 1) := by decide +kernel
theorem d_Clerk_mostAlike_24 : decode prog_3_method_14_code 24 = .ok (.iload 5, 2) := by decide +kernel
theorem d_Clerk_mostAlike_26 : decode prog_3_method_14_code 26 = .ok (.ishr, 1) := by decide +kernel
theorem d_Clerk_mostAlike_27 : decode prog_3_method_14_code 27 = .ok (.iconst 1, 1) := by decide +kernel
theorem d_Clerk_mostAlike_28 : decode prog_3_method_14_code 28 = .ok (.iand, 1) := by decide +kernel
theorem d_Clerk_mostAlike_29 : decode prog_3_method_14_code 29 = .ok (.iconst 1, 1) := by decide +kernel
theorem d_Clerk_mostAlike_30 : decode prog_3_method_14_code 30 = .ok (.if_icmp .ne 22, 3) := by decide +kernel
theorem d_Clerk_mostAlike_33 : decode prog_3_method_14_code 33 = .ok (.aload_n 0, 1) := by decide +kernel
theorem d_Clerk_mostAlike_34 : decode prog_3_method_14_code 34 = .ok (.getfield 9, 3) := by decide +kernel
theorem d_Clerk_mostAlike_37 : decode prog_3_method_14_code 37 = .ok (.iload 5, 2) := by decide +kernel
theorem d_Clerk_mostAlike_39 : decode prog_3_method_14_code 39 = .ok (.iaload, 1) := by decide +kernel
theorem d_Clerk_mostAlike_40 : decode prog_3_method_14_code 40 = .ok (.aload_n 0, 1) := by decide +kernel
theorem d_Clerk_mostAlike_41 : decode prog_3_method_14_code 41 = .ok (.getfield 9, 3) := by decide +kernel
theorem d_Clerk_mostAlike_44 : decode prog_3_method_14_code 44 = .ok (.iload_n 3, 1) := by decide +kernel
theorem d_Clerk_mostAlike_45 : decode prog_3_method_14_code 45 = .ok (.iaload, 1) := by decide +kernel
theorem d_Clerk_mostAlike_46 : decode prog_3_method_14_code 46 = .ok (.if_icmp .ne 6, 3) := by decide +kernel
theorem d_Clerk_mostAlike_49 : decode prog_3_method_14_code 49 = .ok (.iinc 4 1, 3) := by decide +kernel
theorem d_Clerk_mostAlike_52 : decode prog_3_method_14_code 52 = .ok (.iinc 5 1, 3) := by decide +kernel
theorem d_Clerk_mostAlike_55 : decode prog_3_method_14_code 55 = .ok (.goto (-39), 3) := by decide +kernel
theorem d_Clerk_mostAlike_58 : decode prog_3_method_14_code 58 = .ok (.iload_n 2, 1) := by decide +kernel
theorem d_Clerk_mostAlike_59 : decode prog_3_method_14_code 59 = .ok (.iload 4, 2) := by decide +kernel
theorem d_Clerk_mostAlike_61 : decode prog_3_method_14_code 61 = .ok (.invokestatic 35, 3) := by decide +kernel
theorem d_Clerk_mostAlike_64 : decode prog_3_method_14_code 64 = .ok (.istore_n 2, 1) := by decide +kernel
theorem d_Clerk_mostAlike_65 : decode prog_3_method_14_code 65 = .ok (.iinc 3 1, 3) := by decide +kernel
theorem d_Clerk_mostAlike_68 : decode prog_3_method_14_code 68 = .ok (.goto (-64), 3) := by decide +kernel
theorem d_Clerk_mostAlike_71 : decode prog_3_method_14_code 71 = .ok (.iload_n 2, 1) := by decide +kernel
theorem d_Clerk_mostAlike_72 : decode prog_3_method_14_code 72 = .ok (.ireturn, 1) := by decide +kernel
theorem d_Clerk_moreInWar_0 : decode prog_3_method_15_code 0 = .ok (.iload_n 1, 1) := by decide +kernel
theorem d_Clerk_moreInWar_1 : decode prog_3_method_15_code 1 = .ok (.iload_n 2, 1) := by decide +kernel
theorem d_Clerk_moreInWar_2 : decode prog_3_method_15_code 2 = .ok (.invokestatic 78, 3) := by decide +kernel
theorem d_Clerk_moreInWar_5 : decode prog_3_method_15_code 5 = .ok (.istore_n 3, 1) := by decide +kernel
theorem d_Clerk_moreInWar_6 : decode prog_3_method_15_code 6 = .ok (.iconst 0, 1) := by decide +kernel
theorem d_Clerk_moreInWar_7 : decode prog_3_method_15_code 7 = .ok (.istore 4, 2) := by decide +kernel
theorem d_Clerk_moreInWar_9 : decode prog_3_method_15_code 9 = .ok (.iconst 0, 1) := by decide +kernel
theorem d_Clerk_moreInWar_10 : decode prog_3_method_15_code 10 = .ok (.istore 5, 2) := by decide +kernel
theorem d_Clerk_moreInWar_12 : decode prog_3_method_15_code 12 = .ok (.iload 5, 2) := by decide +kernel
theorem d_Clerk_moreInWar_14 : decode prog_3_method_15_code 14 = .ok (.aload_n 0, 1) := by decide +kernel
theorem d_Clerk_moreInWar_15 : decode prog_3_method_15_code 15 = .ok (.getfield 15, 3) := by decide +kernel
theorem d_Clerk_moreInWar_18 : decode prog_3_method_15_code 18 = .ok (.getfield 81, 3) := by decide +kernel
theorem d_Clerk_moreInWar_21 : decode prog_3_method_15_code 21 = .ok (.if_icmp .ge 55, 3) := by decide +kernel
theorem d_Clerk_moreInWar_24 : decode prog_3_method_15_code 24 = .ok (.aload_n 0, 1) := by decide +kernel
theorem d_Clerk_moreInWar_25 : decode prog_3_method_15_code 25 = .ok (.getfield 15, 3) := by decide +kernel
theorem d_Clerk_moreInWar_28 : decode prog_3_method_15_code 28 = .ok (.getfield 84, 3) := by decide +kernel
theorem d_Clerk_moreInWar_31 : decode prog_3_method_15_code 31 = .ok (.iload 5, 2) := by decide +kernel
theorem d_Clerk_moreInWar_33 : decode prog_3_method_15_code 33 = .ok (.iaload, 1) := by decide +kernel
theorem d_Clerk_moreInWar_34 : decode prog_3_method_15_code 34 = .ok (.istore 6, 2) := by decide +kernel
theorem d_Clerk_moreInWar_36 : decode prog_3_method_15_code 36 = .ok (.iload 4, 2) := by decide +kernel
theorem d_Clerk_moreInWar_38 : decode prog_3_method_15_code 38 = .ok (.aload_n 0, 1) := by decide +kernel
theorem d_Clerk_moreInWar_39 : decode prog_3_method_15_code 39 = .ok (.getfield 15, 3) := by decide +kernel
theorem d_Clerk_moreInWar_42 : decode prog_3_method_15_code 42 = .ok (.iload 6, 2) := by decide +kernel
theorem d_Clerk_moreInWar_44 : decode prog_3_method_15_code 44 = .ok (.iload 5, 2) := by decide +kernel
theorem d_Clerk_moreInWar_46 : decode prog_3_method_15_code 46 = .ok (.iload_n 1, 1) := by decide +kernel
theorem d_Clerk_moreInWar_47 : decode prog_3_method_15_code 47 = .ok (.iload_n 3, 1) := by decide +kernel
theorem d_Clerk_moreInWar_48 : decode prog_3_method_15_code 48 = .ok (.iconst 1, 1) := by decide +kernel
theorem d_Clerk_moreInWar_49 : decode prog_3_method_15_code 49 = .ok (.invokevirtual 71, 3) := by decide +kernel
theorem d_Clerk_moreInWar_52 : decode prog_3_method_15_code 52 = .ok (.aload_n 0, 1) := by decide +kernel
theorem d_Clerk_moreInWar_53 : decode prog_3_method_15_code 53 = .ok (.getfield 15, 3) := by decide +kernel
theorem d_Clerk_moreInWar_56 : decode prog_3_method_15_code 56 = .ok (.iload 6, 2) := by decide +kernel
theorem d_Clerk_moreInWar_58 : decode prog_3_method_15_code 58 = .ok (.iload 5, 2) := by decide +kernel
theorem d_Clerk_moreInWar_60 : decode prog_3_method_15_code 60 = .ok (.iload_n 1, 1) := by decide +kernel
theorem d_Clerk_moreInWar_61 : decode prog_3_method_15_code 61 = .ok (.iload_n 3, 1) := by decide +kernel
theorem d_Clerk_moreInWar_62 : decode prog_3_method_15_code 62 = .ok (.iconst 0, 1) := by decide +kernel
theorem d_Clerk_moreInWar_63 : decode prog_3_method_15_code 63 = .ok (.invokevirtual 71, 3) := by decide +kernel
theorem d_Clerk_moreInWar_66 : decode prog_3_method_15_code 66 = .ok (.isub, 1) := by decide +kernel
theorem d_Clerk_moreInWar_67 : decode prog_3_method_15_code 67 = .ok (.iadd, 1) := by decide +kernel
theorem d_Clerk_moreInWar_68 : decode prog_3_method_15_code 68 = .ok (.istore 4, 2) := by decide +kernel
theorem d_Clerk_moreInWar_70 : decode prog_3_method_15_code 70 = .ok (.iinc 5 1, 3) := by decide +kernel
theorem d_Clerk_moreInWar_73 : decode prog_3_method_15_code 73 = .ok (.goto (-61), 3) := by decide +kernel
theorem d_Clerk_moreInWar_76 : decode prog_3_method_15_code 76 = .ok (.iload 4, 2) := by decide +kernel
theorem d_Clerk_moreInWar_78 : decode prog_3_method_15_code 78 = .ok (.ireturn, 1) := by decide +kernel
theorem d_Clerk_hundredthsShut_0 : decode prog_3_method_16_code 0 = .ok (.aload_n 0, 1) := by decide +kernel
theorem d_Clerk_hundredthsShut_1 : decode prog_3_method_16_code 1 = .ok (.iload_n 1, 1) := by decide +kernel
theorem d_Clerk_hundredthsShut_2 : decode prog_3_method_16_code 2 = .ok (.iconst 0, 1) := by decide +kernel
theorem d_Clerk_hundredthsShut_3 : decode prog_3_method_16_code 3 = .ok (.iload_n 2, 1) := by decide +kernel
theorem d_Clerk_hundredthsShut_4 : decode prog_3_method_16_code 4 = .ok (.invokevirtual 87, 3) := by decide +kernel
theorem d_Clerk_hundredthsShut_7 : decode prog_3_method_16_code 7 = .ok (.aload_n 0, 1) := by decide +kernel
theorem d_Clerk_hundredthsShut_8 : decode prog_3_method_16_code 8 = .ok (.iload_n 1, 1) := by decide +kernel
theorem d_Clerk_hundredthsShut_9 : decode prog_3_method_16_code 9 = .ok (.iconst 1, 1) := by decide +kernel
theorem d_Clerk_hundredthsShut_10 : decode prog_3_method_16_code 10 = .ok (.iload_n 2, 1) := by decide +kernel
theorem d_Clerk_hundredthsShut_11 : decode prog_3_method_16_code 11 = .ok (.invokevirtual 87, 3) := by decide +kernel
theorem d_Clerk_hundredthsShut_14 : decode prog_3_method_16_code 14 = .ok (.imul, 1) := by decide +kernel
theorem d_Clerk_hundredthsShut_15 : decode prog_3_method_16_code 15 = .ok (.ireturn, 1) := by decide +kernel
theorem d_Clerk_tenthsShut_0 : decode prog_3_method_17_code 0 = .ok (.aload_n 0, 1) := by decide +kernel
theorem d_Clerk_tenthsShut_1 : decode prog_3_method_17_code 1 = .ok (.getfield 15, 3) := by decide +kernel
theorem d_Clerk_tenthsShut_4 : decode prog_3_method_17_code 4 = .ok (.iload_n 1, 1) := by decide +kernel
theorem d_Clerk_tenthsShut_5 : decode prog_3_method_17_code 5 = .ok (.iload_n 2, 1) := by decide +kernel
theorem d_Clerk_tenthsShut_6 : decode prog_3_method_17_code 6 = .ok (.aload_n 0, 1) := by decide +kernel
theorem d_Clerk_tenthsShut_7 : decode prog_3_method_17_code 7 = .ok (.getfield 15, 3) := by decide +kernel
theorem d_Clerk_tenthsShut_10 : decode prog_3_method_17_code 10 = .ok (.getfield 25, 3) := by decide +kernel
theorem d_Clerk_tenthsShut_13 : decode prog_3_method_17_code 13 = .ok (.invokevirtual 58, 3) := by decide +kernel
theorem d_Clerk_tenthsShut_16 : decode prog_3_method_17_code 16 = .ok (.ifCond .eq 5, 3) := by decide +kernel
theorem d_Clerk_tenthsShut_19 : decode prog_3_method_17_code 19 = .ok (.iconst 0, 1) := by decide +kernel
theorem d_Clerk_tenthsShut_20 : decode prog_3_method_17_code 20 = .ok (.ireturn, 1) := by decide +kernel
theorem d_Clerk_tenthsShut_21 : decode prog_3_method_17_code 21 = .ok (.aload_n 0, 1) := by decide +kernel
theorem d_Clerk_tenthsShut_22 : decode prog_3_method_17_code 22 = .ok (.getfield 15, 3) := by decide +kernel
theorem d_Clerk_tenthsShut_25 : decode prog_3_method_17_code 25 = .ok (.iload_n 2, 1) := by decide +kernel
theorem d_Clerk_tenthsShut_26 : decode prog_3_method_17_code 26 = .ok (.aload_n 0, 1) := by decide +kernel
theorem d_Clerk_tenthsShut_27 : decode prog_3_method_17_code 27 = .ok (.getfield 15, 3) := by decide +kernel
theorem d_Clerk_tenthsShut_30 : decode prog_3_method_17_code 30 = .ok (.getfield 25, 3) := by decide +kernel
theorem d_Clerk_tenthsShut_33 : decode prog_3_method_17_code 33 = .ok (.invokevirtual 90, 3) := by decide +kernel
theorem d_Clerk_tenthsShut_36 : decode prog_3_method_17_code 36 = .ok (.ifCond .eq 8, 3) := by decide +kernel
theorem d_Clerk_tenthsShut_39 : decode prog_3_method_17_code 39 = .ok (.bipush 10, 2) := by decide +kernel
theorem d_Clerk_tenthsShut_41 : decode prog_3_method_17_code 41 = .ok (.goto 4, 3) := by decide +kernel
theorem d_Clerk_tenthsShut_44 : decode prog_3_method_17_code 44 = .ok (.iload_n 3, 1) := by decide +kernel
theorem d_Clerk_tenthsShut_45 : decode prog_3_method_17_code 45 = .ok (.ireturn, 1) := by decide +kernel
theorem d_Clerk_paidByChance_0 : decode prog_3_method_18_code 0 = .ok (.iload_n 1, 1) := by decide +kernel
theorem d_Clerk_paidByChance_1 : decode prog_3_method_18_code 1 = .ok (.i2l, 1) := by decide +kernel
theorem d_Clerk_paidByChance_2 : decode prog_3_method_18_code 2 = .ok (.lstore_n 3, 1) := by decide +kernel
theorem d_Clerk_paidByChance_3 : decode prog_3_method_18_code 3 = .ok (.aload_n 0, 1) := by decide +kernel
theorem d_Clerk_paidByChance_4 : decode prog_3_method_18_code 4 = .ok (.getfield 15, 3) := by decide +kernel
theorem d_Clerk_paidByChance_7 : decode prog_3_method_18_code 7 = .ok (.getfield 93, 3) := by decide +kernel
theorem d_Clerk_paidByChance_10 : decode prog_3_method_18_code 10 = .ok (.istore 5, 2) := by decide +kernel
theorem d_Clerk_paidByChance_12 : decode prog_3_method_18_code 12 = .ok (.aload_n 0, 1) := by decide +kernel
theorem d_Clerk_paidByChance_13 : decode prog_3_method_18_code 13 = .ok (.getfield 15, 3) := by decide +kernel
theorem d_Clerk_paidByChance_16 : decode prog_3_method_18_code 16 = .ok (.getfield 25, 3) := by decide +kernel
theorem d_Clerk_paidByChance_19 : decode prog_3_method_18_code 19 = .ok (.istore 6, 2) := by decide +kernel
theorem d_Clerk_paidByChance_21 : decode prog_3_method_18_code 21 = .ok (.iconst 0, 1) := by decide +kernel
theorem d_Clerk_paidByChance_22 : decode prog_3_method_18_code 22 = .ok (.istore 7, 2) := by decide +kernel
theorem d_Clerk_paidByChance_24 : decode prog_3_method_18_code 24 = .ok (.iconst 0, 1) := by decide +kernel
theorem d_Clerk_paidByChance_25 : decode prog_3_method_18_code 25 = .ok (.istore 8, 2) := by decide +kernel
theorem d_Clerk_paidByChance_27 : decode prog_3_method_18_code 27 = .ok (.iload 8, 2) := by decide +kernel
theorem d_Clerk_paidByChance_29 : decode prog_3_method_18_code 29 = .ok (.iload_n 2, 1) := by decide +kernel
theorem d_Clerk_paidByChance_30 : decode prog_3_method_18_code 30 = .ok (.if_icmp .ge 107, 3) := by decide +kernel
theorem d_Clerk_paidByChance_33 : decode prog_3_method_18_code 33 = .ok (.lload_n 3, 1) := by decide +kernel
theorem d_Clerk_paidByChance_34 : decode prog_3_method_18_code 34 = .ok (.invokestatic 96, 3) := by decide +kernel
theorem d_Clerk_paidByChance_37 : decode prog_3_method_18_code 37 = .ok (.lstore_n 3, 1) := by decide +kernel
theorem d_Clerk_paidByChance_38 : decode prog_3_method_18_code 38 = .ok (.lload_n 3, 1) := by decide +kernel
theorem d_Clerk_paidByChance_39 : decode prog_3_method_18_code 39 = .ok (.ldc2_w 100, 3) := by decide +kernel
theorem d_Clerk_paidByChance_42 : decode prog_3_method_18_code 42 = .ok (.ldiv, 1) := by decide +kernel
theorem d_Clerk_paidByChance_43 : decode prog_3_method_18_code 43 = .ok (.aload_n 0, 1) := by decide +kernel
theorem d_Clerk_paidByChance_44 : decode prog_3_method_18_code 44 = .ok (.getfield 15, 3) := by decide +kernel
theorem d_Clerk_paidByChance_47 : decode prog_3_method_18_code 47 = .ok (.getfield 81, 3) := by decide +kernel
theorem d_Clerk_paidByChance_50 : decode prog_3_method_18_code 50 = .ok (.i2l, 1) := by decide +kernel
theorem d_Clerk_paidByChance_51 : decode prog_3_method_18_code 51 = .ok (.lrem, 1) := by decide +kernel
theorem d_Clerk_paidByChance_52 : decode prog_3_method_18_code 52 = .ok (.l2i, 1) := by decide +kernel
theorem d_Clerk_paidByChance_53 : decode prog_3_method_18_code 53 = .ok (.istore 9, 2) := by decide +kernel
theorem d_Clerk_paidByChance_55 : decode prog_3_method_18_code 55 = .ok (.lload_n 3, 1) := by decide +kernel
theorem d_Clerk_paidByChance_56 : decode prog_3_method_18_code 56 = .ok (.invokestatic 96, 3) := by decide +kernel
theorem d_Clerk_paidByChance_59 : decode prog_3_method_18_code 59 = .ok (.lstore_n 3, 1) := by decide +kernel
theorem d_Clerk_paidByChance_60 : decode prog_3_method_18_code 60 = .ok (.lload_n 3, 1) := by decide +kernel
theorem d_Clerk_paidByChance_61 : decode prog_3_method_18_code 61 = .ok (.ldc2_w 100, 3) := by decide +kernel
theorem d_Clerk_paidByChance_64 : decode prog_3_method_18_code 64 = .ok (.ldiv, 1) := by decide +kernel
theorem d_Clerk_paidByChance_65 : decode prog_3_method_18_code 65 = .ok (.ldc2_w 102, 3) := by decide +kernel
theorem d_Clerk_paidByChance_68 : decode prog_3_method_18_code 68 = .ok (.lrem, 1) := by decide +kernel
theorem d_Clerk_paidByChance_69 : decode prog_3_method_18_code 69 = .ok (.l2i, 1) := by decide +kernel
theorem d_Clerk_paidByChance_70 : decode prog_3_method_18_code 70 = .ok (.istore 10, 2) := by decide +kernel
theorem d_Clerk_paidByChance_72 : decode prog_3_method_18_code 72 = .ok (.aload_n 0, 1) := by decide +kernel
theorem d_Clerk_paidByChance_73 : decode prog_3_method_18_code 73 = .ok (.getfield 15, 3) := by decide +kernel
theorem d_Clerk_paidByChance_76 : decode prog_3_method_18_code 76 = .ok (.iload 9, 2) := by decide +kernel
theorem d_Clerk_paidByChance_78 : decode prog_3_method_18_code 78 = .ok (.iload 10, 2) := by decide +kernel
theorem d_Clerk_paidByChance_80 : decode prog_3_method_18_code 80 = .ok (.iload 6, 2) := by decide +kernel
theorem d_Clerk_paidByChance_82 : decode prog_3_method_18_code 82 = .ok (.invokevirtual 19, 3) := by decide +kernel
theorem d_Clerk_paidByChance_85 : decode prog_3_method_18_code 85 = .ok (.ifCond .eq 37, 3) := by decide +kernel
theorem d_Clerk_paidByChance_88 : decode prog_3_method_18_code 88 = .ok (.iload 7, 2) := by decide +kernel
theorem d_Clerk_paidByChance_90 : decode prog_3_method_18_code 90 = .ok (.aload_n 0, 1) := by decide +kernel
theorem d_Clerk_paidByChance_91 : decode prog_3_method_18_code 91 = .ok (.getfield 15, 3) := by decide +kernel
theorem d_Clerk_paidByChance_94 : decode prog_3_method_18_code 94 = .ok (.iload 9, 2) := by decide +kernel
theorem d_Clerk_paidByChance_96 : decode prog_3_method_18_code 96 = .ok (.iload 10, 2) := by decide +kernel
theorem d_Clerk_paidByChance_98 : decode prog_3_method_18_code 98 = .ok (.iload 6, 2) := by decide +kernel
theorem d_Clerk_paidByChance_100 : decode prog_3_method_18_code 100 = .ok (.invokevirtual 45, 3) := by decide +kernel
theorem d_Clerk_paidByChance_103 : decode prog_3_method_18_code 103 = .ok (.aload_n 0, 1) := by decide +kernel
theorem d_Clerk_paidByChance_104 : decode prog_3_method_18_code 104 = .ok (.getfield 15, 3) := by decide +kernel
theorem d_Clerk_paidByChance_107 : decode prog_3_method_18_code 107 = .ok (.iload 5, 2) := by decide +kernel
theorem d_Clerk_paidByChance_109 : decode prog_3_method_18_code 109 = .ok (.iload 10, 2) := by decide +kernel
theorem d_Clerk_paidByChance_111 : decode prog_3_method_18_code 111 = .ok (.invokevirtual 104, 3) := by decide +kernel
theorem d_Clerk_paidByChance_114 : decode prog_3_method_18_code 114 = .ok (.iadd, 1) := by decide +kernel
theorem d_Clerk_paidByChance_115 : decode prog_3_method_18_code 115 = .ok (.iadd, 1) := by decide +kernel
theorem d_Clerk_paidByChance_116 : decode prog_3_method_18_code 116 = .ok (.istore 7, 2) := by decide +kernel
theorem d_Clerk_paidByChance_118 : decode prog_3_method_18_code 118 = .ok (.iload 10, 2) := by decide +kernel
theorem d_Clerk_paidByChance_120 : decode prog_3_method_18_code 120 = .ok (.istore 5, 2) := by decide +kernel
theorem d_Clerk_paidByChance_122 : decode prog_3_method_18_code 122 = .ok (.iload 6, 2) := by decide +kernel
theorem d_Clerk_paidByChance_124 : decode prog_3_method_18_code 124 = .ok (.iconst 1, 1) := by decide +kernel
theorem d_Clerk_paidByChance_125 : decode prog_3_method_18_code 125 = .ok (.iadd, 1) := by decide +kernel
theorem d_Clerk_paidByChance_126 : decode prog_3_method_18_code 126 = .ok (.bipush 24, 2) := by decide +kernel
theorem d_Clerk_paidByChance_128 : decode prog_3_method_18_code 128 = .ok (.irem, 1) := by decide +kernel
theorem d_Clerk_paidByChance_129 : decode prog_3_method_18_code 129 = .ok (.istore 6, 2) := by decide +kernel
theorem d_Clerk_paidByChance_131 : decode prog_3_method_18_code 131 = .ok (.iinc 8 1, 3) := by decide +kernel
theorem d_Clerk_paidByChance_134 : decode prog_3_method_18_code 134 = .ok (.goto (-107), 3) := by decide +kernel
theorem d_Clerk_paidByChance_137 : decode prog_3_method_18_code 137 = .ok (.iload 7, 2) := by decide +kernel
theorem d_Clerk_paidByChance_139 : decode prog_3_method_18_code 139 = .ok (.ireturn, 1) := by decide +kernel
theorem d_Clerk_nextChance_0 : decode prog_3_method_19_code 0 = .ok (.lload_n 0, 1) := by decide +kernel
theorem d_Clerk_nextChance_1 : decode prog_3_method_19_code 1 = .ok (.ldc2_w 107, 3) := by decide +kernel
theorem d_Clerk_nextChance_4 : decode prog_3_method_19_code 4 = .ok (.lmul, 1) := by decide +kernel
theorem d_Clerk_nextChance_5 : decode prog_3_method_19_code 5 = .ok (.ldc2_w 109, 3) := by decide +kernel
theorem d_Clerk_nextChance_8 : decode prog_3_method_19_code 8 = .ok (.ladd, 1) := by decide +kernel
theorem d_Clerk_nextChance_9 : decode prog_3_method_19_code 9 = .ok (.ldc2_w 111, 3) := by decide +kernel
theorem d_Clerk_nextChance_12 : decode prog_3_method_19_code 12 = .ok (.lrem, 1) := by decide +kernel
theorem d_Clerk_nextChance_13 : decode prog_3_method_19_code 13 = .ok (.lreturn, 1) := by decide +kernel
theorem d_House_init_0 : decode prog_4_method_1_code 0 = .ok (.aload_n 0, 1) := by decide +kernel
theorem d_House_init_1 : decode prog_4_method_1_code 1 = .ok (.invokespecial 3, 3) := by decide +kernel
theorem d_House_init_4 : decode prog_4_method_1_code 4 = .ok (.aload_n 0, 1) := by decide +kernel
theorem d_House_init_5 : decode prog_4_method_1_code 5 = .ok (.iconst 2, 1) := by decide +kernel
theorem d_House_init_6 : decode prog_4_method_1_code 6 = .ok (.newarray .int, 2) := by decide +kernel
theorem d_House_init_8 : decode prog_4_method_1_code 8 = .ok (.putfield 9, 3) := by decide +kernel
theorem d_House_init_11 : decode prog_4_method_1_code 11 = .ok (.aload_n 0, 1) := by decide +kernel
theorem d_House_init_12 : decode prog_4_method_1_code 12 = .ok (.iconst 2, 1) := by decide +kernel
theorem d_House_init_13 : decode prog_4_method_1_code 13 = .ok (.newarray .int, 2) := by decide +kernel
theorem d_House_init_15 : decode prog_4_method_1_code 15 = .ok (.putfield 15, 3) := by decide +kernel
theorem d_House_init_18 : decode prog_4_method_1_code 18 = .ok (.aload_n 0, 1) := by decide +kernel
theorem d_House_init_19 : decode prog_4_method_1_code 19 = .ok (.bipush 6, 2) := by decide +kernel
theorem d_House_init_21 : decode prog_4_method_1_code 21 = .ok (.newarray .int, 2) := by decide +kernel
theorem d_House_init_23 : decode prog_4_method_1_code 23 = .ok (.putfield 18, 3) := by decide +kernel
theorem d_House_init_26 : decode prog_4_method_1_code 26 = .ok (.aload_n 0, 1) := by decide +kernel
theorem d_House_init_27 : decode prog_4_method_1_code 27 = .ok (.bipush 6, 2) := by decide +kernel
theorem d_House_init_29 : decode prog_4_method_1_code 29 = .ok (.newarray .int, 2) := by decide +kernel
theorem d_House_init_31 : decode prog_4_method_1_code 31 = .ok (.putfield 21, 3) := by decide +kernel
theorem d_House_init_34 : decode prog_4_method_1_code 34 = .ok (.aload_n 0, 1) := by decide +kernel
theorem d_House_init_35 : decode prog_4_method_1_code 35 = .ok (.bipush 30, 2) := by decide +kernel
theorem d_House_init_37 : decode prog_4_method_1_code 37 = .ok (.newarray .int, 2) := by decide +kernel
theorem d_House_init_39 : decode prog_4_method_1_code 39 = .ok (.putfield 24, 3) := by decide +kernel
theorem d_House_init_42 : decode prog_4_method_1_code 42 = .ok (.aload_n 0, 1) := by decide +kernel
theorem d_House_init_43 : decode prog_4_method_1_code 43 = .ok (.bipush 32, 2) := by decide +kernel
theorem d_House_init_45 : decode prog_4_method_1_code 45 = .ok (.newarray .int, 2) := by decide +kernel
theorem d_House_init_47 : decode prog_4_method_1_code 47 = .ok (.putfield 27, 3) := by decide +kernel
theorem d_House_init_50 : decode prog_4_method_1_code 50 = .ok (.aload_n 0, 1) := by decide +kernel
theorem d_House_init_51 : decode prog_4_method_1_code 51 = .ok (.aload_n 1, 1) := by decide +kernel
theorem d_House_init_52 : decode prog_4_method_1_code 52 = .ok (.putfield 30, 3) := by decide +kernel
theorem d_House_init_55 : decode prog_4_method_1_code 55 = .ok (.aload_n 0, 1) := by decide +kernel
theorem d_House_init_56 : decode prog_4_method_1_code 56 = .ok (.iconst 1, 1) := by decide +kernel
theorem d_House_init_57 : decode prog_4_method_1_code 57 = .ok (.invokevirtual 34, 3) := by decide +kernel
theorem d_House_init_60 : decode prog_4_method_1_code 60 = .ok (.return_, 1) := by decide +kernel
theorem d_House_start_0 : decode prog_4_method_2_code 0 = .ok (.aload_n 0, 1) := by decide +kernel
theorem d_House_start_1 : decode prog_4_method_2_code 1 = .ok (.iload_n 1, 1) := by decide +kernel
theorem d_House_start_2 : decode prog_4_method_2_code 2 = .ok (.putfield 38, 3) := by decide +kernel
theorem d_House_start_5 : decode prog_4_method_2_code 5 = .ok (.aload_n 0, 1) := by decide +kernel
theorem d_House_start_6 : decode prog_4_method_2_code 6 = .ok (.iconst 0, 1) := by decide +kernel
theorem d_House_start_7 : decode prog_4_method_2_code 7 = .ok (.putfield 42, 3) := by decide +kernel
theorem d_House_start_10 : decode prog_4_method_2_code 10 = .ok (.aload_n 0, 1) := by decide +kernel
theorem d_House_start_11 : decode prog_4_method_2_code 11 = .ok (.iconst 0, 1) := by decide +kernel
theorem d_House_start_12 : decode prog_4_method_2_code 12 = .ok (.putfield 46, 3) := by decide +kernel
theorem d_House_start_15 : decode prog_4_method_2_code 15 = .ok (.aload_n 0, 1) := by decide +kernel
theorem d_House_start_16 : decode prog_4_method_2_code 16 = .ok (.iconst 0, 1) := by decide +kernel
theorem d_House_start_17 : decode prog_4_method_2_code 17 = .ok (.putfield 49, 3) := by decide +kernel
theorem d_House_start_20 : decode prog_4_method_2_code 20 = .ok (.aload_n 0, 1) := by decide +kernel
theorem d_House_start_21 : decode prog_4_method_2_code 21 = .ok (.iconst 0, 1) := by decide +kernel
theorem d_House_start_22 : decode prog_4_method_2_code 22 = .ok (.putfield 52, 3) := by decide +kernel
theorem d_House_start_25 : decode prog_4_method_2_code 25 = .ok (.aload_n 0, 1) := by decide +kernel
theorem d_House_start_26 : decode prog_4_method_2_code 26 = .ok (.iconst 0, 1) := by decide +kernel
theorem d_House_start_27 : decode prog_4_method_2_code 27 = .ok (.putfield 55, 3) := by decide +kernel
theorem d_House_start_30 : decode prog_4_method_2_code 30 = .ok (.aload_n 0, 1) := by decide +kernel
theorem d_House_start_31 : decode prog_4_method_2_code 31 = .ok (.iconst 0, 1) := by decide +kernel
theorem d_House_start_32 : decode prog_4_method_2_code 32 = .ok (.putfield 58, 3) := by decide +kernel
theorem d_House_start_35 : decode prog_4_method_2_code 35 = .ok (.aload_n 0, 1) := by decide +kernel
theorem d_House_start_36 : decode prog_4_method_2_code 36 = .ok (.iconst 0, 1) := by decide +kernel
theorem d_House_start_37 : decode prog_4_method_2_code 37 = .ok (.putfield 61, 3) := by decide +kernel
theorem d_House_start_40 : decode prog_4_method_2_code 40 = .ok (.iconst 0, 1) := by decide +kernel
theorem d_House_start_41 : decode prog_4_method_2_code 41 = .ok (.istore_n 2, 1) := by decide +kernel
theorem d_House_start_42 : decode prog_4_method_2_code 42 = .ok (.iload_n 2, 1) := by decide +kernel
theorem d_House_start_43 : decode prog_4_method_2_code 43 = .ok (.iconst 2, 1) := by decide +kernel
theorem d_House_start_44 : decode prog_4_method_2_code 44 = .ok (.if_icmp .ge 23, 3) := by decide +kernel
theorem d_House_start_47 : decode prog_4_method_2_code 47 = .ok (.aload_n 0, 1) := by decide +kernel
theorem d_House_start_48 : decode prog_4_method_2_code 48 = .ok (.getfield 9, 3) := by decide +kernel
theorem d_House_start_51 : decode prog_4_method_2_code 51 = .ok (.iload_n 2, 1) := by decide +kernel
theorem d_House_start_52 : decode prog_4_method_2_code 52 = .ok (.iconst 1, 1) := by decide +kernel
theorem d_House_start_53 : decode prog_4_method_2_code 53 = .ok (.iastore, 1) := by decide +kernel
theorem d_House_start_54 : decode prog_4_method_2_code 54 = .ok (.aload_n 0, 1) := by decide +kernel
theorem d_House_start_55 : decode prog_4_method_2_code 55 = .ok (.getfield 15, 3) := by decide +kernel
theorem d_House_start_58 : decode prog_4_method_2_code 58 = .ok (.iload_n 2, 1) := by decide +kernel
theorem d_House_start_59 : decode prog_4_method_2_code 59 = .ok (.iconst 0, 1) := by decide +kernel
theorem d_House_start_60 : decode prog_4_method_2_code 60 = .ok (.iastore, 1) := by decide +kernel
theorem d_House_start_61 : decode prog_4_method_2_code 61 = .ok (.iinc 2 1, 3) := by decide +kernel
theorem d_House_start_64 : decode prog_4_method_2_code 64 = .ok (.goto (-22), 3) := by decide +kernel
theorem d_House_start_67 : decode prog_4_method_2_code 67 = .ok (.return_, 1) := by decide +kernel
theorem d_House_takeFrom_0 : decode prog_4_method_3_code 0 = .ok (.aload_n 0, 1) := by decide +kernel
theorem d_House_takeFrom_1 : decode prog_4_method_3_code 1 = .ok (.aload_n 1, 1) := by decide +kernel
theorem d_House_takeFrom_2 : decode prog_4_method_3_code 2 = .ok (.getfield 38, 3) := by decide +kernel
theorem d_House_takeFrom_5 : decode prog_4_method_3_code 5 = .ok (.putfield 38, 3) := by decide +kernel
theorem d_House_takeFrom_8 : decode prog_4_method_3_code 8 = .ok (.aload_n 0, 1) := by decide +kernel
theorem d_House_takeFrom_9 : decode prog_4_method_3_code 9 = .ok (.aload_n 1, 1) := by decide +kernel
theorem d_House_takeFrom_10 : decode prog_4_method_3_code 10 = .ok (.getfield 42, 3) := by decide +kernel
theorem d_House_takeFrom_13 : decode prog_4_method_3_code 13 = .ok (.putfield 42, 3) := by decide +kernel
theorem d_House_takeFrom_16 : decode prog_4_method_3_code 16 = .ok (.aload_n 0, 1) := by decide +kernel
theorem d_House_takeFrom_17 : decode prog_4_method_3_code 17 = .ok (.aload_n 1, 1) := by decide +kernel
theorem d_House_takeFrom_18 : decode prog_4_method_3_code 18 = .ok (.getfield 46, 3) := by decide +kernel
theorem d_House_takeFrom_21 : decode prog_4_method_3_code 21 = .ok (.putfield 46, 3) := by decide +kernel
theorem d_House_takeFrom_24 : decode prog_4_method_3_code 24 = .ok (.aload_n 0, 1) := by decide +kernel
theorem d_House_takeFrom_25 : decode prog_4_method_3_code 25 = .ok (.aload_n 1, 1) := by decide +kernel
theorem d_House_takeFrom_26 : decode prog_4_method_3_code 26 = .ok (.getfield 49, 3) := by decide +kernel
theorem d_House_takeFrom_29 : decode prog_4_method_3_code 29 = .ok (.putfield 49, 3) := by decide +kernel
theorem d_House_takeFrom_32 : decode prog_4_method_3_code 32 = .ok (.aload_n 0, 1) := by decide +kernel
theorem d_House_takeFrom_33 : decode prog_4_method_3_code 33 = .ok (.aload_n 1, 1) := by decide +kernel
theorem d_House_takeFrom_34 : decode prog_4_method_3_code 34 = .ok (.getfield 52, 3) := by decide +kernel
theorem d_House_takeFrom_37 : decode prog_4_method_3_code 37 = .ok (.putfield 52, 3) := by decide +kernel
theorem d_House_takeFrom_40 : decode prog_4_method_3_code 40 = .ok (.aload_n 0, 1) := by decide +kernel
theorem d_House_takeFrom_41 : decode prog_4_method_3_code 41 = .ok (.aload_n 1, 1) := by decide +kernel
theorem d_House_takeFrom_42 : decode prog_4_method_3_code 42 = .ok (.getfield 55, 3) := by decide +kernel
theorem d_House_takeFrom_45 : decode prog_4_method_3_code 45 = .ok (.putfield 55, 3) := by decide +kernel
theorem d_House_takeFrom_48 : decode prog_4_method_3_code 48 = .ok (.aload_n 0, 1) := by decide +kernel
theorem d_House_takeFrom_49 : decode prog_4_method_3_code 49 = .ok (.aload_n 1, 1) := by decide +kernel
theorem d_House_takeFrom_50 : decode prog_4_method_3_code 50 = .ok (.getfield 58, 3) := by decide +kernel
theorem d_House_takeFrom_53 : decode prog_4_method_3_code 53 = .ok (.putfield 58, 3) := by decide +kernel
theorem d_House_takeFrom_56 : decode prog_4_method_3_code 56 = .ok (.aload_n 0, 1) := by decide +kernel
theorem d_House_takeFrom_57 : decode prog_4_method_3_code 57 = .ok (.aload_n 1, 1) := by decide +kernel
theorem d_House_takeFrom_58 : decode prog_4_method_3_code 58 = .ok (.getfield 61, 3) := by decide +kernel
theorem d_House_takeFrom_61 : decode prog_4_method_3_code 61 = .ok (.putfield 61, 3) := by decide +kernel
theorem d_House_takeFrom_64 : decode prog_4_method_3_code 64 = .ok (.aload_n 1, 1) := by decide +kernel
theorem d_House_takeFrom_65 : decode prog_4_method_3_code 65 = .ok (.getfield 9, 3) := by decide +kernel
theorem d_House_takeFrom_68 : decode prog_4_method_3_code 68 = .ok (.iconst 0, 1) := by decide +kernel
theorem d_House_takeFrom_69 : decode prog_4_method_3_code 69 = .ok (.aload_n 0, 1) := by decide +kernel
theorem d_House_takeFrom_70 : decode prog_4_method_3_code 70 = .ok (.getfield 9, 3) := by decide +kernel
theorem d_House_takeFrom_73 : decode prog_4_method_3_code 73 = .ok (.iconst 0, 1) := by decide +kernel
theorem d_House_takeFrom_74 : decode prog_4_method_3_code 74 = .ok (.aload_n 0, 1) := by decide +kernel
theorem d_House_takeFrom_75 : decode prog_4_method_3_code 75 = .ok (.getfield 9, 3) := by decide +kernel
theorem d_House_takeFrom_78 : decode prog_4_method_3_code 78 = .ok (.arraylength, 1) := by decide +kernel
theorem d_House_takeFrom_79 : decode prog_4_method_3_code 79 = .ok (.invokestatic 64, 3) := by decide +kernel
theorem d_House_takeFrom_82 : decode prog_4_method_3_code 82 = .ok (.aload_n 1, 1) := by decide +kernel
theorem d_House_takeFrom_83 : decode prog_4_method_3_code 83 = .ok (.getfield 15, 3) := by decide +kernel
theorem d_House_takeFrom_86 : decode prog_4_method_3_code 86 = .ok (.iconst 0, 1) := by decide +kernel
theorem d_House_takeFrom_87 : decode prog_4_method_3_code 87 = .ok (.aload_n 0, 1) := by decide +kernel
theorem d_House_takeFrom_88 : decode prog_4_method_3_code 88 = .ok (.getfield 15, 3) := by decide +kernel
theorem d_House_takeFrom_91 : decode prog_4_method_3_code 91 = .ok (.iconst 0, 1) := by decide +kernel
theorem d_House_takeFrom_92 : decode prog_4_method_3_code 92 = .ok (.aload_n 0, 1) := by decide +kernel
theorem d_House_takeFrom_93 : decode prog_4_method_3_code 93 = .ok (.getfield 15, 3) := by decide +kernel
theorem d_House_takeFrom_96 : decode prog_4_method_3_code 96 = .ok (.arraylength, 1) := by decide +kernel
theorem d_House_takeFrom_97 : decode prog_4_method_3_code 97 = .ok (.invokestatic 64, 3) := by decide +kernel
theorem d_House_takeFrom_100 : decode prog_4_method_3_code 100 = .ok (.aload_n 1, 1) := by decide +kernel
theorem d_House_takeFrom_101 : decode prog_4_method_3_code 101 = .ok (.getfield 18, 3) := by decide +kernel
theorem d_House_takeFrom_104 : decode prog_4_method_3_code 104 = .ok (.iconst 0, 1) := by decide +kernel
theorem d_House_takeFrom_105 : decode prog_4_method_3_code 105 = .ok (.aload_n 0, 1) := by decide +kernel
theorem d_House_takeFrom_106 : decode prog_4_method_3_code 106 = .ok (.getfield 18, 3) := by decide +kernel
theorem d_House_takeFrom_109 : decode prog_4_method_3_code 109 = .ok (.iconst 0, 1) := by decide +kernel
theorem d_House_takeFrom_110 : decode prog_4_method_3_code 110 = .ok (.aload_n 0, 1) := by decide +kernel
theorem d_House_takeFrom_111 : decode prog_4_method_3_code 111 = .ok (.getfield 18, 3) := by decide +kernel
theorem d_House_takeFrom_114 : decode prog_4_method_3_code 114 = .ok (.arraylength, 1) := by decide +kernel
theorem d_House_takeFrom_115 : decode prog_4_method_3_code 115 = .ok (.invokestatic 64, 3) := by decide +kernel
theorem d_House_takeFrom_118 : decode prog_4_method_3_code 118 = .ok (.aload_n 1, 1) := by decide +kernel
theorem d_House_takeFrom_119 : decode prog_4_method_3_code 119 = .ok (.getfield 21, 3) := by decide +kernel
theorem d_House_takeFrom_122 : decode prog_4_method_3_code 122 = .ok (.iconst 0, 1) := by decide +kernel
theorem d_House_takeFrom_123 : decode prog_4_method_3_code 123 = .ok (.aload_n 0, 1) := by decide +kernel
theorem d_House_takeFrom_124 : decode prog_4_method_3_code 124 = .ok (.getfield 21, 3) := by decide +kernel
theorem d_House_takeFrom_127 : decode prog_4_method_3_code 127 = .ok (.iconst 0, 1) := by decide +kernel
theorem d_House_takeFrom_128 : decode prog_4_method_3_code 128 = .ok (.aload_n 0, 1) := by decide +kernel
theorem d_House_takeFrom_129 : decode prog_4_method_3_code 129 = .ok (.getfield 21, 3) := by decide +kernel
theorem d_House_takeFrom_132 : decode prog_4_method_3_code 132 = .ok (.arraylength, 1) := by decide +kernel
theorem d_House_takeFrom_133 : decode prog_4_method_3_code 133 = .ok (.invokestatic 64, 3) := by decide +kernel
theorem d_House_takeFrom_136 : decode prog_4_method_3_code 136 = .ok (.aload_n 1, 1) := by decide +kernel
theorem d_House_takeFrom_137 : decode prog_4_method_3_code 137 = .ok (.getfield 24, 3) := by decide +kernel
theorem d_House_takeFrom_140 : decode prog_4_method_3_code 140 = .ok (.iconst 0, 1) := by decide +kernel
theorem d_House_takeFrom_141 : decode prog_4_method_3_code 141 = .ok (.aload_n 0, 1) := by decide +kernel
theorem d_House_takeFrom_142 : decode prog_4_method_3_code 142 = .ok (.getfield 24, 3) := by decide +kernel
theorem d_House_takeFrom_145 : decode prog_4_method_3_code 145 = .ok (.iconst 0, 1) := by decide +kernel
theorem d_House_takeFrom_146 : decode prog_4_method_3_code 146 = .ok (.aload_n 0, 1) := by decide +kernel
theorem d_House_takeFrom_147 : decode prog_4_method_3_code 147 = .ok (.getfield 24, 3) := by decide +kernel
theorem d_House_takeFrom_150 : decode prog_4_method_3_code 150 = .ok (.arraylength, 1) := by decide +kernel
theorem d_House_takeFrom_151 : decode prog_4_method_3_code 151 = .ok (.invokestatic 64, 3) := by decide +kernel
theorem d_House_takeFrom_154 : decode prog_4_method_3_code 154 = .ok (.aload_n 1, 1) := by decide +kernel
theorem d_House_takeFrom_155 : decode prog_4_method_3_code 155 = .ok (.getfield 27, 3) := by decide +kernel
theorem d_House_takeFrom_158 : decode prog_4_method_3_code 158 = .ok (.iconst 0, 1) := by decide +kernel
theorem d_House_takeFrom_159 : decode prog_4_method_3_code 159 = .ok (.aload_n 0, 1) := by decide +kernel
theorem d_House_takeFrom_160 : decode prog_4_method_3_code 160 = .ok (.getfield 27, 3) := by decide +kernel
theorem d_House_takeFrom_163 : decode prog_4_method_3_code 163 = .ok (.iconst 0, 1) := by decide +kernel
theorem d_House_takeFrom_164 : decode prog_4_method_3_code 164 = .ok (.aload_n 0, 1) := by decide +kernel
theorem d_House_takeFrom_165 : decode prog_4_method_3_code 165 = .ok (.getfield 27, 3) := by decide +kernel
theorem d_House_takeFrom_168 : decode prog_4_method_3_code 168 = .ok (.arraylength, 1) := by decide +kernel
theorem d_House_takeFrom_169 : decode prog_4_method_3_code 169 = .ok (.invokestatic 64, 3) := by decide +kernel
theorem d_House_takeFrom_172 : decode prog_4_method_3_code 172 = .ok (.return_, 1) := by decide +kernel
theorem d_House_warBit_0 : decode prog_4_method_4_code 0 = .ok (.aload_n 0, 1) := by decide +kernel
theorem d_House_warBit_1 : decode prog_4_method_4_code 1 = .ok (.getfield 42, 3) := by decide +kernel
theorem d_House_warBit_4 : decode prog_4_method_4_code 4 = .ok (.ifCond .eq 7, 3) := by decide +kernel
theorem d_House_warBit_7 : decode prog_4_method_4_code 7 = .ok (.iconst 1, 1) := by decide +kernel
theorem d_House_warBit_8 : decode prog_4_method_4_code 8 = .ok (.goto 4, 3) := by decide +kernel
theorem d_House_warBit_11 : decode prog_4_method_4_code 11 = .ok (.iconst 0, 1) := by decide +kernel
theorem d_House_warBit_12 : decode prog_4_method_4_code 12 = .ok (.ireturn, 1) := by decide +kernel
theorem d_House_addDoing_0 : decode prog_4_method_5_code 0 = .ok (.aload_n 0, 1) := by decide +kernel
theorem d_House_addDoing_1 : decode prog_4_method_5_code 1 = .ok (.getfield 18, 3) := by decide +kernel
theorem d_House_addDoing_4 : decode prog_4_method_5_code 4 = .ok (.aload_n 0, 1) := by decide +kernel
theorem d_House_addDoing_5 : decode prog_4_method_5_code 5 = .ok (.getfield 55, 3) := by decide +kernel
theorem d_House_addDoing_8 : decode prog_4_method_5_code 8 = .ok (.iload_n 1, 1) := by decide +kernel
theorem d_House_addDoing_9 : decode prog_4_method_5_code 9 = .ok (.iastore, 1) := by decide +kernel
theorem d_House_addDoing_10 : decode prog_4_method_5_code 10 = .ok (.aload_n 0, 1) := by decide +kernel
theorem d_House_addDoing_11 : decode prog_4_method_5_code 11 = .ok (.getfield 21, 3) := by decide +kernel
theorem d_House_addDoing_14 : decode prog_4_method_5_code 14 = .ok (.aload_n 0, 1) := by decide +kernel
theorem d_House_addDoing_15 : decode prog_4_method_5_code 15 = .ok (.getfield 55, 3) := by decide +kernel
theorem d_House_addDoing_18 : decode prog_4_method_5_code 18 = .ok (.iload_n 2, 1) := by decide +kernel
theorem d_House_addDoing_19 : decode prog_4_method_5_code 19 = .ok (.iastore, 1) := by decide +kernel
theorem d_House_addDoing_20 : decode prog_4_method_5_code 20 = .ok (.aload_n 0, 1) := by decide +kernel
theorem d_House_addDoing_21 : decode prog_4_method_5_code 21 = .ok (.dup, 1) := by decide +kernel
theorem d_House_addDoing_22 : decode prog_4_method_5_code 22 = .ok (.getfield 55, 3) := by decide +kernel
theorem d_House_addDoing_25 : decode prog_4_method_5_code 25 = .ok (.iconst 1, 1) := by decide +kernel
theorem d_House_addDoing_26 : decode prog_4_method_5_code 26 = .ok (.iadd, 1) := by decide +kernel
theorem d_House_addDoing_27 : decode prog_4_method_5_code 27 = .ok (.putfield 55, 3) := by decide +kernel
theorem d_House_addDoing_30 : decode prog_4_method_5_code 30 = .ok (.aload_n 0, 1) := by decide +kernel
theorem d_House_addDoing_31 : decode prog_4_method_5_code 31 = .ok (.iconst 0, 1) := by decide +kernel
theorem d_House_addDoing_32 : decode prog_4_method_5_code 32 = .ok (.putfield 61, 3) := by decide +kernel
theorem d_House_addDoing_35 : decode prog_4_method_5_code 35 = .ok (.aload_n 0, 1) := by decide +kernel
theorem d_House_addDoing_36 : decode prog_4_method_5_code 36 = .ok (.getfield 55, 3) := by decide +kernel
theorem d_House_addDoing_39 : decode prog_4_method_5_code 39 = .ok (.iconst 1, 1) := by decide +kernel
theorem d_House_addDoing_40 : decode prog_4_method_5_code 40 = .ok (.isub, 1) := by decide +kernel
theorem d_House_addDoing_41 : decode prog_4_method_5_code 41 = .ok (.ireturn, 1) := by decide +kernel
theorem d_House_addNote_0 : decode prog_4_method_6_code 0 = .ok (.aload_n 0, 1) := by decide +kernel
theorem d_House_addNote_1 : decode prog_4_method_6_code 1 = .ok (.getfield 58, 3) := by decide +kernel
theorem d_House_addNote_4 : decode prog_4_method_6_code 4 = .ok (.iconst 5, 1) := by decide +kernel
theorem d_House_addNote_5 : decode prog_4_method_6_code 5 = .ok (.imul, 1) := by decide +kernel
theorem d_House_addNote_6 : decode prog_4_method_6_code 6 = .ok (.istore 6, 2) := by decide +kernel
theorem d_House_addNote_8 : decode prog_4_method_6_code 8 = .ok (.aload_n 0, 1) := by decide +kernel
theorem d_House_addNote_9 : decode prog_4_method_6_code 9 = .ok (.getfield 24, 3) := by decide +kernel
theorem d_House_addNote_12 : decode prog_4_method_6_code 12 = .ok (.iload 6, 2) := by decide +kernel
theorem d_House_addNote_14 : decode prog_4_method_6_code 14 = .ok (.iload_n 1, 1) := by decide +kernel
theorem d_House_addNote_15 : decode prog_4_method_6_code 15 = .ok (.iastore, 1) := by decide +kernel
theorem d_House_addNote_16 : decode prog_4_method_6_code 16 = .ok (.aload_n 0, 1) := by decide +kernel
theorem d_House_addNote_17 : decode prog_4_method_6_code 17 = .ok (.getfield 24, 3) := by decide +kernel
theorem d_House_addNote_20 : decode prog_4_method_6_code 20 = .ok (.iload 6, 2) := by decide +kernel
theorem d_House_addNote_22 : decode prog_4_method_6_code 22 = .ok (.iconst 1, 1) := by decide +kernel
theorem d_House_addNote_23 : decode prog_4_method_6_code 23 = .ok (.iadd, 1) := by decide +kernel
theorem d_House_addNote_24 : decode prog_4_method_6_code 24 = .ok (.iload_n 2, 1) := by decide +kernel
theorem d_House_addNote_25 : decode prog_4_method_6_code 25 = .ok (.iastore, 1) := by decide +kernel
theorem d_House_addNote_26 : decode prog_4_method_6_code 26 = .ok (.aload_n 0, 1) := by decide +kernel
theorem d_House_addNote_27 : decode prog_4_method_6_code 27 = .ok (.getfield 24, 3) := by decide +kernel
theorem d_House_addNote_30 : decode prog_4_method_6_code 30 = .ok (.iload 6, 2) := by decide +kernel
theorem d_House_addNote_32 : decode prog_4_method_6_code 32 = .ok (.iconst 2, 1) := by decide +kernel
theorem d_House_addNote_33 : decode prog_4_method_6_code 33 = .ok (.iadd, 1) := by decide +kernel
theorem d_House_addNote_34 : decode prog_4_method_6_code 34 = .ok (.iload_n 3, 1) := by decide +kernel
theorem d_House_addNote_35 : decode prog_4_method_6_code 35 = .ok (.iastore, 1) := by decide +kernel
theorem d_House_addNote_36 : decode prog_4_method_6_code 36 = .ok (.aload_n 0, 1) := by decide +kernel
theorem d_House_addNote_37 : decode prog_4_method_6_code 37 = .ok (.getfield 24, 3) := by decide +kernel
theorem d_House_addNote_40 : decode prog_4_method_6_code 40 = .ok (.iload 6, 2) := by decide +kernel
theorem d_House_addNote_42 : decode prog_4_method_6_code 42 = .ok (.iconst 3, 1) := by decide +kernel
theorem d_House_addNote_43 : decode prog_4_method_6_code 43 = .ok (.iadd, 1) := by decide +kernel
theorem d_House_addNote_44 : decode prog_4_method_6_code 44 = .ok (.iload 4, 2) := by decide +kernel
theorem d_House_addNote_46 : decode prog_4_method_6_code 46 = .ok (.iastore, 1) := by decide +kernel
theorem d_House_addNote_47 : decode prog_4_method_6_code 47 = .ok (.aload_n 0, 1) := by decide +kernel
theorem d_House_addNote_48 : decode prog_4_method_6_code 48 = .ok (.getfield 24, 3) := by decide +kernel
theorem d_House_addNote_51 : decode prog_4_method_6_code 51 = .ok (.iload 6, 2) := by decide +kernel
theorem d_House_addNote_53 : decode prog_4_method_6_code 53 = .ok (.iconst 4, 1) := by decide +kernel
theorem d_House_addNote_54 : decode prog_4_method_6_code 54 = .ok (.iadd, 1) := by decide +kernel
theorem d_House_addNote_55 : decode prog_4_method_6_code 55 = .ok (.iload 5, 2) := by decide +kernel
theorem d_House_addNote_57 : decode prog_4_method_6_code 57 = .ok (.iastore, 1) := by decide +kernel
theorem d_House_addNote_58 : decode prog_4_method_6_code 58 = .ok (.aload_n 0, 1) := by decide +kernel
theorem d_House_addNote_59 : decode prog_4_method_6_code 59 = .ok (.dup, 1) := by decide +kernel
theorem d_House_addNote_60 : decode prog_4_method_6_code 60 = .ok (.getfield 58, 3) := by decide +kernel
theorem d_House_addNote_63 : decode prog_4_method_6_code 63 = .ok (.iconst 1, 1) := by decide +kernel
theorem d_House_addNote_64 : decode prog_4_method_6_code 64 = .ok (.iadd, 1) := by decide +kernel
theorem d_House_addNote_65 : decode prog_4_method_6_code 65 = .ok (.putfield 58, 3) := by decide +kernel
theorem d_House_addNote_68 : decode prog_4_method_6_code 68 = .ok (.aload_n 0, 1) := by decide +kernel
theorem d_House_addNote_69 : decode prog_4_method_6_code 69 = .ok (.getfield 58, 3) := by decide +kernel
theorem d_House_addNote_72 : decode prog_4_method_6_code 72 = .ok (.ireturn, 1) := by decide +kernel
theorem d_House_passesBarred_0 : decode prog_4_method_7_code 0 = .ok (.aload_n 0, 1) := by decide +kernel
theorem d_House_passesBarred_1 : decode prog_4_method_7_code 1 = .ok (.getfield 30, 3) := by decide +kernel
theorem d_House_passesBarred_4 : decode prog_4_method_7_code 4 = .ok (.aload_n 0, 1) := by decide +kernel
theorem d_House_passesBarred_5 : decode prog_4_method_7_code 5 = .ok (.getfield 18, 3) := by decide +kernel
theorem d_House_passesBarred_8 : decode prog_4_method_7_code 8 = .ok (.iload_n 1, 1) := by decide +kernel
theorem d_House_passesBarred_9 : decode prog_4_method_7_code 9 = .ok (.iaload, 1) := by decide +kernel
theorem d_House_passesBarred_10 : decode prog_4_method_7_code 10 = .ok (.aaload, 1) := by decide +kernel
theorem d_House_passesBarred_11 : decode prog_4_method_7_code 11 = .ok (.iload_n 2, 1) := by decide +kernel
theorem d_House_passesBarred_12 : decode prog_4_method_7_code 12 = .ok (.iload_n 3, 1) := by decide +kernel
theorem d_House_passesBarred_13 : decode prog_4_method_7_code 13 = .ok (.invokestatic 70, 3) := by decide +kernel
theorem d_House_passesBarred_16 : decode prog_4_method_7_code 16 = .ok (.aload_n 0, 1) := by decide +kernel
theorem d_House_passesBarred_17 : decode prog_4_method_7_code 17 = .ok (.getfield 42, 3) := by decide +kernel
theorem d_House_passesBarred_20 : decode prog_4_method_7_code 20 = .ok (.invokevirtual 74, 3) := by decide +kernel
theorem d_House_passesBarred_23 : decode prog_4_method_7_code 23 = .ok (.ireturn, 1) := by decide +kernel
theorem d_House_isBarred_0 : decode prog_4_method_8_code 0 = .ok (.aload_n 0, 1) := by decide +kernel
theorem d_House_isBarred_1 : decode prog_4_method_8_code 1 = .ok (.getfield 15, 3) := by decide +kernel
theorem d_House_isBarred_4 : decode prog_4_method_8_code 4 = .ok (.iload_n 1, 1) := by decide +kernel
theorem d_House_isBarred_5 : decode prog_4_method_8_code 5 = .ok (.iaload, 1) := by decide +kernel
theorem d_House_isBarred_6 : decode prog_4_method_8_code 6 = .ok (.iload_n 1, 1) := by decide +kernel
theorem d_House_isBarred_7 : decode prog_4_method_8_code 7 = .ok (.iload_n 2, 1) := by decide +kernel
theorem d_House_isBarred_8 : decode prog_4_method_8_code 8 = .ok (.invokestatic 70, 3) := by decide +kernel
theorem d_House_isBarred_11 : decode prog_4_method_8_code 11 = .ok (.ishr, 1) := by decide +kernel
theorem d_House_isBarred_12 : decode prog_4_method_8_code 12 = .ok (.iconst 1, 1) := by decide +kernel
theorem d_House_isBarred_13 : decode prog_4_method_8_code 13 = .ok (.iand, 1) := by decide +kernel
theorem d_House_isBarred_14 : decode prog_4_method_8_code 14 = .ok (.iconst 1, 1) := by decide +kernel
theorem d_House_isBarred_15 : decode prog_4_method_8_code 15 = .ok (.if_icmp .ne 7, 3) := by decide +kernel
theorem d_House_isBarred_18 : decode prog_4_method_8_code 18 = .ok (.iconst 1, 1) := by decide +kernel
theorem d_House_isBarred_19 : decode prog_4_method_8_code 19 = .ok (.goto 4, 3) := by decide +kernel
theorem d_House_isBarred_22 : decode prog_4_method_8_code 22 = .ok (.iconst 0, 1) := by decide +kernel
theorem d_House_isBarred_23 : decode prog_4_method_8_code 23 = .ok (.ireturn, 1) := by decide +kernel
theorem d_House_lets_0 : decode prog_4_method_9_code 0 = .ok (.aload_n 0, 1) := by decide +kernel
theorem d_House_lets_1 : decode prog_4_method_9_code 1 = .ok (.iload_n 2, 1) := by decide +kernel
theorem d_House_lets_2 : decode prog_4_method_9_code 2 = .ok (.iload_n 3, 1) := by decide +kernel
theorem d_House_lets_3 : decode prog_4_method_9_code 3 = .ok (.invokevirtual 80, 3) := by decide +kernel
theorem d_House_lets_6 : decode prog_4_method_9_code 6 = .ok (.ifCond .eq 13, 3) := by decide +kernel
theorem d_House_lets_9 : decode prog_4_method_9_code 9 = .ok (.aload_n 0, 1) := by decide +kernel
theorem d_House_lets_10 : decode prog_4_method_9_code 10 = .ok (.iload_n 1, 1) := by decide +kernel
theorem d_House_lets_11 : decode prog_4_method_9_code 11 = .ok (.iload_n 2, 1) := by decide +kernel
theorem d_House_lets_12 : decode prog_4_method_9_code 12 = .ok (.iload_n 3, 1) := by decide +kernel
theorem d_House_lets_13 : decode prog_4_method_9_code 13 = .ok (.invokevirtual 84, 3) := by decide +kernel
theorem d_House_lets_16 : decode prog_4_method_9_code 16 = .ok (.ifCond .eq 7, 3) := by decide +kernel
theorem d_House_lets_19 : decode prog_4_method_9_code 19 = .ok (.iconst 1, 1) := by decide +kernel
theorem d_House_lets_20 : decode prog_4_method_9_code 20 = .ok (.goto 4, 3) := by decide +kernel
theorem d_House_lets_23 : decode prog_4_method_9_code 23 = .ok (.iconst 0, 1) := by decide +kernel
theorem d_House_lets_24 : decode prog_4_method_9_code 24 = .ok (.ireturn, 1) := by decide +kernel
theorem d_House_owed_0 : decode prog_4_method_10_code 0 = .ok (.aload_n 0, 1) := by decide +kernel
theorem d_House_owed_1 : decode prog_4_method_10_code 1 = .ok (.getfield 30, 3) := by decide +kernel
theorem d_House_owed_4 : decode prog_4_method_10_code 4 = .ok (.aload_n 0, 1) := by decide +kernel
theorem d_House_owed_5 : decode prog_4_method_10_code 5 = .ok (.getfield 18, 3) := by decide +kernel
theorem d_House_owed_8 : decode prog_4_method_10_code 8 = .ok (.iload_n 1, 1) := by decide +kernel
theorem d_House_owed_9 : decode prog_4_method_10_code 9 = .ok (.iaload, 1) := by decide +kernel
theorem d_House_owed_10 : decode prog_4_method_10_code 10 = .ok (.aaload, 1) := by decide +kernel
theorem d_House_owed_11 : decode prog_4_method_10_code 11 = .ok (.aload_n 0, 1) := by decide +kernel
theorem d_House_owed_12 : decode prog_4_method_10_code 12 = .ok (.getfield 21, 3) := by decide +kernel
theorem d_House_owed_15 : decode prog_4_method_10_code 15 = .ok (.iload_n 1, 1) := by decide +kernel
theorem d_House_owed_16 : decode prog_4_method_10_code 16 = .ok (.iaload, 1) := by decide +kernel
theorem d_House_owed_17 : decode prog_4_method_10_code 17 = .ok (.iload_n 2, 1) := by decide +kernel
theorem d_House_owed_18 : decode prog_4_method_10_code 18 = .ok (.aload_n 0, 1) := by decide +kernel
theorem d_House_owed_19 : decode prog_4_method_10_code 19 = .ok (.getfield 9, 3) := by decide +kernel
theorem d_House_owed_22 : decode prog_4_method_10_code 22 = .ok (.iload_n 2, 1) := by decide +kernel
theorem d_House_owed_23 : decode prog_4_method_10_code 23 = .ok (.iaload, 1) := by decide +kernel
theorem d_House_owed_24 : decode prog_4_method_10_code 24 = .ok (.iload_n 2, 1) := by decide +kernel
theorem d_House_owed_25 : decode prog_4_method_10_code 25 = .ok (.iload_n 3, 1) := by decide +kernel
theorem d_House_owed_26 : decode prog_4_method_10_code 26 = .ok (.invokestatic 70, 3) := by decide +kernel
theorem d_House_owed_29 : decode prog_4_method_10_code 29 = .ok (.aload_n 0, 1) := by decide +kernel
theorem d_House_owed_30 : decode prog_4_method_10_code 30 = .ok (.getfield 42, 3) := by decide +kernel
theorem d_House_owed_33 : decode prog_4_method_10_code 33 = .ok (.invokevirtual 88, 3) := by decide +kernel
theorem d_House_owed_36 : decode prog_4_method_10_code 36 = .ok (.ireturn, 1) := by decide +kernel
theorem d_House_priceAs_0 : decode prog_4_method_11_code 0 = .ok (.aload_n 0, 1) := by decide +kernel
theorem d_House_priceAs_1 : decode prog_4_method_11_code 1 = .ok (.getfield 30, 3) := by decide +kernel
theorem d_House_priceAs_4 : decode prog_4_method_11_code 4 = .ok (.iload_n 1, 1) := by decide +kernel
theorem d_House_priceAs_5 : decode prog_4_method_11_code 5 = .ok (.aaload, 1) := by decide +kernel
theorem d_House_priceAs_6 : decode prog_4_method_11_code 6 = .ok (.aload_n 0, 1) := by decide +kernel
theorem d_House_priceAs_7 : decode prog_4_method_11_code 7 = .ok (.getfield 21, 3) := by decide +kernel
theorem d_House_priceAs_10 : decode prog_4_method_11_code 10 = .ok (.iload_n 2, 1) := by decide +kernel
theorem d_House_priceAs_11 : decode prog_4_method_11_code 11 = .ok (.iaload, 1) := by decide +kernel
theorem d_House_priceAs_12 : decode prog_4_method_11_code 12 = .ok (.iload_n 3, 1) := by decide +kernel
theorem d_House_priceAs_13 : decode prog_4_method_11_code 13 = .ok (.aload_n 0, 1) := by decide +kernel
theorem d_House_priceAs_14 : decode prog_4_method_11_code 14 = .ok (.getfield 9, 3) := by decide +kernel
theorem d_House_priceAs_17 : decode prog_4_method_11_code 17 = .ok (.iload_n 3, 1) := by decide +kernel
theorem d_House_priceAs_18 : decode prog_4_method_11_code 18 = .ok (.iaload, 1) := by decide +kernel
theorem d_House_priceAs_19 : decode prog_4_method_11_code 19 = .ok (.iload 4, 2) := by decide +kernel
theorem d_House_priceAs_21 : decode prog_4_method_11_code 21 = .ok (.iload 5, 2) := by decide +kernel
theorem d_House_priceAs_23 : decode prog_4_method_11_code 23 = .ok (.invokevirtual 88, 3) := by decide +kernel
theorem d_House_priceAs_26 : decode prog_4_method_11_code 26 = .ok (.ireturn, 1) := by decide +kernel
theorem d_House_tollTo_0 : decode prog_4_method_12_code 0 = .ok (.iload_n 1, 1) := by decide +kernel
theorem d_House_tollTo_1 : decode prog_4_method_12_code 1 = .ok (.iload_n 2, 1) := by decide +kernel
theorem d_House_tollTo_2 : decode prog_4_method_12_code 2 = .ok (.if_icmp .ne 7, 3) := by decide +kernel
theorem d_House_tollTo_5 : decode prog_4_method_12_code 5 = .ok (.iconst 0, 1) := by decide +kernel
theorem d_House_tollTo_6 : decode prog_4_method_12_code 6 = .ok (.goto 7, 3) := by decide +kernel
theorem d_House_tollTo_9 : decode prog_4_method_12_code 9 = .ok (.aload_n 0, 1) := by decide +kernel
theorem d_House_tollTo_10 : decode prog_4_method_12_code 10 = .ok (.getfield 38, 3) := by decide +kernel
theorem d_House_tollTo_13 : decode prog_4_method_12_code 13 = .ok (.ireturn, 1) := by decide +kernel
theorem d_House_perform_0 : decode prog_4_method_13_code 0 = .ok (.aload_n 0, 1) := by decide +kernel
theorem d_House_perform_1 : decode prog_4_method_13_code 1 = .ok (.iload_n 1, 1) := by decide +kernel
theorem d_House_perform_2 : decode prog_4_method_13_code 2 = .ok (.iload_n 2, 1) := by decide +kernel
theorem d_House_perform_3 : decode prog_4_method_13_code 3 = .ok (.aload_n 0, 1) := by decide +kernel
theorem d_House_perform_4 : decode prog_4_method_13_code 4 = .ok (.getfield 49, 3) := by decide +kernel
theorem d_House_perform_7 : decode prog_4_method_13_code 7 = .ok (.invokevirtual 92, 3) := by decide +kernel
theorem d_House_perform_10 : decode prog_4_method_13_code 10 = .ok (.aload_n 0, 1) := by decide +kernel
theorem d_House_perform_11 : decode prog_4_method_13_code 11 = .ok (.aload_n 0, 1) := by decide +kernel
theorem d_House_perform_12 : decode prog_4_method_13_code 12 = .ok (.getfield 46, 3) := by decide +kernel
theorem d_House_perform_15 : decode prog_4_method_13_code 15 = .ok (.iload_n 2, 1) := by decide +kernel
theorem d_House_perform_16 : decode prog_4_method_13_code 16 = .ok (.invokevirtual 96, 3) := by decide +kernel
theorem d_House_perform_19 : decode prog_4_method_13_code 19 = .ok (.iadd, 1) := by decide +kernel
theorem d_House_perform_20 : decode prog_4_method_13_code 20 = .ok (.istore_n 3, 1) := by decide +kernel
theorem d_House_perform_21 : decode prog_4_method_13_code 21 = .ok (.aload_n 0, 1) := by decide +kernel
theorem d_House_perform_22 : decode prog_4_method_13_code 22 = .ok (.invokevirtual 99, 3) := by decide +kernel
theorem d_House_perform_25 : decode prog_4_method_13_code 25 = .ok (.aload_n 0, 1) := by decide +kernel
theorem d_House_perform_26 : decode prog_4_method_13_code 26 = .ok (.iload_n 2, 1) := by decide +kernel
theorem d_House_perform_27 : decode prog_4_method_13_code 27 = .ok (.putfield 46, 3) := by decide +kernel
theorem d_House_perform_30 : decode prog_4_method_13_code 30 = .ok (.aload_n 0, 1) := by decide +kernel
theorem d_House_perform_31 : decode prog_4_method_13_code 31 = .ok (.aload_n 0, 1) := by decide +kernel
theorem d_House_perform_32 : decode prog_4_method_13_code 32 = .ok (.getfield 49, 3) := by decide +kernel
theorem d_House_perform_35 : decode prog_4_method_13_code 35 = .ok (.iconst 1, 1) := by decide +kernel
theorem d_House_perform_36 : decode prog_4_method_13_code 36 = .ok (.iadd, 1) := by decide +kernel
theorem d_House_perform_37 : decode prog_4_method_13_code 37 = .ok (.bipush 24, 2) := by decide +kernel
theorem d_House_perform_39 : decode prog_4_method_13_code 39 = .ok (.irem, 1) := by decide +kernel
theorem d_House_perform_40 : decode prog_4_method_13_code 40 = .ok (.putfield 49, 3) := by decide +kernel
theorem d_House_perform_43 : decode prog_4_method_13_code 43 = .ok (.aload_n 0, 1) := by decide +kernel
theorem d_House_perform_44 : decode prog_4_method_13_code 44 = .ok (.dup, 1) := by decide +kernel
theorem d_House_perform_45 : decode prog_4_method_13_code 45 = .ok (.getfield 52, 3) := by decide +kernel
theorem d_House_perform_48 : decode prog_4_method_13_code 48 = .ok (.iload_n 3, 1) := by decide +kernel
theorem d_House_perform_49 : decode prog_4_method_13_code 49 = .ok (.iadd, 1) := by decide +kernel
theorem d_House_perform_50 : decode prog_4_method_13_code 50 = .ok (.putfield 52, 3) := by decide +kernel
theorem d_House_perform_53 : decode prog_4_method_13_code 53 = .ok (.iload_n 3, 1) := by decide +kernel
theorem d_House_perform_54 : decode prog_4_method_13_code 54 = .ok (.ireturn, 1) := by decide +kernel
theorem d_House_keepStep_0 : decode prog_4_method_14_code 0 = .ok (.aload_n 0, 1) := by decide +kernel
theorem d_House_keepStep_1 : decode prog_4_method_14_code 1 = .ok (.getfield 61, 3) := by decide +kernel
theorem d_House_keepStep_4 : decode prog_4_method_14_code 4 = .ok (.bipush 8, 2) := by decide +kernel
theorem d_House_keepStep_6 : decode prog_4_method_14_code 6 = .ok (.if_icmp .ne 33, 3) := by decide +kernel
theorem d_House_keepStep_9 : decode prog_4_method_14_code 9 = .ok (.aload_n 0, 1) := by decide +kernel
theorem d_House_keepStep_10 : decode prog_4_method_14_code 10 = .ok (.getfield 27, 3) := by decide +kernel
theorem d_House_keepStep_13 : decode prog_4_method_14_code 13 = .ok (.iconst 4, 1) := by decide +kernel
theorem d_House_keepStep_14 : decode prog_4_method_14_code 14 = .ok (.aload_n 0, 1) := by decide +kernel
theorem d_House_keepStep_15 : decode prog_4_method_14_code 15 = .ok (.getfield 27, 3) := by decide +kernel
theorem d_House_keepStep_18 : decode prog_4_method_14_code 18 = .ok (.iconst 0, 1) := by decide +kernel
theorem d_House_keepStep_19 : decode prog_4_method_14_code 19 = .ok (.aload_n 0, 1) := by decide +kernel
theorem d_House_keepStep_20 : decode prog_4_method_14_code 20 = .ok (.getfield 27, 3) := by decide +kernel
theorem d_House_keepStep_23 : decode prog_4_method_14_code 23 = .ok (.arraylength, 1) := by decide +kernel
theorem d_House_keepStep_24 : decode prog_4_method_14_code 24 = .ok (.iconst 4, 1) := by decide +kernel
theorem d_House_keepStep_25 : decode prog_4_method_14_code 25 = .ok (.isub, 1) := by decide +kernel
theorem d_House_keepStep_26 : decode prog_4_method_14_code 26 = .ok (.invokestatic 64, 3) := by decide +kernel
theorem d_House_keepStep_29 : decode prog_4_method_14_code 29 = .ok (.aload_n 0, 1) := by decide +kernel
theorem d_House_keepStep_30 : decode prog_4_method_14_code 30 = .ok (.dup, 1) := by decide +kernel
theorem d_House_keepStep_31 : decode prog_4_method_14_code 31 = .ok (.getfield 61, 3) := by decide +kernel
theorem d_House_keepStep_34 : decode prog_4_method_14_code 34 = .ok (.iconst 1, 1) := by decide +kernel
theorem d_House_keepStep_35 : decode prog_4_method_14_code 35 = .ok (.isub, 1) := by decide +kernel
theorem d_House_keepStep_36 : decode prog_4_method_14_code 36 = .ok (.putfield 61, 3) := by decide +kernel
theorem d_House_keepStep_39 : decode prog_4_method_14_code 39 = .ok (.aload_n 0, 1) := by decide +kernel
theorem d_House_keepStep_40 : decode prog_4_method_14_code 40 = .ok (.getfield 61, 3) := by decide +kernel
theorem d_House_keepStep_43 : decode prog_4_method_14_code 43 = .ok (.iconst 4, 1) := by decide +kernel
theorem d_House_keepStep_44 : decode prog_4_method_14_code 44 = .ok (.imul, 1) := by decide +kernel
theorem d_House_keepStep_45 : decode prog_4_method_14_code 45 = .ok (.istore_n 1, 1) := by decide +kernel
theorem d_House_keepStep_46 : decode prog_4_method_14_code 46 = .ok (.aload_n 0, 1) := by decide +kernel
theorem d_House_keepStep_47 : decode prog_4_method_14_code 47 = .ok (.getfield 27, 3) := by decide +kernel
theorem d_House_keepStep_50 : decode prog_4_method_14_code 50 = .ok (.iload_n 1, 1) := by decide +kernel
theorem d_House_keepStep_51 : decode prog_4_method_14_code 51 = .ok (.aload_n 0, 1) := by decide +kernel
theorem d_House_keepStep_52 : decode prog_4_method_14_code 52 = .ok (.getfield 46, 3) := by decide +kernel
theorem d_House_keepStep_55 : decode prog_4_method_14_code 55 = .ok (.iastore, 1) := by decide +kernel
theorem d_House_keepStep_56 : decode prog_4_method_14_code 56 = .ok (.aload_n 0, 1) := by decide +kernel
theorem d_House_keepStep_57 : decode prog_4_method_14_code 57 = .ok (.getfield 27, 3) := by decide +kernel
theorem d_House_keepStep_60 : decode prog_4_method_14_code 60 = .ok (.iload_n 1, 1) := by decide +kernel
theorem d_House_keepStep_61 : decode prog_4_method_14_code 61 = .ok (.iconst 1, 1) := by decide +kernel
theorem d_House_keepStep_62 : decode prog_4_method_14_code 62 = .ok (.iadd, 1) := by decide +kernel
theorem d_House_keepStep_63 : decode prog_4_method_14_code 63 = .ok (.aload_n 0, 1) := by decide +kernel
theorem d_House_keepStep_64 : decode prog_4_method_14_code 64 = .ok (.getfield 49, 3) := by decide +kernel
theorem d_House_keepStep_67 : decode prog_4_method_14_code 67 = .ok (.iastore, 1) := by decide +kernel
theorem d_House_keepStep_68 : decode prog_4_method_14_code 68 = .ok (.aload_n 0, 1) := by decide +kernel
theorem d_House_keepStep_69 : decode prog_4_method_14_code 69 = .ok (.getfield 27, 3) := by decide +kernel
theorem d_House_keepStep_72 : decode prog_4_method_14_code 72 = .ok (.iload_n 1, 1) := by decide +kernel
theorem d_House_keepStep_73 : decode prog_4_method_14_code 73 = .ok (.iconst 2, 1) := by decide +kernel
theorem d_House_keepStep_74 : decode prog_4_method_14_code 74 = .ok (.iadd, 1) := by decide +kernel
theorem d_House_keepStep_75 : decode prog_4_method_14_code 75 = .ok (.aload_n 0, 1) := by decide +kernel
theorem d_House_keepStep_76 : decode prog_4_method_14_code 76 = .ok (.getfield 52, 3) := by decide +kernel
theorem d_House_keepStep_79 : decode prog_4_method_14_code 79 = .ok (.iastore, 1) := by decide +kernel
theorem d_House_keepStep_80 : decode prog_4_method_14_code 80 = .ok (.aload_n 0, 1) := by decide +kernel
theorem d_House_keepStep_81 : decode prog_4_method_14_code 81 = .ok (.getfield 27, 3) := by decide +kernel
theorem d_House_keepStep_84 : decode prog_4_method_14_code 84 = .ok (.iload_n 1, 1) := by decide +kernel
theorem d_House_keepStep_85 : decode prog_4_method_14_code 85 = .ok (.iconst 3, 1) := by decide +kernel
theorem d_House_keepStep_86 : decode prog_4_method_14_code 86 = .ok (.iadd, 1) := by decide +kernel
theorem d_House_keepStep_87 : decode prog_4_method_14_code 87 = .ok (.aload_n 0, 1) := by decide +kernel
theorem d_House_keepStep_88 : decode prog_4_method_14_code 88 = .ok (.invokevirtual 102, 3) := by decide +kernel
theorem d_House_keepStep_91 : decode prog_4_method_14_code 91 = .ok (.iastore, 1) := by decide +kernel
theorem d_House_keepStep_92 : decode prog_4_method_14_code 92 = .ok (.aload_n 0, 1) := by decide +kernel
theorem d_House_keepStep_93 : decode prog_4_method_14_code 93 = .ok (.dup, 1) := by decide +kernel
theorem d_House_keepStep_94 : decode prog_4_method_14_code 94 = .ok (.getfield 61, 3) := by decide +kernel
theorem d_House_keepStep_97 : decode prog_4_method_14_code 97 = .ok (.iconst 1, 1) := by decide +kernel
theorem d_House_keepStep_98 : decode prog_4_method_14_code 98 = .ok (.iadd, 1) := by decide +kernel
theorem d_House_keepStep_99 : decode prog_4_method_14_code 99 = .ok (.putfield 61, 3) := by decide +kernel
theorem d_House_keepStep_102 : decode prog_4_method_14_code 102 = .ok (.return_, 1) := by decide +kernel
theorem d_House_takeBack_0 : decode prog_4_method_15_code 0 = .ok (.aload_n 0, 1) := by decide +kernel
theorem d_House_takeBack_1 : decode prog_4_method_15_code 1 = .ok (.dup, 1) := by decide +kernel
theorem d_House_takeBack_2 : decode prog_4_method_15_code 2 = .ok (.getfield 61, 3) := by decide +kernel
theorem d_House_takeBack_5 : decode prog_4_method_15_code 5 = .ok (.iconst 1, 1) := by decide +kernel
theorem d_House_takeBack_6 : decode prog_4_method_15_code 6 = .ok (.isub, 1) := by decide +kernel
theorem d_House_takeBack_7 : decode prog_4_method_15_code 7 = .ok (.putfield 61, 3) := by decide +kernel
theorem d_House_takeBack_10 : decode prog_4_method_15_code 10 = .ok (.aload_n 0, 1) := by decide +kernel
theorem d_House_takeBack_11 : decode prog_4_method_15_code 11 = .ok (.getfield 61, 3) := by decide +kernel
theorem d_House_takeBack_14 : decode prog_4_method_15_code 14 = .ok (.iconst 4, 1) := by decide +kernel
theorem d_House_takeBack_15 : decode prog_4_method_15_code 15 = .ok (.imul, 1) := by decide +kernel
theorem d_House_takeBack_16 : decode prog_4_method_15_code 16 = .ok (.istore_n 1, 1) := by decide +kernel
theorem d_House_takeBack_17 : decode prog_4_method_15_code 17 = .ok (.aload_n 0, 1) := by decide +kernel
theorem d_House_takeBack_18 : decode prog_4_method_15_code 18 = .ok (.aload_n 0, 1) := by decide +kernel
theorem d_House_takeBack_19 : decode prog_4_method_15_code 19 = .ok (.getfield 27, 3) := by decide +kernel
theorem d_House_takeBack_22 : decode prog_4_method_15_code 22 = .ok (.iload_n 1, 1) := by decide +kernel
theorem d_House_takeBack_23 : decode prog_4_method_15_code 23 = .ok (.iaload, 1) := by decide +kernel
theorem d_House_takeBack_24 : decode prog_4_method_15_code 24 = .ok (.putfield 46, 3) := by decide +kernel
theorem d_House_takeBack_27 : decode prog_4_method_15_code 27 = .ok (.aload_n 0, 1) := by decide +kernel
theorem d_House_takeBack_28 : decode prog_4_method_15_code 28 = .ok (.aload_n 0, 1) := by decide +kernel
theorem d_House_takeBack_29 : decode prog_4_method_15_code 29 = .ok (.getfield 27, 3) := by decide +kernel
theorem d_House_takeBack_32 : decode prog_4_method_15_code 32 = .ok (.iload_n 1, 1) := by decide +kernel
theorem d_House_takeBack_33 : decode prog_4_method_15_code 33 = .ok (.iconst 1, 1) := by decide +kernel
theorem d_House_takeBack_34 : decode prog_4_method_15_code 34 = .ok (.iadd, 1) := by decide +kernel
theorem d_House_takeBack_35 : decode prog_4_method_15_code 35 = .ok (.iaload, 1) := by decide +kernel
theorem d_House_takeBack_36 : decode prog_4_method_15_code 36 = .ok (.putfield 49, 3) := by decide +kernel
theorem d_House_takeBack_39 : decode prog_4_method_15_code 39 = .ok (.aload_n 0, 1) := by decide +kernel
theorem d_House_takeBack_40 : decode prog_4_method_15_code 40 = .ok (.aload_n 0, 1) := by decide +kernel
theorem d_House_takeBack_41 : decode prog_4_method_15_code 41 = .ok (.getfield 27, 3) := by decide +kernel
theorem d_House_takeBack_44 : decode prog_4_method_15_code 44 = .ok (.iload_n 1, 1) := by decide +kernel
theorem d_House_takeBack_45 : decode prog_4_method_15_code 45 = .ok (.iconst 2, 1) := by decide +kernel
theorem d_House_takeBack_46 : decode prog_4_method_15_code 46 = .ok (.iadd, 1) := by decide +kernel
theorem d_House_takeBack_47 : decode prog_4_method_15_code 47 = .ok (.iaload, 1) := by decide +kernel
theorem d_House_takeBack_48 : decode prog_4_method_15_code 48 = .ok (.putfield 52, 3) := by decide +kernel
theorem d_House_takeBack_51 : decode prog_4_method_15_code 51 = .ok (.aload_n 0, 1) := by decide +kernel
theorem d_House_takeBack_52 : decode prog_4_method_15_code 52 = .ok (.aload_n 0, 1) := by decide +kernel
theorem d_House_takeBack_53 : decode prog_4_method_15_code 53 = .ok (.getfield 27, 3) := by decide +kernel
theorem d_House_takeBack_56 : decode prog_4_method_15_code 56 = .ok (.iload_n 1, 1) := by decide +kernel
theorem d_House_takeBack_57 : decode prog_4_method_15_code 57 = .ok (.iconst 3, 1) := by decide +kernel
theorem d_House_takeBack_58 : decode prog_4_method_15_code 58 = .ok (.iadd, 1) := by decide +kernel
theorem d_House_takeBack_59 : decode prog_4_method_15_code 59 = .ok (.iaload, 1) := by decide +kernel
theorem d_House_takeBack_60 : decode prog_4_method_15_code 60 = .ok (.iconst 1, 1) := by decide +kernel
theorem d_House_takeBack_61 : decode prog_4_method_15_code 61 = .ok (.if_icmp .ne 7, 3) := by decide +kernel
theorem d_House_takeBack_64 : decode prog_4_method_15_code 64 = .ok (.iconst 1, 1) := by decide +kernel
theorem d_House_takeBack_65 : decode prog_4_method_15_code 65 = .ok (.goto 4, 3) := by decide +kernel
theorem d_House_takeBack_68 : decode prog_4_method_15_code 68 = .ok (.iconst 0, 1) := by decide +kernel
theorem d_House_takeBack_69 : decode prog_4_method_15_code 69 = .ok (.putfield 42, 3) := by decide +kernel
theorem d_House_takeBack_72 : decode prog_4_method_15_code 72 = .ok (.return_, 1) := by decide +kernel
theorem d_House_addedTo_0 : decode prog_4_method_16_code 0 = .ok (.ldc2_w 106, 3) := by decide +kernel
theorem d_House_addedTo_3 : decode prog_4_method_16_code 3 = .ok (.lload_n 1, 1) := by decide +kernel
theorem d_House_addedTo_4 : decode prog_4_method_16_code 4 = .ok (.lmul, 1) := by decide +kernel
theorem d_House_addedTo_5 : decode prog_4_method_16_code 5 = .ok (.aload_n 0, 1) := by decide +kernel
theorem d_House_addedTo_6 : decode prog_4_method_16_code 6 = .ok (.getfield 38, 3) := by decide +kernel
theorem d_House_addedTo_9 : decode prog_4_method_16_code 9 = .ok (.i2l, 1) := by decide +kernel
theorem d_House_addedTo_10 : decode prog_4_method_16_code 10 = .ok (.ladd, 1) := by decide +kernel
theorem d_House_addedTo_11 : decode prog_4_method_16_code 11 = .ok (.lstore_n 3, 1) := by decide +kernel
theorem d_House_addedTo_12 : decode prog_4_method_16_code 12 = .ok (.ldc2_w 106, 3) := by decide +kernel
theorem d_House_addedTo_15 : decode prog_4_method_16_code 15 = .ok (.lload_n 3, 1) := by decide +kernel
theorem d_House_addedTo_16 : decode prog_4_method_16_code 16 = .ok (.lmul, 1) := by decide +kernel
theorem d_House_addedTo_17 : decode prog_4_method_16_code 17 = .ok (.aload_n 0, 1) := by decide +kernel
theorem d_House_addedTo_18 : decode prog_4_method_16_code 18 = .ok (.invokevirtual 102, 3) := by decide +kernel
theorem d_House_addedTo_21 : decode prog_4_method_16_code 21 = .ok (.i2l, 1) := by decide +kernel
theorem d_House_addedTo_22 : decode prog_4_method_16_code 22 = .ok (.ladd, 1) := by decide +kernel
theorem d_House_addedTo_23 : decode prog_4_method_16_code 23 = .ok (.lstore_n 3, 1) := by decide +kernel
theorem d_House_addedTo_24 : decode prog_4_method_16_code 24 = .ok (.iconst 0, 1) := by decide +kernel
theorem d_House_addedTo_25 : decode prog_4_method_16_code 25 = .ok (.istore 5, 2) := by decide +kernel
theorem d_House_addedTo_27 : decode prog_4_method_16_code 27 = .ok (.iload 5, 2) := by decide +kernel
theorem d_House_addedTo_29 : decode prog_4_method_16_code 29 = .ok (.iconst 2, 1) := by decide +kernel
theorem d_House_addedTo_30 : decode prog_4_method_16_code 30 = .ok (.if_icmp .ge 39, 3) := by decide +kernel
theorem d_House_addedTo_33 : decode prog_4_method_16_code 33 = .ok (.ldc2_w 106, 3) := by decide +kernel
theorem d_House_addedTo_36 : decode prog_4_method_16_code 36 = .ok (.lload_n 3, 1) := by decide +kernel
theorem d_House_addedTo_37 : decode prog_4_method_16_code 37 = .ok (.lmul, 1) := by decide +kernel
theorem d_House_addedTo_38 : decode prog_4_method_16_code 38 = .ok (.aload_n 0, 1) := by decide +kernel
theorem d_House_addedTo_39 : decode prog_4_method_16_code 39 = .ok (.getfield 9, 3) := by decide +kernel
theorem d_House_addedTo_42 : decode prog_4_method_16_code 42 = .ok (.iload 5, 2) := by decide +kernel
theorem d_House_addedTo_44 : decode prog_4_method_16_code 44 = .ok (.iaload, 1) := by decide +kernel
theorem d_House_addedTo_45 : decode prog_4_method_16_code 45 = .ok (.i2l, 1) := by decide +kernel
theorem d_House_addedTo_46 : decode prog_4_method_16_code 46 = .ok (.ladd, 1) := by decide +kernel
theorem d_House_addedTo_47 : decode prog_4_method_16_code 47 = .ok (.lstore_n 3, 1) := by decide +kernel
theorem d_House_addedTo_48 : decode prog_4_method_16_code 48 = .ok (.ldc2_w 106, 3) := by decide +kernel
theorem d_House_addedTo_51 : decode prog_4_method_16_code 51 = .ok (.lload_n 3, 1) := by decide +kernel
theorem d_House_addedTo_52 : decode prog_4_method_16_code 52 = .ok (.lmul, 1) := by decide +kernel
theorem d_House_addedTo_53 : decode prog_4_method_16_code 53 = .ok (.aload_n 0, 1) := by decide +kernel
theorem d_House_addedTo_54 : decode prog_4_method_16_code 54 = .ok (.getfield 15, 3) := by decide +kernel
theorem d_House_addedTo_57 : decode prog_4_method_16_code 57 = .ok (.iload 5, 2) := by decide +kernel
theorem d_House_addedTo_59 : decode prog_4_method_16_code 59 = .ok (.iaload, 1) := by decide +kernel
theorem d_House_addedTo_60 : decode prog_4_method_16_code 60 = .ok (.i2l, 1) := by decide +kernel
theorem d_House_addedTo_61 : decode prog_4_method_16_code 61 = .ok (.ladd, 1) := by decide +kernel
theorem d_House_addedTo_62 : decode prog_4_method_16_code 62 = .ok (.lstore_n 3, 1) := by decide +kernel
theorem d_House_addedTo_63 : decode prog_4_method_16_code 63 = .ok (.iinc 5 1, 3) := by decide +kernel
theorem d_House_addedTo_66 : decode prog_4_method_16_code 66 = .ok (.goto (-39), 3) := by decide +kernel
theorem d_House_addedTo_69 : decode prog_4_method_16_code 69 = .ok (.iconst 0, 1) := by decide +kernel
theorem d_House_addedTo_70 : decode prog_4_method_16_code 70 = .ok (.istore 5, 2) := by decide +kernel
theorem d_House_addedTo_72 : decode prog_4_method_16_code 72 = .ok (.iload 5, 2) := by decide +kernel
theorem d_House_addedTo_74 : decode prog_4_method_16_code 74 = .ok (.aload_n 0, 1) := by decide +kernel
theorem d_House_addedTo_75 : decode prog_4_method_16_code 75 = .ok (.getfield 55, 3) := by decide +kernel
theorem d_House_addedTo_78 : decode prog_4_method_16_code 78 = .ok (.if_icmp .ge 39, 3) := by decide +kernel
theorem d_House_addedTo_81 : decode prog_4_method_16_code 81 = .ok (.ldc2_w 106, 3) := by decide +kernel
theorem d_House_addedTo_84 : decode prog_4_method_16_code 84 = .ok (.lload_n 3, 1) := by decide +kernel
theorem d_House_addedTo_85 : decode prog_4_method_16_code 85 = .ok (.lmul, 1) := by decide +kernel
theorem d_House_addedTo_86 : decode prog_4_method_16_code 86 = .ok (.aload_n 0, 1) := by decide +kernel
theorem d_House_addedTo_87 : decode prog_4_method_16_code 87 = .ok (.getfield 18, 3) := by decide +kernel
theorem d_House_addedTo_90 : decode prog_4_method_16_code 90 = .ok (.iload 5, 2) := by decide +kernel
theorem d_House_addedTo_92 : decode prog_4_method_16_code 92 = .ok (.iaload, 1) := by decide +kernel
theorem d_House_addedTo_93 : decode prog_4_method_16_code 93 = .ok (.i2l, 1) := by decide +kernel
theorem d_House_addedTo_94 : decode prog_4_method_16_code 94 = .ok (.ladd, 1) := by decide +kernel
theorem d_House_addedTo_95 : decode prog_4_method_16_code 95 = .ok (.lstore_n 3, 1) := by decide +kernel
theorem d_House_addedTo_96 : decode prog_4_method_16_code 96 = .ok (.ldc2_w 106, 3) := by decide +kernel
theorem d_House_addedTo_99 : decode prog_4_method_16_code 99 = .ok (.lload_n 3, 1) := by decide +kernel
theorem d_House_addedTo_100 : decode prog_4_method_16_code 100 = .ok (.lmul, 1) := by decide +kernel
theorem d_House_addedTo_101 : decode prog_4_method_16_code 101 = .ok (.aload_n 0, 1) := by decide +kernel
theorem d_House_addedTo_102 : decode prog_4_method_16_code 102 = .ok (.getfield 21, 3) := by decide +kernel
theorem d_House_addedTo_105 : decode prog_4_method_16_code 105 = .ok (.iload 5, 2) := by decide +kernel
theorem d_House_addedTo_107 : decode prog_4_method_16_code 107 = .ok (.iaload, 1) := by decide +kernel
theorem d_House_addedTo_108 : decode prog_4_method_16_code 108 = .ok (.i2l, 1) := by decide +kernel
theorem d_House_addedTo_109 : decode prog_4_method_16_code 109 = .ok (.ladd, 1) := by decide +kernel
theorem d_House_addedTo_110 : decode prog_4_method_16_code 110 = .ok (.lstore_n 3, 1) := by decide +kernel
theorem d_House_addedTo_111 : decode prog_4_method_16_code 111 = .ok (.iinc 5 1, 3) := by decide +kernel
theorem d_House_addedTo_114 : decode prog_4_method_16_code 114 = .ok (.goto (-42), 3) := by decide +kernel
theorem d_House_addedTo_117 : decode prog_4_method_16_code 117 = .ok (.iconst 0, 1) := by decide +kernel
theorem d_House_addedTo_118 : decode prog_4_method_16_code 118 = .ok (.istore 5, 2) := by decide +kernel
theorem d_House_addedTo_120 : decode prog_4_method_16_code 120 = .ok (.iload 5, 2) := by decide +kernel
theorem d_House_addedTo_122 : decode prog_4_method_16_code 122 = .ok (.aload_n 0, 1) := by decide +kernel
theorem d_House_addedTo_123 : decode prog_4_method_16_code 123 = .ok (.getfield 58, 3) := by decide +kernel
theorem d_House_addedTo_126 : decode prog_4_method_16_code 126 = .ok (.iconst 5, 1) := by decide +kernel
theorem d_House_addedTo_127 : decode prog_4_method_16_code 127 = .ok (.imul, 1) := by decide +kernel
theorem d_House_addedTo_128 : decode prog_4_method_16_code 128 = .ok (.if_icmp .ge 24, 3) := by decide +kernel
theorem d_House_addedTo_131 : decode prog_4_method_16_code 131 = .ok (.ldc2_w 106, 3) := by decide +kernel
theorem d_House_addedTo_134 : decode prog_4_method_16_code 134 = .ok (.lload_n 3, 1) := by decide +kernel
theorem d_House_addedTo_135 : decode prog_4_method_16_code 135 = .ok (.lmul, 1) := by decide +kernel
theorem d_House_addedTo_136 : decode prog_4_method_16_code 136 = .ok (.aload_n 0, 1) := by decide +kernel
theorem d_House_addedTo_137 : decode prog_4_method_16_code 137 = .ok (.getfield 24, 3) := by decide +kernel
theorem d_House_addedTo_140 : decode prog_4_method_16_code 140 = .ok (.iload 5, 2) := by decide +kernel
theorem d_House_addedTo_142 : decode prog_4_method_16_code 142 = .ok (.iaload, 1) := by decide +kernel
theorem d_House_addedTo_143 : decode prog_4_method_16_code 143 = .ok (.i2l, 1) := by decide +kernel
theorem d_House_addedTo_144 : decode prog_4_method_16_code 144 = .ok (.ladd, 1) := by decide +kernel
theorem d_House_addedTo_145 : decode prog_4_method_16_code 145 = .ok (.lstore_n 3, 1) := by decide +kernel
theorem d_House_addedTo_146 : decode prog_4_method_16_code 146 = .ok (.iinc 5 1, 3) := by decide +kernel
theorem d_House_addedTo_149 : decode prog_4_method_16_code 149 = .ok (.goto (-29), 3) := by decide +kernel
theorem d_House_addedTo_152 : decode prog_4_method_16_code 152 = .ok (.lload_n 3, 1) := by decide +kernel
theorem d_House_addedTo_153 : decode prog_4_method_16_code 153 = .ok (.lreturn, 1) := by decide +kernel
theorem d_Kiss_init_0 : decode prog_5_method_1_code 0 = .ok (.aload_n 0, 1) := by decide +kernel
theorem d_Kiss_init_1 : decode prog_5_method_1_code 1 = .ok (.invokespecial 1, 3) := by decide +kernel
theorem d_Kiss_init_4 : decode prog_5_method_1_code 4 = .ok (.return_, 1) := by decide +kernel
theorem d_Kiss_price_0 : decode prog_5_method_2_code 0 = .ok (.iconst 0, 1) := by decide +kernel
theorem d_Kiss_price_1 : decode prog_5_method_2_code 1 = .ok (.ireturn, 1) := by decide +kernel
theorem d_Lamp_init_0 : decode prog_6_method_1_code 0 = .ok (.aload_n 0, 1) := by decide +kernel
theorem d_Lamp_init_1 : decode prog_6_method_1_code 1 = .ok (.invokespecial 1, 3) := by decide +kernel
theorem d_Lamp_init_4 : decode prog_6_method_1_code 4 = .ok (.return_, 1) := by decide +kernel
theorem d_Lamp_price_0 : decode prog_6_method_2_code 0 = .ok (.aload_n 0, 1) := by decide +kernel
theorem d_Lamp_price_1 : decode prog_6_method_2_code 1 = .ok (.iload_n 1, 1) := by decide +kernel
theorem d_Lamp_price_2 : decode prog_6_method_2_code 2 = .ok (.iload_n 2, 1) := by decide +kernel
theorem d_Lamp_price_3 : decode prog_6_method_2_code 3 = .ok (.iload_n 3, 1) := by decide +kernel
theorem d_Lamp_price_4 : decode prog_6_method_2_code 4 = .ok (.iload 4, 2) := by decide +kernel
theorem d_Lamp_price_6 : decode prog_6_method_2_code 6 = .ok (.iload 5, 2) := by decide +kernel
theorem d_Lamp_price_8 : decode prog_6_method_2_code 8 = .ok (.invokespecial 7, 3) := by decide +kernel
theorem d_Lamp_price_11 : decode prog_6_method_2_code 11 = .ok (.istore 6, 2) := by decide +kernel
theorem d_Lamp_price_13 : decode prog_6_method_2_code 13 = .ok (.iload_n 2, 1) := by decide +kernel
theorem d_Lamp_price_14 : decode prog_6_method_2_code 14 = .ok (.iconst 1, 1) := by decide +kernel
theorem d_Lamp_price_15 : decode prog_6_method_2_code 15 = .ok (.if_icmp .ne 14, 3) := by decide +kernel
theorem d_Lamp_price_18 : decode prog_6_method_2_code 18 = .ok (.iload 6, 2) := by decide +kernel
theorem d_Lamp_price_20 : decode prog_6_method_2_code 20 = .ok (.iconst 1, 1) := by decide +kernel
theorem d_Lamp_price_21 : decode prog_6_method_2_code 21 = .ok (.isub, 1) := by decide +kernel
theorem d_Lamp_price_22 : decode prog_6_method_2_code 22 = .ok (.iconst 0, 1) := by decide +kernel
theorem d_Lamp_price_23 : decode prog_6_method_2_code 23 = .ok (.invokestatic 11, 3) := by decide +kernel
theorem d_Lamp_price_26 : decode prog_6_method_2_code 26 = .ok (.goto 5, 3) := by decide +kernel
theorem d_Lamp_price_29 : decode prog_6_method_2_code 29 = .ok (.iload 6, 2) := by decide +kernel
theorem d_Lamp_price_31 : decode prog_6_method_2_code 31 = .ok (.ireturn, 1) := by decide +kernel
theorem d_Lamp_passes_0 : decode prog_6_method_3_code 0 = .ok (.iload_n 2, 1) := by decide +kernel
theorem d_Lamp_passes_1 : decode prog_6_method_3_code 1 = .ok (.ifCond .ne 16, 3) := by decide +kernel
theorem d_Lamp_passes_4 : decode prog_6_method_3_code 4 = .ok (.aload_n 0, 1) := by decide +kernel
theorem d_Lamp_passes_5 : decode prog_6_method_3_code 5 = .ok (.iload_n 1, 1) := by decide +kernel
theorem d_Lamp_passes_6 : decode prog_6_method_3_code 6 = .ok (.iload_n 2, 1) := by decide +kernel
theorem d_Lamp_passes_7 : decode prog_6_method_3_code 7 = .ok (.invokespecial 17, 3) := by decide +kernel
theorem d_Lamp_passes_10 : decode prog_6_method_3_code 10 = .ok (.ifCond .eq 7, 3) := by decide +kernel
theorem d_Lamp_passes_13 : decode prog_6_method_3_code 13 = .ok (.iconst 1, 1) := by decide +kernel
theorem d_Lamp_passes_14 : decode prog_6_method_3_code 14 = .ok (.goto 4, 3) := by decide +kernel
theorem d_Lamp_passes_17 : decode prog_6_method_3_code 17 = .ok (.iconst 0, 1) := by decide +kernel
theorem d_Lamp_passes_18 : decode prog_6_method_3_code 18 = .ok (.ireturn, 1) := by decide +kernel
theorem d_Plain_init_0 : decode prog_7_method_1_code 0 = .ok (.aload_n 0, 1) := by decide +kernel
theorem d_Plain_init_1 : decode prog_7_method_1_code 1 = .ok (.invokespecial 1, 3) := by decide +kernel
theorem d_Plain_init_4 : decode prog_7_method_1_code 4 = .ok (.return_, 1) := by decide +kernel
theorem d_Plain_price_0 : decode prog_7_method_2_code 0 = .ok (.iload_n 3, 1) := by decide +kernel
theorem d_Plain_price_1 : decode prog_7_method_2_code 1 = .ok (.iload_n 1, 1) := by decide +kernel
theorem d_Plain_price_2 : decode prog_7_method_2_code 2 = .ok (.iconst 5, 1) := by decide +kernel
theorem d_Plain_price_3 : decode prog_7_method_2_code 3 = .ok (.idiv, 1) := by decide +kernel
theorem d_Plain_price_4 : decode prog_7_method_2_code 4 = .ok (.iadd, 1) := by decide +kernel
theorem d_Plain_price_5 : decode prog_7_method_2_code 5 = .ok (.ireturn, 1) := by decide +kernel
theorem d_Plain_passes_0 : decode prog_7_method_3_code 0 = .ok (.iconst 0, 1) := by decide +kernel
theorem d_Plain_passes_1 : decode prog_7_method_3_code 1 = .ok (.ireturn, 1) := by decide +kernel
theorem d_Planner_init_0 : decode prog_8_method_1_code 0 = .ok (.aload_n 0, 1) := by decide +kernel
theorem d_Planner_init_1 : decode prog_8_method_1_code 1 = .ok (.invokespecial 3, 3) := by decide +kernel
theorem d_Planner_init_4 : decode prog_8_method_1_code 4 = .ok (.aload_n 0, 1) := by decide +kernel
theorem d_Planner_init_5 : decode prog_8_method_1_code 5 = .ok (.sipush 3200, 3) := by decide +kernel
theorem d_Planner_init_8 : decode prog_8_method_1_code 8 = .ok (.newarray .int, 2) := by decide +kernel
theorem d_Planner_init_10 : decode prog_8_method_1_code 10 = .ok (.putfield 11, 3) := by decide +kernel
theorem d_Planner_init_13 : decode prog_8_method_1_code 13 = .ok (.aload_n 0, 1) := by decide +kernel
theorem d_Planner_init_14 : decode prog_8_method_1_code 14 = .ok (.sipush 288, 3) := by decide +kernel
theorem d_Planner_init_17 : decode prog_8_method_1_code 17 = .ok (.newarray .int, 2) := by decide +kernel
theorem d_Planner_init_19 : decode prog_8_method_1_code 19 = .ok (.putfield 15, 3) := by decide +kernel
theorem d_Planner_init_22 : decode prog_8_method_1_code 22 = .ok (.aload_n 0, 1) := by decide +kernel
theorem d_Planner_init_23 : decode prog_8_method_1_code 23 = .ok (.aload_n 1, 1) := by decide +kernel
theorem d_Planner_init_24 : decode prog_8_method_1_code 24 = .ok (.putfield 18, 3) := by decide +kernel
theorem d_Planner_init_27 : decode prog_8_method_1_code 27 = .ok (.return_, 1) := by decide +kernel
theorem d_Planner_leastCost_0 : decode prog_8_method_2_code 0 = .ok (.aload_n 0, 1) := by decide +kernel
theorem d_Planner_leastCost_1 : decode prog_8_method_2_code 1 = .ok (.invokevirtual 22, 3) := by decide +kernel
theorem d_Planner_leastCost_4 : decode prog_8_method_2_code 4 = .ok (.bipush 23, 2) := by decide +kernel
theorem d_Planner_leastCost_6 : decode prog_8_method_2_code 6 = .ok (.istore_n 1, 1) := by decide +kernel
theorem d_Planner_leastCost_7 : decode prog_8_method_2_code 7 = .ok (.iload_n 1, 1) := by decide +kernel
theorem d_Planner_leastCost_8 : decode prog_8_method_2_code 8 = .ok (.aload_n 0, 1) := by decide +kernel
theorem d_Planner_leastCost_9 : decode prog_8_method_2_code 9 = .ok (.getfield 18, 3) := by decide +kernel
theorem d_Planner_leastCost_12 : decode prog_8_method_2_code 12 = .ok (.getfield 25, 3) := by decide +kernel
theorem d_Planner_leastCost_15 : decode prog_8_method_2_code 15 = .ok (.if_icmp .lt 19, 3) := by decide +kernel
theorem d_Planner_leastCost_18 : decode prog_8_method_2_code 18 = .ok (.aload_n 0, 1) := by decide +kernel
theorem d_Planner_leastCost_19 : decode prog_8_method_2_code 19 = .ok (.iload_n 1, 1) := by decide +kernel
theorem d_Planner_leastCost_20 : decode prog_8_method_2_code 20 = .ok (.invokevirtual 31, 3) := by decide +kernel
theorem d_Planner_leastCost_23 : decode prog_8_method_2_code 23 = .ok (.aload_n 0, 1) := by decide +kernel
theorem d_Planner_leastCost_24 : decode prog_8_method_2_code 24 = .ok (.iload_n 1, 1) := by decide +kernel
theorem d_Planner_leastCost_25 : decode prog_8_method_2_code 25 = .ok (.invokevirtual 35, 3) := by decide +kernel
theorem d_Planner_leastCost_28 : decode prog_8_method_2_code 28 = .ok (.iinc 1 (-1), 3) := by decide +kernel
theorem d_Planner_leastCost_31 : decode prog_8_method_2_code 31 = .ok (.goto (-24), 3) := by decide +kernel
theorem d_Planner_leastCost_34 : decode prog_8_method_2_code 34 = .ok (.aload_n 0, 1) := by decide +kernel
theorem d_Planner_leastCost_35 : decode prog_8_method_2_code 35 = .ok (.getfield 11, 3) := by decide +kernel
theorem d_Planner_leastCost_38 : decode prog_8_method_2_code 38 = .ok (.aload_n 0, 1) := by decide +kernel
theorem d_Planner_leastCost_39 : decode prog_8_method_2_code 39 = .ok (.getfield 18, 3) := by decide +kernel
theorem d_Planner_leastCost_42 : decode prog_8_method_2_code 42 = .ok (.getfield 25, 3) := by decide +kernel
theorem d_Planner_leastCost_45 : decode prog_8_method_2_code 45 = .ok (.aload_n 0, 1) := by decide +kernel
theorem d_Planner_leastCost_46 : decode prog_8_method_2_code 46 = .ok (.getfield 18, 3) := by decide +kernel
theorem d_Planner_leastCost_49 : decode prog_8_method_2_code 49 = .ok (.getfield 38, 3) := by decide +kernel
theorem d_Planner_leastCost_52 : decode prog_8_method_2_code 52 = .ok (.invokestatic 41, 3) := by decide +kernel
theorem d_Planner_leastCost_55 : decode prog_8_method_2_code 55 = .ok (.iaload, 1) := by decide +kernel
theorem d_Planner_leastCost_56 : decode prog_8_method_2_code 56 = .ok (.istore_n 1, 1) := by decide +kernel
theorem d_Planner_leastCost_57 : decode prog_8_method_2_code 57 = .ok (.iload_n 1, 1) := by decide +kernel
theorem d_Planner_leastCost_58 : decode prog_8_method_2_code 58 = .ok (.ldc 45, 2) := by decide +kernel
theorem d_Planner_leastCost_60 : decode prog_8_method_2_code 60 = .ok (.if_icmp .ge 7, 3) := by decide +kernel
theorem d_Planner_leastCost_63 : decode prog_8_method_2_code 63 = .ok (.iload_n 1, 1) := by decide +kernel
theorem d_Planner_leastCost_64 : decode prog_8_method_2_code 64 = .ok (.goto 4, 3) := by decide +kernel
theorem d_Planner_leastCost_67 : decode prog_8_method_2_code 67 = .ok (.iconst (-1), 1) := by decide +kernel
theorem d_Planner_leastCost_68 : decode prog_8_method_2_code 68 = .ok (.ireturn, 1) := by decide +kernel
theorem d_Planner_allDone_0 : decode prog_8_method_3_code 0 = .ok (.iconst 1, 1) := by decide +kernel
theorem d_Planner_allDone_1 : decode prog_8_method_3_code 1 = .ok (.aload_n 0, 1) := by decide +kernel
theorem d_Planner_allDone_2 : decode prog_8_method_3_code 2 = .ok (.getfield 18, 3) := by decide +kernel
theorem d_Planner_allDone_5 : decode prog_8_method_3_code 5 = .ok (.getfield 46, 3) := by decide +kernel
theorem d_Planner_allDone_8 : decode prog_8_method_3_code 8 = .ok (.ishl, 1) := by decide +kernel
theorem d_Planner_allDone_9 : decode prog_8_method_3_code 9 = .ok (.iconst 1, 1) := by decide +kernel
theorem d_Planner_allDone_10 : decode prog_8_method_3_code 10 = .ok (.isub, 1) := by decide +kernel
theorem d_Planner_allDone_11 : decode prog_8_method_3_code 11 = .ok (.ireturn, 1) := by decide +kernel
theorem d_Planner_endOfDay_0 : decode prog_8_method_4_code 0 = .ok (.aload_n 0, 1) := by decide +kernel
theorem d_Planner_endOfDay_1 : decode prog_8_method_4_code 1 = .ok (.invokevirtual 49, 3) := by decide +kernel
theorem d_Planner_endOfDay_4 : decode prog_8_method_4_code 4 = .ok (.istore_n 1, 1) := by decide +kernel
theorem d_Planner_endOfDay_5 : decode prog_8_method_4_code 5 = .ok (.iconst 0, 1) := by decide +kernel
theorem d_Planner_endOfDay_6 : decode prog_8_method_4_code 6 = .ok (.istore_n 2, 1) := by decide +kernel
theorem d_Planner_endOfDay_7 : decode prog_8_method_4_code 7 = .ok (.iload_n 2, 1) := by decide +kernel
theorem d_Planner_endOfDay_8 : decode prog_8_method_4_code 8 = .ok (.iconst 2, 1) := by decide +kernel
theorem d_Planner_endOfDay_9 : decode prog_8_method_4_code 9 = .ok (.if_icmp .ge 46, 3) := by decide +kernel
theorem d_Planner_endOfDay_12 : decode prog_8_method_4_code 12 = .ok (.iconst 0, 1) := by decide +kernel
theorem d_Planner_endOfDay_13 : decode prog_8_method_4_code 13 = .ok (.istore_n 3, 1) := by decide +kernel
theorem d_Planner_endOfDay_14 : decode prog_8_method_4_code 14 = .ok (.iload_n 3, 1) := by decide +kernel
theorem d_Planner_endOfDay_15 : decode prog_8_method_4_code 15 = .ok (.iload_n 1, 1) := by decide +kernel
theorem d_Planner_endOfDay_16 : decode prog_8_method_4_code 16 = .ok (.if_icmp .gt 33, 3) := by decide +kernel
theorem d_Planner_endOfDay_19 : decode prog_8_method_4_code 19 = .ok (.aload_n 0, 1) := by decide +kernel
theorem d_Planner_endOfDay_20 : decode prog_8_method_4_code 20 = .ok (.getfield 11, 3) := by decide +kernel
theorem d_Planner_endOfDay_23 : decode prog_8_method_4_code 23 = .ok (.bipush 24, 2) := by decide +kernel
theorem d_Planner_endOfDay_25 : decode prog_8_method_4_code 25 = .ok (.iload_n 2, 1) := by decide +kernel
theorem d_Planner_endOfDay_26 : decode prog_8_method_4_code 26 = .ok (.invokestatic 41, 3) := by decide +kernel
theorem d_Planner_endOfDay_29 : decode prog_8_method_4_code 29 = .ok (.iload_n 3, 1) := by decide +kernel
theorem d_Planner_endOfDay_30 : decode prog_8_method_4_code 30 = .ok (.iadd, 1) := by decide +kernel
theorem d_Planner_endOfDay_31 : decode prog_8_method_4_code 31 = .ok (.iload_n 3, 1) := by decide +kernel
theorem d_Planner_endOfDay_32 : decode prog_8_method_4_code 32 = .ok (.iload_n 1, 1) := by decide +kernel
theorem d_Planner_endOfDay_33 : decode prog_8_method_4_code 33 = .ok (.if_icmp .ne 7, 3) := by decide +kernel
theorem d_Planner_endOfDay_36 : decode prog_8_method_4_code 36 = .ok (.iconst 0, 1) := by decide +kernel
theorem d_Planner_endOfDay_37 : decode prog_8_method_4_code 37 = .ok (.goto 5, 3) := by decide +kernel
theorem d_Planner_endOfDay_40 : decode prog_8_method_4_code 40 = .ok (.ldc 45, 2) := by decide +kernel
theorem d_Planner_endOfDay_42 : decode prog_8_method_4_code 42 = .ok (.iastore, 1) := by decide +kernel
theorem d_Planner_endOfDay_43 : decode prog_8_method_4_code 43 = .ok (.iinc 3 1, 3) := by decide +kernel
theorem d_Planner_endOfDay_46 : decode prog_8_method_4_code 46 = .ok (.goto (-32), 3) := by decide +kernel
theorem d_Planner_endOfDay_49 : decode prog_8_method_4_code 49 = .ok (.iinc 2 1, 3) := by decide +kernel
theorem d_Planner_endOfDay_52 : decode prog_8_method_4_code 52 = .ok (.goto (-45), 3) := by decide +kernel
theorem d_Planner_endOfDay_55 : decode prog_8_method_4_code 55 = .ok (.return_, 1) := by decide +kernel
theorem d_Planner_priceHour_0 : decode prog_8_method_5_code 0 = .ok (.iconst 0, 1) := by decide +kernel
theorem d_Planner_priceHour_1 : decode prog_8_method_5_code 1 = .ok (.istore_n 2, 1) := by decide +kernel
theorem d_Planner_priceHour_2 : decode prog_8_method_5_code 2 = .ok (.iload_n 2, 1) := by decide +kernel
theorem d_Planner_priceHour_3 : decode prog_8_method_5_code 3 = .ok (.iconst 2, 1) := by decide +kernel
theorem d_Planner_priceHour_4 : decode prog_8_method_5_code 4 = .ok (.if_icmp .ge 72, 3) := by decide +kernel
theorem d_Planner_priceHour_7 : decode prog_8_method_5_code 7 = .ok (.iconst 0, 1) := by decide +kernel
theorem d_Planner_priceHour_8 : decode prog_8_method_5_code 8 = .ok (.istore_n 3, 1) := by decide +kernel
theorem d_Planner_priceHour_9 : decode prog_8_method_5_code 9 = .ok (.iload_n 3, 1) := by decide +kernel
theorem d_Planner_priceHour_10 : decode prog_8_method_5_code 10 = .ok (.aload_n 0, 1) := by decide +kernel
theorem d_Planner_priceHour_11 : decode prog_8_method_5_code 11 = .ok (.getfield 18, 3) := by decide +kernel
theorem d_Planner_priceHour_14 : decode prog_8_method_5_code 14 = .ok (.getfield 46, 3) := by decide +kernel
theorem d_Planner_priceHour_17 : decode prog_8_method_5_code 17 = .ok (.if_icmp .ge 53, 3) := by decide +kernel
theorem d_Planner_priceHour_20 : decode prog_8_method_5_code 20 = .ok (.aload_n 0, 1) := by decide +kernel
theorem d_Planner_priceHour_21 : decode prog_8_method_5_code 21 = .ok (.getfield 18, 3) := by decide +kernel
theorem d_Planner_priceHour_24 : decode prog_8_method_5_code 24 = .ok (.iload_n 3, 1) := by decide +kernel
theorem d_Planner_priceHour_25 : decode prog_8_method_5_code 25 = .ok (.iload_n 2, 1) := by decide +kernel
theorem d_Planner_priceHour_26 : decode prog_8_method_5_code 26 = .ok (.iload_n 1, 1) := by decide +kernel
theorem d_Planner_priceHour_27 : decode prog_8_method_5_code 27 = .ok (.invokevirtual 53, 3) := by decide +kernel
theorem d_Planner_priceHour_30 : decode prog_8_method_5_code 30 = .ok (.istore 4, 2) := by decide +kernel
theorem d_Planner_priceHour_32 : decode prog_8_method_5_code 32 = .ok (.aload_n 0, 1) := by decide +kernel
theorem d_Planner_priceHour_33 : decode prog_8_method_5_code 33 = .ok (.getfield 15, 3) := by decide +kernel
theorem d_Planner_priceHour_36 : decode prog_8_method_5_code 36 = .ok (.iload_n 1, 1) := by decide +kernel
theorem d_Planner_priceHour_37 : decode prog_8_method_5_code 37 = .ok (.iload_n 2, 1) := by decide +kernel
theorem d_Planner_priceHour_38 : decode prog_8_method_5_code 38 = .ok (.invokestatic 57, 3) := by decide +kernel
theorem d_Planner_priceHour_41 : decode prog_8_method_5_code 41 = .ok (.iload_n 3, 1) := by decide +kernel
theorem d_Planner_priceHour_42 : decode prog_8_method_5_code 42 = .ok (.iadd, 1) := by decide +kernel
theorem d_Planner_priceHour_43 : decode prog_8_method_5_code 43 = .ok (.iload 4, 2) := by decide +kernel
theorem d_Planner_priceHour_45 : decode prog_8_method_5_code 45 = .ok (.ifCond .eq 16, 3) := by decide +kernel
theorem d_Planner_priceHour_48 : decode prog_8_method_5_code 48 = .ok (.aload_n 0, 1) := by decide +kernel
theorem d_Planner_priceHour_49 : decode prog_8_method_5_code 49 = .ok (.getfield 18, 3) := by decide +kernel
theorem d_Planner_priceHour_52 : decode prog_8_method_5_code 52 = .ok (.iload_n 3, 1) := by decide +kernel
theorem d_Planner_priceHour_53 : decode prog_8_method_5_code 53 = .ok (.iload_n 2, 1) := by decide +kernel
theorem d_Planner_priceHour_54 : decode prog_8_method_5_code 54 = .ok (.iload_n 1, 1) := by decide +kernel
theorem d_Planner_priceHour_55 : decode prog_8_method_5_code 55 = .ok (.invokevirtual 60, 3) := by decide +kernel
theorem d_Planner_priceHour_58 : decode prog_8_method_5_code 58 = .ok (.goto 5, 3) := by decide +kernel
theorem d_Planner_priceHour_61 : decode prog_8_method_5_code 61 = .ok (.ldc 45, 2) := by decide +kernel
theorem d_Planner_priceHour_63 : decode prog_8_method_5_code 63 = .ok (.iastore, 1) := by decide +kernel
theorem d_Planner_priceHour_64 : decode prog_8_method_5_code 64 = .ok (.iinc 3 1, 3) := by decide +kernel
theorem d_Planner_priceHour_67 : decode prog_8_method_5_code 67 = .ok (.goto (-58), 3) := by decide +kernel
theorem d_Planner_priceHour_70 : decode prog_8_method_5_code 70 = .ok (.iinc 2 1, 3) := by decide +kernel
theorem d_Planner_priceHour_73 : decode prog_8_method_5_code 73 = .ok (.goto (-71), 3) := by decide +kernel
theorem d_Planner_priceHour_76 : decode prog_8_method_5_code 76 = .ok (.return_, 1) := by decide +kernel
theorem d_Planner_fillHour_0 : decode prog_8_method_6_code 0 = .ok (.aload_n 0, 1) := by decide +kernel
theorem d_Planner_fillHour_1 : decode prog_8_method_6_code 1 = .ok (.invokevirtual 49, 3) := by decide +kernel
theorem d_Planner_fillHour_4 : decode prog_8_method_6_code 4 = .ok (.istore_n 2, 1) := by decide +kernel
theorem d_Planner_fillHour_5 : decode prog_8_method_6_code 5 = .ok (.iconst 0, 1) := by decide +kernel
theorem d_Planner_fillHour_6 : decode prog_8_method_6_code 6 = .ok (.istore_n 3, 1) := by decide +kernel
theorem d_Planner_fillHour_7 : decode prog_8_method_6_code 7 = .ok (.iload_n 3, 1) := by decide +kernel
theorem d_Planner_fillHour_8 : decode prog_8_method_6_code 8 = .ok (.iload_n 2, 1) := by decide +kernel
theorem d_Planner_fillHour_9 : decode prog_8_method_6_code 9 = .ok (.if_icmp .gt 115, 3) := by decide +kernel
theorem d_Planner_fillHour_12 : decode prog_8_method_6_code 12 = .ok (.aload_n 0, 1) := by decide +kernel
theorem d_Planner_fillHour_13 : decode prog_8_method_6_code 13 = .ok (.iconst 0, 1) := by decide +kernel
theorem d_Planner_fillHour_14 : decode prog_8_method_6_code 14 = .ok (.iload_n 1, 1) := by decide +kernel
theorem d_Planner_fillHour_15 : decode prog_8_method_6_code 15 = .ok (.iload_n 3, 1) := by decide +kernel
theorem d_Planner_fillHour_16 : decode prog_8_method_6_code 16 = .ok (.invokevirtual 64, 3) := by decide +kernel
theorem d_Planner_fillHour_19 : decode prog_8_method_6_code 19 = .ok (.istore 4, 2) := by decide +kernel
theorem d_Planner_fillHour_21 : decode prog_8_method_6_code 21 = .ok (.aload_n 0, 1) := by decide +kernel
theorem d_Planner_fillHour_22 : decode prog_8_method_6_code 22 = .ok (.iconst 1, 1) := by decide +kernel
theorem d_Planner_fillHour_23 : decode prog_8_method_6_code 23 = .ok (.iload_n 1, 1) := by decide +kernel
theorem d_Planner_fillHour_24 : decode prog_8_method_6_code 24 = .ok (.iload_n 3, 1) := by decide +kernel
theorem d_Planner_fillHour_25 : decode prog_8_method_6_code 25 = .ok (.invokevirtual 64, 3) := by decide +kernel
theorem d_Planner_fillHour_28 : decode prog_8_method_6_code 28 = .ok (.istore 5, 2) := by decide +kernel
theorem d_Planner_fillHour_30 : decode prog_8_method_6_code 30 = .ok (.aload_n 0, 1) := by decide +kernel
theorem d_Planner_fillHour_31 : decode prog_8_method_6_code 31 = .ok (.getfield 11, 3) := by decide +kernel
theorem d_Planner_fillHour_34 : decode prog_8_method_6_code 34 = .ok (.iload_n 1, 1) := by decide +kernel
theorem d_Planner_fillHour_35 : decode prog_8_method_6_code 35 = .ok (.iconst 0, 1) := by decide +kernel
theorem d_Planner_fillHour_36 : decode prog_8_method_6_code 36 = .ok (.invokestatic 41, 3) := by decide +kernel
theorem d_Planner_fillHour_39 : decode prog_8_method_6_code 39 = .ok (.iload_n 3, 1) := by decide +kernel
theorem d_Planner_fillHour_40 : decode prog_8_method_6_code 40 = .ok (.iadd, 1) := by decide +kernel
theorem d_Planner_fillHour_41 : decode prog_8_method_6_code 41 = .ok (.aload_n 0, 1) := by decide +kernel
theorem d_Planner_fillHour_42 : decode prog_8_method_6_code 42 = .ok (.getfield 11, 3) := by decide +kernel
theorem d_Planner_fillHour_45 : decode prog_8_method_6_code 45 = .ok (.iload_n 1, 1) := by decide +kernel
theorem d_Planner_fillHour_46 : decode prog_8_method_6_code 46 = .ok (.iconst 1, 1) := by decide +kernel
theorem d_Planner_fillHour_47 : decode prog_8_method_6_code 47 = .ok (.iadd, 1) := by decide +kernel
theorem d_Planner_fillHour_48 : decode prog_8_method_6_code 48 = .ok (.iconst 0, 1) := by decide +kernel
theorem d_Planner_fillHour_49 : decode prog_8_method_6_code 49 = .ok (.invokestatic 41, 3) := by decide +kernel
theorem d_Planner_fillHour_52 : decode prog_8_method_6_code 52 = .ok (.iload_n 3, 1) := by decide +kernel
theorem d_Planner_fillHour_53 : decode prog_8_method_6_code 53 = .ok (.iadd, 1) := by decide +kernel
theorem d_Planner_fillHour_54 : decode prog_8_method_6_code 54 = .ok (.iaload, 1) := by decide +kernel
theorem d_Planner_fillHour_55 : decode prog_8_method_6_code 55 = .ok (.iload 4, 2) := by decide +kernel
theorem d_Planner_fillHour_57 : decode prog_8_method_6_code 57 = .ok (.iload 5, 2) := by decide +kernel
theorem d_Planner_fillHour_59 : decode prog_8_method_6_code 59 = .ok (.aload_n 0, 1) := by decide +kernel
theorem d_Planner_fillHour_60 : decode prog_8_method_6_code 60 = .ok (.getfield 18, 3) := by decide +kernel
theorem d_Planner_fillHour_63 : decode prog_8_method_6_code 63 = .ok (.getfield 67, 3) := by decide +kernel
theorem d_Planner_fillHour_66 : decode prog_8_method_6_code 66 = .ok (.iadd, 1) := by decide +kernel
theorem d_Planner_fillHour_67 : decode prog_8_method_6_code 67 = .ok (.invokestatic 70, 3) := by decide +kernel
theorem d_Planner_fillHour_70 : decode prog_8_method_6_code 70 = .ok (.invokestatic 70, 3) := by decide +kernel
theorem d_Planner_fillHour_73 : decode prog_8_method_6_code 73 = .ok (.iastore, 1) := by decide +kernel
theorem d_Planner_fillHour_74 : decode prog_8_method_6_code 74 = .ok (.aload_n 0, 1) := by decide +kernel
theorem d_Planner_fillHour_75 : decode prog_8_method_6_code 75 = .ok (.getfield 11, 3) := by decide +kernel
theorem d_Planner_fillHour_78 : decode prog_8_method_6_code 78 = .ok (.iload_n 1, 1) := by decide +kernel
theorem d_Planner_fillHour_79 : decode prog_8_method_6_code 79 = .ok (.iconst 1, 1) := by decide +kernel
theorem d_Planner_fillHour_80 : decode prog_8_method_6_code 80 = .ok (.invokestatic 41, 3) := by decide +kernel
theorem d_Planner_fillHour_83 : decode prog_8_method_6_code 83 = .ok (.iload_n 3, 1) := by decide +kernel
theorem d_Planner_fillHour_84 : decode prog_8_method_6_code 84 = .ok (.iadd, 1) := by decide +kernel
theorem d_Planner_fillHour_85 : decode prog_8_method_6_code 85 = .ok (.aload_n 0, 1) := by decide +kernel
theorem d_Planner_fillHour_86 : decode prog_8_method_6_code 86 = .ok (.getfield 11, 3) := by decide +kernel
theorem d_Planner_fillHour_89 : decode prog_8_method_6_code 89 = .ok (.iload_n 1, 1) := by decide +kernel
theorem d_Planner_fillHour_90 : decode prog_8_method_6_code 90 = .ok (.iconst 1, 1) := by decide +kernel
theorem d_Planner_fillHour_91 : decode prog_8_method_6_code 91 = .ok (.iadd, 1) := by decide +kernel
theorem d_Planner_fillHour_92 : decode prog_8_method_6_code 92 = .ok (.iconst 1, 1) := by decide +kernel
theorem d_Planner_fillHour_93 : decode prog_8_method_6_code 93 = .ok (.invokestatic 41, 3) := by decide +kernel
theorem d_Planner_fillHour_96 : decode prog_8_method_6_code 96 = .ok (.iload_n 3, 1) := by decide +kernel
theorem d_Planner_fillHour_97 : decode prog_8_method_6_code 97 = .ok (.iadd, 1) := by decide +kernel
theorem d_Planner_fillHour_98 : decode prog_8_method_6_code 98 = .ok (.iaload, 1) := by decide +kernel
theorem d_Planner_fillHour_99 : decode prog_8_method_6_code 99 = .ok (.iload 5, 2) := by decide +kernel
theorem d_Planner_fillHour_101 : decode prog_8_method_6_code 101 = .ok (.iload 4, 2) := by decide +kernel
theorem d_Planner_fillHour_103 : decode prog_8_method_6_code 103 = .ok (.aload_n 0, 1) := by decide +kernel
theorem d_Planner_fillHour_104 : decode prog_8_method_6_code 104 = .ok (.getfield 18, 3) := by decide +kernel
theorem d_Planner_fillHour_107 : decode prog_8_method_6_code 107 = .ok (.getfield 67, 3) := by decide +kernel
theorem d_Planner_fillHour_110 : decode prog_8_method_6_code 110 = .ok (.iadd, 1) := by decide +kernel
theorem d_Planner_fillHour_111 : decode prog_8_method_6_code 111 = .ok (.invokestatic 70, 3) := by decide +kernel
theorem d_Planner_fillHour_114 : decode prog_8_method_6_code 114 = .ok (.invokestatic 70, 3) := by decide +kernel
theorem d_Planner_fillHour_117 : decode prog_8_method_6_code 117 = .ok (.iastore, 1) := by decide +kernel
theorem d_Planner_fillHour_118 : decode prog_8_method_6_code 118 = .ok (.iinc 3 1, 3) := by decide +kernel
theorem d_Planner_fillHour_121 : decode prog_8_method_6_code 121 = .ok (.goto (-114), 3) := by decide +kernel
theorem d_Planner_fillHour_124 : decode prog_8_method_6_code 124 = .ok (.return_, 1) := by decide +kernel
theorem d_Planner_cheapestOn_0 : decode prog_8_method_7_code 0 = .ok (.iload_n 2, 1) := by decide +kernel
theorem d_Planner_cheapestOn_1 : decode prog_8_method_7_code 1 = .ok (.iconst 1, 1) := by decide +kernel
theorem d_Planner_cheapestOn_2 : decode prog_8_method_7_code 2 = .ok (.iadd, 1) := by decide +kernel
theorem d_Planner_cheapestOn_3 : decode prog_8_method_7_code 3 = .ok (.iload_n 1, 1) := by decide +kernel
theorem d_Planner_cheapestOn_4 : decode prog_8_method_7_code 4 = .ok (.invokestatic 41, 3) := by decide +kernel
theorem d_Planner_cheapestOn_7 : decode prog_8_method_7_code 7 = .ok (.istore 4, 2) := by decide +kernel
theorem d_Planner_cheapestOn_9 : decode prog_8_method_7_code 9 = .ok (.iload_n 2, 1) := by decide +kernel
theorem d_Planner_cheapestOn_10 : decode prog_8_method_7_code 10 = .ok (.iload_n 1, 1) := by decide +kernel
theorem d_Planner_cheapestOn_11 : decode prog_8_method_7_code 11 = .ok (.invokestatic 57, 3) := by decide +kernel
theorem d_Planner_cheapestOn_14 : decode prog_8_method_7_code 14 = .ok (.istore 5, 2) := by decide +kernel
theorem d_Planner_cheapestOn_16 : decode prog_8_method_7_code 16 = .ok (.ldc 45, 2) := by decide +kernel
theorem d_Planner_cheapestOn_18 : decode prog_8_method_7_code 18 = .ok (.istore 6, 2) := by decide +kernel
theorem d_Planner_cheapestOn_20 : decode prog_8_method_7_code 20 = .ok (.iconst 0, 1) := by decide +kernel
theorem d_Planner_cheapestOn_21 : decode prog_8_method_7_code 21 = .ok (.istore 7, 2) := by decide +kernel
theorem d_Planner_cheapestOn_23 : decode prog_8_method_7_code 23 = .ok (.iload 7, 2) := by decide +kernel
theorem d_Planner_cheapestOn_25 : decode prog_8_method_7_code 25 = .ok (.aload_n 0, 1) := by decide +kernel
theorem d_Planner_cheapestOn_26 : decode prog_8_method_7_code 26 = .ok (.getfield 18, 3) := by decide +kernel
theorem d_Planner_cheapestOn_29 : decode prog_8_method_7_code 29 = .ok (.getfield 46, 3) := by decide +kernel
theorem d_Planner_cheapestOn_32 : decode prog_8_method_7_code 32 = .ok (.if_icmp .ge 50, 3) := by decide +kernel
theorem d_Planner_cheapestOn_35 : decode prog_8_method_7_code 35 = .ok (.iload_n 3, 1) := by decide +kernel
theorem d_Planner_cheapestOn_36 : decode prog_8_method_7_code 36 = .ok (.iload 7, 2) := by decide +kernel
theorem d_Planner_cheapestOn_38 : decode prog_8_method_7_code 38 = .ok (.ishr, 1) := by decide +kernel
theorem d_Planner_cheapestOn_39 : decode prog_8_method_7_code 39 = .ok (.iconst 1, 1) := by decide +kernel
theorem d_Planner_cheapestOn_40 : decode prog_8_method_7_code 40 = .ok (.iand, 1) := by decide +kernel
theorem d_Planner_cheapestOn_41 : decode prog_8_method_7_code 41 = .ok (.ifCond .ne 35, 3) := by decide +kernel
theorem d_Planner_cheapestOn_44 : decode prog_8_method_7_code 44 = .ok (.iload 6, 2) := by decide +kernel
theorem d_Planner_cheapestOn_46 : decode prog_8_method_7_code 46 = .ok (.aload_n 0, 1) := by decide +kernel
theorem d_Planner_cheapestOn_47 : decode prog_8_method_7_code 47 = .ok (.getfield 15, 3) := by decide +kernel
theorem d_Planner_cheapestOn_50 : decode prog_8_method_7_code 50 = .ok (.iload 5, 2) := by decide +kernel
theorem d_Planner_cheapestOn_52 : decode prog_8_method_7_code 52 = .ok (.iload 7, 2) := by decide +kernel
theorem d_Planner_cheapestOn_54 : decode prog_8_method_7_code 54 = .ok (.iadd, 1) := by decide +kernel
theorem d_Planner_cheapestOn_55 : decode prog_8_method_7_code 55 = .ok (.iaload, 1) := by decide +kernel
theorem d_Planner_cheapestOn_56 : decode prog_8_method_7_code 56 = .ok (.aload_n 0, 1) := by decide +kernel
theorem d_Planner_cheapestOn_57 : decode prog_8_method_7_code 57 = .ok (.getfield 11, 3) := by decide +kernel
theorem d_Planner_cheapestOn_60 : decode prog_8_method_7_code 60 = .ok (.iload 4, 2) := by decide +kernel
theorem d_Planner_cheapestOn_62 : decode prog_8_method_7_code 62 = .ok (.iload_n 3, 1) := by decide +kernel
theorem d_Planner_cheapestOn_63 : decode prog_8_method_7_code 63 = .ok (.iconst 1, 1) := by decide +kernel
theorem d_Planner_cheapestOn_64 : decode prog_8_method_7_code 64 = .ok (.iload 7, 2) := by decide +kernel
theorem d_Planner_cheapestOn_66 : decode prog_8_method_7_code 66 = .ok (.ishl, 1) := by decide +kernel
theorem d_Planner_cheapestOn_67 : decode prog_8_method_7_code 67 = .ok (.ior, 1) := by decide +kernel
theorem d_Planner_cheapestOn_68 : decode prog_8_method_7_code 68 = .ok (.iadd, 1) := by decide +kernel
theorem d_Planner_cheapestOn_69 : decode prog_8_method_7_code 69 = .ok (.iaload, 1) := by decide +kernel
theorem d_Planner_cheapestOn_70 : decode prog_8_method_7_code 70 = .ok (.iadd, 1) := by decide +kernel
theorem d_Planner_cheapestOn_71 : decode prog_8_method_7_code 71 = .ok (.invokestatic 70, 3) := by decide +kernel
theorem d_Planner_cheapestOn_74 : decode prog_8_method_7_code 74 = .ok (.istore 6, 2) := by decide +kernel
theorem d_Planner_cheapestOn_76 : decode prog_8_method_7_code 76 = .ok (.iinc 7 1, 3) := by decide +kernel
theorem d_Planner_cheapestOn_79 : decode prog_8_method_7_code 79 = .ok (.goto (-56), 3) := by decide +kernel
theorem d_Planner_cheapestOn_82 : decode prog_8_method_7_code 82 = .ok (.iload 6, 2) := by decide +kernel
theorem d_Planner_cheapestOn_84 : decode prog_8_method_7_code 84 = .ok (.ireturn, 1) := by decide +kernel
theorem d_Planner_costAt_0 : decode prog_8_method_8_code 0 = .ok (.iload_n 0, 1) := by decide +kernel
theorem d_Planner_costAt_1 : decode prog_8_method_8_code 1 = .ok (.iconst 2, 1) := by decide +kernel
theorem d_Planner_costAt_2 : decode prog_8_method_8_code 2 = .ok (.imul, 1) := by decide +kernel
theorem d_Planner_costAt_3 : decode prog_8_method_8_code 3 = .ok (.iload_n 1, 1) := by decide +kernel
theorem d_Planner_costAt_4 : decode prog_8_method_8_code 4 = .ok (.iadd, 1) := by decide +kernel
theorem d_Planner_costAt_5 : decode prog_8_method_8_code 5 = .ok (.bipush 64, 2) := by decide +kernel
theorem d_Planner_costAt_7 : decode prog_8_method_8_code 7 = .ok (.imul, 1) := by decide +kernel
theorem d_Planner_costAt_8 : decode prog_8_method_8_code 8 = .ok (.ireturn, 1) := by decide +kernel
theorem d_Planner_priceAt_0 : decode prog_8_method_9_code 0 = .ok (.iload_n 0, 1) := by decide +kernel
theorem d_Planner_priceAt_1 : decode prog_8_method_9_code 1 = .ok (.iconst 2, 1) := by decide +kernel
theorem d_Planner_priceAt_2 : decode prog_8_method_9_code 2 = .ok (.imul, 1) := by decide +kernel
theorem d_Planner_priceAt_3 : decode prog_8_method_9_code 3 = .ok (.iload_n 1, 1) := by decide +kernel
theorem d_Planner_priceAt_4 : decode prog_8_method_9_code 4 = .ok (.iadd, 1) := by decide +kernel
theorem d_Planner_priceAt_5 : decode prog_8_method_9_code 5 = .ok (.bipush 6, 2) := by decide +kernel
theorem d_Planner_priceAt_7 : decode prog_8_method_9_code 7 = .ok (.imul, 1) := by decide +kernel
theorem d_Planner_priceAt_8 : decode prog_8_method_9_code 8 = .ok (.ireturn, 1) := by decide +kernel
theorem d_Planner_placeOf_0 : decode prog_8_method_10_code 0 = .ok (.aload_n 0, 1) := by decide +kernel
theorem d_Planner_placeOf_1 : decode prog_8_method_10_code 1 = .ok (.getfield 18, 3) := by decide +kernel
theorem d_Planner_placeOf_4 : decode prog_8_method_10_code 4 = .ok (.getfield 38, 3) := by decide +kernel
theorem d_Planner_placeOf_7 : decode prog_8_method_10_code 7 = .ok (.istore_n 2, 1) := by decide +kernel
theorem d_Planner_placeOf_8 : decode prog_8_method_10_code 8 = .ok (.iconst 0, 1) := by decide +kernel
theorem d_Planner_placeOf_9 : decode prog_8_method_10_code 9 = .ok (.istore_n 3, 1) := by decide +kernel
theorem d_Planner_placeOf_10 : decode prog_8_method_10_code 10 = .ok (.aload_n 0, 1) := by decide +kernel
theorem d_Planner_placeOf_11 : decode prog_8_method_10_code 11 = .ok (.getfield 18, 3) := by decide +kernel
theorem d_Planner_placeOf_14 : decode prog_8_method_10_code 14 = .ok (.getfield 25, 3) := by decide +kernel
theorem d_Planner_placeOf_17 : decode prog_8_method_10_code 17 = .ok (.istore 4, 2) := by decide +kernel
theorem d_Planner_placeOf_19 : decode prog_8_method_10_code 19 = .ok (.iload 4, 2) := by decide +kernel
theorem d_Planner_placeOf_21 : decode prog_8_method_10_code 21 = .ok (.bipush 24, 2) := by decide +kernel
theorem d_Planner_placeOf_23 : decode prog_8_method_10_code 23 = .ok (.if_icmp .ge 57, 3) := by decide +kernel
theorem d_Planner_placeOf_26 : decode prog_8_method_10_code 26 = .ok (.aload_n 0, 1) := by decide +kernel
theorem d_Planner_placeOf_27 : decode prog_8_method_10_code 27 = .ok (.iload 4, 2) := by decide +kernel
theorem d_Planner_placeOf_29 : decode prog_8_method_10_code 29 = .ok (.iload_n 2, 1) := by decide +kernel
theorem d_Planner_placeOf_30 : decode prog_8_method_10_code 30 = .ok (.iload_n 3, 1) := by decide +kernel
theorem d_Planner_placeOf_31 : decode prog_8_method_10_code 31 = .ok (.invokevirtual 75, 3) := by decide +kernel
theorem d_Planner_placeOf_34 : decode prog_8_method_10_code 34 = .ok (.istore 5, 2) := by decide +kernel
theorem d_Planner_placeOf_36 : decode prog_8_method_10_code 36 = .ok (.iload 5, 2) := by decide +kernel
theorem d_Planner_placeOf_38 : decode prog_8_method_10_code 38 = .ok (.iconst (-1), 1) := by decide +kernel
theorem d_Planner_placeOf_39 : decode prog_8_method_10_code 39 = .ok (.if_icmp .eq 35, 3) := by decide +kernel
theorem d_Planner_placeOf_42 : decode prog_8_method_10_code 42 = .ok (.iload 5, 2) := by decide +kernel
theorem d_Planner_placeOf_44 : decode prog_8_method_10_code 44 = .ok (.iconst 2, 1) := by decide +kernel
theorem d_Planner_placeOf_45 : decode prog_8_method_10_code 45 = .ok (.idiv, 1) := by decide +kernel
theorem d_Planner_placeOf_46 : decode prog_8_method_10_code 46 = .ok (.istore 6, 2) := by decide +kernel
theorem d_Planner_placeOf_48 : decode prog_8_method_10_code 48 = .ok (.iload 5, 2) := by decide +kernel
theorem d_Planner_placeOf_50 : decode prog_8_method_10_code 50 = .ok (.iconst 2, 1) := by decide +kernel
theorem d_Planner_placeOf_51 : decode prog_8_method_10_code 51 = .ok (.irem, 1) := by decide +kernel
theorem d_Planner_placeOf_52 : decode prog_8_method_10_code 52 = .ok (.istore_n 2, 1) := by decide +kernel
theorem d_Planner_placeOf_53 : decode prog_8_method_10_code 53 = .ok (.iload 6, 2) := by decide +kernel
theorem d_Planner_placeOf_55 : decode prog_8_method_10_code 55 = .ok (.iload_n 1, 1) := by decide +kernel
theorem d_Planner_placeOf_56 : decode prog_8_method_10_code 56 = .ok (.if_icmp .ne 11, 3) := by decide +kernel
theorem d_Planner_placeOf_59 : decode prog_8_method_10_code 59 = .ok (.bipush 10, 2) := by decide +kernel
theorem d_Planner_placeOf_61 : decode prog_8_method_10_code 61 = .ok (.iload 4, 2) := by decide +kernel
theorem d_Planner_placeOf_63 : decode prog_8_method_10_code 63 = .ok (.imul, 1) := by decide +kernel
theorem d_Planner_placeOf_64 : decode prog_8_method_10_code 64 = .ok (.iload_n 2, 1) := by decide +kernel
theorem d_Planner_placeOf_65 : decode prog_8_method_10_code 65 = .ok (.iadd, 1) := by decide +kernel
theorem d_Planner_placeOf_66 : decode prog_8_method_10_code 66 = .ok (.ireturn, 1) := by decide +kernel
theorem d_Planner_placeOf_67 : decode prog_8_method_10_code 67 = .ok (.iload_n 3, 1) := by decide +kernel
theorem d_Planner_placeOf_68 : decode prog_8_method_10_code 68 = .ok (.iconst 1, 1) := by decide +kernel
theorem d_Planner_placeOf_69 : decode prog_8_method_10_code 69 = .ok (.iload 6, 2) := by decide +kernel
theorem d_Planner_placeOf_71 : decode prog_8_method_10_code 71 = .ok (.ishl, 1) := by decide +kernel
theorem d_Planner_placeOf_72 : decode prog_8_method_10_code 72 = .ok (.ior, 1) := by decide +kernel
theorem d_Planner_placeOf_73 : decode prog_8_method_10_code 73 = .ok (.istore_n 3, 1) := by decide +kernel
theorem d_Planner_placeOf_74 : decode prog_8_method_10_code 74 = .ok (.iinc 4 1, 3) := by decide +kernel
theorem d_Planner_placeOf_77 : decode prog_8_method_10_code 77 = .ok (.goto (-58), 3) := by decide +kernel
theorem d_Planner_placeOf_80 : decode prog_8_method_10_code 80 = .ok (.iconst (-1), 1) := by decide +kernel
theorem d_Planner_placeOf_81 : decode prog_8_method_10_code 81 = .ok (.ireturn, 1) := by decide +kernel
theorem d_Planner_firstStep_0 : decode prog_8_method_11_code 0 = .ok (.aload_n 0, 1) := by decide +kernel
theorem d_Planner_firstStep_1 : decode prog_8_method_11_code 1 = .ok (.getfield 11, 3) := by decide +kernel
theorem d_Planner_firstStep_4 : decode prog_8_method_11_code 4 = .ok (.iload_n 1, 1) := by decide +kernel
theorem d_Planner_firstStep_5 : decode prog_8_method_11_code 5 = .ok (.iload_n 2, 1) := by decide +kernel
theorem d_Planner_firstStep_6 : decode prog_8_method_11_code 6 = .ok (.invokestatic 41, 3) := by decide +kernel
theorem d_Planner_firstStep_9 : decode prog_8_method_11_code 9 = .ok (.iload_n 3, 1) := by decide +kernel
theorem d_Planner_firstStep_10 : decode prog_8_method_11_code 10 = .ok (.iadd, 1) := by decide +kernel
theorem d_Planner_firstStep_11 : decode prog_8_method_11_code 11 = .ok (.iaload, 1) := by decide +kernel
theorem d_Planner_firstStep_12 : decode prog_8_method_11_code 12 = .ok (.istore 4, 2) := by decide +kernel
theorem d_Planner_firstStep_14 : decode prog_8_method_11_code 14 = .ok (.aload_n 0, 1) := by decide +kernel
theorem d_Planner_firstStep_15 : decode prog_8_method_11_code 15 = .ok (.getfield 11, 3) := by decide +kernel
theorem d_Planner_firstStep_18 : decode prog_8_method_11_code 18 = .ok (.iload_n 1, 1) := by decide +kernel
theorem d_Planner_firstStep_19 : decode prog_8_method_11_code 19 = .ok (.iconst 1, 1) := by decide +kernel
theorem d_Planner_firstStep_20 : decode prog_8_method_11_code 20 = .ok (.iadd, 1) := by decide +kernel
theorem d_Planner_firstStep_21 : decode prog_8_method_11_code 21 = .ok (.iload_n 2, 1) := by decide +kernel
theorem d_Planner_firstStep_22 : decode prog_8_method_11_code 22 = .ok (.invokestatic 41, 3) := by decide +kernel
theorem d_Planner_firstStep_25 : decode prog_8_method_11_code 25 = .ok (.iload_n 3, 1) := by decide +kernel
theorem d_Planner_firstStep_26 : decode prog_8_method_11_code 26 = .ok (.iadd, 1) := by decide +kernel
theorem d_Planner_firstStep_27 : decode prog_8_method_11_code 27 = .ok (.iaload, 1) := by decide +kernel
theorem d_Planner_firstStep_28 : decode prog_8_method_11_code 28 = .ok (.iload 4, 2) := by decide +kernel
theorem d_Planner_firstStep_30 : decode prog_8_method_11_code 30 = .ok (.if_icmp .ne 5, 3) := by decide +kernel
theorem d_Planner_firstStep_33 : decode prog_8_method_11_code 33 = .ok (.iconst (-1), 1) := by decide +kernel
theorem d_Planner_firstStep_34 : decode prog_8_method_11_code 34 = .ok (.ireturn, 1) := by decide +kernel
theorem d_Planner_firstStep_35 : decode prog_8_method_11_code 35 = .ok (.iconst 0, 1) := by decide +kernel
theorem d_Planner_firstStep_36 : decode prog_8_method_11_code 36 = .ok (.istore 5, 2) := by decide +kernel
theorem d_Planner_firstStep_38 : decode prog_8_method_11_code 38 = .ok (.iload 5, 2) := by decide +kernel
theorem d_Planner_firstStep_40 : decode prog_8_method_11_code 40 = .ok (.iconst 2, 1) := by decide +kernel
theorem d_Planner_firstStep_41 : decode prog_8_method_11_code 41 = .ok (.aload_n 0, 1) := by decide +kernel
theorem d_Planner_firstStep_42 : decode prog_8_method_11_code 42 = .ok (.getfield 18, 3) := by decide +kernel
theorem d_Planner_firstStep_45 : decode prog_8_method_11_code 45 = .ok (.getfield 46, 3) := by decide +kernel
theorem d_Planner_firstStep_48 : decode prog_8_method_11_code 48 = .ok (.imul, 1) := by decide +kernel
theorem d_Planner_firstStep_49 : decode prog_8_method_11_code 49 = .ok (.if_icmp .ge 92, 3) := by decide +kernel
theorem d_Planner_firstStep_52 : decode prog_8_method_11_code 52 = .ok (.iload 5, 2) := by decide +kernel
theorem d_Planner_firstStep_54 : decode prog_8_method_11_code 54 = .ok (.iconst 2, 1) := by decide +kernel
theorem d_Planner_firstStep_55 : decode prog_8_method_11_code 55 = .ok (.idiv, 1) := by decide +kernel
theorem d_Planner_firstStep_56 : decode prog_8_method_11_code 56 = .ok (.istore 6, 2) := by decide +kernel
theorem d_Planner_firstStep_58 : decode prog_8_method_11_code 58 = .ok (.iload 5, 2) := by decide +kernel
theorem d_Planner_firstStep_60 : decode prog_8_method_11_code 60 = .ok (.iconst 2, 1) := by decide +kernel
theorem d_Planner_firstStep_61 : decode prog_8_method_11_code 61 = .ok (.irem, 1) := by decide +kernel
theorem d_Planner_firstStep_62 : decode prog_8_method_11_code 62 = .ok (.istore 7, 2) := by decide +kernel
theorem d_Planner_firstStep_64 : decode prog_8_method_11_code 64 = .ok (.aload_n 0, 1) := by decide +kernel
theorem d_Planner_firstStep_65 : decode prog_8_method_11_code 65 = .ok (.getfield 11, 3) := by decide +kernel
theorem d_Planner_firstStep_68 : decode prog_8_method_11_code 68 = .ok (.iload_n 1, 1) := by decide +kernel
theorem d_Planner_firstStep_69 : decode prog_8_method_11_code 69 = .ok (.iconst 1, 1) := by decide +kernel
theorem d_Planner_firstStep_70 : decode prog_8_method_11_code 70 = .ok (.iadd, 1) := by decide +kernel
theorem d_Planner_firstStep_71 : decode prog_8_method_11_code 71 = .ok (.iload 7, 2) := by decide +kernel
theorem d_Planner_firstStep_73 : decode prog_8_method_11_code 73 = .ok (.invokestatic 41, 3) := by decide +kernel
theorem d_Planner_firstStep_76 : decode prog_8_method_11_code 76 = .ok (.iload_n 3, 1) := by decide +kernel
theorem d_Planner_firstStep_77 : decode prog_8_method_11_code 77 = .ok (.iconst 1, 1) := by decide +kernel
theorem d_Planner_firstStep_78 : decode prog_8_method_11_code 78 = .ok (.iload 6, 2) := by decide +kernel
theorem d_Planner_firstStep_80 : decode prog_8_method_11_code 80 = .ok (.ishl, 1) := by decide +kernel
theorem d_Planner_firstStep_81 : decode prog_8_method_11_code 81 = .ok (.ior, 1) := by decide +kernel
theorem d_Planner_firstStep_82 : decode prog_8_method_11_code 82 = .ok (.iadd, 1) := by decide +kernel
theorem d_Planner_firstStep_83 : decode prog_8_method_11_code 83 = .ok (.iaload, 1) := by decide +kernel
theorem d_Planner_firstStep_84 : decode prog_8_method_11_code 84 = .ok (.istore 8, 2) := by decide +kernel
theorem d_Planner_firstStep_86 : decode prog_8_method_11_code 86 = .ok (.aload_n 0, 1) := by decide +kernel
theorem d_Planner_firstStep_87 : decode prog_8_method_11_code 87 = .ok (.getfield 15, 3) := by decide +kernel
theorem d_Planner_firstStep_90 : decode prog_8_method_11_code 90 = .ok (.iload_n 1, 1) := by decide +kernel
theorem d_Planner_firstStep_91 : decode prog_8_method_11_code 91 = .ok (.iload 7, 2) := by decide +kernel
theorem d_Planner_firstStep_93 : decode prog_8_method_11_code 93 = .ok (.invokestatic 57, 3) := by decide +kernel
theorem d_Planner_firstStep_96 : decode prog_8_method_11_code 96 = .ok (.iload 6, 2) := by decide +kernel
theorem d_Planner_firstStep_98 : decode prog_8_method_11_code 98 = .ok (.iadd, 1) := by decide +kernel
theorem d_Planner_firstStep_99 : decode prog_8_method_11_code 99 = .ok (.iaload, 1) := by decide +kernel
theorem d_Planner_firstStep_100 : decode prog_8_method_11_code 100 = .ok (.aload_n 0, 1) := by decide +kernel
theorem d_Planner_firstStep_101 : decode prog_8_method_11_code 101 = .ok (.getfield 18, 3) := by decide +kernel
theorem d_Planner_firstStep_104 : decode prog_8_method_11_code 104 = .ok (.iload_n 2, 1) := by decide +kernel
theorem d_Planner_firstStep_105 : decode prog_8_method_11_code 105 = .ok (.iload 7, 2) := by decide +kernel
theorem d_Planner_firstStep_107 : decode prog_8_method_11_code 107 = .ok (.invokevirtual 78, 3) := by decide +kernel
theorem d_Planner_firstStep_110 : decode prog_8_method_11_code 110 = .ok (.iadd, 1) := by decide +kernel
theorem d_Planner_firstStep_111 : decode prog_8_method_11_code 111 = .ok (.istore 9, 2) := by decide +kernel
theorem d_Planner_firstStep_113 : decode prog_8_method_11_code 113 = .ok (.iload_n 3, 1) := by decide +kernel
theorem d_Planner_firstStep_114 : decode prog_8_method_11_code 114 = .ok (.iload 6, 2) := by decide +kernel
theorem d_Planner_firstStep_116 : decode prog_8_method_11_code 116 = .ok (.ishr, 1) := by decide +kernel
theorem d_Planner_firstStep_117 : decode prog_8_method_11_code 117 = .ok (.iconst 1, 1) := by decide +kernel
theorem d_Planner_firstStep_118 : decode prog_8_method_11_code 118 = .ok (.iand, 1) := by decide +kernel
theorem d_Planner_firstStep_119 : decode prog_8_method_11_code 119 = .ok (.ifCond .ne 16, 3) := by decide +kernel
theorem d_Planner_firstStep_122 : decode prog_8_method_11_code 122 = .ok (.iload 9, 2) := by decide +kernel
theorem d_Planner_firstStep_124 : decode prog_8_method_11_code 124 = .ok (.iload 8, 2) := by decide +kernel
theorem d_Planner_firstStep_126 : decode prog_8_method_11_code 126 = .ok (.iadd, 1) := by decide +kernel
theorem d_Planner_firstStep_127 : decode prog_8_method_11_code 127 = .ok (.iload 4, 2) := by decide +kernel
theorem d_Planner_firstStep_129 : decode prog_8_method_11_code 129 = .ok (.if_icmp .ne 6, 3) := by decide +kernel
theorem d_Planner_firstStep_132 : decode prog_8_method_11_code 132 = .ok (.iload 5, 2) := by decide +kernel
theorem d_Planner_firstStep_134 : decode prog_8_method_11_code 134 = .ok (.ireturn, 1) := by decide +kernel
theorem d_Planner_firstStep_135 : decode prog_8_method_11_code 135 = .ok (.iinc 5 1, 3) := by decide +kernel
theorem d_Planner_firstStep_138 : decode prog_8_method_11_code 138 = .ok (.goto (-100), 3) := by decide +kernel
theorem d_Planner_firstStep_141 : decode prog_8_method_11_code 141 = .ok (.iconst (-1), 1) := by decide +kernel
theorem d_Planner_firstStep_142 : decode prog_8_method_11_code 142 = .ok (.ireturn, 1) := by decide +kernel
theorem d_Quarrel_init_0 : decode prog_9_method_1_code 0 = .ok (.aload_n 0, 1) := by decide +kernel
theorem d_Quarrel_init_1 : decode prog_9_method_1_code 1 = .ok (.invokespecial 1, 3) := by decide +kernel
theorem d_Quarrel_init_4 : decode prog_9_method_1_code 4 = .ok (.return_, 1) := by decide +kernel
theorem d_Quarrel_price_0 : decode prog_9_method_2_code 0 = .ok (.aload_n 0, 1) := by decide +kernel
theorem d_Quarrel_price_1 : decode prog_9_method_2_code 1 = .ok (.iload_n 1, 1) := by decide +kernel
theorem d_Quarrel_price_2 : decode prog_9_method_2_code 2 = .ok (.iload_n 2, 1) := by decide +kernel
theorem d_Quarrel_price_3 : decode prog_9_method_2_code 3 = .ok (.iload_n 3, 1) := by decide +kernel
theorem d_Quarrel_price_4 : decode prog_9_method_2_code 4 = .ok (.iload 4, 2) := by decide +kernel
theorem d_Quarrel_price_6 : decode prog_9_method_2_code 6 = .ok (.iload 5, 2) := by decide +kernel
theorem d_Quarrel_price_8 : decode prog_9_method_2_code 8 = .ok (.invokespecial 7, 3) := by decide +kernel
theorem d_Quarrel_price_11 : decode prog_9_method_2_code 11 = .ok (.istore 6, 2) := by decide +kernel
theorem d_Quarrel_price_13 : decode prog_9_method_2_code 13 = .ok (.iload 5, 2) := by decide +kernel
theorem d_Quarrel_price_15 : decode prog_9_method_2_code 15 = .ok (.ifCond .eq 10, 3) := by decide +kernel
theorem d_Quarrel_price_18 : decode prog_9_method_2_code 18 = .ok (.iconst 2, 1) := by decide +kernel
theorem d_Quarrel_price_19 : decode prog_9_method_2_code 19 = .ok (.iload 6, 2) := by decide +kernel
theorem d_Quarrel_price_21 : decode prog_9_method_2_code 21 = .ok (.imul, 1) := by decide +kernel
theorem d_Quarrel_price_22 : decode prog_9_method_2_code 22 = .ok (.goto 5, 3) := by decide +kernel
theorem d_Quarrel_price_25 : decode prog_9_method_2_code 25 = .ok (.iload 6, 2) := by decide +kernel
theorem d_Quarrel_price_27 : decode prog_9_method_2_code 27 = .ok (.ireturn, 1) := by decide +kernel
theorem d_Reader_init_0 : decode prog_10_method_1_code 0 = .ok (.aload_n 0, 1) := by decide +kernel
theorem d_Reader_init_1 : decode prog_10_method_1_code 1 = .ok (.invokespecial 3, 3) := by decide +kernel
theorem d_Reader_init_4 : decode prog_10_method_1_code 4 = .ok (.aload_n 0, 1) := by decide +kernel
theorem d_Reader_init_5 : decode prog_10_method_1_code 5 = .ok (.sipush 150, 3) := by decide +kernel
theorem d_Reader_init_8 : decode prog_10_method_1_code 8 = .ok (.newarray .byte, 2) := by decide +kernel
theorem d_Reader_init_10 : decode prog_10_method_1_code 10 = .ok (.putfield 9, 3) := by decide +kernel
theorem d_Reader_init_13 : decode prog_10_method_1_code 13 = .ok (.aload_n 0, 1) := by decide +kernel
theorem d_Reader_init_14 : decode prog_10_method_1_code 14 = .ok (.aload_n 1, 1) := by decide +kernel
theorem d_Reader_init_15 : decode prog_10_method_1_code 15 = .ok (.putfield 15, 3) := by decide +kernel
theorem d_Reader_init_18 : decode prog_10_method_1_code 18 = .ok (.return_, 1) := by decide +kernel
theorem d_Reader_append_0 : decode prog_10_method_2_code 0 = .ok (.aload_n 0, 1) := by decide +kernel
theorem d_Reader_append_1 : decode prog_10_method_2_code 1 = .ok (.getfield 9, 3) := by decide +kernel
theorem d_Reader_append_4 : decode prog_10_method_2_code 4 = .ok (.aload_n 0, 1) := by decide +kernel
theorem d_Reader_append_5 : decode prog_10_method_2_code 5 = .ok (.getfield 19, 3) := by decide +kernel
theorem d_Reader_append_8 : decode prog_10_method_2_code 8 = .ok (.iload_n 1, 1) := by decide +kernel
theorem d_Reader_append_9 : decode prog_10_method_2_code 9 = .ok (.i2b, 1) := by decide +kernel
theorem d_Reader_append_10 : decode prog_10_method_2_code 10 = .ok (.bastore, 1) := by decide +kernel
theorem d_Reader_append_11 : decode prog_10_method_2_code 11 = .ok (.aload_n 0, 1) := by decide +kernel
theorem d_Reader_append_12 : decode prog_10_method_2_code 12 = .ok (.dup, 1) := by decide +kernel
theorem d_Reader_append_13 : decode prog_10_method_2_code 13 = .ok (.getfield 19, 3) := by decide +kernel
theorem d_Reader_append_16 : decode prog_10_method_2_code 16 = .ok (.iconst 1, 1) := by decide +kernel
theorem d_Reader_append_17 : decode prog_10_method_2_code 17 = .ok (.iadd, 1) := by decide +kernel
theorem d_Reader_append_18 : decode prog_10_method_2_code 18 = .ok (.putfield 19, 3) := by decide +kernel
theorem d_Reader_append_21 : decode prog_10_method_2_code 21 = .ok (.aload_n 0, 1) := by decide +kernel
theorem d_Reader_append_22 : decode prog_10_method_2_code 22 = .ok (.getfield 19, 3) := by decide +kernel
theorem d_Reader_append_25 : decode prog_10_method_2_code 25 = .ok (.ireturn, 1) := by decide +kernel
theorem d_Reader_parse_0 : decode prog_10_method_3_code 0 = .ok (.aload_n 0, 1) := by decide +kernel
theorem d_Reader_parse_1 : decode prog_10_method_3_code 1 = .ok (.getfield 15, 3) := by decide +kernel
theorem d_Reader_parse_4 : decode prog_10_method_3_code 4 = .ok (.iconst 1, 1) := by decide +kernel
theorem d_Reader_parse_5 : decode prog_10_method_3_code 5 = .ok (.invokevirtual 23, 3) := by decide +kernel
theorem d_Reader_parse_8 : decode prog_10_method_3_code 8 = .ok (.aload_n 0, 1) := by decide +kernel
theorem d_Reader_parse_9 : decode prog_10_method_3_code 9 = .ok (.iconst 0, 1) := by decide +kernel
theorem d_Reader_parse_10 : decode prog_10_method_3_code 10 = .ok (.putfield 29, 3) := by decide +kernel
theorem d_Reader_parse_13 : decode prog_10_method_3_code 13 = .ok (.aload_n 0, 1) := by decide +kernel
theorem d_Reader_parse_14 : decode prog_10_method_3_code 14 = .ok (.invokevirtual 32, 3) := by decide +kernel
theorem d_Reader_parse_17 : decode prog_10_method_3_code 17 = .ok (.iconst 0, 1) := by decide +kernel
theorem d_Reader_parse_18 : decode prog_10_method_3_code 18 = .ok (.istore_n 1, 1) := by decide +kernel
theorem d_Reader_parse_19 : decode prog_10_method_3_code 19 = .ok (.iload_n 1, 1) := by decide +kernel
theorem d_Reader_parse_20 : decode prog_10_method_3_code 20 = .ok (.sipush 150, 3) := by decide +kernel
theorem d_Reader_parse_23 : decode prog_10_method_3_code 23 = .ok (.if_icmp .ge 57, 3) := by decide +kernel
theorem d_Reader_parse_26 : decode prog_10_method_3_code 26 = .ok (.iload_n 1, 1) := by decide +kernel
theorem d_Reader_parse_27 : decode prog_10_method_3_code 27 = .ok (.ifCond .eq 11, 3) := by decide +kernel
theorem d_Reader_parse_30 : decode prog_10_method_3_code 30 = .ok (.aload_n 0, 1) := by decide +kernel
theorem d_Reader_parse_31 : decode prog_10_method_3_code 31 = .ok (.getfield 35, 3) := by decide +kernel
theorem d_Reader_parse_34 : decode prog_10_method_3_code 34 = .ok (.iconst 3, 1) := by decide +kernel
theorem d_Reader_parse_35 : decode prog_10_method_3_code 35 = .ok (.if_icmp .eq 45, 3) := by decide +kernel
theorem d_Reader_parse_38 : decode prog_10_method_3_code 38 = .ok (.aload_n 0, 1) := by decide +kernel
theorem d_Reader_parse_39 : decode prog_10_method_3_code 39 = .ok (.iload_n 1, 1) := by decide +kernel
theorem d_Reader_parse_40 : decode prog_10_method_3_code 40 = .ok (.ifCond .ne 7, 3) := by decide +kernel
theorem d_Reader_parse_43 : decode prog_10_method_3_code 43 = .ok (.iconst 1, 1) := by decide +kernel
theorem d_Reader_parse_44 : decode prog_10_method_3_code 44 = .ok (.goto 4, 3) := by decide +kernel
theorem d_Reader_parse_47 : decode prog_10_method_3_code 47 = .ok (.iconst 0, 1) := by decide +kernel
theorem d_Reader_parse_48 : decode prog_10_method_3_code 48 = .ok (.invokevirtual 38, 3) := by decide +kernel
theorem d_Reader_parse_51 : decode prog_10_method_3_code 51 = .ok (.ifCond .eq 11, 3) := by decide +kernel
theorem d_Reader_parse_54 : decode prog_10_method_3_code 54 = .ok (.aload_n 0, 1) := by decide +kernel
theorem d_Reader_parse_55 : decode prog_10_method_3_code 55 = .ok (.getfield 35, 3) := by decide +kernel
theorem d_Reader_parse_58 : decode prog_10_method_3_code 58 = .ok (.iconst 2, 1) := by decide +kernel
theorem d_Reader_parse_59 : decode prog_10_method_3_code 59 = .ok (.if_icmp .eq 11, 3) := by decide +kernel
theorem d_Reader_parse_62 : decode prog_10_method_3_code 62 = .ok (.bipush (-10), 2) := by decide +kernel
theorem d_Reader_parse_64 : decode prog_10_method_3_code 64 = .ok (.aload_n 0, 1) := by decide +kernel
theorem d_Reader_parse_65 : decode prog_10_method_3_code 65 = .ok (.getfield 42, 3) := by decide +kernel
theorem d_Reader_parse_68 : decode prog_10_method_3_code 68 = .ok (.isub, 1) := by decide +kernel
theorem d_Reader_parse_69 : decode prog_10_method_3_code 69 = .ok (.ireturn, 1) := by decide +kernel
theorem d_Reader_parse_70 : decode prog_10_method_3_code 70 = .ok (.iinc 1 1, 3) := by decide +kernel
theorem d_Reader_parse_73 : decode prog_10_method_3_code 73 = .ok (.aload_n 0, 1) := by decide +kernel
theorem d_Reader_parse_74 : decode prog_10_method_3_code 74 = .ok (.invokevirtual 32, 3) := by decide +kernel
theorem d_Reader_parse_77 : decode prog_10_method_3_code 77 = .ok (.goto (-58), 3) := by decide +kernel
theorem d_Reader_parse_80 : decode prog_10_method_3_code 80 = .ok (.iload_n 1, 1) := by decide +kernel
theorem d_Reader_parse_81 : decode prog_10_method_3_code 81 = .ok (.ireturn, 1) := by decide +kernel
theorem d_Reader_item_0 : decode prog_10_method_4_code 0 = .ok (.aload_n 0, 1) := by decide +kernel
theorem d_Reader_item_1 : decode prog_10_method_4_code 1 = .ok (.ldc 45, 2) := by decide +kernel
theorem d_Reader_item_3 : decode prog_10_method_4_code 3 = .ok (.invokevirtual 47, 3) := by decide +kernel
theorem d_Reader_item_6 : decode prog_10_method_4_code 6 = .ok (.istore_n 2, 1) := by decide +kernel
theorem d_Reader_item_7 : decode prog_10_method_4_code 7 = .ok (.iload_n 2, 1) := by decide +kernel
theorem d_Reader_item_8 : decode prog_10_method_4_code 8 = .ok (.iload_n 1, 1) := by decide +kernel
theorem d_Reader_item_9 : decode prog_10_method_4_code 9 = .ok (.if_icmp .eq 5, 3) := by decide +kernel
theorem d_Reader_item_12 : decode prog_10_method_4_code 12 = .ok (.iconst 0, 1) := by decide +kernel
theorem d_Reader_item_13 : decode prog_10_method_4_code 13 = .ok (.ireturn, 1) := by decide +kernel
theorem d_Reader_item_14 : decode prog_10_method_4_code 14 = .ok (.iload_n 2, 1) := by decide +kernel
theorem d_Reader_item_15 : decode prog_10_method_4_code 15 = .ok (.ifCond .eq 8, 3) := by decide +kernel
theorem d_Reader_item_18 : decode prog_10_method_4_code 18 = .ok (.aload_n 0, 1) := by decide +kernel
theorem d_Reader_item_19 : decode prog_10_method_4_code 19 = .ok (.invokevirtual 51, 3) := by decide +kernel
theorem d_Reader_item_22 : decode prog_10_method_4_code 22 = .ok (.ireturn, 1) := by decide +kernel
theorem d_Reader_item_23 : decode prog_10_method_4_code 23 = .ok (.aload_n 0, 1) := by decide +kernel
theorem d_Reader_item_24 : decode prog_10_method_4_code 24 = .ok (.ldc 55, 2) := by decide +kernel
theorem d_Reader_item_26 : decode prog_10_method_4_code 26 = .ok (.invokevirtual 47, 3) := by decide +kernel
theorem d_Reader_item_29 : decode prog_10_method_4_code 29 = .ok (.ifCond .eq 8, 3) := by decide +kernel
theorem d_Reader_item_32 : decode prog_10_method_4_code 32 = .ok (.aload_n 0, 1) := by decide +kernel
theorem d_Reader_item_33 : decode prog_10_method_4_code 33 = .ok (.invokevirtual 57, 3) := by decide +kernel
theorem d_Reader_item_36 : decode prog_10_method_4_code 36 = .ok (.ireturn, 1) := by decide +kernel
theorem d_Reader_item_37 : decode prog_10_method_4_code 37 = .ok (.aload_n 0, 1) := by decide +kernel
theorem d_Reader_item_38 : decode prog_10_method_4_code 38 = .ok (.ldc 60, 2) := by decide +kernel
theorem d_Reader_item_40 : decode prog_10_method_4_code 40 = .ok (.invokevirtual 47, 3) := by decide +kernel
theorem d_Reader_item_43 : decode prog_10_method_4_code 43 = .ok (.ifCond .eq 8, 3) := by decide +kernel
theorem d_Reader_item_46 : decode prog_10_method_4_code 46 = .ok (.aload_n 0, 1) := by decide +kernel
theorem d_Reader_item_47 : decode prog_10_method_4_code 47 = .ok (.invokevirtual 62, 3) := by decide +kernel
theorem d_Reader_item_50 : decode prog_10_method_4_code 50 = .ok (.ireturn, 1) := by decide +kernel
theorem d_Reader_item_51 : decode prog_10_method_4_code 51 = .ok (.aload_n 0, 1) := by decide +kernel
theorem d_Reader_item_52 : decode prog_10_method_4_code 52 = .ok (.ldc 65, 2) := by decide +kernel
theorem d_Reader_item_54 : decode prog_10_method_4_code 54 = .ok (.invokevirtual 47, 3) := by decide +kernel
theorem d_Reader_item_57 : decode prog_10_method_4_code 57 = .ok (.ifCond .eq 8, 3) := by decide +kernel
theorem d_Reader_item_60 : decode prog_10_method_4_code 60 = .ok (.aload_n 0, 1) := by decide +kernel
theorem d_Reader_item_61 : decode prog_10_method_4_code 61 = .ok (.invokevirtual 67, 3) := by decide +kernel
theorem d_Reader_item_64 : decode prog_10_method_4_code 64 = .ok (.ireturn, 1) := by decide +kernel
theorem d_Reader_item_65 : decode prog_10_method_4_code 65 = .ok (.aload_n 0, 1) := by decide +kernel
theorem d_Reader_item_66 : decode prog_10_method_4_code 66 = .ok (.ldc 70, 2) := by decide +kernel
theorem d_Reader_item_68 : decode prog_10_method_4_code 68 = .ok (.invokevirtual 47, 3) := by decide +kernel
theorem d_Reader_item_71 : decode prog_10_method_4_code 71 = .ok (.ifCond .eq 17, 3) := by decide +kernel
theorem d_Reader_item_74 : decode prog_10_method_4_code 74 = .ok (.aload_n 0, 1) := by decide +kernel
theorem d_Reader_item_75 : decode prog_10_method_4_code 75 = .ok (.getfield 15, 3) := by decide +kernel
theorem d_Reader_item_78 : decode prog_10_method_4_code 78 = .ok (.iconst 1, 1) := by decide +kernel
theorem d_Reader_item_79 : decode prog_10_method_4_code 79 = .ok (.putfield 72, 3) := by decide +kernel
theorem d_Reader_item_82 : decode prog_10_method_4_code 82 = .ok (.aload_n 0, 1) := by decide +kernel
theorem d_Reader_item_83 : decode prog_10_method_4_code 83 = .ok (.invokevirtual 32, 3) := by decide +kernel
theorem d_Reader_item_86 : decode prog_10_method_4_code 86 = .ok (.iconst 1, 1) := by decide +kernel
theorem d_Reader_item_87 : decode prog_10_method_4_code 87 = .ok (.ireturn, 1) := by decide +kernel
theorem d_Reader_item_88 : decode prog_10_method_4_code 88 = .ok (.iconst 0, 1) := by decide +kernel
theorem d_Reader_item_89 : decode prog_10_method_4_code 89 = .ok (.ireturn, 1) := by decide +kernel
theorem d_Reader_tollItem_0 : decode prog_10_method_5_code 0 = .ok (.aload_n 0, 1) := by decide +kernel
theorem d_Reader_tollItem_1 : decode prog_10_method_5_code 1 = .ok (.bipush 9, 2) := by decide +kernel
theorem d_Reader_tollItem_3 : decode prog_10_method_5_code 3 = .ok (.invokevirtual 75, 3) := by decide +kernel
theorem d_Reader_tollItem_6 : decode prog_10_method_5_code 6 = .ok (.ifCond .ne 5, 3) := by decide +kernel
theorem d_Reader_tollItem_9 : decode prog_10_method_5_code 9 = .ok (.iconst 0, 1) := by decide +kernel
theorem d_Reader_tollItem_10 : decode prog_10_method_5_code 10 = .ok (.ireturn, 1) := by decide +kernel
theorem d_Reader_tollItem_11 : decode prog_10_method_5_code 11 = .ok (.aload_n 0, 1) := by decide +kernel
theorem d_Reader_tollItem_12 : decode prog_10_method_5_code 12 = .ok (.getfield 15, 3) := by decide +kernel
theorem d_Reader_tollItem_15 : decode prog_10_method_5_code 15 = .ok (.aload_n 0, 1) := by decide +kernel
theorem d_Reader_tollItem_16 : decode prog_10_method_5_code 16 = .ok (.getfield 79, 3) := by decide +kernel
theorem d_Reader_tollItem_19 : decode prog_10_method_5_code 19 = .ok (.putfield 82, 3) := by decide +kernel
theorem d_Reader_tollItem_22 : decode prog_10_method_5_code 22 = .ok (.aload_n 0, 1) := by decide +kernel
theorem d_Reader_tollItem_23 : decode prog_10_method_5_code 23 = .ok (.invokevirtual 32, 3) := by decide +kernel
theorem d_Reader_tollItem_26 : decode prog_10_method_5_code 26 = .ok (.iconst 1, 1) := by decide +kernel
theorem d_Reader_tollItem_27 : decode prog_10_method_5_code 27 = .ok (.ireturn, 1) := by decide +kernel
theorem d_Reader_rateItem_0 : decode prog_10_method_6_code 0 = .ok (.aload_n 0, 1) := by decide +kernel
theorem d_Reader_rateItem_1 : decode prog_10_method_6_code 1 = .ok (.iconst 1, 1) := by decide +kernel
theorem d_Reader_rateItem_2 : decode prog_10_method_6_code 2 = .ok (.invokevirtual 75, 3) := by decide +kernel
theorem d_Reader_rateItem_5 : decode prog_10_method_6_code 5 = .ok (.ifCond .ne 5, 3) := by decide +kernel
theorem d_Reader_rateItem_8 : decode prog_10_method_6_code 8 = .ok (.iconst 0, 1) := by decide +kernel
theorem d_Reader_rateItem_9 : decode prog_10_method_6_code 9 = .ok (.ireturn, 1) := by decide +kernel
theorem d_Reader_rateItem_10 : decode prog_10_method_6_code 10 = .ok (.aload_n 0, 1) := by decide +kernel
theorem d_Reader_rateItem_11 : decode prog_10_method_6_code 11 = .ok (.getfield 79, 3) := by decide +kernel
theorem d_Reader_rateItem_14 : decode prog_10_method_6_code 14 = .ok (.istore_n 1, 1) := by decide +kernel
theorem d_Reader_rateItem_15 : decode prog_10_method_6_code 15 = .ok (.aload_n 0, 1) := by decide +kernel
theorem d_Reader_rateItem_16 : decode prog_10_method_6_code 16 = .ok (.bipush 9, 2) := by decide +kernel
theorem d_Reader_rateItem_18 : decode prog_10_method_6_code 18 = .ok (.invokevirtual 75, 3) := by decide +kernel
theorem d_Reader_rateItem_21 : decode prog_10_method_6_code 21 = .ok (.ifCond .ne 5, 3) := by decide +kernel
theorem d_Reader_rateItem_24 : decode prog_10_method_6_code 24 = .ok (.iconst 0, 1) := by decide +kernel
theorem d_Reader_rateItem_25 : decode prog_10_method_6_code 25 = .ok (.ireturn, 1) := by decide +kernel
theorem d_Reader_rateItem_26 : decode prog_10_method_6_code 26 = .ok (.aload_n 0, 1) := by decide +kernel
theorem d_Reader_rateItem_27 : decode prog_10_method_6_code 27 = .ok (.getfield 15, 3) := by decide +kernel
theorem d_Reader_rateItem_30 : decode prog_10_method_6_code 30 = .ok (.getfield 85, 3) := by decide +kernel
theorem d_Reader_rateItem_33 : decode prog_10_method_6_code 33 = .ok (.iload_n 1, 1) := by decide +kernel
theorem d_Reader_rateItem_34 : decode prog_10_method_6_code 34 = .ok (.aload_n 0, 1) := by decide +kernel
theorem d_Reader_rateItem_35 : decode prog_10_method_6_code 35 = .ok (.getfield 79, 3) := by decide +kernel
theorem d_Reader_rateItem_38 : decode prog_10_method_6_code 38 = .ok (.iastore, 1) := by decide +kernel
theorem d_Reader_rateItem_39 : decode prog_10_method_6_code 39 = .ok (.aload_n 0, 1) := by decide +kernel
theorem d_Reader_rateItem_40 : decode prog_10_method_6_code 40 = .ok (.invokevirtual 32, 3) := by decide +kernel
theorem d_Reader_rateItem_43 : decode prog_10_method_6_code 43 = .ok (.iconst 1, 1) := by decide +kernel
theorem d_Reader_rateItem_44 : decode prog_10_method_6_code 44 = .ok (.ireturn, 1) := by decide +kernel
theorem d_Reader_barItem_0 : decode prog_10_method_7_code 0 = .ok (.aload_n 0, 1) := by decide +kernel
theorem d_Reader_barItem_1 : decode prog_10_method_7_code 1 = .ok (.iconst 1, 1) := by decide +kernel
theorem d_Reader_barItem_2 : decode prog_10_method_7_code 2 = .ok (.invokevirtual 75, 3) := by decide +kernel
theorem d_Reader_barItem_5 : decode prog_10_method_7_code 5 = .ok (.ifCond .ne 5, 3) := by decide +kernel
theorem d_Reader_barItem_8 : decode prog_10_method_7_code 8 = .ok (.iconst 0, 1) := by decide +kernel
theorem d_Reader_barItem_9 : decode prog_10_method_7_code 9 = .ok (.ireturn, 1) := by decide +kernel
theorem d_Reader_barItem_10 : decode prog_10_method_7_code 10 = .ok (.aload_n 0, 1) := by decide +kernel
theorem d_Reader_barItem_11 : decode prog_10_method_7_code 11 = .ok (.getfield 79, 3) := by decide +kernel
theorem d_Reader_barItem_14 : decode prog_10_method_7_code 14 = .ok (.istore_n 1, 1) := by decide +kernel
theorem d_Reader_barItem_15 : decode prog_10_method_7_code 15 = .ok (.iconst 0, 1) := by decide +kernel
theorem d_Reader_barItem_16 : decode prog_10_method_7_code 16 = .ok (.istore_n 2, 1) := by decide +kernel
theorem d_Reader_barItem_17 : decode prog_10_method_7_code 17 = .ok (.aload_n 0, 1) := by decide +kernel
theorem d_Reader_barItem_18 : decode prog_10_method_7_code 18 = .ok (.invokevirtual 32, 3) := by decide +kernel
theorem d_Reader_barItem_21 : decode prog_10_method_7_code 21 = .ok (.iconst 0, 1) := by decide +kernel
theorem d_Reader_barItem_22 : decode prog_10_method_7_code 22 = .ok (.istore_n 3, 1) := by decide +kernel
theorem d_Reader_barItem_23 : decode prog_10_method_7_code 23 = .ok (.iload_n 3, 1) := by decide +kernel
theorem d_Reader_barItem_24 : decode prog_10_method_7_code 24 = .ok (.sipush 150, 3) := by decide +kernel
theorem d_Reader_barItem_27 : decode prog_10_method_7_code 27 = .ok (.if_icmp .ge 44, 3) := by decide +kernel
theorem d_Reader_barItem_30 : decode prog_10_method_7_code 30 = .ok (.aload_n 0, 1) := by decide +kernel
theorem d_Reader_barItem_31 : decode prog_10_method_7_code 31 = .ok (.getfield 35, 3) := by decide +kernel
theorem d_Reader_barItem_34 : decode prog_10_method_7_code 34 = .ok (.iconst 1, 1) := by decide +kernel
theorem d_Reader_barItem_35 : decode prog_10_method_7_code 35 = .ok (.if_icmp .ne 36, 3) := by decide +kernel
theorem d_Reader_barItem_38 : decode prog_10_method_7_code 38 = .ok (.aload_n 0, 1) := by decide +kernel
theorem d_Reader_barItem_39 : decode prog_10_method_7_code 39 = .ok (.getfield 79, 3) := by decide +kernel
theorem d_Reader_barItem_42 : decode prog_10_method_7_code 42 = .ok (.bipush 23, 2) := by decide +kernel
theorem d_Reader_barItem_44 : decode prog_10_method_7_code 44 = .ok (.invokestatic 89, 3) := by decide +kernel
theorem d_Reader_barItem_47 : decode prog_10_method_7_code 47 = .ok (.ifCond .ne 5, 3) := by decide +kernel
theorem d_Reader_barItem_50 : decode prog_10_method_7_code 50 = .ok (.iconst 0, 1) := by decide +kernel
theorem d_Reader_barItem_51 : decode prog_10_method_7_code 51 = .ok (.ireturn, 1) := by decide +kernel
theorem d_Reader_barItem_52 : decode prog_10_method_7_code 52 = .ok (.iload_n 2, 1) := by decide +kernel
theorem d_Reader_barItem_53 : decode prog_10_method_7_code 53 = .ok (.iconst 1, 1) := by decide +kernel
theorem d_Reader_barItem_54 : decode prog_10_method_7_code 54 = .ok (.aload_n 0, 1) := by decide +kernel
theorem d_Reader_barItem_55 : decode prog_10_method_7_code 55 = .ok (.getfield 79, 3) := by decide +kernel
theorem d_Reader_barItem_58 : decode prog_10_method_7_code 58 = .ok (.ishl, 1) := by decide +kernel
theorem d_Reader_barItem_59 : decode prog_10_method_7_code 59 = .ok (.ior, 1) := by decide +kernel
theorem d_Reader_barItem_60 : decode prog_10_method_7_code 60 = .ok (.istore_n 2, 1) := by decide +kernel
theorem d_Reader_barItem_61 : decode prog_10_method_7_code 61 = .ok (.aload_n 0, 1) := by decide +kernel
theorem d_Reader_barItem_62 : decode prog_10_method_7_code 62 = .ok (.invokevirtual 32, 3) := by decide +kernel
theorem d_Reader_barItem_65 : decode prog_10_method_7_code 65 = .ok (.iinc 3 1, 3) := by decide +kernel
theorem d_Reader_barItem_68 : decode prog_10_method_7_code 68 = .ok (.goto (-45), 3) := by decide +kernel
theorem d_Reader_barItem_71 : decode prog_10_method_7_code 71 = .ok (.aload_n 0, 1) := by decide +kernel
theorem d_Reader_barItem_72 : decode prog_10_method_7_code 72 = .ok (.getfield 15, 3) := by decide +kernel
theorem d_Reader_barItem_75 : decode prog_10_method_7_code 75 = .ok (.getfield 93, 3) := by decide +kernel
theorem d_Reader_barItem_78 : decode prog_10_method_7_code 78 = .ok (.iload_n 1, 1) := by decide +kernel
theorem d_Reader_barItem_79 : decode prog_10_method_7_code 79 = .ok (.iload_n 2, 1) := by decide +kernel
theorem d_Reader_barItem_80 : decode prog_10_method_7_code 80 = .ok (.iastore, 1) := by decide +kernel
theorem d_Reader_barItem_81 : decode prog_10_method_7_code 81 = .ok (.iconst 1, 1) := by decide +kernel
theorem d_Reader_barItem_82 : decode prog_10_method_7_code 82 = .ok (.ireturn, 1) := by decide +kernel
theorem d_Reader_doingItem_0 : decode prog_10_method_8_code 0 = .ok (.aload_n 0, 1) := by decide +kernel
theorem d_Reader_doingItem_1 : decode prog_10_method_8_code 1 = .ok (.getfield 15, 3) := by decide +kernel
theorem d_Reader_doingItem_4 : decode prog_10_method_8_code 4 = .ok (.getfield 96, 3) := by decide +kernel
theorem d_Reader_doingItem_7 : decode prog_10_method_8_code 7 = .ok (.bipush 6, 2) := by decide +kernel
theorem d_Reader_doingItem_9 : decode prog_10_method_8_code 9 = .ok (.if_icmp .ge 11, 3) := by decide +kernel
theorem d_Reader_doingItem_12 : decode prog_10_method_8_code 12 = .ok (.aload_n 0, 1) := by decide +kernel
theorem d_Reader_doingItem_13 : decode prog_10_method_8_code 13 = .ok (.iconst 5, 1) := by decide +kernel
theorem d_Reader_doingItem_14 : decode prog_10_method_8_code 14 = .ok (.invokevirtual 75, 3) := by decide +kernel
theorem d_Reader_doingItem_17 : decode prog_10_method_8_code 17 = .ok (.ifCond .ne 5, 3) := by decide +kernel
theorem d_Reader_doingItem_20 : decode prog_10_method_8_code 20 = .ok (.iconst 0, 1) := by decide +kernel
theorem d_Reader_doingItem_21 : decode prog_10_method_8_code 21 = .ok (.ireturn, 1) := by decide +kernel
theorem d_Reader_doingItem_22 : decode prog_10_method_8_code 22 = .ok (.aload_n 0, 1) := by decide +kernel
theorem d_Reader_doingItem_23 : decode prog_10_method_8_code 23 = .ok (.getfield 79, 3) := by decide +kernel
theorem d_Reader_doingItem_26 : decode prog_10_method_8_code 26 = .ok (.istore_n 1, 1) := by decide +kernel
theorem d_Reader_doingItem_27 : decode prog_10_method_8_code 27 = .ok (.aload_n 0, 1) := by decide +kernel
theorem d_Reader_doingItem_28 : decode prog_10_method_8_code 28 = .ok (.bipush 20, 2) := by decide +kernel
theorem d_Reader_doingItem_30 : decode prog_10_method_8_code 30 = .ok (.invokevirtual 75, 3) := by decide +kernel
theorem d_Reader_doingItem_33 : decode prog_10_method_8_code 33 = .ok (.ifCond .ne 5, 3) := by decide +kernel
theorem d_Reader_doingItem_36 : decode prog_10_method_8_code 36 = .ok (.iconst 0, 1) := by decide +kernel
theorem d_Reader_doingItem_37 : decode prog_10_method_8_code 37 = .ok (.ireturn, 1) := by decide +kernel
theorem d_Reader_doingItem_38 : decode prog_10_method_8_code 38 = .ok (.aload_n 0, 1) := by decide +kernel
theorem d_Reader_doingItem_39 : decode prog_10_method_8_code 39 = .ok (.getfield 15, 3) := by decide +kernel
theorem d_Reader_doingItem_42 : decode prog_10_method_8_code 42 = .ok (.iload_n 1, 1) := by decide +kernel
theorem d_Reader_doingItem_43 : decode prog_10_method_8_code 43 = .ok (.aload_n 0, 1) := by decide +kernel
theorem d_Reader_doingItem_44 : decode prog_10_method_8_code 44 = .ok (.getfield 79, 3) := by decide +kernel
theorem d_Reader_doingItem_47 : decode prog_10_method_8_code 47 = .ok (.invokevirtual 99, 3) := by decide +kernel
theorem d_Reader_doingItem_50 : decode prog_10_method_8_code 50 = .ok (.pop, 1) := by decide +kernel
theorem d_Reader_doingItem_51 : decode prog_10_method_8_code 51 = .ok (.aload_n 0, 1) := by decide +kernel
theorem d_Reader_doingItem_52 : decode prog_10_method_8_code 52 = .ok (.invokevirtual 32, 3) := by decide +kernel
theorem d_Reader_doingItem_55 : decode prog_10_method_8_code 55 = .ok (.iconst 1, 1) := by decide +kernel
theorem d_Reader_doingItem_56 : decode prog_10_method_8_code 56 = .ok (.ireturn, 1) := by decide +kernel
theorem d_Reader_number_0 : decode prog_10_method_9_code 0 = .ok (.aload_n 0, 1) := by decide +kernel
theorem d_Reader_number_1 : decode prog_10_method_9_code 1 = .ok (.invokevirtual 32, 3) := by decide +kernel
theorem d_Reader_number_4 : decode prog_10_method_9_code 4 = .ok (.aload_n 0, 1) := by decide +kernel
theorem d_Reader_number_5 : decode prog_10_method_9_code 5 = .ok (.getfield 35, 3) := by decide +kernel
theorem d_Reader_number_8 : decode prog_10_method_9_code 8 = .ok (.iconst 1, 1) := by decide +kernel
theorem d_Reader_number_9 : decode prog_10_method_9_code 9 = .ok (.if_icmp .ne 18, 3) := by decide +kernel
theorem d_Reader_number_12 : decode prog_10_method_9_code 12 = .ok (.aload_n 0, 1) := by decide +kernel
theorem d_Reader_number_13 : decode prog_10_method_9_code 13 = .ok (.getfield 79, 3) := by decide +kernel
theorem d_Reader_number_16 : decode prog_10_method_9_code 16 = .ok (.iload_n 1, 1) := by decide +kernel
theorem d_Reader_number_17 : decode prog_10_method_9_code 17 = .ok (.invokestatic 89, 3) := by decide +kernel
theorem d_Reader_number_20 : decode prog_10_method_9_code 20 = .ok (.ifCond .eq 7, 3) := by decide +kernel
theorem d_Reader_number_23 : decode prog_10_method_9_code 23 = .ok (.iconst 1, 1) := by decide +kernel
theorem d_Reader_number_24 : decode prog_10_method_9_code 24 = .ok (.goto 4, 3) := by decide +kernel
theorem d_Reader_number_27 : decode prog_10_method_9_code 27 = .ok (.iconst 0, 1) := by decide +kernel
theorem d_Reader_number_28 : decode prog_10_method_9_code 28 = .ok (.ireturn, 1) := by decide +kernel
theorem d_Reader_isWord_0 : decode prog_10_method_10_code 0 = .ok (.aload_n 0, 1) := by decide +kernel
theorem d_Reader_isWord_1 : decode prog_10_method_10_code 1 = .ok (.getfield 35, 3) := by decide +kernel
theorem d_Reader_isWord_4 : decode prog_10_method_10_code 4 = .ok (.ifCond .ne 19, 3) := by decide +kernel
theorem d_Reader_isWord_7 : decode prog_10_method_10_code 7 = .ok (.aload_n 0, 1) := by decide +kernel
theorem d_Reader_isWord_8 : decode prog_10_method_10_code 8 = .ok (.getfield 29, 3) := by decide +kernel
theorem d_Reader_isWord_11 : decode prog_10_method_10_code 11 = .ok (.aload_n 0, 1) := by decide +kernel
theorem d_Reader_isWord_12 : decode prog_10_method_10_code 12 = .ok (.getfield 42, 3) := by decide +kernel
theorem d_Reader_isWord_15 : decode prog_10_method_10_code 15 = .ok (.isub, 1) := by decide +kernel
theorem d_Reader_isWord_16 : decode prog_10_method_10_code 16 = .ok (.aload_n 1, 1) := by decide +kernel
theorem d_Reader_isWord_17 : decode prog_10_method_10_code 17 = .ok (.invokevirtual 103, 3) := by decide +kernel
theorem d_Reader_isWord_20 : decode prog_10_method_10_code 20 = .ok (.if_icmp .eq 5, 3) := by decide +kernel
theorem d_Reader_isWord_23 : decode prog_10_method_10_code 23 = .ok (.iconst 0, 1) := by decide +kernel
theorem d_Reader_isWord_24 : decode prog_10_method_10_code 24 = .ok (.ireturn, 1) := by decide +kernel
theorem d_Reader_isWord_25 : decode prog_10_method_10_code 25 = .ok (.iconst 0, 1) := by decide +kernel
theorem d_Reader_isWord_26 : decode prog_10_method_10_code 26 = .ok (.istore_n 2, 1) := by decide +kernel
theorem d_Reader_isWord_27 : decode prog_10_method_10_code 27 = .ok (.iload_n 2, 1) := by decide +kernel
theorem d_Reader_isWord_28 : decode prog_10_method_10_code 28 = .ok (.aload_n 1, 1) := by decide +kernel
theorem d_Reader_isWord_29 : decode prog_10_method_10_code 29 = .ok (.invokevirtual 103, 3) := by decide +kernel
theorem d_Reader_isWord_32 : decode prog_10_method_10_code 32 = .ok (.if_icmp .ge 30, 3) := by decide +kernel
theorem d_Reader_isWord_35 : decode prog_10_method_10_code 35 = .ok (.aload_n 0, 1) := by decide +kernel
theorem d_Reader_isWord_36 : decode prog_10_method_10_code 36 = .ok (.getfield 9, 3) := by decide +kernel
theorem d_Reader_isWord_39 : decode prog_10_method_10_code 39 = .ok (.aload_n 0, 1) := by decide +kernel
theorem d_Reader_isWord_40 : decode prog_10_method_10_code 40 = .ok (.getfield 42, 3) := by decide +kernel
theorem d_Reader_isWord_43 : decode prog_10_method_10_code 43 = .ok (.iload_n 2, 1) := by decide +kernel
theorem d_Reader_isWord_44 : decode prog_10_method_10_code 44 = .ok (.iadd, 1) := by decide +kernel
theorem d_Reader_isWord_45 : decode prog_10_method_10_code 45 = .ok (.baload, 1) := by decide +kernel
theorem d_Reader_isWord_46 : decode prog_10_method_10_code 46 = .ok (.aload_n 1, 1) := by decide +kernel
theorem d_Reader_isWord_47 : decode prog_10_method_10_code 47 = .ok (.iload_n 2, 1) := by decide +kernel
theorem d_Reader_isWord_48 : decode prog_10_method_10_code 48 = .ok (.invokevirtual 108, 3) := by decide +kernel
theorem d_Reader_isWord_51 : decode prog_10_method_10_code 51 = .ok (.if_icmp .eq 5, 3) := by decide +kernel
theorem d_Reader_isWord_54 : decode prog_10_method_10_code 54 = .ok (.iconst 0, 1) := by decide +kernel
theorem d_Reader_isWord_55 : decode prog_10_method_10_code 55 = .ok (.ireturn, 1) := by decide +kernel
theorem d_Reader_isWord_56 : decode prog_10_method_10_code 56 = .ok (.iinc 2 1, 3) := by decide +kernel
theorem d_Reader_isWord_59 : decode prog_10_method_10_code 59 = .ok (.goto (-32), 3) := by decide +kernel
theorem d_Reader_isWord_62 : decode prog_10_method_10_code 62 = .ok (.iconst 1, 1) := by decide +kernel
theorem d_Reader_isWord_63 : decode prog_10_method_10_code 63 = .ok (.ireturn, 1) := by decide +kernel
theorem d_Reader_step_0 : decode prog_10_method_11_code 0 = .ok (.aload_n 0, 1) := by decide +kernel
theorem d_Reader_step_1 : decode prog_10_method_11_code 1 = .ok (.aload_n 0, 1) := by decide +kernel
theorem d_Reader_step_2 : decode prog_10_method_11_code 2 = .ok (.getfield 29, 3) := by decide +kernel
theorem d_Reader_step_5 : decode prog_10_method_11_code 5 = .ok (.putfield 42, 3) := by decide +kernel
theorem d_Reader_step_8 : decode prog_10_method_11_code 8 = .ok (.aload_n 0, 1) := by decide +kernel
theorem d_Reader_step_9 : decode prog_10_method_11_code 9 = .ok (.getfield 42, 3) := by decide +kernel
theorem d_Reader_step_12 : decode prog_10_method_11_code 12 = .ok (.aload_n 0, 1) := by decide +kernel
theorem d_Reader_step_13 : decode prog_10_method_11_code 13 = .ok (.getfield 19, 3) := by decide +kernel
theorem d_Reader_step_16 : decode prog_10_method_11_code 16 = .ok (.if_icmp .ge 30, 3) := by decide +kernel
theorem d_Reader_step_19 : decode prog_10_method_11_code 19 = .ok (.aload_n 0, 1) := by decide +kernel
theorem d_Reader_step_20 : decode prog_10_method_11_code 20 = .ok (.getfield 9, 3) := by decide +kernel
theorem d_Reader_step_23 : decode prog_10_method_11_code 23 = .ok (.aload_n 0, 1) := by decide +kernel
theorem d_Reader_step_24 : decode prog_10_method_11_code 24 = .ok (.getfield 42, 3) := by decide +kernel
theorem d_Reader_step_27 : decode prog_10_method_11_code 27 = .ok (.baload, 1) := by decide +kernel
theorem d_Reader_step_28 : decode prog_10_method_11_code 28 = .ok (.bipush 32, 2) := by decide +kernel
theorem d_Reader_step_30 : decode prog_10_method_11_code 30 = .ok (.if_icmp .ne 16, 3) := by decide +kernel
theorem d_Reader_step_33 : decode prog_10_method_11_code 33 = .ok (.aload_n 0, 1) := by decide +kernel
theorem d_Reader_step_34 : decode prog_10_method_11_code 34 = .ok (.dup, 1) := by decide +kernel
theorem d_Reader_step_35 : decode prog_10_method_11_code 35 = .ok (.getfield 42, 3) := by decide +kernel
theorem d_Reader_step_38 : decode prog_10_method_11_code 38 = .ok (.iconst 1, 1) := by decide +kernel
theorem d_Reader_step_39 : decode prog_10_method_11_code 39 = .ok (.iadd, 1) := by decide +kernel
theorem d_Reader_step_40 : decode prog_10_method_11_code 40 = .ok (.putfield 42, 3) := by decide +kernel
theorem d_Reader_step_43 : decode prog_10_method_11_code 43 = .ok (.goto (-35), 3) := by decide +kernel
theorem d_Reader_step_46 : decode prog_10_method_11_code 46 = .ok (.aload_n 0, 1) := by decide +kernel
theorem d_Reader_step_47 : decode prog_10_method_11_code 47 = .ok (.aload_n 0, 1) := by decide +kernel
theorem d_Reader_step_48 : decode prog_10_method_11_code 48 = .ok (.getfield 42, 3) := by decide +kernel
theorem d_Reader_step_51 : decode prog_10_method_11_code 51 = .ok (.putfield 29, 3) := by decide +kernel
theorem d_Reader_step_54 : decode prog_10_method_11_code 54 = .ok (.aload_n 0, 1) := by decide +kernel
theorem d_Reader_step_55 : decode prog_10_method_11_code 55 = .ok (.getfield 42, 3) := by decide +kernel
theorem d_Reader_step_58 : decode prog_10_method_11_code 58 = .ok (.aload_n 0, 1) := by decide +kernel
theorem d_Reader_step_59 : decode prog_10_method_11_code 59 = .ok (.getfield 19, 3) := by decide +kernel
theorem d_Reader_step_62 : decode prog_10_method_11_code 62 = .ok (.if_icmp .lt 9, 3) := by decide +kernel
theorem d_Reader_step_65 : decode prog_10_method_11_code 65 = .ok (.aload_n 0, 1) := by decide +kernel
theorem d_Reader_step_66 : decode prog_10_method_11_code 66 = .ok (.iconst 3, 1) := by decide +kernel
theorem d_Reader_step_67 : decode prog_10_method_11_code 67 = .ok (.putfield 35, 3) := by decide +kernel
theorem d_Reader_step_70 : decode prog_10_method_11_code 70 = .ok (.return_, 1) := by decide +kernel
theorem d_Reader_step_71 : decode prog_10_method_11_code 71 = .ok (.aload_n 0, 1) := by decide +kernel
theorem d_Reader_step_72 : decode prog_10_method_11_code 72 = .ok (.aload_n 0, 1) := by decide +kernel
theorem d_Reader_step_73 : decode prog_10_method_11_code 73 = .ok (.getfield 9, 3) := by decide +kernel
theorem d_Reader_step_76 : decode prog_10_method_11_code 76 = .ok (.aload_n 0, 1) := by decide +kernel
theorem d_Reader_step_77 : decode prog_10_method_11_code 77 = .ok (.getfield 42, 3) := by decide +kernel
theorem d_Reader_step_80 : decode prog_10_method_11_code 80 = .ok (.baload, 1) := by decide +kernel
theorem d_Reader_step_81 : decode prog_10_method_11_code 81 = .ok (.invokestatic 112, 3) := by decide +kernel
theorem d_Reader_step_84 : decode prog_10_method_11_code 84 = .ok (.putfield 35, 3) := by decide +kernel
theorem d_Reader_step_87 : decode prog_10_method_11_code 87 = .ok (.aload_n 0, 1) := by decide +kernel
theorem d_Reader_step_88 : decode prog_10_method_11_code 88 = .ok (.dup, 1) := by decide +kernel
theorem d_Reader_step_89 : decode prog_10_method_11_code 89 = .ok (.getfield 29, 3) := by decide +kernel
theorem d_Reader_step_92 : decode prog_10_method_11_code 92 = .ok (.iconst 1, 1) := by decide +kernel
theorem d_Reader_step_93 : decode prog_10_method_11_code 93 = .ok (.iadd, 1) := by decide +kernel
theorem d_Reader_step_94 : decode prog_10_method_11_code 94 = .ok (.putfield 29, 3) := by decide +kernel
theorem d_Reader_step_97 : decode prog_10_method_11_code 97 = .ok (.aload_n 0, 1) := by decide +kernel
theorem d_Reader_step_98 : decode prog_10_method_11_code 98 = .ok (.getfield 29, 3) := by decide +kernel
theorem d_Reader_step_101 : decode prog_10_method_11_code 101 = .ok (.aload_n 0, 1) := by decide +kernel
theorem d_Reader_step_102 : decode prog_10_method_11_code 102 = .ok (.getfield 19, 3) := by decide +kernel
theorem d_Reader_step_105 : decode prog_10_method_11_code 105 = .ok (.if_icmp .ge 50, 3) := by decide +kernel
theorem d_Reader_step_108 : decode prog_10_method_11_code 108 = .ok (.aload_n 0, 1) := by decide +kernel
theorem d_Reader_step_109 : decode prog_10_method_11_code 109 = .ok (.getfield 35, 3) := by decide +kernel
theorem d_Reader_step_112 : decode prog_10_method_11_code 112 = .ok (.ifCond .eq 11, 3) := by decide +kernel
theorem d_Reader_step_115 : decode prog_10_method_11_code 115 = .ok (.aload_n 0, 1) := by decide +kernel
theorem d_Reader_step_116 : decode prog_10_method_11_code 116 = .ok (.getfield 35, 3) := by decide +kernel
theorem d_Reader_step_119 : decode prog_10_method_11_code 119 = .ok (.iconst 1, 1) := by decide +kernel
theorem d_Reader_step_120 : decode prog_10_method_11_code 120 = .ok (.if_icmp .ne 35, 3) := by decide +kernel
theorem d_Reader_step_123 : decode prog_10_method_11_code 123 = .ok (.aload_n 0, 1) := by decide +kernel
theorem d_Reader_step_124 : decode prog_10_method_11_code 124 = .ok (.getfield 9, 3) := by decide +kernel
theorem d_Reader_step_127 : decode prog_10_method_11_code 127 = .ok (.aload_n 0, 1) := by decide +kernel
theorem d_Reader_step_128 : decode prog_10_method_11_code 128 = .ok (.getfield 29, 3) := by decide +kernel
theorem d_Reader_step_131 : decode prog_10_method_11_code 131 = .ok (.baload, 1) := by decide +kernel
theorem d_Reader_step_132 : decode prog_10_method_11_code 132 = .ok (.invokestatic 112, 3) := by decide +kernel
theorem d_Reader_step_135 : decode prog_10_method_11_code 135 = .ok (.aload_n 0, 1) := by decide +kernel
theorem d_Reader_step_136 : decode prog_10_method_11_code 136 = .ok (.getfield 35, 3) := by decide +kernel
theorem d_Reader_step_139 : decode prog_10_method_11_code 139 = .ok (.if_icmp .ne 16, 3) := by decide +kernel
theorem d_Reader_step_142 : decode prog_10_method_11_code 142 = .ok (.aload_n 0, 1) := by decide +kernel
theorem d_Reader_step_143 : decode prog_10_method_11_code 143 = .ok (.dup, 1) := by decide +kernel
theorem d_Reader_step_144 : decode prog_10_method_11_code 144 = .ok (.getfield 29, 3) := by decide +kernel
theorem d_Reader_step_147 : decode prog_10_method_11_code 147 = .ok (.iconst 1, 1) := by decide +kernel
theorem d_Reader_step_148 : decode prog_10_method_11_code 148 = .ok (.iadd, 1) := by decide +kernel
theorem d_Reader_step_149 : decode prog_10_method_11_code 149 = .ok (.putfield 29, 3) := by decide +kernel
theorem d_Reader_step_152 : decode prog_10_method_11_code 152 = .ok (.goto (-55), 3) := by decide +kernel
theorem d_Reader_step_155 : decode prog_10_method_11_code 155 = .ok (.aload_n 0, 1) := by decide +kernel
theorem d_Reader_step_156 : decode prog_10_method_11_code 156 = .ok (.aload_n 0, 1) := by decide +kernel
theorem d_Reader_step_157 : decode prog_10_method_11_code 157 = .ok (.getfield 35, 3) := by decide +kernel
theorem d_Reader_step_160 : decode prog_10_method_11_code 160 = .ok (.iconst 1, 1) := by decide +kernel
theorem d_Reader_step_161 : decode prog_10_method_11_code 161 = .ok (.if_icmp .ne 10, 3) := by decide +kernel
theorem d_Reader_step_164 : decode prog_10_method_11_code 164 = .ok (.aload_n 0, 1) := by decide +kernel
theorem d_Reader_step_165 : decode prog_10_method_11_code 165 = .ok (.invokevirtual 116, 3) := by decide +kernel
theorem d_Reader_step_168 : decode prog_10_method_11_code 168 = .ok (.goto 4, 3) := by decide +kernel
theorem d_Reader_step_171 : decode prog_10_method_11_code 171 = .ok (.iconst (-1), 1) := by decide +kernel
theorem d_Reader_step_172 : decode prog_10_method_11_code 172 = .ok (.putfield 79, 3) := by decide +kernel
theorem d_Reader_step_175 : decode prog_10_method_11_code 175 = .ok (.return_, 1) := by decide +kernel
theorem d_Reader_tokenOf_0 : decode prog_10_method_12_code 0 = .ok (.iload_n 0, 1) := by decide +kernel
theorem d_Reader_tokenOf_1 : decode prog_10_method_12_code 1 = .ok (.bipush 97, 2) := by decide +kernel
theorem d_Reader_tokenOf_3 : decode prog_10_method_12_code 3 = .ok (.if_icmp .lt 11, 3) := by decide +kernel
theorem d_Reader_tokenOf_6 : decode prog_10_method_12_code 6 = .ok (.iload_n 0, 1) := by decide +kernel
theorem d_Reader_tokenOf_7 : decode prog_10_method_12_code 7 = .ok (.bipush 122, 2) := by decide +kernel
theorem d_Reader_tokenOf_9 : decode prog_10_method_12_code 9 = .ok (.if_icmp .gt 5, 3) := by decide +kernel
theorem d_Reader_tokenOf_12 : decode prog_10_method_12_code 12 = .ok (.iconst 0, 1) := by decide +kernel
theorem d_Reader_tokenOf_13 : decode prog_10_method_12_code 13 = .ok (.ireturn, 1) := by decide +kernel
theorem d_Reader_tokenOf_14 : decode prog_10_method_12_code 14 = .ok (.iload_n 0, 1) := by decide +kernel
theorem d_Reader_tokenOf_15 : decode prog_10_method_12_code 15 = .ok (.bipush 48, 2) := by decide +kernel
theorem d_Reader_tokenOf_17 : decode prog_10_method_12_code 17 = .ok (.if_icmp .lt 11, 3) := by decide +kernel
theorem d_Reader_tokenOf_20 : decode prog_10_method_12_code 20 = .ok (.iload_n 0, 1) := by decide +kernel
theorem d_Reader_tokenOf_21 : decode prog_10_method_12_code 21 = .ok (.bipush 57, 2) := by decide +kernel
theorem d_Reader_tokenOf_23 : decode prog_10_method_12_code 23 = .ok (.if_icmp .gt 5, 3) := by decide +kernel
theorem d_Reader_tokenOf_26 : decode prog_10_method_12_code 26 = .ok (.iconst 1, 1) := by decide +kernel
theorem d_Reader_tokenOf_27 : decode prog_10_method_12_code 27 = .ok (.ireturn, 1) := by decide +kernel
theorem d_Reader_tokenOf_28 : decode prog_10_method_12_code 28 = .ok (.iload_n 0, 1) := by decide +kernel
theorem d_Reader_tokenOf_29 : decode prog_10_method_12_code 29 = .ok (.bipush 59, 2) := by decide +kernel
theorem d_Reader_tokenOf_31 : decode prog_10_method_12_code 31 = .ok (.if_icmp .ne 7, 3) := by decide +kernel
theorem d_Reader_tokenOf_34 : decode prog_10_method_12_code 34 = .ok (.iconst 2, 1) := by decide +kernel
theorem d_Reader_tokenOf_35 : decode prog_10_method_12_code 35 = .ok (.goto 4, 3) := by decide +kernel
theorem d_Reader_tokenOf_38 : decode prog_10_method_12_code 38 = .ok (.iconst 4, 1) := by decide +kernel
theorem d_Reader_tokenOf_39 : decode prog_10_method_12_code 39 = .ok (.ireturn, 1) := by decide +kernel
theorem d_Reader_valueOfFigures_0 : decode prog_10_method_13_code 0 = .ok (.aload_n 0, 1) := by decide +kernel
theorem d_Reader_valueOfFigures_1 : decode prog_10_method_13_code 1 = .ok (.getfield 9, 3) := by decide +kernel
theorem d_Reader_valueOfFigures_4 : decode prog_10_method_13_code 4 = .ok (.aload_n 0, 1) := by decide +kernel
theorem d_Reader_valueOfFigures_5 : decode prog_10_method_13_code 5 = .ok (.getfield 29, 3) := by decide +kernel
theorem d_Reader_valueOfFigures_8 : decode prog_10_method_13_code 8 = .ok (.iconst 1, 1) := by decide +kernel
theorem d_Reader_valueOfFigures_9 : decode prog_10_method_13_code 9 = .ok (.isub, 1) := by decide +kernel
theorem d_Reader_valueOfFigures_10 : decode prog_10_method_13_code 10 = .ok (.baload, 1) := by decide +kernel
theorem d_Reader_valueOfFigures_11 : decode prog_10_method_13_code 11 = .ok (.bipush 48, 2) := by decide +kernel
theorem d_Reader_valueOfFigures_13 : decode prog_10_method_13_code 13 = .ok (.isub, 1) := by decide +kernel
theorem d_Reader_valueOfFigures_14 : decode prog_10_method_13_code 14 = .ok (.istore_n 1, 1) := by decide +kernel
theorem d_Reader_valueOfFigures_15 : decode prog_10_method_13_code 15 = .ok (.aload_n 0, 1) := by decide +kernel
theorem d_Reader_valueOfFigures_16 : decode prog_10_method_13_code 16 = .ok (.getfield 29, 3) := by decide +kernel
theorem d_Reader_valueOfFigures_19 : decode prog_10_method_13_code 19 = .ok (.aload_n 0, 1) := by decide +kernel
theorem d_Reader_valueOfFigures_20 : decode prog_10_method_13_code 20 = .ok (.getfield 42, 3) := by decide +kernel
theorem d_Reader_valueOfFigures_23 : decode prog_10_method_13_code 23 = .ok (.isub, 1) := by decide +kernel
theorem d_Reader_valueOfFigures_24 : decode prog_10_method_13_code 24 = .ok (.lookupswitch 48 #[(1, 28), (2, 30)], 28) := by decide +kernel
theorem d_Reader_valueOfFigures_52 : decode prog_10_method_13_code 52 = .ok (.iload_n 1, 1) := by decide +kernel
theorem d_Reader_valueOfFigures_53 : decode prog_10_method_13_code 53 = .ok (.ireturn, 1) := by decide +kernel
theorem d_Reader_valueOfFigures_54 : decode prog_10_method_13_code 54 = .ok (.bipush 10, 2) := by decide +kernel
theorem d_Reader_valueOfFigures_56 : decode prog_10_method_13_code 56 = .ok (.aload_n 0, 1) := by decide +kernel
theorem d_Reader_valueOfFigures_57 : decode prog_10_method_13_code 57 = .ok (.getfield 9, 3) := by decide +kernel
theorem d_Reader_valueOfFigures_60 : decode prog_10_method_13_code 60 = .ok (.aload_n 0, 1) := by decide +kernel
theorem d_Reader_valueOfFigures_61 : decode prog_10_method_13_code 61 = .ok (.getfield 42, 3) := by decide +kernel
theorem d_Reader_valueOfFigures_64 : decode prog_10_method_13_code 64 = .ok (.baload, 1) := by decide +kernel
theorem d_Reader_valueOfFigures_65 : decode prog_10_method_13_code 65 = .ok (.bipush 48, 2) := by decide +kernel
theorem d_Reader_valueOfFigures_67 : decode prog_10_method_13_code 67 = .ok (.isub, 1) := by decide +kernel
theorem d_Reader_valueOfFigures_68 : decode prog_10_method_13_code 68 = .ok (.imul, 1) := by decide +kernel
theorem d_Reader_valueOfFigures_69 : decode prog_10_method_13_code 69 = .ok (.iload_n 1, 1) := by decide +kernel
theorem d_Reader_valueOfFigures_70 : decode prog_10_method_13_code 70 = .ok (.iadd, 1) := by decide +kernel
theorem d_Reader_valueOfFigures_71 : decode prog_10_method_13_code 71 = .ok (.ireturn, 1) := by decide +kernel
theorem d_Reader_valueOfFigures_72 : decode prog_10_method_13_code 72 = .ok (.iconst (-1), 1) := by decide +kernel
theorem d_Reader_valueOfFigures_73 : decode prog_10_method_13_code 73 = .ok (.ireturn, 1) := by decide +kernel
theorem d_Snoring_init_0 : decode prog_11_method_1_code 0 = .ok (.aload_n 0, 1) := by decide +kernel
theorem d_Snoring_init_1 : decode prog_11_method_1_code 1 = .ok (.invokespecial 1, 3) := by decide +kernel
theorem d_Snoring_init_4 : decode prog_11_method_1_code 4 = .ok (.return_, 1) := by decide +kernel
theorem d_Snoring_price_0 : decode prog_11_method_2_code 0 = .ok (.aload_n 0, 1) := by decide +kernel
theorem d_Snoring_price_1 : decode prog_11_method_2_code 1 = .ok (.iload_n 1, 1) := by decide +kernel
theorem d_Snoring_price_2 : decode prog_11_method_2_code 2 = .ok (.iload_n 2, 1) := by decide +kernel
theorem d_Snoring_price_3 : decode prog_11_method_2_code 3 = .ok (.iload_n 3, 1) := by decide +kernel
theorem d_Snoring_price_4 : decode prog_11_method_2_code 4 = .ok (.iload 4, 2) := by decide +kernel
theorem d_Snoring_price_6 : decode prog_11_method_2_code 6 = .ok (.iload 5, 2) := by decide +kernel
theorem d_Snoring_price_8 : decode prog_11_method_2_code 8 = .ok (.invokespecial 7, 3) := by decide +kernel
theorem d_Snoring_price_11 : decode prog_11_method_2_code 11 = .ok (.istore 6, 2) := by decide +kernel
theorem d_Snoring_price_13 : decode prog_11_method_2_code 13 = .ok (.iload 4, 2) := by decide +kernel
theorem d_Snoring_price_15 : decode prog_11_method_2_code 15 = .ok (.bipush 22, 2) := by decide +kernel
theorem d_Snoring_price_17 : decode prog_11_method_2_code 17 = .ok (.if_icmp .ge 10, 3) := by decide +kernel
theorem d_Snoring_price_20 : decode prog_11_method_2_code 20 = .ok (.iload 4, 2) := by decide +kernel
theorem d_Snoring_price_22 : decode prog_11_method_2_code 22 = .ok (.bipush 6, 2) := by decide +kernel
theorem d_Snoring_price_24 : decode prog_11_method_2_code 24 = .ok (.if_icmp .ge 10, 3) := by decide +kernel
theorem d_Snoring_price_27 : decode prog_11_method_2_code 27 = .ok (.iload 6, 2) := by decide +kernel
theorem d_Snoring_price_29 : decode prog_11_method_2_code 29 = .ok (.iconst 2, 1) := by decide +kernel
theorem d_Snoring_price_30 : decode prog_11_method_2_code 30 = .ok (.iadd, 1) := by decide +kernel
theorem d_Snoring_price_31 : decode prog_11_method_2_code 31 = .ok (.goto 5, 3) := by decide +kernel
theorem d_Snoring_price_34 : decode prog_11_method_2_code 34 = .ok (.iload 6, 2) := by decide +kernel
theorem d_Snoring_price_36 : decode prog_11_method_2_code 36 = .ok (.ireturn, 1) := by decide +kernel
theorem d_Snoring_passes_0 : decode prog_11_method_3_code 0 = .ok (.iload_n 1, 1) := by decide +kernel
theorem d_Snoring_passes_1 : decode prog_11_method_3_code 1 = .ok (.bipush 22, 2) := by decide +kernel
theorem d_Snoring_passes_3 : decode prog_11_method_3_code 3 = .ok (.if_icmp .lt 7, 3) := by decide +kernel
theorem d_Snoring_passes_6 : decode prog_11_method_3_code 6 = .ok (.iconst 1, 1) := by decide +kernel
theorem d_Snoring_passes_7 : decode prog_11_method_3_code 7 = .ok (.goto 4, 3) := by decide +kernel
theorem d_Snoring_passes_10 : decode prog_11_method_3_code 10 = .ok (.iconst 0, 1) := by decide +kernel
theorem d_Snoring_passes_11 : decode prog_11_method_3_code 11 = .ok (.ireturn, 1) := by decide +kernel
