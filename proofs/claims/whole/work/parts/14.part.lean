theorem d_P_init_0 : decode prog_1_method_1_code 0 = .ok (.aload_n 0, 1) := by decide +kernel
theorem d_P_init_1 : decode prog_1_method_1_code 1 = .ok (.invokespecial 3, 3) := by decide +kernel
theorem d_P_init_4 : decode prog_1_method_1_code 4 = .ok (.aload_n 0, 1) := by decide +kernel
theorem d_P_init_5 : decode prog_1_method_1_code 5 = .ok (.new 9, 3) := by decide +kernel
theorem d_P_init_8 : decode prog_1_method_1_code 8 = .ok (.dup, 1) := by decide +kernel
theorem d_P_init_9 : decode prog_1_method_1_code 9 = .ok (.ldc 11, 2) := by decide +kernel
theorem d_P_init_11 : decode prog_1_method_1_code 11 = .ok (.invokespecial 12, 3) := by decide +kernel
theorem d_P_init_14 : decode prog_1_method_1_code 14 = .ok (.putfield 15, 3) := by decide +kernel
theorem d_P_init_17 : decode prog_1_method_1_code 17 = .ok (.aload_n 0, 1) := by decide +kernel
theorem d_P_init_18 : decode prog_1_method_1_code 18 = .ok (.new 9, 3) := by decide +kernel
theorem d_P_init_21 : decode prog_1_method_1_code 21 = .ok (.dup, 1) := by decide +kernel
theorem d_P_init_22 : decode prog_1_method_1_code 22 = .ok (.bipush 64, 2) := by decide +kernel
theorem d_P_init_24 : decode prog_1_method_1_code 24 = .ok (.invokespecial 12, 3) := by decide +kernel
theorem d_P_init_27 : decode prog_1_method_1_code 27 = .ok (.putfield 19, 3) := by decide +kernel
theorem d_P_init_30 : decode prog_1_method_1_code 30 = .ok (.aload_n 0, 1) := by decide +kernel
theorem d_P_init_31 : decode prog_1_method_1_code 31 = .ok (.new 22, 3) := by decide +kernel
theorem d_P_init_34 : decode prog_1_method_1_code 34 = .ok (.dup, 1) := by decide +kernel
theorem d_P_init_35 : decode prog_1_method_1_code 35 = .ok (.invokespecial 24, 3) := by decide +kernel
theorem d_P_init_38 : decode prog_1_method_1_code 38 = .ok (.putfield 25, 3) := by decide +kernel
theorem d_P_init_41 : decode prog_1_method_1_code 41 = .ok (.aload_n 0, 1) := by decide +kernel
theorem d_P_init_42 : decode prog_1_method_1_code 42 = .ok (.new 29, 3) := by decide +kernel
theorem d_P_init_45 : decode prog_1_method_1_code 45 = .ok (.dup, 1) := by decide +kernel
theorem d_P_init_46 : decode prog_1_method_1_code 46 = .ok (.invokespecial 31, 3) := by decide +kernel
theorem d_P_init_49 : decode prog_1_method_1_code 49 = .ok (.putfield 32, 3) := by decide +kernel
theorem d_P_init_52 : decode prog_1_method_1_code 52 = .ok (.aload_n 0, 1) := by decide +kernel
theorem d_P_init_53 : decode prog_1_method_1_code 53 = .ok (.new 36, 3) := by decide +kernel
theorem d_P_init_56 : decode prog_1_method_1_code 56 = .ok (.dup, 1) := by decide +kernel
theorem d_P_init_57 : decode prog_1_method_1_code 57 = .ok (.aload_n 0, 1) := by decide +kernel
theorem d_P_init_58 : decode prog_1_method_1_code 58 = .ok (.getfield 15, 3) := by decide +kernel
theorem d_P_init_61 : decode prog_1_method_1_code 61 = .ok (.aload_n 0, 1) := by decide +kernel
theorem d_P_init_62 : decode prog_1_method_1_code 62 = .ok (.getfield 25, 3) := by decide +kernel
theorem d_P_init_65 : decode prog_1_method_1_code 65 = .ok (.invokespecial 38, 3) := by decide +kernel
theorem d_P_init_68 : decode prog_1_method_1_code 68 = .ok (.putfield 41, 3) := by decide +kernel
theorem d_P_init_71 : decode prog_1_method_1_code 71 = .ok (.return_, 1) := by decide +kernel
theorem d_P_feed_0 : decode prog_1_method_2_code 0 = .ok (.aload_n 0, 1) := by decide +kernel
theorem d_P_feed_1 : decode prog_1_method_2_code 1 = .ok (.getfield 15, 3) := by decide +kernel
theorem d_P_feed_4 : decode prog_1_method_2_code 4 = .ok (.invokevirtual 45, 3) := by decide +kernel
theorem d_P_feed_7 : decode prog_1_method_2_code 7 = .ok (.bipush 20, 2) := by decide +kernel
theorem d_P_feed_9 : decode prog_1_method_2_code 9 = .ok (.if_icmp .ge 13, 3) := by decide +kernel
theorem d_P_feed_12 : decode prog_1_method_2_code 12 = .ok (.new 49, 3) := by decide +kernel
theorem d_P_feed_15 : decode prog_1_method_2_code 15 = .ok (.dup, 1) := by decide +kernel
theorem d_P_feed_16 : decode prog_1_method_2_code 16 = .ok (.ldc 51, 2) := by decide +kernel
theorem d_P_feed_18 : decode prog_1_method_2_code 18 = .ok (.invokespecial 53, 3) := by decide +kernel
theorem d_P_feed_21 : decode prog_1_method_2_code 21 = .ok (.athrow, 1) := by decide +kernel
theorem d_P_feed_22 : decode prog_1_method_2_code 22 = .ok (.aload_n 0, 1) := by decide +kernel
theorem d_P_feed_23 : decode prog_1_method_2_code 23 = .ok (.getfield 15, 3) := by decide +kernel
theorem d_P_feed_26 : decode prog_1_method_2_code 26 = .ok (.iload_n 1, 1) := by decide +kernel
theorem d_P_feed_27 : decode prog_1_method_2_code 27 = .ok (.invokevirtual 56, 3) := by decide +kernel
theorem d_P_feed_30 : decode prog_1_method_2_code 30 = .ok (.aload_n 0, 1) := by decide +kernel
theorem d_P_feed_31 : decode prog_1_method_2_code 31 = .ok (.getfield 15, 3) := by decide +kernel
theorem d_P_feed_34 : decode prog_1_method_2_code 34 = .ok (.iload_n 2, 1) := by decide +kernel
theorem d_P_feed_35 : decode prog_1_method_2_code 35 = .ok (.invokevirtual 56, 3) := by decide +kernel
theorem d_P_feed_38 : decode prog_1_method_2_code 38 = .ok (.aload_n 0, 1) := by decide +kernel
theorem d_P_feed_39 : decode prog_1_method_2_code 39 = .ok (.getfield 15, 3) := by decide +kernel
theorem d_P_feed_42 : decode prog_1_method_2_code 42 = .ok (.iload_n 3, 1) := by decide +kernel
theorem d_P_feed_43 : decode prog_1_method_2_code 43 = .ok (.invokevirtual 56, 3) := by decide +kernel
theorem d_P_feed_46 : decode prog_1_method_2_code 46 = .ok (.aload_n 0, 1) := by decide +kernel
theorem d_P_feed_47 : decode prog_1_method_2_code 47 = .ok (.getfield 15, 3) := by decide +kernel
theorem d_P_feed_50 : decode prog_1_method_2_code 50 = .ok (.iload 4, 2) := by decide +kernel
theorem d_P_feed_52 : decode prog_1_method_2_code 52 = .ok (.invokevirtual 56, 3) := by decide +kernel
theorem d_P_feed_55 : decode prog_1_method_2_code 55 = .ok (.aload_n 0, 1) := by decide +kernel
theorem d_P_feed_56 : decode prog_1_method_2_code 56 = .ok (.getfield 15, 3) := by decide +kernel
theorem d_P_feed_59 : decode prog_1_method_2_code 59 = .ok (.iload 5, 2) := by decide +kernel
theorem d_P_feed_61 : decode prog_1_method_2_code 61 = .ok (.invokevirtual 56, 3) := by decide +kernel
theorem d_P_feed_64 : decode prog_1_method_2_code 64 = .ok (.return_, 1) := by decide +kernel
theorem d_P_end_0 : decode prog_1_method_3_code 0 = .ok (.iload_n 1, 1) := by decide +kernel
theorem d_P_end_1 : decode prog_1_method_3_code 1 = .ok (.ifCond .lt 14, 3) := by decide +kernel
theorem d_P_end_4 : decode prog_1_method_3_code 4 = .ok (.iload_n 1, 1) := by decide +kernel
theorem d_P_end_5 : decode prog_1_method_3_code 5 = .ok (.aload_n 0, 1) := by decide +kernel
theorem d_P_end_6 : decode prog_1_method_3_code 6 = .ok (.getfield 15, 3) := by decide +kernel
theorem d_P_end_9 : decode prog_1_method_3_code 9 = .ok (.invokevirtual 59, 3) := by decide +kernel
theorem d_P_end_12 : decode prog_1_method_3_code 12 = .ok (.if_icmp .le 13, 3) := by decide +kernel
theorem d_P_end_15 : decode prog_1_method_3_code 15 = .ok (.new 62, 3) := by decide +kernel
theorem d_P_end_18 : decode prog_1_method_3_code 18 = .ok (.dup, 1) := by decide +kernel
theorem d_P_end_19 : decode prog_1_method_3_code 19 = .ok (.ldc 64, 2) := by decide +kernel
theorem d_P_end_21 : decode prog_1_method_3_code 21 = .ok (.invokespecial 66, 3) := by decide +kernel
theorem d_P_end_24 : decode prog_1_method_3_code 24 = .ok (.athrow, 1) := by decide +kernel
theorem d_P_end_25 : decode prog_1_method_3_code 25 = .ok (.aload_n 0, 1) := by decide +kernel
theorem d_P_end_26 : decode prog_1_method_3_code 26 = .ok (.getfield 15, 3) := by decide +kernel
theorem d_P_end_29 : decode prog_1_method_3_code 29 = .ok (.iload_n 1, 1) := by decide +kernel
theorem d_P_end_30 : decode prog_1_method_3_code 30 = .ok (.invokevirtual 67, 3) := by decide +kernel
theorem d_P_end_33 : decode prog_1_method_3_code 33 = .ok (.return_, 1) := by decide +kernel
theorem d_P_alter_0 : decode prog_1_method_4_code 0 = .ok (.iload_n 1, 1) := by decide +kernel
theorem d_P_alter_1 : decode prog_1_method_4_code 1 = .ok (.ifCond .lt 14, 3) := by decide +kernel
theorem d_P_alter_4 : decode prog_1_method_4_code 4 = .ok (.iload_n 1, 1) := by decide +kernel
theorem d_P_alter_5 : decode prog_1_method_4_code 5 = .ok (.aload_n 0, 1) := by decide +kernel
theorem d_P_alter_6 : decode prog_1_method_4_code 6 = .ok (.getfield 15, 3) := by decide +kernel
theorem d_P_alter_9 : decode prog_1_method_4_code 9 = .ok (.invokevirtual 59, 3) := by decide +kernel
theorem d_P_alter_12 : decode prog_1_method_4_code 12 = .ok (.if_icmp .lt 13, 3) := by decide +kernel
theorem d_P_alter_15 : decode prog_1_method_4_code 15 = .ok (.new 70, 3) := by decide +kernel
theorem d_P_alter_18 : decode prog_1_method_4_code 18 = .ok (.dup, 1) := by decide +kernel
theorem d_P_alter_19 : decode prog_1_method_4_code 19 = .ok (.ldc 72, 2) := by decide +kernel
theorem d_P_alter_21 : decode prog_1_method_4_code 21 = .ok (.invokespecial 74, 3) := by decide +kernel
theorem d_P_alter_24 : decode prog_1_method_4_code 24 = .ok (.athrow, 1) := by decide +kernel
theorem d_P_alter_25 : decode prog_1_method_4_code 25 = .ok (.iload_n 2, 1) := by decide +kernel
theorem d_P_alter_26 : decode prog_1_method_4_code 26 = .ok (.ifCond .lt 10, 3) := by decide +kernel
theorem d_P_alter_29 : decode prog_1_method_4_code 29 = .ok (.iload_n 2, 1) := by decide +kernel
theorem d_P_alter_30 : decode prog_1_method_4_code 30 = .ok (.sipush 255, 3) := by decide +kernel
theorem d_P_alter_33 : decode prog_1_method_4_code 33 = .ok (.if_icmp .le 13, 3) := by decide +kernel
theorem d_P_alter_36 : decode prog_1_method_4_code 36 = .ok (.new 62, 3) := by decide +kernel
theorem d_P_alter_39 : decode prog_1_method_4_code 39 = .ok (.dup, 1) := by decide +kernel
theorem d_P_alter_40 : decode prog_1_method_4_code 40 = .ok (.ldc 75, 2) := by decide +kernel
theorem d_P_alter_42 : decode prog_1_method_4_code 42 = .ok (.invokespecial 66, 3) := by decide +kernel
theorem d_P_alter_45 : decode prog_1_method_4_code 45 = .ok (.athrow, 1) := by decide +kernel
theorem d_P_alter_46 : decode prog_1_method_4_code 46 = .ok (.aload_n 0, 1) := by decide +kernel
theorem d_P_alter_47 : decode prog_1_method_4_code 47 = .ok (.getfield 15, 3) := by decide +kernel
theorem d_P_alter_50 : decode prog_1_method_4_code 50 = .ok (.iload_n 1, 1) := by decide +kernel
theorem d_P_alter_51 : decode prog_1_method_4_code 51 = .ok (.iload_n 2, 1) := by decide +kernel
theorem d_P_alter_52 : decode prog_1_method_4_code 52 = .ok (.invokevirtual 77, 3) := by decide +kernel
theorem d_P_alter_55 : decode prog_1_method_4_code 55 = .ok (.return_, 1) := by decide +kernel
theorem d_P_length_0 : decode prog_1_method_5_code 0 = .ok (.aload_n 0, 1) := by decide +kernel
theorem d_P_length_1 : decode prog_1_method_5_code 1 = .ok (.getfield 15, 3) := by decide +kernel
theorem d_P_length_4 : decode prog_1_method_5_code 4 = .ok (.invokevirtual 59, 3) := by decide +kernel
theorem d_P_length_7 : decode prog_1_method_5_code 7 = .ok (.ireturn, 1) := by decide +kernel
theorem d_P_byteAt_0 : decode prog_1_method_6_code 0 = .ok (.aload_n 0, 1) := by decide +kernel
theorem d_P_byteAt_1 : decode prog_1_method_6_code 1 = .ok (.getfield 15, 3) := by decide +kernel
theorem d_P_byteAt_4 : decode prog_1_method_6_code 4 = .ok (.iload_n 1, 1) := by decide +kernel
theorem d_P_byteAt_5 : decode prog_1_method_6_code 5 = .ok (.invokevirtual 81, 3) := by decide +kernel
theorem d_P_byteAt_8 : decode prog_1_method_6_code 8 = .ok (.istore_n 2, 1) := by decide +kernel
theorem d_P_byteAt_9 : decode prog_1_method_6_code 9 = .ok (.iload_n 2, 1) := by decide +kernel
theorem d_P_byteAt_10 : decode prog_1_method_6_code 10 = .ok (.iconst (-1), 1) := by decide +kernel
theorem d_P_byteAt_11 : decode prog_1_method_6_code 11 = .ok (.if_icmp .ne 13, 3) := by decide +kernel
theorem d_P_byteAt_14 : decode prog_1_method_6_code 14 = .ok (.new 70, 3) := by decide +kernel
theorem d_P_byteAt_17 : decode prog_1_method_6_code 17 = .ok (.dup, 1) := by decide +kernel
theorem d_P_byteAt_18 : decode prog_1_method_6_code 18 = .ok (.ldc 72, 2) := by decide +kernel
theorem d_P_byteAt_20 : decode prog_1_method_6_code 20 = .ok (.invokespecial 74, 3) := by decide +kernel
theorem d_P_byteAt_23 : decode prog_1_method_6_code 23 = .ok (.athrow, 1) := by decide +kernel
theorem d_P_byteAt_24 : decode prog_1_method_6_code 24 = .ok (.iload_n 2, 1) := by decide +kernel
theorem d_P_byteAt_25 : decode prog_1_method_6_code 25 = .ok (.ireturn, 1) := by decide +kernel
theorem d_P_type_0 : decode prog_1_method_7_code 0 = .ok (.iconst 0, 1) := by decide +kernel
theorem d_P_type_1 : decode prog_1_method_7_code 1 = .ok (.istore_n 2, 1) := by decide +kernel
theorem d_P_type_2 : decode prog_1_method_7_code 2 = .ok (.bipush 24, 2) := by decide +kernel
theorem d_P_type_4 : decode prog_1_method_7_code 4 = .ok (.istore_n 3, 1) := by decide +kernel
theorem d_P_type_5 : decode prog_1_method_7_code 5 = .ok (.iload_n 3, 1) := by decide +kernel
theorem d_P_type_6 : decode prog_1_method_7_code 6 = .ok (.ifCond .lt 50, 3) := by decide +kernel
theorem d_P_type_9 : decode prog_1_method_7_code 9 = .ok (.iload_n 1, 1) := by decide +kernel
theorem d_P_type_10 : decode prog_1_method_7_code 10 = .ok (.iload_n 3, 1) := by decide +kernel
theorem d_P_type_11 : decode prog_1_method_7_code 11 = .ok (.iushr, 1) := by decide +kernel
theorem d_P_type_12 : decode prog_1_method_7_code 12 = .ok (.sipush 255, 3) := by decide +kernel
theorem d_P_type_15 : decode prog_1_method_7_code 15 = .ok (.iand, 1) := by decide +kernel
theorem d_P_type_16 : decode prog_1_method_7_code 16 = .ok (.istore 4, 2) := by decide +kernel
theorem d_P_type_18 : decode prog_1_method_7_code 18 = .ok (.iload 4, 2) := by decide +kernel
theorem d_P_type_20 : decode prog_1_method_7_code 20 = .ok (.ifCond .eq 30, 3) := by decide +kernel
theorem d_P_type_23 : decode prog_1_method_7_code 23 = .ok (.iload 4, 2) := by decide +kernel
theorem d_P_type_25 : decode prog_1_method_7_code 25 = .ok (.bipush 33, 2) := by decide +kernel
theorem d_P_type_27 : decode prog_1_method_7_code 27 = .ok (.if_icmp .lt 10, 3) := by decide +kernel
theorem d_P_type_30 : decode prog_1_method_7_code 30 = .ok (.iload 4, 2) := by decide +kernel
theorem d_P_type_32 : decode prog_1_method_7_code 32 = .ok (.bipush 126, 2) := by decide +kernel
theorem d_P_type_34 : decode prog_1_method_7_code 34 = .ok (.if_icmp .le 13, 3) := by decide +kernel
theorem d_P_type_37 : decode prog_1_method_7_code 37 = .ok (.new 62, 3) := by decide +kernel
theorem d_P_type_40 : decode prog_1_method_7_code 40 = .ok (.dup, 1) := by decide +kernel
theorem d_P_type_41 : decode prog_1_method_7_code 41 = .ok (.ldc 85, 2) := by decide +kernel
theorem d_P_type_43 : decode prog_1_method_7_code 43 = .ok (.invokespecial 66, 3) := by decide +kernel
theorem d_P_type_46 : decode prog_1_method_7_code 46 = .ok (.athrow, 1) := by decide +kernel
theorem d_P_type_47 : decode prog_1_method_7_code 47 = .ok (.iinc 2 1, 3) := by decide +kernel
theorem d_P_type_50 : decode prog_1_method_7_code 50 = .ok (.iinc 3 (-8), 3) := by decide +kernel
theorem d_P_type_53 : decode prog_1_method_7_code 53 = .ok (.goto (-48), 3) := by decide +kernel
theorem d_P_type_56 : decode prog_1_method_7_code 56 = .ok (.iload_n 2, 1) := by decide +kernel
theorem d_P_type_57 : decode prog_1_method_7_code 57 = .ok (.aload_n 0, 1) := by decide +kernel
theorem d_P_type_58 : decode prog_1_method_7_code 58 = .ok (.getfield 19, 3) := by decide +kernel
theorem d_P_type_61 : decode prog_1_method_7_code 61 = .ok (.invokevirtual 45, 3) := by decide +kernel
theorem d_P_type_64 : decode prog_1_method_7_code 64 = .ok (.if_icmp .le 13, 3) := by decide +kernel
theorem d_P_type_67 : decode prog_1_method_7_code 67 = .ok (.new 49, 3) := by decide +kernel
theorem d_P_type_70 : decode prog_1_method_7_code 70 = .ok (.dup, 1) := by decide +kernel
theorem d_P_type_71 : decode prog_1_method_7_code 71 = .ok (.ldc 87, 2) := by decide +kernel
theorem d_P_type_73 : decode prog_1_method_7_code 73 = .ok (.invokespecial 53, 3) := by decide +kernel
theorem d_P_type_76 : decode prog_1_method_7_code 76 = .ok (.athrow, 1) := by decide +kernel
theorem d_P_type_77 : decode prog_1_method_7_code 77 = .ok (.bipush 24, 2) := by decide +kernel
theorem d_P_type_79 : decode prog_1_method_7_code 79 = .ok (.istore_n 3, 1) := by decide +kernel
theorem d_P_type_80 : decode prog_1_method_7_code 80 = .ok (.iload_n 3, 1) := by decide +kernel
theorem d_P_type_81 : decode prog_1_method_7_code 81 = .ok (.ifCond .lt 32, 3) := by decide +kernel
theorem d_P_type_84 : decode prog_1_method_7_code 84 = .ok (.iload_n 1, 1) := by decide +kernel
theorem d_P_type_85 : decode prog_1_method_7_code 85 = .ok (.iload_n 3, 1) := by decide +kernel
theorem d_P_type_86 : decode prog_1_method_7_code 86 = .ok (.iushr, 1) := by decide +kernel
theorem d_P_type_87 : decode prog_1_method_7_code 87 = .ok (.sipush 255, 3) := by decide +kernel
theorem d_P_type_90 : decode prog_1_method_7_code 90 = .ok (.iand, 1) := by decide +kernel
theorem d_P_type_91 : decode prog_1_method_7_code 91 = .ok (.istore 4, 2) := by decide +kernel
theorem d_P_type_93 : decode prog_1_method_7_code 93 = .ok (.iload 4, 2) := by decide +kernel
theorem d_P_type_95 : decode prog_1_method_7_code 95 = .ok (.ifCond .eq 12, 3) := by decide +kernel
theorem d_P_type_98 : decode prog_1_method_7_code 98 = .ok (.aload_n 0, 1) := by decide +kernel
theorem d_P_type_99 : decode prog_1_method_7_code 99 = .ok (.getfield 19, 3) := by decide +kernel
theorem d_P_type_102 : decode prog_1_method_7_code 102 = .ok (.iload 4, 2) := by decide +kernel
theorem d_P_type_104 : decode prog_1_method_7_code 104 = .ok (.invokevirtual 89, 3) := by decide +kernel
theorem d_P_type_107 : decode prog_1_method_7_code 107 = .ok (.iinc 3 (-8), 3) := by decide +kernel
theorem d_P_type_110 : decode prog_1_method_7_code 110 = .ok (.goto (-30), 3) := by decide +kernel
theorem d_P_type_113 : decode prog_1_method_7_code 113 = .ok (.aload_n 0, 1) := by decide +kernel
theorem d_P_type_114 : decode prog_1_method_7_code 114 = .ok (.getfield 19, 3) := by decide +kernel
theorem d_P_type_117 : decode prog_1_method_7_code 117 = .ok (.invokevirtual 59, 3) := by decide +kernel
theorem d_P_type_120 : decode prog_1_method_7_code 120 = .ok (.ireturn, 1) := by decide +kernel
theorem d_P_erase_0 : decode prog_1_method_8_code 0 = .ok (.aload_n 0, 1) := by decide +kernel
theorem d_P_erase_1 : decode prog_1_method_8_code 1 = .ok (.getfield 19, 3) := by decide +kernel
theorem d_P_erase_4 : decode prog_1_method_8_code 4 = .ok (.iconst 0, 1) := by decide +kernel
theorem d_P_erase_5 : decode prog_1_method_8_code 5 = .ok (.invokevirtual 67, 3) := by decide +kernel
theorem d_P_erase_8 : decode prog_1_method_8_code 8 = .ok (.return_, 1) := by decide +kernel
theorem d_P_add_0 : decode prog_1_method_9_code 0 = .ok (.aload_n 0, 1) := by decide +kernel
theorem d_P_add_1 : decode prog_1_method_9_code 1 = .ok (.invokevirtual 92, 3) := by decide +kernel
theorem d_P_add_4 : decode prog_1_method_9_code 4 = .ok (.ifCond .ne 13, 3) := by decide +kernel
theorem d_P_add_7 : decode prog_1_method_9_code 7 = .ok (.new 62, 3) := by decide +kernel
theorem d_P_add_10 : decode prog_1_method_9_code 10 = .ok (.dup, 1) := by decide +kernel
theorem d_P_add_11 : decode prog_1_method_9_code 11 = .ok (.ldc 96, 2) := by decide +kernel
theorem d_P_add_13 : decode prog_1_method_9_code 13 = .ok (.invokespecial 66, 3) := by decide +kernel
theorem d_P_add_16 : decode prog_1_method_9_code 16 = .ok (.athrow, 1) := by decide +kernel
theorem d_P_add_17 : decode prog_1_method_9_code 17 = .ok (.aload_n 0, 1) := by decide +kernel
theorem d_P_add_18 : decode prog_1_method_9_code 18 = .ok (.iconst 0, 1) := by decide +kernel
theorem d_P_add_19 : decode prog_1_method_9_code 19 = .ok (.aload_n 0, 1) := by decide +kernel
theorem d_P_add_20 : decode prog_1_method_9_code 20 = .ok (.getfield 15, 3) := by decide +kernel
theorem d_P_add_23 : decode prog_1_method_9_code 23 = .ok (.invokevirtual 59, 3) := by decide +kernel
theorem d_P_add_26 : decode prog_1_method_9_code 26 = .ok (.aload_n 0, 1) := by decide +kernel
theorem d_P_add_27 : decode prog_1_method_9_code 27 = .ok (.getfield 25, 3) := by decide +kernel
theorem d_P_add_30 : decode prog_1_method_9_code 30 = .ok (.aload_n 0, 1) := by decide +kernel
theorem d_P_add_31 : decode prog_1_method_9_code 31 = .ok (.getfield 15, 3) := by decide +kernel
theorem d_P_add_34 : decode prog_1_method_9_code 34 = .ok (.iconst 0, 1) := by decide +kernel
theorem d_P_add_35 : decode prog_1_method_9_code 35 = .ok (.aload_n 0, 1) := by decide +kernel
theorem d_P_add_36 : decode prog_1_method_9_code 36 = .ok (.getfield 15, 3) := by decide +kernel
theorem d_P_add_39 : decode prog_1_method_9_code 39 = .ok (.invokevirtual 59, 3) := by decide +kernel
theorem d_P_add_42 : decode prog_1_method_9_code 42 = .ok (.invokevirtual 98, 3) := by decide +kernel
theorem d_P_add_45 : decode prog_1_method_9_code 45 = .ok (.invokevirtual 102, 3) := by decide +kernel
theorem d_P_add_48 : decode prog_1_method_9_code 48 = .ok (.ireturn, 1) := by decide +kernel
theorem d_P_addPacked_0 : decode prog_1_method_10_code 0 = .ok (.aload_n 0, 1) := by decide +kernel
theorem d_P_addPacked_1 : decode prog_1_method_10_code 1 = .ok (.invokevirtual 92, 3) := by decide +kernel
theorem d_P_addPacked_4 : decode prog_1_method_10_code 4 = .ok (.ifCond .eq 7, 3) := by decide +kernel
theorem d_P_addPacked_7 : decode prog_1_method_10_code 7 = .ok (.iload_n 1, 1) := by decide +kernel
theorem d_P_addPacked_8 : decode prog_1_method_10_code 8 = .ok (.ifCond .ge 13, 3) := by decide +kernel
theorem d_P_addPacked_11 : decode prog_1_method_10_code 11 = .ok (.new 62, 3) := by decide +kernel
theorem d_P_addPacked_14 : decode prog_1_method_10_code 14 = .ok (.dup, 1) := by decide +kernel
theorem d_P_addPacked_15 : decode prog_1_method_10_code 15 = .ok (.ldc 106, 2) := by decide +kernel
theorem d_P_addPacked_17 : decode prog_1_method_10_code 17 = .ok (.invokespecial 66, 3) := by decide +kernel
theorem d_P_addPacked_20 : decode prog_1_method_10_code 20 = .ok (.athrow, 1) := by decide +kernel
theorem d_P_addPacked_21 : decode prog_1_method_10_code 21 = .ok (.aload_n 0, 1) := by decide +kernel
theorem d_P_addPacked_22 : decode prog_1_method_10_code 22 = .ok (.bipush 8, 2) := by decide +kernel
theorem d_P_addPacked_24 : decode prog_1_method_10_code 24 = .ok (.iload_n 1, 1) := by decide +kernel
theorem d_P_addPacked_25 : decode prog_1_method_10_code 25 = .ok (.iload_n 2, 1) := by decide +kernel
theorem d_P_addPacked_26 : decode prog_1_method_10_code 26 = .ok (.invokevirtual 102, 3) := by decide +kernel
theorem d_P_addPacked_29 : decode prog_1_method_10_code 29 = .ok (.ireturn, 1) := by decide +kernel
theorem d_P_remove_0 : decode prog_1_method_11_code 0 = .ok (.aload_n 0, 1) := by decide +kernel
theorem d_P_remove_1 : decode prog_1_method_11_code 1 = .ok (.getfield 32, 3) := by decide +kernel
theorem d_P_remove_4 : decode prog_1_method_11_code 4 = .ok (.iload_n 1, 1) := by decide +kernel
theorem d_P_remove_5 : decode prog_1_method_11_code 5 = .ok (.invokevirtual 108, 3) := by decide +kernel
theorem d_P_remove_8 : decode prog_1_method_11_code 8 = .ok (.ifCond .ne 13, 3) := by decide +kernel
theorem d_P_remove_11 : decode prog_1_method_11_code 11 = .ok (.new 70, 3) := by decide +kernel
theorem d_P_remove_14 : decode prog_1_method_11_code 14 = .ok (.dup, 1) := by decide +kernel
theorem d_P_remove_15 : decode prog_1_method_11_code 15 = .ok (.ldc 112, 2) := by decide +kernel
theorem d_P_remove_17 : decode prog_1_method_11_code 17 = .ok (.invokespecial 74, 3) := by decide +kernel
theorem d_P_remove_20 : decode prog_1_method_11_code 20 = .ok (.athrow, 1) := by decide +kernel
theorem d_P_remove_21 : decode prog_1_method_11_code 21 = .ok (.aload_n 0, 1) := by decide +kernel
theorem d_P_remove_22 : decode prog_1_method_11_code 22 = .ok (.getfield 32, 3) := by decide +kernel
theorem d_P_remove_25 : decode prog_1_method_11_code 25 = .ok (.iload_n 1, 1) := by decide +kernel
theorem d_P_remove_26 : decode prog_1_method_11_code 26 = .ok (.invokevirtual 114, 3) := by decide +kernel
theorem d_P_remove_29 : decode prog_1_method_11_code 29 = .ok (.return_, 1) := by decide +kernel
theorem d_P_move_0 : decode prog_1_method_12_code 0 = .ok (.aload_n 0, 1) := by decide +kernel
theorem d_P_move_1 : decode prog_1_method_12_code 1 = .ok (.getfield 32, 3) := by decide +kernel
theorem d_P_move_4 : decode prog_1_method_12_code 4 = .ok (.iload_n 1, 1) := by decide +kernel
theorem d_P_move_5 : decode prog_1_method_12_code 5 = .ok (.invokevirtual 108, 3) := by decide +kernel
theorem d_P_move_8 : decode prog_1_method_12_code 8 = .ok (.ifCond .eq 14, 3) := by decide +kernel
theorem d_P_move_11 : decode prog_1_method_12_code 11 = .ok (.aload_n 0, 1) := by decide +kernel
theorem d_P_move_12 : decode prog_1_method_12_code 12 = .ok (.getfield 32, 3) := by decide +kernel
theorem d_P_move_15 : decode prog_1_method_12_code 15 = .ok (.iload_n 2, 1) := by decide +kernel
theorem d_P_move_16 : decode prog_1_method_12_code 16 = .ok (.invokevirtual 108, 3) := by decide +kernel
theorem d_P_move_19 : decode prog_1_method_12_code 19 = .ok (.ifCond .ne 13, 3) := by decide +kernel
theorem d_P_move_22 : decode prog_1_method_12_code 22 = .ok (.new 70, 3) := by decide +kernel
theorem d_P_move_25 : decode prog_1_method_12_code 25 = .ok (.dup, 1) := by decide +kernel
theorem d_P_move_26 : decode prog_1_method_12_code 26 = .ok (.ldc 112, 2) := by decide +kernel
theorem d_P_move_28 : decode prog_1_method_12_code 28 = .ok (.invokespecial 74, 3) := by decide +kernel
theorem d_P_move_31 : decode prog_1_method_12_code 31 = .ok (.athrow, 1) := by decide +kernel
theorem d_P_move_32 : decode prog_1_method_12_code 32 = .ok (.aload_n 0, 1) := by decide +kernel
theorem d_P_move_33 : decode prog_1_method_12_code 33 = .ok (.getfield 32, 3) := by decide +kernel
theorem d_P_move_36 : decode prog_1_method_12_code 36 = .ok (.iload_n 1, 1) := by decide +kernel
theorem d_P_move_37 : decode prog_1_method_12_code 37 = .ok (.iload_n 2, 1) := by decide +kernel
theorem d_P_move_38 : decode prog_1_method_12_code 38 = .ok (.invokevirtual 117, 3) := by decide +kernel
theorem d_P_move_41 : decode prog_1_method_12_code 41 = .ok (.return_, 1) := by decide +kernel
theorem d_P_find_0 : decode prog_1_method_13_code 0 = .ok (.aload_n 0, 1) := by decide +kernel
theorem d_P_find_1 : decode prog_1_method_13_code 1 = .ok (.getfield 32, 3) := by decide +kernel
theorem d_P_find_4 : decode prog_1_method_13_code 4 = .ok (.aload_n 0, 1) := by decide +kernel
theorem d_P_find_5 : decode prog_1_method_13_code 5 = .ok (.getfield 19, 3) := by decide +kernel
theorem d_P_find_8 : decode prog_1_method_13_code 8 = .ok (.invokevirtual 120, 3) := by decide +kernel
theorem d_P_find_11 : decode prog_1_method_13_code 11 = .ok (.ireturn, 1) := by decide +kernel
theorem d_P_about_0 : decode prog_1_method_14_code 0 = .ok (.aload_n 0, 1) := by decide +kernel
theorem d_P_about_1 : decode prog_1_method_14_code 1 = .ok (.getfield 32, 3) := by decide +kernel
theorem d_P_about_4 : decode prog_1_method_14_code 4 = .ok (.iload_n 1, 1) := by decide +kernel
theorem d_P_about_5 : decode prog_1_method_14_code 5 = .ok (.invokevirtual 124, 3) := by decide +kernel
theorem d_P_about_8 : decode prog_1_method_14_code 8 = .ok (.astore_n 3, 1) := by decide +kernel
theorem d_P_about_9 : decode prog_1_method_14_code 9 = .ok (.aload_n 3, 1) := by decide +kernel
theorem d_P_about_10 : decode prog_1_method_14_code 10 = .ok (.ifnonnull 13, 3) := by decide +kernel
theorem d_P_about_13 : decode prog_1_method_14_code 13 = .ok (.new 70, 3) := by decide +kernel
theorem d_P_about_16 : decode prog_1_method_14_code 16 = .ok (.dup, 1) := by decide +kernel
theorem d_P_about_17 : decode prog_1_method_14_code 17 = .ok (.ldc 112, 2) := by decide +kernel
theorem d_P_about_19 : decode prog_1_method_14_code 19 = .ok (.invokespecial 74, 3) := by decide +kernel
theorem d_P_about_22 : decode prog_1_method_14_code 22 = .ok (.athrow, 1) := by decide +kernel
theorem d_P_about_23 : decode prog_1_method_14_code 23 = .ok (.iload_n 2, 1) := by decide +kernel
theorem d_P_about_24 : decode prog_1_method_14_code 24 = .ok (.tableswitch 64 0 4 #[36, 41, 46, 51, 56], 36) := by decide +kernel
theorem d_P_about_60 : decode prog_1_method_14_code 60 = .ok (.aload_n 3, 1) := by decide +kernel
theorem d_P_about_61 : decode prog_1_method_14_code 61 = .ok (.getfield 128, 3) := by decide +kernel
theorem d_P_about_64 : decode prog_1_method_14_code 64 = .ok (.ireturn, 1) := by decide +kernel
theorem d_P_about_65 : decode prog_1_method_14_code 65 = .ok (.aload_n 3, 1) := by decide +kernel
theorem d_P_about_66 : decode prog_1_method_14_code 66 = .ok (.getfield 134, 3) := by decide +kernel
theorem d_P_about_69 : decode prog_1_method_14_code 69 = .ok (.ireturn, 1) := by decide +kernel
theorem d_P_about_70 : decode prog_1_method_14_code 70 = .ok (.aload_n 3, 1) := by decide +kernel
theorem d_P_about_71 : decode prog_1_method_14_code 71 = .ok (.getfield 137, 3) := by decide +kernel
theorem d_P_about_74 : decode prog_1_method_14_code 74 = .ok (.ireturn, 1) := by decide +kernel
theorem d_P_about_75 : decode prog_1_method_14_code 75 = .ok (.aload_n 3, 1) := by decide +kernel
theorem d_P_about_76 : decode prog_1_method_14_code 76 = .ok (.getfield 139, 3) := by decide +kernel
theorem d_P_about_79 : decode prog_1_method_14_code 79 = .ok (.ireturn, 1) := by decide +kernel
theorem d_P_about_80 : decode prog_1_method_14_code 80 = .ok (.aload_n 3, 1) := by decide +kernel
theorem d_P_about_81 : decode prog_1_method_14_code 81 = .ok (.getfield 142, 3) := by decide +kernel
theorem d_P_about_84 : decode prog_1_method_14_code 84 = .ok (.invokevirtual 59, 3) := by decide +kernel
theorem d_P_about_87 : decode prog_1_method_14_code 87 = .ok (.ireturn, 1) := by decide +kernel
theorem d_P_about_88 : decode prog_1_method_14_code 88 = .ok (.new 62, 3) := by decide +kernel
theorem d_P_about_91 : decode prog_1_method_14_code 91 = .ok (.dup, 1) := by decide +kernel
theorem d_P_about_92 : decode prog_1_method_14_code 92 = .ok (.ldc 145, 2) := by decide +kernel
theorem d_P_about_94 : decode prog_1_method_14_code 94 = .ok (.invokespecial 66, 3) := by decide +kernel
theorem d_P_about_97 : decode prog_1_method_14_code 97 = .ok (.athrow, 1) := by decide +kernel
theorem d_P_name_0 : decode prog_1_method_15_code 0 = .ok (.aload_n 0, 1) := by decide +kernel
theorem d_P_name_1 : decode prog_1_method_15_code 1 = .ok (.getfield 32, 3) := by decide +kernel
theorem d_P_name_4 : decode prog_1_method_15_code 4 = .ok (.iload_n 1, 1) := by decide +kernel
theorem d_P_name_5 : decode prog_1_method_15_code 5 = .ok (.invokevirtual 124, 3) := by decide +kernel
theorem d_P_name_8 : decode prog_1_method_15_code 8 = .ok (.astore_n 3, 1) := by decide +kernel
theorem d_P_name_9 : decode prog_1_method_15_code 9 = .ok (.aload_n 3, 1) := by decide +kernel
theorem d_P_name_10 : decode prog_1_method_15_code 10 = .ok (.ifnonnull 13, 3) := by decide +kernel
theorem d_P_name_13 : decode prog_1_method_15_code 13 = .ok (.new 70, 3) := by decide +kernel
theorem d_P_name_16 : decode prog_1_method_15_code 16 = .ok (.dup, 1) := by decide +kernel
theorem d_P_name_17 : decode prog_1_method_15_code 17 = .ok (.ldc 112, 2) := by decide +kernel
theorem d_P_name_19 : decode prog_1_method_15_code 19 = .ok (.invokespecial 74, 3) := by decide +kernel
theorem d_P_name_22 : decode prog_1_method_15_code 22 = .ok (.athrow, 1) := by decide +kernel
theorem d_P_name_23 : decode prog_1_method_15_code 23 = .ok (.aload_n 3, 1) := by decide +kernel
theorem d_P_name_24 : decode prog_1_method_15_code 24 = .ok (.getfield 142, 3) := by decide +kernel
theorem d_P_name_27 : decode prog_1_method_15_code 27 = .ok (.iload_n 2, 1) := by decide +kernel
theorem d_P_name_28 : decode prog_1_method_15_code 28 = .ok (.invokevirtual 81, 3) := by decide +kernel
theorem d_P_name_31 : decode prog_1_method_15_code 31 = .ok (.ireturn, 1) := by decide +kernel
theorem d_P_part_0 : decode prog_1_method_16_code 0 = .ok (.aload_n 0, 1) := by decide +kernel
theorem d_P_part_1 : decode prog_1_method_16_code 1 = .ok (.getfield 32, 3) := by decide +kernel
theorem d_P_part_4 : decode prog_1_method_16_code 4 = .ok (.iload_n 1, 1) := by decide +kernel
theorem d_P_part_5 : decode prog_1_method_16_code 5 = .ok (.invokevirtual 124, 3) := by decide +kernel
theorem d_P_part_8 : decode prog_1_method_16_code 8 = .ok (.astore_n 3, 1) := by decide +kernel
theorem d_P_part_9 : decode prog_1_method_16_code 9 = .ok (.aload_n 3, 1) := by decide +kernel
theorem d_P_part_10 : decode prog_1_method_16_code 10 = .ok (.ifnull 15, 3) := by decide +kernel
theorem d_P_part_13 : decode prog_1_method_16_code 13 = .ok (.iload_n 2, 1) := by decide +kernel
theorem d_P_part_14 : decode prog_1_method_16_code 14 = .ok (.ifCond .lt 11, 3) := by decide +kernel
theorem d_P_part_17 : decode prog_1_method_16_code 17 = .ok (.iload_n 2, 1) := by decide +kernel
theorem d_P_part_18 : decode prog_1_method_16_code 18 = .ok (.aload_n 3, 1) := by decide +kernel
theorem d_P_part_19 : decode prog_1_method_16_code 19 = .ok (.getfield 134, 3) := by decide +kernel
theorem d_P_part_22 : decode prog_1_method_16_code 22 = .ok (.if_icmp .lt 13, 3) := by decide +kernel
theorem d_P_part_25 : decode prog_1_method_16_code 25 = .ok (.new 70, 3) := by decide +kernel
theorem d_P_part_28 : decode prog_1_method_16_code 28 = .ok (.dup, 1) := by decide +kernel
theorem d_P_part_29 : decode prog_1_method_16_code 29 = .ok (.ldc 147, 2) := by decide +kernel
theorem d_P_part_31 : decode prog_1_method_16_code 31 = .ok (.invokespecial 74, 3) := by decide +kernel
theorem d_P_part_34 : decode prog_1_method_16_code 34 = .ok (.athrow, 1) := by decide +kernel
theorem d_P_part_35 : decode prog_1_method_16_code 35 = .ok (.aload_n 0, 1) := by decide +kernel
theorem d_P_part_36 : decode prog_1_method_16_code 36 = .ok (.getfield 32, 3) := by decide +kernel
theorem d_P_part_39 : decode prog_1_method_16_code 39 = .ok (.getfield 149, 3) := by decide +kernel
theorem d_P_part_42 : decode prog_1_method_16_code 42 = .ok (.aload_n 3, 1) := by decide +kernel
theorem d_P_part_43 : decode prog_1_method_16_code 43 = .ok (.getfield 152, 3) := by decide +kernel
theorem d_P_part_46 : decode prog_1_method_16_code 46 = .ok (.iload_n 2, 1) := by decide +kernel
theorem d_P_part_47 : decode prog_1_method_16_code 47 = .ok (.iadd, 1) := by decide +kernel
theorem d_P_part_48 : decode prog_1_method_16_code 48 = .ok (.invokevirtual 81, 3) := by decide +kernel
theorem d_P_part_51 : decode prog_1_method_16_code 51 = .ok (.ireturn, 1) := by decide +kernel
theorem d_P_write_0 : decode prog_1_method_17_code 0 = .ok (.aload_n 0, 1) := by decide +kernel
theorem d_P_write_1 : decode prog_1_method_17_code 1 = .ok (.getfield 32, 3) := by decide +kernel
theorem d_P_write_4 : decode prog_1_method_17_code 4 = .ok (.invokevirtual 155, 3) := by decide +kernel
theorem d_P_write_7 : decode prog_1_method_17_code 7 = .ok (.ldc 11, 2) := by decide +kernel
theorem d_P_write_9 : decode prog_1_method_17_code 9 = .ok (.if_icmp .le 13, 3) := by decide +kernel
theorem d_P_write_12 : decode prog_1_method_17_code 12 = .ok (.new 49, 3) := by decide +kernel
theorem d_P_write_15 : decode prog_1_method_17_code 15 = .ok (.dup, 1) := by decide +kernel
theorem d_P_write_16 : decode prog_1_method_17_code 16 = .ok (.ldc 51, 2) := by decide +kernel
theorem d_P_write_18 : decode prog_1_method_17_code 18 = .ok (.invokespecial 53, 3) := by decide +kernel
theorem d_P_write_21 : decode prog_1_method_17_code 21 = .ok (.athrow, 1) := by decide +kernel
theorem d_P_write_22 : decode prog_1_method_17_code 22 = .ok (.aload_n 0, 1) := by decide +kernel
theorem d_P_write_23 : decode prog_1_method_17_code 23 = .ok (.getfield 32, 3) := by decide +kernel
theorem d_P_write_26 : decode prog_1_method_17_code 26 = .ok (.aload_n 0, 1) := by decide +kernel
theorem d_P_write_27 : decode prog_1_method_17_code 27 = .ok (.getfield 15, 3) := by decide +kernel
theorem d_P_write_30 : decode prog_1_method_17_code 30 = .ok (.invokevirtual 158, 3) := by decide +kernel
theorem d_P_write_33 : decode prog_1_method_17_code 33 = .ok (.aload_n 0, 1) := by decide +kernel
theorem d_P_write_34 : decode prog_1_method_17_code 34 = .ok (.getfield 15, 3) := by decide +kernel
theorem d_P_write_37 : decode prog_1_method_17_code 37 = .ok (.invokevirtual 59, 3) := by decide +kernel
theorem d_P_write_40 : decode prog_1_method_17_code 40 = .ok (.ireturn, 1) := by decide +kernel
theorem d_P_read_0 : decode prog_1_method_18_code 0 = .ok (.iload_n 1, 1) := by decide +kernel
theorem d_P_read_1 : decode prog_1_method_18_code 1 = .ok (.ifCond .lt 9, 3) := by decide +kernel
theorem d_P_read_4 : decode prog_1_method_18_code 4 = .ok (.iload_n 1, 1) := by decide +kernel
theorem d_P_read_5 : decode prog_1_method_18_code 5 = .ok (.ldc 11, 2) := by decide +kernel
theorem d_P_read_7 : decode prog_1_method_18_code 7 = .ok (.if_icmp .le 13, 3) := by decide +kernel
theorem d_P_read_10 : decode prog_1_method_18_code 10 = .ok (.new 62, 3) := by decide +kernel
theorem d_P_read_13 : decode prog_1_method_18_code 13 = .ok (.dup, 1) := by decide +kernel
theorem d_P_read_14 : decode prog_1_method_18_code 14 = .ok (.ldc 162, 2) := by decide +kernel
theorem d_P_read_16 : decode prog_1_method_18_code 16 = .ok (.invokespecial 66, 3) := by decide +kernel
theorem d_P_read_19 : decode prog_1_method_18_code 19 = .ok (.athrow, 1) := by decide +kernel
theorem d_P_read_20 : decode prog_1_method_18_code 20 = .ok (.aload_n 0, 1) := by decide +kernel
theorem d_P_read_21 : decode prog_1_method_18_code 21 = .ok (.getfield 41, 3) := by decide +kernel
theorem d_P_read_24 : decode prog_1_method_18_code 24 = .ok (.iload_n 1, 1) := by decide +kernel
theorem d_P_read_25 : decode prog_1_method_18_code 25 = .ok (.invokevirtual 164, 3) := by decide +kernel
theorem d_P_read_28 : decode prog_1_method_18_code 28 = .ok (.ifCond .eq 14, 3) := by decide +kernel
theorem d_P_read_31 : decode prog_1_method_18_code 31 = .ok (.aload_n 0, 1) := by decide +kernel
theorem d_P_read_32 : decode prog_1_method_18_code 32 = .ok (.getfield 41, 3) := by decide +kernel
theorem d_P_read_35 : decode prog_1_method_18_code 35 = .ok (.aload_n 0, 1) := by decide +kernel
theorem d_P_read_36 : decode prog_1_method_18_code 36 = .ok (.getfield 32, 3) := by decide +kernel
theorem d_P_read_39 : decode prog_1_method_18_code 39 = .ok (.invokevirtual 167, 3) := by decide +kernel
theorem d_P_read_42 : decode prog_1_method_18_code 42 = .ok (.aload_n 0, 1) := by decide +kernel
theorem d_P_read_43 : decode prog_1_method_18_code 43 = .ok (.getfield 41, 3) := by decide +kernel
theorem d_P_read_46 : decode prog_1_method_18_code 46 = .ok (.getfield 171, 3) := by decide +kernel
theorem d_P_read_49 : decode prog_1_method_18_code 49 = .ok (.ireturn, 1) := by decide +kernel
theorem d_P_blame_0 : decode prog_1_method_19_code 0 = .ok (.iload_n 1, 1) := by decide +kernel
theorem d_P_blame_1 : decode prog_1_method_19_code 1 = .ok (.tableswitch 51 0 2 #[27, 35, 43], 27) := by decide +kernel
theorem d_P_blame_28 : decode prog_1_method_19_code 28 = .ok (.aload_n 0, 1) := by decide +kernel
theorem d_P_blame_29 : decode prog_1_method_19_code 29 = .ok (.getfield 41, 3) := by decide +kernel
theorem d_P_blame_32 : decode prog_1_method_19_code 32 = .ok (.getfield 171, 3) := by decide +kernel
theorem d_P_blame_35 : decode prog_1_method_19_code 35 = .ok (.ireturn, 1) := by decide +kernel
theorem d_P_blame_36 : decode prog_1_method_19_code 36 = .ok (.aload_n 0, 1) := by decide +kernel
theorem d_P_blame_37 : decode prog_1_method_19_code 37 = .ok (.getfield 41, 3) := by decide +kernel
theorem d_P_blame_40 : decode prog_1_method_19_code 40 = .ok (.getfield 174, 3) := by decide +kernel
theorem d_P_blame_43 : decode prog_1_method_19_code 43 = .ok (.ireturn, 1) := by decide +kernel
theorem d_P_blame_44 : decode prog_1_method_19_code 44 = .ok (.aload_n 0, 1) := by decide +kernel
theorem d_P_blame_45 : decode prog_1_method_19_code 45 = .ok (.getfield 41, 3) := by decide +kernel
theorem d_P_blame_48 : decode prog_1_method_19_code 48 = .ok (.getfield 177, 3) := by decide +kernel
theorem d_P_blame_51 : decode prog_1_method_19_code 51 = .ok (.ireturn, 1) := by decide +kernel
theorem d_P_blame_52 : decode prog_1_method_19_code 52 = .ok (.new 62, 3) := by decide +kernel
theorem d_P_blame_55 : decode prog_1_method_19_code 55 = .ok (.dup, 1) := by decide +kernel
theorem d_P_blame_56 : decode prog_1_method_19_code 56 = .ok (.ldc 180, 2) := by decide +kernel
theorem d_P_blame_58 : decode prog_1_method_19_code 58 = .ok (.invokespecial 66, 3) := by decide +kernel
theorem d_P_blame_61 : decode prog_1_method_19_code 61 = .ok (.athrow, 1) := by decide +kernel
theorem d_P_count_0 : decode prog_1_method_20_code 0 = .ok (.aload_n 0, 1) := by decide +kernel
theorem d_P_count_1 : decode prog_1_method_20_code 1 = .ok (.getfield 32, 3) := by decide +kernel
theorem d_P_count_4 : decode prog_1_method_20_code 4 = .ok (.invokevirtual 182, 3) := by decide +kernel
theorem d_P_count_7 : decode prog_1_method_20_code 7 = .ok (.ireturn, 1) := by decide +kernel
theorem d_P_isTypedNameNew_0 : decode prog_1_method_21_code 0 = .ok (.aload_n 0, 1) := by decide +kernel
theorem d_P_isTypedNameNew_1 : decode prog_1_method_21_code 1 = .ok (.getfield 19, 3) := by decide +kernel
theorem d_P_isTypedNameNew_4 : decode prog_1_method_21_code 4 = .ok (.iconst 0, 1) := by decide +kernel
theorem d_P_isTypedNameNew_5 : decode prog_1_method_21_code 5 = .ok (.aload_n 0, 1) := by decide +kernel
theorem d_P_isTypedNameNew_6 : decode prog_1_method_21_code 6 = .ok (.getfield 19, 3) := by decide +kernel
theorem d_P_isTypedNameNew_9 : decode prog_1_method_21_code 9 = .ok (.invokevirtual 59, 3) := by decide +kernel
theorem d_P_isTypedNameNew_12 : decode prog_1_method_21_code 12 = .ok (.invokestatic 183, 3) := by decide +kernel
theorem d_P_isTypedNameNew_15 : decode prog_1_method_21_code 15 = .ok (.ifCond .eq 22, 3) := by decide +kernel
theorem d_P_isTypedNameNew_18 : decode prog_1_method_21_code 18 = .ok (.aload_n 0, 1) := by decide +kernel
theorem d_P_isTypedNameNew_19 : decode prog_1_method_21_code 19 = .ok (.getfield 32, 3) := by decide +kernel
theorem d_P_isTypedNameNew_22 : decode prog_1_method_21_code 22 = .ok (.aload_n 0, 1) := by decide +kernel
theorem d_P_isTypedNameNew_23 : decode prog_1_method_21_code 23 = .ok (.getfield 19, 3) := by decide +kernel
theorem d_P_isTypedNameNew_26 : decode prog_1_method_21_code 26 = .ok (.invokevirtual 120, 3) := by decide +kernel
theorem d_P_isTypedNameNew_29 : decode prog_1_method_21_code 29 = .ok (.iconst (-1), 1) := by decide +kernel
theorem d_P_isTypedNameNew_30 : decode prog_1_method_21_code 30 = .ok (.if_icmp .ne 7, 3) := by decide +kernel
theorem d_P_isTypedNameNew_33 : decode prog_1_method_21_code 33 = .ok (.iconst 1, 1) := by decide +kernel
theorem d_P_isTypedNameNew_34 : decode prog_1_method_21_code 34 = .ok (.goto 4, 3) := by decide +kernel
theorem d_P_isTypedNameNew_37 : decode prog_1_method_21_code 37 = .ok (.iconst 0, 1) := by decide +kernel
theorem d_P_isTypedNameNew_38 : decode prog_1_method_21_code 38 = .ok (.ireturn, 1) := by decide +kernel
theorem d_P_enter_0 : decode prog_1_method_22_code 0 = .ok (.aload_n 0, 1) := by decide +kernel
theorem d_P_enter_1 : decode prog_1_method_22_code 1 = .ok (.getfield 32, 3) := by decide +kernel
theorem d_P_enter_4 : decode prog_1_method_22_code 4 = .ok (.aload_n 0, 1) := by decide +kernel
theorem d_P_enter_5 : decode prog_1_method_22_code 5 = .ok (.getfield 15, 3) := by decide +kernel
theorem d_P_enter_8 : decode prog_1_method_22_code 8 = .ok (.iconst 0, 1) := by decide +kernel
theorem d_P_enter_9 : decode prog_1_method_22_code 9 = .ok (.aload_n 0, 1) := by decide +kernel
theorem d_P_enter_10 : decode prog_1_method_22_code 10 = .ok (.getfield 15, 3) := by decide +kernel
theorem d_P_enter_13 : decode prog_1_method_22_code 13 = .ok (.invokevirtual 59, 3) := by decide +kernel
theorem d_P_enter_16 : decode prog_1_method_22_code 16 = .ok (.invokevirtual 189, 3) := by decide +kernel
theorem d_P_enter_19 : decode prog_1_method_22_code 19 = .ok (.astore 4, 2) := by decide +kernel
theorem d_P_enter_21 : decode prog_1_method_22_code 21 = .ok (.aload 4, 2) := by decide +kernel
theorem d_P_enter_23 : decode prog_1_method_22_code 23 = .ok (.ifnonnull 13, 3) := by decide +kernel
theorem d_P_enter_26 : decode prog_1_method_22_code 26 = .ok (.new 49, 3) := by decide +kernel
theorem d_P_enter_29 : decode prog_1_method_22_code 29 = .ok (.dup, 1) := by decide +kernel
theorem d_P_enter_30 : decode prog_1_method_22_code 30 = .ok (.ldc 193, 2) := by decide +kernel
theorem d_P_enter_32 : decode prog_1_method_22_code 32 = .ok (.invokespecial 53, 3) := by decide +kernel
theorem d_P_enter_35 : decode prog_1_method_22_code 35 = .ok (.athrow, 1) := by decide +kernel
theorem d_P_enter_36 : decode prog_1_method_22_code 36 = .ok (.aload 4, 2) := by decide +kernel
theorem d_P_enter_38 : decode prog_1_method_22_code 38 = .ok (.getfield 142, 3) := by decide +kernel
theorem d_P_enter_41 : decode prog_1_method_22_code 41 = .ok (.aload_n 0, 1) := by decide +kernel
theorem d_P_enter_42 : decode prog_1_method_22_code 42 = .ok (.getfield 19, 3) := by decide +kernel
theorem d_P_enter_45 : decode prog_1_method_22_code 45 = .ok (.iconst 0, 1) := by decide +kernel
theorem d_P_enter_46 : decode prog_1_method_22_code 46 = .ok (.aload_n 0, 1) := by decide +kernel
theorem d_P_enter_47 : decode prog_1_method_22_code 47 = .ok (.getfield 19, 3) := by decide +kernel
theorem d_P_enter_50 : decode prog_1_method_22_code 50 = .ok (.invokevirtual 59, 3) := by decide +kernel
theorem d_P_enter_53 : decode prog_1_method_22_code 53 = .ok (.invokevirtual 195, 3) := by decide +kernel
theorem d_P_enter_56 : decode prog_1_method_22_code 56 = .ok (.aload 4, 2) := by decide +kernel
theorem d_P_enter_58 : decode prog_1_method_22_code 58 = .ok (.iload_n 1, 1) := by decide +kernel
theorem d_P_enter_59 : decode prog_1_method_22_code 59 = .ok (.iload_n 2, 1) := by decide +kernel
theorem d_P_enter_60 : decode prog_1_method_22_code 60 = .ok (.iload_n 3, 1) := by decide +kernel
theorem d_P_enter_61 : decode prog_1_method_22_code 61 = .ok (.invokevirtual 199, 3) := by decide +kernel
theorem d_P_enter_64 : decode prog_1_method_22_code 64 = .ok (.aload_n 0, 1) := by decide +kernel
theorem d_P_enter_65 : decode prog_1_method_22_code 65 = .ok (.getfield 32, 3) := by decide +kernel
theorem d_P_enter_68 : decode prog_1_method_22_code 68 = .ok (.invokevirtual 182, 3) := by decide +kernel
theorem d_P_enter_71 : decode prog_1_method_22_code 71 = .ok (.iconst 1, 1) := by decide +kernel
theorem d_P_enter_72 : decode prog_1_method_22_code 72 = .ok (.isub, 1) := by decide +kernel
theorem d_P_enter_73 : decode prog_1_method_22_code 73 = .ok (.ireturn, 1) := by decide +kernel
theorem th_P_feed_12_w : mm_own "PartBox" 53 "java/lang/IllegalStateException" ["java/lang/RuntimeException", "java/lang/Exception"] := by unfold mm_own; decide +kernel
theorem th_P_feed_12 {l : Launch} {G : mm_G} {lv : List (Nat × Value)} {b : Nat} {m : mm_Mem} {Q : mm_O → mm_Mem → Prop} (hb : 7 ≤ b) (hq : Q (.inr "java/lang/IllegalStateException") m) : mm_W l G k_P_feed 12 lv [] b m Q :=
  mm_throwS (tx := "the row would be too long") (is := 51) w_305 w_14 th_P_feed_12_w (by decide +kernel) (by decide +kernel) (List.mem_of_getElem? (i := 0) (by decide +kernel)) d_P_feed_12 d_P_feed_15 d_P_feed_16 d_P_feed_18 d_P_feed_21 rfl (Nat.le_of_ble_eq_true rfl) (Nat.le_of_ble_eq_true rfl) hb hq
theorem th_P_end_15_w : mm_own "PartBox" 66 "java/lang/IllegalArgumentException" ["java/lang/RuntimeException", "java/lang/Exception"] := by unfold mm_own; decide +kernel
theorem th_P_end_15 {l : Launch} {G : mm_G} {lv : List (Nat × Value)} {b : Nat} {m : mm_Mem} {Q : mm_O → mm_Mem → Prop} (hb : 7 ≤ b) (hq : Q (.inr "java/lang/IllegalArgumentException") m) : mm_W l G k_P_end 15 lv [] b m Q :=
  mm_throwS (tx := "the row has not so many bytes") (is := 64) w_388 w_15 th_P_end_15_w (by decide +kernel) (by decide +kernel) (List.mem_of_getElem? (i := 1) (by decide +kernel)) d_P_end_15 d_P_end_18 d_P_end_19 d_P_end_21 d_P_end_24 rfl (Nat.le_of_ble_eq_true rfl) (Nat.le_of_ble_eq_true rfl) hb hq
theorem th_P_alter_15_w : mm_own "PartBox" 74 "java/lang/IndexOutOfBoundsException" ["java/lang/RuntimeException", "java/lang/Exception"] := by unfold mm_own; decide +kernel
theorem th_P_alter_15 {l : Launch} {G : mm_G} {lv : List (Nat × Value)} {b : Nat} {m : mm_Mem} {Q : mm_O → mm_Mem → Prop} (hb : 7 ≤ b) (hq : Q (.inr "java/lang/IndexOutOfBoundsException") m) : mm_W l G k_P_alter 15 lv [] b m Q :=
  mm_throwS (tx := "the row has no such byte") (is := 72) w_412 w_16 th_P_alter_15_w (by decide +kernel) (by decide +kernel) (List.mem_of_getElem? (i := 2) (by decide +kernel)) d_P_alter_15 d_P_alter_18 d_P_alter_19 d_P_alter_21 d_P_alter_24 rfl (Nat.le_of_ble_eq_true rfl) (Nat.le_of_ble_eq_true rfl) hb hq
theorem th_P_alter_36_w : mm_own "PartBox" 66 "java/lang/IllegalArgumentException" ["java/lang/RuntimeException", "java/lang/Exception"] := by unfold mm_own; decide +kernel
theorem th_P_alter_36 {l : Launch} {G : mm_G} {lv : List (Nat × Value)} {b : Nat} {m : mm_Mem} {Q : mm_O → mm_Mem → Prop} (hb : 7 ≤ b) (hq : Q (.inr "java/lang/IllegalArgumentException") m) : mm_W l G k_P_alter 36 lv [] b m Q :=
  mm_throwS (tx := "not a byte") (is := 75) w_388 w_15 th_P_alter_36_w (by decide +kernel) (by decide +kernel) (List.mem_of_getElem? (i := 3) (by decide +kernel)) d_P_alter_36 d_P_alter_39 d_P_alter_40 d_P_alter_42 d_P_alter_45 rfl (Nat.le_of_ble_eq_true rfl) (Nat.le_of_ble_eq_true rfl) hb hq
theorem th_P_byteAt_14_w : mm_own "PartBox" 74 "java/lang/IndexOutOfBoundsException" ["java/lang/RuntimeException", "java/lang/Exception"] := by unfold mm_own; decide +kernel
theorem th_P_byteAt_14 {l : Launch} {G : mm_G} {lv : List (Nat × Value)} {b : Nat} {m : mm_Mem} {Q : mm_O → mm_Mem → Prop} (hb : 7 ≤ b) (hq : Q (.inr "java/lang/IndexOutOfBoundsException") m) : mm_W l G k_P_byteAt 14 lv [] b m Q :=
  mm_throwS (tx := "the row has no such byte") (is := 72) w_412 w_16 th_P_byteAt_14_w (by decide +kernel) (by decide +kernel) (List.mem_of_getElem? (i := 2) (by decide +kernel)) d_P_byteAt_14 d_P_byteAt_17 d_P_byteAt_18 d_P_byteAt_20 d_P_byteAt_23 rfl (Nat.le_of_ble_eq_true rfl) (Nat.le_of_ble_eq_true rfl) hb hq
theorem th_P_type_37_w : mm_own "PartBox" 66 "java/lang/IllegalArgumentException" ["java/lang/RuntimeException", "java/lang/Exception"] := by unfold mm_own; decide +kernel
theorem th_P_type_37 {l : Launch} {G : mm_G} {lv : List (Nat × Value)} {b : Nat} {m : mm_Mem} {Q : mm_O → mm_Mem → Prop} (hb : 7 ≤ b) (hq : Q (.inr "java/lang/IllegalArgumentException") m) : mm_W l G k_P_type 37 lv [] b m Q :=
  mm_throwS (tx := "not a character of a name") (is := 85) w_388 w_15 th_P_type_37_w (by decide +kernel) (by decide +kernel) (List.mem_of_getElem? (i := 4) (by decide +kernel)) d_P_type_37 d_P_type_40 d_P_type_41 d_P_type_43 d_P_type_46 rfl (Nat.le_of_ble_eq_true rfl) (Nat.le_of_ble_eq_true rfl) hb hq
theorem th_P_type_67_w : mm_own "PartBox" 53 "java/lang/IllegalStateException" ["java/lang/RuntimeException", "java/lang/Exception"] := by unfold mm_own; decide +kernel
theorem th_P_type_67 {l : Launch} {G : mm_G} {lv : List (Nat × Value)} {b : Nat} {m : mm_Mem} {Q : mm_O → mm_Mem → Prop} (hb : 7 ≤ b) (hq : Q (.inr "java/lang/IllegalStateException") m) : mm_W l G k_P_type 67 lv [] b m Q :=
  mm_throwS (tx := "the name would be too long") (is := 87) w_305 w_14 th_P_type_67_w (by decide +kernel) (by decide +kernel) (List.mem_of_getElem? (i := 5) (by decide +kernel)) d_P_type_67 d_P_type_70 d_P_type_71 d_P_type_73 d_P_type_76 rfl (Nat.le_of_ble_eq_true rfl) (Nat.le_of_ble_eq_true rfl) hb hq
theorem th_P_add_7_w : mm_own "PartBox" 66 "java/lang/IllegalArgumentException" ["java/lang/RuntimeException", "java/lang/Exception"] := by unfold mm_own; decide +kernel
theorem th_P_add_7 {l : Launch} {G : mm_G} {lv : List (Nat × Value)} {b : Nat} {m : mm_Mem} {Q : mm_O → mm_Mem → Prop} (hb : 7 ≤ b) (hq : Q (.inr "java/lang/IllegalArgumentException") m) : mm_W l G k_P_add 7 lv [] b m Q :=
  mm_throwS (tx := "no name, or that of an entry") (is := 96) w_388 w_15 th_P_add_7_w (by decide +kernel) (by decide +kernel) (List.mem_of_getElem? (i := 6) (by decide +kernel)) d_P_add_7 d_P_add_10 d_P_add_11 d_P_add_13 d_P_add_16 rfl (Nat.le_of_ble_eq_true rfl) (Nat.le_of_ble_eq_true rfl) hb hq
theorem th_P_addPacked_11_w : mm_own "PartBox" 66 "java/lang/IllegalArgumentException" ["java/lang/RuntimeException", "java/lang/Exception"] := by unfold mm_own; decide +kernel
theorem th_P_addPacked_11 {l : Launch} {G : mm_G} {lv : List (Nat × Value)} {b : Nat} {m : mm_Mem} {Q : mm_O → mm_Mem → Prop} (hb : 7 ≤ b) (hq : Q (.inr "java/lang/IllegalArgumentException") m) : mm_W l G k_P_addPacked 11 lv [] b m Q :=
  mm_throwS (tx := "no name, or that of an entry, or a size below 0") (is := 106) w_388 w_15 th_P_addPacked_11_w (by decide +kernel) (by decide +kernel) (List.mem_of_getElem? (i := 8) (by decide +kernel)) d_P_addPacked_11 d_P_addPacked_14 d_P_addPacked_15 d_P_addPacked_17 d_P_addPacked_20 rfl (Nat.le_of_ble_eq_true rfl) (Nat.le_of_ble_eq_true rfl) hb hq
theorem th_P_remove_11_w : mm_own "PartBox" 74 "java/lang/IndexOutOfBoundsException" ["java/lang/RuntimeException", "java/lang/Exception"] := by unfold mm_own; decide +kernel
theorem th_P_remove_11 {l : Launch} {G : mm_G} {lv : List (Nat × Value)} {b : Nat} {m : mm_Mem} {Q : mm_O → mm_Mem → Prop} (hb : 7 ≤ b) (hq : Q (.inr "java/lang/IndexOutOfBoundsException") m) : mm_W l G k_P_remove 11 lv [] b m Q :=
  mm_throwS (tx := "no such entry") (is := 112) w_412 w_16 th_P_remove_11_w (by decide +kernel) (by decide +kernel) (List.mem_of_getElem? (i := 9) (by decide +kernel)) d_P_remove_11 d_P_remove_14 d_P_remove_15 d_P_remove_17 d_P_remove_20 rfl (Nat.le_of_ble_eq_true rfl) (Nat.le_of_ble_eq_true rfl) hb hq
theorem th_P_move_22_w : mm_own "PartBox" 74 "java/lang/IndexOutOfBoundsException" ["java/lang/RuntimeException", "java/lang/Exception"] := by unfold mm_own; decide +kernel
theorem th_P_move_22 {l : Launch} {G : mm_G} {lv : List (Nat × Value)} {b : Nat} {m : mm_Mem} {Q : mm_O → mm_Mem → Prop} (hb : 7 ≤ b) (hq : Q (.inr "java/lang/IndexOutOfBoundsException") m) : mm_W l G k_P_move 22 lv [] b m Q :=
  mm_throwS (tx := "no such entry") (is := 112) w_412 w_16 th_P_move_22_w (by decide +kernel) (by decide +kernel) (List.mem_of_getElem? (i := 9) (by decide +kernel)) d_P_move_22 d_P_move_25 d_P_move_26 d_P_move_28 d_P_move_31 rfl (Nat.le_of_ble_eq_true rfl) (Nat.le_of_ble_eq_true rfl) hb hq
theorem th_P_about_13_w : mm_own "PartBox" 74 "java/lang/IndexOutOfBoundsException" ["java/lang/RuntimeException", "java/lang/Exception"] := by unfold mm_own; decide +kernel
theorem th_P_about_13 {l : Launch} {G : mm_G} {lv : List (Nat × Value)} {b : Nat} {m : mm_Mem} {Q : mm_O → mm_Mem → Prop} (hb : 7 ≤ b) (hq : Q (.inr "java/lang/IndexOutOfBoundsException") m) : mm_W l G k_P_about 13 lv [] b m Q :=
  mm_throwS (tx := "no such entry") (is := 112) w_412 w_16 th_P_about_13_w (by decide +kernel) (by decide +kernel) (List.mem_of_getElem? (i := 9) (by decide +kernel)) d_P_about_13 d_P_about_16 d_P_about_17 d_P_about_19 d_P_about_22 rfl (Nat.le_of_ble_eq_true rfl) (Nat.le_of_ble_eq_true rfl) hb hq
theorem th_P_about_88_w : mm_own "PartBox" 66 "java/lang/IllegalArgumentException" ["java/lang/RuntimeException", "java/lang/Exception"] := by unfold mm_own; decide +kernel
theorem th_P_about_88 {l : Launch} {G : mm_G} {lv : List (Nat × Value)} {b : Nat} {m : mm_Mem} {Q : mm_O → mm_Mem → Prop} (hb : 7 ≤ b) (hq : Q (.inr "java/lang/IllegalArgumentException") m) : mm_W l G k_P_about 88 lv [] b m Q :=
  mm_throwS (tx := "nothing of an entry") (is := 145) w_388 w_15 th_P_about_88_w (by decide +kernel) (by decide +kernel) (List.mem_of_getElem? (i := 10) (by decide +kernel)) d_P_about_88 d_P_about_91 d_P_about_92 d_P_about_94 d_P_about_97 rfl (Nat.le_of_ble_eq_true rfl) (Nat.le_of_ble_eq_true rfl) hb hq
theorem th_P_name_13_w : mm_own "PartBox" 74 "java/lang/IndexOutOfBoundsException" ["java/lang/RuntimeException", "java/lang/Exception"] := by unfold mm_own; decide +kernel
theorem th_P_name_13 {l : Launch} {G : mm_G} {lv : List (Nat × Value)} {b : Nat} {m : mm_Mem} {Q : mm_O → mm_Mem → Prop} (hb : 7 ≤ b) (hq : Q (.inr "java/lang/IndexOutOfBoundsException") m) : mm_W l G k_P_name 13 lv [] b m Q :=
  mm_throwS (tx := "no such entry") (is := 112) w_412 w_16 th_P_name_13_w (by decide +kernel) (by decide +kernel) (List.mem_of_getElem? (i := 9) (by decide +kernel)) d_P_name_13 d_P_name_16 d_P_name_17 d_P_name_19 d_P_name_22 rfl (Nat.le_of_ble_eq_true rfl) (Nat.le_of_ble_eq_true rfl) hb hq
theorem th_P_part_25_w : mm_own "PartBox" 74 "java/lang/IndexOutOfBoundsException" ["java/lang/RuntimeException", "java/lang/Exception"] := by unfold mm_own; decide +kernel
theorem th_P_part_25 {l : Launch} {G : mm_G} {lv : List (Nat × Value)} {b : Nat} {m : mm_Mem} {Q : mm_O → mm_Mem → Prop} (hb : 7 ≤ b) (hq : Q (.inr "java/lang/IndexOutOfBoundsException") m) : mm_W l G k_P_part 25 lv [] b m Q :=
  mm_throwS (tx := "no such entry, or no such byte of it") (is := 147) w_412 w_16 th_P_part_25_w (by decide +kernel) (by decide +kernel) (List.mem_of_getElem? (i := 11) (by decide +kernel)) d_P_part_25 d_P_part_28 d_P_part_29 d_P_part_31 d_P_part_34 rfl (Nat.le_of_ble_eq_true rfl) (Nat.le_of_ble_eq_true rfl) hb hq
theorem th_P_write_12_w : mm_own "PartBox" 53 "java/lang/IllegalStateException" ["java/lang/RuntimeException", "java/lang/Exception"] := by unfold mm_own; decide +kernel
theorem th_P_write_12 {l : Launch} {G : mm_G} {lv : List (Nat × Value)} {b : Nat} {m : mm_Mem} {Q : mm_O → mm_Mem → Prop} (hb : 7 ≤ b) (hq : Q (.inr "java/lang/IllegalStateException") m) : mm_W l G k_P_write 12 lv [] b m Q :=
  mm_throwS (tx := "the row would be too long") (is := 51) w_305 w_14 th_P_write_12_w (by decide +kernel) (by decide +kernel) (List.mem_of_getElem? (i := 0) (by decide +kernel)) d_P_write_12 d_P_write_15 d_P_write_16 d_P_write_18 d_P_write_21 rfl (Nat.le_of_ble_eq_true rfl) (Nat.le_of_ble_eq_true rfl) hb hq
theorem th_P_read_10_w : mm_own "PartBox" 66 "java/lang/IllegalArgumentException" ["java/lang/RuntimeException", "java/lang/Exception"] := by unfold mm_own; decide +kernel
theorem th_P_read_10 {l : Launch} {G : mm_G} {lv : List (Nat × Value)} {b : Nat} {m : mm_Mem} {Q : mm_O → mm_Mem → Prop} (hb : 7 ≤ b) (hq : Q (.inr "java/lang/IllegalArgumentException") m) : mm_W l G k_P_read 10 lv [] b m Q :=
  mm_throwS (tx := "not a limit") (is := 162) w_388 w_15 th_P_read_10_w (by decide +kernel) (by decide +kernel) (List.mem_of_getElem? (i := 12) (by decide +kernel)) d_P_read_10 d_P_read_13 d_P_read_14 d_P_read_16 d_P_read_19 rfl (Nat.le_of_ble_eq_true rfl) (Nat.le_of_ble_eq_true rfl) hb hq
theorem th_P_blame_52_w : mm_own "PartBox" 66 "java/lang/IllegalArgumentException" ["java/lang/RuntimeException", "java/lang/Exception"] := by unfold mm_own; decide +kernel
theorem th_P_blame_52 {l : Launch} {G : mm_G} {lv : List (Nat × Value)} {b : Nat} {m : mm_Mem} {Q : mm_O → mm_Mem → Prop} (hb : 7 ≤ b) (hq : Q (.inr "java/lang/IllegalArgumentException") m) : mm_W l G k_P_blame 52 lv [] b m Q :=
  mm_throwS (tx := "nothing of a fault") (is := 180) w_388 w_15 th_P_blame_52_w (by decide +kernel) (by decide +kernel) (List.mem_of_getElem? (i := 13) (by decide +kernel)) d_P_blame_52 d_P_blame_55 d_P_blame_56 d_P_blame_58 d_P_blame_61 rfl (Nat.le_of_ble_eq_true rfl) (Nat.le_of_ble_eq_true rfl) hb hq
theorem th_P_enter_26_w : mm_own "PartBox" 53 "java/lang/IllegalStateException" ["java/lang/RuntimeException", "java/lang/Exception"] := by unfold mm_own; decide +kernel
theorem th_P_enter_26 {l : Launch} {G : mm_G} {lv : List (Nat × Value)} {b : Nat} {m : mm_Mem} {Q : mm_O → mm_Mem → Prop} (hb : 7 ≤ b) (hq : Q (.inr "java/lang/IllegalStateException") m) : mm_W l G k_P_enter 26 lv [] b m Q :=
  mm_throwS (tx := "the box is full") (is := 193) w_305 w_14 th_P_enter_26_w (by decide +kernel) (by decide +kernel) (List.mem_of_getElem? (i := 7) (by decide +kernel)) d_P_enter_26 d_P_enter_29 d_P_enter_30 d_P_enter_32 d_P_enter_35 rfl (Nat.le_of_ble_eq_true rfl) (Nat.le_of_ble_eq_true rfl) hb hq
theorem t_P_init_0 {l : Launch} {G : mm_G} {b : Nat} {m : mm_Mem} {Q : mm_O → mm_Mem → Prop} {r0 : Nat} {b_1 : Nat} {b_3 : Nat} {b_4 : Nat} {m_6 : mm_Mem} {fs_8 : List Value} {b_12 : Nat} {b_14 : Nat} {b_15 : Nat} {m_17 : mm_Mem} {fs_19 : List Value} {b_22 : Nat} {b_24 : Nat} {b_25 : Nat} {P_27 : mm_O → mm_Mem → Prop} (hb2 : 2 + 1 + b_1 ≤ b) (hb5 : b_3 + b_4 ≤ b_1) (M7 : mm_W l G k_B_init 0 (lv_args 0 [.ref (mm_n m + 1), .int 65536]) [] b_3 (mm_push m (.inr (2, [.null, .int 0]))) (mm_is (.inl none) m_6)) (g9 : m_6 r0 = .inr (0, fs_8)) (z10 : r0 ≠ 0) (l11 : 0 < fs_8.length) (hb13 : 2 + 1 + b_12 ≤ b_4) (hb16 : b_14 + b_15 ≤ b_12) (M18 : mm_W l G k_B_init 0 (lv_args 0 [.ref (mm_n (va_up m_6 r0 (.inr (0, fs_8.set 0 (.ref (mm_n m + 1))))) + 1), .int 64]) [] b_14 (mm_push (va_up m_6 r0 (.inr (0, fs_8.set 0 (.ref (mm_n m + 1))))) (.inr (2, [.null, .int 0]))) (mm_is (.inl none) m_17)) (g20 : m_17 r0 = .inr (0, fs_19)) (l21 : 1 < fs_19.length) (hb23 : 1 + 1 + b_22 ≤ b_15) (hb26 : b_24 + b_25 ≤ b_22) (M28 : mm_W l G k_C_init 0 (lv_args 0 [.ref (mm_n (va_up m_17 r0 (.inr (0, fs_19.set 1 (.ref (mm_n (va_up m_6 r0 (.inr (0, fs_8.set 0 (.ref (mm_n m + 1))))) + 1))))) + 1)]) [] b_24 (mm_push (va_up m_17 r0 (.inr (0, fs_19.set 1 (.ref (mm_n (va_up m_6 r0 (.inr (0, fs_8.set 0 (.ref (mm_n m + 1))))) + 1))))) (.inr (3, [.null]))) P_27) (hx29 : ∀ (E : String) (n_2 : mm_Mem), ¬ P_27 (.inr E) n_2) (h30 : ∀ (v : Option Value) (n_2 : mm_Mem), P_27 (.inl v) n_2 → v = none ∧ mm_W l G k_P_init 38 [(0, .ref r0)] [.ref (mm_n (va_up m_17 r0 (.inr (0, fs_19.set 1 (.ref (mm_n (va_up m_6 r0 (.inr (0, fs_8.set 0 (.ref (mm_n m + 1))))) + 1))))) + 1), .ref r0] b_25 n_2 Q) : mm_W l G k_P_init 0 [(0, .ref r0)] [] b m Q := by
  refine mm_aload_n 0 (i := 0) d_P_init_0 rfl rfl ?_
  refine mm_objInit w_24 w_25 w_26 d_P_init_1 (Nat.le_of_ble_eq_true rfl) (Nat.le_of_ble_eq_true rfl) ?_
  refine mm_aload_n 0 (i := 0) d_P_init_4 rfl rfl ?_
  refine mm_new (fs := [.null, .int 0]) cc_B w_27 w_28 w_2 df_B dz_B (fun _ => rfl) d_P_init_5 hb2 ?_
  refine mm_dup d_P_init_8 rfl ?_
  refine mm_ldc (v := 65536) w_29 d_P_init_9 ?_
  refine mm_callI (as := [.int 65536]) (st := [.ref (mm_n m + 1), .ref r0]) (b2 := b_4) ca_B_init rfl rfl rfl w_30 w_31 d_P_init_11 rfl (Nat.le_of_ble_eq_true rfl) (Nat.le_of_ble_eq_true rfl) (Nat.le_of_ble_eq_true rfl) hb5 M7 (fun E _ ⟨c, _⟩ => nomatch c) (fun v _ ⟨c, e⟩ => ?_)
  cases c
  rw [e]
  show mm_W l G k_P_init 14 [(0, .ref r0)] [.ref (mm_n m + 1), .ref r0] b_4 m_6 Q
  refine mm_putF cc_P 0 (by decide) w_234 d_P_init_14 rfl rfl rfl (fun _ => rfl) (fun _ => rfl) g9 z10 l11 ?_
  refine mm_aload_n 0 (i := 0) d_P_init_17 rfl rfl ?_
  refine mm_new (fs := [.null, .int 0]) cc_B w_27 w_28 w_2 df_B dz_B (fun _ => rfl) d_P_init_18 hb13 ?_
  refine mm_dup d_P_init_21 rfl ?_
  refine mm_bipush d_P_init_22 (v := 64) (by decide) ?_
  refine mm_callI (as := [.int 64]) (st := [.ref (mm_n (va_up m_6 r0 (.inr (0, fs_8.set 0 (.ref (mm_n m + 1))))) + 1), .ref r0]) (b2 := b_15) ca_B_init rfl rfl rfl w_30 w_31 d_P_init_24 rfl (Nat.le_of_ble_eq_true rfl) (Nat.le_of_ble_eq_true rfl) (Nat.le_of_ble_eq_true rfl) hb16 M18 (fun E _ ⟨c, _⟩ => nomatch c) (fun v _ ⟨c, e⟩ => ?_)
  cases c
  rw [e]
  show mm_W l G k_P_init 27 [(0, .ref r0)] [.ref (mm_n (va_up m_6 r0 (.inr (0, fs_8.set 0 (.ref (mm_n m + 1))))) + 1), .ref r0] b_15 m_17 Q
  refine mm_putF cc_P 1 (by decide) w_235 d_P_init_27 rfl rfl rfl (fun _ => rfl) (fun _ => rfl) g20 z10 l21 ?_
  refine mm_aload_n 0 (i := 0) d_P_init_30 rfl rfl ?_
  refine mm_new (fs := [.null]) cc_C w_45 w_46 w_4 df_C dz_C (fun _ => rfl) d_P_init_31 hb23 ?_
  refine mm_dup d_P_init_34 rfl ?_
  refine mm_callI (as := []) (st := [.ref (mm_n (va_up m_17 r0 (.inr (0, fs_19.set 1 (.ref (mm_n (va_up m_6 r0 (.inr (0, fs_8.set 0 (.ref (mm_n m + 1))))) + 1))))) + 1), .ref r0]) (b2 := b_25) ca_C_init rfl rfl rfl w_47 w_48 d_P_init_35 rfl (Nat.le_of_ble_eq_true rfl) (Nat.le_of_ble_eq_true rfl) (Nat.le_of_ble_eq_true rfl) hb26 M28 (fun E m2 q => absurd q (hx29 E m2)) (fun v m2 q => ?_)
  obtain ⟨rfl, z9⟩ := h30 v m2 q
  exact mm_sub [0] rfl z9
theorem t_P_init_38 {l : Launch} {G : mm_G} {b : Nat} {m : mm_Mem} {Q : mm_O → mm_Mem → Prop} {r0 : Nat} {rs0 : Nat} {rs1 : Nat} {fs_1 : List Value} {b_5 : Nat} {b_7 : Nat} {b_8 : Nat} {P_10 : mm_O → mm_Mem → Prop} (g2 : m rs1 = .inr (0, fs_1)) (z3 : rs1 ≠ 0) (l4 : 2 < fs_1.length) (hb6 : 3 + 1 + b_5 ≤ b) (hb9 : b_7 + b_8 ≤ b_5) (M11 : mm_W l G k_X_init 0 (lv_args 0 [.ref (mm_n (va_up m rs1 (.inr (0, fs_1.set 2 (.ref rs0)))) + 1)]) [] b_7 (mm_push (va_up m rs1 (.inr (0, fs_1.set 2 (.ref rs0)))) (.inr (1, [.null, .null, .int 0]))) P_10) (hx12 : ∀ (E : String) (n_2 : mm_Mem), ¬ P_10 (.inr E) n_2) (h13 : ∀ (v : Option Value) (n_2 : mm_Mem), P_10 (.inl v) n_2 → v = none ∧ mm_W l G k_P_init 49 [(0, .ref r0)] [.ref (mm_n (va_up m rs1 (.inr (0, fs_1.set 2 (.ref rs0)))) + 1), .ref r0] b_8 n_2 Q) : mm_W l G k_P_init 38 [(0, .ref r0)] [.ref rs0, .ref rs1] b m Q := by
  refine mm_putF cc_P 2 (by decide) w_236 d_P_init_38 rfl rfl rfl (fun _ => rfl) (fun _ => rfl) g2 z3 l4 ?_
  refine mm_aload_n 0 (i := 0) d_P_init_41 rfl rfl ?_
  refine mm_new (fs := [.null, .null, .int 0]) cc_X w_57 w_58 w_5 df_X dz_X (fun _ => rfl) d_P_init_42 hb6 ?_
  refine mm_dup d_P_init_45 rfl ?_
  refine mm_callI (as := []) (st := [.ref (mm_n (va_up m rs1 (.inr (0, fs_1.set 2 (.ref rs0)))) + 1), .ref r0]) (b2 := b_8) ca_X_init rfl rfl rfl w_59 w_60 d_P_init_46 rfl (Nat.le_of_ble_eq_true rfl) (Nat.le_of_ble_eq_true rfl) (Nat.le_of_ble_eq_true rfl) hb9 M11 (fun E m2 q => absurd q (hx12 E m2)) (fun v m2 q => ?_)
  obtain ⟨rfl, z9⟩ := h13 v m2 q
  exact mm_sub [0] rfl z9
theorem t_P_init_49 {l : Launch} {G : mm_G} {b : Nat} {m : mm_Mem} {Q : mm_O → mm_Mem → Prop} {r0 : Nat} {rs0 : Nat} {rs1 : Nat} {fs_1 : List Value} {b_5 : Nat} {m_7 : mm_Mem} {fs_9 : List Value} {q_12 : Nat} {q_14 : Nat} {b_16 : Nat} {b_17 : Nat} {P_19 : mm_O → mm_Mem → Prop} (g2 : m rs1 = .inr (0, fs_1)) (z3 : rs1 ≠ 0) (l4 : 3 < fs_1.length) (hb6 : 13 + 1 + b_5 ≤ b) (q8 : m_7 = mm_push (va_up m rs1 (.inr (0, fs_1.set 3 (.ref rs0)))) (.inr (7, [.null, .null, .null, .null, .null, .int 0, .int 0, .int 0, .int 0, .int 0, .int 0, .long 0, .long 0]))) (g10 : m_7 r0 = .inr (0, fs_9)) (z11 : r0 ≠ 0) (v13 : fs_9[0]? = some (.ref q_12)) (v15 : fs_9[2]? = some (.ref q_14)) (hb18 : b_16 + b_17 ≤ b_5) (M20 : mm_W l G k_R_init 0 (lv_args 0 [.ref (mm_n (va_up m rs1 (.inr (0, fs_1.set 3 (.ref rs0)))) + 1), .ref q_12, .ref q_14]) [] b_16 m_7 P_19) (hx21 : ∀ (E : String) (n_2 : mm_Mem), ¬ P_19 (.inr E) n_2) (h22 : ∀ (v : Option Value) (n_2 : mm_Mem), P_19 (.inl v) n_2 → v = none ∧ mm_W l G k_P_init 68 [] [.ref (mm_n (va_up m rs1 (.inr (0, fs_1.set 3 (.ref rs0)))) + 1), .ref r0] b_17 n_2 Q) : mm_W l G k_P_init 49 [(0, .ref r0)] [.ref rs0, .ref rs1] b m Q := by
  refine mm_putF cc_P 3 (by decide) w_237 d_P_init_49 rfl rfl rfl (fun _ => rfl) (fun _ => rfl) g2 z3 l4 ?_
  refine mm_aload_n 0 (i := 0) d_P_init_52 rfl rfl ?_
  refine mm_new (fs := [.null, .null, .null, .null, .null, .int 0, .int 0, .int 0, .int 0, .int 0, .int 0, .long 0, .long 0]) cc_R w_116 w_117 w_7 df_R dz_R (fun _ => rfl) d_P_init_53 hb6 ?_
  refine mm_eqm q8 ?_
  refine mm_dup d_P_init_56 rfl ?_
  refine mm_aload_n 0 (i := 0) d_P_init_57 rfl rfl ?_
  refine mm_get cc_P 0 (by decide) w_234 d_P_init_58 g10 z11 v13 ?_
  refine mm_aload_n 0 (i := 0) d_P_init_61 rfl rfl ?_
  refine mm_get cc_P 2 (by decide) w_236 d_P_init_62 g10 z11 v15 ?_
  refine mm_callI (as := [.ref q_12, .ref q_14]) (st := [.ref (mm_n (va_up m rs1 (.inr (0, fs_1.set 3 (.ref rs0)))) + 1), .ref r0]) (b2 := b_17) ca_R_init rfl rfl rfl w_118 w_119 d_P_init_65 rfl (Nat.le_of_ble_eq_true rfl) (Nat.le_of_ble_eq_true rfl) (Nat.le_of_ble_eq_true rfl) hb18 M20 (fun E m2 q => absurd q (hx21 E m2)) (fun v m2 q => ?_)
  obtain ⟨rfl, z9⟩ := h22 v m2 q
  exact mm_sub [] rfl z9
theorem t_P_init_68 {l : Launch} {G : mm_G} {b : Nat} {m : mm_Mem} {Q : mm_O → mm_Mem → Prop} {rs0 : Nat} {rs1 : Nat} {fs_1 : List Value} (g2 : m rs1 = .inr (0, fs_1)) (z3 : rs1 ≠ 0) (l4 : 4 < fs_1.length) (h5 : Q (.inl none) (va_up m rs1 (.inr (0, fs_1.set 4 (.ref rs0))))) : mm_W l G k_P_init 68 [] [.ref rs0, .ref rs1] b m Q := by
  refine mm_putF cc_P 4 (by decide) w_238 d_P_init_68 rfl rfl rfl (fun _ => rfl) (fun _ => rfl) g2 z3 l4 ?_
  exact mm_vret d_P_init_71 rfl h5
theorem t_P_feed_0 {l : Launch} {G : mm_G} {b : Nat} {m : mm_Mem} {Q : mm_O → mm_Mem → Prop} {r0 : Nat} {x1 : Int32} {x2 : Int32} {x3 : Int32} {x4 : Int32} {x5 : Int32} {fs_1 : List Value} {q_4 : Nat} {b_6 : Nat} {b_7 : Nat} {m_9 : mm_Mem} {x_10 : Int32} {fs_11 : List Value} (g2 : m r0 = .inr (0, fs_1)) (z3 : r0 ≠ 0) (v5 : fs_1[0]? = some (.ref q_4)) (hb8 : b_6 + b_7 ≤ b) (g12 : m q_4 = .inr (2, fs_11)) (z13 : q_4 ≠ 0) (M14 : mm_W l G k_B_free 0 (lv_args 0 [.ref q_4]) [] b_6 m (mm_is (.inl (some (.int x_10))) m_9)) (h15 : (20 ≤ x_10) → mm_W l G k_P_feed 22 [(0, .ref r0), (1, .int x1), (2, .int x2), (3, .int x3), (4, .int x4), (5, .int x5)] [] b_7 m_9 Q) (h16 : (¬ 20 ≤ x_10) → mm_W l G k_P_feed 12 [] [] b_7 m_9 Q) : mm_W l G k_P_feed 0 [(0, .ref r0), (1, .int x1), (2, .int x2), (3, .int x3), (4, .int x4), (5, .int x5)] [] b m Q := by
  refine mm_aload_n 0 (i := 0) d_P_feed_0 rfl rfl ?_
  refine mm_get cc_P 0 (by decide) w_234 d_P_feed_1 g2 z3 v5 ?_
  refine mm_callV (as := []) (st := []) (b2 := b_7) ca_B_free w_301 w_302 w_303 cc_B.1 rfl d_P_feed_4 rfl (Nat.le_of_ble_eq_true rfl) (Nat.le_of_ble_eq_true rfl) (Nat.le_of_ble_eq_true rfl) hb8 g12 z13 M14 (fun E _ ⟨c, _⟩ => nomatch c) (fun v _ ⟨c, e⟩ => ?_)
  cases c
  rw [e]
  show mm_W l G k_P_feed 7 [(0, .ref r0), (1, .int x1), (2, .int x2), (3, .int x3), (4, .int x4), (5, .int x5)] [.int x_10] b_7 m_9 Q
  refine mm_bipush d_P_feed_7 (v := 20) (by decide) ?_
  exact mm_icmp_ge (tgt := 22) d_P_feed_9 (by decide) (fun c => mm_sub [0, 1, 2, 3, 4, 5] rfl (h15 c)) (fun c => mm_sub [] rfl (h16 c))
theorem t_P_feed_12 {l : Launch} {G : mm_G} {b : Nat} {m : mm_Mem} {Q : mm_O → mm_Mem → Prop}  (h1 : Q (.inr "java/lang/IllegalStateException") m) (hb2 : 7 ≤ b) : mm_W l G k_P_feed 12 [] [] b m Q := by
  exact th_P_feed_12 hb2 h1
theorem t_P_feed_22 {l : Launch} {G : mm_G} {b : Nat} {m : mm_Mem} {Q : mm_O → mm_Mem → Prop} {r0 : Nat} {x1 : Int32} {x2 : Int32} {x3 : Int32} {x4 : Int32} {x5 : Int32} {fs_1 : List Value} {q_4 : Nat} {b_6 : Nat} {b_7 : Nat} {m_9 : mm_Mem} {fs_10 : List Value} {fs_14 : List Value} {q_16 : Nat} {b_18 : Nat} {b_19 : Nat} {m_21 : mm_Mem} {fs_22 : List Value} {fs_26 : List Value} {q_28 : Nat} {b_30 : Nat} {b_31 : Nat} {m_33 : mm_Mem} {fs_34 : List Value} {fs_38 : List Value} {q_40 : Nat} {b_42 : Nat} {b_43 : Nat} {m_45 : mm_Mem} {fs_46 : List Value} {fs_50 : List Value} {q_52 : Nat} {b_54 : Nat} {b_55 : Nat} {m_57 : mm_Mem} {fs_58 : List Value} (g2 : m r0 = .inr (0, fs_1)) (z3 : r0 ≠ 0) (v5 : fs_1[0]? = some (.ref q_4)) (hb8 : b_6 + b_7 ≤ b) (g11 : m q_4 = .inr (2, fs_10)) (z12 : q_4 ≠ 0) (M13 : mm_W l G k_B_pushWord 0 (lv_args 0 [.ref q_4, .int x1]) [] b_6 m (mm_is (.inl none) m_9)) (g15 : m_9 r0 = .inr (0, fs_14)) (v17 : fs_14[0]? = some (.ref q_16)) (hb20 : b_18 + b_19 ≤ b_7) (g23 : m_9 q_16 = .inr (2, fs_22)) (z24 : q_16 ≠ 0) (M25 : mm_W l G k_B_pushWord 0 (lv_args 0 [.ref q_16, .int x2]) [] b_18 m_9 (mm_is (.inl none) m_21)) (g27 : m_21 r0 = .inr (0, fs_26)) (v29 : fs_26[0]? = some (.ref q_28)) (hb32 : b_30 + b_31 ≤ b_19) (g35 : m_21 q_28 = .inr (2, fs_34)) (z36 : q_28 ≠ 0) (M37 : mm_W l G k_B_pushWord 0 (lv_args 0 [.ref q_28, .int x3]) [] b_30 m_21 (mm_is (.inl none) m_33)) (g39 : m_33 r0 = .inr (0, fs_38)) (v41 : fs_38[0]? = some (.ref q_40)) (hb44 : b_42 + b_43 ≤ b_31) (g47 : m_33 q_40 = .inr (2, fs_46)) (z48 : q_40 ≠ 0) (M49 : mm_W l G k_B_pushWord 0 (lv_args 0 [.ref q_40, .int x4]) [] b_42 m_33 (mm_is (.inl none) m_45)) (g51 : m_45 r0 = .inr (0, fs_50)) (v53 : fs_50[0]? = some (.ref q_52)) (hb56 : b_54 + b_55 ≤ b_43) (g59 : m_45 q_52 = .inr (2, fs_58)) (z60 : q_52 ≠ 0) (M61 : mm_W l G k_B_pushWord 0 (lv_args 0 [.ref q_52, .int x5]) [] b_54 m_45 (mm_is (.inl none) m_57)) (h62 : Q (.inl none) m_57) : mm_W l G k_P_feed 22 [(0, .ref r0), (1, .int x1), (2, .int x2), (3, .int x3), (4, .int x4), (5, .int x5)] [] b m Q := by
  refine mm_aload_n 0 (i := 0) d_P_feed_22 rfl rfl ?_
  refine mm_get cc_P 0 (by decide) w_234 d_P_feed_23 g2 z3 v5 ?_
  refine mm_iload_n 1 (i := 1) d_P_feed_26 rfl rfl ?_
  refine mm_callV (as := [.int x1]) (st := []) (b2 := b_7) ca_B_pushWord w_372 w_373 w_374 cc_B.1 rfl d_P_feed_27 rfl (Nat.le_of_ble_eq_true rfl) (Nat.le_of_ble_eq_true rfl) (Nat.le_of_ble_eq_true rfl) hb8 g11 z12 M13 (fun E _ ⟨c, _⟩ => nomatch c) (fun v _ ⟨c, e⟩ => ?_)
  cases c
  rw [e]
  show mm_W l G k_P_feed 30 [(0, .ref r0), (1, .int x1), (2, .int x2), (3, .int x3), (4, .int x4), (5, .int x5)] [] b_7 m_9 Q
  refine mm_aload_n 0 (i := 0) d_P_feed_30 rfl rfl ?_
  refine mm_get cc_P 0 (by decide) w_234 d_P_feed_31 g15 z3 v17 ?_
  refine mm_iload_n 2 (i := 2) d_P_feed_34 rfl rfl ?_
  refine mm_callV (as := [.int x2]) (st := []) (b2 := b_19) ca_B_pushWord w_372 w_373 w_374 cc_B.1 rfl d_P_feed_35 rfl (Nat.le_of_ble_eq_true rfl) (Nat.le_of_ble_eq_true rfl) (Nat.le_of_ble_eq_true rfl) hb20 g23 z24 M25 (fun E _ ⟨c, _⟩ => nomatch c) (fun v _ ⟨c, e⟩ => ?_)
  cases c
  rw [e]
  show mm_W l G k_P_feed 38 [(0, .ref r0), (1, .int x1), (2, .int x2), (3, .int x3), (4, .int x4), (5, .int x5)] [] b_19 m_21 Q
  refine mm_aload_n 0 (i := 0) d_P_feed_38 rfl rfl ?_
  refine mm_get cc_P 0 (by decide) w_234 d_P_feed_39 g27 z3 v29 ?_
  refine mm_iload_n 3 (i := 3) d_P_feed_42 rfl rfl ?_
  refine mm_callV (as := [.int x3]) (st := []) (b2 := b_31) ca_B_pushWord w_372 w_373 w_374 cc_B.1 rfl d_P_feed_43 rfl (Nat.le_of_ble_eq_true rfl) (Nat.le_of_ble_eq_true rfl) (Nat.le_of_ble_eq_true rfl) hb32 g35 z36 M37 (fun E _ ⟨c, _⟩ => nomatch c) (fun v _ ⟨c, e⟩ => ?_)
  cases c
  rw [e]
  show mm_W l G k_P_feed 46 [(0, .ref r0), (1, .int x1), (2, .int x2), (3, .int x3), (4, .int x4), (5, .int x5)] [] b_31 m_33 Q
  refine mm_aload_n 0 (i := 0) d_P_feed_46 rfl rfl ?_
  refine mm_get cc_P 0 (by decide) w_234 d_P_feed_47 g39 z3 v41 ?_
  refine mm_iload 4 (i := 4) d_P_feed_50 rfl ?_
  refine mm_callV (as := [.int x4]) (st := []) (b2 := b_43) ca_B_pushWord w_372 w_373 w_374 cc_B.1 rfl d_P_feed_52 rfl (Nat.le_of_ble_eq_true rfl) (Nat.le_of_ble_eq_true rfl) (Nat.le_of_ble_eq_true rfl) hb44 g47 z48 M49 (fun E _ ⟨c, _⟩ => nomatch c) (fun v _ ⟨c, e⟩ => ?_)
  cases c
  rw [e]
  show mm_W l G k_P_feed 55 [(0, .ref r0), (1, .int x1), (2, .int x2), (3, .int x3), (4, .int x4), (5, .int x5)] [] b_43 m_45 Q
  refine mm_aload_n 0 (i := 0) d_P_feed_55 rfl rfl ?_
  refine mm_get cc_P 0 (by decide) w_234 d_P_feed_56 g51 z3 v53 ?_
  refine mm_iload 5 (i := 5) d_P_feed_59 rfl ?_
  refine mm_callV (as := [.int x5]) (st := []) (b2 := b_55) ca_B_pushWord w_372 w_373 w_374 cc_B.1 rfl d_P_feed_61 rfl (Nat.le_of_ble_eq_true rfl) (Nat.le_of_ble_eq_true rfl) (Nat.le_of_ble_eq_true rfl) hb56 g59 z60 M61 (fun E _ ⟨c, _⟩ => nomatch c) (fun v _ ⟨c, e⟩ => ?_)
  cases c
  rw [e]
  show mm_W l G k_P_feed 64 [(0, .ref r0), (1, .int x1), (2, .int x2), (3, .int x3), (4, .int x4), (5, .int x5)] [] b_55 m_57 Q
  exact mm_vret d_P_feed_64 rfl h62
theorem t_P_end_0 {l : Launch} {G : mm_G} {b : Nat} {m : mm_Mem} {Q : mm_O → mm_Mem → Prop} {r0 : Nat} {x1 : Int32} (h1 : (x1 < 0) → mm_W l G k_P_end 15 [] [] b m Q) (h2 : (¬ x1 < 0) → mm_W l G k_P_end 4 [(0, .ref r0), (1, .int x1)] [] b m Q) : mm_W l G k_P_end 0 [(0, .ref r0), (1, .int x1)] [] b m Q := by
  refine mm_iload_n 1 (i := 1) d_P_end_0 rfl rfl ?_
  exact mm_if_lt (tgt := 15) d_P_end_1 (by decide) (fun c => mm_sub [] rfl (h1 c)) (fun c => mm_sub [0, 1] rfl (h2 c))
theorem t_P_end_4 {l : Launch} {G : mm_G} {b : Nat} {m : mm_Mem} {Q : mm_O → mm_Mem → Prop} {r0 : Nat} {x1 : Int32} {fs_1 : List Value} {q_4 : Nat} {b_6 : Nat} {b_7 : Nat} {m_9 : mm_Mem} {x_10 : Int32} {fs_11 : List Value} (g2 : m r0 = .inr (0, fs_1)) (z3 : r0 ≠ 0) (v5 : fs_1[0]? = some (.ref q_4)) (hb8 : b_6 + b_7 ≤ b) (g12 : m q_4 = .inr (2, fs_11)) (z13 : q_4 ≠ 0) (M14 : mm_W l G k_B_size 0 (lv_args 0 [.ref q_4]) [] b_6 m (mm_is (.inl (some (.int x_10))) m_9)) (h15 : (x1 ≤ x_10) → mm_W l G k_P_end 25 [(0, .ref r0), (1, .int x1)] [] b_7 m_9 Q) (h16 : (¬ x1 ≤ x_10) → mm_W l G k_P_end 15 [] [] b_7 m_9 Q) : mm_W l G k_P_end 4 [(0, .ref r0), (1, .int x1)] [] b m Q := by
  refine mm_iload_n 1 (i := 1) d_P_end_4 rfl rfl ?_
  refine mm_aload_n 0 (i := 0) d_P_end_5 rfl rfl ?_
  refine mm_get cc_P 0 (by decide) w_234 d_P_end_6 g2 z3 v5 ?_
  refine mm_callV (as := []) (st := [.int x1]) (b2 := b_7) ca_B_size w_254 w_255 w_256 cc_B.1 rfl d_P_end_9 rfl (Nat.le_of_ble_eq_true rfl) (Nat.le_of_ble_eq_true rfl) (Nat.le_of_ble_eq_true rfl) hb8 g12 z13 M14 (fun E _ ⟨c, _⟩ => nomatch c) (fun v _ ⟨c, e⟩ => ?_)
  cases c
  rw [e]
  show mm_W l G k_P_end 12 [(0, .ref r0), (1, .int x1)] [.int x_10, .int x1] b_7 m_9 Q
  exact mm_icmp_le (tgt := 25) d_P_end_12 (by decide) (fun c => mm_sub [0, 1] rfl (h15 c)) (fun c => mm_sub [] rfl (h16 c))
theorem t_P_end_15 {l : Launch} {G : mm_G} {b : Nat} {m : mm_Mem} {Q : mm_O → mm_Mem → Prop}  (h1 : Q (.inr "java/lang/IllegalArgumentException") m) (hb2 : 7 ≤ b) : mm_W l G k_P_end 15 [] [] b m Q := by
  exact th_P_end_15 hb2 h1
theorem t_P_end_25 {l : Launch} {G : mm_G} {b : Nat} {m : mm_Mem} {Q : mm_O → mm_Mem → Prop} {r0 : Nat} {x1 : Int32} {fs_1 : List Value} {q_4 : Nat} {b_6 : Nat} {b_7 : Nat} {m_9 : mm_Mem} {fs_10 : List Value} (g2 : m r0 = .inr (0, fs_1)) (z3 : r0 ≠ 0) (v5 : fs_1[0]? = some (.ref q_4)) (hb8 : b_6 + b_7 ≤ b) (g11 : m q_4 = .inr (2, fs_10)) (z12 : q_4 ≠ 0) (M13 : mm_W l G k_B_keep 0 (lv_args 0 [.ref q_4, .int x1]) [] b_6 m (mm_is (.inl none) m_9)) (h14 : Q (.inl none) m_9) : mm_W l G k_P_end 25 [(0, .ref r0), (1, .int x1)] [] b m Q := by
  refine mm_aload_n 0 (i := 0) d_P_end_25 rfl rfl ?_
  refine mm_get cc_P 0 (by decide) w_234 d_P_end_26 g2 z3 v5 ?_
  refine mm_iload_n 1 (i := 1) d_P_end_29 rfl rfl ?_
  refine mm_callV (as := [.int x1]) (st := []) (b2 := b_7) ca_B_keep w_262 w_263 w_264 cc_B.1 rfl d_P_end_30 rfl (Nat.le_of_ble_eq_true rfl) (Nat.le_of_ble_eq_true rfl) (Nat.le_of_ble_eq_true rfl) hb8 g11 z12 M13 (fun E _ ⟨c, _⟩ => nomatch c) (fun v _ ⟨c, e⟩ => ?_)
  cases c
  rw [e]
  show mm_W l G k_P_end 33 [(0, .ref r0), (1, .int x1)] [] b_7 m_9 Q
  exact mm_vret d_P_end_33 rfl h14
theorem t_P_alter_0 {l : Launch} {G : mm_G} {b : Nat} {m : mm_Mem} {Q : mm_O → mm_Mem → Prop} {r0 : Nat} {x1 : Int32} {x2 : Int32} (h1 : (x1 < 0) → mm_W l G k_P_alter 15 [] [] b m Q) (h2 : (¬ x1 < 0) → mm_W l G k_P_alter 4 [(0, .ref r0), (1, .int x1), (2, .int x2)] [] b m Q) : mm_W l G k_P_alter 0 [(0, .ref r0), (1, .int x1), (2, .int x2)] [] b m Q := by
  refine mm_iload_n 1 (i := 1) d_P_alter_0 rfl rfl ?_
  exact mm_if_lt (tgt := 15) d_P_alter_1 (by decide) (fun c => mm_sub [] rfl (h1 c)) (fun c => mm_sub [0, 1, 2] rfl (h2 c))
theorem t_P_alter_4 {l : Launch} {G : mm_G} {b : Nat} {m : mm_Mem} {Q : mm_O → mm_Mem → Prop} {r0 : Nat} {x1 : Int32} {x2 : Int32} {fs_1 : List Value} {q_4 : Nat} {b_6 : Nat} {b_7 : Nat} {m_9 : mm_Mem} {x_10 : Int32} {fs_11 : List Value} (g2 : m r0 = .inr (0, fs_1)) (z3 : r0 ≠ 0) (v5 : fs_1[0]? = some (.ref q_4)) (hb8 : b_6 + b_7 ≤ b) (g12 : m q_4 = .inr (2, fs_11)) (z13 : q_4 ≠ 0) (M14 : mm_W l G k_B_size 0 (lv_args 0 [.ref q_4]) [] b_6 m (mm_is (.inl (some (.int x_10))) m_9)) (h15 : (x1 < x_10) → mm_W l G k_P_alter 25 [(0, .ref r0), (1, .int x1), (2, .int x2)] [] b_7 m_9 Q) (h16 : (¬ x1 < x_10) → mm_W l G k_P_alter 15 [] [] b_7 m_9 Q) : mm_W l G k_P_alter 4 [(0, .ref r0), (1, .int x1), (2, .int x2)] [] b m Q := by
  refine mm_iload_n 1 (i := 1) d_P_alter_4 rfl rfl ?_
  refine mm_aload_n 0 (i := 0) d_P_alter_5 rfl rfl ?_
  refine mm_get cc_P 0 (by decide) w_234 d_P_alter_6 g2 z3 v5 ?_
  refine mm_callV (as := []) (st := [.int x1]) (b2 := b_7) ca_B_size w_254 w_255 w_256 cc_B.1 rfl d_P_alter_9 rfl (Nat.le_of_ble_eq_true rfl) (Nat.le_of_ble_eq_true rfl) (Nat.le_of_ble_eq_true rfl) hb8 g12 z13 M14 (fun E _ ⟨c, _⟩ => nomatch c) (fun v _ ⟨c, e⟩ => ?_)
  cases c
  rw [e]
  show mm_W l G k_P_alter 12 [(0, .ref r0), (1, .int x1), (2, .int x2)] [.int x_10, .int x1] b_7 m_9 Q
  exact mm_icmp_lt (tgt := 25) d_P_alter_12 (by decide) (fun c => mm_sub [0, 1, 2] rfl (h15 c)) (fun c => mm_sub [] rfl (h16 c))
theorem t_P_alter_15 {l : Launch} {G : mm_G} {b : Nat} {m : mm_Mem} {Q : mm_O → mm_Mem → Prop}  (h1 : Q (.inr "java/lang/IndexOutOfBoundsException") m) (hb2 : 7 ≤ b) : mm_W l G k_P_alter 15 [] [] b m Q := by
  exact th_P_alter_15 hb2 h1
theorem t_P_alter_25 {l : Launch} {G : mm_G} {b : Nat} {m : mm_Mem} {Q : mm_O → mm_Mem → Prop} {r0 : Nat} {x1 : Int32} {x2 : Int32} (h1 : (x2 < 0) → mm_W l G k_P_alter 36 [] [] b m Q) (h2 : (¬ x2 < 0) → mm_W l G k_P_alter 29 [(0, .ref r0), (1, .int x1), (2, .int x2)] [] b m Q) : mm_W l G k_P_alter 25 [(0, .ref r0), (1, .int x1), (2, .int x2)] [] b m Q := by
  refine mm_iload_n 2 (i := 2) d_P_alter_25 rfl rfl ?_
  exact mm_if_lt (tgt := 36) d_P_alter_26 (by decide) (fun c => mm_sub [] rfl (h1 c)) (fun c => mm_sub [0, 1, 2] rfl (h2 c))
theorem t_P_alter_29 {l : Launch} {G : mm_G} {b : Nat} {m : mm_Mem} {Q : mm_O → mm_Mem → Prop} {r0 : Nat} {x1 : Int32} {x2 : Int32} (h1 : (x2 ≤ 255) → mm_W l G k_P_alter 46 [(0, .ref r0), (1, .int x1), (2, .int x2)] [] b m Q) (h2 : (¬ x2 ≤ 255) → mm_W l G k_P_alter 36 [] [] b m Q) : mm_W l G k_P_alter 29 [(0, .ref r0), (1, .int x1), (2, .int x2)] [] b m Q := by
  refine mm_iload_n 2 (i := 2) d_P_alter_29 rfl rfl ?_
  refine mm_sipush d_P_alter_30 (v := 255) (by decide) ?_
  exact mm_icmp_le (tgt := 46) d_P_alter_33 (by decide) (fun c => mm_sub [0, 1, 2] rfl (h1 c)) (fun c => mm_sub [] rfl (h2 c))
theorem t_P_alter_36 {l : Launch} {G : mm_G} {b : Nat} {m : mm_Mem} {Q : mm_O → mm_Mem → Prop}  (h1 : Q (.inr "java/lang/IllegalArgumentException") m) (hb2 : 7 ≤ b) : mm_W l G k_P_alter 36 [] [] b m Q := by
  exact th_P_alter_36 hb2 h1
theorem t_P_alter_46 {l : Launch} {G : mm_G} {b : Nat} {m : mm_Mem} {Q : mm_O → mm_Mem → Prop} {r0 : Nat} {x1 : Int32} {x2 : Int32} {fs_1 : List Value} {q_4 : Nat} {b_6 : Nat} {b_7 : Nat} {m_9 : mm_Mem} {fs_10 : List Value} (g2 : m r0 = .inr (0, fs_1)) (z3 : r0 ≠ 0) (v5 : fs_1[0]? = some (.ref q_4)) (hb8 : b_6 + b_7 ≤ b) (g11 : m q_4 = .inr (2, fs_10)) (z12 : q_4 ≠ 0) (M13 : mm_W l G k_B_set 0 (lv_args 0 [.ref q_4, .int x1, .int x2]) [] b_6 m (mm_is (.inl none) m_9)) (h14 : Q (.inl none) m_9) : mm_W l G k_P_alter 46 [(0, .ref r0), (1, .int x1), (2, .int x2)] [] b m Q := by
  refine mm_aload_n 0 (i := 0) d_P_alter_46 rfl rfl ?_
  refine mm_get cc_P 0 (by decide) w_234 d_P_alter_47 g2 z3 v5 ?_
  refine mm_iload_n 1 (i := 1) d_P_alter_50 rfl rfl ?_
  refine mm_iload_n 2 (i := 2) d_P_alter_51 rfl rfl ?_
  refine mm_callV (as := [.int x1, .int x2]) (st := []) (b2 := b_7) ca_B_set w_429 w_430 w_431 cc_B.1 rfl d_P_alter_52 rfl (Nat.le_of_ble_eq_true rfl) (Nat.le_of_ble_eq_true rfl) (Nat.le_of_ble_eq_true rfl) hb8 g11 z12 M13 (fun E _ ⟨c, _⟩ => nomatch c) (fun v _ ⟨c, e⟩ => ?_)
  cases c
  rw [e]
  show mm_W l G k_P_alter 55 [(0, .ref r0), (1, .int x1), (2, .int x2)] [] b_7 m_9 Q
  exact mm_vret d_P_alter_55 rfl h14
theorem t_P_length_0 {l : Launch} {G : mm_G} {b : Nat} {m : mm_Mem} {Q : mm_O → mm_Mem → Prop} {r0 : Nat} {fs_1 : List Value} {q_4 : Nat} {b_6 : Nat} {b_7 : Nat} {m_9 : mm_Mem} {x_10 : Int32} {fs_11 : List Value} (g2 : m r0 = .inr (0, fs_1)) (z3 : r0 ≠ 0) (v5 : fs_1[0]? = some (.ref q_4)) (hb8 : b_6 + b_7 ≤ b) (g12 : m q_4 = .inr (2, fs_11)) (z13 : q_4 ≠ 0) (M14 : mm_W l G k_B_size 0 (lv_args 0 [.ref q_4]) [] b_6 m (mm_is (.inl (some (.int x_10))) m_9)) (h15 : Q (.inl (some (.int x_10))) m_9) : mm_W l G k_P_length 0 [(0, .ref r0)] [] b m Q := by
  refine mm_aload_n 0 (i := 0) d_P_length_0 rfl rfl ?_
  refine mm_get cc_P 0 (by decide) w_234 d_P_length_1 g2 z3 v5 ?_
  refine mm_callV (as := []) (st := []) (b2 := b_7) ca_B_size w_254 w_255 w_256 cc_B.1 rfl d_P_length_4 rfl (Nat.le_of_ble_eq_true rfl) (Nat.le_of_ble_eq_true rfl) (Nat.le_of_ble_eq_true rfl) hb8 g12 z13 M14 (fun E _ ⟨c, _⟩ => nomatch c) (fun v _ ⟨c, e⟩ => ?_)
  cases c
  rw [e]
  show mm_W l G k_P_length 7 [(0, .ref r0)] [.int x_10] b_7 m_9 Q
  exact mm_iret d_P_length_7 rfl h15
theorem t_P_byteAt_0 {l : Launch} {G : mm_G} {b : Nat} {m : mm_Mem} {Q : mm_O → mm_Mem → Prop} {r0 : Nat} {x1 : Int32} {fs_1 : List Value} {q_4 : Nat} {b_6 : Nat} {b_7 : Nat} {m_9 : mm_Mem} {x_10 : Int32} {fs_11 : List Value} (g2 : m r0 = .inr (0, fs_1)) (z3 : r0 ≠ 0) (v5 : fs_1[0]? = some (.ref q_4)) (hb8 : b_6 + b_7 ≤ b) (g12 : m q_4 = .inr (2, fs_11)) (z13 : q_4 ≠ 0) (M14 : mm_W l G k_B_get 0 (lv_args 0 [.ref q_4, .int x1]) [] b_6 m (mm_is (.inl (some (.int x_10))) m_9)) (h15 : (¬ x_10 = ((-1))) → mm_W l G k_P_byteAt 24 [(2, .int x_10)] [] b_7 m_9 Q) (h16 : (x_10 = ((-1))) → mm_W l G k_P_byteAt 14 [] [] b_7 m_9 Q) : mm_W l G k_P_byteAt 0 [(0, .ref r0), (1, .int x1)] [] b m Q := by
  refine mm_aload_n 0 (i := 0) d_P_byteAt_0 rfl rfl ?_
  refine mm_get cc_P 0 (by decide) w_234 d_P_byteAt_1 g2 z3 v5 ?_
  refine mm_iload_n 1 (i := 1) d_P_byteAt_4 rfl rfl ?_
  refine mm_callV (as := [.int x1]) (st := []) (b2 := b_7) ca_B_get w_440 w_279 w_280 cc_B.1 rfl d_P_byteAt_5 rfl (Nat.le_of_ble_eq_true rfl) (Nat.le_of_ble_eq_true rfl) (Nat.le_of_ble_eq_true rfl) hb8 g12 z13 M14 (fun E _ ⟨c, _⟩ => nomatch c) (fun v _ ⟨c, e⟩ => ?_)
  cases c
  rw [e]
  show mm_W l G k_P_byteAt 8 [(0, .ref r0), (1, .int x1)] [.int x_10] b_7 m_9 Q
  refine mm_istore_n (i := 2) d_P_byteAt_8 rfl (Nat.le_of_ble_eq_true rfl) (lv2 := [(2, .int x_10), (0, .ref r0), (1, .int x1)]) rfl ?_
  refine mm_iload_n 0 (i := 2) d_P_byteAt_9 rfl rfl ?_
  refine mm_iconst d_P_byteAt_10 (v := (-1)) (by decide) ?_
  exact mm_icmp_ne (tgt := 24) d_P_byteAt_11 (by decide) (fun c => mm_sub [0] rfl (h15 c)) (fun c => mm_sub [] rfl (h16 c))
theorem t_P_byteAt_14 {l : Launch} {G : mm_G} {b : Nat} {m : mm_Mem} {Q : mm_O → mm_Mem → Prop}  (h1 : Q (.inr "java/lang/IndexOutOfBoundsException") m) (hb2 : 7 ≤ b) : mm_W l G k_P_byteAt 14 [] [] b m Q := by
  exact th_P_byteAt_14 hb2 h1
theorem t_P_byteAt_24 {l : Launch} {G : mm_G} {b : Nat} {m : mm_Mem} {Q : mm_O → mm_Mem → Prop} {x2 : Int32} (h1 : Q (.inl (some (.int x2))) m) : mm_W l G k_P_byteAt 24 [(2, .int x2)] [] b m Q := by
  refine mm_iload_n 0 (i := 2) d_P_byteAt_24 rfl rfl ?_
  exact mm_iret d_P_byteAt_25 rfl h1
theorem t_P_type_0 {l : Launch} {G : mm_G} {b : Nat} {m : mm_Mem} {Q : mm_O → mm_Mem → Prop} {r0 : Nat} {x1 : Int32} (h1 : mm_W l G k_P_type 5 [(0, .ref r0), (1, .int x1), (2, .int 0), (3, .int 24)] [] b m Q) : mm_W l G k_P_type 0 [(0, .ref r0), (1, .int x1)] [] b m Q := by
  refine mm_iconst d_P_type_0 (v := 0) (by decide) ?_
  refine mm_istore_n (i := 2) d_P_type_1 rfl (Nat.le_of_ble_eq_true rfl) (lv2 := [(2, .int 0), (0, .ref r0), (1, .int x1)]) rfl ?_
  refine mm_bipush d_P_type_2 (v := 24) (by decide) ?_
  refine mm_istore_n (i := 3) d_P_type_4 rfl (Nat.le_of_ble_eq_true rfl) (lv2 := [(3, .int 24), (2, .int 0), (0, .ref r0), (1, .int x1)]) rfl ?_
  exact mm_sub [2, 3, 1, 0] rfl h1
theorem t_P_type_5 {l : Launch} {G : mm_G} {b : Nat} {m : mm_Mem} {Q : mm_O → mm_Mem → Prop} {r0 : Nat} {x1 : Int32} {x2 : Int32} {x3 : Int32} (h1 : (x3 < 0) → mm_W l G k_P_type 56 [(0, .ref r0), (1, .int x1), (2, .int x2)] [] b m Q) (h2 : (¬ x3 < 0) → mm_W l G k_P_type 9 [(0, .ref r0), (1, .int x1), (2, .int x2), (3, .int x3)] [] b m Q) : mm_W l G k_P_type 5 [(0, .ref r0), (1, .int x1), (2, .int x2), (3, .int x3)] [] b m Q := by
  refine mm_iload_n 3 (i := 3) d_P_type_5 rfl rfl ?_
  exact mm_if_lt (tgt := 56) d_P_type_6 (by decide) (fun c => mm_sub [0, 1, 2] rfl (h1 c)) (fun c => mm_sub [0, 1, 2, 3] rfl (h2 c))
theorem t_P_type_9 {l : Launch} {G : mm_G} {b : Nat} {m : mm_Mem} {Q : mm_O → mm_Mem → Prop} {r0 : Nat} {x1 : Int32} {x2 : Int32} {x3 : Int32} (h1 : ((((x1.toUInt32 >>> (x3.toUInt32 &&& Int32.toUInt32 31)).toInt32) &&& 255) = 0) → mm_W l G k_P_type 50 [(0, .ref r0), (1, .int x1), (2, .int x2), (3, .int x3)] [] b m Q) (h2 : (¬ (((x1.toUInt32 >>> (x3.toUInt32 &&& Int32.toUInt32 31)).toInt32) &&& 255) = 0) → mm_W l G k_P_type 23 [(0, .ref r0), (1, .int x1), (2, .int x2), (3, .int x3), (4, .int (((x1.toUInt32 >>> (x3.toUInt32 &&& Int32.toUInt32 31)).toInt32) &&& 255))] [] b m Q) : mm_W l G k_P_type 9 [(0, .ref r0), (1, .int x1), (2, .int x2), (3, .int x3)] [] b m Q := by
  refine mm_iload_n 1 (i := 1) d_P_type_9 rfl rfl ?_
  refine mm_iload_n 3 (i := 3) d_P_type_10 rfl rfl ?_
  refine mm_iushr d_P_type_11 ?_
  refine mm_sipush d_P_type_12 (v := 255) (by decide) ?_
  refine mm_iand d_P_type_15 ?_
  refine mm_istore (i := 4) d_P_type_16 (Nat.le_of_ble_eq_true rfl) (lv2 := [(4, .int (((x1.toUInt32 >>> (x3.toUInt32 &&& Int32.toUInt32 31)).toInt32) &&& 255)), (0, .ref r0), (1, .int x1), (2, .int x2), (3, .int x3)]) rfl ?_
  refine mm_iload 0 (i := 4) d_P_type_18 rfl ?_
  exact mm_if_eq (tgt := 50) d_P_type_20 (by decide) (fun c => mm_sub [1, 2, 3, 4] rfl (h1 c)) (fun c => mm_sub [1, 2, 3, 4, 0] rfl (h2 c))
theorem t_P_type_23 {l : Launch} {G : mm_G} {b : Nat} {m : mm_Mem} {Q : mm_O → mm_Mem → Prop} {r0 : Nat} {x1 : Int32} {x2 : Int32} {x3 : Int32} {x4 : Int32} (h1 : (x4 < 33) → mm_W l G k_P_type 37 [] [] b m Q) (h2 : (¬ x4 < 33) → mm_W l G k_P_type 30 [(0, .ref r0), (1, .int x1), (2, .int x2), (3, .int x3), (4, .int x4)] [] b m Q) : mm_W l G k_P_type 23 [(0, .ref r0), (1, .int x1), (2, .int x2), (3, .int x3), (4, .int x4)] [] b m Q := by
  refine mm_iload 4 (i := 4) d_P_type_23 rfl ?_
  refine mm_bipush d_P_type_25 (v := 33) (by decide) ?_
  exact mm_icmp_lt (tgt := 37) d_P_type_27 (by decide) (fun c => mm_sub [] rfl (h1 c)) (fun c => mm_sub [0, 1, 2, 3, 4] rfl (h2 c))
theorem t_P_type_30 {l : Launch} {G : mm_G} {b : Nat} {m : mm_Mem} {Q : mm_O → mm_Mem → Prop} {r0 : Nat} {x1 : Int32} {x2 : Int32} {x3 : Int32} {x4 : Int32} (h1 : (x4 ≤ 126) → mm_W l G k_P_type 47 [(0, .ref r0), (1, .int x1), (2, .int x2), (3, .int x3)] [] b m Q) (h2 : (¬ x4 ≤ 126) → mm_W l G k_P_type 37 [] [] b m Q) : mm_W l G k_P_type 30 [(0, .ref r0), (1, .int x1), (2, .int x2), (3, .int x3), (4, .int x4)] [] b m Q := by
  refine mm_iload 4 (i := 4) d_P_type_30 rfl ?_
  refine mm_bipush d_P_type_32 (v := 126) (by decide) ?_
  exact mm_icmp_le (tgt := 47) d_P_type_34 (by decide) (fun c => mm_sub [0, 1, 2, 3] rfl (h1 c)) (fun c => mm_sub [] rfl (h2 c))
theorem t_P_type_37 {l : Launch} {G : mm_G} {b : Nat} {m : mm_Mem} {Q : mm_O → mm_Mem → Prop}  (h1 : Q (.inr "java/lang/IllegalArgumentException") m) (hb2 : 7 ≤ b) : mm_W l G k_P_type 37 [] [] b m Q := by
  exact th_P_type_37 hb2 h1
theorem t_P_type_47 {l : Launch} {G : mm_G} {b : Nat} {m : mm_Mem} {Q : mm_O → mm_Mem → Prop} {r0 : Nat} {x1 : Int32} {x2 : Int32} {x3 : Int32} (h1 : mm_W l G k_P_type 50 [(0, .ref r0), (1, .int x1), (2, .int (x2 + 1)), (3, .int x3)] [] b m Q) : mm_W l G k_P_type 47 [(0, .ref r0), (1, .int x1), (2, .int x2), (3, .int x3)] [] b m Q := by
  refine mm_iinc 2 (i := 2) d_P_type_47 rfl (v := x2 + 1) rfl (Nat.le_of_ble_eq_true rfl) (lv2 := [(2, .int (x2 + 1)), (0, .ref r0), (1, .int x1), (3, .int x3)]) rfl ?_
  exact mm_sub [1, 2, 0, 3] rfl h1
theorem t_P_type_50 {l : Launch} {G : mm_G} {b : Nat} {m : mm_Mem} {Q : mm_O → mm_Mem → Prop} {r0 : Nat} {x1 : Int32} {x2 : Int32} {x3 : Int32} (h1 : mm_W l G k_P_type 5 [(0, .ref r0), (1, .int x1), (2, .int x2), (3, .int (x3 + (-8)))] [] b m Q) : mm_W l G k_P_type 50 [(0, .ref r0), (1, .int x1), (2, .int x2), (3, .int x3)] [] b m Q := by
  refine mm_iinc 3 (i := 3) d_P_type_50 rfl (v := x3 + (-8)) rfl (Nat.le_of_ble_eq_true rfl) (lv2 := [(3, .int (x3 + (-8))), (0, .ref r0), (1, .int x1), (2, .int x2)]) rfl ?_
  refine mm_goto (tgt := 5) d_P_type_53 (by decide) ?_
  exact mm_sub [1, 2, 3, 0] rfl h1
theorem t_P_type_56 {l : Launch} {G : mm_G} {b : Nat} {m : mm_Mem} {Q : mm_O → mm_Mem → Prop} {r0 : Nat} {x1 : Int32} {x2 : Int32} {fs_1 : List Value} {q_4 : Nat} {b_6 : Nat} {b_7 : Nat} {m_9 : mm_Mem} {x_10 : Int32} {fs_11 : List Value} (g2 : m r0 = .inr (0, fs_1)) (z3 : r0 ≠ 0) (v5 : fs_1[1]? = some (.ref q_4)) (hb8 : b_6 + b_7 ≤ b) (g12 : m q_4 = .inr (2, fs_11)) (z13 : q_4 ≠ 0) (M14 : mm_W l G k_B_free 0 (lv_args 0 [.ref q_4]) [] b_6 m (mm_is (.inl (some (.int x_10))) m_9)) (h15 : (x2 ≤ x_10) → mm_W l G k_P_type 77 [(0, .ref r0), (1, .int x1)] [] b_7 m_9 Q) (h16 : (¬ x2 ≤ x_10) → mm_W l G k_P_type 67 [] [] b_7 m_9 Q) : mm_W l G k_P_type 56 [(0, .ref r0), (1, .int x1), (2, .int x2)] [] b m Q := by
  refine mm_iload_n 2 (i := 2) d_P_type_56 rfl rfl ?_
  refine mm_aload_n 0 (i := 0) d_P_type_57 rfl rfl ?_
  refine mm_get cc_P 1 (by decide) w_235 d_P_type_58 g2 z3 v5 ?_
  refine mm_callV (as := []) (st := [.int x2]) (b2 := b_7) ca_B_free w_301 w_302 w_303 cc_B.1 rfl d_P_type_61 rfl (Nat.le_of_ble_eq_true rfl) (Nat.le_of_ble_eq_true rfl) (Nat.le_of_ble_eq_true rfl) hb8 g12 z13 M14 (fun E _ ⟨c, _⟩ => nomatch c) (fun v _ ⟨c, e⟩ => ?_)
  cases c
  rw [e]
  show mm_W l G k_P_type 64 [(0, .ref r0), (1, .int x1), (2, .int x2)] [.int x_10, .int x2] b_7 m_9 Q
  exact mm_icmp_le (tgt := 77) d_P_type_64 (by decide) (fun c => mm_sub [0, 1] rfl (h15 c)) (fun c => mm_sub [] rfl (h16 c))
theorem t_P_type_67 {l : Launch} {G : mm_G} {b : Nat} {m : mm_Mem} {Q : mm_O → mm_Mem → Prop}  (h1 : Q (.inr "java/lang/IllegalStateException") m) (hb2 : 7 ≤ b) : mm_W l G k_P_type 67 [] [] b m Q := by
  exact th_P_type_67 hb2 h1
theorem t_P_type_77 {l : Launch} {G : mm_G} {b : Nat} {m : mm_Mem} {Q : mm_O → mm_Mem → Prop} {r0 : Nat} {x1 : Int32} (h1 : mm_W l G k_P_type 80 [(0, .ref r0), (1, .int x1), (3, .int 24)] [] b m Q) : mm_W l G k_P_type 77 [(0, .ref r0), (1, .int x1)] [] b m Q := by
  refine mm_bipush d_P_type_77 (v := 24) (by decide) ?_
  refine mm_istore_n (i := 3) d_P_type_79 rfl (Nat.le_of_ble_eq_true rfl) (lv2 := [(3, .int 24), (0, .ref r0), (1, .int x1)]) rfl ?_
  exact mm_sub [1, 2, 0] rfl h1
theorem t_P_type_80 {l : Launch} {G : mm_G} {b : Nat} {m : mm_Mem} {Q : mm_O → mm_Mem → Prop} {r0 : Nat} {x1 : Int32} {x3 : Int32} (h1 : (x3 < 0) → mm_W l G k_P_type 113 [(0, .ref r0)] [] b m Q) (h2 : (¬ x3 < 0) → mm_W l G k_P_type 84 [(0, .ref r0), (1, .int x1), (3, .int x3)] [] b m Q) : mm_W l G k_P_type 80 [(0, .ref r0), (1, .int x1), (3, .int x3)] [] b m Q := by
  refine mm_iload_n 2 (i := 3) d_P_type_80 rfl rfl ?_
  exact mm_if_lt (tgt := 113) d_P_type_81 (by decide) (fun c => mm_sub [0] rfl (h1 c)) (fun c => mm_sub [0, 1, 2] rfl (h2 c))
theorem t_P_type_84 {l : Launch} {G : mm_G} {b : Nat} {m : mm_Mem} {Q : mm_O → mm_Mem → Prop} {r0 : Nat} {x1 : Int32} {x3 : Int32} (h1 : ((((x1.toUInt32 >>> (x3.toUInt32 &&& Int32.toUInt32 31)).toInt32) &&& 255) = 0) → mm_W l G k_P_type 107 [(0, .ref r0), (1, .int x1), (3, .int x3)] [] b m Q) (h2 : (¬ (((x1.toUInt32 >>> (x3.toUInt32 &&& Int32.toUInt32 31)).toInt32) &&& 255) = 0) → mm_W l G k_P_type 98 [(0, .ref r0), (1, .int x1), (3, .int x3), (4, .int (((x1.toUInt32 >>> (x3.toUInt32 &&& Int32.toUInt32 31)).toInt32) &&& 255))] [] b m Q) : mm_W l G k_P_type 84 [(0, .ref r0), (1, .int x1), (3, .int x3)] [] b m Q := by
  refine mm_iload_n 1 (i := 1) d_P_type_84 rfl rfl ?_
  refine mm_iload_n 2 (i := 3) d_P_type_85 rfl rfl ?_
  refine mm_iushr d_P_type_86 ?_
  refine mm_sipush d_P_type_87 (v := 255) (by decide) ?_
  refine mm_iand d_P_type_90 ?_
  refine mm_istore (i := 4) d_P_type_91 (Nat.le_of_ble_eq_true rfl) (lv2 := [(4, .int (((x1.toUInt32 >>> (x3.toUInt32 &&& Int32.toUInt32 31)).toInt32) &&& 255)), (0, .ref r0), (1, .int x1), (3, .int x3)]) rfl ?_
  refine mm_iload 0 (i := 4) d_P_type_93 rfl ?_
  exact mm_if_eq (tgt := 107) d_P_type_95 (by decide) (fun c => mm_sub [1, 2, 3] rfl (h1 c)) (fun c => mm_sub [1, 2, 3, 0] rfl (h2 c))
theorem t_P_type_98 {l : Launch} {G : mm_G} {b : Nat} {m : mm_Mem} {Q : mm_O → mm_Mem → Prop} {r0 : Nat} {x1 : Int32} {x3 : Int32} {x4 : Int32} {fs_1 : List Value} {q_4 : Nat} {b_6 : Nat} {b_7 : Nat} {m_9 : mm_Mem} {fs_10 : List Value} (g2 : m r0 = .inr (0, fs_1)) (z3 : r0 ≠ 0) (v5 : fs_1[1]? = some (.ref q_4)) (hb8 : b_6 + b_7 ≤ b) (g11 : m q_4 = .inr (2, fs_10)) (z12 : q_4 ≠ 0) (M13 : mm_W l G k_B_push 0 (lv_args 0 [.ref q_4, .int x4]) [] b_6 m (mm_is (.inl none) m_9)) (h14 : mm_W l G k_P_type 107 [(0, .ref r0), (1, .int x1), (3, .int x3)] [] b_7 m_9 Q) : mm_W l G k_P_type 98 [(0, .ref r0), (1, .int x1), (3, .int x3), (4, .int x4)] [] b m Q := by
  refine mm_aload_n 0 (i := 0) d_P_type_98 rfl rfl ?_
  refine mm_get cc_P 1 (by decide) w_235 d_P_type_99 g2 z3 v5 ?_
  refine mm_iload 3 (i := 4) d_P_type_102 rfl ?_
  refine mm_callV (as := [.int x4]) (st := []) (b2 := b_7) ca_B_push w_450 w_377 w_378 cc_B.1 rfl d_P_type_104 rfl (Nat.le_of_ble_eq_true rfl) (Nat.le_of_ble_eq_true rfl) (Nat.le_of_ble_eq_true rfl) hb8 g11 z12 M13 (fun E _ ⟨c, _⟩ => nomatch c) (fun v _ ⟨c, e⟩ => ?_)
  cases c
  rw [e]
  show mm_W l G k_P_type 107 [(0, .ref r0), (1, .int x1), (3, .int x3), (4, .int x4)] [] b_7 m_9 Q
  exact mm_sub [0, 1, 2] rfl h14
theorem t_P_type_107 {l : Launch} {G : mm_G} {b : Nat} {m : mm_Mem} {Q : mm_O → mm_Mem → Prop} {r0 : Nat} {x1 : Int32} {x3 : Int32} (h1 : mm_W l G k_P_type 80 [(0, .ref r0), (1, .int x1), (3, .int (x3 + (-8)))] [] b m Q) : mm_W l G k_P_type 107 [(0, .ref r0), (1, .int x1), (3, .int x3)] [] b m Q := by
  refine mm_iinc 2 (i := 3) d_P_type_107 rfl (v := x3 + (-8)) rfl (Nat.le_of_ble_eq_true rfl) (lv2 := [(3, .int (x3 + (-8))), (0, .ref r0), (1, .int x1)]) rfl ?_
  refine mm_goto (tgt := 80) d_P_type_110 (by decide) ?_
  exact mm_sub [1, 2, 0] rfl h1
theorem t_P_type_113 {l : Launch} {G : mm_G} {b : Nat} {m : mm_Mem} {Q : mm_O → mm_Mem → Prop} {r0 : Nat} {fs_1 : List Value} {q_4 : Nat} {b_6 : Nat} {b_7 : Nat} {m_9 : mm_Mem} {x_10 : Int32} {fs_11 : List Value} (g2 : m r0 = .inr (0, fs_1)) (z3 : r0 ≠ 0) (v5 : fs_1[1]? = some (.ref q_4)) (hb8 : b_6 + b_7 ≤ b) (g12 : m q_4 = .inr (2, fs_11)) (z13 : q_4 ≠ 0) (M14 : mm_W l G k_B_size 0 (lv_args 0 [.ref q_4]) [] b_6 m (mm_is (.inl (some (.int x_10))) m_9)) (h15 : Q (.inl (some (.int x_10))) m_9) : mm_W l G k_P_type 113 [(0, .ref r0)] [] b m Q := by
  refine mm_aload_n 0 (i := 0) d_P_type_113 rfl rfl ?_
  refine mm_get cc_P 1 (by decide) w_235 d_P_type_114 g2 z3 v5 ?_
  refine mm_callV (as := []) (st := []) (b2 := b_7) ca_B_size w_254 w_255 w_256 cc_B.1 rfl d_P_type_117 rfl (Nat.le_of_ble_eq_true rfl) (Nat.le_of_ble_eq_true rfl) (Nat.le_of_ble_eq_true rfl) hb8 g12 z13 M14 (fun E _ ⟨c, _⟩ => nomatch c) (fun v _ ⟨c, e⟩ => ?_)
  cases c
  rw [e]
  show mm_W l G k_P_type 120 [(0, .ref r0)] [.int x_10] b_7 m_9 Q
  exact mm_iret d_P_type_120 rfl h15
theorem t_P_erase_0 {l : Launch} {G : mm_G} {b : Nat} {m : mm_Mem} {Q : mm_O → mm_Mem → Prop} {r0 : Nat} {fs_1 : List Value} {q_4 : Nat} {b_6 : Nat} {b_7 : Nat} {m_9 : mm_Mem} {fs_10 : List Value} (g2 : m r0 = .inr (0, fs_1)) (z3 : r0 ≠ 0) (v5 : fs_1[1]? = some (.ref q_4)) (hb8 : b_6 + b_7 ≤ b) (g11 : m q_4 = .inr (2, fs_10)) (z12 : q_4 ≠ 0) (M13 : mm_W l G k_B_keep 0 (lv_args 0 [.ref q_4, .int 0]) [] b_6 m (mm_is (.inl none) m_9)) (h14 : Q (.inl none) m_9) : mm_W l G k_P_erase 0 [(0, .ref r0)] [] b m Q := by
  refine mm_aload_n 0 (i := 0) d_P_erase_0 rfl rfl ?_
  refine mm_get cc_P 1 (by decide) w_235 d_P_erase_1 g2 z3 v5 ?_
  refine mm_iconst d_P_erase_4 (v := 0) (by decide) ?_
  refine mm_callV (as := [.int 0]) (st := []) (b2 := b_7) ca_B_keep w_262 w_263 w_264 cc_B.1 rfl d_P_erase_5 rfl (Nat.le_of_ble_eq_true rfl) (Nat.le_of_ble_eq_true rfl) (Nat.le_of_ble_eq_true rfl) hb8 g11 z12 M13 (fun E _ ⟨c, _⟩ => nomatch c) (fun v _ ⟨c, e⟩ => ?_)
  cases c
  rw [e]
  show mm_W l G k_P_erase 8 [(0, .ref r0)] [] b_7 m_9 Q
  exact mm_vret d_P_erase_8 rfl h14
theorem t_P_add_0 {l : Launch} {G : mm_G} {b : Nat} {m : mm_Mem} {Q : mm_O → mm_Mem → Prop} {r0 : Nat} {b_1 : Nat} {b_2 : Nat} {P_4 : mm_O → mm_Mem → Prop} {fs_5 : List Value} (hb3 : b_1 + b_2 ≤ b) (g6 : m r0 = .inr (0, fs_5)) (z7 : r0 ≠ 0) (M8 : mm_W l G k_P_isTypedNameNew 0 (lv_args 0 [.ref r0]) [] b_1 m P_4) (hx9 : ∀ (E : String) (n_2 : mm_Mem), ¬ P_4 (.inr E) n_2) (h10 : ∀ (v : Option Value) (n_2 : mm_Mem), P_4 (.inl v) n_2 → ∃ x9 : Int32, v = some (.int x9) ∧ mm_W l G k_P_add 4 [(0, .ref r0)] [.int x9] b_2 n_2 Q) : mm_W l G k_P_add 0 [(0, .ref r0)] [] b m Q := by
  refine mm_aload_n 0 (i := 0) d_P_add_0 rfl rfl ?_
  refine mm_callV (as := []) (st := []) (b2 := b_2) ca_P_isTypedNameNew w_458 w_460 v_P_isTypedNameNew cc_P.1 rfl d_P_add_1 rfl (Nat.le_of_ble_eq_true rfl) (Nat.le_of_ble_eq_true rfl) (Nat.le_of_ble_eq_true rfl) hb3 g6 z7 M8 (fun E m2 q => absurd q (hx9 E m2)) (fun v m2 q => ?_)
  obtain ⟨x9, rfl, z9⟩ := h10 v m2 q
  exact mm_sub [0] rfl z9
theorem t_P_add_4 {l : Launch} {G : mm_G} {b : Nat} {m : mm_Mem} {Q : mm_O → mm_Mem → Prop} {r0 : Nat} {xs0 : Int32} (h1 : (¬ xs0 = 0) → mm_W l G k_P_add 17 [(0, .ref r0)] [] b m Q) (h2 : (xs0 = 0) → mm_W l G k_P_add 7 [] [] b m Q) : mm_W l G k_P_add 4 [(0, .ref r0)] [.int xs0] b m Q := by
  exact mm_if_ne (tgt := 17) d_P_add_4 (by decide) (fun c => mm_sub [0] rfl (h1 c)) (fun c => mm_sub [] rfl (h2 c))
theorem t_P_add_7 {l : Launch} {G : mm_G} {b : Nat} {m : mm_Mem} {Q : mm_O → mm_Mem → Prop}  (h1 : Q (.inr "java/lang/IllegalArgumentException") m) (hb2 : 7 ≤ b) : mm_W l G k_P_add 7 [] [] b m Q := by
  exact th_P_add_7 hb2 h1
theorem t_P_add_17 {l : Launch} {G : mm_G} {b : Nat} {m : mm_Mem} {Q : mm_O → mm_Mem → Prop} {r0 : Nat} {fs_1 : List Value} {q_4 : Nat} {b_6 : Nat} {b_7 : Nat} {m_9 : mm_Mem} {x_10 : Int32} {fs_11 : List Value} {fs_15 : List Value} {q_17 : Nat} {q_19 : Nat} {b_21 : Nat} {b_22 : Nat} {m_24 : mm_Mem} {x_25 : Int32} {fs_26 : List Value} {b_30 : Nat} {b_31 : Nat} {m_33 : mm_Mem} {x_34 : Int32} {fs_35 : List Value} {b_39 : Nat} {b_40 : Nat} {P_42 : mm_O → mm_Mem → Prop} {fs_43 : List Value} (g2 : m r0 = .inr (0, fs_1)) (z3 : r0 ≠ 0) (v5 : fs_1[0]? = some (.ref q_4)) (hb8 : b_6 + b_7 ≤ b) (g12 : m q_4 = .inr (2, fs_11)) (z13 : q_4 ≠ 0) (M14 : mm_W l G k_B_size 0 (lv_args 0 [.ref q_4]) [] b_6 m (mm_is (.inl (some (.int x_10))) m_9)) (g16 : m_9 r0 = .inr (0, fs_15)) (v18 : fs_15[2]? = some (.ref q_17)) (v20 : fs_15[0]? = some (.ref q_19)) (hb23 : b_21 + b_22 ≤ b_7) (g27 : m_9 q_19 = .inr (2, fs_26)) (z28 : q_19 ≠ 0) (M29 : mm_W l G k_B_size 0 (lv_args 0 [.ref q_19]) [] b_21 m_9 (mm_is (.inl (some (.int x_25))) m_24)) (hb32 : b_30 + b_31 ≤ b_22) (g36 : m_24 q_17 = .inr (3, fs_35)) (z37 : q_17 ≠ 0) (M38 : mm_W l G k_C_checkOf 0 (lv_args 0 [.ref q_17, .ref q_19, .int 0, .int x_25]) [] b_30 m_24 (mm_is (.inl (some (.int x_34))) m_33)) (hb41 : b_39 + b_40 ≤ b_31) (g44 : m_33 r0 = .inr (0, fs_43)) (M45 : mm_W l G k_P_enter 0 (lv_args 0 [.ref r0, .int 0, .int x_10, .int x_34]) [] b_39 m_33 P_42) (hx46 : ∀ (E : String) (n_2 : mm_Mem), P_42 (.inr E) n_2 → mm_WX l G k_P_add 45 [(0, .ref r0)] E b_40 n_2 Q) (h47 : ∀ (v : Option Value) (n_2 : mm_Mem), P_42 (.inl v) n_2 → ∃ x9 : Int32, v = some (.int x9) ∧ mm_W l G k_P_add 48 [] [.int x9] b_40 n_2 Q) : mm_W l G k_P_add 17 [(0, .ref r0)] [] b m Q := by
  refine mm_aload_n 0 (i := 0) d_P_add_17 rfl rfl ?_
  refine mm_iconst d_P_add_18 (v := 0) (by decide) ?_
  refine mm_aload_n 0 (i := 0) d_P_add_19 rfl rfl ?_
  refine mm_get cc_P 0 (by decide) w_234 d_P_add_20 g2 z3 v5 ?_
  refine mm_callV (as := []) (st := [.int 0, .ref r0]) (b2 := b_7) ca_B_size w_254 w_255 w_256 cc_B.1 rfl d_P_add_23 rfl (Nat.le_of_ble_eq_true rfl) (Nat.le_of_ble_eq_true rfl) (Nat.le_of_ble_eq_true rfl) hb8 g12 z13 M14 (fun E _ ⟨c, _⟩ => nomatch c) (fun v _ ⟨c, e⟩ => ?_)
  cases c
  rw [e]
  show mm_W l G k_P_add 26 [(0, .ref r0)] [.int x_10, .int 0, .ref r0] b_7 m_9 Q
  refine mm_aload_n 0 (i := 0) d_P_add_26 rfl rfl ?_
  refine mm_get cc_P 2 (by decide) w_236 d_P_add_27 g16 z3 v18 ?_
  refine mm_aload_n 0 (i := 0) d_P_add_30 rfl rfl ?_
  refine mm_get cc_P 0 (by decide) w_234 d_P_add_31 g16 z3 v20 ?_
  refine mm_iconst d_P_add_34 (v := 0) (by decide) ?_
  refine mm_aload_n 0 (i := 0) d_P_add_35 rfl rfl ?_
  refine mm_get cc_P 0 (by decide) w_234 d_P_add_36 g16 z3 v20 ?_
  refine mm_callV (as := []) (st := [.int 0, .ref q_19, .ref q_17, .int x_10, .int 0, .ref r0]) (b2 := b_22) ca_B_size w_254 w_255 w_256 cc_B.1 rfl d_P_add_39 rfl (Nat.le_of_ble_eq_true rfl) (Nat.le_of_ble_eq_true rfl) (Nat.le_of_ble_eq_true rfl) hb23 g27 z28 M29 (fun E _ ⟨c, _⟩ => nomatch c) (fun v _ ⟨c, e⟩ => ?_)
  cases c
  rw [e]
  show mm_W l G k_P_add 42 [(0, .ref r0)] [.int x_25, .int 0, .ref q_19, .ref q_17, .int x_10, .int 0, .ref r0] b_22 m_24 Q
  refine mm_callV (as := [.ref q_19, .int 0, .int x_25]) (st := [.int x_10, .int 0, .ref r0]) (b2 := b_31) ca_C_checkOf w_469 w_470 w_471 cc_C.1 rfl d_P_add_42 rfl (Nat.le_of_ble_eq_true rfl) (Nat.le_of_ble_eq_true rfl) (Nat.le_of_ble_eq_true rfl) hb32 g36 z37 M38 (fun E _ ⟨c, _⟩ => nomatch c) (fun v _ ⟨c, e⟩ => ?_)
  cases c
  rw [e]
  show mm_W l G k_P_add 45 [(0, .ref r0)] [.int x_34, .int x_10, .int 0, .ref r0] b_31 m_33 Q
  refine mm_callV (as := [.int 0, .int x_10, .int x_34]) (st := []) (b2 := b_40) ca_P_enter w_474 w_476 v_P_enter cc_P.1 rfl d_P_add_45 rfl (Nat.le_of_ble_eq_true rfl) (Nat.le_of_ble_eq_true rfl) (Nat.le_of_ble_eq_true rfl) hb41 g44 z3 M45 (fun E m2 q => hx46 E m2 q) (fun v m2 q => ?_)
  obtain ⟨x9, rfl, z9⟩ := h47 v m2 q
  exact mm_sub [] rfl z9
theorem t_P_add_48 {l : Launch} {G : mm_G} {b : Nat} {m : mm_Mem} {Q : mm_O → mm_Mem → Prop} {xs0 : Int32} (h1 : Q (.inl (some (.int xs0))) m) : mm_W l G k_P_add 48 [] [.int xs0] b m Q := by
  exact mm_iret d_P_add_48 rfl h1
theorem t_P_addPacked_0 {l : Launch} {G : mm_G} {b : Nat} {m : mm_Mem} {Q : mm_O → mm_Mem → Prop} {r0 : Nat} {x1 : Int32} {x2 : Int32} {b_1 : Nat} {b_2 : Nat} {P_4 : mm_O → mm_Mem → Prop} {fs_5 : List Value} (hb3 : b_1 + b_2 ≤ b) (g6 : m r0 = .inr (0, fs_5)) (z7 : r0 ≠ 0) (M8 : mm_W l G k_P_isTypedNameNew 0 (lv_args 0 [.ref r0]) [] b_1 m P_4) (hx9 : ∀ (E : String) (n_2 : mm_Mem), ¬ P_4 (.inr E) n_2) (h10 : ∀ (v : Option Value) (n_2 : mm_Mem), P_4 (.inl v) n_2 → ∃ x9 : Int32, v = some (.int x9) ∧ mm_W l G k_P_addPacked 4 [(0, .ref r0), (1, .int x1), (2, .int x2)] [.int x9] b_2 n_2 Q) : mm_W l G k_P_addPacked 0 [(0, .ref r0), (1, .int x1), (2, .int x2)] [] b m Q := by
  refine mm_aload_n 0 (i := 0) d_P_addPacked_0 rfl rfl ?_
  refine mm_callV (as := []) (st := []) (b2 := b_2) ca_P_isTypedNameNew w_458 w_460 v_P_isTypedNameNew cc_P.1 rfl d_P_addPacked_1 rfl (Nat.le_of_ble_eq_true rfl) (Nat.le_of_ble_eq_true rfl) (Nat.le_of_ble_eq_true rfl) hb3 g6 z7 M8 (fun E m2 q => absurd q (hx9 E m2)) (fun v m2 q => ?_)
  obtain ⟨x9, rfl, z9⟩ := h10 v m2 q
  exact mm_sub [0, 1, 2] rfl z9
theorem t_P_addPacked_4 {l : Launch} {G : mm_G} {b : Nat} {m : mm_Mem} {Q : mm_O → mm_Mem → Prop} {r0 : Nat} {x1 : Int32} {x2 : Int32} {xs0 : Int32} (h1 : (xs0 = 0) → mm_W l G k_P_addPacked 11 [] [] b m Q) (h2 : (¬ xs0 = 0) → mm_W l G k_P_addPacked 7 [(0, .ref r0), (1, .int x1), (2, .int x2)] [] b m Q) : mm_W l G k_P_addPacked 4 [(0, .ref r0), (1, .int x1), (2, .int x2)] [.int xs0] b m Q := by
  exact mm_if_eq (tgt := 11) d_P_addPacked_4 (by decide) (fun c => mm_sub [] rfl (h1 c)) (fun c => mm_sub [0, 1, 2] rfl (h2 c))
theorem t_P_addPacked_7 {l : Launch} {G : mm_G} {b : Nat} {m : mm_Mem} {Q : mm_O → mm_Mem → Prop} {r0 : Nat} {x1 : Int32} {x2 : Int32} (h1 : (0 ≤ x1) → mm_W l G k_P_addPacked 21 [(0, .ref r0), (1, .int x1), (2, .int x2)] [] b m Q) (h2 : (¬ 0 ≤ x1) → mm_W l G k_P_addPacked 11 [] [] b m Q) : mm_W l G k_P_addPacked 7 [(0, .ref r0), (1, .int x1), (2, .int x2)] [] b m Q := by
  refine mm_iload_n 1 (i := 1) d_P_addPacked_7 rfl rfl ?_
  exact mm_if_ge (tgt := 21) d_P_addPacked_8 (by decide) (fun c => mm_sub [0, 1, 2] rfl (h1 c)) (fun c => mm_sub [] rfl (h2 c))
theorem t_P_addPacked_11 {l : Launch} {G : mm_G} {b : Nat} {m : mm_Mem} {Q : mm_O → mm_Mem → Prop}  (h1 : Q (.inr "java/lang/IllegalArgumentException") m) (hb2 : 7 ≤ b) : mm_W l G k_P_addPacked 11 [] [] b m Q := by
  exact th_P_addPacked_11 hb2 h1
theorem t_P_addPacked_21 {l : Launch} {G : mm_G} {b : Nat} {m : mm_Mem} {Q : mm_O → mm_Mem → Prop} {r0 : Nat} {x1 : Int32} {x2 : Int32} {b_1 : Nat} {b_2 : Nat} {P_4 : mm_O → mm_Mem → Prop} {fs_5 : List Value} (hb3 : b_1 + b_2 ≤ b) (g6 : m r0 = .inr (0, fs_5)) (z7 : r0 ≠ 0) (M8 : mm_W l G k_P_enter 0 (lv_args 0 [.ref r0, .int 8, .int x1, .int x2]) [] b_1 m P_4) (hx9 : ∀ (E : String) (n_2 : mm_Mem), P_4 (.inr E) n_2 → mm_WX l G k_P_addPacked 26 [(0, .ref r0), (1, .int x1), (2, .int x2)] E b_2 n_2 Q) (h10 : ∀ (v : Option Value) (n_2 : mm_Mem), P_4 (.inl v) n_2 → ∃ x9 : Int32, v = some (.int x9) ∧ mm_W l G k_P_addPacked 29 [] [.int x9] b_2 n_2 Q) : mm_W l G k_P_addPacked 21 [(0, .ref r0), (1, .int x1), (2, .int x2)] [] b m Q := by
  refine mm_aload_n 0 (i := 0) d_P_addPacked_21 rfl rfl ?_
  refine mm_bipush d_P_addPacked_22 (v := 8) (by decide) ?_
  refine mm_iload_n 1 (i := 1) d_P_addPacked_24 rfl rfl ?_
  refine mm_iload_n 2 (i := 2) d_P_addPacked_25 rfl rfl ?_
  refine mm_callV (as := [.int 8, .int x1, .int x2]) (st := []) (b2 := b_2) ca_P_enter w_474 w_476 v_P_enter cc_P.1 rfl d_P_addPacked_26 rfl (Nat.le_of_ble_eq_true rfl) (Nat.le_of_ble_eq_true rfl) (Nat.le_of_ble_eq_true rfl) hb3 g6 z7 M8 (fun E m2 q => hx9 E m2 q) (fun v m2 q => ?_)
  obtain ⟨x9, rfl, z9⟩ := h10 v m2 q
  exact mm_sub [] rfl z9
theorem t_P_addPacked_29 {l : Launch} {G : mm_G} {b : Nat} {m : mm_Mem} {Q : mm_O → mm_Mem → Prop} {xs0 : Int32} (h1 : Q (.inl (some (.int xs0))) m) : mm_W l G k_P_addPacked 29 [] [.int xs0] b m Q := by
  exact mm_iret d_P_addPacked_29 rfl h1
theorem t_P_remove_0 {l : Launch} {G : mm_G} {b : Nat} {m : mm_Mem} {Q : mm_O → mm_Mem → Prop} {r0 : Nat} {x1 : Int32} {fs_1 : List Value} {q_4 : Nat} {b_6 : Nat} {b_7 : Nat} {m_9 : mm_Mem} {x_10 : Int32} {fs_11 : List Value} (g2 : m r0 = .inr (0, fs_1)) (z3 : r0 ≠ 0) (v5 : fs_1[3]? = some (.ref q_4)) (hb8 : b_6 + b_7 ≤ b) (g12 : m q_4 = .inr (1, fs_11)) (z13 : q_4 ≠ 0) (M14 : mm_W l G k_X_has 0 (lv_args 0 [.ref q_4, .int x1]) [] b_6 m (mm_is (.inl (some (.int x_10))) m_9)) (h15 : (¬ x_10 = 0) → mm_W l G k_P_remove 21 [(0, .ref r0), (1, .int x1)] [] b_7 m_9 Q) (h16 : (x_10 = 0) → mm_W l G k_P_remove 11 [] [] b_7 m_9 Q) : mm_W l G k_P_remove 0 [(0, .ref r0), (1, .int x1)] [] b m Q := by
  refine mm_aload_n 0 (i := 0) d_P_remove_0 rfl rfl ?_
  refine mm_get cc_P 3 (by decide) w_237 d_P_remove_1 g2 z3 v5 ?_
  refine mm_iload_n 1 (i := 1) d_P_remove_4 rfl rfl ?_
  refine mm_callV (as := [.int x1]) (st := []) (b2 := b_7) ca_X_has w_517 w_518 w_519 cc_X.1 rfl d_P_remove_5 rfl (Nat.le_of_ble_eq_true rfl) (Nat.le_of_ble_eq_true rfl) (Nat.le_of_ble_eq_true rfl) hb8 g12 z13 M14 (fun E _ ⟨c, _⟩ => nomatch c) (fun v _ ⟨c, e⟩ => ?_)
  cases c
  rw [e]
  show mm_W l G k_P_remove 8 [(0, .ref r0), (1, .int x1)] [.int x_10] b_7 m_9 Q
  exact mm_if_ne (tgt := 21) d_P_remove_8 (by decide) (fun c => mm_sub [0, 1] rfl (h15 c)) (fun c => mm_sub [] rfl (h16 c))
theorem t_P_remove_11 {l : Launch} {G : mm_G} {b : Nat} {m : mm_Mem} {Q : mm_O → mm_Mem → Prop}  (h1 : Q (.inr "java/lang/IndexOutOfBoundsException") m) (hb2 : 7 ≤ b) : mm_W l G k_P_remove 11 [] [] b m Q := by
  exact th_P_remove_11 hb2 h1
theorem t_P_remove_21 {l : Launch} {G : mm_G} {b : Nat} {m : mm_Mem} {Q : mm_O → mm_Mem → Prop} {r0 : Nat} {x1 : Int32} {fs_1 : List Value} {q_4 : Nat} {b_6 : Nat} {b_7 : Nat} {P_9 : mm_O → mm_Mem → Prop} {fs_10 : List Value} (g2 : m r0 = .inr (0, fs_1)) (z3 : r0 ≠ 0) (v5 : fs_1[3]? = some (.ref q_4)) (hb8 : b_6 + b_7 ≤ b) (g11 : m q_4 = .inr (1, fs_10)) (z12 : q_4 ≠ 0) (M13 : mm_W l G k_X_drop 0 (lv_args 0 [.ref q_4, .int x1]) [] b_6 m P_9) (hx14 : ∀ (E : String) (n_2 : mm_Mem), ¬ P_9 (.inr E) n_2) (h15 : ∀ (v : Option Value) (n_2 : mm_Mem), P_9 (.inl v) n_2 → v = none ∧ mm_W l G k_P_remove 29 [] [] b_7 n_2 Q) : mm_W l G k_P_remove 21 [(0, .ref r0), (1, .int x1)] [] b m Q := by
  refine mm_aload_n 0 (i := 0) d_P_remove_21 rfl rfl ?_
  refine mm_get cc_P 3 (by decide) w_237 d_P_remove_22 g2 z3 v5 ?_
  refine mm_iload_n 1 (i := 1) d_P_remove_25 rfl rfl ?_
  refine mm_callV (as := [.int x1]) (st := []) (b2 := b_7) ca_X_drop w_522 w_523 w_524 cc_X.1 rfl d_P_remove_26 rfl (Nat.le_of_ble_eq_true rfl) (Nat.le_of_ble_eq_true rfl) (Nat.le_of_ble_eq_true rfl) hb8 g11 z12 M13 (fun E m2 q => absurd q (hx14 E m2)) (fun v m2 q => ?_)
  obtain ⟨rfl, z9⟩ := h15 v m2 q
  exact mm_sub [] rfl z9
theorem t_P_remove_29 {l : Launch} {G : mm_G} {b : Nat} {m : mm_Mem} {Q : mm_O → mm_Mem → Prop}  (h1 : Q (.inl none) m) : mm_W l G k_P_remove 29 [] [] b m Q := by
  exact mm_vret d_P_remove_29 rfl h1
theorem t_P_move_0 {l : Launch} {G : mm_G} {b : Nat} {m : mm_Mem} {Q : mm_O → mm_Mem → Prop} {r0 : Nat} {x1 : Int32} {x2 : Int32} {fs_1 : List Value} {q_4 : Nat} {b_6 : Nat} {b_7 : Nat} {m_9 : mm_Mem} {x_10 : Int32} {fs_11 : List Value} (g2 : m r0 = .inr (0, fs_1)) (z3 : r0 ≠ 0) (v5 : fs_1[3]? = some (.ref q_4)) (hb8 : b_6 + b_7 ≤ b) (g12 : m q_4 = .inr (1, fs_11)) (z13 : q_4 ≠ 0) (M14 : mm_W l G k_X_has 0 (lv_args 0 [.ref q_4, .int x1]) [] b_6 m (mm_is (.inl (some (.int x_10))) m_9)) (h15 : (x_10 = 0) → mm_W l G k_P_move 22 [] [] b_7 m_9 Q) (h16 : (¬ x_10 = 0) → mm_W l G k_P_move 11 [(0, .ref r0), (1, .int x1), (2, .int x2)] [] b_7 m_9 Q) : mm_W l G k_P_move 0 [(0, .ref r0), (1, .int x1), (2, .int x2)] [] b m Q := by
  refine mm_aload_n 0 (i := 0) d_P_move_0 rfl rfl ?_
  refine mm_get cc_P 3 (by decide) w_237 d_P_move_1 g2 z3 v5 ?_
  refine mm_iload_n 1 (i := 1) d_P_move_4 rfl rfl ?_
  refine mm_callV (as := [.int x1]) (st := []) (b2 := b_7) ca_X_has w_517 w_518 w_519 cc_X.1 rfl d_P_move_5 rfl (Nat.le_of_ble_eq_true rfl) (Nat.le_of_ble_eq_true rfl) (Nat.le_of_ble_eq_true rfl) hb8 g12 z13 M14 (fun E _ ⟨c, _⟩ => nomatch c) (fun v _ ⟨c, e⟩ => ?_)
  cases c
  rw [e]
  show mm_W l G k_P_move 8 [(0, .ref r0), (1, .int x1), (2, .int x2)] [.int x_10] b_7 m_9 Q
  exact mm_if_eq (tgt := 22) d_P_move_8 (by decide) (fun c => mm_sub [] rfl (h15 c)) (fun c => mm_sub [0, 1, 2] rfl (h16 c))
theorem t_P_move_11 {l : Launch} {G : mm_G} {b : Nat} {m : mm_Mem} {Q : mm_O → mm_Mem → Prop} {r0 : Nat} {x1 : Int32} {x2 : Int32} {fs_1 : List Value} {q_4 : Nat} {b_6 : Nat} {b_7 : Nat} {m_9 : mm_Mem} {x_10 : Int32} {fs_11 : List Value} (g2 : m r0 = .inr (0, fs_1)) (z3 : r0 ≠ 0) (v5 : fs_1[3]? = some (.ref q_4)) (hb8 : b_6 + b_7 ≤ b) (g12 : m q_4 = .inr (1, fs_11)) (z13 : q_4 ≠ 0) (M14 : mm_W l G k_X_has 0 (lv_args 0 [.ref q_4, .int x2]) [] b_6 m (mm_is (.inl (some (.int x_10))) m_9)) (h15 : (¬ x_10 = 0) → mm_W l G k_P_move 32 [(0, .ref r0), (1, .int x1), (2, .int x2)] [] b_7 m_9 Q) (h16 : (x_10 = 0) → mm_W l G k_P_move 22 [] [] b_7 m_9 Q) : mm_W l G k_P_move 11 [(0, .ref r0), (1, .int x1), (2, .int x2)] [] b m Q := by
  refine mm_aload_n 0 (i := 0) d_P_move_11 rfl rfl ?_
  refine mm_get cc_P 3 (by decide) w_237 d_P_move_12 g2 z3 v5 ?_
  refine mm_iload_n 2 (i := 2) d_P_move_15 rfl rfl ?_
  refine mm_callV (as := [.int x2]) (st := []) (b2 := b_7) ca_X_has w_517 w_518 w_519 cc_X.1 rfl d_P_move_16 rfl (Nat.le_of_ble_eq_true rfl) (Nat.le_of_ble_eq_true rfl) (Nat.le_of_ble_eq_true rfl) hb8 g12 z13 M14 (fun E _ ⟨c, _⟩ => nomatch c) (fun v _ ⟨c, e⟩ => ?_)
  cases c
  rw [e]
  show mm_W l G k_P_move 19 [(0, .ref r0), (1, .int x1), (2, .int x2)] [.int x_10] b_7 m_9 Q
  exact mm_if_ne (tgt := 32) d_P_move_19 (by decide) (fun c => mm_sub [0, 1, 2] rfl (h15 c)) (fun c => mm_sub [] rfl (h16 c))
theorem t_P_move_22 {l : Launch} {G : mm_G} {b : Nat} {m : mm_Mem} {Q : mm_O → mm_Mem → Prop}  (h1 : Q (.inr "java/lang/IndexOutOfBoundsException") m) (hb2 : 7 ≤ b) : mm_W l G k_P_move 22 [] [] b m Q := by
  exact th_P_move_22 hb2 h1
theorem t_P_move_32 {l : Launch} {G : mm_G} {b : Nat} {m : mm_Mem} {Q : mm_O → mm_Mem → Prop} {r0 : Nat} {x1 : Int32} {x2 : Int32} {fs_1 : List Value} {q_4 : Nat} {b_6 : Nat} {b_7 : Nat} {m_9 : mm_Mem} {fs_10 : List Value} (g2 : m r0 = .inr (0, fs_1)) (z3 : r0 ≠ 0) (v5 : fs_1[3]? = some (.ref q_4)) (hb8 : b_6 + b_7 ≤ b) (g11 : m q_4 = .inr (1, fs_10)) (z12 : q_4 ≠ 0) (M13 : mm_W l G k_X_shift 0 (lv_args 0 [.ref q_4, .int x1, .int x2]) [] b_6 m (mm_is (.inl none) m_9)) (h14 : Q (.inl none) m_9) : mm_W l G k_P_move 32 [(0, .ref r0), (1, .int x1), (2, .int x2)] [] b m Q := by
  refine mm_aload_n 0 (i := 0) d_P_move_32 rfl rfl ?_
  refine mm_get cc_P 3 (by decide) w_237 d_P_move_33 g2 z3 v5 ?_
  refine mm_iload_n 1 (i := 1) d_P_move_36 rfl rfl ?_
  refine mm_iload_n 2 (i := 2) d_P_move_37 rfl rfl ?_
  refine mm_callV (as := [.int x1, .int x2]) (st := []) (b2 := b_7) ca_X_shift w_542 w_532 w_533 cc_X.1 rfl d_P_move_38 rfl (Nat.le_of_ble_eq_true rfl) (Nat.le_of_ble_eq_true rfl) (Nat.le_of_ble_eq_true rfl) hb8 g11 z12 M13 (fun E _ ⟨c, _⟩ => nomatch c) (fun v _ ⟨c, e⟩ => ?_)
  cases c
  rw [e]
  show mm_W l G k_P_move 41 [(0, .ref r0), (1, .int x1), (2, .int x2)] [] b_7 m_9 Q
  exact mm_vret d_P_move_41 rfl h14
theorem t_P_find_0 {l : Launch} {G : mm_G} {b : Nat} {m : mm_Mem} {Q : mm_O → mm_Mem → Prop} {r0 : Nat} {fs_1 : List Value} {q_4 : Nat} {q_6 : Nat} {b_8 : Nat} {b_9 : Nat} {m_11 : mm_Mem} {x_12 : Int32} {fs_13 : List Value} (g2 : m r0 = .inr (0, fs_1)) (z3 : r0 ≠ 0) (v5 : fs_1[3]? = some (.ref q_4)) (v7 : fs_1[1]? = some (.ref q_6)) (hb10 : b_8 + b_9 ≤ b) (g14 : m q_4 = .inr (1, fs_13)) (z15 : q_4 ≠ 0) (M16 : mm_W l G k_X_numberOf 0 (lv_args 0 [.ref q_4, .ref q_6]) [] b_8 m (mm_is (.inl (some (.int x_12))) m_11)) (h17 : Q (.inl (some (.int x_12))) m_11) : mm_W l G k_P_find 0 [(0, .ref r0)] [] b m Q := by
  refine mm_aload_n 0 (i := 0) d_P_find_0 rfl rfl ?_
  refine mm_get cc_P 3 (by decide) w_237 d_P_find_1 g2 z3 v5 ?_
  refine mm_aload_n 0 (i := 0) d_P_find_4 rfl rfl ?_
  refine mm_get cc_P 1 (by decide) w_235 d_P_find_5 g2 z3 v7 ?_
  refine mm_callV (as := [.ref q_6]) (st := []) (b2 := b_9) ca_X_numberOf w_270 w_271 w_272 cc_X.1 rfl d_P_find_8 rfl (Nat.le_of_ble_eq_true rfl) (Nat.le_of_ble_eq_true rfl) (Nat.le_of_ble_eq_true rfl) hb10 g14 z15 M16 (fun E _ ⟨c, _⟩ => nomatch c) (fun v _ ⟨c, e⟩ => ?_)
  cases c
  rw [e]
  show mm_W l G k_P_find 11 [(0, .ref r0)] [.int x_12] b_9 m_11 Q
  exact mm_iret d_P_find_11 rfl h17
theorem t_P_about_0 {l : Launch} {G : mm_G} {b : Nat} {m : mm_Mem} {Q : mm_O → mm_Mem → Prop} {r0 : Nat} {x1 : Int32} {x2 : Int32} {fs_1 : List Value} {q_4 : Nat} {b_6 : Nat} {b_7 : Nat} {m_9 : mm_Mem} {w_10 : Value} {fs_11 : List Value} (g2 : m r0 = .inr (0, fs_1)) (z3 : r0 ≠ 0) (v5 : fs_1[3]? = some (.ref q_4)) (hb8 : b_6 + b_7 ≤ b) (g12 : m q_4 = .inr (1, fs_11)) (z13 : q_4 ≠ 0) (M14 : mm_W l G k_X_pick 0 (lv_args 0 [.ref q_4, .int x1]) [] b_6 m (mm_is (.inl (some (w_10))) m_9)) (hw15 : w_10 = .null ∨ ∃ r, w_10 = .ref r) (h16 : (∀ r, w_10 = .ref r → mm_W l G k_P_about 23 [(2, .int x2), (3, w_10)] [] b_7 m_9 Q)) (h17 : (w_10 = .null → mm_W l G k_P_about 13 [] [] b_7 m_9 Q)) : mm_W l G k_P_about 0 [(0, .ref r0), (1, .int x1), (2, .int x2)] [] b m Q := by
  refine mm_aload_n 0 (i := 0) d_P_about_0 rfl rfl ?_
  refine mm_get cc_P 3 (by decide) w_237 d_P_about_1 g2 z3 v5 ?_
  refine mm_iload_n 1 (i := 1) d_P_about_4 rfl rfl ?_
  refine mm_callV (as := [.int x1]) (st := []) (b2 := b_7) ca_X_pick w_550 w_551 w_552 cc_X.1 rfl d_P_about_5 rfl (Nat.le_of_ble_eq_true rfl) (Nat.le_of_ble_eq_true rfl) (Nat.le_of_ble_eq_true rfl) hb8 g12 z13 M14 (fun E _ ⟨c, _⟩ => nomatch c) (fun v _ ⟨c, e⟩ => ?_)
  cases c
  rw [e]
  show mm_W l G k_P_about 8 [(0, .ref r0), (1, .int x1), (2, .int x2)] [w_10] b_7 m_9 Q
  refine mm_astore_nV (i := 3) d_P_about_8 rfl (Nat.le_of_ble_eq_true rfl) (lv2 := [(3, w_10), (0, .ref r0), (1, .int x1), (2, .int x2)]) rfl hw15 ?_
  refine mm_aload_nV 0 (i := 3) d_P_about_9 rfl rfl hw15 ?_
  exact mm_ifnonnullV (tgt := 23) d_P_about_10 (by decide) hw15 (fun r c => mm_sub [3, 0] rfl (h16 r c)) (fun c => mm_sub [] rfl (h17 c))
theorem t_P_about_13 {l : Launch} {G : mm_G} {b : Nat} {m : mm_Mem} {Q : mm_O → mm_Mem → Prop}  (h1 : Q (.inr "java/lang/IndexOutOfBoundsException") m) (hb2 : 7 ≤ b) : mm_W l G k_P_about 13 [] [] b m Q := by
  exact th_P_about_13 hb2 h1
theorem t_P_about_23 {l : Launch} {G : mm_G} {b : Nat} {m : mm_Mem} {Q : mm_O → mm_Mem → Prop} {x2 : Int32} {w3 : Value} (h1 : (x2 = 0) → mm_W l G k_P_about 60 [(3, w3)] [] b m Q) (h2 : (x2 = 1) → mm_W l G k_P_about 65 [(3, w3)] [] b m Q) (h3 : (x2 = 2) → mm_W l G k_P_about 70 [(3, w3)] [] b m Q) (h4 : (x2 = 3) → mm_W l G k_P_about 75 [(3, w3)] [] b m Q) (h5 : (x2 = 4) → mm_W l G k_P_about 80 [(3, w3)] [] b m Q) (h6 : (x2.toInt < 0 ∨ 4 < x2.toInt) → mm_W l G k_P_about 88 [] [] b m Q) : mm_W l G k_P_about 23 [(2, .int x2), (3, w3)] [] b m Q := by
  refine mm_iload_n 0 (i := 2) d_P_about_23 rfl rfl ?_
  by_cases c0 : x2.toInt < 0 ∨ 4 < x2.toInt
  · exact mm_tableOut (tgt := 88) d_P_about_24 c0 (by decide) (mm_sub [] rfl (h6 c0))
  by_cases c1 : x2 = 0
  · exact mm_tableIn (tgt := 60) d_P_about_24 (by rw [c1]; decide) (by rw [c1]; decide) (by rw [c1]; rfl) (by decide) (mm_sub [1] rfl (h1 c1))
  by_cases c2 : x2 = 1
  · exact mm_tableIn (tgt := 65) d_P_about_24 (by rw [c2]; decide) (by rw [c2]; decide) (by rw [c2]; rfl) (by decide) (mm_sub [1] rfl (h2 c2))
  by_cases c3 : x2 = 2
  · exact mm_tableIn (tgt := 70) d_P_about_24 (by rw [c3]; decide) (by rw [c3]; decide) (by rw [c3]; rfl) (by decide) (mm_sub [1] rfl (h3 c3))
  by_cases c4 : x2 = 3
  · exact mm_tableIn (tgt := 75) d_P_about_24 (by rw [c4]; decide) (by rw [c4]; decide) (by rw [c4]; rfl) (by decide) (mm_sub [1] rfl (h4 c4))
  by_cases c5 : x2 = 4
  · exact mm_tableIn (tgt := 80) d_P_about_24 (by rw [c5]; decide) (by rw [c5]; decide) (by rw [c5]; rfl) (by decide) (mm_sub [1] rfl (h5 c5))
  exfalso
  have e0 : ∀ k : Int32, ¬ x2 = k → ¬ x2.toInt = k.toInt := fun k c e => c (Int32.toInt_inj.mp e)
  have e1 : ¬ x2.toInt = 0 := e0 0 c1
  have e2 : ¬ x2.toInt = 1 := e0 1 c2
  have e3 : ¬ x2.toInt = 2 := e0 2 c3
  have e4 : ¬ x2.toInt = 3 := e0 3 c4
  have e5 : ¬ x2.toInt = 4 := e0 4 c5
  omega
theorem t_P_about_60 {l : Launch} {G : mm_G} {b : Nat} {m : mm_Mem} {Q : mm_O → mm_Mem → Prop} {r3 : Nat} {fs_1 : List Value} {u_4 : Int32} (g2 : m r3 = .inr (4, fs_1)) (z3 : r3 ≠ 0) (v5 : fs_1[1]? = some (.int u_4)) (h6 : Q (.inl (some (.int u_4))) m) : mm_W l G k_P_about 60 [(3, .ref r3)] [] b m Q := by
  refine mm_aload_n 0 (i := 3) d_P_about_60 rfl rfl ?_
  refine mm_getN cc_E 1 (by decide) nw_77 d_P_about_61 g2 z3 v5 ?_
  exact mm_iret d_P_about_64 rfl h6
theorem t_P_about_65 {l : Launch} {G : mm_G} {b : Nat} {m : mm_Mem} {Q : mm_O → mm_Mem → Prop} {r3 : Nat} {fs_1 : List Value} {u_4 : Int32} (g2 : m r3 = .inr (4, fs_1)) (z3 : r3 ≠ 0) (v5 : fs_1[3]? = some (.int u_4)) (h6 : Q (.inl (some (.int u_4))) m) : mm_W l G k_P_about 65 [(3, .ref r3)] [] b m Q := by
  refine mm_aload_n 0 (i := 3) d_P_about_65 rfl rfl ?_
  refine mm_getN cc_E 3 (by decide) nw_82 d_P_about_66 g2 z3 v5 ?_
  exact mm_iret d_P_about_69 rfl h6
theorem t_P_about_70 {l : Launch} {G : mm_G} {b : Nat} {m : mm_Mem} {Q : mm_O → mm_Mem → Prop} {r3 : Nat} {fs_1 : List Value} {u_4 : Int32} (g2 : m r3 = .inr (4, fs_1)) (z3 : r3 ≠ 0) (v5 : fs_1[4]? = some (.int u_4)) (h6 : Q (.inl (some (.int u_4))) m) : mm_W l G k_P_about 70 [(3, .ref r3)] [] b m Q := by
  refine mm_aload_n 0 (i := 3) d_P_about_70 rfl rfl ?_
  refine mm_getN cc_E 4 (by decide) nw_84 d_P_about_71 g2 z3 v5 ?_
  exact mm_iret d_P_about_74 rfl h6
theorem t_P_about_75 {l : Launch} {G : mm_G} {b : Nat} {m : mm_Mem} {Q : mm_O → mm_Mem → Prop} {r3 : Nat} {fs_1 : List Value} {u_4 : Int32} (g2 : m r3 = .inr (4, fs_1)) (z3 : r3 ≠ 0) (v5 : fs_1[5]? = some (.int u_4)) (h6 : Q (.inl (some (.int u_4))) m) : mm_W l G k_P_about 75 [(3, .ref r3)] [] b m Q := by
  refine mm_aload_n 0 (i := 3) d_P_about_75 rfl rfl ?_
  refine mm_getN cc_E 5 (by decide) nw_87 d_P_about_76 g2 z3 v5 ?_
  exact mm_iret d_P_about_79 rfl h6
theorem t_P_about_80 {l : Launch} {G : mm_G} {b : Nat} {m : mm_Mem} {Q : mm_O → mm_Mem → Prop} {r3 : Nat} {fs_1 : List Value} {q_4 : Nat} {b_6 : Nat} {b_7 : Nat} {m_9 : mm_Mem} {x_10 : Int32} {fs_11 : List Value} (g2 : m r3 = .inr (4, fs_1)) (z3 : r3 ≠ 0) (v5 : fs_1[0]? = some (.ref q_4)) (hb8 : b_6 + b_7 ≤ b) (g12 : m q_4 = .inr (2, fs_11)) (z13 : q_4 ≠ 0) (M14 : mm_W l G k_B_size 0 (lv_args 0 [.ref q_4]) [] b_6 m (mm_is (.inl (some (.int x_10))) m_9)) (h15 : Q (.inl (some (.int x_10))) m_9) : mm_W l G k_P_about 80 [(3, .ref r3)] [] b m Q := by
  refine mm_aload_n 0 (i := 3) d_P_about_80 rfl rfl ?_
  refine mm_getN cc_E 0 (by decide) nw_75 d_P_about_81 g2 z3 v5 ?_
  refine mm_callV (as := []) (st := []) (b2 := b_7) ca_B_size w_254 w_255 w_256 cc_B.1 rfl d_P_about_84 rfl (Nat.le_of_ble_eq_true rfl) (Nat.le_of_ble_eq_true rfl) (Nat.le_of_ble_eq_true rfl) hb8 g12 z13 M14 (fun E _ ⟨c, _⟩ => nomatch c) (fun v _ ⟨c, e⟩ => ?_)
  cases c
  rw [e]
  show mm_W l G k_P_about 87 [(3, .ref r3)] [.int x_10] b_7 m_9 Q
  exact mm_iret d_P_about_87 rfl h15
theorem t_P_about_88 {l : Launch} {G : mm_G} {b : Nat} {m : mm_Mem} {Q : mm_O → mm_Mem → Prop}  (h1 : Q (.inr "java/lang/IllegalArgumentException") m) (hb2 : 7 ≤ b) : mm_W l G k_P_about 88 [] [] b m Q := by
  exact th_P_about_88 hb2 h1
theorem t_P_name_0 {l : Launch} {G : mm_G} {b : Nat} {m : mm_Mem} {Q : mm_O → mm_Mem → Prop} {r0 : Nat} {x1 : Int32} {x2 : Int32} {fs_1 : List Value} {q_4 : Nat} {b_6 : Nat} {b_7 : Nat} {m_9 : mm_Mem} {w_10 : Value} {fs_11 : List Value} (g2 : m r0 = .inr (0, fs_1)) (z3 : r0 ≠ 0) (v5 : fs_1[3]? = some (.ref q_4)) (hb8 : b_6 + b_7 ≤ b) (g12 : m q_4 = .inr (1, fs_11)) (z13 : q_4 ≠ 0) (M14 : mm_W l G k_X_pick 0 (lv_args 0 [.ref q_4, .int x1]) [] b_6 m (mm_is (.inl (some (w_10))) m_9)) (hw15 : w_10 = .null ∨ ∃ r, w_10 = .ref r) (h16 : (∀ r, w_10 = .ref r → mm_W l G k_P_name 23 [(2, .int x2), (3, w_10)] [] b_7 m_9 Q)) (h17 : (w_10 = .null → mm_W l G k_P_name 13 [] [] b_7 m_9 Q)) : mm_W l G k_P_name 0 [(0, .ref r0), (1, .int x1), (2, .int x2)] [] b m Q := by
  refine mm_aload_n 0 (i := 0) d_P_name_0 rfl rfl ?_
  refine mm_get cc_P 3 (by decide) w_237 d_P_name_1 g2 z3 v5 ?_
  refine mm_iload_n 1 (i := 1) d_P_name_4 rfl rfl ?_
  refine mm_callV (as := [.int x1]) (st := []) (b2 := b_7) ca_X_pick w_550 w_551 w_552 cc_X.1 rfl d_P_name_5 rfl (Nat.le_of_ble_eq_true rfl) (Nat.le_of_ble_eq_true rfl) (Nat.le_of_ble_eq_true rfl) hb8 g12 z13 M14 (fun E _ ⟨c, _⟩ => nomatch c) (fun v _ ⟨c, e⟩ => ?_)
  cases c
  rw [e]
  show mm_W l G k_P_name 8 [(0, .ref r0), (1, .int x1), (2, .int x2)] [w_10] b_7 m_9 Q
  refine mm_astore_nV (i := 3) d_P_name_8 rfl (Nat.le_of_ble_eq_true rfl) (lv2 := [(3, w_10), (0, .ref r0), (1, .int x1), (2, .int x2)]) rfl hw15 ?_
  refine mm_aload_nV 0 (i := 3) d_P_name_9 rfl rfl hw15 ?_
  exact mm_ifnonnullV (tgt := 23) d_P_name_10 (by decide) hw15 (fun r c => mm_sub [3, 0] rfl (h16 r c)) (fun c => mm_sub [] rfl (h17 c))
theorem t_P_name_13 {l : Launch} {G : mm_G} {b : Nat} {m : mm_Mem} {Q : mm_O → mm_Mem → Prop}  (h1 : Q (.inr "java/lang/IndexOutOfBoundsException") m) (hb2 : 7 ≤ b) : mm_W l G k_P_name 13 [] [] b m Q := by
  exact th_P_name_13 hb2 h1
theorem t_P_name_23 {l : Launch} {G : mm_G} {b : Nat} {m : mm_Mem} {Q : mm_O → mm_Mem → Prop} {x2 : Int32} {r3 : Nat} {fs_1 : List Value} {q_4 : Nat} {b_6 : Nat} {b_7 : Nat} {m_9 : mm_Mem} {x_10 : Int32} {fs_11 : List Value} (g2 : m r3 = .inr (4, fs_1)) (z3 : r3 ≠ 0) (v5 : fs_1[0]? = some (.ref q_4)) (hb8 : b_6 + b_7 ≤ b) (g12 : m q_4 = .inr (2, fs_11)) (z13 : q_4 ≠ 0) (M14 : mm_W l G k_B_get 0 (lv_args 0 [.ref q_4, .int x2]) [] b_6 m (mm_is (.inl (some (.int x_10))) m_9)) (h15 : Q (.inl (some (.int x_10))) m_9) : mm_W l G k_P_name 23 [(2, .int x2), (3, .ref r3)] [] b m Q := by
  refine mm_aload_n 1 (i := 3) d_P_name_23 rfl rfl ?_
  refine mm_getN cc_E 0 (by decide) nw_75 d_P_name_24 g2 z3 v5 ?_
  refine mm_iload_n 0 (i := 2) d_P_name_27 rfl rfl ?_
  refine mm_callV (as := [.int x2]) (st := []) (b2 := b_7) ca_B_get w_440 w_279 w_280 cc_B.1 rfl d_P_name_28 rfl (Nat.le_of_ble_eq_true rfl) (Nat.le_of_ble_eq_true rfl) (Nat.le_of_ble_eq_true rfl) hb8 g12 z13 M14 (fun E _ ⟨c, _⟩ => nomatch c) (fun v _ ⟨c, e⟩ => ?_)
  cases c
  rw [e]
  show mm_W l G k_P_name 31 [(2, .int x2), (3, .ref r3)] [.int x_10] b_7 m_9 Q
  exact mm_iret d_P_name_31 rfl h15
theorem t_P_part_0 {l : Launch} {G : mm_G} {b : Nat} {m : mm_Mem} {Q : mm_O → mm_Mem → Prop} {r0 : Nat} {x1 : Int32} {x2 : Int32} {fs_1 : List Value} {q_4 : Nat} {b_6 : Nat} {b_7 : Nat} {m_9 : mm_Mem} {w_10 : Value} {fs_11 : List Value} (g2 : m r0 = .inr (0, fs_1)) (z3 : r0 ≠ 0) (v5 : fs_1[3]? = some (.ref q_4)) (hb8 : b_6 + b_7 ≤ b) (g12 : m q_4 = .inr (1, fs_11)) (z13 : q_4 ≠ 0) (M14 : mm_W l G k_X_pick 0 (lv_args 0 [.ref q_4, .int x1]) [] b_6 m (mm_is (.inl (some (w_10))) m_9)) (hw15 : w_10 = .null ∨ ∃ r, w_10 = .ref r) (h16 : (∀ r, w_10 = .ref r → mm_W l G k_P_part 13 [(0, .ref r0), (2, .int x2), (3, w_10)] [] b_7 m_9 Q)) (h17 : (w_10 = .null → mm_W l G k_P_part 25 [] [] b_7 m_9 Q)) : mm_W l G k_P_part 0 [(0, .ref r0), (1, .int x1), (2, .int x2)] [] b m Q := by
  refine mm_aload_n 0 (i := 0) d_P_part_0 rfl rfl ?_
  refine mm_get cc_P 3 (by decide) w_237 d_P_part_1 g2 z3 v5 ?_
  refine mm_iload_n 1 (i := 1) d_P_part_4 rfl rfl ?_
  refine mm_callV (as := [.int x1]) (st := []) (b2 := b_7) ca_X_pick w_550 w_551 w_552 cc_X.1 rfl d_P_part_5 rfl (Nat.le_of_ble_eq_true rfl) (Nat.le_of_ble_eq_true rfl) (Nat.le_of_ble_eq_true rfl) hb8 g12 z13 M14 (fun E _ ⟨c, _⟩ => nomatch c) (fun v _ ⟨c, e⟩ => ?_)
  cases c
  rw [e]
  show mm_W l G k_P_part 8 [(0, .ref r0), (1, .int x1), (2, .int x2)] [w_10] b_7 m_9 Q
  refine mm_astore_nV (i := 3) d_P_part_8 rfl (Nat.le_of_ble_eq_true rfl) (lv2 := [(3, w_10), (0, .ref r0), (1, .int x1), (2, .int x2)]) rfl hw15 ?_
  refine mm_aload_nV 0 (i := 3) d_P_part_9 rfl rfl hw15 ?_
  exact mm_ifnullV (tgt := 25) d_P_part_10 (by decide) hw15 (fun r c => mm_sub [1, 3, 0] rfl (h16 r c)) (fun c => mm_sub [] rfl (h17 c))
theorem t_P_part_13 {l : Launch} {G : mm_G} {b : Nat} {m : mm_Mem} {Q : mm_O → mm_Mem → Prop} {r0 : Nat} {x2 : Int32} {w3 : Value} (h1 : (x2 < 0) → mm_W l G k_P_part 25 [] [] b m Q) (h2 : (¬ x2 < 0) → mm_W l G k_P_part 17 [(0, .ref r0), (2, .int x2), (3, w3)] [] b m Q) : mm_W l G k_P_part 13 [(0, .ref r0), (2, .int x2), (3, w3)] [] b m Q := by
  refine mm_iload_n 1 (i := 2) d_P_part_13 rfl rfl ?_
  exact mm_if_lt (tgt := 25) d_P_part_14 (by decide) (fun c => mm_sub [] rfl (h1 c)) (fun c => mm_sub [0, 1, 2] rfl (h2 c))
theorem t_P_part_17 {l : Launch} {G : mm_G} {b : Nat} {m : mm_Mem} {Q : mm_O → mm_Mem → Prop} {r0 : Nat} {x2 : Int32} {r3 : Nat} {fs_1 : List Value} {u_4 : Int32} (g2 : m r3 = .inr (4, fs_1)) (z3 : r3 ≠ 0) (v5 : fs_1[3]? = some (.int u_4)) (h6 : (x2 < u_4) → mm_W l G k_P_part 35 [(0, .ref r0), (2, .int x2), (3, .ref r3)] [] b m Q) (h7 : (¬ x2 < u_4) → mm_W l G k_P_part 25 [] [] b m Q) : mm_W l G k_P_part 17 [(0, .ref r0), (2, .int x2), (3, .ref r3)] [] b m Q := by
  refine mm_iload_n 1 (i := 2) d_P_part_17 rfl rfl ?_
  refine mm_aload_n 2 (i := 3) d_P_part_18 rfl rfl ?_
  refine mm_getN cc_E 3 (by decide) nw_82 d_P_part_19 g2 z3 v5 ?_
  exact mm_icmp_lt (tgt := 35) d_P_part_22 (by decide) (fun c => mm_sub [0, 1, 2] rfl (h6 c)) (fun c => mm_sub [] rfl (h7 c))
theorem t_P_part_25 {l : Launch} {G : mm_G} {b : Nat} {m : mm_Mem} {Q : mm_O → mm_Mem → Prop}  (h1 : Q (.inr "java/lang/IndexOutOfBoundsException") m) (hb2 : 7 ≤ b) : mm_W l G k_P_part 25 [] [] b m Q := by
  exact th_P_part_25 hb2 h1
theorem t_P_part_35 {l : Launch} {G : mm_G} {b : Nat} {m : mm_Mem} {Q : mm_O → mm_Mem → Prop} {r0 : Nat} {x2 : Int32} {r3 : Nat} {fs_1 : List Value} {q_4 : Nat} {fs_6 : List Value} {q_9 : Nat} {fs_11 : List Value} {u_14 : Int32} {b_16 : Nat} {b_17 : Nat} {m_19 : mm_Mem} {x_20 : Int32} {fs_21 : List Value} (g2 : m r0 = .inr (0, fs_1)) (z3 : r0 ≠ 0) (v5 : fs_1[3]? = some (.ref q_4)) (g7 : m q_4 = .inr (1, fs_6)) (z8 : q_4 ≠ 0) (v10 : fs_6[1]? = some (.ref q_9)) (g12 : m r3 = .inr (4, fs_11)) (z13 : r3 ≠ 0) (v15 : fs_11[2]? = some (.int u_14)) (hb18 : b_16 + b_17 ≤ b) (g22 : m q_9 = .inr (2, fs_21)) (z23 : q_9 ≠ 0) (M24 : mm_W l G k_B_get 0 (lv_args 0 [.ref q_9, .int (u_14 + x2)]) [] b_16 m (mm_is (.inl (some (.int x_20))) m_19)) (h25 : Q (.inl (some (.int x_20))) m_19) : mm_W l G k_P_part 35 [(0, .ref r0), (2, .int x2), (3, .ref r3)] [] b m Q := by
  refine mm_aload_n 0 (i := 0) d_P_part_35 rfl rfl ?_
  refine mm_get cc_P 3 (by decide) w_237 d_P_part_36 g2 z3 v5 ?_
  refine mm_getN cc_X 1 (by decide) nw_107 d_P_part_39 g7 z8 v10 ?_
  refine mm_aload_n 2 (i := 3) d_P_part_42 rfl rfl ?_
  refine mm_getN cc_E 2 (by decide) nw_80 d_P_part_43 g12 z13 v15 ?_
  refine mm_iload_n 1 (i := 2) d_P_part_46 rfl rfl ?_
  refine mm_iadd d_P_part_47 ?_
  refine mm_callV (as := [.int (u_14 + x2)]) (st := []) (b2 := b_17) ca_B_get w_440 w_279 w_280 cc_B.1 rfl d_P_part_48 rfl (Nat.le_of_ble_eq_true rfl) (Nat.le_of_ble_eq_true rfl) (Nat.le_of_ble_eq_true rfl) hb18 g22 z23 M24 (fun E _ ⟨c, _⟩ => nomatch c) (fun v _ ⟨c, e⟩ => ?_)
  cases c
  rw [e]
  show mm_W l G k_P_part 51 [(0, .ref r0), (2, .int x2), (3, .ref r3)] [.int x_20] b_17 m_19 Q
  exact mm_iret d_P_part_51 rfl h25
theorem t_P_write_0 {l : Launch} {G : mm_G} {b : Nat} {m : mm_Mem} {Q : mm_O → mm_Mem → Prop} {r0 : Nat} {fs_1 : List Value} {q_4 : Nat} {b_6 : Nat} {b_7 : Nat} {m_9 : mm_Mem} {x_10 : Int32} {fs_11 : List Value} (g2 : m r0 = .inr (0, fs_1)) (z3 : r0 ≠ 0) (v5 : fs_1[3]? = some (.ref q_4)) (hb8 : b_6 + b_7 ≤ b) (g12 : m q_4 = .inr (1, fs_11)) (z13 : q_4 ≠ 0) (M14 : mm_W l G k_X_writtenLength 0 (lv_args 0 [.ref q_4]) [] b_6 m (mm_is (.inl (some (.int x_10))) m_9)) (h15 : (x_10 ≤ 65536) → mm_W l G k_P_write 22 [(0, .ref r0)] [] b_7 m_9 Q) (h16 : (¬ x_10 ≤ 65536) → mm_W l G k_P_write 12 [] [] b_7 m_9 Q) : mm_W l G k_P_write 0 [(0, .ref r0)] [] b m Q := by
  refine mm_aload_n 0 (i := 0) d_P_write_0 rfl rfl ?_
  refine mm_get cc_P 3 (by decide) w_237 d_P_write_1 g2 z3 v5 ?_
  refine mm_callV (as := []) (st := []) (b2 := b_7) ca_X_writtenLength w_577 w_578 w_579 cc_X.1 rfl d_P_write_4 rfl (Nat.le_of_ble_eq_true rfl) (Nat.le_of_ble_eq_true rfl) (Nat.le_of_ble_eq_true rfl) hb8 g12 z13 M14 (fun E _ ⟨c, _⟩ => nomatch c) (fun v _ ⟨c, e⟩ => ?_)
  cases c
  rw [e]
  show mm_W l G k_P_write 7 [(0, .ref r0)] [.int x_10] b_7 m_9 Q
  refine mm_ldc (v := 65536) w_29 d_P_write_7 ?_
  exact mm_icmp_le (tgt := 22) d_P_write_9 (by decide) (fun c => mm_sub [0] rfl (h15 c)) (fun c => mm_sub [] rfl (h16 c))
theorem t_P_write_12 {l : Launch} {G : mm_G} {b : Nat} {m : mm_Mem} {Q : mm_O → mm_Mem → Prop}  (h1 : Q (.inr "java/lang/IllegalStateException") m) (hb2 : 7 ≤ b) : mm_W l G k_P_write 12 [] [] b m Q := by
  exact th_P_write_12 hb2 h1
theorem t_P_write_22 {l : Launch} {G : mm_G} {b : Nat} {m : mm_Mem} {Q : mm_O → mm_Mem → Prop} {r0 : Nat} {fs_1 : List Value} {q_4 : Nat} {q_6 : Nat} {b_8 : Nat} {b_9 : Nat} {m_11 : mm_Mem} {fs_12 : List Value} {fs_16 : List Value} {q_18 : Nat} {b_20 : Nat} {b_21 : Nat} {m_23 : mm_Mem} {x_24 : Int32} {fs_25 : List Value} (g2 : m r0 = .inr (0, fs_1)) (z3 : r0 ≠ 0) (v5 : fs_1[3]? = some (.ref q_4)) (v7 : fs_1[0]? = some (.ref q_6)) (hb10 : b_8 + b_9 ≤ b) (g13 : m q_4 = .inr (1, fs_12)) (z14 : q_4 ≠ 0) (M15 : mm_W l G k_X_writeOver 0 (lv_args 0 [.ref q_4, .ref q_6]) [] b_8 m (mm_is (.inl none) m_11)) (g17 : m_11 r0 = .inr (0, fs_16)) (v19 : fs_16[0]? = some (.ref q_18)) (hb22 : b_20 + b_21 ≤ b_9) (g26 : m_11 q_18 = .inr (2, fs_25)) (z27 : q_18 ≠ 0) (M28 : mm_W l G k_B_size 0 (lv_args 0 [.ref q_18]) [] b_20 m_11 (mm_is (.inl (some (.int x_24))) m_23)) (h29 : Q (.inl (some (.int x_24))) m_23) : mm_W l G k_P_write 22 [(0, .ref r0)] [] b m Q := by
  refine mm_aload_n 0 (i := 0) d_P_write_22 rfl rfl ?_
  refine mm_get cc_P 3 (by decide) w_237 d_P_write_23 g2 z3 v5 ?_
  refine mm_aload_n 0 (i := 0) d_P_write_26 rfl rfl ?_
  refine mm_get cc_P 0 (by decide) w_234 d_P_write_27 g2 z3 v7 ?_
  refine mm_callV (as := [.ref q_6]) (st := []) (b2 := b_9) ca_X_writeOver w_584 w_585 w_586 cc_X.1 rfl d_P_write_30 rfl (Nat.le_of_ble_eq_true rfl) (Nat.le_of_ble_eq_true rfl) (Nat.le_of_ble_eq_true rfl) hb10 g13 z14 M15 (fun E _ ⟨c, _⟩ => nomatch c) (fun v _ ⟨c, e⟩ => ?_)
  cases c
  rw [e]
  show mm_W l G k_P_write 33 [(0, .ref r0)] [] b_9 m_11 Q
  refine mm_aload_n 0 (i := 0) d_P_write_33 rfl rfl ?_
  refine mm_get cc_P 0 (by decide) w_234 d_P_write_34 g17 z3 v19 ?_
  refine mm_callV (as := []) (st := []) (b2 := b_21) ca_B_size w_254 w_255 w_256 cc_B.1 rfl d_P_write_37 rfl (Nat.le_of_ble_eq_true rfl) (Nat.le_of_ble_eq_true rfl) (Nat.le_of_ble_eq_true rfl) hb22 g26 z27 M28 (fun E _ ⟨c, _⟩ => nomatch c) (fun v _ ⟨c, e⟩ => ?_)
  cases c
  rw [e]
  show mm_W l G k_P_write 40 [(0, .ref r0)] [.int x_24] b_21 m_23 Q
  exact mm_iret d_P_write_40 rfl h29
theorem t_P_read_0 {l : Launch} {G : mm_G} {b : Nat} {m : mm_Mem} {Q : mm_O → mm_Mem → Prop} {r0 : Nat} {x1 : Int32} (h1 : (x1 < 0) → mm_W l G k_P_read 10 [] [] b m Q) (h2 : (¬ x1 < 0) → mm_W l G k_P_read 4 [(0, .ref r0), (1, .int x1)] [] b m Q) : mm_W l G k_P_read 0 [(0, .ref r0), (1, .int x1)] [] b m Q := by
  refine mm_iload_n 1 (i := 1) d_P_read_0 rfl rfl ?_
  exact mm_if_lt (tgt := 10) d_P_read_1 (by decide) (fun c => mm_sub [] rfl (h1 c)) (fun c => mm_sub [0, 1] rfl (h2 c))
theorem t_P_read_4 {l : Launch} {G : mm_G} {b : Nat} {m : mm_Mem} {Q : mm_O → mm_Mem → Prop} {r0 : Nat} {x1 : Int32} (h1 : (x1 ≤ 65536) → mm_W l G k_P_read 20 [(0, .ref r0), (1, .int x1)] [] b m Q) (h2 : (¬ x1 ≤ 65536) → mm_W l G k_P_read 10 [] [] b m Q) : mm_W l G k_P_read 4 [(0, .ref r0), (1, .int x1)] [] b m Q := by
  refine mm_iload_n 1 (i := 1) d_P_read_4 rfl rfl ?_
  refine mm_ldc (v := 65536) w_29 d_P_read_5 ?_
  exact mm_icmp_le (tgt := 20) d_P_read_7 (by decide) (fun c => mm_sub [0, 1] rfl (h1 c)) (fun c => mm_sub [] rfl (h2 c))
theorem t_P_read_10 {l : Launch} {G : mm_G} {b : Nat} {m : mm_Mem} {Q : mm_O → mm_Mem → Prop}  (h1 : Q (.inr "java/lang/IllegalArgumentException") m) (hb2 : 7 ≤ b) : mm_W l G k_P_read 10 [] [] b m Q := by
  exact th_P_read_10 hb2 h1
theorem t_P_read_20 {l : Launch} {G : mm_G} {b : Nat} {m : mm_Mem} {Q : mm_O → mm_Mem → Prop} {r0 : Nat} {x1 : Int32} {fs_1 : List Value} {q_4 : Nat} {b_6 : Nat} {b_7 : Nat} {P_9 : mm_O → mm_Mem → Prop} {fs_10 : List Value} (g2 : m r0 = .inr (0, fs_1)) (z3 : r0 ≠ 0) (v5 : fs_1[4]? = some (.ref q_4)) (hb8 : b_6 + b_7 ≤ b) (g11 : m q_4 = .inr (7, fs_10)) (z12 : q_4 ≠ 0) (M13 : mm_W l G k_R_findsNoFault 0 (lv_args 0 [.ref q_4, .int x1]) [] b_6 m P_9) (hx14 : ∀ (E : String) (n_2 : mm_Mem), ¬ P_9 (.inr E) n_2) (h15 : ∀ (v : Option Value) (n_2 : mm_Mem), P_9 (.inl v) n_2 → ∃ x9 : Int32, v = some (.int x9) ∧ mm_W l G k_P_read 28 [(0, .ref r0)] [.int x9] b_7 n_2 Q) : mm_W l G k_P_read 20 [(0, .ref r0), (1, .int x1)] [] b m Q := by
  refine mm_aload_n 0 (i := 0) d_P_read_20 rfl rfl ?_
  refine mm_get cc_P 4 (by decide) w_238 d_P_read_21 g2 z3 v5 ?_
  refine mm_iload_n 1 (i := 1) d_P_read_24 rfl rfl ?_
  refine mm_callV (as := [.int x1]) (st := []) (b2 := b_7) ca_R_findsNoFault w_619 w_620 w_621 cc_R.1 rfl d_P_read_25 rfl (Nat.le_of_ble_eq_true rfl) (Nat.le_of_ble_eq_true rfl) (Nat.le_of_ble_eq_true rfl) hb8 g11 z12 M13 (fun E m2 q => absurd q (hx14 E m2)) (fun v m2 q => ?_)
  obtain ⟨x9, rfl, z9⟩ := h15 v m2 q
  exact mm_sub [0] rfl z9
theorem t_P_read_28 {l : Launch} {G : mm_G} {b : Nat} {m : mm_Mem} {Q : mm_O → mm_Mem → Prop} {r0 : Nat} {xs0 : Int32} (h1 : (xs0 = 0) → mm_W l G k_P_read 42 [(0, .ref r0)] [] b m Q) (h2 : (¬ xs0 = 0) → mm_W l G k_P_read 31 [(0, .ref r0)] [] b m Q) : mm_W l G k_P_read 28 [(0, .ref r0)] [.int xs0] b m Q := by
  exact mm_if_eq (tgt := 42) d_P_read_28 (by decide) (fun c => mm_sub [0] rfl (h1 c)) (fun c => mm_sub [0] rfl (h2 c))
theorem t_P_read_31 {l : Launch} {G : mm_G} {b : Nat} {m : mm_Mem} {Q : mm_O → mm_Mem → Prop} {r0 : Nat} {fs_1 : List Value} {q_4 : Nat} {q_6 : Nat} {b_8 : Nat} {b_9 : Nat} {P_11 : mm_O → mm_Mem → Prop} {fs_12 : List Value} (g2 : m r0 = .inr (0, fs_1)) (z3 : r0 ≠ 0) (v5 : fs_1[4]? = some (.ref q_4)) (v7 : fs_1[3]? = some (.ref q_6)) (hb10 : b_8 + b_9 ≤ b) (g13 : m q_4 = .inr (7, fs_12)) (z14 : q_4 ≠ 0) (M15 : mm_W l G k_R_unpackInto 0 (lv_args 0 [.ref q_4, .ref q_6]) [] b_8 m P_11) (hx16 : ∀ (E : String) (n_2 : mm_Mem), ¬ P_11 (.inr E) n_2) (h17 : ∀ (v : Option Value) (n_2 : mm_Mem), P_11 (.inl v) n_2 → v = none ∧ mm_W l G k_P_read 42 [(0, .ref r0)] [] b_9 n_2 Q) : mm_W l G k_P_read 31 [(0, .ref r0)] [] b m Q := by
  refine mm_aload_n 0 (i := 0) d_P_read_31 rfl rfl ?_
  refine mm_get cc_P 4 (by decide) w_238 d_P_read_32 g2 z3 v5 ?_
  refine mm_aload_n 0 (i := 0) d_P_read_35 rfl rfl ?_
  refine mm_get cc_P 3 (by decide) w_237 d_P_read_36 g2 z3 v7 ?_
  refine mm_callV (as := [.ref q_6]) (st := []) (b2 := b_9) ca_R_unpackInto w_717 w_718 w_719 cc_R.1 rfl d_P_read_39 rfl (Nat.le_of_ble_eq_true rfl) (Nat.le_of_ble_eq_true rfl) (Nat.le_of_ble_eq_true rfl) hb10 g13 z14 M15 (fun E m2 q => absurd q (hx16 E m2)) (fun v m2 q => ?_)
  obtain ⟨rfl, z9⟩ := h17 v m2 q
  exact mm_sub [0] rfl z9
theorem t_P_read_42 {l : Launch} {G : mm_G} {b : Nat} {m : mm_Mem} {Q : mm_O → mm_Mem → Prop} {r0 : Nat} {fs_1 : List Value} {q_4 : Nat} {fs_6 : List Value} {u_9 : Int32} (g2 : m r0 = .inr (0, fs_1)) (z3 : r0 ≠ 0) (v5 : fs_1[4]? = some (.ref q_4)) (g7 : m q_4 = .inr (7, fs_6)) (z8 : q_4 ≠ 0) (v10 : fs_6[5]? = some (.int u_9)) (h11 : Q (.inl (some (.int u_9))) m) : mm_W l G k_P_read 42 [(0, .ref r0)] [] b m Q := by
  refine mm_aload_n 0 (i := 0) d_P_read_42 rfl rfl ?_
  refine mm_get cc_P 4 (by decide) w_238 d_P_read_43 g2 z3 v5 ?_
  refine mm_getN cc_R 5 (by decide) nw_197 d_P_read_46 g7 z8 v10 ?_
  exact mm_iret d_P_read_49 rfl h11
theorem t_P_blame_0 {l : Launch} {G : mm_G} {b : Nat} {m : mm_Mem} {Q : mm_O → mm_Mem → Prop} {r0 : Nat} {x1 : Int32} (h1 : (x1 = 0) → mm_W l G k_P_blame 28 [(0, .ref r0)] [] b m Q) (h2 : (x1 = 1) → mm_W l G k_P_blame 36 [(0, .ref r0)] [] b m Q) (h3 : (x1 = 2) → mm_W l G k_P_blame 44 [(0, .ref r0)] [] b m Q) (h4 : (x1.toInt < 0 ∨ 2 < x1.toInt) → mm_W l G k_P_blame 52 [] [] b m Q) : mm_W l G k_P_blame 0 [(0, .ref r0), (1, .int x1)] [] b m Q := by
  refine mm_iload_n 1 (i := 1) d_P_blame_0 rfl rfl ?_
  by_cases c0 : x1.toInt < 0 ∨ 2 < x1.toInt
  · exact mm_tableOut (tgt := 52) d_P_blame_1 c0 (by decide) (mm_sub [] rfl (h4 c0))
  by_cases c1 : x1 = 0
  · exact mm_tableIn (tgt := 28) d_P_blame_1 (by rw [c1]; decide) (by rw [c1]; decide) (by rw [c1]; rfl) (by decide) (mm_sub [0] rfl (h1 c1))
  by_cases c2 : x1 = 1
  · exact mm_tableIn (tgt := 36) d_P_blame_1 (by rw [c2]; decide) (by rw [c2]; decide) (by rw [c2]; rfl) (by decide) (mm_sub [0] rfl (h2 c2))
  by_cases c3 : x1 = 2
  · exact mm_tableIn (tgt := 44) d_P_blame_1 (by rw [c3]; decide) (by rw [c3]; decide) (by rw [c3]; rfl) (by decide) (mm_sub [0] rfl (h3 c3))
  exfalso
  have e0 : ∀ k : Int32, ¬ x1 = k → ¬ x1.toInt = k.toInt := fun k c e => c (Int32.toInt_inj.mp e)
  have e1 : ¬ x1.toInt = 0 := e0 0 c1
  have e2 : ¬ x1.toInt = 1 := e0 1 c2
  have e3 : ¬ x1.toInt = 2 := e0 2 c3
  omega
theorem t_P_blame_28 {l : Launch} {G : mm_G} {b : Nat} {m : mm_Mem} {Q : mm_O → mm_Mem → Prop} {r0 : Nat} {fs_1 : List Value} {q_4 : Nat} {fs_6 : List Value} {u_9 : Int32} (g2 : m r0 = .inr (0, fs_1)) (z3 : r0 ≠ 0) (v5 : fs_1[4]? = some (.ref q_4)) (g7 : m q_4 = .inr (7, fs_6)) (z8 : q_4 ≠ 0) (v10 : fs_6[5]? = some (.int u_9)) (h11 : Q (.inl (some (.int u_9))) m) : mm_W l G k_P_blame 28 [(0, .ref r0)] [] b m Q := by
  refine mm_aload_n 0 (i := 0) d_P_blame_28 rfl rfl ?_
  refine mm_get cc_P 4 (by decide) w_238 d_P_blame_29 g2 z3 v5 ?_
  refine mm_getN cc_R 5 (by decide) nw_197 d_P_blame_32 g7 z8 v10 ?_
  exact mm_iret d_P_blame_35 rfl h11
theorem t_P_blame_36 {l : Launch} {G : mm_G} {b : Nat} {m : mm_Mem} {Q : mm_O → mm_Mem → Prop} {r0 : Nat} {fs_1 : List Value} {q_4 : Nat} {fs_6 : List Value} {u_9 : Int32} (g2 : m r0 = .inr (0, fs_1)) (z3 : r0 ≠ 0) (v5 : fs_1[4]? = some (.ref q_4)) (g7 : m q_4 = .inr (7, fs_6)) (z8 : q_4 ≠ 0) (v10 : fs_6[6]? = some (.int u_9)) (h11 : Q (.inl (some (.int u_9))) m) : mm_W l G k_P_blame 36 [(0, .ref r0)] [] b m Q := by
  refine mm_aload_n 0 (i := 0) d_P_blame_36 rfl rfl ?_
  refine mm_get cc_P 4 (by decide) w_238 d_P_blame_37 g2 z3 v5 ?_
  refine mm_getN cc_R 6 (by decide) nw_199 d_P_blame_40 g7 z8 v10 ?_
  exact mm_iret d_P_blame_43 rfl h11
theorem t_P_blame_44 {l : Launch} {G : mm_G} {b : Nat} {m : mm_Mem} {Q : mm_O → mm_Mem → Prop} {r0 : Nat} {fs_1 : List Value} {q_4 : Nat} {fs_6 : List Value} {u_9 : Int32} (g2 : m r0 = .inr (0, fs_1)) (z3 : r0 ≠ 0) (v5 : fs_1[4]? = some (.ref q_4)) (g7 : m q_4 = .inr (7, fs_6)) (z8 : q_4 ≠ 0) (v10 : fs_6[7]? = some (.int u_9)) (h11 : Q (.inl (some (.int u_9))) m) : mm_W l G k_P_blame 44 [(0, .ref r0)] [] b m Q := by
  refine mm_aload_n 0 (i := 0) d_P_blame_44 rfl rfl ?_
  refine mm_get cc_P 4 (by decide) w_238 d_P_blame_45 g2 z3 v5 ?_
  refine mm_getN cc_R 7 (by decide) nw_201 d_P_blame_48 g7 z8 v10 ?_
  exact mm_iret d_P_blame_51 rfl h11
theorem t_P_blame_52 {l : Launch} {G : mm_G} {b : Nat} {m : mm_Mem} {Q : mm_O → mm_Mem → Prop}  (h1 : Q (.inr "java/lang/IllegalArgumentException") m) (hb2 : 7 ≤ b) : mm_W l G k_P_blame 52 [] [] b m Q := by
  exact th_P_blame_52 hb2 h1
theorem t_P_count_0 {l : Launch} {G : mm_G} {b : Nat} {m : mm_Mem} {Q : mm_O → mm_Mem → Prop} {r0 : Nat} {fs_1 : List Value} {q_4 : Nat} {b_6 : Nat} {b_7 : Nat} {m_9 : mm_Mem} {x_10 : Int32} {fs_11 : List Value} (g2 : m r0 = .inr (0, fs_1)) (z3 : r0 ≠ 0) (v5 : fs_1[3]? = some (.ref q_4)) (hb8 : b_6 + b_7 ≤ b) (g12 : m q_4 = .inr (1, fs_11)) (z13 : q_4 ≠ 0) (M14 : mm_W l G k_X_size 0 (lv_args 0 [.ref q_4]) [] b_6 m (mm_is (.inl (some (.int x_10))) m_9)) (h15 : Q (.inl (some (.int x_10))) m_9) : mm_W l G k_P_count 0 [(0, .ref r0)] [] b m Q := by
  refine mm_aload_n 0 (i := 0) d_P_count_0 rfl rfl ?_
  refine mm_get cc_P 3 (by decide) w_237 d_P_count_1 g2 z3 v5 ?_
  refine mm_callV (as := []) (st := []) (b2 := b_7) ca_X_size w_289 w_290 w_291 cc_X.1 rfl d_P_count_4 rfl (Nat.le_of_ble_eq_true rfl) (Nat.le_of_ble_eq_true rfl) (Nat.le_of_ble_eq_true rfl) hb8 g12 z13 M14 (fun E _ ⟨c, _⟩ => nomatch c) (fun v _ ⟨c, e⟩ => ?_)
  cases c
  rw [e]
  show mm_W l G k_P_count 7 [(0, .ref r0)] [.int x_10] b_7 m_9 Q
  exact mm_iret d_P_count_7 rfl h15
theorem t_P_isTypedNameNew_0 {l : Launch} {G : mm_G} {b : Nat} {m : mm_Mem} {Q : mm_O → mm_Mem → Prop} {r0 : Nat} {fs_1 : List Value} {q_4 : Nat} {b_6 : Nat} {b_7 : Nat} {m_9 : mm_Mem} {x_10 : Int32} {fs_11 : List Value} {b_15 : Nat} {b_16 : Nat} {m_18 : mm_Mem} {x_19 : Int32} (g2 : m r0 = .inr (0, fs_1)) (z3 : r0 ≠ 0) (v5 : fs_1[1]? = some (.ref q_4)) (hb8 : b_6 + b_7 ≤ b) (g12 : m q_4 = .inr (2, fs_11)) (z13 : q_4 ≠ 0) (M14 : mm_W l G k_B_size 0 (lv_args 0 [.ref q_4]) [] b_6 m (mm_is (.inl (some (.int x_10))) m_9)) (hb17 : b_15 + b_16 ≤ b_7) (M20 : mm_W l G k_N_isName 0 (lv_args 0 [.ref q_4, .int 0, .int x_10]) [] b_15 m_9 (mm_is (.inl (some (.int x_19))) m_18)) (h21 : (x_19 = 0) → mm_W l G k_P_isTypedNameNew 37 [] [] b_16 m_18 Q) (h22 : (¬ x_19 = 0) → mm_W l G k_P_isTypedNameNew 18 [(0, .ref r0)] [] b_16 m_18 Q) : mm_W l G k_P_isTypedNameNew 0 [(0, .ref r0)] [] b m Q := by
  refine mm_aload_n 0 (i := 0) d_P_isTypedNameNew_0 rfl rfl ?_
  refine mm_get cc_P 1 (by decide) w_235 d_P_isTypedNameNew_1 g2 z3 v5 ?_
  refine mm_iconst d_P_isTypedNameNew_4 (v := 0) (by decide) ?_
  refine mm_aload_n 0 (i := 0) d_P_isTypedNameNew_5 rfl rfl ?_
  refine mm_get cc_P 1 (by decide) w_235 d_P_isTypedNameNew_6 g2 z3 v5 ?_
  refine mm_callV (as := []) (st := [.int 0, .ref q_4]) (b2 := b_7) ca_B_size w_254 w_255 w_256 cc_B.1 rfl d_P_isTypedNameNew_9 rfl (Nat.le_of_ble_eq_true rfl) (Nat.le_of_ble_eq_true rfl) (Nat.le_of_ble_eq_true rfl) hb8 g12 z13 M14 (fun E _ ⟨c, _⟩ => nomatch c) (fun v _ ⟨c, e⟩ => ?_)
  cases c
  rw [e]
  show mm_W l G k_P_isTypedNameNew 12 [(0, .ref r0)] [.int x_10, .int 0, .ref q_4] b_7 m_9 Q
  refine mm_callS (as := [.ref q_4, .int 0, .int x_10]) (st := []) (b2 := b_16) ca_N_isName w_462 w_463 d_P_isTypedNameNew_12 rfl (Nat.le_of_ble_eq_true rfl) (Nat.le_of_ble_eq_true rfl) (Nat.le_of_ble_eq_true rfl) hb17 M20 (fun E _ ⟨c, _⟩ => nomatch c) (fun v _ ⟨c, e⟩ => ?_)
  cases c
  rw [e]
  show mm_W l G k_P_isTypedNameNew 15 [(0, .ref r0)] [.int x_19] b_16 m_18 Q
  exact mm_if_eq (tgt := 37) d_P_isTypedNameNew_15 (by decide) (fun c => mm_sub [] rfl (h21 c)) (fun c => mm_sub [0] rfl (h22 c))
theorem t_P_isTypedNameNew_18 {l : Launch} {G : mm_G} {b : Nat} {m : mm_Mem} {Q : mm_O → mm_Mem → Prop} {r0 : Nat} {fs_1 : List Value} {q_4 : Nat} {q_6 : Nat} {b_8 : Nat} {b_9 : Nat} {m_11 : mm_Mem} {x_12 : Int32} {fs_13 : List Value} (g2 : m r0 = .inr (0, fs_1)) (z3 : r0 ≠ 0) (v5 : fs_1[3]? = some (.ref q_4)) (v7 : fs_1[1]? = some (.ref q_6)) (hb10 : b_8 + b_9 ≤ b) (g14 : m q_4 = .inr (1, fs_13)) (z15 : q_4 ≠ 0) (M16 : mm_W l G k_X_numberOf 0 (lv_args 0 [.ref q_4, .ref q_6]) [] b_8 m (mm_is (.inl (some (.int x_12))) m_11)) (h17 : (¬ x_12 = ((-1))) → mm_W l G k_P_isTypedNameNew 37 [] [] b_9 m_11 Q) (h18 : (x_12 = ((-1))) → mm_W l G k_P_isTypedNameNew 33 [] [] b_9 m_11 Q) : mm_W l G k_P_isTypedNameNew 18 [(0, .ref r0)] [] b m Q := by
  refine mm_aload_n 0 (i := 0) d_P_isTypedNameNew_18 rfl rfl ?_
  refine mm_get cc_P 3 (by decide) w_237 d_P_isTypedNameNew_19 g2 z3 v5 ?_
  refine mm_aload_n 0 (i := 0) d_P_isTypedNameNew_22 rfl rfl ?_
  refine mm_get cc_P 1 (by decide) w_235 d_P_isTypedNameNew_23 g2 z3 v7 ?_
  refine mm_callV (as := [.ref q_6]) (st := []) (b2 := b_9) ca_X_numberOf w_270 w_271 w_272 cc_X.1 rfl d_P_isTypedNameNew_26 rfl (Nat.le_of_ble_eq_true rfl) (Nat.le_of_ble_eq_true rfl) (Nat.le_of_ble_eq_true rfl) hb10 g14 z15 M16 (fun E _ ⟨c, _⟩ => nomatch c) (fun v _ ⟨c, e⟩ => ?_)
  cases c
  rw [e]
  show mm_W l G k_P_isTypedNameNew 29 [(0, .ref r0)] [.int x_12] b_9 m_11 Q
  refine mm_iconst d_P_isTypedNameNew_29 (v := (-1)) (by decide) ?_
  exact mm_icmp_ne (tgt := 37) d_P_isTypedNameNew_30 (by decide) (fun c => mm_sub [] rfl (h17 c)) (fun c => mm_sub [] rfl (h18 c))
theorem t_P_isTypedNameNew_33 {l : Launch} {G : mm_G} {b : Nat} {m : mm_Mem} {Q : mm_O → mm_Mem → Prop}  (h1 : mm_W l G k_P_isTypedNameNew 38 [] [.int 1] b m Q) : mm_W l G k_P_isTypedNameNew 33 [] [] b m Q := by
  refine mm_iconst d_P_isTypedNameNew_33 (v := 1) (by decide) ?_
  refine mm_goto (tgt := 38) d_P_isTypedNameNew_34 (by decide) ?_
  exact mm_sub [] rfl h1
theorem t_P_isTypedNameNew_37 {l : Launch} {G : mm_G} {b : Nat} {m : mm_Mem} {Q : mm_O → mm_Mem → Prop}  (h1 : mm_W l G k_P_isTypedNameNew 38 [] [.int 0] b m Q) : mm_W l G k_P_isTypedNameNew 37 [] [] b m Q := by
  refine mm_iconst d_P_isTypedNameNew_37 (v := 0) (by decide) ?_
  exact mm_sub [] rfl h1
theorem t_P_isTypedNameNew_38 {l : Launch} {G : mm_G} {b : Nat} {m : mm_Mem} {Q : mm_O → mm_Mem → Prop} {xs0 : Int32} (h1 : Q (.inl (some (.int xs0))) m) (hn2 : narrow .boolean (.int xs0) = .int xs0) : mm_W l G k_P_isTypedNameNew 38 [] [.int xs0] b m Q := by
  exact mm_zret d_P_isTypedNameNew_38 rfl hn2 h1
theorem t_P_enter_0 {l : Launch} {G : mm_G} {b : Nat} {m : mm_Mem} {Q : mm_O → mm_Mem → Prop} {r0 : Nat} {x1 : Int32} {x2 : Int32} {x3 : Int32} {fs_1 : List Value} {q_4 : Nat} {q_6 : Nat} {b_8 : Nat} {b_9 : Nat} {m_11 : mm_Mem} {x_12 : Int32} {fs_13 : List Value} {b_17 : Nat} {b_18 : Nat} {P_20 : mm_O → mm_Mem → Prop} {fs_21 : List Value} (g2 : m r0 = .inr (0, fs_1)) (z3 : r0 ≠ 0) (v5 : fs_1[3]? = some (.ref q_4)) (v7 : fs_1[0]? = some (.ref q_6)) (hb10 : b_8 + b_9 ≤ b) (g14 : m q_6 = .inr (2, fs_13)) (z15 : q_6 ≠ 0) (M16 : mm_W l G k_B_size 0 (lv_args 0 [.ref q_6]) [] b_8 m (mm_is (.inl (some (.int x_12))) m_11)) (hb19 : b_17 + b_18 ≤ b_9) (g22 : m_11 q_4 = .inr (1, fs_21)) (z23 : q_4 ≠ 0) (M24 : mm_W l G k_X_append 0 (lv_args 0 [.ref q_4, .ref q_6, .int 0, .int x_12]) [] b_17 m_11 P_20) (hx25 : ∀ (E : String) (n_2 : mm_Mem), ¬ P_20 (.inr E) n_2) (h26 : ∀ (v : Option Value) (n_2 : mm_Mem), P_20 (.inl v) n_2 → ∃ w9 : Value, v = some w9 ∧ mm_W l G k_P_enter 19 [(0, .ref r0), (1, .int x1), (2, .int x2), (3, .int x3)] [w9] b_18 n_2 Q) : mm_W l G k_P_enter 0 [(0, .ref r0), (1, .int x1), (2, .int x2), (3, .int x3)] [] b m Q := by
  refine mm_aload_n 0 (i := 0) d_P_enter_0 rfl rfl ?_
  refine mm_get cc_P 3 (by decide) w_237 d_P_enter_1 g2 z3 v5 ?_
  refine mm_aload_n 0 (i := 0) d_P_enter_4 rfl rfl ?_
  refine mm_get cc_P 0 (by decide) w_234 d_P_enter_5 g2 z3 v7 ?_
  refine mm_iconst d_P_enter_8 (v := 0) (by decide) ?_
  refine mm_aload_n 0 (i := 0) d_P_enter_9 rfl rfl ?_
  refine mm_get cc_P 0 (by decide) w_234 d_P_enter_10 g2 z3 v7 ?_
  refine mm_callV (as := []) (st := [.int 0, .ref q_6, .ref q_4]) (b2 := b_9) ca_B_size w_254 w_255 w_256 cc_B.1 rfl d_P_enter_13 rfl (Nat.le_of_ble_eq_true rfl) (Nat.le_of_ble_eq_true rfl) (Nat.le_of_ble_eq_true rfl) hb10 g14 z15 M16 (fun E _ ⟨c, _⟩ => nomatch c) (fun v _ ⟨c, e⟩ => ?_)
  cases c
  rw [e]
  show mm_W l G k_P_enter 16 [(0, .ref r0), (1, .int x1), (2, .int x2), (3, .int x3)] [.int x_12, .int 0, .ref q_6, .ref q_4] b_9 m_11 Q
  refine mm_callV (as := [.ref q_6, .int 0, .int x_12]) (st := []) (b2 := b_18) ca_X_append w_478 w_479 w_480 cc_X.1 rfl d_P_enter_16 rfl (Nat.le_of_ble_eq_true rfl) (Nat.le_of_ble_eq_true rfl) (Nat.le_of_ble_eq_true rfl) hb19 g22 z23 M24 (fun E m2 q => absurd q (hx25 E m2)) (fun v m2 q => ?_)
  obtain ⟨w9, rfl, z9⟩ := h26 v m2 q
  exact mm_sub [0, 1, 2, 3] rfl z9
theorem t_P_enter_19 {l : Launch} {G : mm_G} {b : Nat} {m : mm_Mem} {Q : mm_O → mm_Mem → Prop} {r0 : Nat} {x1 : Int32} {x2 : Int32} {x3 : Int32} {ws0 : Value} (hw1 : ws0 = .null ∨ ∃ r, ws0 = .ref r) (h2 : (∀ r, ws0 = .ref r → mm_W l G k_P_enter 36 [(0, .ref r0), (1, .int x1), (2, .int x2), (3, .int x3), (4, ws0)] [] b m Q)) (h3 : (ws0 = .null → mm_W l G k_P_enter 26 [] [] b m Q)) : mm_W l G k_P_enter 19 [(0, .ref r0), (1, .int x1), (2, .int x2), (3, .int x3)] [ws0] b m Q := by
  refine mm_astoreV (i := 4) d_P_enter_19 (Nat.le_of_ble_eq_true rfl) (lv2 := [(4, ws0), (0, .ref r0), (1, .int x1), (2, .int x2), (3, .int x3)]) rfl hw1 ?_
  refine mm_aloadV 0 (i := 4) d_P_enter_21 rfl hw1 ?_
  exact mm_ifnonnullV (tgt := 36) d_P_enter_23 (by decide) hw1 (fun r c => mm_sub [1, 2, 3, 4, 0] rfl (h2 r c)) (fun c => mm_sub [] rfl (h3 c))
theorem t_P_enter_26 {l : Launch} {G : mm_G} {b : Nat} {m : mm_Mem} {Q : mm_O → mm_Mem → Prop}  (h1 : Q (.inr "java/lang/IllegalStateException") m) (hb2 : 7 ≤ b) : mm_W l G k_P_enter 26 [] [] b m Q := by
  exact th_P_enter_26 hb2 h1
theorem t_P_enter_36 {l : Launch} {G : mm_G} {b : Nat} {m : mm_Mem} {Q : mm_O → mm_Mem → Prop} {r0 : Nat} {x1 : Int32} {x2 : Int32} {x3 : Int32} {r4 : Nat} {fs_1 : List Value} {q_4 : Nat} {fs_6 : List Value} {q_9 : Nat} {b_11 : Nat} {b_12 : Nat} {m_14 : mm_Mem} {x_15 : Int32} {fs_16 : List Value} {b_20 : Nat} {b_21 : Nat} {m_23 : mm_Mem} {fs_24 : List Value} {b_28 : Nat} {b_29 : Nat} {m_31 : mm_Mem} {fs_32 : List Value} {fs_35 : List Value} {q_37 : Nat} {b_39 : Nat} {b_40 : Nat} {m_42 : mm_Mem} {x_43 : Int32} {fs_44 : List Value} (g2 : m r4 = .inr (4, fs_1)) (z3 : r4 ≠ 0) (v5 : fs_1[0]? = some (.ref q_4)) (g7 : m r0 = .inr (0, fs_6)) (z8 : r0 ≠ 0) (v10 : fs_6[1]? = some (.ref q_9)) (hb13 : b_11 + b_12 ≤ b) (g17 : m q_9 = .inr (2, fs_16)) (z18 : q_9 ≠ 0) (M19 : mm_W l G k_B_size 0 (lv_args 0 [.ref q_9]) [] b_11 m (mm_is (.inl (some (.int x_15))) m_14)) (hb22 : b_20 + b_21 ≤ b_12) (g25 : m_14 q_4 = .inr (2, fs_24)) (z26 : q_4 ≠ 0) (M27 : mm_W l G k_B_pushAll 0 (lv_args 0 [.ref q_4, .ref q_9, .int 0, .int x_15]) [] b_20 m_14 (mm_is (.inl none) m_23)) (hb30 : b_28 + b_29 ≤ b_21) (g33 : m_23 r4 = .inr (4, fs_32)) (M34 : mm_W l G k_E_describe 0 (lv_args 0 [.ref r4, .int x1, .int x2, .int x3]) [] b_28 m_23 (mm_is (.inl none) m_31)) (g36 : m_31 r0 = .inr (0, fs_35)) (v38 : fs_35[3]? = some (.ref q_37)) (hb41 : b_39 + b_40 ≤ b_29) (g45 : m_31 q_37 = .inr (1, fs_44)) (z46 : q_37 ≠ 0) (M47 : mm_W l G k_X_size 0 (lv_args 0 [.ref q_37]) [] b_39 m_31 (mm_is (.inl (some (.int x_43))) m_42)) (h48 : Q (.inl (some (.int (x_43 - 1)))) m_42) : mm_W l G k_P_enter 36 [(0, .ref r0), (1, .int x1), (2, .int x2), (3, .int x3), (4, .ref r4)] [] b m Q := by
  refine mm_aload 4 (i := 4) d_P_enter_36 rfl ?_
  refine mm_getN cc_E 0 (by decide) nw_75 d_P_enter_38 g2 z3 v5 ?_
  refine mm_aload_n 0 (i := 0) d_P_enter_41 rfl rfl ?_
  refine mm_get cc_P 1 (by decide) w_235 d_P_enter_42 g7 z8 v10 ?_
  refine mm_iconst d_P_enter_45 (v := 0) (by decide) ?_
  refine mm_aload_n 0 (i := 0) d_P_enter_46 rfl rfl ?_
  refine mm_get cc_P 1 (by decide) w_235 d_P_enter_47 g7 z8 v10 ?_
  refine mm_callV (as := []) (st := [.int 0, .ref q_9, .ref q_4]) (b2 := b_12) ca_B_size w_254 w_255 w_256 cc_B.1 rfl d_P_enter_50 rfl (Nat.le_of_ble_eq_true rfl) (Nat.le_of_ble_eq_true rfl) (Nat.le_of_ble_eq_true rfl) hb13 g17 z18 M19 (fun E _ ⟨c, _⟩ => nomatch c) (fun v _ ⟨c, e⟩ => ?_)
  cases c
  rw [e]
  show mm_W l G k_P_enter 53 [(0, .ref r0), (1, .int x1), (2, .int x2), (3, .int x3), (4, .ref r4)] [.int x_15, .int 0, .ref q_9, .ref q_4] b_12 m_14 Q
  refine mm_callV (as := [.ref q_9, .int 0, .int x_15]) (st := []) (b2 := b_21) ca_B_pushAll w_497 w_485 w_486 cc_B.1 rfl d_P_enter_53 rfl (Nat.le_of_ble_eq_true rfl) (Nat.le_of_ble_eq_true rfl) (Nat.le_of_ble_eq_true rfl) hb22 g25 z26 M27 (fun E _ ⟨c, _⟩ => nomatch c) (fun v _ ⟨c, e⟩ => ?_)
  cases c
  rw [e]
  show mm_W l G k_P_enter 56 [(0, .ref r0), (1, .int x1), (2, .int x2), (3, .int x3), (4, .ref r4)] [] b_21 m_23 Q
  refine mm_aload 4 (i := 4) d_P_enter_56 rfl ?_
  refine mm_iload_n 1 (i := 1) d_P_enter_58 rfl rfl ?_
  refine mm_iload_n 2 (i := 2) d_P_enter_59 rfl rfl ?_
  refine mm_iload_n 3 (i := 3) d_P_enter_60 rfl rfl ?_
  refine mm_callV (as := [.int x1, .int x2, .int x3]) (st := []) (b2 := b_29) ca_E_describe w_498 w_499 w_500 cc_E.1 rfl d_P_enter_61 rfl (Nat.le_of_ble_eq_true rfl) (Nat.le_of_ble_eq_true rfl) (Nat.le_of_ble_eq_true rfl) hb30 g33 z3 M34 (fun E _ ⟨c, _⟩ => nomatch c) (fun v _ ⟨c, e⟩ => ?_)
  cases c
  rw [e]
  show mm_W l G k_P_enter 64 [(0, .ref r0), (1, .int x1), (2, .int x2), (3, .int x3), (4, .ref r4)] [] b_29 m_31 Q
  refine mm_aload_n 0 (i := 0) d_P_enter_64 rfl rfl ?_
  refine mm_get cc_P 3 (by decide) w_237 d_P_enter_65 g36 z8 v38 ?_
  refine mm_callV (as := []) (st := []) (b2 := b_40) ca_X_size w_289 w_290 w_291 cc_X.1 rfl d_P_enter_68 rfl (Nat.le_of_ble_eq_true rfl) (Nat.le_of_ble_eq_true rfl) (Nat.le_of_ble_eq_true rfl) hb41 g45 z46 M47 (fun E _ ⟨c, _⟩ => nomatch c) (fun v _ ⟨c, e⟩ => ?_)
  cases c
  rw [e]
  show mm_W l G k_P_enter 71 [(0, .ref r0), (1, .int x1), (2, .int x2), (3, .int x3), (4, .ref r4)] [.int x_43] b_40 m_42 Q
  refine mm_iconst d_P_enter_71 (v := 1) (by decide) ?_
  refine mm_isub d_P_enter_72 ?_
  exact mm_iret d_P_enter_73 rfl h48
