theorem d_L_feed_0 : decode method_3_code 0 = .ok (.aload_n 0, 1) := by decide +kernel
theorem d_L_feed_1 : decode method_3_code 1 = .ok (.iload_n 1, 1) := by decide +kernel
theorem d_L_feed_2 : decode method_3_code 2 = .ok (.iload_n 2, 1) := by decide +kernel
theorem d_L_feed_3 : decode method_3_code 3 = .ok (.iload_n 3, 1) := by decide +kernel
theorem d_L_feed_4 : decode method_3_code 4 = .ok (.iload 4, 2) := by decide +kernel
theorem d_L_feed_6 : decode method_3_code 6 = .ok (.iload 5, 2) := by decide +kernel
theorem d_L_feed_8 : decode method_3_code 8 = .ok (.invokevirtual 7, 3) := by decide +kernel
theorem d_L_feed_11 : decode method_3_code 11 = .ok (.goto 7, 3) := by decide +kernel
theorem d_L_feed_14 : decode method_3_code 14 = .ok (.astore 6, 2) := by decide +kernel
theorem d_L_feed_16 : decode method_3_code 16 = .ok (.iconst 1, 1) := by decide +kernel
theorem d_L_feed_17 : decode method_3_code 17 = .ok (.ireturn, 1) := by decide +kernel
theorem d_L_feed_18 : decode method_3_code 18 = .ok (.iconst 0, 1) := by decide +kernel
theorem d_L_feed_19 : decode method_3_code 19 = .ok (.ireturn, 1) := by decide +kernel
theorem d_L_end_0 : decode method_4_code 0 = .ok (.aload_n 0, 1) := by decide +kernel
theorem d_L_end_1 : decode method_4_code 1 = .ok (.iload_n 1, 1) := by decide +kernel
theorem d_L_end_2 : decode method_4_code 2 = .ok (.invokevirtual 15, 3) := by decide +kernel
theorem d_L_end_5 : decode method_4_code 5 = .ok (.goto 6, 3) := by decide +kernel
theorem d_L_end_8 : decode method_4_code 8 = .ok (.astore_n 2, 1) := by decide +kernel
theorem d_L_end_9 : decode method_4_code 9 = .ok (.iconst 1, 1) := by decide +kernel
theorem d_L_end_10 : decode method_4_code 10 = .ok (.ireturn, 1) := by decide +kernel
theorem d_L_end_11 : decode method_4_code 11 = .ok (.iconst 0, 1) := by decide +kernel
theorem d_L_end_12 : decode method_4_code 12 = .ok (.ireturn, 1) := by decide +kernel
theorem d_L_alter_0 : decode method_5_code 0 = .ok (.aload_n 0, 1) := by decide +kernel
theorem d_L_alter_1 : decode method_5_code 1 = .ok (.iload_n 1, 1) := by decide +kernel
theorem d_L_alter_2 : decode method_5_code 2 = .ok (.iload_n 2, 1) := by decide +kernel
theorem d_L_alter_3 : decode method_5_code 3 = .ok (.invokevirtual 21, 3) := by decide +kernel
theorem d_L_alter_6 : decode method_5_code 6 = .ok (.goto 9, 3) := by decide +kernel
theorem d_L_alter_9 : decode method_5_code 9 = .ok (.astore_n 3, 1) := by decide +kernel
theorem d_L_alter_10 : decode method_5_code 10 = .ok (.iconst 1, 1) := by decide +kernel
theorem d_L_alter_11 : decode method_5_code 11 = .ok (.ireturn, 1) := by decide +kernel
theorem d_L_alter_12 : decode method_5_code 12 = .ok (.astore_n 3, 1) := by decide +kernel
theorem d_L_alter_13 : decode method_5_code 13 = .ok (.iconst 2, 1) := by decide +kernel
theorem d_L_alter_14 : decode method_5_code 14 = .ok (.ireturn, 1) := by decide +kernel
theorem d_L_alter_15 : decode method_5_code 15 = .ok (.iconst 0, 1) := by decide +kernel
theorem d_L_alter_16 : decode method_5_code 16 = .ok (.ireturn, 1) := by decide +kernel
theorem d_L_byteAt_0 : decode method_6_code 0 = .ok (.aload_n 2, 1) := by decide +kernel
theorem d_L_byteAt_1 : decode method_6_code 1 = .ok (.iconst 0, 1) := by decide +kernel
theorem d_L_byteAt_2 : decode method_6_code 2 = .ok (.aload_n 0, 1) := by decide +kernel
theorem d_L_byteAt_3 : decode method_6_code 3 = .ok (.iload_n 1, 1) := by decide +kernel
theorem d_L_byteAt_4 : decode method_6_code 4 = .ok (.invokevirtual 27, 3) := by decide +kernel
theorem d_L_byteAt_7 : decode method_6_code 7 = .ok (.i2l, 1) := by decide +kernel
theorem d_L_byteAt_8 : decode method_6_code 8 = .ok (.lastore, 1) := by decide +kernel
theorem d_L_byteAt_9 : decode method_6_code 9 = .ok (.goto 6, 3) := by decide +kernel
theorem d_L_byteAt_12 : decode method_6_code 12 = .ok (.astore_n 3, 1) := by decide +kernel
theorem d_L_byteAt_13 : decode method_6_code 13 = .ok (.iconst 1, 1) := by decide +kernel
theorem d_L_byteAt_14 : decode method_6_code 14 = .ok (.ireturn, 1) := by decide +kernel
theorem d_L_byteAt_15 : decode method_6_code 15 = .ok (.iconst 0, 1) := by decide +kernel
theorem d_L_byteAt_16 : decode method_6_code 16 = .ok (.ireturn, 1) := by decide +kernel
theorem d_L_type_0 : decode method_7_code 0 = .ok (.aload_n 2, 1) := by decide +kernel
theorem d_L_type_1 : decode method_7_code 1 = .ok (.iconst 0, 1) := by decide +kernel
theorem d_L_type_2 : decode method_7_code 2 = .ok (.aload_n 0, 1) := by decide +kernel
theorem d_L_type_3 : decode method_7_code 3 = .ok (.iload_n 1, 1) := by decide +kernel
theorem d_L_type_4 : decode method_7_code 4 = .ok (.invokevirtual 31, 3) := by decide +kernel
theorem d_L_type_7 : decode method_7_code 7 = .ok (.i2l, 1) := by decide +kernel
theorem d_L_type_8 : decode method_7_code 8 = .ok (.lastore, 1) := by decide +kernel
theorem d_L_type_9 : decode method_7_code 9 = .ok (.goto 9, 3) := by decide +kernel
theorem d_L_type_12 : decode method_7_code 12 = .ok (.astore_n 3, 1) := by decide +kernel
theorem d_L_type_13 : decode method_7_code 13 = .ok (.iconst 1, 1) := by decide +kernel
theorem d_L_type_14 : decode method_7_code 14 = .ok (.ireturn, 1) := by decide +kernel
theorem d_L_type_15 : decode method_7_code 15 = .ok (.astore_n 3, 1) := by decide +kernel
theorem d_L_type_16 : decode method_7_code 16 = .ok (.iconst 2, 1) := by decide +kernel
theorem d_L_type_17 : decode method_7_code 17 = .ok (.ireturn, 1) := by decide +kernel
theorem d_L_type_18 : decode method_7_code 18 = .ok (.iconst 0, 1) := by decide +kernel
theorem d_L_type_19 : decode method_7_code 19 = .ok (.ireturn, 1) := by decide +kernel
theorem d_L_add_0 : decode method_8_code 0 = .ok (.aload_n 1, 1) := by decide +kernel
theorem d_L_add_1 : decode method_8_code 1 = .ok (.iconst 0, 1) := by decide +kernel
theorem d_L_add_2 : decode method_8_code 2 = .ok (.aload_n 0, 1) := by decide +kernel
theorem d_L_add_3 : decode method_8_code 3 = .ok (.invokevirtual 34, 3) := by decide +kernel
theorem d_L_add_6 : decode method_8_code 6 = .ok (.i2l, 1) := by decide +kernel
theorem d_L_add_7 : decode method_8_code 7 = .ok (.lastore, 1) := by decide +kernel
theorem d_L_add_8 : decode method_8_code 8 = .ok (.goto 9, 3) := by decide +kernel
theorem d_L_add_11 : decode method_8_code 11 = .ok (.astore_n 2, 1) := by decide +kernel
theorem d_L_add_12 : decode method_8_code 12 = .ok (.iconst 1, 1) := by decide +kernel
theorem d_L_add_13 : decode method_8_code 13 = .ok (.ireturn, 1) := by decide +kernel
theorem d_L_add_14 : decode method_8_code 14 = .ok (.astore_n 2, 1) := by decide +kernel
theorem d_L_add_15 : decode method_8_code 15 = .ok (.iconst 2, 1) := by decide +kernel
theorem d_L_add_16 : decode method_8_code 16 = .ok (.ireturn, 1) := by decide +kernel
theorem d_L_add_17 : decode method_8_code 17 = .ok (.iconst 0, 1) := by decide +kernel
theorem d_L_add_18 : decode method_8_code 18 = .ok (.ireturn, 1) := by decide +kernel
theorem d_L_addPacked_0 : decode method_9_code 0 = .ok (.aload_n 3, 1) := by decide +kernel
theorem d_L_addPacked_1 : decode method_9_code 1 = .ok (.iconst 0, 1) := by decide +kernel
theorem d_L_addPacked_2 : decode method_9_code 2 = .ok (.aload_n 0, 1) := by decide +kernel
theorem d_L_addPacked_3 : decode method_9_code 3 = .ok (.iload_n 1, 1) := by decide +kernel
theorem d_L_addPacked_4 : decode method_9_code 4 = .ok (.iload_n 2, 1) := by decide +kernel
theorem d_L_addPacked_5 : decode method_9_code 5 = .ok (.invokevirtual 38, 3) := by decide +kernel
theorem d_L_addPacked_8 : decode method_9_code 8 = .ok (.i2l, 1) := by decide +kernel
theorem d_L_addPacked_9 : decode method_9_code 9 = .ok (.lastore, 1) := by decide +kernel
theorem d_L_addPacked_10 : decode method_9_code 10 = .ok (.goto 11, 3) := by decide +kernel
theorem d_L_addPacked_13 : decode method_9_code 13 = .ok (.astore 4, 2) := by decide +kernel
theorem d_L_addPacked_15 : decode method_9_code 15 = .ok (.iconst 1, 1) := by decide +kernel
theorem d_L_addPacked_16 : decode method_9_code 16 = .ok (.ireturn, 1) := by decide +kernel
theorem d_L_addPacked_17 : decode method_9_code 17 = .ok (.astore 4, 2) := by decide +kernel
theorem d_L_addPacked_19 : decode method_9_code 19 = .ok (.iconst 2, 1) := by decide +kernel
theorem d_L_addPacked_20 : decode method_9_code 20 = .ok (.ireturn, 1) := by decide +kernel
theorem d_L_addPacked_21 : decode method_9_code 21 = .ok (.iconst 0, 1) := by decide +kernel
theorem d_L_addPacked_22 : decode method_9_code 22 = .ok (.ireturn, 1) := by decide +kernel
theorem d_L_remove_0 : decode method_10_code 0 = .ok (.aload_n 0, 1) := by decide +kernel
theorem d_L_remove_1 : decode method_10_code 1 = .ok (.iload_n 1, 1) := by decide +kernel
theorem d_L_remove_2 : decode method_10_code 2 = .ok (.invokevirtual 42, 3) := by decide +kernel
theorem d_L_remove_5 : decode method_10_code 5 = .ok (.goto 6, 3) := by decide +kernel
theorem d_L_remove_8 : decode method_10_code 8 = .ok (.astore_n 2, 1) := by decide +kernel
theorem d_L_remove_9 : decode method_10_code 9 = .ok (.iconst 1, 1) := by decide +kernel
theorem d_L_remove_10 : decode method_10_code 10 = .ok (.ireturn, 1) := by decide +kernel
theorem d_L_remove_11 : decode method_10_code 11 = .ok (.iconst 0, 1) := by decide +kernel
theorem d_L_remove_12 : decode method_10_code 12 = .ok (.ireturn, 1) := by decide +kernel
theorem d_L_move_0 : decode method_11_code 0 = .ok (.aload_n 0, 1) := by decide +kernel
theorem d_L_move_1 : decode method_11_code 1 = .ok (.iload_n 1, 1) := by decide +kernel
theorem d_L_move_2 : decode method_11_code 2 = .ok (.iload_n 2, 1) := by decide +kernel
theorem d_L_move_3 : decode method_11_code 3 = .ok (.invokevirtual 45, 3) := by decide +kernel
theorem d_L_move_6 : decode method_11_code 6 = .ok (.goto 6, 3) := by decide +kernel
theorem d_L_move_9 : decode method_11_code 9 = .ok (.astore_n 3, 1) := by decide +kernel
theorem d_L_move_10 : decode method_11_code 10 = .ok (.iconst 1, 1) := by decide +kernel
theorem d_L_move_11 : decode method_11_code 11 = .ok (.ireturn, 1) := by decide +kernel
theorem d_L_move_12 : decode method_11_code 12 = .ok (.iconst 0, 1) := by decide +kernel
theorem d_L_move_13 : decode method_11_code 13 = .ok (.ireturn, 1) := by decide +kernel
theorem d_L_about_0 : decode method_12_code 0 = .ok (.aload_n 3, 1) := by decide +kernel
theorem d_L_about_1 : decode method_12_code 1 = .ok (.iconst 0, 1) := by decide +kernel
theorem d_L_about_2 : decode method_12_code 2 = .ok (.aload_n 0, 1) := by decide +kernel
theorem d_L_about_3 : decode method_12_code 3 = .ok (.iload_n 1, 1) := by decide +kernel
theorem d_L_about_4 : decode method_12_code 4 = .ok (.iload_n 2, 1) := by decide +kernel
theorem d_L_about_5 : decode method_12_code 5 = .ok (.invokevirtual 48, 3) := by decide +kernel
theorem d_L_about_8 : decode method_12_code 8 = .ok (.i2l, 1) := by decide +kernel
theorem d_L_about_9 : decode method_12_code 9 = .ok (.lastore, 1) := by decide +kernel
theorem d_L_about_10 : decode method_12_code 10 = .ok (.goto 11, 3) := by decide +kernel
theorem d_L_about_13 : decode method_12_code 13 = .ok (.astore 4, 2) := by decide +kernel
theorem d_L_about_15 : decode method_12_code 15 = .ok (.iconst 1, 1) := by decide +kernel
theorem d_L_about_16 : decode method_12_code 16 = .ok (.ireturn, 1) := by decide +kernel
theorem d_L_about_17 : decode method_12_code 17 = .ok (.astore 4, 2) := by decide +kernel
theorem d_L_about_19 : decode method_12_code 19 = .ok (.iconst 2, 1) := by decide +kernel
theorem d_L_about_20 : decode method_12_code 20 = .ok (.ireturn, 1) := by decide +kernel
theorem d_L_about_21 : decode method_12_code 21 = .ok (.iconst 0, 1) := by decide +kernel
theorem d_L_about_22 : decode method_12_code 22 = .ok (.ireturn, 1) := by decide +kernel
theorem d_L_name_0 : decode method_13_code 0 = .ok (.aload_n 3, 1) := by decide +kernel
theorem d_L_name_1 : decode method_13_code 1 = .ok (.iconst 0, 1) := by decide +kernel
theorem d_L_name_2 : decode method_13_code 2 = .ok (.aload_n 0, 1) := by decide +kernel
theorem d_L_name_3 : decode method_13_code 3 = .ok (.iload_n 1, 1) := by decide +kernel
theorem d_L_name_4 : decode method_13_code 4 = .ok (.iload_n 2, 1) := by decide +kernel
theorem d_L_name_5 : decode method_13_code 5 = .ok (.invokevirtual 51, 3) := by decide +kernel
theorem d_L_name_8 : decode method_13_code 8 = .ok (.i2l, 1) := by decide +kernel
theorem d_L_name_9 : decode method_13_code 9 = .ok (.lastore, 1) := by decide +kernel
theorem d_L_name_10 : decode method_13_code 10 = .ok (.goto 7, 3) := by decide +kernel
theorem d_L_name_13 : decode method_13_code 13 = .ok (.astore 4, 2) := by decide +kernel
theorem d_L_name_15 : decode method_13_code 15 = .ok (.iconst 1, 1) := by decide +kernel
theorem d_L_name_16 : decode method_13_code 16 = .ok (.ireturn, 1) := by decide +kernel
theorem d_L_name_17 : decode method_13_code 17 = .ok (.iconst 0, 1) := by decide +kernel
theorem d_L_name_18 : decode method_13_code 18 = .ok (.ireturn, 1) := by decide +kernel
theorem d_L_part_0 : decode method_14_code 0 = .ok (.aload_n 3, 1) := by decide +kernel
theorem d_L_part_1 : decode method_14_code 1 = .ok (.iconst 0, 1) := by decide +kernel
theorem d_L_part_2 : decode method_14_code 2 = .ok (.aload_n 0, 1) := by decide +kernel
theorem d_L_part_3 : decode method_14_code 3 = .ok (.iload_n 1, 1) := by decide +kernel
theorem d_L_part_4 : decode method_14_code 4 = .ok (.iload_n 2, 1) := by decide +kernel
theorem d_L_part_5 : decode method_14_code 5 = .ok (.invokevirtual 54, 3) := by decide +kernel
theorem d_L_part_8 : decode method_14_code 8 = .ok (.i2l, 1) := by decide +kernel
theorem d_L_part_9 : decode method_14_code 9 = .ok (.lastore, 1) := by decide +kernel
theorem d_L_part_10 : decode method_14_code 10 = .ok (.goto 7, 3) := by decide +kernel
theorem d_L_part_13 : decode method_14_code 13 = .ok (.astore 4, 2) := by decide +kernel
theorem d_L_part_15 : decode method_14_code 15 = .ok (.iconst 1, 1) := by decide +kernel
theorem d_L_part_16 : decode method_14_code 16 = .ok (.ireturn, 1) := by decide +kernel
theorem d_L_part_17 : decode method_14_code 17 = .ok (.iconst 0, 1) := by decide +kernel
theorem d_L_part_18 : decode method_14_code 18 = .ok (.ireturn, 1) := by decide +kernel
theorem d_L_write_0 : decode method_15_code 0 = .ok (.aload_n 1, 1) := by decide +kernel
theorem d_L_write_1 : decode method_15_code 1 = .ok (.iconst 0, 1) := by decide +kernel
theorem d_L_write_2 : decode method_15_code 2 = .ok (.aload_n 0, 1) := by decide +kernel
theorem d_L_write_3 : decode method_15_code 3 = .ok (.invokevirtual 57, 3) := by decide +kernel
theorem d_L_write_6 : decode method_15_code 6 = .ok (.i2l, 1) := by decide +kernel
theorem d_L_write_7 : decode method_15_code 7 = .ok (.lastore, 1) := by decide +kernel
theorem d_L_write_8 : decode method_15_code 8 = .ok (.goto 6, 3) := by decide +kernel
theorem d_L_write_11 : decode method_15_code 11 = .ok (.astore_n 2, 1) := by decide +kernel
theorem d_L_write_12 : decode method_15_code 12 = .ok (.iconst 1, 1) := by decide +kernel
theorem d_L_write_13 : decode method_15_code 13 = .ok (.ireturn, 1) := by decide +kernel
theorem d_L_write_14 : decode method_15_code 14 = .ok (.iconst 0, 1) := by decide +kernel
theorem d_L_write_15 : decode method_15_code 15 = .ok (.ireturn, 1) := by decide +kernel
theorem d_L_read_0 : decode method_16_code 0 = .ok (.aload_n 2, 1) := by decide +kernel
theorem d_L_read_1 : decode method_16_code 1 = .ok (.iconst 0, 1) := by decide +kernel
theorem d_L_read_2 : decode method_16_code 2 = .ok (.aload_n 0, 1) := by decide +kernel
theorem d_L_read_3 : decode method_16_code 3 = .ok (.iload_n 1, 1) := by decide +kernel
theorem d_L_read_4 : decode method_16_code 4 = .ok (.invokevirtual 60, 3) := by decide +kernel
theorem d_L_read_7 : decode method_16_code 7 = .ok (.i2l, 1) := by decide +kernel
theorem d_L_read_8 : decode method_16_code 8 = .ok (.lastore, 1) := by decide +kernel
theorem d_L_read_9 : decode method_16_code 9 = .ok (.goto 6, 3) := by decide +kernel
theorem d_L_read_12 : decode method_16_code 12 = .ok (.astore_n 3, 1) := by decide +kernel
theorem d_L_read_13 : decode method_16_code 13 = .ok (.iconst 1, 1) := by decide +kernel
theorem d_L_read_14 : decode method_16_code 14 = .ok (.ireturn, 1) := by decide +kernel
theorem d_L_read_15 : decode method_16_code 15 = .ok (.iconst 0, 1) := by decide +kernel
theorem d_L_read_16 : decode method_16_code 16 = .ok (.ireturn, 1) := by decide +kernel
theorem d_L_blame_0 : decode method_17_code 0 = .ok (.aload_n 2, 1) := by decide +kernel
theorem d_L_blame_1 : decode method_17_code 1 = .ok (.iconst 0, 1) := by decide +kernel
theorem d_L_blame_2 : decode method_17_code 2 = .ok (.aload_n 0, 1) := by decide +kernel
theorem d_L_blame_3 : decode method_17_code 3 = .ok (.iload_n 1, 1) := by decide +kernel
theorem d_L_blame_4 : decode method_17_code 4 = .ok (.invokevirtual 63, 3) := by decide +kernel
theorem d_L_blame_7 : decode method_17_code 7 = .ok (.i2l, 1) := by decide +kernel
theorem d_L_blame_8 : decode method_17_code 8 = .ok (.lastore, 1) := by decide +kernel
theorem d_L_blame_9 : decode method_17_code 9 = .ok (.goto 6, 3) := by decide +kernel
theorem d_L_blame_12 : decode method_17_code 12 = .ok (.astore_n 3, 1) := by decide +kernel
theorem d_L_blame_13 : decode method_17_code 13 = .ok (.iconst 1, 1) := by decide +kernel
theorem d_L_blame_14 : decode method_17_code 14 = .ok (.ireturn, 1) := by decide +kernel
theorem d_L_blame_15 : decode method_17_code 15 = .ok (.iconst 0, 1) := by decide +kernel
theorem d_L_blame_16 : decode method_17_code 16 = .ok (.ireturn, 1) := by decide +kernel
theorem d_L_law_0 : decode code 0 = .ok (.new 8, 3) := by decide +kernel
theorem d_L_law_3 : decode code 3 = .ok (.dup, 1) := by decide +kernel
theorem d_L_law_4 : decode code 4 = .ok (.invokespecial 66, 3) := by decide +kernel
theorem d_L_law_7 : decode code 7 = .ok (.astore_n 1, 1) := by decide +kernel
theorem d_L_law_8 : decode code 8 = .ok (.new 67, 3) := by decide +kernel
theorem d_L_law_11 : decode code 11 = .ok (.dup, 1) := by decide +kernel
theorem d_L_law_12 : decode code 12 = .ok (.invokespecial 69, 3) := by decide +kernel
theorem d_L_law_15 : decode code 15 = .ok (.astore_n 2, 1) := by decide +kernel
theorem d_L_law_16 : decode code 16 = .ok (.iconst 1, 1) := by decide +kernel
theorem d_L_law_17 : decode code 17 = .ok (.newarray .long, 2) := by decide +kernel
theorem d_L_law_19 : decode code 19 = .ok (.astore_n 3, 1) := by decide +kernel
theorem d_L_law_20 : decode code 20 = .ok (.iconst 0, 1) := by decide +kernel
theorem d_L_law_21 : decode code 21 = .ok (.istore 4, 2) := by decide +kernel
theorem d_L_law_23 : decode code 23 = .ok (.iload 4, 2) := by decide +kernel
theorem d_L_law_25 : decode code 25 = .ok (.aload_n 0, 1) := by decide +kernel
theorem d_L_law_26 : decode code 26 = .ok (.arraylength, 1) := by decide +kernel
theorem d_L_law_27 : decode code 27 = .ok (.bipush 6, 2) := by decide +kernel
theorem d_L_law_29 : decode code 29 = .ok (.isub, 1) := by decide +kernel
theorem d_L_law_30 : decode code 30 = .ok (.if_icmp .gt 994, 3) := by decide +kernel
theorem d_L_law_33 : decode code 33 = .ok (.aload_n 0, 1) := by decide +kernel
theorem d_L_law_34 : decode code 34 = .ok (.iload 4, 2) := by decide +kernel
theorem d_L_law_36 : decode code 36 = .ok (.iaload, 1) := by decide +kernel
theorem d_L_law_37 : decode code 37 = .ok (.bipush 31, 2) := by decide +kernel
theorem d_L_law_39 : decode code 39 = .ok (.iand, 1) := by decide +kernel
theorem d_L_law_40 : decode code 40 = .ok (.tableswitch 978 0 18 #[92, 176, 212, 260, 273, 329, 385, 396, 440, 508, 544, 592, 605, 673, 741, 809, 853, 909, 965], 92) := by decide +kernel
theorem d_L_law_132 : decode code 132 = .ok (.aload_n 1, 1) := by decide +kernel
theorem d_L_law_133 : decode code 133 = .ok (.aload_n 0, 1) := by decide +kernel
theorem d_L_law_134 : decode code 134 = .ok (.iload 4, 2) := by decide +kernel
theorem d_L_law_136 : decode code 136 = .ok (.iconst 1, 1) := by decide +kernel
theorem d_L_law_137 : decode code 137 = .ok (.iadd, 1) := by decide +kernel
theorem d_L_law_138 : decode code 138 = .ok (.iaload, 1) := by decide +kernel
theorem d_L_law_139 : decode code 139 = .ok (.aload_n 0, 1) := by decide +kernel
theorem d_L_law_140 : decode code 140 = .ok (.iload 4, 2) := by decide +kernel
theorem d_L_law_142 : decode code 142 = .ok (.iconst 2, 1) := by decide +kernel
theorem d_L_law_143 : decode code 143 = .ok (.iadd, 1) := by decide +kernel
theorem d_L_law_144 : decode code 144 = .ok (.iaload, 1) := by decide +kernel
theorem d_L_law_145 : decode code 145 = .ok (.aload_n 0, 1) := by decide +kernel
theorem d_L_law_146 : decode code 146 = .ok (.iload 4, 2) := by decide +kernel
theorem d_L_law_148 : decode code 148 = .ok (.iconst 3, 1) := by decide +kernel
theorem d_L_law_149 : decode code 149 = .ok (.iadd, 1) := by decide +kernel
theorem d_L_law_150 : decode code 150 = .ok (.iaload, 1) := by decide +kernel
theorem d_L_law_151 : decode code 151 = .ok (.aload_n 0, 1) := by decide +kernel
theorem d_L_law_152 : decode code 152 = .ok (.iload 4, 2) := by decide +kernel
theorem d_L_law_154 : decode code 154 = .ok (.iconst 4, 1) := by decide +kernel
theorem d_L_law_155 : decode code 155 = .ok (.iadd, 1) := by decide +kernel
theorem d_L_law_156 : decode code 156 = .ok (.iaload, 1) := by decide +kernel
theorem d_L_law_157 : decode code 157 = .ok (.aload_n 0, 1) := by decide +kernel
theorem d_L_law_158 : decode code 158 = .ok (.iload 4, 2) := by decide +kernel
theorem d_L_law_160 : decode code 160 = .ok (.iconst 5, 1) := by decide +kernel
theorem d_L_law_161 : decode code 161 = .ok (.iadd, 1) := by decide +kernel
theorem d_L_law_162 : decode code 162 = .ok (.iaload, 1) := by decide +kernel
theorem d_L_law_163 : decode code 163 = .ok (.invokestatic 70, 3) := by decide +kernel
theorem d_L_law_166 : decode code 166 = .ok (.istore 5, 2) := by decide +kernel
theorem d_L_law_168 : decode code 168 = .ok (.aload_n 2, 1) := by decide +kernel
theorem d_L_law_169 : decode code 169 = .ok (.aload_n 0, 1) := by decide +kernel
theorem d_L_law_170 : decode code 170 = .ok (.iload 4, 2) := by decide +kernel
theorem d_L_law_172 : decode code 172 = .ok (.iconst 1, 1) := by decide +kernel
theorem d_L_law_173 : decode code 173 = .ok (.iadd, 1) := by decide +kernel
theorem d_L_law_174 : decode code 174 = .ok (.iaload, 1) := by decide +kernel
theorem d_L_law_175 : decode code 175 = .ok (.aload_n 0, 1) := by decide +kernel
theorem d_L_law_176 : decode code 176 = .ok (.iload 4, 2) := by decide +kernel
theorem d_L_law_178 : decode code 178 = .ok (.iconst 2, 1) := by decide +kernel
theorem d_L_law_179 : decode code 179 = .ok (.iadd, 1) := by decide +kernel
theorem d_L_law_180 : decode code 180 = .ok (.iaload, 1) := by decide +kernel
theorem d_L_law_181 : decode code 181 = .ok (.aload_n 0, 1) := by decide +kernel
theorem d_L_law_182 : decode code 182 = .ok (.iload 4, 2) := by decide +kernel
theorem d_L_law_184 : decode code 184 = .ok (.iconst 3, 1) := by decide +kernel
theorem d_L_law_185 : decode code 185 = .ok (.iadd, 1) := by decide +kernel
theorem d_L_law_186 : decode code 186 = .ok (.iaload, 1) := by decide +kernel
theorem d_L_law_187 : decode code 187 = .ok (.aload_n 0, 1) := by decide +kernel
theorem d_L_law_188 : decode code 188 = .ok (.iload 4, 2) := by decide +kernel
theorem d_L_law_190 : decode code 190 = .ok (.iconst 4, 1) := by decide +kernel
theorem d_L_law_191 : decode code 191 = .ok (.iadd, 1) := by decide +kernel
theorem d_L_law_192 : decode code 192 = .ok (.iaload, 1) := by decide +kernel
theorem d_L_law_193 : decode code 193 = .ok (.aload_n 0, 1) := by decide +kernel
theorem d_L_law_194 : decode code 194 = .ok (.iload 4, 2) := by decide +kernel
theorem d_L_law_196 : decode code 196 = .ok (.iconst 5, 1) := by decide +kernel
theorem d_L_law_197 : decode code 197 = .ok (.iadd, 1) := by decide +kernel
theorem d_L_law_198 : decode code 198 = .ok (.iaload, 1) := by decide +kernel
theorem d_L_law_199 : decode code 199 = .ok (.invokevirtual 75, 3) := by decide +kernel
theorem d_L_law_202 : decode code 202 = .ok (.aload_n 2, 1) := by decide +kernel
theorem d_L_law_203 : decode code 203 = .ok (.invokevirtual 76, 3) := by decide +kernel
theorem d_L_law_206 : decode code 206 = .ok (.iload 5, 2) := by decide +kernel
theorem d_L_law_208 : decode code 208 = .ok (.if_icmp .eq 5, 3) := by decide +kernel
theorem d_L_law_211 : decode code 211 = .ok (.iconst 0, 1) := by decide +kernel
theorem d_L_law_212 : decode code 212 = .ok (.ireturn, 1) := by decide +kernel
theorem d_L_law_213 : decode code 213 = .ok (.goto 805, 3) := by decide +kernel
theorem d_L_law_216 : decode code 216 = .ok (.aload_n 1, 1) := by decide +kernel
theorem d_L_law_217 : decode code 217 = .ok (.aload_n 0, 1) := by decide +kernel
theorem d_L_law_218 : decode code 218 = .ok (.iload 4, 2) := by decide +kernel
theorem d_L_law_220 : decode code 220 = .ok (.iconst 1, 1) := by decide +kernel
theorem d_L_law_221 : decode code 221 = .ok (.iadd, 1) := by decide +kernel
theorem d_L_law_222 : decode code 222 = .ok (.iaload, 1) := by decide +kernel
theorem d_L_law_223 : decode code 223 = .ok (.invokestatic 79, 3) := by decide +kernel
theorem d_L_law_226 : decode code 226 = .ok (.istore 5, 2) := by decide +kernel
theorem d_L_law_228 : decode code 228 = .ok (.aload_n 2, 1) := by decide +kernel
theorem d_L_law_229 : decode code 229 = .ok (.aload_n 0, 1) := by decide +kernel
theorem d_L_law_230 : decode code 230 = .ok (.iload 4, 2) := by decide +kernel
theorem d_L_law_232 : decode code 232 = .ok (.iconst 1, 1) := by decide +kernel
theorem d_L_law_233 : decode code 233 = .ok (.iadd, 1) := by decide +kernel
theorem d_L_law_234 : decode code 234 = .ok (.iaload, 1) := by decide +kernel
theorem d_L_law_235 : decode code 235 = .ok (.invokevirtual 82, 3) := by decide +kernel
theorem d_L_law_238 : decode code 238 = .ok (.aload_n 2, 1) := by decide +kernel
theorem d_L_law_239 : decode code 239 = .ok (.invokevirtual 76, 3) := by decide +kernel
theorem d_L_law_242 : decode code 242 = .ok (.iload 5, 2) := by decide +kernel
theorem d_L_law_244 : decode code 244 = .ok (.if_icmp .eq 5, 3) := by decide +kernel
theorem d_L_law_247 : decode code 247 = .ok (.iconst 0, 1) := by decide +kernel
theorem d_L_law_248 : decode code 248 = .ok (.ireturn, 1) := by decide +kernel
theorem d_L_law_249 : decode code 249 = .ok (.goto 769, 3) := by decide +kernel
theorem d_L_law_252 : decode code 252 = .ok (.aload_n 1, 1) := by decide +kernel
theorem d_L_law_253 : decode code 253 = .ok (.aload_n 0, 1) := by decide +kernel
theorem d_L_law_254 : decode code 254 = .ok (.iload 4, 2) := by decide +kernel
theorem d_L_law_256 : decode code 256 = .ok (.iconst 1, 1) := by decide +kernel
theorem d_L_law_257 : decode code 257 = .ok (.iadd, 1) := by decide +kernel
theorem d_L_law_258 : decode code 258 = .ok (.iaload, 1) := by decide +kernel
theorem d_L_law_259 : decode code 259 = .ok (.aload_n 0, 1) := by decide +kernel
theorem d_L_law_260 : decode code 260 = .ok (.iload 4, 2) := by decide +kernel
theorem d_L_law_262 : decode code 262 = .ok (.iconst 2, 1) := by decide +kernel
theorem d_L_law_263 : decode code 263 = .ok (.iadd, 1) := by decide +kernel
theorem d_L_law_264 : decode code 264 = .ok (.iaload, 1) := by decide +kernel
theorem d_L_law_265 : decode code 265 = .ok (.invokestatic 83, 3) := by decide +kernel
theorem d_L_law_268 : decode code 268 = .ok (.istore 5, 2) := by decide +kernel
theorem d_L_law_270 : decode code 270 = .ok (.aload_n 2, 1) := by decide +kernel
theorem d_L_law_271 : decode code 271 = .ok (.aload_n 0, 1) := by decide +kernel
theorem d_L_law_272 : decode code 272 = .ok (.iload 4, 2) := by decide +kernel
theorem d_L_law_274 : decode code 274 = .ok (.iconst 1, 1) := by decide +kernel
theorem d_L_law_275 : decode code 275 = .ok (.iadd, 1) := by decide +kernel
theorem d_L_law_276 : decode code 276 = .ok (.iaload, 1) := by decide +kernel
theorem d_L_law_277 : decode code 277 = .ok (.aload_n 0, 1) := by decide +kernel
theorem d_L_law_278 : decode code 278 = .ok (.iload 4, 2) := by decide +kernel
theorem d_L_law_280 : decode code 280 = .ok (.iconst 2, 1) := by decide +kernel
theorem d_L_law_281 : decode code 281 = .ok (.iadd, 1) := by decide +kernel
theorem d_L_law_282 : decode code 282 = .ok (.iaload, 1) := by decide +kernel
theorem d_L_law_283 : decode code 283 = .ok (.invokevirtual 86, 3) := by decide +kernel
theorem d_L_law_286 : decode code 286 = .ok (.aload_n 2, 1) := by decide +kernel
theorem d_L_law_287 : decode code 287 = .ok (.invokevirtual 76, 3) := by decide +kernel
theorem d_L_law_290 : decode code 290 = .ok (.iload 5, 2) := by decide +kernel
theorem d_L_law_292 : decode code 292 = .ok (.if_icmp .eq 5, 3) := by decide +kernel
theorem d_L_law_295 : decode code 295 = .ok (.iconst 0, 1) := by decide +kernel
theorem d_L_law_296 : decode code 296 = .ok (.ireturn, 1) := by decide +kernel
theorem d_L_law_297 : decode code 297 = .ok (.goto 721, 3) := by decide +kernel
theorem d_L_law_300 : decode code 300 = .ok (.aload_n 1, 1) := by decide +kernel
theorem d_L_law_301 : decode code 301 = .ok (.invokevirtual 87, 3) := by decide +kernel
theorem d_L_law_304 : decode code 304 = .ok (.aload_n 2, 1) := by decide +kernel
theorem d_L_law_305 : decode code 305 = .ok (.invokevirtual 90, 3) := by decide +kernel
theorem d_L_law_308 : decode code 308 = .ok (.if_icmp .eq 710, 3) := by decide +kernel
theorem d_L_law_311 : decode code 311 = .ok (.iconst 0, 1) := by decide +kernel
theorem d_L_law_312 : decode code 312 = .ok (.ireturn, 1) := by decide +kernel
theorem d_L_law_313 : decode code 313 = .ok (.aload_n 1, 1) := by decide +kernel
theorem d_L_law_314 : decode code 314 = .ok (.aload_n 0, 1) := by decide +kernel
theorem d_L_law_315 : decode code 315 = .ok (.iload 4, 2) := by decide +kernel
theorem d_L_law_317 : decode code 317 = .ok (.iconst 1, 1) := by decide +kernel
theorem d_L_law_318 : decode code 318 = .ok (.iadd, 1) := by decide +kernel
theorem d_L_law_319 : decode code 319 = .ok (.iaload, 1) := by decide +kernel
theorem d_L_law_320 : decode code 320 = .ok (.aload_n 3, 1) := by decide +kernel
theorem d_L_law_321 : decode code 321 = .ok (.invokestatic 91, 3) := by decide +kernel
theorem d_L_law_324 : decode code 324 = .ok (.istore 5, 2) := by decide +kernel
theorem d_L_law_326 : decode code 326 = .ok (.aload_n 2, 1) := by decide +kernel
theorem d_L_law_327 : decode code 327 = .ok (.aload_n 0, 1) := by decide +kernel
theorem d_L_law_328 : decode code 328 = .ok (.iload 4, 2) := by decide +kernel
theorem d_L_law_330 : decode code 330 = .ok (.iconst 1, 1) := by decide +kernel
theorem d_L_law_331 : decode code 331 = .ok (.iadd, 1) := by decide +kernel
theorem d_L_law_332 : decode code 332 = .ok (.iaload, 1) := by decide +kernel
theorem d_L_law_333 : decode code 333 = .ok (.invokevirtual 94, 3) := by decide +kernel
theorem d_L_law_336 : decode code 336 = .ok (.istore 6, 2) := by decide +kernel
theorem d_L_law_338 : decode code 338 = .ok (.aload_n 2, 1) := by decide +kernel
theorem d_L_law_339 : decode code 339 = .ok (.invokevirtual 76, 3) := by decide +kernel
theorem d_L_law_342 : decode code 342 = .ok (.iload 5, 2) := by decide +kernel
theorem d_L_law_344 : decode code 344 = .ok (.if_icmp .eq 5, 3) := by decide +kernel
theorem d_L_law_347 : decode code 347 = .ok (.iconst 0, 1) := by decide +kernel
theorem d_L_law_348 : decode code 348 = .ok (.ireturn, 1) := by decide +kernel
theorem d_L_law_349 : decode code 349 = .ok (.iload 5, 2) := by decide +kernel
theorem d_L_law_351 : decode code 351 = .ok (.ifCond .ne 15, 3) := by decide +kernel
theorem d_L_law_354 : decode code 354 = .ok (.aload_n 3, 1) := by decide +kernel
theorem d_L_law_355 : decode code 355 = .ok (.iconst 0, 1) := by decide +kernel
theorem d_L_law_356 : decode code 356 = .ok (.laload, 1) := by decide +kernel
theorem d_L_law_357 : decode code 357 = .ok (.iload 6, 2) := by decide +kernel
theorem d_L_law_359 : decode code 359 = .ok (.i2l, 1) := by decide +kernel
theorem d_L_law_360 : decode code 360 = .ok (.lcmp, 1) := by decide +kernel
theorem d_L_law_361 : decode code 361 = .ok (.ifCond .eq 5, 3) := by decide +kernel
theorem d_L_law_364 : decode code 364 = .ok (.iconst 0, 1) := by decide +kernel
theorem d_L_law_365 : decode code 365 = .ok (.ireturn, 1) := by decide +kernel
theorem d_L_law_366 : decode code 366 = .ok (.goto 652, 3) := by decide +kernel
theorem d_L_law_369 : decode code 369 = .ok (.aload_n 1, 1) := by decide +kernel
theorem d_L_law_370 : decode code 370 = .ok (.aload_n 0, 1) := by decide +kernel
theorem d_L_law_371 : decode code 371 = .ok (.iload 4, 2) := by decide +kernel
theorem d_L_law_373 : decode code 373 = .ok (.iconst 1, 1) := by decide +kernel
theorem d_L_law_374 : decode code 374 = .ok (.iadd, 1) := by decide +kernel
theorem d_L_law_375 : decode code 375 = .ok (.iaload, 1) := by decide +kernel
theorem d_L_law_376 : decode code 376 = .ok (.aload_n 3, 1) := by decide +kernel
theorem d_L_law_377 : decode code 377 = .ok (.invokestatic 95, 3) := by decide +kernel
theorem d_L_law_380 : decode code 380 = .ok (.istore 5, 2) := by decide +kernel
theorem d_L_law_382 : decode code 382 = .ok (.aload_n 2, 1) := by decide +kernel
theorem d_L_law_383 : decode code 383 = .ok (.aload_n 0, 1) := by decide +kernel
theorem d_L_law_384 : decode code 384 = .ok (.iload 4, 2) := by decide +kernel
theorem d_L_law_386 : decode code 386 = .ok (.iconst 1, 1) := by decide +kernel
theorem d_L_law_387 : decode code 387 = .ok (.iadd, 1) := by decide +kernel
theorem d_L_law_388 : decode code 388 = .ok (.iaload, 1) := by decide +kernel
theorem d_L_law_389 : decode code 389 = .ok (.invokevirtual 97, 3) := by decide +kernel
theorem d_L_law_392 : decode code 392 = .ok (.istore 6, 2) := by decide +kernel
theorem d_L_law_394 : decode code 394 = .ok (.aload_n 2, 1) := by decide +kernel
theorem d_L_law_395 : decode code 395 = .ok (.invokevirtual 76, 3) := by decide +kernel
theorem d_L_law_398 : decode code 398 = .ok (.iload 5, 2) := by decide +kernel
theorem d_L_law_400 : decode code 400 = .ok (.if_icmp .eq 5, 3) := by decide +kernel
theorem d_L_law_403 : decode code 403 = .ok (.iconst 0, 1) := by decide +kernel
theorem d_L_law_404 : decode code 404 = .ok (.ireturn, 1) := by decide +kernel
theorem d_L_law_405 : decode code 405 = .ok (.iload 5, 2) := by decide +kernel
theorem d_L_law_407 : decode code 407 = .ok (.ifCond .ne 15, 3) := by decide +kernel
theorem d_L_law_410 : decode code 410 = .ok (.aload_n 3, 1) := by decide +kernel
theorem d_L_law_411 : decode code 411 = .ok (.iconst 0, 1) := by decide +kernel
theorem d_L_law_412 : decode code 412 = .ok (.laload, 1) := by decide +kernel
theorem d_L_law_413 : decode code 413 = .ok (.iload 6, 2) := by decide +kernel
theorem d_L_law_415 : decode code 415 = .ok (.i2l, 1) := by decide +kernel
theorem d_L_law_416 : decode code 416 = .ok (.lcmp, 1) := by decide +kernel
theorem d_L_law_417 : decode code 417 = .ok (.ifCond .eq 5, 3) := by decide +kernel
theorem d_L_law_420 : decode code 420 = .ok (.iconst 0, 1) := by decide +kernel
theorem d_L_law_421 : decode code 421 = .ok (.ireturn, 1) := by decide +kernel
theorem d_L_law_422 : decode code 422 = .ok (.goto 596, 3) := by decide +kernel
theorem d_L_law_425 : decode code 425 = .ok (.aload_n 1, 1) := by decide +kernel
theorem d_L_law_426 : decode code 426 = .ok (.invokevirtual 98, 3) := by decide +kernel
theorem d_L_law_429 : decode code 429 = .ok (.aload_n 2, 1) := by decide +kernel
theorem d_L_law_430 : decode code 430 = .ok (.invokevirtual 101, 3) := by decide +kernel
theorem d_L_law_433 : decode code 433 = .ok (.goto 585, 3) := by decide +kernel
theorem d_L_law_436 : decode code 436 = .ok (.aload_n 1, 1) := by decide +kernel
theorem d_L_law_437 : decode code 437 = .ok (.aload_n 3, 1) := by decide +kernel
theorem d_L_law_438 : decode code 438 = .ok (.invokestatic 102, 3) := by decide +kernel
theorem d_L_law_441 : decode code 441 = .ok (.istore 5, 2) := by decide +kernel
theorem d_L_law_443 : decode code 443 = .ok (.aload_n 2, 1) := by decide +kernel
theorem d_L_law_444 : decode code 444 = .ok (.invokevirtual 105, 3) := by decide +kernel
theorem d_L_law_447 : decode code 447 = .ok (.istore 6, 2) := by decide +kernel
theorem d_L_law_449 : decode code 449 = .ok (.aload_n 2, 1) := by decide +kernel
theorem d_L_law_450 : decode code 450 = .ok (.invokevirtual 76, 3) := by decide +kernel
theorem d_L_law_453 : decode code 453 = .ok (.iload 5, 2) := by decide +kernel
theorem d_L_law_455 : decode code 455 = .ok (.if_icmp .eq 5, 3) := by decide +kernel
theorem d_L_law_458 : decode code 458 = .ok (.iconst 0, 1) := by decide +kernel
theorem d_L_law_459 : decode code 459 = .ok (.ireturn, 1) := by decide +kernel
theorem d_L_law_460 : decode code 460 = .ok (.iload 5, 2) := by decide +kernel
theorem d_L_law_462 : decode code 462 = .ok (.ifCond .ne 15, 3) := by decide +kernel
theorem d_L_law_465 : decode code 465 = .ok (.aload_n 3, 1) := by decide +kernel
theorem d_L_law_466 : decode code 466 = .ok (.iconst 0, 1) := by decide +kernel
theorem d_L_law_467 : decode code 467 = .ok (.laload, 1) := by decide +kernel
theorem d_L_law_468 : decode code 468 = .ok (.iload 6, 2) := by decide +kernel
theorem d_L_law_470 : decode code 470 = .ok (.i2l, 1) := by decide +kernel
theorem d_L_law_471 : decode code 471 = .ok (.lcmp, 1) := by decide +kernel
theorem d_L_law_472 : decode code 472 = .ok (.ifCond .eq 5, 3) := by decide +kernel
theorem d_L_law_475 : decode code 475 = .ok (.iconst 0, 1) := by decide +kernel
theorem d_L_law_476 : decode code 476 = .ok (.ireturn, 1) := by decide +kernel
theorem d_L_law_477 : decode code 477 = .ok (.goto 541, 3) := by decide +kernel
theorem d_L_law_480 : decode code 480 = .ok (.aload_n 1, 1) := by decide +kernel
theorem d_L_law_481 : decode code 481 = .ok (.aload_n 0, 1) := by decide +kernel
theorem d_L_law_482 : decode code 482 = .ok (.iload 4, 2) := by decide +kernel
theorem d_L_law_484 : decode code 484 = .ok (.iconst 1, 1) := by decide +kernel
theorem d_L_law_485 : decode code 485 = .ok (.iadd, 1) := by decide +kernel
theorem d_L_law_486 : decode code 486 = .ok (.iaload, 1) := by decide +kernel
theorem d_L_law_487 : decode code 487 = .ok (.aload_n 0, 1) := by decide +kernel
theorem d_L_law_488 : decode code 488 = .ok (.iload 4, 2) := by decide +kernel
theorem d_L_law_490 : decode code 490 = .ok (.iconst 2, 1) := by decide +kernel
theorem d_L_law_491 : decode code 491 = .ok (.iadd, 1) := by decide +kernel
theorem d_L_law_492 : decode code 492 = .ok (.iaload, 1) := by decide +kernel
theorem d_L_law_493 : decode code 493 = .ok (.aload_n 3, 1) := by decide +kernel
theorem d_L_law_494 : decode code 494 = .ok (.invokestatic 106, 3) := by decide +kernel
theorem d_L_law_497 : decode code 497 = .ok (.istore 5, 2) := by decide +kernel
theorem d_L_law_499 : decode code 499 = .ok (.aload_n 2, 1) := by decide +kernel
theorem d_L_law_500 : decode code 500 = .ok (.aload_n 0, 1) := by decide +kernel
theorem d_L_law_501 : decode code 501 = .ok (.iload 4, 2) := by decide +kernel
theorem d_L_law_503 : decode code 503 = .ok (.iconst 1, 1) := by decide +kernel
theorem d_L_law_504 : decode code 504 = .ok (.iadd, 1) := by decide +kernel
theorem d_L_law_505 : decode code 505 = .ok (.iaload, 1) := by decide +kernel
theorem d_L_law_506 : decode code 506 = .ok (.aload_n 0, 1) := by decide +kernel
theorem d_L_law_507 : decode code 507 = .ok (.iload 4, 2) := by decide +kernel
theorem d_L_law_509 : decode code 509 = .ok (.iconst 2, 1) := by decide +kernel
theorem d_L_law_510 : decode code 510 = .ok (.iadd, 1) := by decide +kernel
theorem d_L_law_511 : decode code 511 = .ok (.iaload, 1) := by decide +kernel
theorem d_L_law_512 : decode code 512 = .ok (.invokevirtual 109, 3) := by decide +kernel
theorem d_L_law_515 : decode code 515 = .ok (.istore 6, 2) := by decide +kernel
theorem d_L_law_517 : decode code 517 = .ok (.aload_n 2, 1) := by decide +kernel
theorem d_L_law_518 : decode code 518 = .ok (.invokevirtual 76, 3) := by decide +kernel
theorem d_L_law_521 : decode code 521 = .ok (.iload 5, 2) := by decide +kernel
theorem d_L_law_523 : decode code 523 = .ok (.if_icmp .eq 5, 3) := by decide +kernel
theorem d_L_law_526 : decode code 526 = .ok (.iconst 0, 1) := by decide +kernel
theorem d_L_law_527 : decode code 527 = .ok (.ireturn, 1) := by decide +kernel
theorem d_L_law_528 : decode code 528 = .ok (.iload 5, 2) := by decide +kernel
theorem d_L_law_530 : decode code 530 = .ok (.ifCond .ne 15, 3) := by decide +kernel
theorem d_L_law_533 : decode code 533 = .ok (.aload_n 3, 1) := by decide +kernel
theorem d_L_law_534 : decode code 534 = .ok (.iconst 0, 1) := by decide +kernel
theorem d_L_law_535 : decode code 535 = .ok (.laload, 1) := by decide +kernel
theorem d_L_law_536 : decode code 536 = .ok (.iload 6, 2) := by decide +kernel
theorem d_L_law_538 : decode code 538 = .ok (.i2l, 1) := by decide +kernel
theorem d_L_law_539 : decode code 539 = .ok (.lcmp, 1) := by decide +kernel
theorem d_L_law_540 : decode code 540 = .ok (.ifCond .eq 5, 3) := by decide +kernel
theorem d_L_law_543 : decode code 543 = .ok (.iconst 0, 1) := by decide +kernel
theorem d_L_law_544 : decode code 544 = .ok (.ireturn, 1) := by decide +kernel
theorem d_L_law_545 : decode code 545 = .ok (.goto 473, 3) := by decide +kernel
theorem d_L_law_548 : decode code 548 = .ok (.aload_n 1, 1) := by decide +kernel
theorem d_L_law_549 : decode code 549 = .ok (.aload_n 0, 1) := by decide +kernel
theorem d_L_law_550 : decode code 550 = .ok (.iload 4, 2) := by decide +kernel
theorem d_L_law_552 : decode code 552 = .ok (.iconst 1, 1) := by decide +kernel
theorem d_L_law_553 : decode code 553 = .ok (.iadd, 1) := by decide +kernel
theorem d_L_law_554 : decode code 554 = .ok (.iaload, 1) := by decide +kernel
theorem d_L_law_555 : decode code 555 = .ok (.invokestatic 110, 3) := by decide +kernel
theorem d_L_law_558 : decode code 558 = .ok (.istore 5, 2) := by decide +kernel
theorem d_L_law_560 : decode code 560 = .ok (.aload_n 2, 1) := by decide +kernel
theorem d_L_law_561 : decode code 561 = .ok (.aload_n 0, 1) := by decide +kernel
theorem d_L_law_562 : decode code 562 = .ok (.iload 4, 2) := by decide +kernel
theorem d_L_law_564 : decode code 564 = .ok (.iconst 1, 1) := by decide +kernel
theorem d_L_law_565 : decode code 565 = .ok (.iadd, 1) := by decide +kernel
theorem d_L_law_566 : decode code 566 = .ok (.iaload, 1) := by decide +kernel
theorem d_L_law_567 : decode code 567 = .ok (.invokevirtual 112, 3) := by decide +kernel
theorem d_L_law_570 : decode code 570 = .ok (.aload_n 2, 1) := by decide +kernel
theorem d_L_law_571 : decode code 571 = .ok (.invokevirtual 76, 3) := by decide +kernel
theorem d_L_law_574 : decode code 574 = .ok (.iload 5, 2) := by decide +kernel
theorem d_L_law_576 : decode code 576 = .ok (.if_icmp .eq 5, 3) := by decide +kernel
theorem d_L_law_579 : decode code 579 = .ok (.iconst 0, 1) := by decide +kernel
theorem d_L_law_580 : decode code 580 = .ok (.ireturn, 1) := by decide +kernel
theorem d_L_law_581 : decode code 581 = .ok (.goto 437, 3) := by decide +kernel
theorem d_L_law_584 : decode code 584 = .ok (.aload_n 1, 1) := by decide +kernel
theorem d_L_law_585 : decode code 585 = .ok (.aload_n 0, 1) := by decide +kernel
theorem d_L_law_586 : decode code 586 = .ok (.iload 4, 2) := by decide +kernel
theorem d_L_law_588 : decode code 588 = .ok (.iconst 1, 1) := by decide +kernel
theorem d_L_law_589 : decode code 589 = .ok (.iadd, 1) := by decide +kernel
theorem d_L_law_590 : decode code 590 = .ok (.iaload, 1) := by decide +kernel
theorem d_L_law_591 : decode code 591 = .ok (.aload_n 0, 1) := by decide +kernel
theorem d_L_law_592 : decode code 592 = .ok (.iload 4, 2) := by decide +kernel
theorem d_L_law_594 : decode code 594 = .ok (.iconst 2, 1) := by decide +kernel
theorem d_L_law_595 : decode code 595 = .ok (.iadd, 1) := by decide +kernel
theorem d_L_law_596 : decode code 596 = .ok (.iaload, 1) := by decide +kernel
theorem d_L_law_597 : decode code 597 = .ok (.invokestatic 113, 3) := by decide +kernel
theorem d_L_law_600 : decode code 600 = .ok (.istore 5, 2) := by decide +kernel
theorem d_L_law_602 : decode code 602 = .ok (.aload_n 2, 1) := by decide +kernel
theorem d_L_law_603 : decode code 603 = .ok (.aload_n 0, 1) := by decide +kernel
theorem d_L_law_604 : decode code 604 = .ok (.iload 4, 2) := by decide +kernel
theorem d_L_law_606 : decode code 606 = .ok (.iconst 1, 1) := by decide +kernel
theorem d_L_law_607 : decode code 607 = .ok (.iadd, 1) := by decide +kernel
theorem d_L_law_608 : decode code 608 = .ok (.iaload, 1) := by decide +kernel
theorem d_L_law_609 : decode code 609 = .ok (.aload_n 0, 1) := by decide +kernel
theorem d_L_law_610 : decode code 610 = .ok (.iload 4, 2) := by decide +kernel
theorem d_L_law_612 : decode code 612 = .ok (.iconst 2, 1) := by decide +kernel
theorem d_L_law_613 : decode code 613 = .ok (.iadd, 1) := by decide +kernel
theorem d_L_law_614 : decode code 614 = .ok (.iaload, 1) := by decide +kernel
theorem d_L_law_615 : decode code 615 = .ok (.invokevirtual 115, 3) := by decide +kernel
theorem d_L_law_618 : decode code 618 = .ok (.aload_n 2, 1) := by decide +kernel
theorem d_L_law_619 : decode code 619 = .ok (.invokevirtual 76, 3) := by decide +kernel
theorem d_L_law_622 : decode code 622 = .ok (.iload 5, 2) := by decide +kernel
theorem d_L_law_624 : decode code 624 = .ok (.if_icmp .eq 5, 3) := by decide +kernel
theorem d_L_law_627 : decode code 627 = .ok (.iconst 0, 1) := by decide +kernel
theorem d_L_law_628 : decode code 628 = .ok (.ireturn, 1) := by decide +kernel
theorem d_L_law_629 : decode code 629 = .ok (.goto 389, 3) := by decide +kernel
theorem d_L_law_632 : decode code 632 = .ok (.aload_n 1, 1) := by decide +kernel
theorem d_L_law_633 : decode code 633 = .ok (.invokevirtual 116, 3) := by decide +kernel
theorem d_L_law_636 : decode code 636 = .ok (.aload_n 2, 1) := by decide +kernel
theorem d_L_law_637 : decode code 637 = .ok (.invokevirtual 119, 3) := by decide +kernel
theorem d_L_law_640 : decode code 640 = .ok (.if_icmp .eq 378, 3) := by decide +kernel
theorem d_L_law_643 : decode code 643 = .ok (.iconst 0, 1) := by decide +kernel
theorem d_L_law_644 : decode code 644 = .ok (.ireturn, 1) := by decide +kernel
theorem d_L_law_645 : decode code 645 = .ok (.aload_n 1, 1) := by decide +kernel
theorem d_L_law_646 : decode code 646 = .ok (.aload_n 0, 1) := by decide +kernel
theorem d_L_law_647 : decode code 647 = .ok (.iload 4, 2) := by decide +kernel
theorem d_L_law_649 : decode code 649 = .ok (.iconst 1, 1) := by decide +kernel
theorem d_L_law_650 : decode code 650 = .ok (.iadd, 1) := by decide +kernel
theorem d_L_law_651 : decode code 651 = .ok (.iaload, 1) := by decide +kernel
theorem d_L_law_652 : decode code 652 = .ok (.aload_n 0, 1) := by decide +kernel
theorem d_L_law_653 : decode code 653 = .ok (.iload 4, 2) := by decide +kernel
theorem d_L_law_655 : decode code 655 = .ok (.iconst 2, 1) := by decide +kernel
theorem d_L_law_656 : decode code 656 = .ok (.iadd, 1) := by decide +kernel
theorem d_L_law_657 : decode code 657 = .ok (.iaload, 1) := by decide +kernel
theorem d_L_law_658 : decode code 658 = .ok (.aload_n 3, 1) := by decide +kernel
theorem d_L_law_659 : decode code 659 = .ok (.invokestatic 120, 3) := by decide +kernel
theorem d_L_law_662 : decode code 662 = .ok (.istore 5, 2) := by decide +kernel
theorem d_L_law_664 : decode code 664 = .ok (.aload_n 2, 1) := by decide +kernel
theorem d_L_law_665 : decode code 665 = .ok (.aload_n 0, 1) := by decide +kernel
theorem d_L_law_666 : decode code 666 = .ok (.iload 4, 2) := by decide +kernel
theorem d_L_law_668 : decode code 668 = .ok (.iconst 1, 1) := by decide +kernel
theorem d_L_law_669 : decode code 669 = .ok (.iadd, 1) := by decide +kernel
theorem d_L_law_670 : decode code 670 = .ok (.iaload, 1) := by decide +kernel
theorem d_L_law_671 : decode code 671 = .ok (.aload_n 0, 1) := by decide +kernel
theorem d_L_law_672 : decode code 672 = .ok (.iload 4, 2) := by decide +kernel
theorem d_L_law_674 : decode code 674 = .ok (.iconst 2, 1) := by decide +kernel
theorem d_L_law_675 : decode code 675 = .ok (.iadd, 1) := by decide +kernel
theorem d_L_law_676 : decode code 676 = .ok (.iaload, 1) := by decide +kernel
theorem d_L_law_677 : decode code 677 = .ok (.invokevirtual 122, 3) := by decide +kernel
theorem d_L_law_680 : decode code 680 = .ok (.istore 6, 2) := by decide +kernel
theorem d_L_law_682 : decode code 682 = .ok (.aload_n 2, 1) := by decide +kernel
theorem d_L_law_683 : decode code 683 = .ok (.invokevirtual 76, 3) := by decide +kernel
theorem d_L_law_686 : decode code 686 = .ok (.iload 5, 2) := by decide +kernel
theorem d_L_law_688 : decode code 688 = .ok (.if_icmp .eq 5, 3) := by decide +kernel
theorem d_L_law_691 : decode code 691 = .ok (.iconst 0, 1) := by decide +kernel
theorem d_L_law_692 : decode code 692 = .ok (.ireturn, 1) := by decide +kernel
theorem d_L_law_693 : decode code 693 = .ok (.iload 5, 2) := by decide +kernel
theorem d_L_law_695 : decode code 695 = .ok (.ifCond .ne 15, 3) := by decide +kernel
theorem d_L_law_698 : decode code 698 = .ok (.aload_n 3, 1) := by decide +kernel
theorem d_L_law_699 : decode code 699 = .ok (.iconst 0, 1) := by decide +kernel
theorem d_L_law_700 : decode code 700 = .ok (.laload, 1) := by decide +kernel
theorem d_L_law_701 : decode code 701 = .ok (.iload 6, 2) := by decide +kernel
theorem d_L_law_703 : decode code 703 = .ok (.i2l, 1) := by decide +kernel
theorem d_L_law_704 : decode code 704 = .ok (.lcmp, 1) := by decide +kernel
theorem d_L_law_705 : decode code 705 = .ok (.ifCond .eq 5, 3) := by decide +kernel
theorem d_L_law_708 : decode code 708 = .ok (.iconst 0, 1) := by decide +kernel
theorem d_L_law_709 : decode code 709 = .ok (.ireturn, 1) := by decide +kernel
theorem d_L_law_710 : decode code 710 = .ok (.goto 308, 3) := by decide +kernel
theorem d_L_law_713 : decode code 713 = .ok (.aload_n 1, 1) := by decide +kernel
theorem d_L_law_714 : decode code 714 = .ok (.aload_n 0, 1) := by decide +kernel
theorem d_L_law_715 : decode code 715 = .ok (.iload 4, 2) := by decide +kernel
theorem d_L_law_717 : decode code 717 = .ok (.iconst 1, 1) := by decide +kernel
theorem d_L_law_718 : decode code 718 = .ok (.iadd, 1) := by decide +kernel
theorem d_L_law_719 : decode code 719 = .ok (.iaload, 1) := by decide +kernel
theorem d_L_law_720 : decode code 720 = .ok (.aload_n 0, 1) := by decide +kernel
theorem d_L_law_721 : decode code 721 = .ok (.iload 4, 2) := by decide +kernel
theorem d_L_law_723 : decode code 723 = .ok (.iconst 2, 1) := by decide +kernel
theorem d_L_law_724 : decode code 724 = .ok (.iadd, 1) := by decide +kernel
theorem d_L_law_725 : decode code 725 = .ok (.iaload, 1) := by decide +kernel
theorem d_L_law_726 : decode code 726 = .ok (.aload_n 3, 1) := by decide +kernel
theorem d_L_law_727 : decode code 727 = .ok (.invokestatic 123, 3) := by decide +kernel
theorem d_L_law_730 : decode code 730 = .ok (.istore 5, 2) := by decide +kernel
theorem d_L_law_732 : decode code 732 = .ok (.aload_n 2, 1) := by decide +kernel
theorem d_L_law_733 : decode code 733 = .ok (.aload_n 0, 1) := by decide +kernel
theorem d_L_law_734 : decode code 734 = .ok (.iload 4, 2) := by decide +kernel
theorem d_L_law_736 : decode code 736 = .ok (.iconst 1, 1) := by decide +kernel
theorem d_L_law_737 : decode code 737 = .ok (.iadd, 1) := by decide +kernel
theorem d_L_law_738 : decode code 738 = .ok (.iaload, 1) := by decide +kernel
theorem d_L_law_739 : decode code 739 = .ok (.aload_n 0, 1) := by decide +kernel
theorem d_L_law_740 : decode code 740 = .ok (.iload 4, 2) := by decide +kernel
theorem d_L_law_742 : decode code 742 = .ok (.iconst 2, 1) := by decide +kernel
theorem d_L_law_743 : decode code 743 = .ok (.iadd, 1) := by decide +kernel
theorem d_L_law_744 : decode code 744 = .ok (.iaload, 1) := by decide +kernel
theorem d_L_law_745 : decode code 745 = .ok (.invokevirtual 125, 3) := by decide +kernel
theorem d_L_law_748 : decode code 748 = .ok (.istore 6, 2) := by decide +kernel
theorem d_L_law_750 : decode code 750 = .ok (.aload_n 2, 1) := by decide +kernel
theorem d_L_law_751 : decode code 751 = .ok (.invokevirtual 76, 3) := by decide +kernel
theorem d_L_law_754 : decode code 754 = .ok (.iload 5, 2) := by decide +kernel
theorem d_L_law_756 : decode code 756 = .ok (.if_icmp .eq 5, 3) := by decide +kernel
theorem d_L_law_759 : decode code 759 = .ok (.iconst 0, 1) := by decide +kernel
theorem d_L_law_760 : decode code 760 = .ok (.ireturn, 1) := by decide +kernel
theorem d_L_law_761 : decode code 761 = .ok (.iload 5, 2) := by decide +kernel
theorem d_L_law_763 : decode code 763 = .ok (.ifCond .ne 15, 3) := by decide +kernel
theorem d_L_law_766 : decode code 766 = .ok (.aload_n 3, 1) := by decide +kernel
theorem d_L_law_767 : decode code 767 = .ok (.iconst 0, 1) := by decide +kernel
theorem d_L_law_768 : decode code 768 = .ok (.laload, 1) := by decide +kernel
theorem d_L_law_769 : decode code 769 = .ok (.iload 6, 2) := by decide +kernel
theorem d_L_law_771 : decode code 771 = .ok (.i2l, 1) := by decide +kernel
theorem d_L_law_772 : decode code 772 = .ok (.lcmp, 1) := by decide +kernel
theorem d_L_law_773 : decode code 773 = .ok (.ifCond .eq 5, 3) := by decide +kernel
theorem d_L_law_776 : decode code 776 = .ok (.iconst 0, 1) := by decide +kernel
theorem d_L_law_777 : decode code 777 = .ok (.ireturn, 1) := by decide +kernel
theorem d_L_law_778 : decode code 778 = .ok (.goto 240, 3) := by decide +kernel
theorem d_L_law_781 : decode code 781 = .ok (.aload_n 1, 1) := by decide +kernel
theorem d_L_law_782 : decode code 782 = .ok (.aload_n 0, 1) := by decide +kernel
theorem d_L_law_783 : decode code 783 = .ok (.iload 4, 2) := by decide +kernel
theorem d_L_law_785 : decode code 785 = .ok (.iconst 1, 1) := by decide +kernel
theorem d_L_law_786 : decode code 786 = .ok (.iadd, 1) := by decide +kernel
theorem d_L_law_787 : decode code 787 = .ok (.iaload, 1) := by decide +kernel
theorem d_L_law_788 : decode code 788 = .ok (.aload_n 0, 1) := by decide +kernel
theorem d_L_law_789 : decode code 789 = .ok (.iload 4, 2) := by decide +kernel
theorem d_L_law_791 : decode code 791 = .ok (.iconst 2, 1) := by decide +kernel
theorem d_L_law_792 : decode code 792 = .ok (.iadd, 1) := by decide +kernel
theorem d_L_law_793 : decode code 793 = .ok (.iaload, 1) := by decide +kernel
theorem d_L_law_794 : decode code 794 = .ok (.aload_n 3, 1) := by decide +kernel
theorem d_L_law_795 : decode code 795 = .ok (.invokestatic 126, 3) := by decide +kernel
theorem d_L_law_798 : decode code 798 = .ok (.istore 5, 2) := by decide +kernel
theorem d_L_law_800 : decode code 800 = .ok (.aload_n 2, 1) := by decide +kernel
theorem d_L_law_801 : decode code 801 = .ok (.aload_n 0, 1) := by decide +kernel
theorem d_L_law_802 : decode code 802 = .ok (.iload 4, 2) := by decide +kernel
theorem d_L_law_804 : decode code 804 = .ok (.iconst 1, 1) := by decide +kernel
theorem d_L_law_805 : decode code 805 = .ok (.iadd, 1) := by decide +kernel
theorem d_L_law_806 : decode code 806 = .ok (.iaload, 1) := by decide +kernel
theorem d_L_law_807 : decode code 807 = .ok (.aload_n 0, 1) := by decide +kernel
theorem d_L_law_808 : decode code 808 = .ok (.iload 4, 2) := by decide +kernel
theorem d_L_law_810 : decode code 810 = .ok (.iconst 2, 1) := by decide +kernel
theorem d_L_law_811 : decode code 811 = .ok (.iadd, 1) := by decide +kernel
theorem d_L_law_812 : decode code 812 = .ok (.iaload, 1) := by decide +kernel
theorem d_L_law_813 : decode code 813 = .ok (.invokevirtual 128, 3) := by decide +kernel
theorem d_L_law_816 : decode code 816 = .ok (.istore 6, 2) := by decide +kernel
theorem d_L_law_818 : decode code 818 = .ok (.aload_n 2, 1) := by decide +kernel
theorem d_L_law_819 : decode code 819 = .ok (.invokevirtual 76, 3) := by decide +kernel
theorem d_L_law_822 : decode code 822 = .ok (.iload 5, 2) := by decide +kernel
theorem d_L_law_824 : decode code 824 = .ok (.if_icmp .eq 5, 3) := by decide +kernel
theorem d_L_law_827 : decode code 827 = .ok (.iconst 0, 1) := by decide +kernel
theorem d_L_law_828 : decode code 828 = .ok (.ireturn, 1) := by decide +kernel
theorem d_L_law_829 : decode code 829 = .ok (.iload 5, 2) := by decide +kernel
theorem d_L_law_831 : decode code 831 = .ok (.ifCond .ne 15, 3) := by decide +kernel
theorem d_L_law_834 : decode code 834 = .ok (.aload_n 3, 1) := by decide +kernel
theorem d_L_law_835 : decode code 835 = .ok (.iconst 0, 1) := by decide +kernel
theorem d_L_law_836 : decode code 836 = .ok (.laload, 1) := by decide +kernel
theorem d_L_law_837 : decode code 837 = .ok (.iload 6, 2) := by decide +kernel
theorem d_L_law_839 : decode code 839 = .ok (.i2l, 1) := by decide +kernel
theorem d_L_law_840 : decode code 840 = .ok (.lcmp, 1) := by decide +kernel
theorem d_L_law_841 : decode code 841 = .ok (.ifCond .eq 5, 3) := by decide +kernel
theorem d_L_law_844 : decode code 844 = .ok (.iconst 0, 1) := by decide +kernel
theorem d_L_law_845 : decode code 845 = .ok (.ireturn, 1) := by decide +kernel
theorem d_L_law_846 : decode code 846 = .ok (.goto 172, 3) := by decide +kernel
theorem d_L_law_849 : decode code 849 = .ok (.aload_n 1, 1) := by decide +kernel
theorem d_L_law_850 : decode code 850 = .ok (.aload_n 3, 1) := by decide +kernel
theorem d_L_law_851 : decode code 851 = .ok (.invokestatic 129, 3) := by decide +kernel
theorem d_L_law_854 : decode code 854 = .ok (.istore 5, 2) := by decide +kernel
theorem d_L_law_856 : decode code 856 = .ok (.aload_n 2, 1) := by decide +kernel
theorem d_L_law_857 : decode code 857 = .ok (.invokevirtual 131, 3) := by decide +kernel
theorem d_L_law_860 : decode code 860 = .ok (.istore 6, 2) := by decide +kernel
theorem d_L_law_862 : decode code 862 = .ok (.aload_n 2, 1) := by decide +kernel
theorem d_L_law_863 : decode code 863 = .ok (.invokevirtual 76, 3) := by decide +kernel
theorem d_L_law_866 : decode code 866 = .ok (.iload 5, 2) := by decide +kernel
theorem d_L_law_868 : decode code 868 = .ok (.if_icmp .eq 5, 3) := by decide +kernel
theorem d_L_law_871 : decode code 871 = .ok (.iconst 0, 1) := by decide +kernel
theorem d_L_law_872 : decode code 872 = .ok (.ireturn, 1) := by decide +kernel
theorem d_L_law_873 : decode code 873 = .ok (.iload 5, 2) := by decide +kernel
theorem d_L_law_875 : decode code 875 = .ok (.ifCond .ne 15, 3) := by decide +kernel
theorem d_L_law_878 : decode code 878 = .ok (.aload_n 3, 1) := by decide +kernel
theorem d_L_law_879 : decode code 879 = .ok (.iconst 0, 1) := by decide +kernel
theorem d_L_law_880 : decode code 880 = .ok (.laload, 1) := by decide +kernel
theorem d_L_law_881 : decode code 881 = .ok (.iload 6, 2) := by decide +kernel
theorem d_L_law_883 : decode code 883 = .ok (.i2l, 1) := by decide +kernel
theorem d_L_law_884 : decode code 884 = .ok (.lcmp, 1) := by decide +kernel
theorem d_L_law_885 : decode code 885 = .ok (.ifCond .eq 5, 3) := by decide +kernel
theorem d_L_law_888 : decode code 888 = .ok (.iconst 0, 1) := by decide +kernel
theorem d_L_law_889 : decode code 889 = .ok (.ireturn, 1) := by decide +kernel
theorem d_L_law_890 : decode code 890 = .ok (.goto 128, 3) := by decide +kernel
theorem d_L_law_893 : decode code 893 = .ok (.aload_n 1, 1) := by decide +kernel
theorem d_L_law_894 : decode code 894 = .ok (.aload_n 0, 1) := by decide +kernel
theorem d_L_law_895 : decode code 895 = .ok (.iload 4, 2) := by decide +kernel
theorem d_L_law_897 : decode code 897 = .ok (.iconst 1, 1) := by decide +kernel
theorem d_L_law_898 : decode code 898 = .ok (.iadd, 1) := by decide +kernel
theorem d_L_law_899 : decode code 899 = .ok (.iaload, 1) := by decide +kernel
theorem d_L_law_900 : decode code 900 = .ok (.aload_n 3, 1) := by decide +kernel
theorem d_L_law_901 : decode code 901 = .ok (.invokestatic 132, 3) := by decide +kernel
theorem d_L_law_904 : decode code 904 = .ok (.istore 5, 2) := by decide +kernel
theorem d_L_law_906 : decode code 906 = .ok (.aload_n 2, 1) := by decide +kernel
theorem d_L_law_907 : decode code 907 = .ok (.aload_n 0, 1) := by decide +kernel
theorem d_L_law_908 : decode code 908 = .ok (.iload 4, 2) := by decide +kernel
theorem d_L_law_910 : decode code 910 = .ok (.iconst 1, 1) := by decide +kernel
theorem d_L_law_911 : decode code 911 = .ok (.iadd, 1) := by decide +kernel
theorem d_L_law_912 : decode code 912 = .ok (.iaload, 1) := by decide +kernel
theorem d_L_law_913 : decode code 913 = .ok (.invokevirtual 134, 3) := by decide +kernel
theorem d_L_law_916 : decode code 916 = .ok (.istore 6, 2) := by decide +kernel
theorem d_L_law_918 : decode code 918 = .ok (.aload_n 2, 1) := by decide +kernel
theorem d_L_law_919 : decode code 919 = .ok (.invokevirtual 76, 3) := by decide +kernel
theorem d_L_law_922 : decode code 922 = .ok (.iload 5, 2) := by decide +kernel
theorem d_L_law_924 : decode code 924 = .ok (.if_icmp .eq 5, 3) := by decide +kernel
theorem d_L_law_927 : decode code 927 = .ok (.iconst 0, 1) := by decide +kernel
theorem d_L_law_928 : decode code 928 = .ok (.ireturn, 1) := by decide +kernel
theorem d_L_law_929 : decode code 929 = .ok (.iload 5, 2) := by decide +kernel
theorem d_L_law_931 : decode code 931 = .ok (.ifCond .ne 15, 3) := by decide +kernel
theorem d_L_law_934 : decode code 934 = .ok (.aload_n 3, 1) := by decide +kernel
theorem d_L_law_935 : decode code 935 = .ok (.iconst 0, 1) := by decide +kernel
theorem d_L_law_936 : decode code 936 = .ok (.laload, 1) := by decide +kernel
theorem d_L_law_937 : decode code 937 = .ok (.iload 6, 2) := by decide +kernel
theorem d_L_law_939 : decode code 939 = .ok (.i2l, 1) := by decide +kernel
theorem d_L_law_940 : decode code 940 = .ok (.lcmp, 1) := by decide +kernel
theorem d_L_law_941 : decode code 941 = .ok (.ifCond .eq 5, 3) := by decide +kernel
theorem d_L_law_944 : decode code 944 = .ok (.iconst 0, 1) := by decide +kernel
theorem d_L_law_945 : decode code 945 = .ok (.ireturn, 1) := by decide +kernel
theorem d_L_law_946 : decode code 946 = .ok (.goto 72, 3) := by decide +kernel
theorem d_L_law_949 : decode code 949 = .ok (.aload_n 1, 1) := by decide +kernel
theorem d_L_law_950 : decode code 950 = .ok (.aload_n 0, 1) := by decide +kernel
theorem d_L_law_951 : decode code 951 = .ok (.iload 4, 2) := by decide +kernel
theorem d_L_law_953 : decode code 953 = .ok (.iconst 1, 1) := by decide +kernel
theorem d_L_law_954 : decode code 954 = .ok (.iadd, 1) := by decide +kernel
theorem d_L_law_955 : decode code 955 = .ok (.iaload, 1) := by decide +kernel
theorem d_L_law_956 : decode code 956 = .ok (.aload_n 3, 1) := by decide +kernel
theorem d_L_law_957 : decode code 957 = .ok (.invokestatic 135, 3) := by decide +kernel
theorem d_L_law_960 : decode code 960 = .ok (.istore 5, 2) := by decide +kernel
theorem d_L_law_962 : decode code 962 = .ok (.aload_n 2, 1) := by decide +kernel
theorem d_L_law_963 : decode code 963 = .ok (.aload_n 0, 1) := by decide +kernel
theorem d_L_law_964 : decode code 964 = .ok (.iload 4, 2) := by decide +kernel
theorem d_L_law_966 : decode code 966 = .ok (.iconst 1, 1) := by decide +kernel
theorem d_L_law_967 : decode code 967 = .ok (.iadd, 1) := by decide +kernel
theorem d_L_law_968 : decode code 968 = .ok (.iaload, 1) := by decide +kernel
theorem d_L_law_969 : decode code 969 = .ok (.invokevirtual 137, 3) := by decide +kernel
theorem d_L_law_972 : decode code 972 = .ok (.istore 6, 2) := by decide +kernel
theorem d_L_law_974 : decode code 974 = .ok (.aload_n 2, 1) := by decide +kernel
theorem d_L_law_975 : decode code 975 = .ok (.invokevirtual 76, 3) := by decide +kernel
theorem d_L_law_978 : decode code 978 = .ok (.iload 5, 2) := by decide +kernel
theorem d_L_law_980 : decode code 980 = .ok (.if_icmp .eq 5, 3) := by decide +kernel
theorem d_L_law_983 : decode code 983 = .ok (.iconst 0, 1) := by decide +kernel
theorem d_L_law_984 : decode code 984 = .ok (.ireturn, 1) := by decide +kernel
theorem d_L_law_985 : decode code 985 = .ok (.iload 5, 2) := by decide +kernel
theorem d_L_law_987 : decode code 987 = .ok (.ifCond .ne 15, 3) := by decide +kernel
theorem d_L_law_990 : decode code 990 = .ok (.aload_n 3, 1) := by decide +kernel
theorem d_L_law_991 : decode code 991 = .ok (.iconst 0, 1) := by decide +kernel
theorem d_L_law_992 : decode code 992 = .ok (.laload, 1) := by decide +kernel
theorem d_L_law_993 : decode code 993 = .ok (.iload 6, 2) := by decide +kernel
theorem d_L_law_995 : decode code 995 = .ok (.i2l, 1) := by decide +kernel
theorem d_L_law_996 : decode code 996 = .ok (.lcmp, 1) := by decide +kernel
theorem d_L_law_997 : decode code 997 = .ok (.ifCond .eq 5, 3) := by decide +kernel
theorem d_L_law_1000 : decode code 1000 = .ok (.iconst 0, 1) := by decide +kernel
theorem d_L_law_1001 : decode code 1001 = .ok (.ireturn, 1) := by decide +kernel
theorem d_L_law_1002 : decode code 1002 = .ok (.goto 16, 3) := by decide +kernel
theorem d_L_law_1005 : decode code 1005 = .ok (.aload_n 1, 1) := by decide +kernel
theorem d_L_law_1006 : decode code 1006 = .ok (.invokevirtual 138, 3) := by decide +kernel
theorem d_L_law_1009 : decode code 1009 = .ok (.aload_n 2, 1) := by decide +kernel
theorem d_L_law_1010 : decode code 1010 = .ok (.invokevirtual 141, 3) := by decide +kernel
theorem d_L_law_1013 : decode code 1013 = .ok (.if_icmp .eq 5, 3) := by decide +kernel
theorem d_L_law_1016 : decode code 1016 = .ok (.iconst 0, 1) := by decide +kernel
theorem d_L_law_1017 : decode code 1017 = .ok (.ireturn, 1) := by decide +kernel
theorem d_L_law_1018 : decode code 1018 = .ok (.iinc 4 6, 3) := by decide +kernel
theorem d_L_law_1021 : decode code 1021 = .ok (.goto (-998), 3) := by decide +kernel
theorem d_L_law_1024 : decode code 1024 = .ok (.iconst 1, 1) := by decide +kernel
theorem d_L_law_1025 : decode code 1025 = .ok (.ireturn, 1) := by decide +kernel
theorem t_L_feed_0 {l : Launch} {G : mm_G} {b : Nat} {m : mm_Mem} {Q : mm_O → mm_Mem → Prop} {r0 : Nat} {x1 : Int32} {x2 : Int32} {x3 : Int32} {x4 : Int32} {x5 : Int32} {b_1 : Nat} {b_2 : Nat} {P_4 : mm_O → mm_Mem → Prop} {fs_5 : List Value} (hb3 : b_1 + b_2 ≤ b) (g6 : m r0 = .inr (0, fs_5)) (z7 : r0 ≠ 0) (M8 : mm_W l G k_P_feed 0 (lv_args 0 [.ref r0, .int x1, .int x2, .int x3, .int x4, .int x5]) [] b_1 m P_4) (hx9 : ∀ (E : String) (n_2 : mm_Mem), P_4 (.inr E) n_2 → mm_WX l G k_L_feed 8 [(0, .ref r0), (1, .int x1), (2, .int x2), (3, .int x3), (4, .int x4), (5, .int x5)] E b_2 n_2 Q) (h10 : ∀ (v : Option Value) (n_2 : mm_Mem), P_4 (.inl v) n_2 → v = none ∧ mm_W l G k_L_feed 11 [] [] b_2 n_2 Q) : mm_W l G k_L_feed 0 [(0, .ref r0), (1, .int x1), (2, .int x2), (3, .int x3), (4, .int x4), (5, .int x5)] [] b m Q := by
  refine mm_aload_n 0 (i := 0) d_L_feed_0 rfl rfl ?_
  refine mm_iload_n 1 (i := 1) d_L_feed_1 rfl rfl ?_
  refine mm_iload_n 2 (i := 2) d_L_feed_2 rfl rfl ?_
  refine mm_iload_n 3 (i := 3) d_L_feed_3 rfl rfl ?_
  refine mm_iload 4 (i := 4) d_L_feed_4 rfl ?_
  refine mm_iload 5 (i := 5) d_L_feed_6 rfl ?_
  refine mm_callV (as := [.int x1, .int x2, .int x3, .int x4, .int x5]) (st := []) (b2 := b_2) ca_P_feed w_297 w_298 w_299 cc_P.1 rfl d_L_feed_8 rfl (Nat.le_of_ble_eq_true rfl) (Nat.le_of_ble_eq_true rfl) (Nat.le_of_ble_eq_true rfl) hb3 g6 z7 M8 (fun E m2 q => hx9 E m2 q) (fun v m2 q => ?_)
  obtain ⟨rfl, z9⟩ := h10 v m2 q
  exact mm_sub [] rfl z9
theorem t_L_feed_11 {l : Launch} {G : mm_G} {b : Nat} {m : mm_Mem} {Q : mm_O → mm_Mem → Prop}  (h1 : mm_W l G k_L_feed 18 [] [] b m Q) : mm_W l G k_L_feed 11 [] [] b m Q := by
  refine mm_goto (tgt := 18) d_L_feed_11 (by decide) ?_
  exact mm_sub [] rfl h1
theorem t_L_feed_16 {l : Launch} {G : mm_G} {b : Nat} {m : mm_Mem} {Q : mm_O → mm_Mem → Prop}  (h1 : Q (.inl (some (.int 1))) m) : mm_W l G k_L_feed 16 [] [] b m Q := by
  refine mm_iconst d_L_feed_16 (v := 1) (by decide) ?_
  exact mm_iret d_L_feed_17 rfl h1
theorem t_L_feed_18 {l : Launch} {G : mm_G} {b : Nat} {m : mm_Mem} {Q : mm_O → mm_Mem → Prop}  (h1 : Q (.inl (some (.int 0))) m) : mm_W l G k_L_feed 18 [] [] b m Q := by
  refine mm_iconst d_L_feed_18 (v := 0) (by decide) ?_
  exact mm_iret d_L_feed_19 rfl h1
theorem t_L_end_0 {l : Launch} {G : mm_G} {b : Nat} {m : mm_Mem} {Q : mm_O → mm_Mem → Prop} {r0 : Nat} {x1 : Int32} {b_1 : Nat} {b_2 : Nat} {P_4 : mm_O → mm_Mem → Prop} {fs_5 : List Value} (hb3 : b_1 + b_2 ≤ b) (g6 : m r0 = .inr (0, fs_5)) (z7 : r0 ≠ 0) (M8 : mm_W l G k_P_end 0 (lv_args 0 [.ref r0, .int x1]) [] b_1 m P_4) (hx9 : ∀ (E : String) (n_2 : mm_Mem), P_4 (.inr E) n_2 → mm_WX l G k_L_end 2 [(0, .ref r0), (1, .int x1)] E b_2 n_2 Q) (h10 : ∀ (v : Option Value) (n_2 : mm_Mem), P_4 (.inl v) n_2 → v = none ∧ mm_W l G k_L_end 5 [] [] b_2 n_2 Q) : mm_W l G k_L_end 0 [(0, .ref r0), (1, .int x1)] [] b m Q := by
  refine mm_aload_n 0 (i := 0) d_L_end_0 rfl rfl ?_
  refine mm_iload_n 1 (i := 1) d_L_end_1 rfl rfl ?_
  refine mm_callV (as := [.int x1]) (st := []) (b2 := b_2) ca_P_end w_384 w_385 w_386 cc_P.1 rfl d_L_end_2 rfl (Nat.le_of_ble_eq_true rfl) (Nat.le_of_ble_eq_true rfl) (Nat.le_of_ble_eq_true rfl) hb3 g6 z7 M8 (fun E m2 q => hx9 E m2 q) (fun v m2 q => ?_)
  obtain ⟨rfl, z9⟩ := h10 v m2 q
  exact mm_sub [] rfl z9
theorem t_L_end_5 {l : Launch} {G : mm_G} {b : Nat} {m : mm_Mem} {Q : mm_O → mm_Mem → Prop}  (h1 : mm_W l G k_L_end 11 [] [] b m Q) : mm_W l G k_L_end 5 [] [] b m Q := by
  refine mm_goto (tgt := 11) d_L_end_5 (by decide) ?_
  exact mm_sub [] rfl h1
theorem t_L_end_9 {l : Launch} {G : mm_G} {b : Nat} {m : mm_Mem} {Q : mm_O → mm_Mem → Prop}  (h1 : Q (.inl (some (.int 1))) m) : mm_W l G k_L_end 9 [] [] b m Q := by
  refine mm_iconst d_L_end_9 (v := 1) (by decide) ?_
  exact mm_iret d_L_end_10 rfl h1
theorem t_L_end_11 {l : Launch} {G : mm_G} {b : Nat} {m : mm_Mem} {Q : mm_O → mm_Mem → Prop}  (h1 : Q (.inl (some (.int 0))) m) : mm_W l G k_L_end 11 [] [] b m Q := by
  refine mm_iconst d_L_end_11 (v := 0) (by decide) ?_
  exact mm_iret d_L_end_12 rfl h1
theorem t_L_alter_0 {l : Launch} {G : mm_G} {b : Nat} {m : mm_Mem} {Q : mm_O → mm_Mem → Prop} {r0 : Nat} {x1 : Int32} {x2 : Int32} {b_1 : Nat} {b_2 : Nat} {P_4 : mm_O → mm_Mem → Prop} {fs_5 : List Value} (hb3 : b_1 + b_2 ≤ b) (g6 : m r0 = .inr (0, fs_5)) (z7 : r0 ≠ 0) (M8 : mm_W l G k_P_alter 0 (lv_args 0 [.ref r0, .int x1, .int x2]) [] b_1 m P_4) (hx9 : ∀ (E : String) (n_2 : mm_Mem), P_4 (.inr E) n_2 → mm_WX l G k_L_alter 3 [(0, .ref r0), (1, .int x1), (2, .int x2)] E b_2 n_2 Q) (h10 : ∀ (v : Option Value) (n_2 : mm_Mem), P_4 (.inl v) n_2 → v = none ∧ mm_W l G k_L_alter 6 [] [] b_2 n_2 Q) : mm_W l G k_L_alter 0 [(0, .ref r0), (1, .int x1), (2, .int x2)] [] b m Q := by
  refine mm_aload_n 0 (i := 0) d_L_alter_0 rfl rfl ?_
  refine mm_iload_n 1 (i := 1) d_L_alter_1 rfl rfl ?_
  refine mm_iload_n 2 (i := 2) d_L_alter_2 rfl rfl ?_
  refine mm_callV (as := [.int x1, .int x2]) (st := []) (b2 := b_2) ca_P_alter w_408 w_409 w_410 cc_P.1 rfl d_L_alter_3 rfl (Nat.le_of_ble_eq_true rfl) (Nat.le_of_ble_eq_true rfl) (Nat.le_of_ble_eq_true rfl) hb3 g6 z7 M8 (fun E m2 q => hx9 E m2 q) (fun v m2 q => ?_)
  obtain ⟨rfl, z9⟩ := h10 v m2 q
  exact mm_sub [] rfl z9
theorem t_L_alter_6 {l : Launch} {G : mm_G} {b : Nat} {m : mm_Mem} {Q : mm_O → mm_Mem → Prop}  (h1 : mm_W l G k_L_alter 15 [] [] b m Q) : mm_W l G k_L_alter 6 [] [] b m Q := by
  refine mm_goto (tgt := 15) d_L_alter_6 (by decide) ?_
  exact mm_sub [] rfl h1
theorem t_L_alter_10 {l : Launch} {G : mm_G} {b : Nat} {m : mm_Mem} {Q : mm_O → mm_Mem → Prop}  (h1 : Q (.inl (some (.int 1))) m) : mm_W l G k_L_alter 10 [] [] b m Q := by
  refine mm_iconst d_L_alter_10 (v := 1) (by decide) ?_
  exact mm_iret d_L_alter_11 rfl h1
theorem t_L_alter_13 {l : Launch} {G : mm_G} {b : Nat} {m : mm_Mem} {Q : mm_O → mm_Mem → Prop}  (h1 : Q (.inl (some (.int 2))) m) : mm_W l G k_L_alter 13 [] [] b m Q := by
  refine mm_iconst d_L_alter_13 (v := 2) (by decide) ?_
  exact mm_iret d_L_alter_14 rfl h1
theorem t_L_alter_15 {l : Launch} {G : mm_G} {b : Nat} {m : mm_Mem} {Q : mm_O → mm_Mem → Prop}  (h1 : Q (.inl (some (.int 0))) m) : mm_W l G k_L_alter 15 [] [] b m Q := by
  refine mm_iconst d_L_alter_15 (v := 0) (by decide) ?_
  exact mm_iret d_L_alter_16 rfl h1
theorem t_L_byteAt_0 {l : Launch} {G : mm_G} {b : Nat} {m : mm_Mem} {Q : mm_O → mm_Mem → Prop} {r0 : Nat} {x1 : Int32} {r2 : Nat} {b_1 : Nat} {b_2 : Nat} {P_4 : mm_O → mm_Mem → Prop} {fs_5 : List Value} (hb3 : b_1 + b_2 ≤ b) (g6 : m r0 = .inr (0, fs_5)) (z7 : r0 ≠ 0) (M8 : mm_W l G k_P_byteAt 0 (lv_args 0 [.ref r0, .int x1]) [] b_1 m P_4) (hx9 : ∀ (E : String) (n_2 : mm_Mem), P_4 (.inr E) n_2 → mm_WX l G k_L_byteAt 4 [(0, .ref r0), (1, .int x1), (2, .ref r2)] E b_2 n_2 Q) (h10 : ∀ (v : Option Value) (n_2 : mm_Mem), P_4 (.inl v) n_2 → ∃ x9 : Int32, v = some (.int x9) ∧ mm_W l G k_L_byteAt 7 [] [.int x9, .int 0, .ref r2] b_2 n_2 Q) : mm_W l G k_L_byteAt 0 [(0, .ref r0), (1, .int x1), (2, .ref r2)] [] b m Q := by
  refine mm_aload_n 2 (i := 2) d_L_byteAt_0 rfl rfl ?_
  refine mm_iconst d_L_byteAt_1 (v := 0) (by decide) ?_
  refine mm_aload_n 0 (i := 0) d_L_byteAt_2 rfl rfl ?_
  refine mm_iload_n 1 (i := 1) d_L_byteAt_3 rfl rfl ?_
  refine mm_callV (as := [.int x1]) (st := [.int 0, .ref r2]) (b2 := b_2) ca_P_byteAt w_436 w_437 w_438 cc_P.1 rfl d_L_byteAt_4 rfl (Nat.le_of_ble_eq_true rfl) (Nat.le_of_ble_eq_true rfl) (Nat.le_of_ble_eq_true rfl) hb3 g6 z7 M8 (fun E m2 q => hx9 E m2 q) (fun v m2 q => ?_)
  obtain ⟨x9, rfl, z9⟩ := h10 v m2 q
  exact mm_sub [] rfl z9
theorem t_L_byteAt_7 {l : Launch} {G : mm_G} {b : Nat} {m : mm_Mem} {Q : mm_O → mm_Mem → Prop} {xs0 : Int32} {xs1 : Int32} {rs2 : Nat} {n_1 : Nat} {f_2 : Nat → Int64} (a3 : m rs2 = .inl (G.2 2, n_1, .inr (.inl f_2))) (z4 : rs2 ≠ 0) (i5 : vp_in xs1 n_1) (h6 : mm_W l G k_L_byteAt 15 [] [] b (va_up m rs2 (.inl (G.2 2, n_1, .inr (.inl (vp_updL f_2 xs1.toNatClampNeg xs0.toInt64))))) Q) : mm_W l G k_L_byteAt 7 [] [.int xs0, .int xs1, .ref rs2] b m Q := by
  refine mm_i2l d_L_byteAt_7 ?_
  refine mm_last d_L_byteAt_8 a3 z4 i5 ?_
  refine mm_goto (tgt := 15) d_L_byteAt_9 (by decide) ?_
  exact mm_sub [] rfl h6
theorem t_L_byteAt_13 {l : Launch} {G : mm_G} {b : Nat} {m : mm_Mem} {Q : mm_O → mm_Mem → Prop}  (h1 : Q (.inl (some (.int 1))) m) : mm_W l G k_L_byteAt 13 [] [] b m Q := by
  refine mm_iconst d_L_byteAt_13 (v := 1) (by decide) ?_
  exact mm_iret d_L_byteAt_14 rfl h1
theorem t_L_byteAt_15 {l : Launch} {G : mm_G} {b : Nat} {m : mm_Mem} {Q : mm_O → mm_Mem → Prop}  (h1 : Q (.inl (some (.int 0))) m) : mm_W l G k_L_byteAt 15 [] [] b m Q := by
  refine mm_iconst d_L_byteAt_15 (v := 0) (by decide) ?_
  exact mm_iret d_L_byteAt_16 rfl h1
theorem t_L_type_0 {l : Launch} {G : mm_G} {b : Nat} {m : mm_Mem} {Q : mm_O → mm_Mem → Prop} {r0 : Nat} {x1 : Int32} {r2 : Nat} {b_1 : Nat} {b_2 : Nat} {P_4 : mm_O → mm_Mem → Prop} {fs_5 : List Value} (hb3 : b_1 + b_2 ≤ b) (g6 : m r0 = .inr (0, fs_5)) (z7 : r0 ≠ 0) (M8 : mm_W l G k_P_type 0 (lv_args 0 [.ref r0, .int x1]) [] b_1 m P_4) (hx9 : ∀ (E : String) (n_2 : mm_Mem), P_4 (.inr E) n_2 → mm_WX l G k_L_type 4 [(0, .ref r0), (1, .int x1), (2, .ref r2)] E b_2 n_2 Q) (h10 : ∀ (v : Option Value) (n_2 : mm_Mem), P_4 (.inl v) n_2 → ∃ x9 : Int32, v = some (.int x9) ∧ mm_W l G k_L_type 7 [] [.int x9, .int 0, .ref r2] b_2 n_2 Q) : mm_W l G k_L_type 0 [(0, .ref r0), (1, .int x1), (2, .ref r2)] [] b m Q := by
  refine mm_aload_n 2 (i := 2) d_L_type_0 rfl rfl ?_
  refine mm_iconst d_L_type_1 (v := 0) (by decide) ?_
  refine mm_aload_n 0 (i := 0) d_L_type_2 rfl rfl ?_
  refine mm_iload_n 1 (i := 1) d_L_type_3 rfl rfl ?_
  refine mm_callV (as := [.int x1]) (st := [.int 0, .ref r2]) (b2 := b_2) ca_P_type w_444 w_445 w_446 cc_P.1 rfl d_L_type_4 rfl (Nat.le_of_ble_eq_true rfl) (Nat.le_of_ble_eq_true rfl) (Nat.le_of_ble_eq_true rfl) hb3 g6 z7 M8 (fun E m2 q => hx9 E m2 q) (fun v m2 q => ?_)
  obtain ⟨x9, rfl, z9⟩ := h10 v m2 q
  exact mm_sub [] rfl z9
theorem t_L_type_7 {l : Launch} {G : mm_G} {b : Nat} {m : mm_Mem} {Q : mm_O → mm_Mem → Prop} {xs0 : Int32} {xs1 : Int32} {rs2 : Nat} {n_1 : Nat} {f_2 : Nat → Int64} (a3 : m rs2 = .inl (G.2 2, n_1, .inr (.inl f_2))) (z4 : rs2 ≠ 0) (i5 : vp_in xs1 n_1) (h6 : mm_W l G k_L_type 18 [] [] b (va_up m rs2 (.inl (G.2 2, n_1, .inr (.inl (vp_updL f_2 xs1.toNatClampNeg xs0.toInt64))))) Q) : mm_W l G k_L_type 7 [] [.int xs0, .int xs1, .ref rs2] b m Q := by
  refine mm_i2l d_L_type_7 ?_
  refine mm_last d_L_type_8 a3 z4 i5 ?_
  refine mm_goto (tgt := 18) d_L_type_9 (by decide) ?_
  exact mm_sub [] rfl h6
theorem t_L_type_13 {l : Launch} {G : mm_G} {b : Nat} {m : mm_Mem} {Q : mm_O → mm_Mem → Prop}  (h1 : Q (.inl (some (.int 1))) m) : mm_W l G k_L_type 13 [] [] b m Q := by
  refine mm_iconst d_L_type_13 (v := 1) (by decide) ?_
  exact mm_iret d_L_type_14 rfl h1
theorem t_L_type_16 {l : Launch} {G : mm_G} {b : Nat} {m : mm_Mem} {Q : mm_O → mm_Mem → Prop}  (h1 : Q (.inl (some (.int 2))) m) : mm_W l G k_L_type 16 [] [] b m Q := by
  refine mm_iconst d_L_type_16 (v := 2) (by decide) ?_
  exact mm_iret d_L_type_17 rfl h1
theorem t_L_type_18 {l : Launch} {G : mm_G} {b : Nat} {m : mm_Mem} {Q : mm_O → mm_Mem → Prop}  (h1 : Q (.inl (some (.int 0))) m) : mm_W l G k_L_type 18 [] [] b m Q := by
  refine mm_iconst d_L_type_18 (v := 0) (by decide) ?_
  exact mm_iret d_L_type_19 rfl h1
theorem t_L_add_0 {l : Launch} {G : mm_G} {b : Nat} {m : mm_Mem} {Q : mm_O → mm_Mem → Prop} {r0 : Nat} {r1 : Nat} {b_1 : Nat} {b_2 : Nat} {P_4 : mm_O → mm_Mem → Prop} {fs_5 : List Value} (hb3 : b_1 + b_2 ≤ b) (g6 : m r0 = .inr (0, fs_5)) (z7 : r0 ≠ 0) (M8 : mm_W l G k_P_add 0 (lv_args 0 [.ref r0]) [] b_1 m P_4) (hx9 : ∀ (E : String) (n_2 : mm_Mem), P_4 (.inr E) n_2 → mm_WX l G k_L_add 3 [(0, .ref r0), (1, .ref r1)] E b_2 n_2 Q) (h10 : ∀ (v : Option Value) (n_2 : mm_Mem), P_4 (.inl v) n_2 → ∃ x9 : Int32, v = some (.int x9) ∧ mm_W l G k_L_add 6 [] [.int x9, .int 0, .ref r1] b_2 n_2 Q) : mm_W l G k_L_add 0 [(0, .ref r0), (1, .ref r1)] [] b m Q := by
  refine mm_aload_n 1 (i := 1) d_L_add_0 rfl rfl ?_
  refine mm_iconst d_L_add_1 (v := 0) (by decide) ?_
  refine mm_aload_n 0 (i := 0) d_L_add_2 rfl rfl ?_
  refine mm_callV (as := []) (st := [.int 0, .ref r1]) (b2 := b_2) ca_P_add w_454 w_455 w_456 cc_P.1 rfl d_L_add_3 rfl (Nat.le_of_ble_eq_true rfl) (Nat.le_of_ble_eq_true rfl) (Nat.le_of_ble_eq_true rfl) hb3 g6 z7 M8 (fun E m2 q => hx9 E m2 q) (fun v m2 q => ?_)
  obtain ⟨x9, rfl, z9⟩ := h10 v m2 q
  exact mm_sub [] rfl z9
theorem t_L_add_6 {l : Launch} {G : mm_G} {b : Nat} {m : mm_Mem} {Q : mm_O → mm_Mem → Prop} {xs0 : Int32} {xs1 : Int32} {rs2 : Nat} {n_1 : Nat} {f_2 : Nat → Int64} (a3 : m rs2 = .inl (G.2 2, n_1, .inr (.inl f_2))) (z4 : rs2 ≠ 0) (i5 : vp_in xs1 n_1) (h6 : mm_W l G k_L_add 17 [] [] b (va_up m rs2 (.inl (G.2 2, n_1, .inr (.inl (vp_updL f_2 xs1.toNatClampNeg xs0.toInt64))))) Q) : mm_W l G k_L_add 6 [] [.int xs0, .int xs1, .ref rs2] b m Q := by
  refine mm_i2l d_L_add_6 ?_
  refine mm_last d_L_add_7 a3 z4 i5 ?_
  refine mm_goto (tgt := 17) d_L_add_8 (by decide) ?_
  exact mm_sub [] rfl h6
theorem t_L_add_12 {l : Launch} {G : mm_G} {b : Nat} {m : mm_Mem} {Q : mm_O → mm_Mem → Prop}  (h1 : Q (.inl (some (.int 1))) m) : mm_W l G k_L_add 12 [] [] b m Q := by
  refine mm_iconst d_L_add_12 (v := 1) (by decide) ?_
  exact mm_iret d_L_add_13 rfl h1
theorem t_L_add_15 {l : Launch} {G : mm_G} {b : Nat} {m : mm_Mem} {Q : mm_O → mm_Mem → Prop}  (h1 : Q (.inl (some (.int 2))) m) : mm_W l G k_L_add 15 [] [] b m Q := by
  refine mm_iconst d_L_add_15 (v := 2) (by decide) ?_
  exact mm_iret d_L_add_16 rfl h1
theorem t_L_add_17 {l : Launch} {G : mm_G} {b : Nat} {m : mm_Mem} {Q : mm_O → mm_Mem → Prop}  (h1 : Q (.inl (some (.int 0))) m) : mm_W l G k_L_add 17 [] [] b m Q := by
  refine mm_iconst d_L_add_17 (v := 0) (by decide) ?_
  exact mm_iret d_L_add_18 rfl h1
theorem t_L_addPacked_0 {l : Launch} {G : mm_G} {b : Nat} {m : mm_Mem} {Q : mm_O → mm_Mem → Prop} {r0 : Nat} {x1 : Int32} {x2 : Int32} {r3 : Nat} {b_1 : Nat} {b_2 : Nat} {P_4 : mm_O → mm_Mem → Prop} {fs_5 : List Value} (hb3 : b_1 + b_2 ≤ b) (g6 : m r0 = .inr (0, fs_5)) (z7 : r0 ≠ 0) (M8 : mm_W l G k_P_addPacked 0 (lv_args 0 [.ref r0, .int x1, .int x2]) [] b_1 m P_4) (hx9 : ∀ (E : String) (n_2 : mm_Mem), P_4 (.inr E) n_2 → mm_WX l G k_L_addPacked 5 [(0, .ref r0), (1, .int x1), (2, .int x2), (3, .ref r3)] E b_2 n_2 Q) (h10 : ∀ (v : Option Value) (n_2 : mm_Mem), P_4 (.inl v) n_2 → ∃ x9 : Int32, v = some (.int x9) ∧ mm_W l G k_L_addPacked 8 [] [.int x9, .int 0, .ref r3] b_2 n_2 Q) : mm_W l G k_L_addPacked 0 [(0, .ref r0), (1, .int x1), (2, .int x2), (3, .ref r3)] [] b m Q := by
  refine mm_aload_n 3 (i := 3) d_L_addPacked_0 rfl rfl ?_
  refine mm_iconst d_L_addPacked_1 (v := 0) (by decide) ?_
  refine mm_aload_n 0 (i := 0) d_L_addPacked_2 rfl rfl ?_
  refine mm_iload_n 1 (i := 1) d_L_addPacked_3 rfl rfl ?_
  refine mm_iload_n 2 (i := 2) d_L_addPacked_4 rfl rfl ?_
  refine mm_callV (as := [.int x1, .int x2]) (st := [.int 0, .ref r3]) (b2 := b_2) ca_P_addPacked w_505 w_506 w_507 cc_P.1 rfl d_L_addPacked_5 rfl (Nat.le_of_ble_eq_true rfl) (Nat.le_of_ble_eq_true rfl) (Nat.le_of_ble_eq_true rfl) hb3 g6 z7 M8 (fun E m2 q => hx9 E m2 q) (fun v m2 q => ?_)
  obtain ⟨x9, rfl, z9⟩ := h10 v m2 q
  exact mm_sub [] rfl z9
theorem t_L_addPacked_8 {l : Launch} {G : mm_G} {b : Nat} {m : mm_Mem} {Q : mm_O → mm_Mem → Prop} {xs0 : Int32} {xs1 : Int32} {rs2 : Nat} {n_1 : Nat} {f_2 : Nat → Int64} (a3 : m rs2 = .inl (G.2 2, n_1, .inr (.inl f_2))) (z4 : rs2 ≠ 0) (i5 : vp_in xs1 n_1) (h6 : mm_W l G k_L_addPacked 21 [] [] b (va_up m rs2 (.inl (G.2 2, n_1, .inr (.inl (vp_updL f_2 xs1.toNatClampNeg xs0.toInt64))))) Q) : mm_W l G k_L_addPacked 8 [] [.int xs0, .int xs1, .ref rs2] b m Q := by
  refine mm_i2l d_L_addPacked_8 ?_
  refine mm_last d_L_addPacked_9 a3 z4 i5 ?_
  refine mm_goto (tgt := 21) d_L_addPacked_10 (by decide) ?_
  exact mm_sub [] rfl h6
theorem t_L_addPacked_15 {l : Launch} {G : mm_G} {b : Nat} {m : mm_Mem} {Q : mm_O → mm_Mem → Prop}  (h1 : Q (.inl (some (.int 1))) m) : mm_W l G k_L_addPacked 15 [] [] b m Q := by
  refine mm_iconst d_L_addPacked_15 (v := 1) (by decide) ?_
  exact mm_iret d_L_addPacked_16 rfl h1
theorem t_L_addPacked_19 {l : Launch} {G : mm_G} {b : Nat} {m : mm_Mem} {Q : mm_O → mm_Mem → Prop}  (h1 : Q (.inl (some (.int 2))) m) : mm_W l G k_L_addPacked 19 [] [] b m Q := by
  refine mm_iconst d_L_addPacked_19 (v := 2) (by decide) ?_
  exact mm_iret d_L_addPacked_20 rfl h1
theorem t_L_addPacked_21 {l : Launch} {G : mm_G} {b : Nat} {m : mm_Mem} {Q : mm_O → mm_Mem → Prop}  (h1 : Q (.inl (some (.int 0))) m) : mm_W l G k_L_addPacked 21 [] [] b m Q := by
  refine mm_iconst d_L_addPacked_21 (v := 0) (by decide) ?_
  exact mm_iret d_L_addPacked_22 rfl h1
theorem t_L_remove_0 {l : Launch} {G : mm_G} {b : Nat} {m : mm_Mem} {Q : mm_O → mm_Mem → Prop} {r0 : Nat} {x1 : Int32} {b_1 : Nat} {b_2 : Nat} {P_4 : mm_O → mm_Mem → Prop} {fs_5 : List Value} (hb3 : b_1 + b_2 ≤ b) (g6 : m r0 = .inr (0, fs_5)) (z7 : r0 ≠ 0) (M8 : mm_W l G k_P_remove 0 (lv_args 0 [.ref r0, .int x1]) [] b_1 m P_4) (hx9 : ∀ (E : String) (n_2 : mm_Mem), P_4 (.inr E) n_2 → mm_WX l G k_L_remove 2 [(0, .ref r0), (1, .int x1)] E b_2 n_2 Q) (h10 : ∀ (v : Option Value) (n_2 : mm_Mem), P_4 (.inl v) n_2 → v = none ∧ mm_W l G k_L_remove 5 [] [] b_2 n_2 Q) : mm_W l G k_L_remove 0 [(0, .ref r0), (1, .int x1)] [] b m Q := by
  refine mm_aload_n 0 (i := 0) d_L_remove_0 rfl rfl ?_
  refine mm_iload_n 1 (i := 1) d_L_remove_1 rfl rfl ?_
  refine mm_callV (as := [.int x1]) (st := []) (b2 := b_2) ca_P_remove w_513 w_514 w_515 cc_P.1 rfl d_L_remove_2 rfl (Nat.le_of_ble_eq_true rfl) (Nat.le_of_ble_eq_true rfl) (Nat.le_of_ble_eq_true rfl) hb3 g6 z7 M8 (fun E m2 q => hx9 E m2 q) (fun v m2 q => ?_)
  obtain ⟨rfl, z9⟩ := h10 v m2 q
  exact mm_sub [] rfl z9
theorem t_L_remove_5 {l : Launch} {G : mm_G} {b : Nat} {m : mm_Mem} {Q : mm_O → mm_Mem → Prop}  (h1 : mm_W l G k_L_remove 11 [] [] b m Q) : mm_W l G k_L_remove 5 [] [] b m Q := by
  refine mm_goto (tgt := 11) d_L_remove_5 (by decide) ?_
  exact mm_sub [] rfl h1
theorem t_L_remove_9 {l : Launch} {G : mm_G} {b : Nat} {m : mm_Mem} {Q : mm_O → mm_Mem → Prop}  (h1 : Q (.inl (some (.int 1))) m) : mm_W l G k_L_remove 9 [] [] b m Q := by
  refine mm_iconst d_L_remove_9 (v := 1) (by decide) ?_
  exact mm_iret d_L_remove_10 rfl h1
theorem t_L_remove_11 {l : Launch} {G : mm_G} {b : Nat} {m : mm_Mem} {Q : mm_O → mm_Mem → Prop}  (h1 : Q (.inl (some (.int 0))) m) : mm_W l G k_L_remove 11 [] [] b m Q := by
  refine mm_iconst d_L_remove_11 (v := 0) (by decide) ?_
  exact mm_iret d_L_remove_12 rfl h1
theorem t_L_move_0 {l : Launch} {G : mm_G} {b : Nat} {m : mm_Mem} {Q : mm_O → mm_Mem → Prop} {r0 : Nat} {x1 : Int32} {x2 : Int32} {b_1 : Nat} {b_2 : Nat} {P_4 : mm_O → mm_Mem → Prop} {fs_5 : List Value} (hb3 : b_1 + b_2 ≤ b) (g6 : m r0 = .inr (0, fs_5)) (z7 : r0 ≠ 0) (M8 : mm_W l G k_P_move 0 (lv_args 0 [.ref r0, .int x1, .int x2]) [] b_1 m P_4) (hx9 : ∀ (E : String) (n_2 : mm_Mem), P_4 (.inr E) n_2 → mm_WX l G k_L_move 3 [(0, .ref r0), (1, .int x1), (2, .int x2)] E b_2 n_2 Q) (h10 : ∀ (v : Option Value) (n_2 : mm_Mem), P_4 (.inl v) n_2 → v = none ∧ mm_W l G k_L_move 6 [] [] b_2 n_2 Q) : mm_W l G k_L_move 0 [(0, .ref r0), (1, .int x1), (2, .int x2)] [] b m Q := by
  refine mm_aload_n 0 (i := 0) d_L_move_0 rfl rfl ?_
  refine mm_iload_n 1 (i := 1) d_L_move_1 rfl rfl ?_
  refine mm_iload_n 2 (i := 2) d_L_move_2 rfl rfl ?_
  refine mm_callV (as := [.int x1, .int x2]) (st := []) (b2 := b_2) ca_P_move w_538 w_539 w_540 cc_P.1 rfl d_L_move_3 rfl (Nat.le_of_ble_eq_true rfl) (Nat.le_of_ble_eq_true rfl) (Nat.le_of_ble_eq_true rfl) hb3 g6 z7 M8 (fun E m2 q => hx9 E m2 q) (fun v m2 q => ?_)
  obtain ⟨rfl, z9⟩ := h10 v m2 q
  exact mm_sub [] rfl z9
theorem t_L_move_6 {l : Launch} {G : mm_G} {b : Nat} {m : mm_Mem} {Q : mm_O → mm_Mem → Prop}  (h1 : mm_W l G k_L_move 12 [] [] b m Q) : mm_W l G k_L_move 6 [] [] b m Q := by
  refine mm_goto (tgt := 12) d_L_move_6 (by decide) ?_
  exact mm_sub [] rfl h1
theorem t_L_move_10 {l : Launch} {G : mm_G} {b : Nat} {m : mm_Mem} {Q : mm_O → mm_Mem → Prop}  (h1 : Q (.inl (some (.int 1))) m) : mm_W l G k_L_move 10 [] [] b m Q := by
  refine mm_iconst d_L_move_10 (v := 1) (by decide) ?_
  exact mm_iret d_L_move_11 rfl h1
theorem t_L_move_12 {l : Launch} {G : mm_G} {b : Nat} {m : mm_Mem} {Q : mm_O → mm_Mem → Prop}  (h1 : Q (.inl (some (.int 0))) m) : mm_W l G k_L_move 12 [] [] b m Q := by
  refine mm_iconst d_L_move_12 (v := 0) (by decide) ?_
  exact mm_iret d_L_move_13 rfl h1
theorem t_L_about_0 {l : Launch} {G : mm_G} {b : Nat} {m : mm_Mem} {Q : mm_O → mm_Mem → Prop} {r0 : Nat} {x1 : Int32} {x2 : Int32} {r3 : Nat} {b_1 : Nat} {b_2 : Nat} {P_4 : mm_O → mm_Mem → Prop} {fs_5 : List Value} (hb3 : b_1 + b_2 ≤ b) (g6 : m r0 = .inr (0, fs_5)) (z7 : r0 ≠ 0) (M8 : mm_W l G k_P_about 0 (lv_args 0 [.ref r0, .int x1, .int x2]) [] b_1 m P_4) (hx9 : ∀ (E : String) (n_2 : mm_Mem), P_4 (.inr E) n_2 → mm_WX l G k_L_about 5 [(0, .ref r0), (1, .int x1), (2, .int x2), (3, .ref r3)] E b_2 n_2 Q) (h10 : ∀ (v : Option Value) (n_2 : mm_Mem), P_4 (.inl v) n_2 → ∃ x9 : Int32, v = some (.int x9) ∧ mm_W l G k_L_about 8 [] [.int x9, .int 0, .ref r3] b_2 n_2 Q) : mm_W l G k_L_about 0 [(0, .ref r0), (1, .int x1), (2, .int x2), (3, .ref r3)] [] b m Q := by
  refine mm_aload_n 3 (i := 3) d_L_about_0 rfl rfl ?_
  refine mm_iconst d_L_about_1 (v := 0) (by decide) ?_
  refine mm_aload_n 0 (i := 0) d_L_about_2 rfl rfl ?_
  refine mm_iload_n 1 (i := 1) d_L_about_3 rfl rfl ?_
  refine mm_iload_n 2 (i := 2) d_L_about_4 rfl rfl ?_
  refine mm_callV (as := [.int x1, .int x2]) (st := [.int 0, .ref r3]) (b2 := b_2) ca_P_about w_546 w_547 w_548 cc_P.1 rfl d_L_about_5 rfl (Nat.le_of_ble_eq_true rfl) (Nat.le_of_ble_eq_true rfl) (Nat.le_of_ble_eq_true rfl) hb3 g6 z7 M8 (fun E m2 q => hx9 E m2 q) (fun v m2 q => ?_)
  obtain ⟨x9, rfl, z9⟩ := h10 v m2 q
  exact mm_sub [] rfl z9
theorem t_L_about_8 {l : Launch} {G : mm_G} {b : Nat} {m : mm_Mem} {Q : mm_O → mm_Mem → Prop} {xs0 : Int32} {xs1 : Int32} {rs2 : Nat} {n_1 : Nat} {f_2 : Nat → Int64} (a3 : m rs2 = .inl (G.2 2, n_1, .inr (.inl f_2))) (z4 : rs2 ≠ 0) (i5 : vp_in xs1 n_1) (h6 : mm_W l G k_L_about 21 [] [] b (va_up m rs2 (.inl (G.2 2, n_1, .inr (.inl (vp_updL f_2 xs1.toNatClampNeg xs0.toInt64))))) Q) : mm_W l G k_L_about 8 [] [.int xs0, .int xs1, .ref rs2] b m Q := by
  refine mm_i2l d_L_about_8 ?_
  refine mm_last d_L_about_9 a3 z4 i5 ?_
  refine mm_goto (tgt := 21) d_L_about_10 (by decide) ?_
  exact mm_sub [] rfl h6
theorem t_L_about_15 {l : Launch} {G : mm_G} {b : Nat} {m : mm_Mem} {Q : mm_O → mm_Mem → Prop}  (h1 : Q (.inl (some (.int 1))) m) : mm_W l G k_L_about 15 [] [] b m Q := by
  refine mm_iconst d_L_about_15 (v := 1) (by decide) ?_
  exact mm_iret d_L_about_16 rfl h1
theorem t_L_about_19 {l : Launch} {G : mm_G} {b : Nat} {m : mm_Mem} {Q : mm_O → mm_Mem → Prop}  (h1 : Q (.inl (some (.int 2))) m) : mm_W l G k_L_about 19 [] [] b m Q := by
  refine mm_iconst d_L_about_19 (v := 2) (by decide) ?_
  exact mm_iret d_L_about_20 rfl h1
theorem t_L_about_21 {l : Launch} {G : mm_G} {b : Nat} {m : mm_Mem} {Q : mm_O → mm_Mem → Prop}  (h1 : Q (.inl (some (.int 0))) m) : mm_W l G k_L_about 21 [] [] b m Q := by
  refine mm_iconst d_L_about_21 (v := 0) (by decide) ?_
  exact mm_iret d_L_about_22 rfl h1
theorem t_L_name_0 {l : Launch} {G : mm_G} {b : Nat} {m : mm_Mem} {Q : mm_O → mm_Mem → Prop} {r0 : Nat} {x1 : Int32} {x2 : Int32} {r3 : Nat} {b_1 : Nat} {b_2 : Nat} {P_4 : mm_O → mm_Mem → Prop} {fs_5 : List Value} (hb3 : b_1 + b_2 ≤ b) (g6 : m r0 = .inr (0, fs_5)) (z7 : r0 ≠ 0) (M8 : mm_W l G k_P_name 0 (lv_args 0 [.ref r0, .int x1, .int x2]) [] b_1 m P_4) (hx9 : ∀ (E : String) (n_2 : mm_Mem), P_4 (.inr E) n_2 → mm_WX l G k_L_name 5 [(0, .ref r0), (1, .int x1), (2, .int x2), (3, .ref r3)] E b_2 n_2 Q) (h10 : ∀ (v : Option Value) (n_2 : mm_Mem), P_4 (.inl v) n_2 → ∃ x9 : Int32, v = some (.int x9) ∧ mm_W l G k_L_name 8 [] [.int x9, .int 0, .ref r3] b_2 n_2 Q) : mm_W l G k_L_name 0 [(0, .ref r0), (1, .int x1), (2, .int x2), (3, .ref r3)] [] b m Q := by
  refine mm_aload_n 3 (i := 3) d_L_name_0 rfl rfl ?_
  refine mm_iconst d_L_name_1 (v := 0) (by decide) ?_
  refine mm_aload_n 0 (i := 0) d_L_name_2 rfl rfl ?_
  refine mm_iload_n 1 (i := 1) d_L_name_3 rfl rfl ?_
  refine mm_iload_n 2 (i := 2) d_L_name_4 rfl rfl ?_
  refine mm_callV (as := [.int x1, .int x2]) (st := [.int 0, .ref r3]) (b2 := b_2) ca_P_name w_558 w_559 w_560 cc_P.1 rfl d_L_name_5 rfl (Nat.le_of_ble_eq_true rfl) (Nat.le_of_ble_eq_true rfl) (Nat.le_of_ble_eq_true rfl) hb3 g6 z7 M8 (fun E m2 q => hx9 E m2 q) (fun v m2 q => ?_)
  obtain ⟨x9, rfl, z9⟩ := h10 v m2 q
  exact mm_sub [] rfl z9
theorem t_L_name_8 {l : Launch} {G : mm_G} {b : Nat} {m : mm_Mem} {Q : mm_O → mm_Mem → Prop} {xs0 : Int32} {xs1 : Int32} {rs2 : Nat} {n_1 : Nat} {f_2 : Nat → Int64} (a3 : m rs2 = .inl (G.2 2, n_1, .inr (.inl f_2))) (z4 : rs2 ≠ 0) (i5 : vp_in xs1 n_1) (h6 : mm_W l G k_L_name 17 [] [] b (va_up m rs2 (.inl (G.2 2, n_1, .inr (.inl (vp_updL f_2 xs1.toNatClampNeg xs0.toInt64))))) Q) : mm_W l G k_L_name 8 [] [.int xs0, .int xs1, .ref rs2] b m Q := by
  refine mm_i2l d_L_name_8 ?_
  refine mm_last d_L_name_9 a3 z4 i5 ?_
  refine mm_goto (tgt := 17) d_L_name_10 (by decide) ?_
  exact mm_sub [] rfl h6
theorem t_L_name_15 {l : Launch} {G : mm_G} {b : Nat} {m : mm_Mem} {Q : mm_O → mm_Mem → Prop}  (h1 : Q (.inl (some (.int 1))) m) : mm_W l G k_L_name 15 [] [] b m Q := by
  refine mm_iconst d_L_name_15 (v := 1) (by decide) ?_
  exact mm_iret d_L_name_16 rfl h1
theorem t_L_name_17 {l : Launch} {G : mm_G} {b : Nat} {m : mm_Mem} {Q : mm_O → mm_Mem → Prop}  (h1 : Q (.inl (some (.int 0))) m) : mm_W l G k_L_name 17 [] [] b m Q := by
  refine mm_iconst d_L_name_17 (v := 0) (by decide) ?_
  exact mm_iret d_L_name_18 rfl h1
theorem t_L_part_0 {l : Launch} {G : mm_G} {b : Nat} {m : mm_Mem} {Q : mm_O → mm_Mem → Prop} {r0 : Nat} {x1 : Int32} {x2 : Int32} {r3 : Nat} {b_1 : Nat} {b_2 : Nat} {P_4 : mm_O → mm_Mem → Prop} {fs_5 : List Value} (hb3 : b_1 + b_2 ≤ b) (g6 : m r0 = .inr (0, fs_5)) (z7 : r0 ≠ 0) (M8 : mm_W l G k_P_part 0 (lv_args 0 [.ref r0, .int x1, .int x2]) [] b_1 m P_4) (hx9 : ∀ (E : String) (n_2 : mm_Mem), P_4 (.inr E) n_2 → mm_WX l G k_L_part 5 [(0, .ref r0), (1, .int x1), (2, .int x2), (3, .ref r3)] E b_2 n_2 Q) (h10 : ∀ (v : Option Value) (n_2 : mm_Mem), P_4 (.inl v) n_2 → ∃ x9 : Int32, v = some (.int x9) ∧ mm_W l G k_L_part 8 [] [.int x9, .int 0, .ref r3] b_2 n_2 Q) : mm_W l G k_L_part 0 [(0, .ref r0), (1, .int x1), (2, .int x2), (3, .ref r3)] [] b m Q := by
  refine mm_aload_n 3 (i := 3) d_L_part_0 rfl rfl ?_
  refine mm_iconst d_L_part_1 (v := 0) (by decide) ?_
  refine mm_aload_n 0 (i := 0) d_L_part_2 rfl rfl ?_
  refine mm_iload_n 1 (i := 1) d_L_part_3 rfl rfl ?_
  refine mm_iload_n 2 (i := 2) d_L_part_4 rfl rfl ?_
  refine mm_callV (as := [.int x1, .int x2]) (st := [.int 0, .ref r3]) (b2 := b_2) ca_P_part w_565 w_566 w_567 cc_P.1 rfl d_L_part_5 rfl (Nat.le_of_ble_eq_true rfl) (Nat.le_of_ble_eq_true rfl) (Nat.le_of_ble_eq_true rfl) hb3 g6 z7 M8 (fun E m2 q => hx9 E m2 q) (fun v m2 q => ?_)
  obtain ⟨x9, rfl, z9⟩ := h10 v m2 q
  exact mm_sub [] rfl z9
theorem t_L_part_8 {l : Launch} {G : mm_G} {b : Nat} {m : mm_Mem} {Q : mm_O → mm_Mem → Prop} {xs0 : Int32} {xs1 : Int32} {rs2 : Nat} {n_1 : Nat} {f_2 : Nat → Int64} (a3 : m rs2 = .inl (G.2 2, n_1, .inr (.inl f_2))) (z4 : rs2 ≠ 0) (i5 : vp_in xs1 n_1) (h6 : mm_W l G k_L_part 17 [] [] b (va_up m rs2 (.inl (G.2 2, n_1, .inr (.inl (vp_updL f_2 xs1.toNatClampNeg xs0.toInt64))))) Q) : mm_W l G k_L_part 8 [] [.int xs0, .int xs1, .ref rs2] b m Q := by
  refine mm_i2l d_L_part_8 ?_
  refine mm_last d_L_part_9 a3 z4 i5 ?_
  refine mm_goto (tgt := 17) d_L_part_10 (by decide) ?_
  exact mm_sub [] rfl h6
theorem t_L_part_15 {l : Launch} {G : mm_G} {b : Nat} {m : mm_Mem} {Q : mm_O → mm_Mem → Prop}  (h1 : Q (.inl (some (.int 1))) m) : mm_W l G k_L_part 15 [] [] b m Q := by
  refine mm_iconst d_L_part_15 (v := 1) (by decide) ?_
  exact mm_iret d_L_part_16 rfl h1
theorem t_L_part_17 {l : Launch} {G : mm_G} {b : Nat} {m : mm_Mem} {Q : mm_O → mm_Mem → Prop}  (h1 : Q (.inl (some (.int 0))) m) : mm_W l G k_L_part 17 [] [] b m Q := by
  refine mm_iconst d_L_part_17 (v := 0) (by decide) ?_
  exact mm_iret d_L_part_18 rfl h1
theorem t_L_write_0 {l : Launch} {G : mm_G} {b : Nat} {m : mm_Mem} {Q : mm_O → mm_Mem → Prop} {r0 : Nat} {r1 : Nat} {b_1 : Nat} {b_2 : Nat} {P_4 : mm_O → mm_Mem → Prop} {fs_5 : List Value} (hb3 : b_1 + b_2 ≤ b) (g6 : m r0 = .inr (0, fs_5)) (z7 : r0 ≠ 0) (M8 : mm_W l G k_P_write 0 (lv_args 0 [.ref r0]) [] b_1 m P_4) (hx9 : ∀ (E : String) (n_2 : mm_Mem), P_4 (.inr E) n_2 → mm_WX l G k_L_write 3 [(0, .ref r0), (1, .ref r1)] E b_2 n_2 Q) (h10 : ∀ (v : Option Value) (n_2 : mm_Mem), P_4 (.inl v) n_2 → ∃ x9 : Int32, v = some (.int x9) ∧ mm_W l G k_L_write 6 [] [.int x9, .int 0, .ref r1] b_2 n_2 Q) : mm_W l G k_L_write 0 [(0, .ref r0), (1, .ref r1)] [] b m Q := by
  refine mm_aload_n 1 (i := 1) d_L_write_0 rfl rfl ?_
  refine mm_iconst d_L_write_1 (v := 0) (by decide) ?_
  refine mm_aload_n 0 (i := 0) d_L_write_2 rfl rfl ?_
  refine mm_callV (as := []) (st := [.int 0, .ref r1]) (b2 := b_2) ca_P_write w_573 w_574 w_575 cc_P.1 rfl d_L_write_3 rfl (Nat.le_of_ble_eq_true rfl) (Nat.le_of_ble_eq_true rfl) (Nat.le_of_ble_eq_true rfl) hb3 g6 z7 M8 (fun E m2 q => hx9 E m2 q) (fun v m2 q => ?_)
  obtain ⟨x9, rfl, z9⟩ := h10 v m2 q
  exact mm_sub [] rfl z9
theorem t_L_write_6 {l : Launch} {G : mm_G} {b : Nat} {m : mm_Mem} {Q : mm_O → mm_Mem → Prop} {xs0 : Int32} {xs1 : Int32} {rs2 : Nat} {n_1 : Nat} {f_2 : Nat → Int64} (a3 : m rs2 = .inl (G.2 2, n_1, .inr (.inl f_2))) (z4 : rs2 ≠ 0) (i5 : vp_in xs1 n_1) (h6 : mm_W l G k_L_write 14 [] [] b (va_up m rs2 (.inl (G.2 2, n_1, .inr (.inl (vp_updL f_2 xs1.toNatClampNeg xs0.toInt64))))) Q) : mm_W l G k_L_write 6 [] [.int xs0, .int xs1, .ref rs2] b m Q := by
  refine mm_i2l d_L_write_6 ?_
  refine mm_last d_L_write_7 a3 z4 i5 ?_
  refine mm_goto (tgt := 14) d_L_write_8 (by decide) ?_
  exact mm_sub [] rfl h6
theorem t_L_write_12 {l : Launch} {G : mm_G} {b : Nat} {m : mm_Mem} {Q : mm_O → mm_Mem → Prop}  (h1 : Q (.inl (some (.int 1))) m) : mm_W l G k_L_write 12 [] [] b m Q := by
  refine mm_iconst d_L_write_12 (v := 1) (by decide) ?_
  exact mm_iret d_L_write_13 rfl h1
theorem t_L_write_14 {l : Launch} {G : mm_G} {b : Nat} {m : mm_Mem} {Q : mm_O → mm_Mem → Prop}  (h1 : Q (.inl (some (.int 0))) m) : mm_W l G k_L_write 14 [] [] b m Q := by
  refine mm_iconst d_L_write_14 (v := 0) (by decide) ?_
  exact mm_iret d_L_write_15 rfl h1
theorem t_L_read_0 {l : Launch} {G : mm_G} {b : Nat} {m : mm_Mem} {Q : mm_O → mm_Mem → Prop} {r0 : Nat} {x1 : Int32} {r2 : Nat} {b_1 : Nat} {b_2 : Nat} {P_4 : mm_O → mm_Mem → Prop} {fs_5 : List Value} (hb3 : b_1 + b_2 ≤ b) (g6 : m r0 = .inr (0, fs_5)) (z7 : r0 ≠ 0) (M8 : mm_W l G k_P_read 0 (lv_args 0 [.ref r0, .int x1]) [] b_1 m P_4) (hx9 : ∀ (E : String) (n_2 : mm_Mem), P_4 (.inr E) n_2 → mm_WX l G k_L_read 4 [(0, .ref r0), (1, .int x1), (2, .ref r2)] E b_2 n_2 Q) (h10 : ∀ (v : Option Value) (n_2 : mm_Mem), P_4 (.inl v) n_2 → ∃ x9 : Int32, v = some (.int x9) ∧ mm_W l G k_L_read 7 [] [.int x9, .int 0, .ref r2] b_2 n_2 Q) : mm_W l G k_L_read 0 [(0, .ref r0), (1, .int x1), (2, .ref r2)] [] b m Q := by
  refine mm_aload_n 2 (i := 2) d_L_read_0 rfl rfl ?_
  refine mm_iconst d_L_read_1 (v := 0) (by decide) ?_
  refine mm_aload_n 0 (i := 0) d_L_read_2 rfl rfl ?_
  refine mm_iload_n 1 (i := 1) d_L_read_3 rfl rfl ?_
  refine mm_callV (as := [.int x1]) (st := [.int 0, .ref r2]) (b2 := b_2) ca_P_read w_614 w_615 w_616 cc_P.1 rfl d_L_read_4 rfl (Nat.le_of_ble_eq_true rfl) (Nat.le_of_ble_eq_true rfl) (Nat.le_of_ble_eq_true rfl) hb3 g6 z7 M8 (fun E m2 q => hx9 E m2 q) (fun v m2 q => ?_)
  obtain ⟨x9, rfl, z9⟩ := h10 v m2 q
  exact mm_sub [] rfl z9
theorem t_L_read_7 {l : Launch} {G : mm_G} {b : Nat} {m : mm_Mem} {Q : mm_O → mm_Mem → Prop} {xs0 : Int32} {xs1 : Int32} {rs2 : Nat} {n_1 : Nat} {f_2 : Nat → Int64} (a3 : m rs2 = .inl (G.2 2, n_1, .inr (.inl f_2))) (z4 : rs2 ≠ 0) (i5 : vp_in xs1 n_1) (h6 : mm_W l G k_L_read 15 [] [] b (va_up m rs2 (.inl (G.2 2, n_1, .inr (.inl (vp_updL f_2 xs1.toNatClampNeg xs0.toInt64))))) Q) : mm_W l G k_L_read 7 [] [.int xs0, .int xs1, .ref rs2] b m Q := by
  refine mm_i2l d_L_read_7 ?_
  refine mm_last d_L_read_8 a3 z4 i5 ?_
  refine mm_goto (tgt := 15) d_L_read_9 (by decide) ?_
  exact mm_sub [] rfl h6
theorem t_L_read_13 {l : Launch} {G : mm_G} {b : Nat} {m : mm_Mem} {Q : mm_O → mm_Mem → Prop}  (h1 : Q (.inl (some (.int 1))) m) : mm_W l G k_L_read 13 [] [] b m Q := by
  refine mm_iconst d_L_read_13 (v := 1) (by decide) ?_
  exact mm_iret d_L_read_14 rfl h1
theorem t_L_read_15 {l : Launch} {G : mm_G} {b : Nat} {m : mm_Mem} {Q : mm_O → mm_Mem → Prop}  (h1 : Q (.inl (some (.int 0))) m) : mm_W l G k_L_read 15 [] [] b m Q := by
  refine mm_iconst d_L_read_15 (v := 0) (by decide) ?_
  exact mm_iret d_L_read_16 rfl h1
theorem t_L_blame_0 {l : Launch} {G : mm_G} {b : Nat} {m : mm_Mem} {Q : mm_O → mm_Mem → Prop} {r0 : Nat} {x1 : Int32} {r2 : Nat} {b_1 : Nat} {b_2 : Nat} {P_4 : mm_O → mm_Mem → Prop} {fs_5 : List Value} (hb3 : b_1 + b_2 ≤ b) (g6 : m r0 = .inr (0, fs_5)) (z7 : r0 ≠ 0) (M8 : mm_W l G k_P_blame 0 (lv_args 0 [.ref r0, .int x1]) [] b_1 m P_4) (hx9 : ∀ (E : String) (n_2 : mm_Mem), P_4 (.inr E) n_2 → mm_WX l G k_L_blame 4 [(0, .ref r0), (1, .int x1), (2, .ref r2)] E b_2 n_2 Q) (h10 : ∀ (v : Option Value) (n_2 : mm_Mem), P_4 (.inl v) n_2 → ∃ x9 : Int32, v = some (.int x9) ∧ mm_W l G k_L_blame 7 [] [.int x9, .int 0, .ref r2] b_2 n_2 Q) : mm_W l G k_L_blame 0 [(0, .ref r0), (1, .int x1), (2, .ref r2)] [] b m Q := by
  refine mm_aload_n 2 (i := 2) d_L_blame_0 rfl rfl ?_
  refine mm_iconst d_L_blame_1 (v := 0) (by decide) ?_
  refine mm_aload_n 0 (i := 0) d_L_blame_2 rfl rfl ?_
  refine mm_iload_n 1 (i := 1) d_L_blame_3 rfl rfl ?_
  refine mm_callV (as := [.int x1]) (st := [.int 0, .ref r2]) (b2 := b_2) ca_P_blame w_731 w_732 w_733 cc_P.1 rfl d_L_blame_4 rfl (Nat.le_of_ble_eq_true rfl) (Nat.le_of_ble_eq_true rfl) (Nat.le_of_ble_eq_true rfl) hb3 g6 z7 M8 (fun E m2 q => hx9 E m2 q) (fun v m2 q => ?_)
  obtain ⟨x9, rfl, z9⟩ := h10 v m2 q
  exact mm_sub [] rfl z9
theorem t_L_blame_7 {l : Launch} {G : mm_G} {b : Nat} {m : mm_Mem} {Q : mm_O → mm_Mem → Prop} {xs0 : Int32} {xs1 : Int32} {rs2 : Nat} {n_1 : Nat} {f_2 : Nat → Int64} (a3 : m rs2 = .inl (G.2 2, n_1, .inr (.inl f_2))) (z4 : rs2 ≠ 0) (i5 : vp_in xs1 n_1) (h6 : mm_W l G k_L_blame 15 [] [] b (va_up m rs2 (.inl (G.2 2, n_1, .inr (.inl (vp_updL f_2 xs1.toNatClampNeg xs0.toInt64))))) Q) : mm_W l G k_L_blame 7 [] [.int xs0, .int xs1, .ref rs2] b m Q := by
  refine mm_i2l d_L_blame_7 ?_
  refine mm_last d_L_blame_8 a3 z4 i5 ?_
  refine mm_goto (tgt := 15) d_L_blame_9 (by decide) ?_
  exact mm_sub [] rfl h6
theorem t_L_blame_13 {l : Launch} {G : mm_G} {b : Nat} {m : mm_Mem} {Q : mm_O → mm_Mem → Prop}  (h1 : Q (.inl (some (.int 1))) m) : mm_W l G k_L_blame 13 [] [] b m Q := by
  refine mm_iconst d_L_blame_13 (v := 1) (by decide) ?_
  exact mm_iret d_L_blame_14 rfl h1
theorem t_L_blame_15 {l : Launch} {G : mm_G} {b : Nat} {m : mm_Mem} {Q : mm_O → mm_Mem → Prop}  (h1 : Q (.inl (some (.int 0))) m) : mm_W l G k_L_blame 15 [] [] b m Q := by
  refine mm_iconst d_L_blame_15 (v := 0) (by decide) ?_
  exact mm_iret d_L_blame_16 rfl h1
theorem t_L_law_0 {l : Launch} {G : mm_G} {ns : Nat} {xs : Nat → Int32} {b : Nat} {m : mm_Mem} {Q : mm_O → mm_Mem → Prop} {b_1 : Nat} {b_3 : Nat} {b_4 : Nat} {P_6 : mm_O → mm_Mem → Prop} (hb2 : 5 + 1 + b_1 ≤ b) (hb5 : b_3 + b_4 ≤ b_1) (M7 : mm_W l G k_P_init 0 (lv_args 0 [.ref (mm_n m + 1)]) [] b_3 (mm_push m (.inr (0, [.null, .null, .null, .null, .null]))) P_6) (hx8 : ∀ (E : String) (n_2 : mm_Mem), ¬ P_6 (.inr E) n_2) (h9 : ∀ (v : Option Value) (n_2 : mm_Mem), P_6 (.inl v) n_2 → v = none ∧ mm_W l G (k_L_law ns xs) 7 [(0, .ref 0)] [.ref (mm_n m + 1)] b_4 n_2 Q) : mm_W l G (k_L_law ns xs) 0 [(0, .ref 0)] [] b m Q := by
  refine mm_new (fs := [.null, .null, .null, .null, .null]) cc_P w_19 w_20 w_1 df_P dz_P (fun _ => rfl) d_L_law_0 hb2 ?_
  refine mm_dup d_L_law_3 rfl ?_
  refine mm_callI (as := []) (st := [.ref (mm_n m + 1)]) (b2 := b_4) ca_P_init rfl rfl rfl w_21 w_22 d_L_law_4 rfl (Nat.le_of_ble_eq_true rfl) (Nat.le_of_ble_eq_true rfl) (Nat.le_of_ble_eq_true rfl) hb5 M7 (fun E m2 q => absurd q (hx8 E m2)) (fun v m2 q => ?_)
  obtain ⟨rfl, z9⟩ := h9 v m2 q
  exact mm_sub [0] rfl z9
theorem t_L_law_7 {l : Launch} {G : mm_G} {ns : Nat} {xs : Nat → Int32} {b : Nat} {m : mm_Mem} {Q : mm_O → mm_Mem → Prop} {rs0 : Nat} {b_1 : Nat} {m_3 : mm_Mem} {b_5 : Nat} {b_6 : Nat} {P_8 : mm_O → mm_Mem → Prop} (hb2 : 29 + 1 + b_1 ≤ b) (q4 : m_3 = mm_push m (.inr (8, [.int 0, .int 0, .null, .int 0, .null, .int 0, .null, .null, .null, .null, .null, .null, .null, .int 0, .null, .null, .int 0, .int 0, .int 0, .int 0, .int 0, .long 0, .int 0, .null, .null, .null, .null, .null, .int 0]))) (hb7 : b_5 + b_6 ≤ b_1) (M9 : mm_W l G k_M_init 0 (lv_args 0 [.ref (mm_n m + 1)]) [] b_5 m_3 P_8) (hx10 : ∀ (E : String) (n_2 : mm_Mem), ¬ P_8 (.inr E) n_2) (h11 : ∀ (v : Option Value) (n_2 : mm_Mem), P_8 (.inl v) n_2 → v = none ∧ mm_W l G (k_L_law ns xs) 15 [(0, .ref 0), (1, .ref rs0)] [.ref (mm_n m + 1)] b_6 n_2 Q) : mm_W l G (k_L_law ns xs) 7 [(0, .ref 0)] [.ref rs0] b m Q := by
  refine mm_astore_n (i := 1) d_L_law_7 rfl (Nat.le_of_ble_eq_true rfl) (lv2 := [(1, .ref rs0), (0, .ref 0)]) rfl ?_
  refine mm_new (fs := [.int 0, .int 0, .null, .int 0, .null, .int 0, .null, .null, .null, .null, .null, .null, .null, .int 0, .null, .null, .int 0, .int 0, .int 0, .int 0, .int 0, .long 0, .int 0, .null, .null, .null, .null, .null, .int 0]) cc_M w_736 w_737 w_10 df_M dz_M (fun _ => rfl) d_L_law_8 hb2 ?_
  refine mm_eqm q4 ?_
  refine mm_dup d_L_law_11 rfl ?_
  refine mm_callI (as := []) (st := [.ref (mm_n m + 1)]) (b2 := b_6) ca_M_init rfl rfl rfl w_738 w_739 d_L_law_12 rfl (Nat.le_of_ble_eq_true rfl) (Nat.le_of_ble_eq_true rfl) (Nat.le_of_ble_eq_true rfl) hb7 M9 (fun E m2 q => absurd q (hx10 E m2)) (fun v m2 q => ?_)
  obtain ⟨rfl, z9⟩ := h11 v m2 q
  exact mm_sub [1, 0] rfl z9
theorem t_L_law_15 {l : Launch} {G : mm_G} {ns : Nat} {xs : Nat → Int32} {b : Nat} {m : mm_Mem} {Q : mm_O → mm_Mem → Prop} {r1 : Nat} {rs0 : Nat} {b_1 : Nat} {n_2 : Nat} (k3 : ¬ (1 : Int32) < 0) (k4 : (1 : Int32).toNatClampNeg = n_2) (k5 : n_2 * 8 ≤ 536870912) (hb6 : n_2 + 1 + b_1 ≤ b) (h7 : mm_W l G (k_L_law ns xs) 23 [(0, .ref 0), (1, .ref r1), (2, .ref rs0), (3, .ref (mm_n m + 1)), (4, .int 0)] [] b_1 (mm_push m (.inl (G.2 2, n_2, .inr (.inl (fun _ => 0))))) Q) : mm_W l G (k_L_law ns xs) 15 [(0, .ref 0), (1, .ref r1)] [.ref rs0] b m Q := by
  refine mm_astore_n (i := 2) d_L_law_15 rfl (Nat.le_of_ble_eq_true rfl) (lv2 := [(2, .ref rs0), (0, .ref 0), (1, .ref r1)]) rfl ?_
  refine mm_iconst d_L_law_16 (v := 1) (by decide) ?_
  refine mm_newa (t := 2) (ty := .long) (a0 := .inr (.inl (fun _ => 0))) (atype := .long) w_831 rfl rfl (fun _ => rfl) (fun _ => trivial) (fun _ => rfl) d_L_law_17 k3 k4 (Nat.le_trans (Nat.mul_le_mul_left _ (by decide)) k5) hb6 ?_
  refine mm_astore_n (i := 3) d_L_law_19 rfl (Nat.le_of_ble_eq_true rfl) (lv2 := [(3, .ref (mm_n m + 1)), (2, .ref rs0), (0, .ref 0), (1, .ref r1)]) rfl ?_
  refine mm_iconst d_L_law_20 (v := 0) (by decide) ?_
  refine mm_istore (i := 4) d_L_law_21 (Nat.le_of_ble_eq_true rfl) (lv2 := [(4, .int 0), (3, .ref (mm_n m + 1)), (2, .ref rs0), (0, .ref 0), (1, .ref r1)]) rfl ?_
  exact mm_sub [3, 4, 2, 1, 0] rfl h7
theorem t_L_law_23 {l : Launch} {G : mm_G} {ns : Nat} {xs : Nat → Int32} {b : Nat} {m : mm_Mem} {Q : mm_O → mm_Mem → Prop} {r1 : Nat} {r2 : Nat} {r3 : Nat} {x4 : Int32} (h1 : (((nI ns) - 6) < x4) → mm_W l G (k_L_law ns xs) 1024 [] [] b m Q) (h2 : (¬ ((nI ns) - 6) < x4) → mm_W l G (k_L_law ns xs) 33 [(0, .ref 0), (1, .ref r1), (2, .ref r2), (3, .ref r3), (4, .int x4)] [] b m Q) : mm_W l G (k_L_law ns xs) 23 [(0, .ref 0), (1, .ref r1), (2, .ref r2), (3, .ref r3), (4, .int x4)] [] b m Q := by
  refine mm_iload 4 (i := 4) d_L_law_23 rfl ?_
  refine mm_aload_n 0 (i := 0) d_L_law_25 rfl rfl ?_
  refine mm_salen (n := ns) (xs := xs) rfl d_L_law_26 ?_
  refine mm_bipush d_L_law_27 (v := 6) (by decide) ?_
  refine mm_isub d_L_law_29 ?_
  exact mm_icmp_gt (tgt := 1024) d_L_law_30 (by decide) (fun c => mm_sub [] rfl (h1 c)) (fun c => mm_sub [0, 1, 2, 3, 4] rfl (h2 c))
theorem t_L_law_33 {l : Launch} {G : mm_G} {ns : Nat} {xs : Nat → Int32} {b : Nat} {m : mm_Mem} {Q : mm_O → mm_Mem → Prop} {r1 : Nat} {r2 : Nat} {r3 : Nat} {x4 : Int32} (i1 : vp_in x4 ns) (h2 : ((xs x4.toNatClampNeg) &&& 31 = 0) → mm_W l G (k_L_law ns xs) 132 [(0, .ref 0), (1, .ref r1), (2, .ref r2), (3, .ref r3), (4, .int x4)] [] b m Q) (h3 : ((xs x4.toNatClampNeg) &&& 31 = 1) → mm_W l G (k_L_law ns xs) 216 [(0, .ref 0), (1, .ref r1), (2, .ref r2), (3, .ref r3), (4, .int x4)] [] b m Q) (h4 : ((xs x4.toNatClampNeg) &&& 31 = 2) → mm_W l G (k_L_law ns xs) 252 [(0, .ref 0), (1, .ref r1), (2, .ref r2), (3, .ref r3), (4, .int x4)] [] b m Q) (h5 : ((xs x4.toNatClampNeg) &&& 31 = 3) → mm_W l G (k_L_law ns xs) 300 [(0, .ref 0), (1, .ref r1), (2, .ref r2), (3, .ref r3), (4, .int x4)] [] b m Q) (h6 : ((xs x4.toNatClampNeg) &&& 31 = 4) → mm_W l G (k_L_law ns xs) 313 [(0, .ref 0), (1, .ref r1), (2, .ref r2), (3, .ref r3), (4, .int x4)] [] b m Q) (h7 : ((xs x4.toNatClampNeg) &&& 31 = 5) → mm_W l G (k_L_law ns xs) 369 [(0, .ref 0), (1, .ref r1), (2, .ref r2), (3, .ref r3), (4, .int x4)] [] b m Q) (h8 : ((xs x4.toNatClampNeg) &&& 31 = 6) → mm_W l G (k_L_law ns xs) 425 [(0, .ref 0), (1, .ref r1), (2, .ref r2), (3, .ref r3), (4, .int x4)] [] b m Q) (h9 : ((xs x4.toNatClampNeg) &&& 31 = 7) → mm_W l G (k_L_law ns xs) 436 [(0, .ref 0), (1, .ref r1), (2, .ref r2), (3, .ref r3), (4, .int x4)] [] b m Q) (h10 : ((xs x4.toNatClampNeg) &&& 31 = 8) → mm_W l G (k_L_law ns xs) 480 [(0, .ref 0), (1, .ref r1), (2, .ref r2), (3, .ref r3), (4, .int x4)] [] b m Q) (h11 : ((xs x4.toNatClampNeg) &&& 31 = 9) → mm_W l G (k_L_law ns xs) 548 [(0, .ref 0), (1, .ref r1), (2, .ref r2), (3, .ref r3), (4, .int x4)] [] b m Q) (h12 : ((xs x4.toNatClampNeg) &&& 31 = 10) → mm_W l G (k_L_law ns xs) 584 [(0, .ref 0), (1, .ref r1), (2, .ref r2), (3, .ref r3), (4, .int x4)] [] b m Q) (h13 : ((xs x4.toNatClampNeg) &&& 31 = 11) → mm_W l G (k_L_law ns xs) 632 [(0, .ref 0), (1, .ref r1), (2, .ref r2), (3, .ref r3), (4, .int x4)] [] b m Q) (h14 : ((xs x4.toNatClampNeg) &&& 31 = 12) → mm_W l G (k_L_law ns xs) 645 [(0, .ref 0), (1, .ref r1), (2, .ref r2), (3, .ref r3), (4, .int x4)] [] b m Q) (h15 : ((xs x4.toNatClampNeg) &&& 31 = 13) → mm_W l G (k_L_law ns xs) 713 [(0, .ref 0), (1, .ref r1), (2, .ref r2), (3, .ref r3), (4, .int x4)] [] b m Q) (h16 : ((xs x4.toNatClampNeg) &&& 31 = 14) → mm_W l G (k_L_law ns xs) 781 [(0, .ref 0), (1, .ref r1), (2, .ref r2), (3, .ref r3), (4, .int x4)] [] b m Q) (h17 : ((xs x4.toNatClampNeg) &&& 31 = 15) → mm_W l G (k_L_law ns xs) 849 [(0, .ref 0), (1, .ref r1), (2, .ref r2), (3, .ref r3), (4, .int x4)] [] b m Q) (h18 : ((xs x4.toNatClampNeg) &&& 31 = 16) → mm_W l G (k_L_law ns xs) 893 [(0, .ref 0), (1, .ref r1), (2, .ref r2), (3, .ref r3), (4, .int x4)] [] b m Q) (h19 : ((xs x4.toNatClampNeg) &&& 31 = 17) → mm_W l G (k_L_law ns xs) 949 [(0, .ref 0), (1, .ref r1), (2, .ref r2), (3, .ref r3), (4, .int x4)] [] b m Q) (h20 : ((xs x4.toNatClampNeg) &&& 31 = 18) → mm_W l G (k_L_law ns xs) 1005 [(0, .ref 0), (1, .ref r1), (2, .ref r2), (3, .ref r3), (4, .int x4)] [] b m Q) (h21 : (((xs x4.toNatClampNeg) &&& 31).toInt < 0 ∨ 18 < ((xs x4.toNatClampNeg) &&& 31).toInt) → mm_W l G (k_L_law ns xs) 1018 [(0, .ref 0), (1, .ref r1), (2, .ref r2), (3, .ref r3), (4, .int x4)] [] b m Q) : mm_W l G (k_L_law ns xs) 33 [(0, .ref 0), (1, .ref r1), (2, .ref r2), (3, .ref r3), (4, .int x4)] [] b m Q := by
  refine mm_aload_n 0 (i := 0) d_L_law_33 rfl rfl ?_
  refine mm_iload 4 (i := 4) d_L_law_34 rfl ?_
  refine mm_sald (n := ns) (xs := xs) rfl d_L_law_36 i1 ?_
  refine mm_bipush d_L_law_37 (v := 31) (by decide) ?_
  refine mm_iand d_L_law_39 ?_
  by_cases c0 : ((xs x4.toNatClampNeg) &&& 31).toInt < 0 ∨ 18 < ((xs x4.toNatClampNeg) &&& 31).toInt
  · exact mm_tableOut (tgt := 1018) d_L_law_40 c0 (by decide) (mm_sub [0, 1, 2, 3, 4] rfl (h21 c0))
  by_cases c1 : (xs x4.toNatClampNeg) &&& 31 = 0
  · exact mm_tableIn (tgt := 132) d_L_law_40 (by rw [c1]; decide) (by rw [c1]; decide) (by rw [c1]; rfl) (by decide) (mm_sub [0, 1, 2, 3, 4] rfl (h2 c1))
  by_cases c2 : (xs x4.toNatClampNeg) &&& 31 = 1
  · exact mm_tableIn (tgt := 216) d_L_law_40 (by rw [c2]; decide) (by rw [c2]; decide) (by rw [c2]; rfl) (by decide) (mm_sub [0, 1, 2, 3, 4] rfl (h3 c2))
  by_cases c3 : (xs x4.toNatClampNeg) &&& 31 = 2
  · exact mm_tableIn (tgt := 252) d_L_law_40 (by rw [c3]; decide) (by rw [c3]; decide) (by rw [c3]; rfl) (by decide) (mm_sub [0, 1, 2, 3, 4] rfl (h4 c3))
  by_cases c4 : (xs x4.toNatClampNeg) &&& 31 = 3
  · exact mm_tableIn (tgt := 300) d_L_law_40 (by rw [c4]; decide) (by rw [c4]; decide) (by rw [c4]; rfl) (by decide) (mm_sub [0, 1, 2, 3, 4] rfl (h5 c4))
  by_cases c5 : (xs x4.toNatClampNeg) &&& 31 = 4
  · exact mm_tableIn (tgt := 313) d_L_law_40 (by rw [c5]; decide) (by rw [c5]; decide) (by rw [c5]; rfl) (by decide) (mm_sub [0, 1, 2, 3, 4] rfl (h6 c5))
  by_cases c6 : (xs x4.toNatClampNeg) &&& 31 = 5
  · exact mm_tableIn (tgt := 369) d_L_law_40 (by rw [c6]; decide) (by rw [c6]; decide) (by rw [c6]; rfl) (by decide) (mm_sub [0, 1, 2, 3, 4] rfl (h7 c6))
  by_cases c7 : (xs x4.toNatClampNeg) &&& 31 = 6
  · exact mm_tableIn (tgt := 425) d_L_law_40 (by rw [c7]; decide) (by rw [c7]; decide) (by rw [c7]; rfl) (by decide) (mm_sub [0, 1, 2, 3, 4] rfl (h8 c7))
  by_cases c8 : (xs x4.toNatClampNeg) &&& 31 = 7
  · exact mm_tableIn (tgt := 436) d_L_law_40 (by rw [c8]; decide) (by rw [c8]; decide) (by rw [c8]; rfl) (by decide) (mm_sub [0, 1, 2, 3, 4] rfl (h9 c8))
  by_cases c9 : (xs x4.toNatClampNeg) &&& 31 = 8
  · exact mm_tableIn (tgt := 480) d_L_law_40 (by rw [c9]; decide) (by rw [c9]; decide) (by rw [c9]; rfl) (by decide) (mm_sub [0, 1, 2, 3, 4] rfl (h10 c9))
  by_cases c10 : (xs x4.toNatClampNeg) &&& 31 = 9
  · exact mm_tableIn (tgt := 548) d_L_law_40 (by rw [c10]; decide) (by rw [c10]; decide) (by rw [c10]; rfl) (by decide) (mm_sub [0, 1, 2, 3, 4] rfl (h11 c10))
  by_cases c11 : (xs x4.toNatClampNeg) &&& 31 = 10
  · exact mm_tableIn (tgt := 584) d_L_law_40 (by rw [c11]; decide) (by rw [c11]; decide) (by rw [c11]; rfl) (by decide) (mm_sub [0, 1, 2, 3, 4] rfl (h12 c11))
  by_cases c12 : (xs x4.toNatClampNeg) &&& 31 = 11
  · exact mm_tableIn (tgt := 632) d_L_law_40 (by rw [c12]; decide) (by rw [c12]; decide) (by rw [c12]; rfl) (by decide) (mm_sub [0, 1, 2, 3, 4] rfl (h13 c12))
  by_cases c13 : (xs x4.toNatClampNeg) &&& 31 = 12
  · exact mm_tableIn (tgt := 645) d_L_law_40 (by rw [c13]; decide) (by rw [c13]; decide) (by rw [c13]; rfl) (by decide) (mm_sub [0, 1, 2, 3, 4] rfl (h14 c13))
  by_cases c14 : (xs x4.toNatClampNeg) &&& 31 = 13
  · exact mm_tableIn (tgt := 713) d_L_law_40 (by rw [c14]; decide) (by rw [c14]; decide) (by rw [c14]; rfl) (by decide) (mm_sub [0, 1, 2, 3, 4] rfl (h15 c14))
  by_cases c15 : (xs x4.toNatClampNeg) &&& 31 = 14
  · exact mm_tableIn (tgt := 781) d_L_law_40 (by rw [c15]; decide) (by rw [c15]; decide) (by rw [c15]; rfl) (by decide) (mm_sub [0, 1, 2, 3, 4] rfl (h16 c15))
  by_cases c16 : (xs x4.toNatClampNeg) &&& 31 = 15
  · exact mm_tableIn (tgt := 849) d_L_law_40 (by rw [c16]; decide) (by rw [c16]; decide) (by rw [c16]; rfl) (by decide) (mm_sub [0, 1, 2, 3, 4] rfl (h17 c16))
  by_cases c17 : (xs x4.toNatClampNeg) &&& 31 = 16
  · exact mm_tableIn (tgt := 893) d_L_law_40 (by rw [c17]; decide) (by rw [c17]; decide) (by rw [c17]; rfl) (by decide) (mm_sub [0, 1, 2, 3, 4] rfl (h18 c17))
  by_cases c18 : (xs x4.toNatClampNeg) &&& 31 = 17
  · exact mm_tableIn (tgt := 949) d_L_law_40 (by rw [c18]; decide) (by rw [c18]; decide) (by rw [c18]; rfl) (by decide) (mm_sub [0, 1, 2, 3, 4] rfl (h19 c18))
  by_cases c19 : (xs x4.toNatClampNeg) &&& 31 = 18
  · exact mm_tableIn (tgt := 1005) d_L_law_40 (by rw [c19]; decide) (by rw [c19]; decide) (by rw [c19]; rfl) (by decide) (mm_sub [0, 1, 2, 3, 4] rfl (h20 c19))
  exfalso
  have e0 : ∀ k : Int32, ¬ (xs x4.toNatClampNeg) &&& 31 = k → ¬ ((xs x4.toNatClampNeg) &&& 31).toInt = k.toInt := fun k c e => c (Int32.toInt_inj.mp e)
  have e1 : ¬ ((xs x4.toNatClampNeg) &&& 31).toInt = 0 := e0 0 c1
  have e2 : ¬ ((xs x4.toNatClampNeg) &&& 31).toInt = 1 := e0 1 c2
  have e3 : ¬ ((xs x4.toNatClampNeg) &&& 31).toInt = 2 := e0 2 c3
  have e4 : ¬ ((xs x4.toNatClampNeg) &&& 31).toInt = 3 := e0 3 c4
  have e5 : ¬ ((xs x4.toNatClampNeg) &&& 31).toInt = 4 := e0 4 c5
  have e6 : ¬ ((xs x4.toNatClampNeg) &&& 31).toInt = 5 := e0 5 c6
  have e7 : ¬ ((xs x4.toNatClampNeg) &&& 31).toInt = 6 := e0 6 c7
  have e8 : ¬ ((xs x4.toNatClampNeg) &&& 31).toInt = 7 := e0 7 c8
  have e9 : ¬ ((xs x4.toNatClampNeg) &&& 31).toInt = 8 := e0 8 c9
  have e10 : ¬ ((xs x4.toNatClampNeg) &&& 31).toInt = 9 := e0 9 c10
  have e11 : ¬ ((xs x4.toNatClampNeg) &&& 31).toInt = 10 := e0 10 c11
  have e12 : ¬ ((xs x4.toNatClampNeg) &&& 31).toInt = 11 := e0 11 c12
  have e13 : ¬ ((xs x4.toNatClampNeg) &&& 31).toInt = 12 := e0 12 c13
  have e14 : ¬ ((xs x4.toNatClampNeg) &&& 31).toInt = 13 := e0 13 c14
  have e15 : ¬ ((xs x4.toNatClampNeg) &&& 31).toInt = 14 := e0 14 c15
  have e16 : ¬ ((xs x4.toNatClampNeg) &&& 31).toInt = 15 := e0 15 c16
  have e17 : ¬ ((xs x4.toNatClampNeg) &&& 31).toInt = 16 := e0 16 c17
  have e18 : ¬ ((xs x4.toNatClampNeg) &&& 31).toInt = 17 := e0 17 c18
  have e19 : ¬ ((xs x4.toNatClampNeg) &&& 31).toInt = 18 := e0 18 c19
  omega
theorem t_L_law_132 {l : Launch} {G : mm_G} {ns : Nat} {xs : Nat → Int32} {b : Nat} {m : mm_Mem} {Q : mm_O → mm_Mem → Prop} {r1 : Nat} {r2 : Nat} {r3 : Nat} {x4 : Int32} {b_6 : Nat} {b_7 : Nat} {P_9 : mm_O → mm_Mem → Prop} (i1 : vp_in (x4 + 1) ns) (i2 : vp_in (x4 + 2) ns) (i3 : vp_in (x4 + 3) ns) (i4 : vp_in (x4 + 4) ns) (i5 : vp_in (x4 + 5) ns) (hb8 : b_6 + b_7 ≤ b) (M10 : mm_W l G k_L_feed 0 (lv_args 0 [.ref r1, .int (xs (x4 + 1).toNatClampNeg), .int (xs (x4 + 2).toNatClampNeg), .int (xs (x4 + 3).toNatClampNeg), .int (xs (x4 + 4).toNatClampNeg), .int (xs (x4 + 5).toNatClampNeg)]) [] b_6 m P_9) (hx11 : ∀ (E : String) (n_2 : mm_Mem), ¬ P_9 (.inr E) n_2) (h12 : ∀ (v : Option Value) (n_2 : mm_Mem), P_9 (.inl v) n_2 → ∃ x9 : Int32, v = some (.int x9) ∧ mm_W l G (k_L_law ns xs) 166 [(0, .ref 0), (1, .ref r1), (2, .ref r2), (3, .ref r3), (4, .int x4)] [.int x9] b_7 n_2 Q) : mm_W l G (k_L_law ns xs) 132 [(0, .ref 0), (1, .ref r1), (2, .ref r2), (3, .ref r3), (4, .int x4)] [] b m Q := by
  refine mm_aload_n 1 (i := 1) d_L_law_132 rfl rfl ?_
  refine mm_aload_n 0 (i := 0) d_L_law_133 rfl rfl ?_
  refine mm_iload 4 (i := 4) d_L_law_134 rfl ?_
  refine mm_iconst d_L_law_136 (v := 1) (by decide) ?_
  refine mm_iadd d_L_law_137 ?_
  refine mm_sald (n := ns) (xs := xs) rfl d_L_law_138 i1 ?_
  refine mm_aload_n 0 (i := 0) d_L_law_139 rfl rfl ?_
  refine mm_iload 4 (i := 4) d_L_law_140 rfl ?_
  refine mm_iconst d_L_law_142 (v := 2) (by decide) ?_
  refine mm_iadd d_L_law_143 ?_
  refine mm_sald (n := ns) (xs := xs) rfl d_L_law_144 i2 ?_
  refine mm_aload_n 0 (i := 0) d_L_law_145 rfl rfl ?_
  refine mm_iload 4 (i := 4) d_L_law_146 rfl ?_
  refine mm_iconst d_L_law_148 (v := 3) (by decide) ?_
  refine mm_iadd d_L_law_149 ?_
  refine mm_sald (n := ns) (xs := xs) rfl d_L_law_150 i3 ?_
  refine mm_aload_n 0 (i := 0) d_L_law_151 rfl rfl ?_
  refine mm_iload 4 (i := 4) d_L_law_152 rfl ?_
  refine mm_iconst d_L_law_154 (v := 4) (by decide) ?_
  refine mm_iadd d_L_law_155 ?_
  refine mm_sald (n := ns) (xs := xs) rfl d_L_law_156 i4 ?_
  refine mm_aload_n 0 (i := 0) d_L_law_157 rfl rfl ?_
  refine mm_iload 4 (i := 4) d_L_law_158 rfl ?_
  refine mm_iconst d_L_law_160 (v := 5) (by decide) ?_
  refine mm_iadd d_L_law_161 ?_
  refine mm_sald (n := ns) (xs := xs) rfl d_L_law_162 i5 ?_
  refine mm_callS (as := [.ref r1, .int (xs (x4 + 1).toNatClampNeg), .int (xs (x4 + 2).toNatClampNeg), .int (xs (x4 + 3).toNatClampNeg), .int (xs (x4 + 4).toNatClampNeg), .int (xs (x4 + 5).toNatClampNeg)]) (st := []) (b2 := b_7) ca_L_feed w_293 w_294 d_L_law_163 rfl (Nat.le_of_ble_eq_true rfl) (Nat.le_of_ble_eq_true rfl) (Nat.le_of_ble_eq_true rfl) hb8 M10 (fun E m2 q => absurd q (hx11 E m2)) (fun v m2 q => ?_)
  obtain ⟨x9, rfl, z9⟩ := h12 v m2 q
  exact mm_sub [0, 1, 2, 3, 4] rfl z9
theorem t_L_law_166 {l : Launch} {G : mm_G} {ns : Nat} {xs : Nat → Int32} {b : Nat} {m : mm_Mem} {Q : mm_O → mm_Mem → Prop} {r1 : Nat} {r2 : Nat} {r3 : Nat} {x4 : Int32} {xs0 : Int32} {b_6 : Nat} {b_7 : Nat} {P_9 : mm_O → mm_Mem → Prop} {fs_10 : List Value} (i1 : vp_in (x4 + 1) ns) (i2 : vp_in (x4 + 2) ns) (i3 : vp_in (x4 + 3) ns) (i4 : vp_in (x4 + 4) ns) (i5 : vp_in (x4 + 5) ns) (hb8 : b_6 + b_7 ≤ b) (g11 : m r2 = .inr (8, fs_10)) (z12 : r2 ≠ 0) (M13 : mm_W l G k_M_feed 0 (lv_args 0 [.ref r2, .int (xs (x4 + 1).toNatClampNeg), .int (xs (x4 + 2).toNatClampNeg), .int (xs (x4 + 3).toNatClampNeg), .int (xs (x4 + 4).toNatClampNeg), .int (xs (x4 + 5).toNatClampNeg)]) [] b_6 m P_9) (hx14 : ∀ (E : String) (n_2 : mm_Mem), ¬ P_9 (.inr E) n_2) (h15 : ∀ (v : Option Value) (n_2 : mm_Mem), P_9 (.inl v) n_2 → v = none ∧ mm_W l G (k_L_law ns xs) 202 [(0, .ref 0), (1, .ref r1), (2, .ref r2), (3, .ref r3), (4, .int x4), (5, .int xs0)] [] b_7 n_2 Q) : mm_W l G (k_L_law ns xs) 166 [(0, .ref 0), (1, .ref r1), (2, .ref r2), (3, .ref r3), (4, .int x4)] [.int xs0] b m Q := by
  refine mm_istore (i := 5) d_L_law_166 (Nat.le_of_ble_eq_true rfl) (lv2 := [(5, .int xs0), (0, .ref 0), (1, .ref r1), (2, .ref r2), (3, .ref r3), (4, .int x4)]) rfl ?_
  refine mm_aload_n 3 (i := 2) d_L_law_168 rfl rfl ?_
  refine mm_aload_n 1 (i := 0) d_L_law_169 rfl rfl ?_
  refine mm_iload 5 (i := 4) d_L_law_170 rfl ?_
  refine mm_iconst d_L_law_172 (v := 1) (by decide) ?_
  refine mm_iadd d_L_law_173 ?_
  refine mm_sald (n := ns) (xs := xs) rfl d_L_law_174 i1 ?_
  refine mm_aload_n 1 (i := 0) d_L_law_175 rfl rfl ?_
  refine mm_iload 5 (i := 4) d_L_law_176 rfl ?_
  refine mm_iconst d_L_law_178 (v := 2) (by decide) ?_
  refine mm_iadd d_L_law_179 ?_
  refine mm_sald (n := ns) (xs := xs) rfl d_L_law_180 i2 ?_
  refine mm_aload_n 1 (i := 0) d_L_law_181 rfl rfl ?_
  refine mm_iload 5 (i := 4) d_L_law_182 rfl ?_
  refine mm_iconst d_L_law_184 (v := 3) (by decide) ?_
  refine mm_iadd d_L_law_185 ?_
  refine mm_sald (n := ns) (xs := xs) rfl d_L_law_186 i3 ?_
  refine mm_aload_n 1 (i := 0) d_L_law_187 rfl rfl ?_
  refine mm_iload 5 (i := 4) d_L_law_188 rfl ?_
  refine mm_iconst d_L_law_190 (v := 4) (by decide) ?_
  refine mm_iadd d_L_law_191 ?_
  refine mm_sald (n := ns) (xs := xs) rfl d_L_law_192 i4 ?_
  refine mm_aload_n 1 (i := 0) d_L_law_193 rfl rfl ?_
  refine mm_iload 5 (i := 4) d_L_law_194 rfl ?_
  refine mm_iconst d_L_law_196 (v := 5) (by decide) ?_
  refine mm_iadd d_L_law_197 ?_
  refine mm_sald (n := ns) (xs := xs) rfl d_L_law_198 i5 ?_
  refine mm_callV (as := [.int (xs (x4 + 1).toNatClampNeg), .int (xs (x4 + 2).toNatClampNeg), .int (xs (x4 + 3).toNatClampNeg), .int (xs (x4 + 4).toNatClampNeg), .int (xs (x4 + 5).toNatClampNeg)]) (st := []) (b2 := b_7) ca_M_feed w_837 w_838 w_839 cc_M.1 rfl d_L_law_199 rfl (Nat.le_of_ble_eq_true rfl) (Nat.le_of_ble_eq_true rfl) (Nat.le_of_ble_eq_true rfl) hb8 g11 z12 M13 (fun E m2 q => absurd q (hx14 E m2)) (fun v m2 q => ?_)
  obtain ⟨rfl, z9⟩ := h15 v m2 q
  exact mm_sub [1, 2, 3, 4, 5, 0] rfl z9
theorem t_L_law_202 {l : Launch} {G : mm_G} {ns : Nat} {xs : Nat → Int32} {b : Nat} {m : mm_Mem} {Q : mm_O → mm_Mem → Prop} {r1 : Nat} {r2 : Nat} {r3 : Nat} {x4 : Int32} {x5 : Int32} {b_1 : Nat} {b_2 : Nat} {m_4 : mm_Mem} {x_5 : Int32} {fs_6 : List Value} (hb3 : b_1 + b_2 ≤ b) (g7 : m r2 = .inr (8, fs_6)) (z8 : r2 ≠ 0) (M9 : mm_W l G k_M_thrown 0 (lv_args 0 [.ref r2]) [] b_1 m (mm_is (.inl (some (.int x_5))) m_4)) (h10 : (x_5 = x5) → mm_W l G (k_L_law ns xs) 213 [(0, .ref 0), (1, .ref r1), (2, .ref r2), (3, .ref r3), (4, .int x4)] [] b_2 m_4 Q) (h11 : (¬ x_5 = x5) → mm_W l G (k_L_law ns xs) 211 [] [] b_2 m_4 Q) : mm_W l G (k_L_law ns xs) 202 [(0, .ref 0), (1, .ref r1), (2, .ref r2), (3, .ref r3), (4, .int x4), (5, .int x5)] [] b m Q := by
  refine mm_aload_n 2 (i := 2) d_L_law_202 rfl rfl ?_
  refine mm_callV (as := []) (st := []) (b2 := b_2) ca_M_thrown w_833 w_834 w_835 cc_M.1 rfl d_L_law_203 rfl (Nat.le_of_ble_eq_true rfl) (Nat.le_of_ble_eq_true rfl) (Nat.le_of_ble_eq_true rfl) hb3 g7 z8 M9 (fun E _ ⟨c, _⟩ => nomatch c) (fun v _ ⟨c, e⟩ => ?_)
  cases c
  rw [e]
  show mm_W l G (k_L_law ns xs) 206 [(0, .ref 0), (1, .ref r1), (2, .ref r2), (3, .ref r3), (4, .int x4), (5, .int x5)] [.int x_5] b_2 m_4 Q
  refine mm_iload 5 (i := 5) d_L_law_206 rfl ?_
  exact mm_icmp_eq (tgt := 213) d_L_law_208 (by decide) (fun c => mm_sub [0, 1, 2, 3, 4] rfl (h10 c)) (fun c => mm_sub [] rfl (h11 c))
theorem t_L_law_211 {l : Launch} {G : mm_G} {ns : Nat} {xs : Nat → Int32} {b : Nat} {m : mm_Mem} {Q : mm_O → mm_Mem → Prop}  (h1 : Q (.inl (some (.int 0))) m) (hn2 : narrow .boolean (.int 0) = .int 0) : mm_W l G (k_L_law ns xs) 211 [] [] b m Q := by
  refine mm_iconst d_L_law_211 (v := 0) (by decide) ?_
  exact mm_zret d_L_law_212 rfl hn2 h1
theorem t_L_law_213 {l : Launch} {G : mm_G} {ns : Nat} {xs : Nat → Int32} {b : Nat} {m : mm_Mem} {Q : mm_O → mm_Mem → Prop} {r1 : Nat} {r2 : Nat} {r3 : Nat} {x4 : Int32} (h1 : mm_W l G (k_L_law ns xs) 1018 [(0, .ref 0), (1, .ref r1), (2, .ref r2), (3, .ref r3), (4, .int x4)] [] b m Q) : mm_W l G (k_L_law ns xs) 213 [(0, .ref 0), (1, .ref r1), (2, .ref r2), (3, .ref r3), (4, .int x4)] [] b m Q := by
  refine mm_goto (tgt := 1018) d_L_law_213 (by decide) ?_
  exact mm_sub [0, 1, 2, 3, 4] rfl h1
theorem t_L_law_216 {l : Launch} {G : mm_G} {ns : Nat} {xs : Nat → Int32} {b : Nat} {m : mm_Mem} {Q : mm_O → mm_Mem → Prop} {r1 : Nat} {r2 : Nat} {r3 : Nat} {x4 : Int32} {b_2 : Nat} {b_3 : Nat} {P_5 : mm_O → mm_Mem → Prop} (i1 : vp_in (x4 + 1) ns) (hb4 : b_2 + b_3 ≤ b) (M6 : mm_W l G k_L_end 0 (lv_args 0 [.ref r1, .int (xs (x4 + 1).toNatClampNeg)]) [] b_2 m P_5) (hx7 : ∀ (E : String) (n_2 : mm_Mem), ¬ P_5 (.inr E) n_2) (h8 : ∀ (v : Option Value) (n_2 : mm_Mem), P_5 (.inl v) n_2 → ∃ x9 : Int32, v = some (.int x9) ∧ mm_W l G (k_L_law ns xs) 226 [(0, .ref 0), (1, .ref r1), (2, .ref r2), (3, .ref r3), (4, .int x4)] [.int x9] b_3 n_2 Q) : mm_W l G (k_L_law ns xs) 216 [(0, .ref 0), (1, .ref r1), (2, .ref r2), (3, .ref r3), (4, .int x4)] [] b m Q := by
  refine mm_aload_n 1 (i := 1) d_L_law_216 rfl rfl ?_
  refine mm_aload_n 0 (i := 0) d_L_law_217 rfl rfl ?_
  refine mm_iload 4 (i := 4) d_L_law_218 rfl ?_
  refine mm_iconst d_L_law_220 (v := 1) (by decide) ?_
  refine mm_iadd d_L_law_221 ?_
  refine mm_sald (n := ns) (xs := xs) rfl d_L_law_222 i1 ?_
  refine mm_callS (as := [.ref r1, .int (xs (x4 + 1).toNatClampNeg)]) (st := []) (b2 := b_3) ca_L_end w_380 w_381 d_L_law_223 rfl (Nat.le_of_ble_eq_true rfl) (Nat.le_of_ble_eq_true rfl) (Nat.le_of_ble_eq_true rfl) hb4 M6 (fun E m2 q => absurd q (hx7 E m2)) (fun v m2 q => ?_)
  obtain ⟨x9, rfl, z9⟩ := h8 v m2 q
  exact mm_sub [0, 1, 2, 3, 4] rfl z9
theorem t_L_law_226 {l : Launch} {G : mm_G} {ns : Nat} {xs : Nat → Int32} {b : Nat} {m : mm_Mem} {Q : mm_O → mm_Mem → Prop} {r1 : Nat} {r2 : Nat} {r3 : Nat} {x4 : Int32} {xs0 : Int32} {b_2 : Nat} {b_3 : Nat} {P_5 : mm_O → mm_Mem → Prop} {fs_6 : List Value} (i1 : vp_in (x4 + 1) ns) (hb4 : b_2 + b_3 ≤ b) (g7 : m r2 = .inr (8, fs_6)) (z8 : r2 ≠ 0) (M9 : mm_W l G k_M_end 0 (lv_args 0 [.ref r2, .int (xs (x4 + 1).toNatClampNeg)]) [] b_2 m P_5) (hx10 : ∀ (E : String) (n_2 : mm_Mem), ¬ P_5 (.inr E) n_2) (h11 : ∀ (v : Option Value) (n_2 : mm_Mem), P_5 (.inl v) n_2 → v = none ∧ mm_W l G (k_L_law ns xs) 238 [(0, .ref 0), (1, .ref r1), (2, .ref r2), (3, .ref r3), (4, .int x4), (5, .int xs0)] [] b_3 n_2 Q) : mm_W l G (k_L_law ns xs) 226 [(0, .ref 0), (1, .ref r1), (2, .ref r2), (3, .ref r3), (4, .int x4)] [.int xs0] b m Q := by
  refine mm_istore (i := 5) d_L_law_226 (Nat.le_of_ble_eq_true rfl) (lv2 := [(5, .int xs0), (0, .ref 0), (1, .ref r1), (2, .ref r2), (3, .ref r3), (4, .int x4)]) rfl ?_
  refine mm_aload_n 3 (i := 2) d_L_law_228 rfl rfl ?_
  refine mm_aload_n 1 (i := 0) d_L_law_229 rfl rfl ?_
  refine mm_iload 5 (i := 4) d_L_law_230 rfl ?_
  refine mm_iconst d_L_law_232 (v := 1) (by decide) ?_
  refine mm_iadd d_L_law_233 ?_
  refine mm_sald (n := ns) (xs := xs) rfl d_L_law_234 i1 ?_
  refine mm_callV (as := [.int (xs (x4 + 1).toNatClampNeg)]) (st := []) (b2 := b_3) ca_M_end w_841 w_842 w_843 cc_M.1 rfl d_L_law_235 rfl (Nat.le_of_ble_eq_true rfl) (Nat.le_of_ble_eq_true rfl) (Nat.le_of_ble_eq_true rfl) hb4 g7 z8 M9 (fun E m2 q => absurd q (hx10 E m2)) (fun v m2 q => ?_)
  obtain ⟨rfl, z9⟩ := h11 v m2 q
  exact mm_sub [1, 2, 3, 4, 5, 0] rfl z9
theorem t_L_law_238 {l : Launch} {G : mm_G} {ns : Nat} {xs : Nat → Int32} {b : Nat} {m : mm_Mem} {Q : mm_O → mm_Mem → Prop} {r1 : Nat} {r2 : Nat} {r3 : Nat} {x4 : Int32} {x5 : Int32} {b_1 : Nat} {b_2 : Nat} {m_4 : mm_Mem} {x_5 : Int32} {fs_6 : List Value} (hb3 : b_1 + b_2 ≤ b) (g7 : m r2 = .inr (8, fs_6)) (z8 : r2 ≠ 0) (M9 : mm_W l G k_M_thrown 0 (lv_args 0 [.ref r2]) [] b_1 m (mm_is (.inl (some (.int x_5))) m_4)) (h10 : (x_5 = x5) → mm_W l G (k_L_law ns xs) 249 [(0, .ref 0), (1, .ref r1), (2, .ref r2), (3, .ref r3), (4, .int x4)] [] b_2 m_4 Q) (h11 : (¬ x_5 = x5) → mm_W l G (k_L_law ns xs) 247 [] [] b_2 m_4 Q) : mm_W l G (k_L_law ns xs) 238 [(0, .ref 0), (1, .ref r1), (2, .ref r2), (3, .ref r3), (4, .int x4), (5, .int x5)] [] b m Q := by
  refine mm_aload_n 2 (i := 2) d_L_law_238 rfl rfl ?_
  refine mm_callV (as := []) (st := []) (b2 := b_2) ca_M_thrown w_833 w_834 w_835 cc_M.1 rfl d_L_law_239 rfl (Nat.le_of_ble_eq_true rfl) (Nat.le_of_ble_eq_true rfl) (Nat.le_of_ble_eq_true rfl) hb3 g7 z8 M9 (fun E _ ⟨c, _⟩ => nomatch c) (fun v _ ⟨c, e⟩ => ?_)
  cases c
  rw [e]
  show mm_W l G (k_L_law ns xs) 242 [(0, .ref 0), (1, .ref r1), (2, .ref r2), (3, .ref r3), (4, .int x4), (5, .int x5)] [.int x_5] b_2 m_4 Q
  refine mm_iload 5 (i := 5) d_L_law_242 rfl ?_
  exact mm_icmp_eq (tgt := 249) d_L_law_244 (by decide) (fun c => mm_sub [0, 1, 2, 3, 4] rfl (h10 c)) (fun c => mm_sub [] rfl (h11 c))
theorem t_L_law_247 {l : Launch} {G : mm_G} {ns : Nat} {xs : Nat → Int32} {b : Nat} {m : mm_Mem} {Q : mm_O → mm_Mem → Prop}  (h1 : Q (.inl (some (.int 0))) m) (hn2 : narrow .boolean (.int 0) = .int 0) : mm_W l G (k_L_law ns xs) 247 [] [] b m Q := by
  refine mm_iconst d_L_law_247 (v := 0) (by decide) ?_
  exact mm_zret d_L_law_248 rfl hn2 h1
theorem t_L_law_249 {l : Launch} {G : mm_G} {ns : Nat} {xs : Nat → Int32} {b : Nat} {m : mm_Mem} {Q : mm_O → mm_Mem → Prop} {r1 : Nat} {r2 : Nat} {r3 : Nat} {x4 : Int32} (h1 : mm_W l G (k_L_law ns xs) 1018 [(0, .ref 0), (1, .ref r1), (2, .ref r2), (3, .ref r3), (4, .int x4)] [] b m Q) : mm_W l G (k_L_law ns xs) 249 [(0, .ref 0), (1, .ref r1), (2, .ref r2), (3, .ref r3), (4, .int x4)] [] b m Q := by
  refine mm_goto (tgt := 1018) d_L_law_249 (by decide) ?_
  exact mm_sub [0, 1, 2, 3, 4] rfl h1
theorem t_L_law_252 {l : Launch} {G : mm_G} {ns : Nat} {xs : Nat → Int32} {b : Nat} {m : mm_Mem} {Q : mm_O → mm_Mem → Prop} {r1 : Nat} {r2 : Nat} {r3 : Nat} {x4 : Int32} {b_3 : Nat} {b_4 : Nat} {P_6 : mm_O → mm_Mem → Prop} (i1 : vp_in (x4 + 1) ns) (i2 : vp_in (x4 + 2) ns) (hb5 : b_3 + b_4 ≤ b) (M7 : mm_W l G k_L_alter 0 (lv_args 0 [.ref r1, .int (xs (x4 + 1).toNatClampNeg), .int (xs (x4 + 2).toNatClampNeg)]) [] b_3 m P_6) (hx8 : ∀ (E : String) (n_2 : mm_Mem), ¬ P_6 (.inr E) n_2) (h9 : ∀ (v : Option Value) (n_2 : mm_Mem), P_6 (.inl v) n_2 → ∃ x9 : Int32, v = some (.int x9) ∧ mm_W l G (k_L_law ns xs) 268 [(0, .ref 0), (1, .ref r1), (2, .ref r2), (3, .ref r3), (4, .int x4)] [.int x9] b_4 n_2 Q) : mm_W l G (k_L_law ns xs) 252 [(0, .ref 0), (1, .ref r1), (2, .ref r2), (3, .ref r3), (4, .int x4)] [] b m Q := by
  refine mm_aload_n 1 (i := 1) d_L_law_252 rfl rfl ?_
  refine mm_aload_n 0 (i := 0) d_L_law_253 rfl rfl ?_
  refine mm_iload 4 (i := 4) d_L_law_254 rfl ?_
  refine mm_iconst d_L_law_256 (v := 1) (by decide) ?_
  refine mm_iadd d_L_law_257 ?_
  refine mm_sald (n := ns) (xs := xs) rfl d_L_law_258 i1 ?_
  refine mm_aload_n 0 (i := 0) d_L_law_259 rfl rfl ?_
  refine mm_iload 4 (i := 4) d_L_law_260 rfl ?_
  refine mm_iconst d_L_law_262 (v := 2) (by decide) ?_
  refine mm_iadd d_L_law_263 ?_
  refine mm_sald (n := ns) (xs := xs) rfl d_L_law_264 i2 ?_
  refine mm_callS (as := [.ref r1, .int (xs (x4 + 1).toNatClampNeg), .int (xs (x4 + 2).toNatClampNeg)]) (st := []) (b2 := b_4) ca_L_alter w_404 w_405 d_L_law_265 rfl (Nat.le_of_ble_eq_true rfl) (Nat.le_of_ble_eq_true rfl) (Nat.le_of_ble_eq_true rfl) hb5 M7 (fun E m2 q => absurd q (hx8 E m2)) (fun v m2 q => ?_)
  obtain ⟨x9, rfl, z9⟩ := h9 v m2 q
  exact mm_sub [0, 1, 2, 3, 4] rfl z9
theorem t_L_law_268 {l : Launch} {G : mm_G} {ns : Nat} {xs : Nat → Int32} {b : Nat} {m : mm_Mem} {Q : mm_O → mm_Mem → Prop} {r1 : Nat} {r2 : Nat} {r3 : Nat} {x4 : Int32} {xs0 : Int32} {b_3 : Nat} {b_4 : Nat} {P_6 : mm_O → mm_Mem → Prop} {fs_7 : List Value} (i1 : vp_in (x4 + 1) ns) (i2 : vp_in (x4 + 2) ns) (hb5 : b_3 + b_4 ≤ b) (g8 : m r2 = .inr (8, fs_7)) (z9 : r2 ≠ 0) (M10 : mm_W l G k_M_alter 0 (lv_args 0 [.ref r2, .int (xs (x4 + 1).toNatClampNeg), .int (xs (x4 + 2).toNatClampNeg)]) [] b_3 m P_6) (hx11 : ∀ (E : String) (n_2 : mm_Mem), ¬ P_6 (.inr E) n_2) (h12 : ∀ (v : Option Value) (n_2 : mm_Mem), P_6 (.inl v) n_2 → v = none ∧ mm_W l G (k_L_law ns xs) 286 [(0, .ref 0), (1, .ref r1), (2, .ref r2), (3, .ref r3), (4, .int x4), (5, .int xs0)] [] b_4 n_2 Q) : mm_W l G (k_L_law ns xs) 268 [(0, .ref 0), (1, .ref r1), (2, .ref r2), (3, .ref r3), (4, .int x4)] [.int xs0] b m Q := by
  refine mm_istore (i := 5) d_L_law_268 (Nat.le_of_ble_eq_true rfl) (lv2 := [(5, .int xs0), (0, .ref 0), (1, .ref r1), (2, .ref r2), (3, .ref r3), (4, .int x4)]) rfl ?_
  refine mm_aload_n 3 (i := 2) d_L_law_270 rfl rfl ?_
  refine mm_aload_n 1 (i := 0) d_L_law_271 rfl rfl ?_
  refine mm_iload 5 (i := 4) d_L_law_272 rfl ?_
  refine mm_iconst d_L_law_274 (v := 1) (by decide) ?_
  refine mm_iadd d_L_law_275 ?_
  refine mm_sald (n := ns) (xs := xs) rfl d_L_law_276 i1 ?_
  refine mm_aload_n 1 (i := 0) d_L_law_277 rfl rfl ?_
  refine mm_iload 5 (i := 4) d_L_law_278 rfl ?_
  refine mm_iconst d_L_law_280 (v := 2) (by decide) ?_
  refine mm_iadd d_L_law_281 ?_
  refine mm_sald (n := ns) (xs := xs) rfl d_L_law_282 i2 ?_
  refine mm_callV (as := [.int (xs (x4 + 1).toNatClampNeg), .int (xs (x4 + 2).toNatClampNeg)]) (st := []) (b2 := b_4) ca_M_alter w_845 w_846 w_847 cc_M.1 rfl d_L_law_283 rfl (Nat.le_of_ble_eq_true rfl) (Nat.le_of_ble_eq_true rfl) (Nat.le_of_ble_eq_true rfl) hb5 g8 z9 M10 (fun E m2 q => absurd q (hx11 E m2)) (fun v m2 q => ?_)
  obtain ⟨rfl, z9⟩ := h12 v m2 q
  exact mm_sub [1, 2, 3, 4, 5, 0] rfl z9
theorem t_L_law_286 {l : Launch} {G : mm_G} {ns : Nat} {xs : Nat → Int32} {b : Nat} {m : mm_Mem} {Q : mm_O → mm_Mem → Prop} {r1 : Nat} {r2 : Nat} {r3 : Nat} {x4 : Int32} {x5 : Int32} {b_1 : Nat} {b_2 : Nat} {m_4 : mm_Mem} {x_5 : Int32} {fs_6 : List Value} (hb3 : b_1 + b_2 ≤ b) (g7 : m r2 = .inr (8, fs_6)) (z8 : r2 ≠ 0) (M9 : mm_W l G k_M_thrown 0 (lv_args 0 [.ref r2]) [] b_1 m (mm_is (.inl (some (.int x_5))) m_4)) (h10 : (x_5 = x5) → mm_W l G (k_L_law ns xs) 297 [(0, .ref 0), (1, .ref r1), (2, .ref r2), (3, .ref r3), (4, .int x4)] [] b_2 m_4 Q) (h11 : (¬ x_5 = x5) → mm_W l G (k_L_law ns xs) 295 [] [] b_2 m_4 Q) : mm_W l G (k_L_law ns xs) 286 [(0, .ref 0), (1, .ref r1), (2, .ref r2), (3, .ref r3), (4, .int x4), (5, .int x5)] [] b m Q := by
  refine mm_aload_n 2 (i := 2) d_L_law_286 rfl rfl ?_
  refine mm_callV (as := []) (st := []) (b2 := b_2) ca_M_thrown w_833 w_834 w_835 cc_M.1 rfl d_L_law_287 rfl (Nat.le_of_ble_eq_true rfl) (Nat.le_of_ble_eq_true rfl) (Nat.le_of_ble_eq_true rfl) hb3 g7 z8 M9 (fun E _ ⟨c, _⟩ => nomatch c) (fun v _ ⟨c, e⟩ => ?_)
  cases c
  rw [e]
  show mm_W l G (k_L_law ns xs) 290 [(0, .ref 0), (1, .ref r1), (2, .ref r2), (3, .ref r3), (4, .int x4), (5, .int x5)] [.int x_5] b_2 m_4 Q
  refine mm_iload 5 (i := 5) d_L_law_290 rfl ?_
  exact mm_icmp_eq (tgt := 297) d_L_law_292 (by decide) (fun c => mm_sub [0, 1, 2, 3, 4] rfl (h10 c)) (fun c => mm_sub [] rfl (h11 c))
theorem t_L_law_295 {l : Launch} {G : mm_G} {ns : Nat} {xs : Nat → Int32} {b : Nat} {m : mm_Mem} {Q : mm_O → mm_Mem → Prop}  (h1 : Q (.inl (some (.int 0))) m) (hn2 : narrow .boolean (.int 0) = .int 0) : mm_W l G (k_L_law ns xs) 295 [] [] b m Q := by
  refine mm_iconst d_L_law_295 (v := 0) (by decide) ?_
  exact mm_zret d_L_law_296 rfl hn2 h1
theorem t_L_law_297 {l : Launch} {G : mm_G} {ns : Nat} {xs : Nat → Int32} {b : Nat} {m : mm_Mem} {Q : mm_O → mm_Mem → Prop} {r1 : Nat} {r2 : Nat} {r3 : Nat} {x4 : Int32} (h1 : mm_W l G (k_L_law ns xs) 1018 [(0, .ref 0), (1, .ref r1), (2, .ref r2), (3, .ref r3), (4, .int x4)] [] b m Q) : mm_W l G (k_L_law ns xs) 297 [(0, .ref 0), (1, .ref r1), (2, .ref r2), (3, .ref r3), (4, .int x4)] [] b m Q := by
  refine mm_goto (tgt := 1018) d_L_law_297 (by decide) ?_
  exact mm_sub [0, 1, 2, 3, 4] rfl h1
theorem t_L_law_300 {l : Launch} {G : mm_G} {ns : Nat} {xs : Nat → Int32} {b : Nat} {m : mm_Mem} {Q : mm_O → mm_Mem → Prop} {r1 : Nat} {r2 : Nat} {r3 : Nat} {x4 : Int32} {b_1 : Nat} {b_2 : Nat} {P_4 : mm_O → mm_Mem → Prop} {fs_5 : List Value} (hb3 : b_1 + b_2 ≤ b) (g6 : m r1 = .inr (0, fs_5)) (z7 : r1 ≠ 0) (M8 : mm_W l G k_P_length 0 (lv_args 0 [.ref r1]) [] b_1 m P_4) (hx9 : ∀ (E : String) (n_2 : mm_Mem), ¬ P_4 (.inr E) n_2) (h10 : ∀ (v : Option Value) (n_2 : mm_Mem), P_4 (.inl v) n_2 → ∃ x9 : Int32, v = some (.int x9) ∧ mm_W l G (k_L_law ns xs) 304 [(0, .ref 0), (1, .ref r1), (2, .ref r2), (3, .ref r3), (4, .int x4)] [.int x9] b_2 n_2 Q) : mm_W l G (k_L_law ns xs) 300 [(0, .ref 0), (1, .ref r1), (2, .ref r2), (3, .ref r3), (4, .int x4)] [] b m Q := by
  refine mm_aload_n 1 (i := 1) d_L_law_300 rfl rfl ?_
  refine mm_callV (as := []) (st := []) (b2 := b_2) ca_P_length w_250 w_251 w_252 cc_P.1 rfl d_L_law_301 rfl (Nat.le_of_ble_eq_true rfl) (Nat.le_of_ble_eq_true rfl) (Nat.le_of_ble_eq_true rfl) hb3 g6 z7 M8 (fun E m2 q => absurd q (hx9 E m2)) (fun v m2 q => ?_)
  obtain ⟨x9, rfl, z9⟩ := h10 v m2 q
  exact mm_sub [0, 1, 2, 3, 4] rfl z9
theorem t_L_law_304 {l : Launch} {G : mm_G} {ns : Nat} {xs : Nat → Int32} {b : Nat} {m : mm_Mem} {Q : mm_O → mm_Mem → Prop} {r1 : Nat} {r2 : Nat} {r3 : Nat} {x4 : Int32} {xs0 : Int32} {b_1 : Nat} {b_2 : Nat} {P_4 : mm_O → mm_Mem → Prop} {fs_5 : List Value} (hb3 : b_1 + b_2 ≤ b) (g6 : m r2 = .inr (8, fs_5)) (z7 : r2 ≠ 0) (M8 : mm_W l G k_M_length 0 (lv_args 0 [.ref r2]) [] b_1 m P_4) (hx9 : ∀ (E : String) (n_2 : mm_Mem), ¬ P_4 (.inr E) n_2) (h10 : ∀ (v : Option Value) (n_2 : mm_Mem), P_4 (.inl v) n_2 → ∃ x9 : Int32, v = some (.int x9) ∧ mm_W l G (k_L_law ns xs) 308 [(0, .ref 0), (1, .ref r1), (2, .ref r2), (3, .ref r3), (4, .int x4)] [.int x9, .int xs0] b_2 n_2 Q) : mm_W l G (k_L_law ns xs) 304 [(0, .ref 0), (1, .ref r1), (2, .ref r2), (3, .ref r3), (4, .int x4)] [.int xs0] b m Q := by
  refine mm_aload_n 2 (i := 2) d_L_law_304 rfl rfl ?_
  refine mm_callV (as := []) (st := [.int xs0]) (b2 := b_2) ca_M_length w_849 w_850 w_851 cc_M.1 rfl d_L_law_305 rfl (Nat.le_of_ble_eq_true rfl) (Nat.le_of_ble_eq_true rfl) (Nat.le_of_ble_eq_true rfl) hb3 g6 z7 M8 (fun E m2 q => absurd q (hx9 E m2)) (fun v m2 q => ?_)
  obtain ⟨x9, rfl, z9⟩ := h10 v m2 q
  exact mm_sub [0, 1, 2, 3, 4] rfl z9
theorem t_L_law_308 {l : Launch} {G : mm_G} {ns : Nat} {xs : Nat → Int32} {b : Nat} {m : mm_Mem} {Q : mm_O → mm_Mem → Prop} {r1 : Nat} {r2 : Nat} {r3 : Nat} {x4 : Int32} {xs0 : Int32} {xs1 : Int32} (h1 : (xs1 = xs0) → mm_W l G (k_L_law ns xs) 1018 [(0, .ref 0), (1, .ref r1), (2, .ref r2), (3, .ref r3), (4, .int x4)] [] b m Q) (h2 : (¬ xs1 = xs0) → mm_W l G (k_L_law ns xs) 311 [] [] b m Q) : mm_W l G (k_L_law ns xs) 308 [(0, .ref 0), (1, .ref r1), (2, .ref r2), (3, .ref r3), (4, .int x4)] [.int xs0, .int xs1] b m Q := by
  exact mm_icmp_eq (tgt := 1018) d_L_law_308 (by decide) (fun c => mm_sub [0, 1, 2, 3, 4] rfl (h1 c)) (fun c => mm_sub [] rfl (h2 c))
theorem t_L_law_311 {l : Launch} {G : mm_G} {ns : Nat} {xs : Nat → Int32} {b : Nat} {m : mm_Mem} {Q : mm_O → mm_Mem → Prop}  (h1 : Q (.inl (some (.int 0))) m) (hn2 : narrow .boolean (.int 0) = .int 0) : mm_W l G (k_L_law ns xs) 311 [] [] b m Q := by
  refine mm_iconst d_L_law_311 (v := 0) (by decide) ?_
  exact mm_zret d_L_law_312 rfl hn2 h1
theorem t_L_law_313 {l : Launch} {G : mm_G} {ns : Nat} {xs : Nat → Int32} {b : Nat} {m : mm_Mem} {Q : mm_O → mm_Mem → Prop} {r1 : Nat} {r2 : Nat} {r3 : Nat} {x4 : Int32} {b_2 : Nat} {b_3 : Nat} {P_5 : mm_O → mm_Mem → Prop} (i1 : vp_in (x4 + 1) ns) (hb4 : b_2 + b_3 ≤ b) (M6 : mm_W l G k_L_byteAt 0 (lv_args 0 [.ref r1, .int (xs (x4 + 1).toNatClampNeg), .ref r3]) [] b_2 m P_5) (hx7 : ∀ (E : String) (n_2 : mm_Mem), ¬ P_5 (.inr E) n_2) (h8 : ∀ (v : Option Value) (n_2 : mm_Mem), P_5 (.inl v) n_2 → ∃ x9 : Int32, v = some (.int x9) ∧ mm_W l G (k_L_law ns xs) 324 [(0, .ref 0), (1, .ref r1), (2, .ref r2), (3, .ref r3), (4, .int x4)] [.int x9] b_3 n_2 Q) : mm_W l G (k_L_law ns xs) 313 [(0, .ref 0), (1, .ref r1), (2, .ref r2), (3, .ref r3), (4, .int x4)] [] b m Q := by
  refine mm_aload_n 1 (i := 1) d_L_law_313 rfl rfl ?_
  refine mm_aload_n 0 (i := 0) d_L_law_314 rfl rfl ?_
  refine mm_iload 4 (i := 4) d_L_law_315 rfl ?_
  refine mm_iconst d_L_law_317 (v := 1) (by decide) ?_
  refine mm_iadd d_L_law_318 ?_
  refine mm_sald (n := ns) (xs := xs) rfl d_L_law_319 i1 ?_
  refine mm_aload_n 3 (i := 3) d_L_law_320 rfl rfl ?_
  refine mm_callS (as := [.ref r1, .int (xs (x4 + 1).toNatClampNeg), .ref r3]) (st := []) (b2 := b_3) ca_L_byteAt w_433 w_434 d_L_law_321 rfl (Nat.le_of_ble_eq_true rfl) (Nat.le_of_ble_eq_true rfl) (Nat.le_of_ble_eq_true rfl) hb4 M6 (fun E m2 q => absurd q (hx7 E m2)) (fun v m2 q => ?_)
  obtain ⟨x9, rfl, z9⟩ := h8 v m2 q
  exact mm_sub [0, 1, 2, 3, 4] rfl z9
theorem t_L_law_324 {l : Launch} {G : mm_G} {ns : Nat} {xs : Nat → Int32} {b : Nat} {m : mm_Mem} {Q : mm_O → mm_Mem → Prop} {r1 : Nat} {r2 : Nat} {r3 : Nat} {x4 : Int32} {xs0 : Int32} {b_2 : Nat} {b_3 : Nat} {P_5 : mm_O → mm_Mem → Prop} {fs_6 : List Value} (i1 : vp_in (x4 + 1) ns) (hb4 : b_2 + b_3 ≤ b) (g7 : m r2 = .inr (8, fs_6)) (z8 : r2 ≠ 0) (M9 : mm_W l G k_M_byteAt 0 (lv_args 0 [.ref r2, .int (xs (x4 + 1).toNatClampNeg)]) [] b_2 m P_5) (hx10 : ∀ (E : String) (n_2 : mm_Mem), ¬ P_5 (.inr E) n_2) (h11 : ∀ (v : Option Value) (n_2 : mm_Mem), P_5 (.inl v) n_2 → ∃ x9 : Int32, v = some (.int x9) ∧ mm_W l G (k_L_law ns xs) 336 [(0, .ref 0), (1, .ref r1), (2, .ref r2), (3, .ref r3), (4, .int x4), (5, .int xs0)] [.int x9] b_3 n_2 Q) : mm_W l G (k_L_law ns xs) 324 [(0, .ref 0), (1, .ref r1), (2, .ref r2), (3, .ref r3), (4, .int x4)] [.int xs0] b m Q := by
  refine mm_istore (i := 5) d_L_law_324 (Nat.le_of_ble_eq_true rfl) (lv2 := [(5, .int xs0), (0, .ref 0), (1, .ref r1), (2, .ref r2), (3, .ref r3), (4, .int x4)]) rfl ?_
  refine mm_aload_n 3 (i := 2) d_L_law_326 rfl rfl ?_
  refine mm_aload_n 1 (i := 0) d_L_law_327 rfl rfl ?_
  refine mm_iload 5 (i := 4) d_L_law_328 rfl ?_
  refine mm_iconst d_L_law_330 (v := 1) (by decide) ?_
  refine mm_iadd d_L_law_331 ?_
  refine mm_sald (n := ns) (xs := xs) rfl d_L_law_332 i1 ?_
  refine mm_callV (as := [.int (xs (x4 + 1).toNatClampNeg)]) (st := []) (b2 := b_3) ca_M_byteAt w_853 w_854 w_855 cc_M.1 rfl d_L_law_333 rfl (Nat.le_of_ble_eq_true rfl) (Nat.le_of_ble_eq_true rfl) (Nat.le_of_ble_eq_true rfl) hb4 g7 z8 M9 (fun E m2 q => absurd q (hx10 E m2)) (fun v m2 q => ?_)
  obtain ⟨x9, rfl, z9⟩ := h11 v m2 q
  exact mm_sub [1, 2, 3, 4, 5, 0] rfl z9
theorem t_L_law_336 {l : Launch} {G : mm_G} {ns : Nat} {xs : Nat → Int32} {b : Nat} {m : mm_Mem} {Q : mm_O → mm_Mem → Prop} {r1 : Nat} {r2 : Nat} {r3 : Nat} {x4 : Int32} {x5 : Int32} {xs0 : Int32} {b_1 : Nat} {b_2 : Nat} {m_4 : mm_Mem} {x_5 : Int32} {fs_6 : List Value} (hb3 : b_1 + b_2 ≤ b) (g7 : m r2 = .inr (8, fs_6)) (z8 : r2 ≠ 0) (M9 : mm_W l G k_M_thrown 0 (lv_args 0 [.ref r2]) [] b_1 m (mm_is (.inl (some (.int x_5))) m_4)) (h10 : (x_5 = x5) → mm_W l G (k_L_law ns xs) 349 [(0, .ref 0), (1, .ref r1), (2, .ref r2), (3, .ref r3), (4, .int x4), (5, .int x5), (6, .int xs0)] [] b_2 m_4 Q) (h11 : (¬ x_5 = x5) → mm_W l G (k_L_law ns xs) 347 [] [] b_2 m_4 Q) : mm_W l G (k_L_law ns xs) 336 [(0, .ref 0), (1, .ref r1), (2, .ref r2), (3, .ref r3), (4, .int x4), (5, .int x5)] [.int xs0] b m Q := by
  refine mm_istore (i := 6) d_L_law_336 (Nat.le_of_ble_eq_true rfl) (lv2 := [(6, .int xs0), (0, .ref 0), (1, .ref r1), (2, .ref r2), (3, .ref r3), (4, .int x4), (5, .int x5)]) rfl ?_
  refine mm_aload_n 3 (i := 2) d_L_law_338 rfl rfl ?_
  refine mm_callV (as := []) (st := []) (b2 := b_2) ca_M_thrown w_833 w_834 w_835 cc_M.1 rfl d_L_law_339 rfl (Nat.le_of_ble_eq_true rfl) (Nat.le_of_ble_eq_true rfl) (Nat.le_of_ble_eq_true rfl) hb3 g7 z8 M9 (fun E _ ⟨c, _⟩ => nomatch c) (fun v _ ⟨c, e⟩ => ?_)
  cases c
  rw [e]
  show mm_W l G (k_L_law ns xs) 342 [(6, .int xs0), (0, .ref 0), (1, .ref r1), (2, .ref r2), (3, .ref r3), (4, .int x4), (5, .int x5)] [.int x_5] b_2 m_4 Q
  refine mm_iload 6 (i := 5) d_L_law_342 rfl ?_
  exact mm_icmp_eq (tgt := 349) d_L_law_344 (by decide) (fun c => mm_sub [1, 2, 3, 4, 5, 6, 0] rfl (h10 c)) (fun c => mm_sub [] rfl (h11 c))
theorem t_L_law_347 {l : Launch} {G : mm_G} {ns : Nat} {xs : Nat → Int32} {b : Nat} {m : mm_Mem} {Q : mm_O → mm_Mem → Prop}  (h1 : Q (.inl (some (.int 0))) m) (hn2 : narrow .boolean (.int 0) = .int 0) : mm_W l G (k_L_law ns xs) 347 [] [] b m Q := by
  refine mm_iconst d_L_law_347 (v := 0) (by decide) ?_
  exact mm_zret d_L_law_348 rfl hn2 h1
theorem t_L_law_349 {l : Launch} {G : mm_G} {ns : Nat} {xs : Nat → Int32} {b : Nat} {m : mm_Mem} {Q : mm_O → mm_Mem → Prop} {r1 : Nat} {r2 : Nat} {r3 : Nat} {x4 : Int32} {x5 : Int32} {x6 : Int32} (h1 : (¬ x5 = 0) → mm_W l G (k_L_law ns xs) 366 [(0, .ref 0), (1, .ref r1), (2, .ref r2), (3, .ref r3), (4, .int x4)] [] b m Q) (h2 : (x5 = 0) → mm_W l G (k_L_law ns xs) 354 [(0, .ref 0), (1, .ref r1), (2, .ref r2), (3, .ref r3), (4, .int x4), (6, .int x6)] [] b m Q) : mm_W l G (k_L_law ns xs) 349 [(0, .ref 0), (1, .ref r1), (2, .ref r2), (3, .ref r3), (4, .int x4), (5, .int x5), (6, .int x6)] [] b m Q := by
  refine mm_iload 5 (i := 5) d_L_law_349 rfl ?_
  exact mm_if_ne (tgt := 366) d_L_law_351 (by decide) (fun c => mm_sub [0, 1, 2, 3, 4] rfl (h1 c)) (fun c => mm_sub [0, 1, 2, 3, 4, 6] rfl (h2 c))
theorem t_L_law_354 {l : Launch} {G : mm_G} {ns : Nat} {xs : Nat → Int32} {b : Nat} {m : mm_Mem} {Q : mm_O → mm_Mem → Prop} {r1 : Nat} {r2 : Nat} {r3 : Nat} {x4 : Int32} {x6 : Int32} {n_1 : Nat} {f_2 : Nat → Int64} (a3 : m r3 = .inl (G.2 2, n_1, .inr (.inl f_2))) (z4 : r3 ≠ 0) (i5 : vp_in 0 n_1) (h6 : ((lg_cmp (f_2 (0 : Int32).toNatClampNeg) x6.toInt64) = 0) → mm_W l G (k_L_law ns xs) 366 [(0, .ref 0), (1, .ref r1), (2, .ref r2), (3, .ref r3), (4, .int x4)] [] b m Q) (h7 : (¬ (lg_cmp (f_2 (0 : Int32).toNatClampNeg) x6.toInt64) = 0) → mm_W l G (k_L_law ns xs) 364 [] [] b m Q) : mm_W l G (k_L_law ns xs) 354 [(0, .ref 0), (1, .ref r1), (2, .ref r2), (3, .ref r3), (4, .int x4), (6, .int x6)] [] b m Q := by
  refine mm_aload_n 3 (i := 3) d_L_law_354 rfl rfl ?_
  refine mm_iconst d_L_law_355 (v := 0) (by decide) ?_
  refine mm_lald d_L_law_356 a3 z4 i5 ?_
  refine mm_iload 5 (i := 6) d_L_law_357 rfl ?_
  refine mm_i2l d_L_law_359 ?_
  refine mm_lcmp d_L_law_360 ?_
  exact mm_if_eq (tgt := 366) d_L_law_361 (by decide) (fun c => mm_sub [0, 1, 2, 3, 4] rfl (h6 c)) (fun c => mm_sub [] rfl (h7 c))
theorem t_L_law_364 {l : Launch} {G : mm_G} {ns : Nat} {xs : Nat → Int32} {b : Nat} {m : mm_Mem} {Q : mm_O → mm_Mem → Prop}  (h1 : Q (.inl (some (.int 0))) m) (hn2 : narrow .boolean (.int 0) = .int 0) : mm_W l G (k_L_law ns xs) 364 [] [] b m Q := by
  refine mm_iconst d_L_law_364 (v := 0) (by decide) ?_
  exact mm_zret d_L_law_365 rfl hn2 h1
theorem t_L_law_366 {l : Launch} {G : mm_G} {ns : Nat} {xs : Nat → Int32} {b : Nat} {m : mm_Mem} {Q : mm_O → mm_Mem → Prop} {r1 : Nat} {r2 : Nat} {r3 : Nat} {x4 : Int32} (h1 : mm_W l G (k_L_law ns xs) 1018 [(0, .ref 0), (1, .ref r1), (2, .ref r2), (3, .ref r3), (4, .int x4)] [] b m Q) : mm_W l G (k_L_law ns xs) 366 [(0, .ref 0), (1, .ref r1), (2, .ref r2), (3, .ref r3), (4, .int x4)] [] b m Q := by
  refine mm_goto (tgt := 1018) d_L_law_366 (by decide) ?_
  exact mm_sub [0, 1, 2, 3, 4] rfl h1
theorem t_L_law_369 {l : Launch} {G : mm_G} {ns : Nat} {xs : Nat → Int32} {b : Nat} {m : mm_Mem} {Q : mm_O → mm_Mem → Prop} {r1 : Nat} {r2 : Nat} {r3 : Nat} {x4 : Int32} {b_2 : Nat} {b_3 : Nat} {P_5 : mm_O → mm_Mem → Prop} (i1 : vp_in (x4 + 1) ns) (hb4 : b_2 + b_3 ≤ b) (M6 : mm_W l G k_L_type 0 (lv_args 0 [.ref r1, .int (xs (x4 + 1).toNatClampNeg), .ref r3]) [] b_2 m P_5) (hx7 : ∀ (E : String) (n_2 : mm_Mem), ¬ P_5 (.inr E) n_2) (h8 : ∀ (v : Option Value) (n_2 : mm_Mem), P_5 (.inl v) n_2 → ∃ x9 : Int32, v = some (.int x9) ∧ mm_W l G (k_L_law ns xs) 380 [(0, .ref 0), (1, .ref r1), (2, .ref r2), (3, .ref r3), (4, .int x4)] [.int x9] b_3 n_2 Q) : mm_W l G (k_L_law ns xs) 369 [(0, .ref 0), (1, .ref r1), (2, .ref r2), (3, .ref r3), (4, .int x4)] [] b m Q := by
  refine mm_aload_n 1 (i := 1) d_L_law_369 rfl rfl ?_
  refine mm_aload_n 0 (i := 0) d_L_law_370 rfl rfl ?_
  refine mm_iload 4 (i := 4) d_L_law_371 rfl ?_
  refine mm_iconst d_L_law_373 (v := 1) (by decide) ?_
  refine mm_iadd d_L_law_374 ?_
  refine mm_sald (n := ns) (xs := xs) rfl d_L_law_375 i1 ?_
  refine mm_aload_n 3 (i := 3) d_L_law_376 rfl rfl ?_
  refine mm_callS (as := [.ref r1, .int (xs (x4 + 1).toNatClampNeg), .ref r3]) (st := []) (b2 := b_3) ca_L_type w_441 w_442 d_L_law_377 rfl (Nat.le_of_ble_eq_true rfl) (Nat.le_of_ble_eq_true rfl) (Nat.le_of_ble_eq_true rfl) hb4 M6 (fun E m2 q => absurd q (hx7 E m2)) (fun v m2 q => ?_)
  obtain ⟨x9, rfl, z9⟩ := h8 v m2 q
  exact mm_sub [0, 1, 2, 3, 4] rfl z9
theorem t_L_law_380 {l : Launch} {G : mm_G} {ns : Nat} {xs : Nat → Int32} {b : Nat} {m : mm_Mem} {Q : mm_O → mm_Mem → Prop} {r1 : Nat} {r2 : Nat} {r3 : Nat} {x4 : Int32} {xs0 : Int32} {b_2 : Nat} {b_3 : Nat} {P_5 : mm_O → mm_Mem → Prop} {fs_6 : List Value} (i1 : vp_in (x4 + 1) ns) (hb4 : b_2 + b_3 ≤ b) (g7 : m r2 = .inr (8, fs_6)) (z8 : r2 ≠ 0) (M9 : mm_W l G k_M_type 0 (lv_args 0 [.ref r2, .int (xs (x4 + 1).toNatClampNeg)]) [] b_2 m P_5) (hx10 : ∀ (E : String) (n_2 : mm_Mem), ¬ P_5 (.inr E) n_2) (h11 : ∀ (v : Option Value) (n_2 : mm_Mem), P_5 (.inl v) n_2 → ∃ x9 : Int32, v = some (.int x9) ∧ mm_W l G (k_L_law ns xs) 392 [(0, .ref 0), (1, .ref r1), (2, .ref r2), (3, .ref r3), (4, .int x4), (5, .int xs0)] [.int x9] b_3 n_2 Q) : mm_W l G (k_L_law ns xs) 380 [(0, .ref 0), (1, .ref r1), (2, .ref r2), (3, .ref r3), (4, .int x4)] [.int xs0] b m Q := by
  refine mm_istore (i := 5) d_L_law_380 (Nat.le_of_ble_eq_true rfl) (lv2 := [(5, .int xs0), (0, .ref 0), (1, .ref r1), (2, .ref r2), (3, .ref r3), (4, .int x4)]) rfl ?_
  refine mm_aload_n 3 (i := 2) d_L_law_382 rfl rfl ?_
  refine mm_aload_n 1 (i := 0) d_L_law_383 rfl rfl ?_
  refine mm_iload 5 (i := 4) d_L_law_384 rfl ?_
  refine mm_iconst d_L_law_386 (v := 1) (by decide) ?_
  refine mm_iadd d_L_law_387 ?_
  refine mm_sald (n := ns) (xs := xs) rfl d_L_law_388 i1 ?_
  refine mm_callV (as := [.int (xs (x4 + 1).toNatClampNeg)]) (st := []) (b2 := b_3) ca_M_type w_857 w_858 w_859 cc_M.1 rfl d_L_law_389 rfl (Nat.le_of_ble_eq_true rfl) (Nat.le_of_ble_eq_true rfl) (Nat.le_of_ble_eq_true rfl) hb4 g7 z8 M9 (fun E m2 q => absurd q (hx10 E m2)) (fun v m2 q => ?_)
  obtain ⟨x9, rfl, z9⟩ := h11 v m2 q
  exact mm_sub [1, 2, 3, 4, 5, 0] rfl z9
theorem t_L_law_392 {l : Launch} {G : mm_G} {ns : Nat} {xs : Nat → Int32} {b : Nat} {m : mm_Mem} {Q : mm_O → mm_Mem → Prop} {r1 : Nat} {r2 : Nat} {r3 : Nat} {x4 : Int32} {x5 : Int32} {xs0 : Int32} {b_1 : Nat} {b_2 : Nat} {m_4 : mm_Mem} {x_5 : Int32} {fs_6 : List Value} (hb3 : b_1 + b_2 ≤ b) (g7 : m r2 = .inr (8, fs_6)) (z8 : r2 ≠ 0) (M9 : mm_W l G k_M_thrown 0 (lv_args 0 [.ref r2]) [] b_1 m (mm_is (.inl (some (.int x_5))) m_4)) (h10 : (x_5 = x5) → mm_W l G (k_L_law ns xs) 405 [(0, .ref 0), (1, .ref r1), (2, .ref r2), (3, .ref r3), (4, .int x4), (5, .int x5), (6, .int xs0)] [] b_2 m_4 Q) (h11 : (¬ x_5 = x5) → mm_W l G (k_L_law ns xs) 403 [] [] b_2 m_4 Q) : mm_W l G (k_L_law ns xs) 392 [(0, .ref 0), (1, .ref r1), (2, .ref r2), (3, .ref r3), (4, .int x4), (5, .int x5)] [.int xs0] b m Q := by
  refine mm_istore (i := 6) d_L_law_392 (Nat.le_of_ble_eq_true rfl) (lv2 := [(6, .int xs0), (0, .ref 0), (1, .ref r1), (2, .ref r2), (3, .ref r3), (4, .int x4), (5, .int x5)]) rfl ?_
  refine mm_aload_n 3 (i := 2) d_L_law_394 rfl rfl ?_
  refine mm_callV (as := []) (st := []) (b2 := b_2) ca_M_thrown w_833 w_834 w_835 cc_M.1 rfl d_L_law_395 rfl (Nat.le_of_ble_eq_true rfl) (Nat.le_of_ble_eq_true rfl) (Nat.le_of_ble_eq_true rfl) hb3 g7 z8 M9 (fun E _ ⟨c, _⟩ => nomatch c) (fun v _ ⟨c, e⟩ => ?_)
  cases c
  rw [e]
  show mm_W l G (k_L_law ns xs) 398 [(6, .int xs0), (0, .ref 0), (1, .ref r1), (2, .ref r2), (3, .ref r3), (4, .int x4), (5, .int x5)] [.int x_5] b_2 m_4 Q
  refine mm_iload 6 (i := 5) d_L_law_398 rfl ?_
  exact mm_icmp_eq (tgt := 405) d_L_law_400 (by decide) (fun c => mm_sub [1, 2, 3, 4, 5, 6, 0] rfl (h10 c)) (fun c => mm_sub [] rfl (h11 c))
theorem t_L_law_403 {l : Launch} {G : mm_G} {ns : Nat} {xs : Nat → Int32} {b : Nat} {m : mm_Mem} {Q : mm_O → mm_Mem → Prop}  (h1 : Q (.inl (some (.int 0))) m) (hn2 : narrow .boolean (.int 0) = .int 0) : mm_W l G (k_L_law ns xs) 403 [] [] b m Q := by
  refine mm_iconst d_L_law_403 (v := 0) (by decide) ?_
  exact mm_zret d_L_law_404 rfl hn2 h1
theorem t_L_law_405 {l : Launch} {G : mm_G} {ns : Nat} {xs : Nat → Int32} {b : Nat} {m : mm_Mem} {Q : mm_O → mm_Mem → Prop} {r1 : Nat} {r2 : Nat} {r3 : Nat} {x4 : Int32} {x5 : Int32} {x6 : Int32} (h1 : (¬ x5 = 0) → mm_W l G (k_L_law ns xs) 422 [(0, .ref 0), (1, .ref r1), (2, .ref r2), (3, .ref r3), (4, .int x4)] [] b m Q) (h2 : (x5 = 0) → mm_W l G (k_L_law ns xs) 410 [(0, .ref 0), (1, .ref r1), (2, .ref r2), (3, .ref r3), (4, .int x4), (6, .int x6)] [] b m Q) : mm_W l G (k_L_law ns xs) 405 [(0, .ref 0), (1, .ref r1), (2, .ref r2), (3, .ref r3), (4, .int x4), (5, .int x5), (6, .int x6)] [] b m Q := by
  refine mm_iload 5 (i := 5) d_L_law_405 rfl ?_
  exact mm_if_ne (tgt := 422) d_L_law_407 (by decide) (fun c => mm_sub [0, 1, 2, 3, 4] rfl (h1 c)) (fun c => mm_sub [0, 1, 2, 3, 4, 6] rfl (h2 c))
theorem t_L_law_410 {l : Launch} {G : mm_G} {ns : Nat} {xs : Nat → Int32} {b : Nat} {m : mm_Mem} {Q : mm_O → mm_Mem → Prop} {r1 : Nat} {r2 : Nat} {r3 : Nat} {x4 : Int32} {x6 : Int32} {n_1 : Nat} {f_2 : Nat → Int64} (a3 : m r3 = .inl (G.2 2, n_1, .inr (.inl f_2))) (z4 : r3 ≠ 0) (i5 : vp_in 0 n_1) (h6 : ((lg_cmp (f_2 (0 : Int32).toNatClampNeg) x6.toInt64) = 0) → mm_W l G (k_L_law ns xs) 422 [(0, .ref 0), (1, .ref r1), (2, .ref r2), (3, .ref r3), (4, .int x4)] [] b m Q) (h7 : (¬ (lg_cmp (f_2 (0 : Int32).toNatClampNeg) x6.toInt64) = 0) → mm_W l G (k_L_law ns xs) 420 [] [] b m Q) : mm_W l G (k_L_law ns xs) 410 [(0, .ref 0), (1, .ref r1), (2, .ref r2), (3, .ref r3), (4, .int x4), (6, .int x6)] [] b m Q := by
  refine mm_aload_n 3 (i := 3) d_L_law_410 rfl rfl ?_
  refine mm_iconst d_L_law_411 (v := 0) (by decide) ?_
  refine mm_lald d_L_law_412 a3 z4 i5 ?_
  refine mm_iload 5 (i := 6) d_L_law_413 rfl ?_
  refine mm_i2l d_L_law_415 ?_
  refine mm_lcmp d_L_law_416 ?_
  exact mm_if_eq (tgt := 422) d_L_law_417 (by decide) (fun c => mm_sub [0, 1, 2, 3, 4] rfl (h6 c)) (fun c => mm_sub [] rfl (h7 c))
theorem t_L_law_420 {l : Launch} {G : mm_G} {ns : Nat} {xs : Nat → Int32} {b : Nat} {m : mm_Mem} {Q : mm_O → mm_Mem → Prop}  (h1 : Q (.inl (some (.int 0))) m) (hn2 : narrow .boolean (.int 0) = .int 0) : mm_W l G (k_L_law ns xs) 420 [] [] b m Q := by
  refine mm_iconst d_L_law_420 (v := 0) (by decide) ?_
  exact mm_zret d_L_law_421 rfl hn2 h1
theorem t_L_law_422 {l : Launch} {G : mm_G} {ns : Nat} {xs : Nat → Int32} {b : Nat} {m : mm_Mem} {Q : mm_O → mm_Mem → Prop} {r1 : Nat} {r2 : Nat} {r3 : Nat} {x4 : Int32} (h1 : mm_W l G (k_L_law ns xs) 1018 [(0, .ref 0), (1, .ref r1), (2, .ref r2), (3, .ref r3), (4, .int x4)] [] b m Q) : mm_W l G (k_L_law ns xs) 422 [(0, .ref 0), (1, .ref r1), (2, .ref r2), (3, .ref r3), (4, .int x4)] [] b m Q := by
  refine mm_goto (tgt := 1018) d_L_law_422 (by decide) ?_
  exact mm_sub [0, 1, 2, 3, 4] rfl h1
theorem t_L_law_425 {l : Launch} {G : mm_G} {ns : Nat} {xs : Nat → Int32} {b : Nat} {m : mm_Mem} {Q : mm_O → mm_Mem → Prop} {r1 : Nat} {r2 : Nat} {r3 : Nat} {x4 : Int32} {b_1 : Nat} {b_2 : Nat} {P_4 : mm_O → mm_Mem → Prop} {fs_5 : List Value} (hb3 : b_1 + b_2 ≤ b) (g6 : m r1 = .inr (0, fs_5)) (z7 : r1 ≠ 0) (M8 : mm_W l G k_P_erase 0 (lv_args 0 [.ref r1]) [] b_1 m P_4) (hx9 : ∀ (E : String) (n_2 : mm_Mem), ¬ P_4 (.inr E) n_2) (h10 : ∀ (v : Option Value) (n_2 : mm_Mem), P_4 (.inl v) n_2 → v = none ∧ mm_W l G (k_L_law ns xs) 429 [(0, .ref 0), (1, .ref r1), (2, .ref r2), (3, .ref r3), (4, .int x4)] [] b_2 n_2 Q) : mm_W l G (k_L_law ns xs) 425 [(0, .ref 0), (1, .ref r1), (2, .ref r2), (3, .ref r3), (4, .int x4)] [] b m Q := by
  refine mm_aload_n 1 (i := 1) d_L_law_425 rfl rfl ?_
  refine mm_callV (as := []) (st := []) (b2 := b_2) ca_P_erase w_258 w_259 w_260 cc_P.1 rfl d_L_law_426 rfl (Nat.le_of_ble_eq_true rfl) (Nat.le_of_ble_eq_true rfl) (Nat.le_of_ble_eq_true rfl) hb3 g6 z7 M8 (fun E m2 q => absurd q (hx9 E m2)) (fun v m2 q => ?_)
  obtain ⟨rfl, z9⟩ := h10 v m2 q
  exact mm_sub [0, 1, 2, 3, 4] rfl z9
theorem t_L_law_429 {l : Launch} {G : mm_G} {ns : Nat} {xs : Nat → Int32} {b : Nat} {m : mm_Mem} {Q : mm_O → mm_Mem → Prop} {r1 : Nat} {r2 : Nat} {r3 : Nat} {x4 : Int32} {b_1 : Nat} {b_2 : Nat} {P_4 : mm_O → mm_Mem → Prop} {fs_5 : List Value} (hb3 : b_1 + b_2 ≤ b) (g6 : m r2 = .inr (8, fs_5)) (z7 : r2 ≠ 0) (M8 : mm_W l G k_M_erase 0 (lv_args 0 [.ref r2]) [] b_1 m P_4) (hx9 : ∀ (E : String) (n_2 : mm_Mem), ¬ P_4 (.inr E) n_2) (h10 : ∀ (v : Option Value) (n_2 : mm_Mem), P_4 (.inl v) n_2 → v = none ∧ mm_W l G (k_L_law ns xs) 433 [(0, .ref 0), (1, .ref r1), (2, .ref r2), (3, .ref r3), (4, .int x4)] [] b_2 n_2 Q) : mm_W l G (k_L_law ns xs) 429 [(0, .ref 0), (1, .ref r1), (2, .ref r2), (3, .ref r3), (4, .int x4)] [] b m Q := by
  refine mm_aload_n 2 (i := 2) d_L_law_429 rfl rfl ?_
  refine mm_callV (as := []) (st := []) (b2 := b_2) ca_M_erase w_861 w_862 w_863 cc_M.1 rfl d_L_law_430 rfl (Nat.le_of_ble_eq_true rfl) (Nat.le_of_ble_eq_true rfl) (Nat.le_of_ble_eq_true rfl) hb3 g6 z7 M8 (fun E m2 q => absurd q (hx9 E m2)) (fun v m2 q => ?_)
  obtain ⟨rfl, z9⟩ := h10 v m2 q
  exact mm_sub [0, 1, 2, 3, 4] rfl z9
theorem t_L_law_433 {l : Launch} {G : mm_G} {ns : Nat} {xs : Nat → Int32} {b : Nat} {m : mm_Mem} {Q : mm_O → mm_Mem → Prop} {r1 : Nat} {r2 : Nat} {r3 : Nat} {x4 : Int32} (h1 : mm_W l G (k_L_law ns xs) 1018 [(0, .ref 0), (1, .ref r1), (2, .ref r2), (3, .ref r3), (4, .int x4)] [] b m Q) : mm_W l G (k_L_law ns xs) 433 [(0, .ref 0), (1, .ref r1), (2, .ref r2), (3, .ref r3), (4, .int x4)] [] b m Q := by
  refine mm_goto (tgt := 1018) d_L_law_433 (by decide) ?_
  exact mm_sub [0, 1, 2, 3, 4] rfl h1
theorem t_L_law_436 {l : Launch} {G : mm_G} {ns : Nat} {xs : Nat → Int32} {b : Nat} {m : mm_Mem} {Q : mm_O → mm_Mem → Prop} {r1 : Nat} {r2 : Nat} {r3 : Nat} {x4 : Int32} {b_1 : Nat} {b_2 : Nat} {P_4 : mm_O → mm_Mem → Prop} (hb3 : b_1 + b_2 ≤ b) (M5 : mm_W l G k_L_add 0 (lv_args 0 [.ref r1, .ref r3]) [] b_1 m P_4) (hx6 : ∀ (E : String) (n_2 : mm_Mem), ¬ P_4 (.inr E) n_2) (h7 : ∀ (v : Option Value) (n_2 : mm_Mem), P_4 (.inl v) n_2 → ∃ x9 : Int32, v = some (.int x9) ∧ mm_W l G (k_L_law ns xs) 441 [(0, .ref 0), (1, .ref r1), (2, .ref r2), (3, .ref r3), (4, .int x4)] [.int x9] b_2 n_2 Q) : mm_W l G (k_L_law ns xs) 436 [(0, .ref 0), (1, .ref r1), (2, .ref r2), (3, .ref r3), (4, .int x4)] [] b m Q := by
  refine mm_aload_n 1 (i := 1) d_L_law_436 rfl rfl ?_
  refine mm_aload_n 3 (i := 3) d_L_law_437 rfl rfl ?_
  refine mm_callS (as := [.ref r1, .ref r3]) (st := []) (b2 := b_2) ca_L_add w_451 w_452 d_L_law_438 rfl (Nat.le_of_ble_eq_true rfl) (Nat.le_of_ble_eq_true rfl) (Nat.le_of_ble_eq_true rfl) hb3 M5 (fun E m2 q => absurd q (hx6 E m2)) (fun v m2 q => ?_)
  obtain ⟨x9, rfl, z9⟩ := h7 v m2 q
  exact mm_sub [0, 1, 2, 3, 4] rfl z9
theorem t_L_law_441 {l : Launch} {G : mm_G} {ns : Nat} {xs : Nat → Int32} {b : Nat} {m : mm_Mem} {Q : mm_O → mm_Mem → Prop} {r1 : Nat} {r2 : Nat} {r3 : Nat} {x4 : Int32} {xs0 : Int32} {b_1 : Nat} {b_2 : Nat} {P_4 : mm_O → mm_Mem → Prop} {fs_5 : List Value} (hb3 : b_1 + b_2 ≤ b) (g6 : m r2 = .inr (8, fs_5)) (z7 : r2 ≠ 0) (M8 : mm_W l G k_M_add 0 (lv_args 0 [.ref r2]) [] b_1 m P_4) (hx9 : ∀ (E : String) (n_2 : mm_Mem), ¬ P_4 (.inr E) n_2) (h10 : ∀ (v : Option Value) (n_2 : mm_Mem), P_4 (.inl v) n_2 → ∃ x9 : Int32, v = some (.int x9) ∧ mm_W l G (k_L_law ns xs) 447 [(0, .ref 0), (1, .ref r1), (2, .ref r2), (3, .ref r3), (4, .int x4), (5, .int xs0)] [.int x9] b_2 n_2 Q) : mm_W l G (k_L_law ns xs) 441 [(0, .ref 0), (1, .ref r1), (2, .ref r2), (3, .ref r3), (4, .int x4)] [.int xs0] b m Q := by
  refine mm_istore (i := 5) d_L_law_441 (Nat.le_of_ble_eq_true rfl) (lv2 := [(5, .int xs0), (0, .ref 0), (1, .ref r1), (2, .ref r2), (3, .ref r3), (4, .int x4)]) rfl ?_
  refine mm_aload_n 3 (i := 2) d_L_law_443 rfl rfl ?_
  refine mm_callV (as := []) (st := []) (b2 := b_2) ca_M_add w_865 w_866 w_867 cc_M.1 rfl d_L_law_444 rfl (Nat.le_of_ble_eq_true rfl) (Nat.le_of_ble_eq_true rfl) (Nat.le_of_ble_eq_true rfl) hb3 g6 z7 M8 (fun E m2 q => absurd q (hx9 E m2)) (fun v m2 q => ?_)
  obtain ⟨x9, rfl, z9⟩ := h10 v m2 q
  exact mm_sub [1, 2, 3, 4, 5, 0] rfl z9
theorem t_L_law_447 {l : Launch} {G : mm_G} {ns : Nat} {xs : Nat → Int32} {b : Nat} {m : mm_Mem} {Q : mm_O → mm_Mem → Prop} {r1 : Nat} {r2 : Nat} {r3 : Nat} {x4 : Int32} {x5 : Int32} {xs0 : Int32} {b_1 : Nat} {b_2 : Nat} {m_4 : mm_Mem} {x_5 : Int32} {fs_6 : List Value} (hb3 : b_1 + b_2 ≤ b) (g7 : m r2 = .inr (8, fs_6)) (z8 : r2 ≠ 0) (M9 : mm_W l G k_M_thrown 0 (lv_args 0 [.ref r2]) [] b_1 m (mm_is (.inl (some (.int x_5))) m_4)) (h10 : (x_5 = x5) → mm_W l G (k_L_law ns xs) 460 [(0, .ref 0), (1, .ref r1), (2, .ref r2), (3, .ref r3), (4, .int x4), (5, .int x5), (6, .int xs0)] [] b_2 m_4 Q) (h11 : (¬ x_5 = x5) → mm_W l G (k_L_law ns xs) 458 [] [] b_2 m_4 Q) : mm_W l G (k_L_law ns xs) 447 [(0, .ref 0), (1, .ref r1), (2, .ref r2), (3, .ref r3), (4, .int x4), (5, .int x5)] [.int xs0] b m Q := by
  refine mm_istore (i := 6) d_L_law_447 (Nat.le_of_ble_eq_true rfl) (lv2 := [(6, .int xs0), (0, .ref 0), (1, .ref r1), (2, .ref r2), (3, .ref r3), (4, .int x4), (5, .int x5)]) rfl ?_
  refine mm_aload_n 3 (i := 2) d_L_law_449 rfl rfl ?_
  refine mm_callV (as := []) (st := []) (b2 := b_2) ca_M_thrown w_833 w_834 w_835 cc_M.1 rfl d_L_law_450 rfl (Nat.le_of_ble_eq_true rfl) (Nat.le_of_ble_eq_true rfl) (Nat.le_of_ble_eq_true rfl) hb3 g7 z8 M9 (fun E _ ⟨c, _⟩ => nomatch c) (fun v _ ⟨c, e⟩ => ?_)
  cases c
  rw [e]
  show mm_W l G (k_L_law ns xs) 453 [(6, .int xs0), (0, .ref 0), (1, .ref r1), (2, .ref r2), (3, .ref r3), (4, .int x4), (5, .int x5)] [.int x_5] b_2 m_4 Q
  refine mm_iload 6 (i := 5) d_L_law_453 rfl ?_
  exact mm_icmp_eq (tgt := 460) d_L_law_455 (by decide) (fun c => mm_sub [1, 2, 3, 4, 5, 6, 0] rfl (h10 c)) (fun c => mm_sub [] rfl (h11 c))
theorem t_L_law_458 {l : Launch} {G : mm_G} {ns : Nat} {xs : Nat → Int32} {b : Nat} {m : mm_Mem} {Q : mm_O → mm_Mem → Prop}  (h1 : Q (.inl (some (.int 0))) m) (hn2 : narrow .boolean (.int 0) = .int 0) : mm_W l G (k_L_law ns xs) 458 [] [] b m Q := by
  refine mm_iconst d_L_law_458 (v := 0) (by decide) ?_
  exact mm_zret d_L_law_459 rfl hn2 h1
theorem t_L_law_460 {l : Launch} {G : mm_G} {ns : Nat} {xs : Nat → Int32} {b : Nat} {m : mm_Mem} {Q : mm_O → mm_Mem → Prop} {r1 : Nat} {r2 : Nat} {r3 : Nat} {x4 : Int32} {x5 : Int32} {x6 : Int32} (h1 : (¬ x5 = 0) → mm_W l G (k_L_law ns xs) 477 [(0, .ref 0), (1, .ref r1), (2, .ref r2), (3, .ref r3), (4, .int x4)] [] b m Q) (h2 : (x5 = 0) → mm_W l G (k_L_law ns xs) 465 [(0, .ref 0), (1, .ref r1), (2, .ref r2), (3, .ref r3), (4, .int x4), (6, .int x6)] [] b m Q) : mm_W l G (k_L_law ns xs) 460 [(0, .ref 0), (1, .ref r1), (2, .ref r2), (3, .ref r3), (4, .int x4), (5, .int x5), (6, .int x6)] [] b m Q := by
  refine mm_iload 5 (i := 5) d_L_law_460 rfl ?_
  exact mm_if_ne (tgt := 477) d_L_law_462 (by decide) (fun c => mm_sub [0, 1, 2, 3, 4] rfl (h1 c)) (fun c => mm_sub [0, 1, 2, 3, 4, 6] rfl (h2 c))
theorem t_L_law_465 {l : Launch} {G : mm_G} {ns : Nat} {xs : Nat → Int32} {b : Nat} {m : mm_Mem} {Q : mm_O → mm_Mem → Prop} {r1 : Nat} {r2 : Nat} {r3 : Nat} {x4 : Int32} {x6 : Int32} {n_1 : Nat} {f_2 : Nat → Int64} (a3 : m r3 = .inl (G.2 2, n_1, .inr (.inl f_2))) (z4 : r3 ≠ 0) (i5 : vp_in 0 n_1) (h6 : ((lg_cmp (f_2 (0 : Int32).toNatClampNeg) x6.toInt64) = 0) → mm_W l G (k_L_law ns xs) 477 [(0, .ref 0), (1, .ref r1), (2, .ref r2), (3, .ref r3), (4, .int x4)] [] b m Q) (h7 : (¬ (lg_cmp (f_2 (0 : Int32).toNatClampNeg) x6.toInt64) = 0) → mm_W l G (k_L_law ns xs) 475 [] [] b m Q) : mm_W l G (k_L_law ns xs) 465 [(0, .ref 0), (1, .ref r1), (2, .ref r2), (3, .ref r3), (4, .int x4), (6, .int x6)] [] b m Q := by
  refine mm_aload_n 3 (i := 3) d_L_law_465 rfl rfl ?_
  refine mm_iconst d_L_law_466 (v := 0) (by decide) ?_
  refine mm_lald d_L_law_467 a3 z4 i5 ?_
  refine mm_iload 5 (i := 6) d_L_law_468 rfl ?_
  refine mm_i2l d_L_law_470 ?_
  refine mm_lcmp d_L_law_471 ?_
  exact mm_if_eq (tgt := 477) d_L_law_472 (by decide) (fun c => mm_sub [0, 1, 2, 3, 4] rfl (h6 c)) (fun c => mm_sub [] rfl (h7 c))
theorem t_L_law_475 {l : Launch} {G : mm_G} {ns : Nat} {xs : Nat → Int32} {b : Nat} {m : mm_Mem} {Q : mm_O → mm_Mem → Prop}  (h1 : Q (.inl (some (.int 0))) m) (hn2 : narrow .boolean (.int 0) = .int 0) : mm_W l G (k_L_law ns xs) 475 [] [] b m Q := by
  refine mm_iconst d_L_law_475 (v := 0) (by decide) ?_
  exact mm_zret d_L_law_476 rfl hn2 h1
theorem t_L_law_477 {l : Launch} {G : mm_G} {ns : Nat} {xs : Nat → Int32} {b : Nat} {m : mm_Mem} {Q : mm_O → mm_Mem → Prop} {r1 : Nat} {r2 : Nat} {r3 : Nat} {x4 : Int32} (h1 : mm_W l G (k_L_law ns xs) 1018 [(0, .ref 0), (1, .ref r1), (2, .ref r2), (3, .ref r3), (4, .int x4)] [] b m Q) : mm_W l G (k_L_law ns xs) 477 [(0, .ref 0), (1, .ref r1), (2, .ref r2), (3, .ref r3), (4, .int x4)] [] b m Q := by
  refine mm_goto (tgt := 1018) d_L_law_477 (by decide) ?_
  exact mm_sub [0, 1, 2, 3, 4] rfl h1
theorem t_L_law_480 {l : Launch} {G : mm_G} {ns : Nat} {xs : Nat → Int32} {b : Nat} {m : mm_Mem} {Q : mm_O → mm_Mem → Prop} {r1 : Nat} {r2 : Nat} {r3 : Nat} {x4 : Int32} {b_3 : Nat} {b_4 : Nat} {P_6 : mm_O → mm_Mem → Prop} (i1 : vp_in (x4 + 1) ns) (i2 : vp_in (x4 + 2) ns) (hb5 : b_3 + b_4 ≤ b) (M7 : mm_W l G k_L_addPacked 0 (lv_args 0 [.ref r1, .int (xs (x4 + 1).toNatClampNeg), .int (xs (x4 + 2).toNatClampNeg), .ref r3]) [] b_3 m P_6) (hx8 : ∀ (E : String) (n_2 : mm_Mem), ¬ P_6 (.inr E) n_2) (h9 : ∀ (v : Option Value) (n_2 : mm_Mem), P_6 (.inl v) n_2 → ∃ x9 : Int32, v = some (.int x9) ∧ mm_W l G (k_L_law ns xs) 497 [(0, .ref 0), (1, .ref r1), (2, .ref r2), (3, .ref r3), (4, .int x4)] [.int x9] b_4 n_2 Q) : mm_W l G (k_L_law ns xs) 480 [(0, .ref 0), (1, .ref r1), (2, .ref r2), (3, .ref r3), (4, .int x4)] [] b m Q := by
  refine mm_aload_n 1 (i := 1) d_L_law_480 rfl rfl ?_
  refine mm_aload_n 0 (i := 0) d_L_law_481 rfl rfl ?_
  refine mm_iload 4 (i := 4) d_L_law_482 rfl ?_
  refine mm_iconst d_L_law_484 (v := 1) (by decide) ?_
  refine mm_iadd d_L_law_485 ?_
  refine mm_sald (n := ns) (xs := xs) rfl d_L_law_486 i1 ?_
  refine mm_aload_n 0 (i := 0) d_L_law_487 rfl rfl ?_
  refine mm_iload 4 (i := 4) d_L_law_488 rfl ?_
  refine mm_iconst d_L_law_490 (v := 2) (by decide) ?_
  refine mm_iadd d_L_law_491 ?_
  refine mm_sald (n := ns) (xs := xs) rfl d_L_law_492 i2 ?_
  refine mm_aload_n 3 (i := 3) d_L_law_493 rfl rfl ?_
  refine mm_callS (as := [.ref r1, .int (xs (x4 + 1).toNatClampNeg), .int (xs (x4 + 2).toNatClampNeg), .ref r3]) (st := []) (b2 := b_4) ca_L_addPacked w_502 w_503 d_L_law_494 rfl (Nat.le_of_ble_eq_true rfl) (Nat.le_of_ble_eq_true rfl) (Nat.le_of_ble_eq_true rfl) hb5 M7 (fun E m2 q => absurd q (hx8 E m2)) (fun v m2 q => ?_)
  obtain ⟨x9, rfl, z9⟩ := h9 v m2 q
  exact mm_sub [0, 1, 2, 3, 4] rfl z9
theorem t_L_law_497 {l : Launch} {G : mm_G} {ns : Nat} {xs : Nat → Int32} {b : Nat} {m : mm_Mem} {Q : mm_O → mm_Mem → Prop} {r1 : Nat} {r2 : Nat} {r3 : Nat} {x4 : Int32} {xs0 : Int32} {b_3 : Nat} {b_4 : Nat} {P_6 : mm_O → mm_Mem → Prop} {fs_7 : List Value} (i1 : vp_in (x4 + 1) ns) (i2 : vp_in (x4 + 2) ns) (hb5 : b_3 + b_4 ≤ b) (g8 : m r2 = .inr (8, fs_7)) (z9 : r2 ≠ 0) (M10 : mm_W l G k_M_addPacked 0 (lv_args 0 [.ref r2, .int (xs (x4 + 1).toNatClampNeg), .int (xs (x4 + 2).toNatClampNeg)]) [] b_3 m P_6) (hx11 : ∀ (E : String) (n_2 : mm_Mem), ¬ P_6 (.inr E) n_2) (h12 : ∀ (v : Option Value) (n_2 : mm_Mem), P_6 (.inl v) n_2 → ∃ x9 : Int32, v = some (.int x9) ∧ mm_W l G (k_L_law ns xs) 515 [(0, .ref 0), (1, .ref r1), (2, .ref r2), (3, .ref r3), (4, .int x4), (5, .int xs0)] [.int x9] b_4 n_2 Q) : mm_W l G (k_L_law ns xs) 497 [(0, .ref 0), (1, .ref r1), (2, .ref r2), (3, .ref r3), (4, .int x4)] [.int xs0] b m Q := by
  refine mm_istore (i := 5) d_L_law_497 (Nat.le_of_ble_eq_true rfl) (lv2 := [(5, .int xs0), (0, .ref 0), (1, .ref r1), (2, .ref r2), (3, .ref r3), (4, .int x4)]) rfl ?_
  refine mm_aload_n 3 (i := 2) d_L_law_499 rfl rfl ?_
  refine mm_aload_n 1 (i := 0) d_L_law_500 rfl rfl ?_
  refine mm_iload 5 (i := 4) d_L_law_501 rfl ?_
  refine mm_iconst d_L_law_503 (v := 1) (by decide) ?_
  refine mm_iadd d_L_law_504 ?_
  refine mm_sald (n := ns) (xs := xs) rfl d_L_law_505 i1 ?_
  refine mm_aload_n 1 (i := 0) d_L_law_506 rfl rfl ?_
  refine mm_iload 5 (i := 4) d_L_law_507 rfl ?_
  refine mm_iconst d_L_law_509 (v := 2) (by decide) ?_
  refine mm_iadd d_L_law_510 ?_
  refine mm_sald (n := ns) (xs := xs) rfl d_L_law_511 i2 ?_
  refine mm_callV (as := [.int (xs (x4 + 1).toNatClampNeg), .int (xs (x4 + 2).toNatClampNeg)]) (st := []) (b2 := b_4) ca_M_addPacked w_896 w_897 w_898 cc_M.1 rfl d_L_law_512 rfl (Nat.le_of_ble_eq_true rfl) (Nat.le_of_ble_eq_true rfl) (Nat.le_of_ble_eq_true rfl) hb5 g8 z9 M10 (fun E m2 q => absurd q (hx11 E m2)) (fun v m2 q => ?_)
  obtain ⟨x9, rfl, z9⟩ := h12 v m2 q
  exact mm_sub [1, 2, 3, 4, 5, 0] rfl z9
theorem t_L_law_515 {l : Launch} {G : mm_G} {ns : Nat} {xs : Nat → Int32} {b : Nat} {m : mm_Mem} {Q : mm_O → mm_Mem → Prop} {r1 : Nat} {r2 : Nat} {r3 : Nat} {x4 : Int32} {x5 : Int32} {xs0 : Int32} {b_1 : Nat} {b_2 : Nat} {m_4 : mm_Mem} {x_5 : Int32} {fs_6 : List Value} (hb3 : b_1 + b_2 ≤ b) (g7 : m r2 = .inr (8, fs_6)) (z8 : r2 ≠ 0) (M9 : mm_W l G k_M_thrown 0 (lv_args 0 [.ref r2]) [] b_1 m (mm_is (.inl (some (.int x_5))) m_4)) (h10 : (x_5 = x5) → mm_W l G (k_L_law ns xs) 528 [(0, .ref 0), (1, .ref r1), (2, .ref r2), (3, .ref r3), (4, .int x4), (5, .int x5), (6, .int xs0)] [] b_2 m_4 Q) (h11 : (¬ x_5 = x5) → mm_W l G (k_L_law ns xs) 526 [] [] b_2 m_4 Q) : mm_W l G (k_L_law ns xs) 515 [(0, .ref 0), (1, .ref r1), (2, .ref r2), (3, .ref r3), (4, .int x4), (5, .int x5)] [.int xs0] b m Q := by
  refine mm_istore (i := 6) d_L_law_515 (Nat.le_of_ble_eq_true rfl) (lv2 := [(6, .int xs0), (0, .ref 0), (1, .ref r1), (2, .ref r2), (3, .ref r3), (4, .int x4), (5, .int x5)]) rfl ?_
  refine mm_aload_n 3 (i := 2) d_L_law_517 rfl rfl ?_
  refine mm_callV (as := []) (st := []) (b2 := b_2) ca_M_thrown w_833 w_834 w_835 cc_M.1 rfl d_L_law_518 rfl (Nat.le_of_ble_eq_true rfl) (Nat.le_of_ble_eq_true rfl) (Nat.le_of_ble_eq_true rfl) hb3 g7 z8 M9 (fun E _ ⟨c, _⟩ => nomatch c) (fun v _ ⟨c, e⟩ => ?_)
  cases c
  rw [e]
  show mm_W l G (k_L_law ns xs) 521 [(6, .int xs0), (0, .ref 0), (1, .ref r1), (2, .ref r2), (3, .ref r3), (4, .int x4), (5, .int x5)] [.int x_5] b_2 m_4 Q
  refine mm_iload 6 (i := 5) d_L_law_521 rfl ?_
  exact mm_icmp_eq (tgt := 528) d_L_law_523 (by decide) (fun c => mm_sub [1, 2, 3, 4, 5, 6, 0] rfl (h10 c)) (fun c => mm_sub [] rfl (h11 c))
theorem t_L_law_526 {l : Launch} {G : mm_G} {ns : Nat} {xs : Nat → Int32} {b : Nat} {m : mm_Mem} {Q : mm_O → mm_Mem → Prop}  (h1 : Q (.inl (some (.int 0))) m) (hn2 : narrow .boolean (.int 0) = .int 0) : mm_W l G (k_L_law ns xs) 526 [] [] b m Q := by
  refine mm_iconst d_L_law_526 (v := 0) (by decide) ?_
  exact mm_zret d_L_law_527 rfl hn2 h1
theorem t_L_law_528 {l : Launch} {G : mm_G} {ns : Nat} {xs : Nat → Int32} {b : Nat} {m : mm_Mem} {Q : mm_O → mm_Mem → Prop} {r1 : Nat} {r2 : Nat} {r3 : Nat} {x4 : Int32} {x5 : Int32} {x6 : Int32} (h1 : (¬ x5 = 0) → mm_W l G (k_L_law ns xs) 545 [(0, .ref 0), (1, .ref r1), (2, .ref r2), (3, .ref r3), (4, .int x4)] [] b m Q) (h2 : (x5 = 0) → mm_W l G (k_L_law ns xs) 533 [(0, .ref 0), (1, .ref r1), (2, .ref r2), (3, .ref r3), (4, .int x4), (6, .int x6)] [] b m Q) : mm_W l G (k_L_law ns xs) 528 [(0, .ref 0), (1, .ref r1), (2, .ref r2), (3, .ref r3), (4, .int x4), (5, .int x5), (6, .int x6)] [] b m Q := by
  refine mm_iload 5 (i := 5) d_L_law_528 rfl ?_
  exact mm_if_ne (tgt := 545) d_L_law_530 (by decide) (fun c => mm_sub [0, 1, 2, 3, 4] rfl (h1 c)) (fun c => mm_sub [0, 1, 2, 3, 4, 6] rfl (h2 c))
theorem t_L_law_533 {l : Launch} {G : mm_G} {ns : Nat} {xs : Nat → Int32} {b : Nat} {m : mm_Mem} {Q : mm_O → mm_Mem → Prop} {r1 : Nat} {r2 : Nat} {r3 : Nat} {x4 : Int32} {x6 : Int32} {n_1 : Nat} {f_2 : Nat → Int64} (a3 : m r3 = .inl (G.2 2, n_1, .inr (.inl f_2))) (z4 : r3 ≠ 0) (i5 : vp_in 0 n_1) (h6 : ((lg_cmp (f_2 (0 : Int32).toNatClampNeg) x6.toInt64) = 0) → mm_W l G (k_L_law ns xs) 545 [(0, .ref 0), (1, .ref r1), (2, .ref r2), (3, .ref r3), (4, .int x4)] [] b m Q) (h7 : (¬ (lg_cmp (f_2 (0 : Int32).toNatClampNeg) x6.toInt64) = 0) → mm_W l G (k_L_law ns xs) 543 [] [] b m Q) : mm_W l G (k_L_law ns xs) 533 [(0, .ref 0), (1, .ref r1), (2, .ref r2), (3, .ref r3), (4, .int x4), (6, .int x6)] [] b m Q := by
  refine mm_aload_n 3 (i := 3) d_L_law_533 rfl rfl ?_
  refine mm_iconst d_L_law_534 (v := 0) (by decide) ?_
  refine mm_lald d_L_law_535 a3 z4 i5 ?_
  refine mm_iload 5 (i := 6) d_L_law_536 rfl ?_
  refine mm_i2l d_L_law_538 ?_
  refine mm_lcmp d_L_law_539 ?_
  exact mm_if_eq (tgt := 545) d_L_law_540 (by decide) (fun c => mm_sub [0, 1, 2, 3, 4] rfl (h6 c)) (fun c => mm_sub [] rfl (h7 c))
theorem t_L_law_543 {l : Launch} {G : mm_G} {ns : Nat} {xs : Nat → Int32} {b : Nat} {m : mm_Mem} {Q : mm_O → mm_Mem → Prop}  (h1 : Q (.inl (some (.int 0))) m) (hn2 : narrow .boolean (.int 0) = .int 0) : mm_W l G (k_L_law ns xs) 543 [] [] b m Q := by
  refine mm_iconst d_L_law_543 (v := 0) (by decide) ?_
  exact mm_zret d_L_law_544 rfl hn2 h1
theorem t_L_law_545 {l : Launch} {G : mm_G} {ns : Nat} {xs : Nat → Int32} {b : Nat} {m : mm_Mem} {Q : mm_O → mm_Mem → Prop} {r1 : Nat} {r2 : Nat} {r3 : Nat} {x4 : Int32} (h1 : mm_W l G (k_L_law ns xs) 1018 [(0, .ref 0), (1, .ref r1), (2, .ref r2), (3, .ref r3), (4, .int x4)] [] b m Q) : mm_W l G (k_L_law ns xs) 545 [(0, .ref 0), (1, .ref r1), (2, .ref r2), (3, .ref r3), (4, .int x4)] [] b m Q := by
  refine mm_goto (tgt := 1018) d_L_law_545 (by decide) ?_
  exact mm_sub [0, 1, 2, 3, 4] rfl h1
theorem t_L_law_548 {l : Launch} {G : mm_G} {ns : Nat} {xs : Nat → Int32} {b : Nat} {m : mm_Mem} {Q : mm_O → mm_Mem → Prop} {r1 : Nat} {r2 : Nat} {r3 : Nat} {x4 : Int32} {b_2 : Nat} {b_3 : Nat} {P_5 : mm_O → mm_Mem → Prop} (i1 : vp_in (x4 + 1) ns) (hb4 : b_2 + b_3 ≤ b) (M6 : mm_W l G k_L_remove 0 (lv_args 0 [.ref r1, .int (xs (x4 + 1).toNatClampNeg)]) [] b_2 m P_5) (hx7 : ∀ (E : String) (n_2 : mm_Mem), ¬ P_5 (.inr E) n_2) (h8 : ∀ (v : Option Value) (n_2 : mm_Mem), P_5 (.inl v) n_2 → ∃ x9 : Int32, v = some (.int x9) ∧ mm_W l G (k_L_law ns xs) 558 [(0, .ref 0), (1, .ref r1), (2, .ref r2), (3, .ref r3), (4, .int x4)] [.int x9] b_3 n_2 Q) : mm_W l G (k_L_law ns xs) 548 [(0, .ref 0), (1, .ref r1), (2, .ref r2), (3, .ref r3), (4, .int x4)] [] b m Q := by
  refine mm_aload_n 1 (i := 1) d_L_law_548 rfl rfl ?_
  refine mm_aload_n 0 (i := 0) d_L_law_549 rfl rfl ?_
  refine mm_iload 4 (i := 4) d_L_law_550 rfl ?_
  refine mm_iconst d_L_law_552 (v := 1) (by decide) ?_
  refine mm_iadd d_L_law_553 ?_
  refine mm_sald (n := ns) (xs := xs) rfl d_L_law_554 i1 ?_
  refine mm_callS (as := [.ref r1, .int (xs (x4 + 1).toNatClampNeg)]) (st := []) (b2 := b_3) ca_L_remove w_510 w_511 d_L_law_555 rfl (Nat.le_of_ble_eq_true rfl) (Nat.le_of_ble_eq_true rfl) (Nat.le_of_ble_eq_true rfl) hb4 M6 (fun E m2 q => absurd q (hx7 E m2)) (fun v m2 q => ?_)
  obtain ⟨x9, rfl, z9⟩ := h8 v m2 q
  exact mm_sub [0, 1, 2, 3, 4] rfl z9
theorem t_L_law_558 {l : Launch} {G : mm_G} {ns : Nat} {xs : Nat → Int32} {b : Nat} {m : mm_Mem} {Q : mm_O → mm_Mem → Prop} {r1 : Nat} {r2 : Nat} {r3 : Nat} {x4 : Int32} {xs0 : Int32} {b_2 : Nat} {b_3 : Nat} {P_5 : mm_O → mm_Mem → Prop} {fs_6 : List Value} (i1 : vp_in (x4 + 1) ns) (hb4 : b_2 + b_3 ≤ b) (g7 : m r2 = .inr (8, fs_6)) (z8 : r2 ≠ 0) (M9 : mm_W l G k_M_remove 0 (lv_args 0 [.ref r2, .int (xs (x4 + 1).toNatClampNeg)]) [] b_2 m P_5) (hx10 : ∀ (E : String) (n_2 : mm_Mem), ¬ P_5 (.inr E) n_2) (h11 : ∀ (v : Option Value) (n_2 : mm_Mem), P_5 (.inl v) n_2 → v = none ∧ mm_W l G (k_L_law ns xs) 570 [(0, .ref 0), (1, .ref r1), (2, .ref r2), (3, .ref r3), (4, .int x4), (5, .int xs0)] [] b_3 n_2 Q) : mm_W l G (k_L_law ns xs) 558 [(0, .ref 0), (1, .ref r1), (2, .ref r2), (3, .ref r3), (4, .int x4)] [.int xs0] b m Q := by
  refine mm_istore (i := 5) d_L_law_558 (Nat.le_of_ble_eq_true rfl) (lv2 := [(5, .int xs0), (0, .ref 0), (1, .ref r1), (2, .ref r2), (3, .ref r3), (4, .int x4)]) rfl ?_
  refine mm_aload_n 3 (i := 2) d_L_law_560 rfl rfl ?_
  refine mm_aload_n 1 (i := 0) d_L_law_561 rfl rfl ?_
  refine mm_iload 5 (i := 4) d_L_law_562 rfl ?_
  refine mm_iconst d_L_law_564 (v := 1) (by decide) ?_
  refine mm_iadd d_L_law_565 ?_
  refine mm_sald (n := ns) (xs := xs) rfl d_L_law_566 i1 ?_
  refine mm_callV (as := [.int (xs (x4 + 1).toNatClampNeg)]) (st := []) (b2 := b_3) ca_M_remove w_900 w_901 w_902 cc_M.1 rfl d_L_law_567 rfl (Nat.le_of_ble_eq_true rfl) (Nat.le_of_ble_eq_true rfl) (Nat.le_of_ble_eq_true rfl) hb4 g7 z8 M9 (fun E m2 q => absurd q (hx10 E m2)) (fun v m2 q => ?_)
  obtain ⟨rfl, z9⟩ := h11 v m2 q
  exact mm_sub [1, 2, 3, 4, 5, 0] rfl z9
theorem t_L_law_570 {l : Launch} {G : mm_G} {ns : Nat} {xs : Nat → Int32} {b : Nat} {m : mm_Mem} {Q : mm_O → mm_Mem → Prop} {r1 : Nat} {r2 : Nat} {r3 : Nat} {x4 : Int32} {x5 : Int32} {b_1 : Nat} {b_2 : Nat} {m_4 : mm_Mem} {x_5 : Int32} {fs_6 : List Value} (hb3 : b_1 + b_2 ≤ b) (g7 : m r2 = .inr (8, fs_6)) (z8 : r2 ≠ 0) (M9 : mm_W l G k_M_thrown 0 (lv_args 0 [.ref r2]) [] b_1 m (mm_is (.inl (some (.int x_5))) m_4)) (h10 : (x_5 = x5) → mm_W l G (k_L_law ns xs) 581 [(0, .ref 0), (1, .ref r1), (2, .ref r2), (3, .ref r3), (4, .int x4)] [] b_2 m_4 Q) (h11 : (¬ x_5 = x5) → mm_W l G (k_L_law ns xs) 579 [] [] b_2 m_4 Q) : mm_W l G (k_L_law ns xs) 570 [(0, .ref 0), (1, .ref r1), (2, .ref r2), (3, .ref r3), (4, .int x4), (5, .int x5)] [] b m Q := by
  refine mm_aload_n 2 (i := 2) d_L_law_570 rfl rfl ?_
  refine mm_callV (as := []) (st := []) (b2 := b_2) ca_M_thrown w_833 w_834 w_835 cc_M.1 rfl d_L_law_571 rfl (Nat.le_of_ble_eq_true rfl) (Nat.le_of_ble_eq_true rfl) (Nat.le_of_ble_eq_true rfl) hb3 g7 z8 M9 (fun E _ ⟨c, _⟩ => nomatch c) (fun v _ ⟨c, e⟩ => ?_)
  cases c
  rw [e]
  show mm_W l G (k_L_law ns xs) 574 [(0, .ref 0), (1, .ref r1), (2, .ref r2), (3, .ref r3), (4, .int x4), (5, .int x5)] [.int x_5] b_2 m_4 Q
  refine mm_iload 5 (i := 5) d_L_law_574 rfl ?_
  exact mm_icmp_eq (tgt := 581) d_L_law_576 (by decide) (fun c => mm_sub [0, 1, 2, 3, 4] rfl (h10 c)) (fun c => mm_sub [] rfl (h11 c))
theorem t_L_law_579 {l : Launch} {G : mm_G} {ns : Nat} {xs : Nat → Int32} {b : Nat} {m : mm_Mem} {Q : mm_O → mm_Mem → Prop}  (h1 : Q (.inl (some (.int 0))) m) (hn2 : narrow .boolean (.int 0) = .int 0) : mm_W l G (k_L_law ns xs) 579 [] [] b m Q := by
  refine mm_iconst d_L_law_579 (v := 0) (by decide) ?_
  exact mm_zret d_L_law_580 rfl hn2 h1
theorem t_L_law_581 {l : Launch} {G : mm_G} {ns : Nat} {xs : Nat → Int32} {b : Nat} {m : mm_Mem} {Q : mm_O → mm_Mem → Prop} {r1 : Nat} {r2 : Nat} {r3 : Nat} {x4 : Int32} (h1 : mm_W l G (k_L_law ns xs) 1018 [(0, .ref 0), (1, .ref r1), (2, .ref r2), (3, .ref r3), (4, .int x4)] [] b m Q) : mm_W l G (k_L_law ns xs) 581 [(0, .ref 0), (1, .ref r1), (2, .ref r2), (3, .ref r3), (4, .int x4)] [] b m Q := by
  refine mm_goto (tgt := 1018) d_L_law_581 (by decide) ?_
  exact mm_sub [0, 1, 2, 3, 4] rfl h1
theorem t_L_law_584 {l : Launch} {G : mm_G} {ns : Nat} {xs : Nat → Int32} {b : Nat} {m : mm_Mem} {Q : mm_O → mm_Mem → Prop} {r1 : Nat} {r2 : Nat} {r3 : Nat} {x4 : Int32} {b_3 : Nat} {b_4 : Nat} {P_6 : mm_O → mm_Mem → Prop} (i1 : vp_in (x4 + 1) ns) (i2 : vp_in (x4 + 2) ns) (hb5 : b_3 + b_4 ≤ b) (M7 : mm_W l G k_L_move 0 (lv_args 0 [.ref r1, .int (xs (x4 + 1).toNatClampNeg), .int (xs (x4 + 2).toNatClampNeg)]) [] b_3 m P_6) (hx8 : ∀ (E : String) (n_2 : mm_Mem), ¬ P_6 (.inr E) n_2) (h9 : ∀ (v : Option Value) (n_2 : mm_Mem), P_6 (.inl v) n_2 → ∃ x9 : Int32, v = some (.int x9) ∧ mm_W l G (k_L_law ns xs) 600 [(0, .ref 0), (1, .ref r1), (2, .ref r2), (3, .ref r3), (4, .int x4)] [.int x9] b_4 n_2 Q) : mm_W l G (k_L_law ns xs) 584 [(0, .ref 0), (1, .ref r1), (2, .ref r2), (3, .ref r3), (4, .int x4)] [] b m Q := by
  refine mm_aload_n 1 (i := 1) d_L_law_584 rfl rfl ?_
  refine mm_aload_n 0 (i := 0) d_L_law_585 rfl rfl ?_
  refine mm_iload 4 (i := 4) d_L_law_586 rfl ?_
  refine mm_iconst d_L_law_588 (v := 1) (by decide) ?_
  refine mm_iadd d_L_law_589 ?_
  refine mm_sald (n := ns) (xs := xs) rfl d_L_law_590 i1 ?_
  refine mm_aload_n 0 (i := 0) d_L_law_591 rfl rfl ?_
  refine mm_iload 4 (i := 4) d_L_law_592 rfl ?_
  refine mm_iconst d_L_law_594 (v := 2) (by decide) ?_
  refine mm_iadd d_L_law_595 ?_
  refine mm_sald (n := ns) (xs := xs) rfl d_L_law_596 i2 ?_
  refine mm_callS (as := [.ref r1, .int (xs (x4 + 1).toNatClampNeg), .int (xs (x4 + 2).toNatClampNeg)]) (st := []) (b2 := b_4) ca_L_move w_535 w_536 d_L_law_597 rfl (Nat.le_of_ble_eq_true rfl) (Nat.le_of_ble_eq_true rfl) (Nat.le_of_ble_eq_true rfl) hb5 M7 (fun E m2 q => absurd q (hx8 E m2)) (fun v m2 q => ?_)
  obtain ⟨x9, rfl, z9⟩ := h9 v m2 q
  exact mm_sub [0, 1, 2, 3, 4] rfl z9
theorem t_L_law_600 {l : Launch} {G : mm_G} {ns : Nat} {xs : Nat → Int32} {b : Nat} {m : mm_Mem} {Q : mm_O → mm_Mem → Prop} {r1 : Nat} {r2 : Nat} {r3 : Nat} {x4 : Int32} {xs0 : Int32} {b_3 : Nat} {b_4 : Nat} {P_6 : mm_O → mm_Mem → Prop} {fs_7 : List Value} (i1 : vp_in (x4 + 1) ns) (i2 : vp_in (x4 + 2) ns) (hb5 : b_3 + b_4 ≤ b) (g8 : m r2 = .inr (8, fs_7)) (z9 : r2 ≠ 0) (M10 : mm_W l G k_M_move 0 (lv_args 0 [.ref r2, .int (xs (x4 + 1).toNatClampNeg), .int (xs (x4 + 2).toNatClampNeg)]) [] b_3 m P_6) (hx11 : ∀ (E : String) (n_2 : mm_Mem), ¬ P_6 (.inr E) n_2) (h12 : ∀ (v : Option Value) (n_2 : mm_Mem), P_6 (.inl v) n_2 → v = none ∧ mm_W l G (k_L_law ns xs) 618 [(0, .ref 0), (1, .ref r1), (2, .ref r2), (3, .ref r3), (4, .int x4), (5, .int xs0)] [] b_4 n_2 Q) : mm_W l G (k_L_law ns xs) 600 [(0, .ref 0), (1, .ref r1), (2, .ref r2), (3, .ref r3), (4, .int x4)] [.int xs0] b m Q := by
  refine mm_istore (i := 5) d_L_law_600 (Nat.le_of_ble_eq_true rfl) (lv2 := [(5, .int xs0), (0, .ref 0), (1, .ref r1), (2, .ref r2), (3, .ref r3), (4, .int x4)]) rfl ?_
  refine mm_aload_n 3 (i := 2) d_L_law_602 rfl rfl ?_
  refine mm_aload_n 1 (i := 0) d_L_law_603 rfl rfl ?_
  refine mm_iload 5 (i := 4) d_L_law_604 rfl ?_
  refine mm_iconst d_L_law_606 (v := 1) (by decide) ?_
  refine mm_iadd d_L_law_607 ?_
  refine mm_sald (n := ns) (xs := xs) rfl d_L_law_608 i1 ?_
  refine mm_aload_n 1 (i := 0) d_L_law_609 rfl rfl ?_
  refine mm_iload 5 (i := 4) d_L_law_610 rfl ?_
  refine mm_iconst d_L_law_612 (v := 2) (by decide) ?_
  refine mm_iadd d_L_law_613 ?_
  refine mm_sald (n := ns) (xs := xs) rfl d_L_law_614 i2 ?_
  refine mm_callV (as := [.int (xs (x4 + 1).toNatClampNeg), .int (xs (x4 + 2).toNatClampNeg)]) (st := []) (b2 := b_4) ca_M_move w_916 w_917 w_918 cc_M.1 rfl d_L_law_615 rfl (Nat.le_of_ble_eq_true rfl) (Nat.le_of_ble_eq_true rfl) (Nat.le_of_ble_eq_true rfl) hb5 g8 z9 M10 (fun E m2 q => absurd q (hx11 E m2)) (fun v m2 q => ?_)
  obtain ⟨rfl, z9⟩ := h12 v m2 q
  exact mm_sub [1, 2, 3, 4, 5, 0] rfl z9
theorem t_L_law_618 {l : Launch} {G : mm_G} {ns : Nat} {xs : Nat → Int32} {b : Nat} {m : mm_Mem} {Q : mm_O → mm_Mem → Prop} {r1 : Nat} {r2 : Nat} {r3 : Nat} {x4 : Int32} {x5 : Int32} {b_1 : Nat} {b_2 : Nat} {m_4 : mm_Mem} {x_5 : Int32} {fs_6 : List Value} (hb3 : b_1 + b_2 ≤ b) (g7 : m r2 = .inr (8, fs_6)) (z8 : r2 ≠ 0) (M9 : mm_W l G k_M_thrown 0 (lv_args 0 [.ref r2]) [] b_1 m (mm_is (.inl (some (.int x_5))) m_4)) (h10 : (x_5 = x5) → mm_W l G (k_L_law ns xs) 629 [(0, .ref 0), (1, .ref r1), (2, .ref r2), (3, .ref r3), (4, .int x4)] [] b_2 m_4 Q) (h11 : (¬ x_5 = x5) → mm_W l G (k_L_law ns xs) 627 [] [] b_2 m_4 Q) : mm_W l G (k_L_law ns xs) 618 [(0, .ref 0), (1, .ref r1), (2, .ref r2), (3, .ref r3), (4, .int x4), (5, .int x5)] [] b m Q := by
  refine mm_aload_n 2 (i := 2) d_L_law_618 rfl rfl ?_
  refine mm_callV (as := []) (st := []) (b2 := b_2) ca_M_thrown w_833 w_834 w_835 cc_M.1 rfl d_L_law_619 rfl (Nat.le_of_ble_eq_true rfl) (Nat.le_of_ble_eq_true rfl) (Nat.le_of_ble_eq_true rfl) hb3 g7 z8 M9 (fun E _ ⟨c, _⟩ => nomatch c) (fun v _ ⟨c, e⟩ => ?_)
  cases c
  rw [e]
  show mm_W l G (k_L_law ns xs) 622 [(0, .ref 0), (1, .ref r1), (2, .ref r2), (3, .ref r3), (4, .int x4), (5, .int x5)] [.int x_5] b_2 m_4 Q
  refine mm_iload 5 (i := 5) d_L_law_622 rfl ?_
  exact mm_icmp_eq (tgt := 629) d_L_law_624 (by decide) (fun c => mm_sub [0, 1, 2, 3, 4] rfl (h10 c)) (fun c => mm_sub [] rfl (h11 c))
theorem t_L_law_627 {l : Launch} {G : mm_G} {ns : Nat} {xs : Nat → Int32} {b : Nat} {m : mm_Mem} {Q : mm_O → mm_Mem → Prop}  (h1 : Q (.inl (some (.int 0))) m) (hn2 : narrow .boolean (.int 0) = .int 0) : mm_W l G (k_L_law ns xs) 627 [] [] b m Q := by
  refine mm_iconst d_L_law_627 (v := 0) (by decide) ?_
  exact mm_zret d_L_law_628 rfl hn2 h1
theorem t_L_law_629 {l : Launch} {G : mm_G} {ns : Nat} {xs : Nat → Int32} {b : Nat} {m : mm_Mem} {Q : mm_O → mm_Mem → Prop} {r1 : Nat} {r2 : Nat} {r3 : Nat} {x4 : Int32} (h1 : mm_W l G (k_L_law ns xs) 1018 [(0, .ref 0), (1, .ref r1), (2, .ref r2), (3, .ref r3), (4, .int x4)] [] b m Q) : mm_W l G (k_L_law ns xs) 629 [(0, .ref 0), (1, .ref r1), (2, .ref r2), (3, .ref r3), (4, .int x4)] [] b m Q := by
  refine mm_goto (tgt := 1018) d_L_law_629 (by decide) ?_
  exact mm_sub [0, 1, 2, 3, 4] rfl h1
theorem t_L_law_632 {l : Launch} {G : mm_G} {ns : Nat} {xs : Nat → Int32} {b : Nat} {m : mm_Mem} {Q : mm_O → mm_Mem → Prop} {r1 : Nat} {r2 : Nat} {r3 : Nat} {x4 : Int32} {b_1 : Nat} {b_2 : Nat} {P_4 : mm_O → mm_Mem → Prop} {fs_5 : List Value} (hb3 : b_1 + b_2 ≤ b) (g6 : m r1 = .inr (0, fs_5)) (z7 : r1 ≠ 0) (M8 : mm_W l G k_P_find 0 (lv_args 0 [.ref r1]) [] b_1 m P_4) (hx9 : ∀ (E : String) (n_2 : mm_Mem), ¬ P_4 (.inr E) n_2) (h10 : ∀ (v : Option Value) (n_2 : mm_Mem), P_4 (.inl v) n_2 → ∃ x9 : Int32, v = some (.int x9) ∧ mm_W l G (k_L_law ns xs) 636 [(0, .ref 0), (1, .ref r1), (2, .ref r2), (3, .ref r3), (4, .int x4)] [.int x9] b_2 n_2 Q) : mm_W l G (k_L_law ns xs) 632 [(0, .ref 0), (1, .ref r1), (2, .ref r2), (3, .ref r3), (4, .int x4)] [] b m Q := by
  refine mm_aload_n 1 (i := 1) d_L_law_632 rfl rfl ?_
  refine mm_callV (as := []) (st := []) (b2 := b_2) ca_P_find w_266 w_267 w_268 cc_P.1 rfl d_L_law_633 rfl (Nat.le_of_ble_eq_true rfl) (Nat.le_of_ble_eq_true rfl) (Nat.le_of_ble_eq_true rfl) hb3 g6 z7 M8 (fun E m2 q => absurd q (hx9 E m2)) (fun v m2 q => ?_)
  obtain ⟨x9, rfl, z9⟩ := h10 v m2 q
  exact mm_sub [0, 1, 2, 3, 4] rfl z9
theorem t_L_law_636 {l : Launch} {G : mm_G} {ns : Nat} {xs : Nat → Int32} {b : Nat} {m : mm_Mem} {Q : mm_O → mm_Mem → Prop} {r1 : Nat} {r2 : Nat} {r3 : Nat} {x4 : Int32} {xs0 : Int32} {b_1 : Nat} {b_2 : Nat} {P_4 : mm_O → mm_Mem → Prop} {fs_5 : List Value} (hb3 : b_1 + b_2 ≤ b) (g6 : m r2 = .inr (8, fs_5)) (z7 : r2 ≠ 0) (M8 : mm_W l G k_M_find 0 (lv_args 0 [.ref r2]) [] b_1 m P_4) (hx9 : ∀ (E : String) (n_2 : mm_Mem), ¬ P_4 (.inr E) n_2) (h10 : ∀ (v : Option Value) (n_2 : mm_Mem), P_4 (.inl v) n_2 → ∃ x9 : Int32, v = some (.int x9) ∧ mm_W l G (k_L_law ns xs) 640 [(0, .ref 0), (1, .ref r1), (2, .ref r2), (3, .ref r3), (4, .int x4)] [.int x9, .int xs0] b_2 n_2 Q) : mm_W l G (k_L_law ns xs) 636 [(0, .ref 0), (1, .ref r1), (2, .ref r2), (3, .ref r3), (4, .int x4)] [.int xs0] b m Q := by
  refine mm_aload_n 2 (i := 2) d_L_law_636 rfl rfl ?_
  refine mm_callV (as := []) (st := [.int xs0]) (b2 := b_2) ca_M_find w_924 w_925 w_926 cc_M.1 rfl d_L_law_637 rfl (Nat.le_of_ble_eq_true rfl) (Nat.le_of_ble_eq_true rfl) (Nat.le_of_ble_eq_true rfl) hb3 g6 z7 M8 (fun E m2 q => absurd q (hx9 E m2)) (fun v m2 q => ?_)
  obtain ⟨x9, rfl, z9⟩ := h10 v m2 q
  exact mm_sub [0, 1, 2, 3, 4] rfl z9
theorem t_L_law_640 {l : Launch} {G : mm_G} {ns : Nat} {xs : Nat → Int32} {b : Nat} {m : mm_Mem} {Q : mm_O → mm_Mem → Prop} {r1 : Nat} {r2 : Nat} {r3 : Nat} {x4 : Int32} {xs0 : Int32} {xs1 : Int32} (h1 : (xs1 = xs0) → mm_W l G (k_L_law ns xs) 1018 [(0, .ref 0), (1, .ref r1), (2, .ref r2), (3, .ref r3), (4, .int x4)] [] b m Q) (h2 : (¬ xs1 = xs0) → mm_W l G (k_L_law ns xs) 643 [] [] b m Q) : mm_W l G (k_L_law ns xs) 640 [(0, .ref 0), (1, .ref r1), (2, .ref r2), (3, .ref r3), (4, .int x4)] [.int xs0, .int xs1] b m Q := by
  exact mm_icmp_eq (tgt := 1018) d_L_law_640 (by decide) (fun c => mm_sub [0, 1, 2, 3, 4] rfl (h1 c)) (fun c => mm_sub [] rfl (h2 c))
theorem t_L_law_643 {l : Launch} {G : mm_G} {ns : Nat} {xs : Nat → Int32} {b : Nat} {m : mm_Mem} {Q : mm_O → mm_Mem → Prop}  (h1 : Q (.inl (some (.int 0))) m) (hn2 : narrow .boolean (.int 0) = .int 0) : mm_W l G (k_L_law ns xs) 643 [] [] b m Q := by
  refine mm_iconst d_L_law_643 (v := 0) (by decide) ?_
  exact mm_zret d_L_law_644 rfl hn2 h1
theorem t_L_law_645 {l : Launch} {G : mm_G} {ns : Nat} {xs : Nat → Int32} {b : Nat} {m : mm_Mem} {Q : mm_O → mm_Mem → Prop} {r1 : Nat} {r2 : Nat} {r3 : Nat} {x4 : Int32} {b_3 : Nat} {b_4 : Nat} {P_6 : mm_O → mm_Mem → Prop} (i1 : vp_in (x4 + 1) ns) (i2 : vp_in (x4 + 2) ns) (hb5 : b_3 + b_4 ≤ b) (M7 : mm_W l G k_L_about 0 (lv_args 0 [.ref r1, .int (xs (x4 + 1).toNatClampNeg), .int (xs (x4 + 2).toNatClampNeg), .ref r3]) [] b_3 m P_6) (hx8 : ∀ (E : String) (n_2 : mm_Mem), ¬ P_6 (.inr E) n_2) (h9 : ∀ (v : Option Value) (n_2 : mm_Mem), P_6 (.inl v) n_2 → ∃ x9 : Int32, v = some (.int x9) ∧ mm_W l G (k_L_law ns xs) 662 [(0, .ref 0), (1, .ref r1), (2, .ref r2), (3, .ref r3), (4, .int x4)] [.int x9] b_4 n_2 Q) : mm_W l G (k_L_law ns xs) 645 [(0, .ref 0), (1, .ref r1), (2, .ref r2), (3, .ref r3), (4, .int x4)] [] b m Q := by
  refine mm_aload_n 1 (i := 1) d_L_law_645 rfl rfl ?_
  refine mm_aload_n 0 (i := 0) d_L_law_646 rfl rfl ?_
  refine mm_iload 4 (i := 4) d_L_law_647 rfl ?_
  refine mm_iconst d_L_law_649 (v := 1) (by decide) ?_
  refine mm_iadd d_L_law_650 ?_
  refine mm_sald (n := ns) (xs := xs) rfl d_L_law_651 i1 ?_
  refine mm_aload_n 0 (i := 0) d_L_law_652 rfl rfl ?_
  refine mm_iload 4 (i := 4) d_L_law_653 rfl ?_
  refine mm_iconst d_L_law_655 (v := 2) (by decide) ?_
  refine mm_iadd d_L_law_656 ?_
  refine mm_sald (n := ns) (xs := xs) rfl d_L_law_657 i2 ?_
  refine mm_aload_n 3 (i := 3) d_L_law_658 rfl rfl ?_
  refine mm_callS (as := [.ref r1, .int (xs (x4 + 1).toNatClampNeg), .int (xs (x4 + 2).toNatClampNeg), .ref r3]) (st := []) (b2 := b_4) ca_L_about w_543 w_544 d_L_law_659 rfl (Nat.le_of_ble_eq_true rfl) (Nat.le_of_ble_eq_true rfl) (Nat.le_of_ble_eq_true rfl) hb5 M7 (fun E m2 q => absurd q (hx8 E m2)) (fun v m2 q => ?_)
  obtain ⟨x9, rfl, z9⟩ := h9 v m2 q
  exact mm_sub [0, 1, 2, 3, 4] rfl z9
theorem t_L_law_662 {l : Launch} {G : mm_G} {ns : Nat} {xs : Nat → Int32} {b : Nat} {m : mm_Mem} {Q : mm_O → mm_Mem → Prop} {r1 : Nat} {r2 : Nat} {r3 : Nat} {x4 : Int32} {xs0 : Int32} {b_3 : Nat} {b_4 : Nat} {P_6 : mm_O → mm_Mem → Prop} {fs_7 : List Value} (i1 : vp_in (x4 + 1) ns) (i2 : vp_in (x4 + 2) ns) (hb5 : b_3 + b_4 ≤ b) (g8 : m r2 = .inr (8, fs_7)) (z9 : r2 ≠ 0) (M10 : mm_W l G k_M_about 0 (lv_args 0 [.ref r2, .int (xs (x4 + 1).toNatClampNeg), .int (xs (x4 + 2).toNatClampNeg)]) [] b_3 m P_6) (hx11 : ∀ (E : String) (n_2 : mm_Mem), ¬ P_6 (.inr E) n_2) (h12 : ∀ (v : Option Value) (n_2 : mm_Mem), P_6 (.inl v) n_2 → ∃ x9 : Int32, v = some (.int x9) ∧ mm_W l G (k_L_law ns xs) 680 [(0, .ref 0), (1, .ref r1), (2, .ref r2), (3, .ref r3), (4, .int x4), (5, .int xs0)] [.int x9] b_4 n_2 Q) : mm_W l G (k_L_law ns xs) 662 [(0, .ref 0), (1, .ref r1), (2, .ref r2), (3, .ref r3), (4, .int x4)] [.int xs0] b m Q := by
  refine mm_istore (i := 5) d_L_law_662 (Nat.le_of_ble_eq_true rfl) (lv2 := [(5, .int xs0), (0, .ref 0), (1, .ref r1), (2, .ref r2), (3, .ref r3), (4, .int x4)]) rfl ?_
  refine mm_aload_n 3 (i := 2) d_L_law_664 rfl rfl ?_
  refine mm_aload_n 1 (i := 0) d_L_law_665 rfl rfl ?_
  refine mm_iload 5 (i := 4) d_L_law_666 rfl ?_
  refine mm_iconst d_L_law_668 (v := 1) (by decide) ?_
  refine mm_iadd d_L_law_669 ?_
  refine mm_sald (n := ns) (xs := xs) rfl d_L_law_670 i1 ?_
  refine mm_aload_n 1 (i := 0) d_L_law_671 rfl rfl ?_
  refine mm_iload 5 (i := 4) d_L_law_672 rfl ?_
  refine mm_iconst d_L_law_674 (v := 2) (by decide) ?_
  refine mm_iadd d_L_law_675 ?_
  refine mm_sald (n := ns) (xs := xs) rfl d_L_law_676 i2 ?_
  refine mm_callV (as := [.int (xs (x4 + 1).toNatClampNeg), .int (xs (x4 + 2).toNatClampNeg)]) (st := []) (b2 := b_4) ca_M_about w_928 w_929 w_930 cc_M.1 rfl d_L_law_677 rfl (Nat.le_of_ble_eq_true rfl) (Nat.le_of_ble_eq_true rfl) (Nat.le_of_ble_eq_true rfl) hb5 g8 z9 M10 (fun E m2 q => absurd q (hx11 E m2)) (fun v m2 q => ?_)
  obtain ⟨x9, rfl, z9⟩ := h12 v m2 q
  exact mm_sub [1, 2, 3, 4, 5, 0] rfl z9
theorem t_L_law_680 {l : Launch} {G : mm_G} {ns : Nat} {xs : Nat → Int32} {b : Nat} {m : mm_Mem} {Q : mm_O → mm_Mem → Prop} {r1 : Nat} {r2 : Nat} {r3 : Nat} {x4 : Int32} {x5 : Int32} {xs0 : Int32} {b_1 : Nat} {b_2 : Nat} {m_4 : mm_Mem} {x_5 : Int32} {fs_6 : List Value} (hb3 : b_1 + b_2 ≤ b) (g7 : m r2 = .inr (8, fs_6)) (z8 : r2 ≠ 0) (M9 : mm_W l G k_M_thrown 0 (lv_args 0 [.ref r2]) [] b_1 m (mm_is (.inl (some (.int x_5))) m_4)) (h10 : (x_5 = x5) → mm_W l G (k_L_law ns xs) 693 [(0, .ref 0), (1, .ref r1), (2, .ref r2), (3, .ref r3), (4, .int x4), (5, .int x5), (6, .int xs0)] [] b_2 m_4 Q) (h11 : (¬ x_5 = x5) → mm_W l G (k_L_law ns xs) 691 [] [] b_2 m_4 Q) : mm_W l G (k_L_law ns xs) 680 [(0, .ref 0), (1, .ref r1), (2, .ref r2), (3, .ref r3), (4, .int x4), (5, .int x5)] [.int xs0] b m Q := by
  refine mm_istore (i := 6) d_L_law_680 (Nat.le_of_ble_eq_true rfl) (lv2 := [(6, .int xs0), (0, .ref 0), (1, .ref r1), (2, .ref r2), (3, .ref r3), (4, .int x4), (5, .int x5)]) rfl ?_
  refine mm_aload_n 3 (i := 2) d_L_law_682 rfl rfl ?_
  refine mm_callV (as := []) (st := []) (b2 := b_2) ca_M_thrown w_833 w_834 w_835 cc_M.1 rfl d_L_law_683 rfl (Nat.le_of_ble_eq_true rfl) (Nat.le_of_ble_eq_true rfl) (Nat.le_of_ble_eq_true rfl) hb3 g7 z8 M9 (fun E _ ⟨c, _⟩ => nomatch c) (fun v _ ⟨c, e⟩ => ?_)
  cases c
  rw [e]
  show mm_W l G (k_L_law ns xs) 686 [(6, .int xs0), (0, .ref 0), (1, .ref r1), (2, .ref r2), (3, .ref r3), (4, .int x4), (5, .int x5)] [.int x_5] b_2 m_4 Q
  refine mm_iload 6 (i := 5) d_L_law_686 rfl ?_
  exact mm_icmp_eq (tgt := 693) d_L_law_688 (by decide) (fun c => mm_sub [1, 2, 3, 4, 5, 6, 0] rfl (h10 c)) (fun c => mm_sub [] rfl (h11 c))
theorem t_L_law_691 {l : Launch} {G : mm_G} {ns : Nat} {xs : Nat → Int32} {b : Nat} {m : mm_Mem} {Q : mm_O → mm_Mem → Prop}  (h1 : Q (.inl (some (.int 0))) m) (hn2 : narrow .boolean (.int 0) = .int 0) : mm_W l G (k_L_law ns xs) 691 [] [] b m Q := by
  refine mm_iconst d_L_law_691 (v := 0) (by decide) ?_
  exact mm_zret d_L_law_692 rfl hn2 h1
theorem t_L_law_693 {l : Launch} {G : mm_G} {ns : Nat} {xs : Nat → Int32} {b : Nat} {m : mm_Mem} {Q : mm_O → mm_Mem → Prop} {r1 : Nat} {r2 : Nat} {r3 : Nat} {x4 : Int32} {x5 : Int32} {x6 : Int32} (h1 : (¬ x5 = 0) → mm_W l G (k_L_law ns xs) 710 [(0, .ref 0), (1, .ref r1), (2, .ref r2), (3, .ref r3), (4, .int x4)] [] b m Q) (h2 : (x5 = 0) → mm_W l G (k_L_law ns xs) 698 [(0, .ref 0), (1, .ref r1), (2, .ref r2), (3, .ref r3), (4, .int x4), (6, .int x6)] [] b m Q) : mm_W l G (k_L_law ns xs) 693 [(0, .ref 0), (1, .ref r1), (2, .ref r2), (3, .ref r3), (4, .int x4), (5, .int x5), (6, .int x6)] [] b m Q := by
  refine mm_iload 5 (i := 5) d_L_law_693 rfl ?_
  exact mm_if_ne (tgt := 710) d_L_law_695 (by decide) (fun c => mm_sub [0, 1, 2, 3, 4] rfl (h1 c)) (fun c => mm_sub [0, 1, 2, 3, 4, 6] rfl (h2 c))
theorem t_L_law_698 {l : Launch} {G : mm_G} {ns : Nat} {xs : Nat → Int32} {b : Nat} {m : mm_Mem} {Q : mm_O → mm_Mem → Prop} {r1 : Nat} {r2 : Nat} {r3 : Nat} {x4 : Int32} {x6 : Int32} {n_1 : Nat} {f_2 : Nat → Int64} (a3 : m r3 = .inl (G.2 2, n_1, .inr (.inl f_2))) (z4 : r3 ≠ 0) (i5 : vp_in 0 n_1) (h6 : ((lg_cmp (f_2 (0 : Int32).toNatClampNeg) x6.toInt64) = 0) → mm_W l G (k_L_law ns xs) 710 [(0, .ref 0), (1, .ref r1), (2, .ref r2), (3, .ref r3), (4, .int x4)] [] b m Q) (h7 : (¬ (lg_cmp (f_2 (0 : Int32).toNatClampNeg) x6.toInt64) = 0) → mm_W l G (k_L_law ns xs) 708 [] [] b m Q) : mm_W l G (k_L_law ns xs) 698 [(0, .ref 0), (1, .ref r1), (2, .ref r2), (3, .ref r3), (4, .int x4), (6, .int x6)] [] b m Q := by
  refine mm_aload_n 3 (i := 3) d_L_law_698 rfl rfl ?_
  refine mm_iconst d_L_law_699 (v := 0) (by decide) ?_
  refine mm_lald d_L_law_700 a3 z4 i5 ?_
  refine mm_iload 5 (i := 6) d_L_law_701 rfl ?_
  refine mm_i2l d_L_law_703 ?_
  refine mm_lcmp d_L_law_704 ?_
  exact mm_if_eq (tgt := 710) d_L_law_705 (by decide) (fun c => mm_sub [0, 1, 2, 3, 4] rfl (h6 c)) (fun c => mm_sub [] rfl (h7 c))
theorem t_L_law_708 {l : Launch} {G : mm_G} {ns : Nat} {xs : Nat → Int32} {b : Nat} {m : mm_Mem} {Q : mm_O → mm_Mem → Prop}  (h1 : Q (.inl (some (.int 0))) m) (hn2 : narrow .boolean (.int 0) = .int 0) : mm_W l G (k_L_law ns xs) 708 [] [] b m Q := by
  refine mm_iconst d_L_law_708 (v := 0) (by decide) ?_
  exact mm_zret d_L_law_709 rfl hn2 h1
theorem t_L_law_710 {l : Launch} {G : mm_G} {ns : Nat} {xs : Nat → Int32} {b : Nat} {m : mm_Mem} {Q : mm_O → mm_Mem → Prop} {r1 : Nat} {r2 : Nat} {r3 : Nat} {x4 : Int32} (h1 : mm_W l G (k_L_law ns xs) 1018 [(0, .ref 0), (1, .ref r1), (2, .ref r2), (3, .ref r3), (4, .int x4)] [] b m Q) : mm_W l G (k_L_law ns xs) 710 [(0, .ref 0), (1, .ref r1), (2, .ref r2), (3, .ref r3), (4, .int x4)] [] b m Q := by
  refine mm_goto (tgt := 1018) d_L_law_710 (by decide) ?_
  exact mm_sub [0, 1, 2, 3, 4] rfl h1
theorem t_L_law_713 {l : Launch} {G : mm_G} {ns : Nat} {xs : Nat → Int32} {b : Nat} {m : mm_Mem} {Q : mm_O → mm_Mem → Prop} {r1 : Nat} {r2 : Nat} {r3 : Nat} {x4 : Int32} {b_3 : Nat} {b_4 : Nat} {P_6 : mm_O → mm_Mem → Prop} (i1 : vp_in (x4 + 1) ns) (i2 : vp_in (x4 + 2) ns) (hb5 : b_3 + b_4 ≤ b) (M7 : mm_W l G k_L_name 0 (lv_args 0 [.ref r1, .int (xs (x4 + 1).toNatClampNeg), .int (xs (x4 + 2).toNatClampNeg), .ref r3]) [] b_3 m P_6) (hx8 : ∀ (E : String) (n_2 : mm_Mem), ¬ P_6 (.inr E) n_2) (h9 : ∀ (v : Option Value) (n_2 : mm_Mem), P_6 (.inl v) n_2 → ∃ x9 : Int32, v = some (.int x9) ∧ mm_W l G (k_L_law ns xs) 730 [(0, .ref 0), (1, .ref r1), (2, .ref r2), (3, .ref r3), (4, .int x4)] [.int x9] b_4 n_2 Q) : mm_W l G (k_L_law ns xs) 713 [(0, .ref 0), (1, .ref r1), (2, .ref r2), (3, .ref r3), (4, .int x4)] [] b m Q := by
  refine mm_aload_n 1 (i := 1) d_L_law_713 rfl rfl ?_
  refine mm_aload_n 0 (i := 0) d_L_law_714 rfl rfl ?_
  refine mm_iload 4 (i := 4) d_L_law_715 rfl ?_
  refine mm_iconst d_L_law_717 (v := 1) (by decide) ?_
  refine mm_iadd d_L_law_718 ?_
  refine mm_sald (n := ns) (xs := xs) rfl d_L_law_719 i1 ?_
  refine mm_aload_n 0 (i := 0) d_L_law_720 rfl rfl ?_
  refine mm_iload 4 (i := 4) d_L_law_721 rfl ?_
  refine mm_iconst d_L_law_723 (v := 2) (by decide) ?_
  refine mm_iadd d_L_law_724 ?_
  refine mm_sald (n := ns) (xs := xs) rfl d_L_law_725 i2 ?_
  refine mm_aload_n 3 (i := 3) d_L_law_726 rfl rfl ?_
  refine mm_callS (as := [.ref r1, .int (xs (x4 + 1).toNatClampNeg), .int (xs (x4 + 2).toNatClampNeg), .ref r3]) (st := []) (b2 := b_4) ca_L_name w_555 w_556 d_L_law_727 rfl (Nat.le_of_ble_eq_true rfl) (Nat.le_of_ble_eq_true rfl) (Nat.le_of_ble_eq_true rfl) hb5 M7 (fun E m2 q => absurd q (hx8 E m2)) (fun v m2 q => ?_)
  obtain ⟨x9, rfl, z9⟩ := h9 v m2 q
  exact mm_sub [0, 1, 2, 3, 4] rfl z9
theorem t_L_law_730 {l : Launch} {G : mm_G} {ns : Nat} {xs : Nat → Int32} {b : Nat} {m : mm_Mem} {Q : mm_O → mm_Mem → Prop} {r1 : Nat} {r2 : Nat} {r3 : Nat} {x4 : Int32} {xs0 : Int32} {b_3 : Nat} {b_4 : Nat} {P_6 : mm_O → mm_Mem → Prop} {fs_7 : List Value} (i1 : vp_in (x4 + 1) ns) (i2 : vp_in (x4 + 2) ns) (hb5 : b_3 + b_4 ≤ b) (g8 : m r2 = .inr (8, fs_7)) (z9 : r2 ≠ 0) (M10 : mm_W l G k_M_name 0 (lv_args 0 [.ref r2, .int (xs (x4 + 1).toNatClampNeg), .int (xs (x4 + 2).toNatClampNeg)]) [] b_3 m P_6) (hx11 : ∀ (E : String) (n_2 : mm_Mem), ¬ P_6 (.inr E) n_2) (h12 : ∀ (v : Option Value) (n_2 : mm_Mem), P_6 (.inl v) n_2 → ∃ x9 : Int32, v = some (.int x9) ∧ mm_W l G (k_L_law ns xs) 748 [(0, .ref 0), (1, .ref r1), (2, .ref r2), (3, .ref r3), (4, .int x4), (5, .int xs0)] [.int x9] b_4 n_2 Q) : mm_W l G (k_L_law ns xs) 730 [(0, .ref 0), (1, .ref r1), (2, .ref r2), (3, .ref r3), (4, .int x4)] [.int xs0] b m Q := by
  refine mm_istore (i := 5) d_L_law_730 (Nat.le_of_ble_eq_true rfl) (lv2 := [(5, .int xs0), (0, .ref 0), (1, .ref r1), (2, .ref r2), (3, .ref r3), (4, .int x4)]) rfl ?_
  refine mm_aload_n 3 (i := 2) d_L_law_732 rfl rfl ?_
  refine mm_aload_n 1 (i := 0) d_L_law_733 rfl rfl ?_
  refine mm_iload 5 (i := 4) d_L_law_734 rfl ?_
  refine mm_iconst d_L_law_736 (v := 1) (by decide) ?_
  refine mm_iadd d_L_law_737 ?_
  refine mm_sald (n := ns) (xs := xs) rfl d_L_law_738 i1 ?_
  refine mm_aload_n 1 (i := 0) d_L_law_739 rfl rfl ?_
  refine mm_iload 5 (i := 4) d_L_law_740 rfl ?_
  refine mm_iconst d_L_law_742 (v := 2) (by decide) ?_
  refine mm_iadd d_L_law_743 ?_
  refine mm_sald (n := ns) (xs := xs) rfl d_L_law_744 i2 ?_
  refine mm_callV (as := [.int (xs (x4 + 1).toNatClampNeg), .int (xs (x4 + 2).toNatClampNeg)]) (st := []) (b2 := b_4) ca_M_name w_932 w_933 w_934 cc_M.1 rfl d_L_law_745 rfl (Nat.le_of_ble_eq_true rfl) (Nat.le_of_ble_eq_true rfl) (Nat.le_of_ble_eq_true rfl) hb5 g8 z9 M10 (fun E m2 q => absurd q (hx11 E m2)) (fun v m2 q => ?_)
  obtain ⟨x9, rfl, z9⟩ := h12 v m2 q
  exact mm_sub [1, 2, 3, 4, 5, 0] rfl z9
theorem t_L_law_748 {l : Launch} {G : mm_G} {ns : Nat} {xs : Nat → Int32} {b : Nat} {m : mm_Mem} {Q : mm_O → mm_Mem → Prop} {r1 : Nat} {r2 : Nat} {r3 : Nat} {x4 : Int32} {x5 : Int32} {xs0 : Int32} {b_1 : Nat} {b_2 : Nat} {m_4 : mm_Mem} {x_5 : Int32} {fs_6 : List Value} (hb3 : b_1 + b_2 ≤ b) (g7 : m r2 = .inr (8, fs_6)) (z8 : r2 ≠ 0) (M9 : mm_W l G k_M_thrown 0 (lv_args 0 [.ref r2]) [] b_1 m (mm_is (.inl (some (.int x_5))) m_4)) (h10 : (x_5 = x5) → mm_W l G (k_L_law ns xs) 761 [(0, .ref 0), (1, .ref r1), (2, .ref r2), (3, .ref r3), (4, .int x4), (5, .int x5), (6, .int xs0)] [] b_2 m_4 Q) (h11 : (¬ x_5 = x5) → mm_W l G (k_L_law ns xs) 759 [] [] b_2 m_4 Q) : mm_W l G (k_L_law ns xs) 748 [(0, .ref 0), (1, .ref r1), (2, .ref r2), (3, .ref r3), (4, .int x4), (5, .int x5)] [.int xs0] b m Q := by
  refine mm_istore (i := 6) d_L_law_748 (Nat.le_of_ble_eq_true rfl) (lv2 := [(6, .int xs0), (0, .ref 0), (1, .ref r1), (2, .ref r2), (3, .ref r3), (4, .int x4), (5, .int x5)]) rfl ?_
  refine mm_aload_n 3 (i := 2) d_L_law_750 rfl rfl ?_
  refine mm_callV (as := []) (st := []) (b2 := b_2) ca_M_thrown w_833 w_834 w_835 cc_M.1 rfl d_L_law_751 rfl (Nat.le_of_ble_eq_true rfl) (Nat.le_of_ble_eq_true rfl) (Nat.le_of_ble_eq_true rfl) hb3 g7 z8 M9 (fun E _ ⟨c, _⟩ => nomatch c) (fun v _ ⟨c, e⟩ => ?_)
  cases c
  rw [e]
  show mm_W l G (k_L_law ns xs) 754 [(6, .int xs0), (0, .ref 0), (1, .ref r1), (2, .ref r2), (3, .ref r3), (4, .int x4), (5, .int x5)] [.int x_5] b_2 m_4 Q
  refine mm_iload 6 (i := 5) d_L_law_754 rfl ?_
  exact mm_icmp_eq (tgt := 761) d_L_law_756 (by decide) (fun c => mm_sub [1, 2, 3, 4, 5, 6, 0] rfl (h10 c)) (fun c => mm_sub [] rfl (h11 c))
theorem t_L_law_759 {l : Launch} {G : mm_G} {ns : Nat} {xs : Nat → Int32} {b : Nat} {m : mm_Mem} {Q : mm_O → mm_Mem → Prop}  (h1 : Q (.inl (some (.int 0))) m) (hn2 : narrow .boolean (.int 0) = .int 0) : mm_W l G (k_L_law ns xs) 759 [] [] b m Q := by
  refine mm_iconst d_L_law_759 (v := 0) (by decide) ?_
  exact mm_zret d_L_law_760 rfl hn2 h1
theorem t_L_law_761 {l : Launch} {G : mm_G} {ns : Nat} {xs : Nat → Int32} {b : Nat} {m : mm_Mem} {Q : mm_O → mm_Mem → Prop} {r1 : Nat} {r2 : Nat} {r3 : Nat} {x4 : Int32} {x5 : Int32} {x6 : Int32} (h1 : (¬ x5 = 0) → mm_W l G (k_L_law ns xs) 778 [(0, .ref 0), (1, .ref r1), (2, .ref r2), (3, .ref r3), (4, .int x4)] [] b m Q) (h2 : (x5 = 0) → mm_W l G (k_L_law ns xs) 766 [(0, .ref 0), (1, .ref r1), (2, .ref r2), (3, .ref r3), (4, .int x4), (6, .int x6)] [] b m Q) : mm_W l G (k_L_law ns xs) 761 [(0, .ref 0), (1, .ref r1), (2, .ref r2), (3, .ref r3), (4, .int x4), (5, .int x5), (6, .int x6)] [] b m Q := by
  refine mm_iload 5 (i := 5) d_L_law_761 rfl ?_
  exact mm_if_ne (tgt := 778) d_L_law_763 (by decide) (fun c => mm_sub [0, 1, 2, 3, 4] rfl (h1 c)) (fun c => mm_sub [0, 1, 2, 3, 4, 6] rfl (h2 c))
theorem t_L_law_766 {l : Launch} {G : mm_G} {ns : Nat} {xs : Nat → Int32} {b : Nat} {m : mm_Mem} {Q : mm_O → mm_Mem → Prop} {r1 : Nat} {r2 : Nat} {r3 : Nat} {x4 : Int32} {x6 : Int32} {n_1 : Nat} {f_2 : Nat → Int64} (a3 : m r3 = .inl (G.2 2, n_1, .inr (.inl f_2))) (z4 : r3 ≠ 0) (i5 : vp_in 0 n_1) (h6 : ((lg_cmp (f_2 (0 : Int32).toNatClampNeg) x6.toInt64) = 0) → mm_W l G (k_L_law ns xs) 778 [(0, .ref 0), (1, .ref r1), (2, .ref r2), (3, .ref r3), (4, .int x4)] [] b m Q) (h7 : (¬ (lg_cmp (f_2 (0 : Int32).toNatClampNeg) x6.toInt64) = 0) → mm_W l G (k_L_law ns xs) 776 [] [] b m Q) : mm_W l G (k_L_law ns xs) 766 [(0, .ref 0), (1, .ref r1), (2, .ref r2), (3, .ref r3), (4, .int x4), (6, .int x6)] [] b m Q := by
  refine mm_aload_n 3 (i := 3) d_L_law_766 rfl rfl ?_
  refine mm_iconst d_L_law_767 (v := 0) (by decide) ?_
  refine mm_lald d_L_law_768 a3 z4 i5 ?_
  refine mm_iload 5 (i := 6) d_L_law_769 rfl ?_
  refine mm_i2l d_L_law_771 ?_
  refine mm_lcmp d_L_law_772 ?_
  exact mm_if_eq (tgt := 778) d_L_law_773 (by decide) (fun c => mm_sub [0, 1, 2, 3, 4] rfl (h6 c)) (fun c => mm_sub [] rfl (h7 c))
theorem t_L_law_776 {l : Launch} {G : mm_G} {ns : Nat} {xs : Nat → Int32} {b : Nat} {m : mm_Mem} {Q : mm_O → mm_Mem → Prop}  (h1 : Q (.inl (some (.int 0))) m) (hn2 : narrow .boolean (.int 0) = .int 0) : mm_W l G (k_L_law ns xs) 776 [] [] b m Q := by
  refine mm_iconst d_L_law_776 (v := 0) (by decide) ?_
  exact mm_zret d_L_law_777 rfl hn2 h1
theorem t_L_law_778 {l : Launch} {G : mm_G} {ns : Nat} {xs : Nat → Int32} {b : Nat} {m : mm_Mem} {Q : mm_O → mm_Mem → Prop} {r1 : Nat} {r2 : Nat} {r3 : Nat} {x4 : Int32} (h1 : mm_W l G (k_L_law ns xs) 1018 [(0, .ref 0), (1, .ref r1), (2, .ref r2), (3, .ref r3), (4, .int x4)] [] b m Q) : mm_W l G (k_L_law ns xs) 778 [(0, .ref 0), (1, .ref r1), (2, .ref r2), (3, .ref r3), (4, .int x4)] [] b m Q := by
  refine mm_goto (tgt := 1018) d_L_law_778 (by decide) ?_
  exact mm_sub [0, 1, 2, 3, 4] rfl h1
theorem t_L_law_781 {l : Launch} {G : mm_G} {ns : Nat} {xs : Nat → Int32} {b : Nat} {m : mm_Mem} {Q : mm_O → mm_Mem → Prop} {r1 : Nat} {r2 : Nat} {r3 : Nat} {x4 : Int32} {b_3 : Nat} {b_4 : Nat} {P_6 : mm_O → mm_Mem → Prop} (i1 : vp_in (x4 + 1) ns) (i2 : vp_in (x4 + 2) ns) (hb5 : b_3 + b_4 ≤ b) (M7 : mm_W l G k_L_part 0 (lv_args 0 [.ref r1, .int (xs (x4 + 1).toNatClampNeg), .int (xs (x4 + 2).toNatClampNeg), .ref r3]) [] b_3 m P_6) (hx8 : ∀ (E : String) (n_2 : mm_Mem), ¬ P_6 (.inr E) n_2) (h9 : ∀ (v : Option Value) (n_2 : mm_Mem), P_6 (.inl v) n_2 → ∃ x9 : Int32, v = some (.int x9) ∧ mm_W l G (k_L_law ns xs) 798 [(0, .ref 0), (1, .ref r1), (2, .ref r2), (3, .ref r3), (4, .int x4)] [.int x9] b_4 n_2 Q) : mm_W l G (k_L_law ns xs) 781 [(0, .ref 0), (1, .ref r1), (2, .ref r2), (3, .ref r3), (4, .int x4)] [] b m Q := by
  refine mm_aload_n 1 (i := 1) d_L_law_781 rfl rfl ?_
  refine mm_aload_n 0 (i := 0) d_L_law_782 rfl rfl ?_
  refine mm_iload 4 (i := 4) d_L_law_783 rfl ?_
  refine mm_iconst d_L_law_785 (v := 1) (by decide) ?_
  refine mm_iadd d_L_law_786 ?_
  refine mm_sald (n := ns) (xs := xs) rfl d_L_law_787 i1 ?_
  refine mm_aload_n 0 (i := 0) d_L_law_788 rfl rfl ?_
  refine mm_iload 4 (i := 4) d_L_law_789 rfl ?_
  refine mm_iconst d_L_law_791 (v := 2) (by decide) ?_
  refine mm_iadd d_L_law_792 ?_
  refine mm_sald (n := ns) (xs := xs) rfl d_L_law_793 i2 ?_
  refine mm_aload_n 3 (i := 3) d_L_law_794 rfl rfl ?_
  refine mm_callS (as := [.ref r1, .int (xs (x4 + 1).toNatClampNeg), .int (xs (x4 + 2).toNatClampNeg), .ref r3]) (st := []) (b2 := b_4) ca_L_part w_562 w_563 d_L_law_795 rfl (Nat.le_of_ble_eq_true rfl) (Nat.le_of_ble_eq_true rfl) (Nat.le_of_ble_eq_true rfl) hb5 M7 (fun E m2 q => absurd q (hx8 E m2)) (fun v m2 q => ?_)
  obtain ⟨x9, rfl, z9⟩ := h9 v m2 q
  exact mm_sub [0, 1, 2, 3, 4] rfl z9
theorem t_L_law_798 {l : Launch} {G : mm_G} {ns : Nat} {xs : Nat → Int32} {b : Nat} {m : mm_Mem} {Q : mm_O → mm_Mem → Prop} {r1 : Nat} {r2 : Nat} {r3 : Nat} {x4 : Int32} {xs0 : Int32} {b_3 : Nat} {b_4 : Nat} {P_6 : mm_O → mm_Mem → Prop} {fs_7 : List Value} (i1 : vp_in (x4 + 1) ns) (i2 : vp_in (x4 + 2) ns) (hb5 : b_3 + b_4 ≤ b) (g8 : m r2 = .inr (8, fs_7)) (z9 : r2 ≠ 0) (M10 : mm_W l G k_M_part 0 (lv_args 0 [.ref r2, .int (xs (x4 + 1).toNatClampNeg), .int (xs (x4 + 2).toNatClampNeg)]) [] b_3 m P_6) (hx11 : ∀ (E : String) (n_2 : mm_Mem), ¬ P_6 (.inr E) n_2) (h12 : ∀ (v : Option Value) (n_2 : mm_Mem), P_6 (.inl v) n_2 → ∃ x9 : Int32, v = some (.int x9) ∧ mm_W l G (k_L_law ns xs) 816 [(0, .ref 0), (1, .ref r1), (2, .ref r2), (3, .ref r3), (4, .int x4), (5, .int xs0)] [.int x9] b_4 n_2 Q) : mm_W l G (k_L_law ns xs) 798 [(0, .ref 0), (1, .ref r1), (2, .ref r2), (3, .ref r3), (4, .int x4)] [.int xs0] b m Q := by
  refine mm_istore (i := 5) d_L_law_798 (Nat.le_of_ble_eq_true rfl) (lv2 := [(5, .int xs0), (0, .ref 0), (1, .ref r1), (2, .ref r2), (3, .ref r3), (4, .int x4)]) rfl ?_
  refine mm_aload_n 3 (i := 2) d_L_law_800 rfl rfl ?_
  refine mm_aload_n 1 (i := 0) d_L_law_801 rfl rfl ?_
  refine mm_iload 5 (i := 4) d_L_law_802 rfl ?_
  refine mm_iconst d_L_law_804 (v := 1) (by decide) ?_
  refine mm_iadd d_L_law_805 ?_
  refine mm_sald (n := ns) (xs := xs) rfl d_L_law_806 i1 ?_
  refine mm_aload_n 1 (i := 0) d_L_law_807 rfl rfl ?_
  refine mm_iload 5 (i := 4) d_L_law_808 rfl ?_
  refine mm_iconst d_L_law_810 (v := 2) (by decide) ?_
  refine mm_iadd d_L_law_811 ?_
  refine mm_sald (n := ns) (xs := xs) rfl d_L_law_812 i2 ?_
  refine mm_callV (as := [.int (xs (x4 + 1).toNatClampNeg), .int (xs (x4 + 2).toNatClampNeg)]) (st := []) (b2 := b_4) ca_M_part w_936 w_937 w_938 cc_M.1 rfl d_L_law_813 rfl (Nat.le_of_ble_eq_true rfl) (Nat.le_of_ble_eq_true rfl) (Nat.le_of_ble_eq_true rfl) hb5 g8 z9 M10 (fun E m2 q => absurd q (hx11 E m2)) (fun v m2 q => ?_)
  obtain ⟨x9, rfl, z9⟩ := h12 v m2 q
  exact mm_sub [1, 2, 3, 4, 5, 0] rfl z9
theorem t_L_law_816 {l : Launch} {G : mm_G} {ns : Nat} {xs : Nat → Int32} {b : Nat} {m : mm_Mem} {Q : mm_O → mm_Mem → Prop} {r1 : Nat} {r2 : Nat} {r3 : Nat} {x4 : Int32} {x5 : Int32} {xs0 : Int32} {b_1 : Nat} {b_2 : Nat} {m_4 : mm_Mem} {x_5 : Int32} {fs_6 : List Value} (hb3 : b_1 + b_2 ≤ b) (g7 : m r2 = .inr (8, fs_6)) (z8 : r2 ≠ 0) (M9 : mm_W l G k_M_thrown 0 (lv_args 0 [.ref r2]) [] b_1 m (mm_is (.inl (some (.int x_5))) m_4)) (h10 : (x_5 = x5) → mm_W l G (k_L_law ns xs) 829 [(0, .ref 0), (1, .ref r1), (2, .ref r2), (3, .ref r3), (4, .int x4), (5, .int x5), (6, .int xs0)] [] b_2 m_4 Q) (h11 : (¬ x_5 = x5) → mm_W l G (k_L_law ns xs) 827 [] [] b_2 m_4 Q) : mm_W l G (k_L_law ns xs) 816 [(0, .ref 0), (1, .ref r1), (2, .ref r2), (3, .ref r3), (4, .int x4), (5, .int x5)] [.int xs0] b m Q := by
  refine mm_istore (i := 6) d_L_law_816 (Nat.le_of_ble_eq_true rfl) (lv2 := [(6, .int xs0), (0, .ref 0), (1, .ref r1), (2, .ref r2), (3, .ref r3), (4, .int x4), (5, .int x5)]) rfl ?_
  refine mm_aload_n 3 (i := 2) d_L_law_818 rfl rfl ?_
  refine mm_callV (as := []) (st := []) (b2 := b_2) ca_M_thrown w_833 w_834 w_835 cc_M.1 rfl d_L_law_819 rfl (Nat.le_of_ble_eq_true rfl) (Nat.le_of_ble_eq_true rfl) (Nat.le_of_ble_eq_true rfl) hb3 g7 z8 M9 (fun E _ ⟨c, _⟩ => nomatch c) (fun v _ ⟨c, e⟩ => ?_)
  cases c
  rw [e]
  show mm_W l G (k_L_law ns xs) 822 [(6, .int xs0), (0, .ref 0), (1, .ref r1), (2, .ref r2), (3, .ref r3), (4, .int x4), (5, .int x5)] [.int x_5] b_2 m_4 Q
  refine mm_iload 6 (i := 5) d_L_law_822 rfl ?_
  exact mm_icmp_eq (tgt := 829) d_L_law_824 (by decide) (fun c => mm_sub [1, 2, 3, 4, 5, 6, 0] rfl (h10 c)) (fun c => mm_sub [] rfl (h11 c))
theorem t_L_law_827 {l : Launch} {G : mm_G} {ns : Nat} {xs : Nat → Int32} {b : Nat} {m : mm_Mem} {Q : mm_O → mm_Mem → Prop}  (h1 : Q (.inl (some (.int 0))) m) (hn2 : narrow .boolean (.int 0) = .int 0) : mm_W l G (k_L_law ns xs) 827 [] [] b m Q := by
  refine mm_iconst d_L_law_827 (v := 0) (by decide) ?_
  exact mm_zret d_L_law_828 rfl hn2 h1
theorem t_L_law_829 {l : Launch} {G : mm_G} {ns : Nat} {xs : Nat → Int32} {b : Nat} {m : mm_Mem} {Q : mm_O → mm_Mem → Prop} {r1 : Nat} {r2 : Nat} {r3 : Nat} {x4 : Int32} {x5 : Int32} {x6 : Int32} (h1 : (¬ x5 = 0) → mm_W l G (k_L_law ns xs) 846 [(0, .ref 0), (1, .ref r1), (2, .ref r2), (3, .ref r3), (4, .int x4)] [] b m Q) (h2 : (x5 = 0) → mm_W l G (k_L_law ns xs) 834 [(0, .ref 0), (1, .ref r1), (2, .ref r2), (3, .ref r3), (4, .int x4), (6, .int x6)] [] b m Q) : mm_W l G (k_L_law ns xs) 829 [(0, .ref 0), (1, .ref r1), (2, .ref r2), (3, .ref r3), (4, .int x4), (5, .int x5), (6, .int x6)] [] b m Q := by
  refine mm_iload 5 (i := 5) d_L_law_829 rfl ?_
  exact mm_if_ne (tgt := 846) d_L_law_831 (by decide) (fun c => mm_sub [0, 1, 2, 3, 4] rfl (h1 c)) (fun c => mm_sub [0, 1, 2, 3, 4, 6] rfl (h2 c))
theorem t_L_law_834 {l : Launch} {G : mm_G} {ns : Nat} {xs : Nat → Int32} {b : Nat} {m : mm_Mem} {Q : mm_O → mm_Mem → Prop} {r1 : Nat} {r2 : Nat} {r3 : Nat} {x4 : Int32} {x6 : Int32} {n_1 : Nat} {f_2 : Nat → Int64} (a3 : m r3 = .inl (G.2 2, n_1, .inr (.inl f_2))) (z4 : r3 ≠ 0) (i5 : vp_in 0 n_1) (h6 : ((lg_cmp (f_2 (0 : Int32).toNatClampNeg) x6.toInt64) = 0) → mm_W l G (k_L_law ns xs) 846 [(0, .ref 0), (1, .ref r1), (2, .ref r2), (3, .ref r3), (4, .int x4)] [] b m Q) (h7 : (¬ (lg_cmp (f_2 (0 : Int32).toNatClampNeg) x6.toInt64) = 0) → mm_W l G (k_L_law ns xs) 844 [] [] b m Q) : mm_W l G (k_L_law ns xs) 834 [(0, .ref 0), (1, .ref r1), (2, .ref r2), (3, .ref r3), (4, .int x4), (6, .int x6)] [] b m Q := by
  refine mm_aload_n 3 (i := 3) d_L_law_834 rfl rfl ?_
  refine mm_iconst d_L_law_835 (v := 0) (by decide) ?_
  refine mm_lald d_L_law_836 a3 z4 i5 ?_
  refine mm_iload 5 (i := 6) d_L_law_837 rfl ?_
  refine mm_i2l d_L_law_839 ?_
  refine mm_lcmp d_L_law_840 ?_
  exact mm_if_eq (tgt := 846) d_L_law_841 (by decide) (fun c => mm_sub [0, 1, 2, 3, 4] rfl (h6 c)) (fun c => mm_sub [] rfl (h7 c))
theorem t_L_law_844 {l : Launch} {G : mm_G} {ns : Nat} {xs : Nat → Int32} {b : Nat} {m : mm_Mem} {Q : mm_O → mm_Mem → Prop}  (h1 : Q (.inl (some (.int 0))) m) (hn2 : narrow .boolean (.int 0) = .int 0) : mm_W l G (k_L_law ns xs) 844 [] [] b m Q := by
  refine mm_iconst d_L_law_844 (v := 0) (by decide) ?_
  exact mm_zret d_L_law_845 rfl hn2 h1
theorem t_L_law_846 {l : Launch} {G : mm_G} {ns : Nat} {xs : Nat → Int32} {b : Nat} {m : mm_Mem} {Q : mm_O → mm_Mem → Prop} {r1 : Nat} {r2 : Nat} {r3 : Nat} {x4 : Int32} (h1 : mm_W l G (k_L_law ns xs) 1018 [(0, .ref 0), (1, .ref r1), (2, .ref r2), (3, .ref r3), (4, .int x4)] [] b m Q) : mm_W l G (k_L_law ns xs) 846 [(0, .ref 0), (1, .ref r1), (2, .ref r2), (3, .ref r3), (4, .int x4)] [] b m Q := by
  refine mm_goto (tgt := 1018) d_L_law_846 (by decide) ?_
  exact mm_sub [0, 1, 2, 3, 4] rfl h1
theorem t_L_law_849 {l : Launch} {G : mm_G} {ns : Nat} {xs : Nat → Int32} {b : Nat} {m : mm_Mem} {Q : mm_O → mm_Mem → Prop} {r1 : Nat} {r2 : Nat} {r3 : Nat} {x4 : Int32} {b_1 : Nat} {b_2 : Nat} {P_4 : mm_O → mm_Mem → Prop} (hb3 : b_1 + b_2 ≤ b) (M5 : mm_W l G k_L_write 0 (lv_args 0 [.ref r1, .ref r3]) [] b_1 m P_4) (hx6 : ∀ (E : String) (n_2 : mm_Mem), ¬ P_4 (.inr E) n_2) (h7 : ∀ (v : Option Value) (n_2 : mm_Mem), P_4 (.inl v) n_2 → ∃ x9 : Int32, v = some (.int x9) ∧ mm_W l G (k_L_law ns xs) 854 [(0, .ref 0), (1, .ref r1), (2, .ref r2), (3, .ref r3), (4, .int x4)] [.int x9] b_2 n_2 Q) : mm_W l G (k_L_law ns xs) 849 [(0, .ref 0), (1, .ref r1), (2, .ref r2), (3, .ref r3), (4, .int x4)] [] b m Q := by
  refine mm_aload_n 1 (i := 1) d_L_law_849 rfl rfl ?_
  refine mm_aload_n 3 (i := 3) d_L_law_850 rfl rfl ?_
  refine mm_callS (as := [.ref r1, .ref r3]) (st := []) (b2 := b_2) ca_L_write w_570 w_571 d_L_law_851 rfl (Nat.le_of_ble_eq_true rfl) (Nat.le_of_ble_eq_true rfl) (Nat.le_of_ble_eq_true rfl) hb3 M5 (fun E m2 q => absurd q (hx6 E m2)) (fun v m2 q => ?_)
  obtain ⟨x9, rfl, z9⟩ := h7 v m2 q
  exact mm_sub [0, 1, 2, 3, 4] rfl z9
theorem t_L_law_854 {l : Launch} {G : mm_G} {ns : Nat} {xs : Nat → Int32} {b : Nat} {m : mm_Mem} {Q : mm_O → mm_Mem → Prop} {r1 : Nat} {r2 : Nat} {r3 : Nat} {x4 : Int32} {xs0 : Int32} {b_1 : Nat} {b_2 : Nat} {P_4 : mm_O → mm_Mem → Prop} {fs_5 : List Value} (hb3 : b_1 + b_2 ≤ b) (g6 : m r2 = .inr (8, fs_5)) (z7 : r2 ≠ 0) (M8 : mm_W l G k_M_write 0 (lv_args 0 [.ref r2]) [] b_1 m P_4) (hx9 : ∀ (E : String) (n_2 : mm_Mem), ¬ P_4 (.inr E) n_2) (h10 : ∀ (v : Option Value) (n_2 : mm_Mem), P_4 (.inl v) n_2 → ∃ x9 : Int32, v = some (.int x9) ∧ mm_W l G (k_L_law ns xs) 860 [(0, .ref 0), (1, .ref r1), (2, .ref r2), (3, .ref r3), (4, .int x4), (5, .int xs0)] [.int x9] b_2 n_2 Q) : mm_W l G (k_L_law ns xs) 854 [(0, .ref 0), (1, .ref r1), (2, .ref r2), (3, .ref r3), (4, .int x4)] [.int xs0] b m Q := by
  refine mm_istore (i := 5) d_L_law_854 (Nat.le_of_ble_eq_true rfl) (lv2 := [(5, .int xs0), (0, .ref 0), (1, .ref r1), (2, .ref r2), (3, .ref r3), (4, .int x4)]) rfl ?_
  refine mm_aload_n 3 (i := 2) d_L_law_856 rfl rfl ?_
  refine mm_callV (as := []) (st := []) (b2 := b_2) ca_M_write w_944 w_945 w_946 cc_M.1 rfl d_L_law_857 rfl (Nat.le_of_ble_eq_true rfl) (Nat.le_of_ble_eq_true rfl) (Nat.le_of_ble_eq_true rfl) hb3 g6 z7 M8 (fun E m2 q => absurd q (hx9 E m2)) (fun v m2 q => ?_)
  obtain ⟨x9, rfl, z9⟩ := h10 v m2 q
  exact mm_sub [1, 2, 3, 4, 5, 0] rfl z9
theorem t_L_law_860 {l : Launch} {G : mm_G} {ns : Nat} {xs : Nat → Int32} {b : Nat} {m : mm_Mem} {Q : mm_O → mm_Mem → Prop} {r1 : Nat} {r2 : Nat} {r3 : Nat} {x4 : Int32} {x5 : Int32} {xs0 : Int32} {b_1 : Nat} {b_2 : Nat} {m_4 : mm_Mem} {x_5 : Int32} {fs_6 : List Value} (hb3 : b_1 + b_2 ≤ b) (g7 : m r2 = .inr (8, fs_6)) (z8 : r2 ≠ 0) (M9 : mm_W l G k_M_thrown 0 (lv_args 0 [.ref r2]) [] b_1 m (mm_is (.inl (some (.int x_5))) m_4)) (h10 : (x_5 = x5) → mm_W l G (k_L_law ns xs) 873 [(0, .ref 0), (1, .ref r1), (2, .ref r2), (3, .ref r3), (4, .int x4), (5, .int x5), (6, .int xs0)] [] b_2 m_4 Q) (h11 : (¬ x_5 = x5) → mm_W l G (k_L_law ns xs) 871 [] [] b_2 m_4 Q) : mm_W l G (k_L_law ns xs) 860 [(0, .ref 0), (1, .ref r1), (2, .ref r2), (3, .ref r3), (4, .int x4), (5, .int x5)] [.int xs0] b m Q := by
  refine mm_istore (i := 6) d_L_law_860 (Nat.le_of_ble_eq_true rfl) (lv2 := [(6, .int xs0), (0, .ref 0), (1, .ref r1), (2, .ref r2), (3, .ref r3), (4, .int x4), (5, .int x5)]) rfl ?_
  refine mm_aload_n 3 (i := 2) d_L_law_862 rfl rfl ?_
  refine mm_callV (as := []) (st := []) (b2 := b_2) ca_M_thrown w_833 w_834 w_835 cc_M.1 rfl d_L_law_863 rfl (Nat.le_of_ble_eq_true rfl) (Nat.le_of_ble_eq_true rfl) (Nat.le_of_ble_eq_true rfl) hb3 g7 z8 M9 (fun E _ ⟨c, _⟩ => nomatch c) (fun v _ ⟨c, e⟩ => ?_)
  cases c
  rw [e]
  show mm_W l G (k_L_law ns xs) 866 [(6, .int xs0), (0, .ref 0), (1, .ref r1), (2, .ref r2), (3, .ref r3), (4, .int x4), (5, .int x5)] [.int x_5] b_2 m_4 Q
  refine mm_iload 6 (i := 5) d_L_law_866 rfl ?_
  exact mm_icmp_eq (tgt := 873) d_L_law_868 (by decide) (fun c => mm_sub [1, 2, 3, 4, 5, 6, 0] rfl (h10 c)) (fun c => mm_sub [] rfl (h11 c))
theorem t_L_law_871 {l : Launch} {G : mm_G} {ns : Nat} {xs : Nat → Int32} {b : Nat} {m : mm_Mem} {Q : mm_O → mm_Mem → Prop}  (h1 : Q (.inl (some (.int 0))) m) (hn2 : narrow .boolean (.int 0) = .int 0) : mm_W l G (k_L_law ns xs) 871 [] [] b m Q := by
  refine mm_iconst d_L_law_871 (v := 0) (by decide) ?_
  exact mm_zret d_L_law_872 rfl hn2 h1
theorem t_L_law_873 {l : Launch} {G : mm_G} {ns : Nat} {xs : Nat → Int32} {b : Nat} {m : mm_Mem} {Q : mm_O → mm_Mem → Prop} {r1 : Nat} {r2 : Nat} {r3 : Nat} {x4 : Int32} {x5 : Int32} {x6 : Int32} (h1 : (¬ x5 = 0) → mm_W l G (k_L_law ns xs) 890 [(0, .ref 0), (1, .ref r1), (2, .ref r2), (3, .ref r3), (4, .int x4)] [] b m Q) (h2 : (x5 = 0) → mm_W l G (k_L_law ns xs) 878 [(0, .ref 0), (1, .ref r1), (2, .ref r2), (3, .ref r3), (4, .int x4), (6, .int x6)] [] b m Q) : mm_W l G (k_L_law ns xs) 873 [(0, .ref 0), (1, .ref r1), (2, .ref r2), (3, .ref r3), (4, .int x4), (5, .int x5), (6, .int x6)] [] b m Q := by
  refine mm_iload 5 (i := 5) d_L_law_873 rfl ?_
  exact mm_if_ne (tgt := 890) d_L_law_875 (by decide) (fun c => mm_sub [0, 1, 2, 3, 4] rfl (h1 c)) (fun c => mm_sub [0, 1, 2, 3, 4, 6] rfl (h2 c))
theorem t_L_law_878 {l : Launch} {G : mm_G} {ns : Nat} {xs : Nat → Int32} {b : Nat} {m : mm_Mem} {Q : mm_O → mm_Mem → Prop} {r1 : Nat} {r2 : Nat} {r3 : Nat} {x4 : Int32} {x6 : Int32} {n_1 : Nat} {f_2 : Nat → Int64} (a3 : m r3 = .inl (G.2 2, n_1, .inr (.inl f_2))) (z4 : r3 ≠ 0) (i5 : vp_in 0 n_1) (h6 : ((lg_cmp (f_2 (0 : Int32).toNatClampNeg) x6.toInt64) = 0) → mm_W l G (k_L_law ns xs) 890 [(0, .ref 0), (1, .ref r1), (2, .ref r2), (3, .ref r3), (4, .int x4)] [] b m Q) (h7 : (¬ (lg_cmp (f_2 (0 : Int32).toNatClampNeg) x6.toInt64) = 0) → mm_W l G (k_L_law ns xs) 888 [] [] b m Q) : mm_W l G (k_L_law ns xs) 878 [(0, .ref 0), (1, .ref r1), (2, .ref r2), (3, .ref r3), (4, .int x4), (6, .int x6)] [] b m Q := by
  refine mm_aload_n 3 (i := 3) d_L_law_878 rfl rfl ?_
  refine mm_iconst d_L_law_879 (v := 0) (by decide) ?_
  refine mm_lald d_L_law_880 a3 z4 i5 ?_
  refine mm_iload 5 (i := 6) d_L_law_881 rfl ?_
  refine mm_i2l d_L_law_883 ?_
  refine mm_lcmp d_L_law_884 ?_
  exact mm_if_eq (tgt := 890) d_L_law_885 (by decide) (fun c => mm_sub [0, 1, 2, 3, 4] rfl (h6 c)) (fun c => mm_sub [] rfl (h7 c))
theorem t_L_law_888 {l : Launch} {G : mm_G} {ns : Nat} {xs : Nat → Int32} {b : Nat} {m : mm_Mem} {Q : mm_O → mm_Mem → Prop}  (h1 : Q (.inl (some (.int 0))) m) (hn2 : narrow .boolean (.int 0) = .int 0) : mm_W l G (k_L_law ns xs) 888 [] [] b m Q := by
  refine mm_iconst d_L_law_888 (v := 0) (by decide) ?_
  exact mm_zret d_L_law_889 rfl hn2 h1
theorem t_L_law_890 {l : Launch} {G : mm_G} {ns : Nat} {xs : Nat → Int32} {b : Nat} {m : mm_Mem} {Q : mm_O → mm_Mem → Prop} {r1 : Nat} {r2 : Nat} {r3 : Nat} {x4 : Int32} (h1 : mm_W l G (k_L_law ns xs) 1018 [(0, .ref 0), (1, .ref r1), (2, .ref r2), (3, .ref r3), (4, .int x4)] [] b m Q) : mm_W l G (k_L_law ns xs) 890 [(0, .ref 0), (1, .ref r1), (2, .ref r2), (3, .ref r3), (4, .int x4)] [] b m Q := by
  refine mm_goto (tgt := 1018) d_L_law_890 (by decide) ?_
  exact mm_sub [0, 1, 2, 3, 4] rfl h1
theorem t_L_law_893 {l : Launch} {G : mm_G} {ns : Nat} {xs : Nat → Int32} {b : Nat} {m : mm_Mem} {Q : mm_O → mm_Mem → Prop} {r1 : Nat} {r2 : Nat} {r3 : Nat} {x4 : Int32} {b_2 : Nat} {b_3 : Nat} {P_5 : mm_O → mm_Mem → Prop} (i1 : vp_in (x4 + 1) ns) (hb4 : b_2 + b_3 ≤ b) (M6 : mm_W l G k_L_read 0 (lv_args 0 [.ref r1, .int (xs (x4 + 1).toNatClampNeg), .ref r3]) [] b_2 m P_5) (hx7 : ∀ (E : String) (n_2 : mm_Mem), ¬ P_5 (.inr E) n_2) (h8 : ∀ (v : Option Value) (n_2 : mm_Mem), P_5 (.inl v) n_2 → ∃ x9 : Int32, v = some (.int x9) ∧ mm_W l G (k_L_law ns xs) 904 [(0, .ref 0), (1, .ref r1), (2, .ref r2), (3, .ref r3), (4, .int x4)] [.int x9] b_3 n_2 Q) : mm_W l G (k_L_law ns xs) 893 [(0, .ref 0), (1, .ref r1), (2, .ref r2), (3, .ref r3), (4, .int x4)] [] b m Q := by
  refine mm_aload_n 1 (i := 1) d_L_law_893 rfl rfl ?_
  refine mm_aload_n 0 (i := 0) d_L_law_894 rfl rfl ?_
  refine mm_iload 4 (i := 4) d_L_law_895 rfl ?_
  refine mm_iconst d_L_law_897 (v := 1) (by decide) ?_
  refine mm_iadd d_L_law_898 ?_
  refine mm_sald (n := ns) (xs := xs) rfl d_L_law_899 i1 ?_
  refine mm_aload_n 3 (i := 3) d_L_law_900 rfl rfl ?_
  refine mm_callS (as := [.ref r1, .int (xs (x4 + 1).toNatClampNeg), .ref r3]) (st := []) (b2 := b_3) ca_L_read w_611 w_612 d_L_law_901 rfl (Nat.le_of_ble_eq_true rfl) (Nat.le_of_ble_eq_true rfl) (Nat.le_of_ble_eq_true rfl) hb4 M6 (fun E m2 q => absurd q (hx7 E m2)) (fun v m2 q => ?_)
  obtain ⟨x9, rfl, z9⟩ := h8 v m2 q
  exact mm_sub [0, 1, 2, 3, 4] rfl z9
theorem t_L_law_904 {l : Launch} {G : mm_G} {ns : Nat} {xs : Nat → Int32} {b : Nat} {m : mm_Mem} {Q : mm_O → mm_Mem → Prop} {r1 : Nat} {r2 : Nat} {r3 : Nat} {x4 : Int32} {xs0 : Int32} {b_2 : Nat} {b_3 : Nat} {P_5 : mm_O → mm_Mem → Prop} {fs_6 : List Value} (i1 : vp_in (x4 + 1) ns) (hb4 : b_2 + b_3 ≤ b) (g7 : m r2 = .inr (8, fs_6)) (z8 : r2 ≠ 0) (M9 : mm_W l G k_M_read 0 (lv_args 0 [.ref r2, .int (xs (x4 + 1).toNatClampNeg)]) [] b_2 m P_5) (hx10 : ∀ (E : String) (n_2 : mm_Mem), ¬ P_5 (.inr E) n_2) (h11 : ∀ (v : Option Value) (n_2 : mm_Mem), P_5 (.inl v) n_2 → ∃ x9 : Int32, v = some (.int x9) ∧ mm_W l G (k_L_law ns xs) 916 [(0, .ref 0), (1, .ref r1), (2, .ref r2), (3, .ref r3), (4, .int x4), (5, .int xs0)] [.int x9] b_3 n_2 Q) : mm_W l G (k_L_law ns xs) 904 [(0, .ref 0), (1, .ref r1), (2, .ref r2), (3, .ref r3), (4, .int x4)] [.int xs0] b m Q := by
  refine mm_istore (i := 5) d_L_law_904 (Nat.le_of_ble_eq_true rfl) (lv2 := [(5, .int xs0), (0, .ref 0), (1, .ref r1), (2, .ref r2), (3, .ref r3), (4, .int x4)]) rfl ?_
  refine mm_aload_n 3 (i := 2) d_L_law_906 rfl rfl ?_
  refine mm_aload_n 1 (i := 0) d_L_law_907 rfl rfl ?_
  refine mm_iload 5 (i := 4) d_L_law_908 rfl ?_
  refine mm_iconst d_L_law_910 (v := 1) (by decide) ?_
  refine mm_iadd d_L_law_911 ?_
  refine mm_sald (n := ns) (xs := xs) rfl d_L_law_912 i1 ?_
  refine mm_callV (as := [.int (xs (x4 + 1).toNatClampNeg)]) (st := []) (b2 := b_3) ca_M_read w_963 w_964 w_965 cc_M.1 rfl d_L_law_913 rfl (Nat.le_of_ble_eq_true rfl) (Nat.le_of_ble_eq_true rfl) (Nat.le_of_ble_eq_true rfl) hb4 g7 z8 M9 (fun E m2 q => absurd q (hx10 E m2)) (fun v m2 q => ?_)
  obtain ⟨x9, rfl, z9⟩ := h11 v m2 q
  exact mm_sub [1, 2, 3, 4, 5, 0] rfl z9
theorem t_L_law_916 {l : Launch} {G : mm_G} {ns : Nat} {xs : Nat → Int32} {b : Nat} {m : mm_Mem} {Q : mm_O → mm_Mem → Prop} {r1 : Nat} {r2 : Nat} {r3 : Nat} {x4 : Int32} {x5 : Int32} {xs0 : Int32} {b_1 : Nat} {b_2 : Nat} {m_4 : mm_Mem} {x_5 : Int32} {fs_6 : List Value} (hb3 : b_1 + b_2 ≤ b) (g7 : m r2 = .inr (8, fs_6)) (z8 : r2 ≠ 0) (M9 : mm_W l G k_M_thrown 0 (lv_args 0 [.ref r2]) [] b_1 m (mm_is (.inl (some (.int x_5))) m_4)) (h10 : (x_5 = x5) → mm_W l G (k_L_law ns xs) 929 [(0, .ref 0), (1, .ref r1), (2, .ref r2), (3, .ref r3), (4, .int x4), (5, .int x5), (6, .int xs0)] [] b_2 m_4 Q) (h11 : (¬ x_5 = x5) → mm_W l G (k_L_law ns xs) 927 [] [] b_2 m_4 Q) : mm_W l G (k_L_law ns xs) 916 [(0, .ref 0), (1, .ref r1), (2, .ref r2), (3, .ref r3), (4, .int x4), (5, .int x5)] [.int xs0] b m Q := by
  refine mm_istore (i := 6) d_L_law_916 (Nat.le_of_ble_eq_true rfl) (lv2 := [(6, .int xs0), (0, .ref 0), (1, .ref r1), (2, .ref r2), (3, .ref r3), (4, .int x4), (5, .int x5)]) rfl ?_
  refine mm_aload_n 3 (i := 2) d_L_law_918 rfl rfl ?_
  refine mm_callV (as := []) (st := []) (b2 := b_2) ca_M_thrown w_833 w_834 w_835 cc_M.1 rfl d_L_law_919 rfl (Nat.le_of_ble_eq_true rfl) (Nat.le_of_ble_eq_true rfl) (Nat.le_of_ble_eq_true rfl) hb3 g7 z8 M9 (fun E _ ⟨c, _⟩ => nomatch c) (fun v _ ⟨c, e⟩ => ?_)
  cases c
  rw [e]
  show mm_W l G (k_L_law ns xs) 922 [(6, .int xs0), (0, .ref 0), (1, .ref r1), (2, .ref r2), (3, .ref r3), (4, .int x4), (5, .int x5)] [.int x_5] b_2 m_4 Q
  refine mm_iload 6 (i := 5) d_L_law_922 rfl ?_
  exact mm_icmp_eq (tgt := 929) d_L_law_924 (by decide) (fun c => mm_sub [1, 2, 3, 4, 5, 6, 0] rfl (h10 c)) (fun c => mm_sub [] rfl (h11 c))
theorem t_L_law_927 {l : Launch} {G : mm_G} {ns : Nat} {xs : Nat → Int32} {b : Nat} {m : mm_Mem} {Q : mm_O → mm_Mem → Prop}  (h1 : Q (.inl (some (.int 0))) m) (hn2 : narrow .boolean (.int 0) = .int 0) : mm_W l G (k_L_law ns xs) 927 [] [] b m Q := by
  refine mm_iconst d_L_law_927 (v := 0) (by decide) ?_
  exact mm_zret d_L_law_928 rfl hn2 h1
theorem t_L_law_929 {l : Launch} {G : mm_G} {ns : Nat} {xs : Nat → Int32} {b : Nat} {m : mm_Mem} {Q : mm_O → mm_Mem → Prop} {r1 : Nat} {r2 : Nat} {r3 : Nat} {x4 : Int32} {x5 : Int32} {x6 : Int32} (h1 : (¬ x5 = 0) → mm_W l G (k_L_law ns xs) 946 [(0, .ref 0), (1, .ref r1), (2, .ref r2), (3, .ref r3), (4, .int x4)] [] b m Q) (h2 : (x5 = 0) → mm_W l G (k_L_law ns xs) 934 [(0, .ref 0), (1, .ref r1), (2, .ref r2), (3, .ref r3), (4, .int x4), (6, .int x6)] [] b m Q) : mm_W l G (k_L_law ns xs) 929 [(0, .ref 0), (1, .ref r1), (2, .ref r2), (3, .ref r3), (4, .int x4), (5, .int x5), (6, .int x6)] [] b m Q := by
  refine mm_iload 5 (i := 5) d_L_law_929 rfl ?_
  exact mm_if_ne (tgt := 946) d_L_law_931 (by decide) (fun c => mm_sub [0, 1, 2, 3, 4] rfl (h1 c)) (fun c => mm_sub [0, 1, 2, 3, 4, 6] rfl (h2 c))
theorem t_L_law_934 {l : Launch} {G : mm_G} {ns : Nat} {xs : Nat → Int32} {b : Nat} {m : mm_Mem} {Q : mm_O → mm_Mem → Prop} {r1 : Nat} {r2 : Nat} {r3 : Nat} {x4 : Int32} {x6 : Int32} {n_1 : Nat} {f_2 : Nat → Int64} (a3 : m r3 = .inl (G.2 2, n_1, .inr (.inl f_2))) (z4 : r3 ≠ 0) (i5 : vp_in 0 n_1) (h6 : ((lg_cmp (f_2 (0 : Int32).toNatClampNeg) x6.toInt64) = 0) → mm_W l G (k_L_law ns xs) 946 [(0, .ref 0), (1, .ref r1), (2, .ref r2), (3, .ref r3), (4, .int x4)] [] b m Q) (h7 : (¬ (lg_cmp (f_2 (0 : Int32).toNatClampNeg) x6.toInt64) = 0) → mm_W l G (k_L_law ns xs) 944 [] [] b m Q) : mm_W l G (k_L_law ns xs) 934 [(0, .ref 0), (1, .ref r1), (2, .ref r2), (3, .ref r3), (4, .int x4), (6, .int x6)] [] b m Q := by
  refine mm_aload_n 3 (i := 3) d_L_law_934 rfl rfl ?_
  refine mm_iconst d_L_law_935 (v := 0) (by decide) ?_
  refine mm_lald d_L_law_936 a3 z4 i5 ?_
  refine mm_iload 5 (i := 6) d_L_law_937 rfl ?_
  refine mm_i2l d_L_law_939 ?_
  refine mm_lcmp d_L_law_940 ?_
  exact mm_if_eq (tgt := 946) d_L_law_941 (by decide) (fun c => mm_sub [0, 1, 2, 3, 4] rfl (h6 c)) (fun c => mm_sub [] rfl (h7 c))
theorem t_L_law_944 {l : Launch} {G : mm_G} {ns : Nat} {xs : Nat → Int32} {b : Nat} {m : mm_Mem} {Q : mm_O → mm_Mem → Prop}  (h1 : Q (.inl (some (.int 0))) m) (hn2 : narrow .boolean (.int 0) = .int 0) : mm_W l G (k_L_law ns xs) 944 [] [] b m Q := by
  refine mm_iconst d_L_law_944 (v := 0) (by decide) ?_
  exact mm_zret d_L_law_945 rfl hn2 h1
theorem t_L_law_946 {l : Launch} {G : mm_G} {ns : Nat} {xs : Nat → Int32} {b : Nat} {m : mm_Mem} {Q : mm_O → mm_Mem → Prop} {r1 : Nat} {r2 : Nat} {r3 : Nat} {x4 : Int32} (h1 : mm_W l G (k_L_law ns xs) 1018 [(0, .ref 0), (1, .ref r1), (2, .ref r2), (3, .ref r3), (4, .int x4)] [] b m Q) : mm_W l G (k_L_law ns xs) 946 [(0, .ref 0), (1, .ref r1), (2, .ref r2), (3, .ref r3), (4, .int x4)] [] b m Q := by
  refine mm_goto (tgt := 1018) d_L_law_946 (by decide) ?_
  exact mm_sub [0, 1, 2, 3, 4] rfl h1
theorem t_L_law_949 {l : Launch} {G : mm_G} {ns : Nat} {xs : Nat → Int32} {b : Nat} {m : mm_Mem} {Q : mm_O → mm_Mem → Prop} {r1 : Nat} {r2 : Nat} {r3 : Nat} {x4 : Int32} {b_2 : Nat} {b_3 : Nat} {P_5 : mm_O → mm_Mem → Prop} (i1 : vp_in (x4 + 1) ns) (hb4 : b_2 + b_3 ≤ b) (M6 : mm_W l G k_L_blame 0 (lv_args 0 [.ref r1, .int (xs (x4 + 1).toNatClampNeg), .ref r3]) [] b_2 m P_5) (hx7 : ∀ (E : String) (n_2 : mm_Mem), ¬ P_5 (.inr E) n_2) (h8 : ∀ (v : Option Value) (n_2 : mm_Mem), P_5 (.inl v) n_2 → ∃ x9 : Int32, v = some (.int x9) ∧ mm_W l G (k_L_law ns xs) 960 [(0, .ref 0), (1, .ref r1), (2, .ref r2), (3, .ref r3), (4, .int x4)] [.int x9] b_3 n_2 Q) : mm_W l G (k_L_law ns xs) 949 [(0, .ref 0), (1, .ref r1), (2, .ref r2), (3, .ref r3), (4, .int x4)] [] b m Q := by
  refine mm_aload_n 1 (i := 1) d_L_law_949 rfl rfl ?_
  refine mm_aload_n 0 (i := 0) d_L_law_950 rfl rfl ?_
  refine mm_iload 4 (i := 4) d_L_law_951 rfl ?_
  refine mm_iconst d_L_law_953 (v := 1) (by decide) ?_
  refine mm_iadd d_L_law_954 ?_
  refine mm_sald (n := ns) (xs := xs) rfl d_L_law_955 i1 ?_
  refine mm_aload_n 3 (i := 3) d_L_law_956 rfl rfl ?_
  refine mm_callS (as := [.ref r1, .int (xs (x4 + 1).toNatClampNeg), .ref r3]) (st := []) (b2 := b_3) ca_L_blame w_728 w_729 d_L_law_957 rfl (Nat.le_of_ble_eq_true rfl) (Nat.le_of_ble_eq_true rfl) (Nat.le_of_ble_eq_true rfl) hb4 M6 (fun E m2 q => absurd q (hx7 E m2)) (fun v m2 q => ?_)
  obtain ⟨x9, rfl, z9⟩ := h8 v m2 q
  exact mm_sub [0, 1, 2, 3, 4] rfl z9
theorem t_L_law_960 {l : Launch} {G : mm_G} {ns : Nat} {xs : Nat → Int32} {b : Nat} {m : mm_Mem} {Q : mm_O → mm_Mem → Prop} {r1 : Nat} {r2 : Nat} {r3 : Nat} {x4 : Int32} {xs0 : Int32} {b_2 : Nat} {b_3 : Nat} {P_5 : mm_O → mm_Mem → Prop} {fs_6 : List Value} (i1 : vp_in (x4 + 1) ns) (hb4 : b_2 + b_3 ≤ b) (g7 : m r2 = .inr (8, fs_6)) (z8 : r2 ≠ 0) (M9 : mm_W l G k_M_blame 0 (lv_args 0 [.ref r2, .int (xs (x4 + 1).toNatClampNeg)]) [] b_2 m P_5) (hx10 : ∀ (E : String) (n_2 : mm_Mem), ¬ P_5 (.inr E) n_2) (h11 : ∀ (v : Option Value) (n_2 : mm_Mem), P_5 (.inl v) n_2 → ∃ x9 : Int32, v = some (.int x9) ∧ mm_W l G (k_L_law ns xs) 972 [(0, .ref 0), (1, .ref r1), (2, .ref r2), (3, .ref r3), (4, .int x4), (5, .int xs0)] [.int x9] b_3 n_2 Q) : mm_W l G (k_L_law ns xs) 960 [(0, .ref 0), (1, .ref r1), (2, .ref r2), (3, .ref r3), (4, .int x4)] [.int xs0] b m Q := by
  refine mm_istore (i := 5) d_L_law_960 (Nat.le_of_ble_eq_true rfl) (lv2 := [(5, .int xs0), (0, .ref 0), (1, .ref r1), (2, .ref r2), (3, .ref r3), (4, .int x4)]) rfl ?_
  refine mm_aload_n 3 (i := 2) d_L_law_962 rfl rfl ?_
  refine mm_aload_n 1 (i := 0) d_L_law_963 rfl rfl ?_
  refine mm_iload 5 (i := 4) d_L_law_964 rfl ?_
  refine mm_iconst d_L_law_966 (v := 1) (by decide) ?_
  refine mm_iadd d_L_law_967 ?_
  refine mm_sald (n := ns) (xs := xs) rfl d_L_law_968 i1 ?_
  refine mm_callV (as := [.int (xs (x4 + 1).toNatClampNeg)]) (st := []) (b2 := b_3) ca_M_blame w_1055 w_1056 w_1057 cc_M.1 rfl d_L_law_969 rfl (Nat.le_of_ble_eq_true rfl) (Nat.le_of_ble_eq_true rfl) (Nat.le_of_ble_eq_true rfl) hb4 g7 z8 M9 (fun E m2 q => absurd q (hx10 E m2)) (fun v m2 q => ?_)
  obtain ⟨x9, rfl, z9⟩ := h11 v m2 q
  exact mm_sub [1, 2, 3, 4, 5, 0] rfl z9
theorem t_L_law_972 {l : Launch} {G : mm_G} {ns : Nat} {xs : Nat → Int32} {b : Nat} {m : mm_Mem} {Q : mm_O → mm_Mem → Prop} {r1 : Nat} {r2 : Nat} {r3 : Nat} {x4 : Int32} {x5 : Int32} {xs0 : Int32} {b_1 : Nat} {b_2 : Nat} {m_4 : mm_Mem} {x_5 : Int32} {fs_6 : List Value} (hb3 : b_1 + b_2 ≤ b) (g7 : m r2 = .inr (8, fs_6)) (z8 : r2 ≠ 0) (M9 : mm_W l G k_M_thrown 0 (lv_args 0 [.ref r2]) [] b_1 m (mm_is (.inl (some (.int x_5))) m_4)) (h10 : (x_5 = x5) → mm_W l G (k_L_law ns xs) 985 [(0, .ref 0), (1, .ref r1), (2, .ref r2), (3, .ref r3), (4, .int x4), (5, .int x5), (6, .int xs0)] [] b_2 m_4 Q) (h11 : (¬ x_5 = x5) → mm_W l G (k_L_law ns xs) 983 [] [] b_2 m_4 Q) : mm_W l G (k_L_law ns xs) 972 [(0, .ref 0), (1, .ref r1), (2, .ref r2), (3, .ref r3), (4, .int x4), (5, .int x5)] [.int xs0] b m Q := by
  refine mm_istore (i := 6) d_L_law_972 (Nat.le_of_ble_eq_true rfl) (lv2 := [(6, .int xs0), (0, .ref 0), (1, .ref r1), (2, .ref r2), (3, .ref r3), (4, .int x4), (5, .int x5)]) rfl ?_
  refine mm_aload_n 3 (i := 2) d_L_law_974 rfl rfl ?_
  refine mm_callV (as := []) (st := []) (b2 := b_2) ca_M_thrown w_833 w_834 w_835 cc_M.1 rfl d_L_law_975 rfl (Nat.le_of_ble_eq_true rfl) (Nat.le_of_ble_eq_true rfl) (Nat.le_of_ble_eq_true rfl) hb3 g7 z8 M9 (fun E _ ⟨c, _⟩ => nomatch c) (fun v _ ⟨c, e⟩ => ?_)
  cases c
  rw [e]
  show mm_W l G (k_L_law ns xs) 978 [(6, .int xs0), (0, .ref 0), (1, .ref r1), (2, .ref r2), (3, .ref r3), (4, .int x4), (5, .int x5)] [.int x_5] b_2 m_4 Q
  refine mm_iload 6 (i := 5) d_L_law_978 rfl ?_
  exact mm_icmp_eq (tgt := 985) d_L_law_980 (by decide) (fun c => mm_sub [1, 2, 3, 4, 5, 6, 0] rfl (h10 c)) (fun c => mm_sub [] rfl (h11 c))
theorem t_L_law_983 {l : Launch} {G : mm_G} {ns : Nat} {xs : Nat → Int32} {b : Nat} {m : mm_Mem} {Q : mm_O → mm_Mem → Prop}  (h1 : Q (.inl (some (.int 0))) m) (hn2 : narrow .boolean (.int 0) = .int 0) : mm_W l G (k_L_law ns xs) 983 [] [] b m Q := by
  refine mm_iconst d_L_law_983 (v := 0) (by decide) ?_
  exact mm_zret d_L_law_984 rfl hn2 h1
theorem t_L_law_985 {l : Launch} {G : mm_G} {ns : Nat} {xs : Nat → Int32} {b : Nat} {m : mm_Mem} {Q : mm_O → mm_Mem → Prop} {r1 : Nat} {r2 : Nat} {r3 : Nat} {x4 : Int32} {x5 : Int32} {x6 : Int32} (h1 : (¬ x5 = 0) → mm_W l G (k_L_law ns xs) 1002 [(0, .ref 0), (1, .ref r1), (2, .ref r2), (3, .ref r3), (4, .int x4)] [] b m Q) (h2 : (x5 = 0) → mm_W l G (k_L_law ns xs) 990 [(0, .ref 0), (1, .ref r1), (2, .ref r2), (3, .ref r3), (4, .int x4), (6, .int x6)] [] b m Q) : mm_W l G (k_L_law ns xs) 985 [(0, .ref 0), (1, .ref r1), (2, .ref r2), (3, .ref r3), (4, .int x4), (5, .int x5), (6, .int x6)] [] b m Q := by
  refine mm_iload 5 (i := 5) d_L_law_985 rfl ?_
  exact mm_if_ne (tgt := 1002) d_L_law_987 (by decide) (fun c => mm_sub [0, 1, 2, 3, 4] rfl (h1 c)) (fun c => mm_sub [0, 1, 2, 3, 4, 6] rfl (h2 c))
theorem t_L_law_990 {l : Launch} {G : mm_G} {ns : Nat} {xs : Nat → Int32} {b : Nat} {m : mm_Mem} {Q : mm_O → mm_Mem → Prop} {r1 : Nat} {r2 : Nat} {r3 : Nat} {x4 : Int32} {x6 : Int32} {n_1 : Nat} {f_2 : Nat → Int64} (a3 : m r3 = .inl (G.2 2, n_1, .inr (.inl f_2))) (z4 : r3 ≠ 0) (i5 : vp_in 0 n_1) (h6 : ((lg_cmp (f_2 (0 : Int32).toNatClampNeg) x6.toInt64) = 0) → mm_W l G (k_L_law ns xs) 1002 [(0, .ref 0), (1, .ref r1), (2, .ref r2), (3, .ref r3), (4, .int x4)] [] b m Q) (h7 : (¬ (lg_cmp (f_2 (0 : Int32).toNatClampNeg) x6.toInt64) = 0) → mm_W l G (k_L_law ns xs) 1000 [] [] b m Q) : mm_W l G (k_L_law ns xs) 990 [(0, .ref 0), (1, .ref r1), (2, .ref r2), (3, .ref r3), (4, .int x4), (6, .int x6)] [] b m Q := by
  refine mm_aload_n 3 (i := 3) d_L_law_990 rfl rfl ?_
  refine mm_iconst d_L_law_991 (v := 0) (by decide) ?_
  refine mm_lald d_L_law_992 a3 z4 i5 ?_
  refine mm_iload 5 (i := 6) d_L_law_993 rfl ?_
  refine mm_i2l d_L_law_995 ?_
  refine mm_lcmp d_L_law_996 ?_
  exact mm_if_eq (tgt := 1002) d_L_law_997 (by decide) (fun c => mm_sub [0, 1, 2, 3, 4] rfl (h6 c)) (fun c => mm_sub [] rfl (h7 c))
theorem t_L_law_1000 {l : Launch} {G : mm_G} {ns : Nat} {xs : Nat → Int32} {b : Nat} {m : mm_Mem} {Q : mm_O → mm_Mem → Prop}  (h1 : Q (.inl (some (.int 0))) m) (hn2 : narrow .boolean (.int 0) = .int 0) : mm_W l G (k_L_law ns xs) 1000 [] [] b m Q := by
  refine mm_iconst d_L_law_1000 (v := 0) (by decide) ?_
  exact mm_zret d_L_law_1001 rfl hn2 h1
theorem t_L_law_1002 {l : Launch} {G : mm_G} {ns : Nat} {xs : Nat → Int32} {b : Nat} {m : mm_Mem} {Q : mm_O → mm_Mem → Prop} {r1 : Nat} {r2 : Nat} {r3 : Nat} {x4 : Int32} (h1 : mm_W l G (k_L_law ns xs) 1018 [(0, .ref 0), (1, .ref r1), (2, .ref r2), (3, .ref r3), (4, .int x4)] [] b m Q) : mm_W l G (k_L_law ns xs) 1002 [(0, .ref 0), (1, .ref r1), (2, .ref r2), (3, .ref r3), (4, .int x4)] [] b m Q := by
  refine mm_goto (tgt := 1018) d_L_law_1002 (by decide) ?_
  exact mm_sub [0, 1, 2, 3, 4] rfl h1
theorem t_L_law_1005 {l : Launch} {G : mm_G} {ns : Nat} {xs : Nat → Int32} {b : Nat} {m : mm_Mem} {Q : mm_O → mm_Mem → Prop} {r1 : Nat} {r2 : Nat} {r3 : Nat} {x4 : Int32} {b_1 : Nat} {b_2 : Nat} {P_4 : mm_O → mm_Mem → Prop} {fs_5 : List Value} (hb3 : b_1 + b_2 ≤ b) (g6 : m r1 = .inr (0, fs_5)) (z7 : r1 ≠ 0) (M8 : mm_W l G k_P_count 0 (lv_args 0 [.ref r1]) [] b_1 m P_4) (hx9 : ∀ (E : String) (n_2 : mm_Mem), ¬ P_4 (.inr E) n_2) (h10 : ∀ (v : Option Value) (n_2 : mm_Mem), P_4 (.inl v) n_2 → ∃ x9 : Int32, v = some (.int x9) ∧ mm_W l G (k_L_law ns xs) 1009 [(0, .ref 0), (1, .ref r1), (2, .ref r2), (3, .ref r3), (4, .int x4)] [.int x9] b_2 n_2 Q) : mm_W l G (k_L_law ns xs) 1005 [(0, .ref 0), (1, .ref r1), (2, .ref r2), (3, .ref r3), (4, .int x4)] [] b m Q := by
  refine mm_aload_n 1 (i := 1) d_L_law_1005 rfl rfl ?_
  refine mm_callV (as := []) (st := []) (b2 := b_2) ca_P_count w_285 w_286 w_287 cc_P.1 rfl d_L_law_1006 rfl (Nat.le_of_ble_eq_true rfl) (Nat.le_of_ble_eq_true rfl) (Nat.le_of_ble_eq_true rfl) hb3 g6 z7 M8 (fun E m2 q => absurd q (hx9 E m2)) (fun v m2 q => ?_)
  obtain ⟨x9, rfl, z9⟩ := h10 v m2 q
  exact mm_sub [0, 1, 2, 3, 4] rfl z9
theorem t_L_law_1009 {l : Launch} {G : mm_G} {ns : Nat} {xs : Nat → Int32} {b : Nat} {m : mm_Mem} {Q : mm_O → mm_Mem → Prop} {r1 : Nat} {r2 : Nat} {r3 : Nat} {x4 : Int32} {xs0 : Int32} {b_1 : Nat} {b_2 : Nat} {P_4 : mm_O → mm_Mem → Prop} {fs_5 : List Value} (hb3 : b_1 + b_2 ≤ b) (g6 : m r2 = .inr (8, fs_5)) (z7 : r2 ≠ 0) (M8 : mm_W l G k_M_count 0 (lv_args 0 [.ref r2]) [] b_1 m P_4) (hx9 : ∀ (E : String) (n_2 : mm_Mem), ¬ P_4 (.inr E) n_2) (h10 : ∀ (v : Option Value) (n_2 : mm_Mem), P_4 (.inl v) n_2 → ∃ x9 : Int32, v = some (.int x9) ∧ mm_W l G (k_L_law ns xs) 1013 [(0, .ref 0), (1, .ref r1), (2, .ref r2), (3, .ref r3), (4, .int x4)] [.int x9, .int xs0] b_2 n_2 Q) : mm_W l G (k_L_law ns xs) 1009 [(0, .ref 0), (1, .ref r1), (2, .ref r2), (3, .ref r3), (4, .int x4)] [.int xs0] b m Q := by
  refine mm_aload_n 2 (i := 2) d_L_law_1009 rfl rfl ?_
  refine mm_callV (as := []) (st := [.int xs0]) (b2 := b_2) ca_M_count w_940 w_941 w_942 cc_M.1 rfl d_L_law_1010 rfl (Nat.le_of_ble_eq_true rfl) (Nat.le_of_ble_eq_true rfl) (Nat.le_of_ble_eq_true rfl) hb3 g6 z7 M8 (fun E m2 q => absurd q (hx9 E m2)) (fun v m2 q => ?_)
  obtain ⟨x9, rfl, z9⟩ := h10 v m2 q
  exact mm_sub [0, 1, 2, 3, 4] rfl z9
theorem t_L_law_1013 {l : Launch} {G : mm_G} {ns : Nat} {xs : Nat → Int32} {b : Nat} {m : mm_Mem} {Q : mm_O → mm_Mem → Prop} {r1 : Nat} {r2 : Nat} {r3 : Nat} {x4 : Int32} {xs0 : Int32} {xs1 : Int32} (h1 : (xs1 = xs0) → mm_W l G (k_L_law ns xs) 1018 [(0, .ref 0), (1, .ref r1), (2, .ref r2), (3, .ref r3), (4, .int x4)] [] b m Q) (h2 : (¬ xs1 = xs0) → mm_W l G (k_L_law ns xs) 1016 [] [] b m Q) : mm_W l G (k_L_law ns xs) 1013 [(0, .ref 0), (1, .ref r1), (2, .ref r2), (3, .ref r3), (4, .int x4)] [.int xs0, .int xs1] b m Q := by
  exact mm_icmp_eq (tgt := 1018) d_L_law_1013 (by decide) (fun c => mm_sub [0, 1, 2, 3, 4] rfl (h1 c)) (fun c => mm_sub [] rfl (h2 c))
theorem t_L_law_1016 {l : Launch} {G : mm_G} {ns : Nat} {xs : Nat → Int32} {b : Nat} {m : mm_Mem} {Q : mm_O → mm_Mem → Prop}  (h1 : Q (.inl (some (.int 0))) m) (hn2 : narrow .boolean (.int 0) = .int 0) : mm_W l G (k_L_law ns xs) 1016 [] [] b m Q := by
  refine mm_iconst d_L_law_1016 (v := 0) (by decide) ?_
  exact mm_zret d_L_law_1017 rfl hn2 h1
theorem t_L_law_1018 {l : Launch} {G : mm_G} {ns : Nat} {xs : Nat → Int32} {b : Nat} {m : mm_Mem} {Q : mm_O → mm_Mem → Prop} {r1 : Nat} {r2 : Nat} {r3 : Nat} {x4 : Int32} (h1 : mm_W l G (k_L_law ns xs) 23 [(0, .ref 0), (1, .ref r1), (2, .ref r2), (3, .ref r3), (4, .int (x4 + 6))] [] b m Q) : mm_W l G (k_L_law ns xs) 1018 [(0, .ref 0), (1, .ref r1), (2, .ref r2), (3, .ref r3), (4, .int x4)] [] b m Q := by
  refine mm_iinc 4 (i := 4) d_L_law_1018 rfl (v := x4 + 6) rfl (Nat.le_of_ble_eq_true rfl) (lv2 := [(4, .int (x4 + 6)), (0, .ref 0), (1, .ref r1), (2, .ref r2), (3, .ref r3)]) rfl ?_
  refine mm_goto (tgt := 23) d_L_law_1021 (by decide) ?_
  exact mm_sub [1, 2, 3, 4, 0] rfl h1
theorem t_L_law_1024 {l : Launch} {G : mm_G} {ns : Nat} {xs : Nat → Int32} {b : Nat} {m : mm_Mem} {Q : mm_O → mm_Mem → Prop}  (h1 : Q (.inl (some (.int 1))) m) (hn2 : narrow .boolean (.int 1) = .int 1) : mm_W l G (k_L_law ns xs) 1024 [] [] b m Q := by
  refine mm_iconst d_L_law_1024 (v := 1) (by decide) ?_
  exact mm_zret d_L_law_1025 rfl hn2 h1
