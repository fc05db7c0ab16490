theorem d_B_init_0 : decode prog_3_method_1_code 0 = .ok (.aload_n 0, 1) := by decide +kernel
theorem d_B_init_1 : decode prog_3_method_1_code 1 = .ok (.invokespecial 3, 3) := by decide +kernel
theorem d_B_init_4 : decode prog_3_method_1_code 4 = .ok (.aload_n 0, 1) := by decide +kernel
theorem d_B_init_5 : decode prog_3_method_1_code 5 = .ok (.iconst 0, 1) := by decide +kernel
theorem d_B_init_6 : decode prog_3_method_1_code 6 = .ok (.iload_n 1, 1) := by decide +kernel
theorem d_B_init_7 : decode prog_3_method_1_code 7 = .ok (.invokestatic 9, 3) := by decide +kernel
theorem d_B_init_10 : decode prog_3_method_1_code 10 = .ok (.newarray .byte, 2) := by decide +kernel
theorem d_B_init_12 : decode prog_3_method_1_code 12 = .ok (.putfield 15, 3) := by decide +kernel
theorem d_B_init_15 : decode prog_3_method_1_code 15 = .ok (.aload_n 0, 1) := by decide +kernel
theorem d_B_init_16 : decode prog_3_method_1_code 16 = .ok (.iconst 0, 1) := by decide +kernel
theorem d_B_init_17 : decode prog_3_method_1_code 17 = .ok (.putfield 21, 3) := by decide +kernel
theorem d_B_init_20 : decode prog_3_method_1_code 20 = .ok (.return_, 1) := by decide +kernel
theorem d_B_size_0 : decode prog_3_method_2_code 0 = .ok (.aload_n 0, 1) := by decide +kernel
theorem d_B_size_1 : decode prog_3_method_2_code 1 = .ok (.getfield 21, 3) := by decide +kernel
theorem d_B_size_4 : decode prog_3_method_2_code 4 = .ok (.ireturn, 1) := by decide +kernel
theorem d_B_free_0 : decode prog_3_method_3_code 0 = .ok (.aload_n 0, 1) := by decide +kernel
theorem d_B_free_1 : decode prog_3_method_3_code 1 = .ok (.getfield 15, 3) := by decide +kernel
theorem d_B_free_4 : decode prog_3_method_3_code 4 = .ok (.arraylength, 1) := by decide +kernel
theorem d_B_free_5 : decode prog_3_method_3_code 5 = .ok (.aload_n 0, 1) := by decide +kernel
theorem d_B_free_6 : decode prog_3_method_3_code 6 = .ok (.getfield 21, 3) := by decide +kernel
theorem d_B_free_9 : decode prog_3_method_3_code 9 = .ok (.isub, 1) := by decide +kernel
theorem d_B_free_10 : decode prog_3_method_3_code 10 = .ok (.ireturn, 1) := by decide +kernel
theorem d_B_get_0 : decode prog_3_method_4_code 0 = .ok (.iload_n 1, 1) := by decide +kernel
theorem d_B_get_1 : decode prog_3_method_4_code 1 = .ok (.ifCond .lt 11, 3) := by decide +kernel
theorem d_B_get_4 : decode prog_3_method_4_code 4 = .ok (.iload_n 1, 1) := by decide +kernel
theorem d_B_get_5 : decode prog_3_method_4_code 5 = .ok (.aload_n 0, 1) := by decide +kernel
theorem d_B_get_6 : decode prog_3_method_4_code 6 = .ok (.getfield 21, 3) := by decide +kernel
theorem d_B_get_9 : decode prog_3_method_4_code 9 = .ok (.if_icmp .lt 7, 3) := by decide +kernel
theorem d_B_get_12 : decode prog_3_method_4_code 12 = .ok (.iconst (-1), 1) := by decide +kernel
theorem d_B_get_13 : decode prog_3_method_4_code 13 = .ok (.goto 13, 3) := by decide +kernel
theorem d_B_get_16 : decode prog_3_method_4_code 16 = .ok (.aload_n 0, 1) := by decide +kernel
theorem d_B_get_17 : decode prog_3_method_4_code 17 = .ok (.getfield 15, 3) := by decide +kernel
theorem d_B_get_20 : decode prog_3_method_4_code 20 = .ok (.iload_n 1, 1) := by decide +kernel
theorem d_B_get_21 : decode prog_3_method_4_code 21 = .ok (.baload, 1) := by decide +kernel
theorem d_B_get_22 : decode prog_3_method_4_code 22 = .ok (.sipush 255, 3) := by decide +kernel
theorem d_B_get_25 : decode prog_3_method_4_code 25 = .ok (.iand, 1) := by decide +kernel
theorem d_B_get_26 : decode prog_3_method_4_code 26 = .ok (.ireturn, 1) := by decide +kernel
theorem d_B_set_0 : decode prog_3_method_5_code 0 = .ok (.iload_n 1, 1) := by decide +kernel
theorem d_B_set_1 : decode prog_3_method_5_code 1 = .ok (.ifCond .lt 19, 3) := by decide +kernel
theorem d_B_set_4 : decode prog_3_method_5_code 4 = .ok (.iload_n 1, 1) := by decide +kernel
theorem d_B_set_5 : decode prog_3_method_5_code 5 = .ok (.aload_n 0, 1) := by decide +kernel
theorem d_B_set_6 : decode prog_3_method_5_code 6 = .ok (.getfield 21, 3) := by decide +kernel
theorem d_B_set_9 : decode prog_3_method_5_code 9 = .ok (.if_icmp .ge 11, 3) := by decide +kernel
theorem d_B_set_12 : decode prog_3_method_5_code 12 = .ok (.aload_n 0, 1) := by decide +kernel
theorem d_B_set_13 : decode prog_3_method_5_code 13 = .ok (.getfield 15, 3) := by decide +kernel
theorem d_B_set_16 : decode prog_3_method_5_code 16 = .ok (.iload_n 1, 1) := by decide +kernel
theorem d_B_set_17 : decode prog_3_method_5_code 17 = .ok (.iload_n 2, 1) := by decide +kernel
theorem d_B_set_18 : decode prog_3_method_5_code 18 = .ok (.i2b, 1) := by decide +kernel
theorem d_B_set_19 : decode prog_3_method_5_code 19 = .ok (.bastore, 1) := by decide +kernel
theorem d_B_set_20 : decode prog_3_method_5_code 20 = .ok (.return_, 1) := by decide +kernel
theorem d_B_keep_0 : decode prog_3_method_6_code 0 = .ok (.iload_n 1, 1) := by decide +kernel
theorem d_B_keep_1 : decode prog_3_method_6_code 1 = .ok (.ifCond .lt 16, 3) := by decide +kernel
theorem d_B_keep_4 : decode prog_3_method_6_code 4 = .ok (.iload_n 1, 1) := by decide +kernel
theorem d_B_keep_5 : decode prog_3_method_6_code 5 = .ok (.aload_n 0, 1) := by decide +kernel
theorem d_B_keep_6 : decode prog_3_method_6_code 6 = .ok (.getfield 21, 3) := by decide +kernel
theorem d_B_keep_9 : decode prog_3_method_6_code 9 = .ok (.if_icmp .gt 8, 3) := by decide +kernel
theorem d_B_keep_12 : decode prog_3_method_6_code 12 = .ok (.aload_n 0, 1) := by decide +kernel
theorem d_B_keep_13 : decode prog_3_method_6_code 13 = .ok (.iload_n 1, 1) := by decide +kernel
theorem d_B_keep_14 : decode prog_3_method_6_code 14 = .ok (.putfield 21, 3) := by decide +kernel
theorem d_B_keep_17 : decode prog_3_method_6_code 17 = .ok (.return_, 1) := by decide +kernel
theorem d_B_push_0 : decode prog_3_method_7_code 0 = .ok (.aload_n 0, 1) := by decide +kernel
theorem d_B_push_1 : decode prog_3_method_7_code 1 = .ok (.getfield 21, 3) := by decide +kernel
theorem d_B_push_4 : decode prog_3_method_7_code 4 = .ok (.aload_n 0, 1) := by decide +kernel
theorem d_B_push_5 : decode prog_3_method_7_code 5 = .ok (.getfield 15, 3) := by decide +kernel
theorem d_B_push_8 : decode prog_3_method_7_code 8 = .ok (.arraylength, 1) := by decide +kernel
theorem d_B_push_9 : decode prog_3_method_7_code 9 = .ok (.if_icmp .ge 24, 3) := by decide +kernel
theorem d_B_push_12 : decode prog_3_method_7_code 12 = .ok (.aload_n 0, 1) := by decide +kernel
theorem d_B_push_13 : decode prog_3_method_7_code 13 = .ok (.getfield 15, 3) := by decide +kernel
theorem d_B_push_16 : decode prog_3_method_7_code 16 = .ok (.aload_n 0, 1) := by decide +kernel
theorem d_B_push_17 : decode prog_3_method_7_code 17 = .ok (.getfield 21, 3) := by decide +kernel
theorem d_B_push_20 : decode prog_3_method_7_code 20 = .ok (.iload_n 1, 1) := by decide +kernel
theorem d_B_push_21 : decode prog_3_method_7_code 21 = .ok (.i2b, 1) := by decide +kernel
theorem d_B_push_22 : decode prog_3_method_7_code 22 = .ok (.bastore, 1) := by decide +kernel
theorem d_B_push_23 : decode prog_3_method_7_code 23 = .ok (.aload_n 0, 1) := by decide +kernel
theorem d_B_push_24 : decode prog_3_method_7_code 24 = .ok (.dup, 1) := by decide +kernel
theorem d_B_push_25 : decode prog_3_method_7_code 25 = .ok (.getfield 21, 3) := by decide +kernel
theorem d_B_push_28 : decode prog_3_method_7_code 28 = .ok (.iconst 1, 1) := by decide +kernel
theorem d_B_push_29 : decode prog_3_method_7_code 29 = .ok (.iadd, 1) := by decide +kernel
theorem d_B_push_30 : decode prog_3_method_7_code 30 = .ok (.putfield 21, 3) := by decide +kernel
theorem d_B_push_33 : decode prog_3_method_7_code 33 = .ok (.return_, 1) := by decide +kernel
theorem d_B_pushWord_0 : decode prog_3_method_8_code 0 = .ok (.bipush 24, 2) := by decide +kernel
theorem d_B_pushWord_2 : decode prog_3_method_8_code 2 = .ok (.istore_n 2, 1) := by decide +kernel
theorem d_B_pushWord_3 : decode prog_3_method_8_code 3 = .ok (.iload_n 2, 1) := by decide +kernel
theorem d_B_pushWord_4 : decode prog_3_method_8_code 4 = .ok (.ifCond .lt 16, 3) := by decide +kernel
theorem d_B_pushWord_7 : decode prog_3_method_8_code 7 = .ok (.aload_n 0, 1) := by decide +kernel
theorem d_B_pushWord_8 : decode prog_3_method_8_code 8 = .ok (.iload_n 1, 1) := by decide +kernel
theorem d_B_pushWord_9 : decode prog_3_method_8_code 9 = .ok (.iload_n 2, 1) := by decide +kernel
theorem d_B_pushWord_10 : decode prog_3_method_8_code 10 = .ok (.iushr, 1) := by decide +kernel
theorem d_B_pushWord_11 : decode prog_3_method_8_code 11 = .ok (.invokevirtual 25, 3) := by decide +kernel
theorem d_B_pushWord_14 : decode prog_3_method_8_code 14 = .ok (.iinc 2 (-8), 3) := by decide +kernel
theorem d_B_pushWord_17 : decode prog_3_method_8_code 17 = .ok (.goto (-14), 3) := by decide +kernel
theorem d_B_pushWord_20 : decode prog_3_method_8_code 20 = .ok (.return_, 1) := by decide +kernel
theorem d_B_pushNumber_0 : decode prog_3_method_9_code 0 = .ok (.iconst 0, 1) := by decide +kernel
theorem d_B_pushNumber_1 : decode prog_3_method_9_code 1 = .ok (.istore_n 3, 1) := by decide +kernel
theorem d_B_pushNumber_2 : decode prog_3_method_9_code 2 = .ok (.iload_n 3, 1) := by decide +kernel
theorem d_B_pushNumber_3 : decode prog_3_method_9_code 3 = .ok (.iload_n 2, 1) := by decide +kernel
theorem d_B_pushNumber_4 : decode prog_3_method_9_code 4 = .ok (.if_icmp .ge 24, 3) := by decide +kernel
theorem d_B_pushNumber_7 : decode prog_3_method_9_code 7 = .ok (.iload_n 3, 1) := by decide +kernel
theorem d_B_pushNumber_8 : decode prog_3_method_9_code 8 = .ok (.iconst 4, 1) := by decide +kernel
theorem d_B_pushNumber_9 : decode prog_3_method_9_code 9 = .ok (.if_icmp .ge 19, 3) := by decide +kernel
theorem d_B_pushNumber_12 : decode prog_3_method_9_code 12 = .ok (.aload_n 0, 1) := by decide +kernel
theorem d_B_pushNumber_13 : decode prog_3_method_9_code 13 = .ok (.iload_n 1, 1) := by decide +kernel
theorem d_B_pushNumber_14 : decode prog_3_method_9_code 14 = .ok (.bipush 8, 2) := by decide +kernel
theorem d_B_pushNumber_16 : decode prog_3_method_9_code 16 = .ok (.iload_n 3, 1) := by decide +kernel
theorem d_B_pushNumber_17 : decode prog_3_method_9_code 17 = .ok (.imul, 1) := by decide +kernel
theorem d_B_pushNumber_18 : decode prog_3_method_9_code 18 = .ok (.iushr, 1) := by decide +kernel
theorem d_B_pushNumber_19 : decode prog_3_method_9_code 19 = .ok (.invokevirtual 25, 3) := by decide +kernel
theorem d_B_pushNumber_22 : decode prog_3_method_9_code 22 = .ok (.iinc 3 1, 3) := by decide +kernel
theorem d_B_pushNumber_25 : decode prog_3_method_9_code 25 = .ok (.goto (-23), 3) := by decide +kernel
theorem d_B_pushNumber_28 : decode prog_3_method_9_code 28 = .ok (.return_, 1) := by decide +kernel
theorem d_B_pushAll_0 : decode prog_3_method_10_code 0 = .ok (.aload_n 1, 1) := by decide +kernel
theorem d_B_pushAll_1 : decode prog_3_method_10_code 1 = .ok (.iload_n 2, 1) := by decide +kernel
theorem d_B_pushAll_2 : decode prog_3_method_10_code 2 = .ok (.iload_n 3, 1) := by decide +kernel
theorem d_B_pushAll_3 : decode prog_3_method_10_code 3 = .ok (.invokevirtual 29, 3) := by decide +kernel
theorem d_B_pushAll_6 : decode prog_3_method_10_code 6 = .ok (.ifCond .eq 38, 3) := by decide +kernel
theorem d_B_pushAll_9 : decode prog_3_method_10_code 9 = .ok (.iload_n 3, 1) := by decide +kernel
theorem d_B_pushAll_10 : decode prog_3_method_10_code 10 = .ok (.aload_n 0, 1) := by decide +kernel
theorem d_B_pushAll_11 : decode prog_3_method_10_code 11 = .ok (.invokevirtual 33, 3) := by decide +kernel
theorem d_B_pushAll_14 : decode prog_3_method_10_code 14 = .ok (.if_icmp .gt 30, 3) := by decide +kernel
theorem d_B_pushAll_17 : decode prog_3_method_10_code 17 = .ok (.aload_n 1, 1) := by decide +kernel
theorem d_B_pushAll_18 : decode prog_3_method_10_code 18 = .ok (.getfield 15, 3) := by decide +kernel
theorem d_B_pushAll_21 : decode prog_3_method_10_code 21 = .ok (.iload_n 2, 1) := by decide +kernel
theorem d_B_pushAll_22 : decode prog_3_method_10_code 22 = .ok (.aload_n 0, 1) := by decide +kernel
theorem d_B_pushAll_23 : decode prog_3_method_10_code 23 = .ok (.getfield 15, 3) := by decide +kernel
theorem d_B_pushAll_26 : decode prog_3_method_10_code 26 = .ok (.aload_n 0, 1) := by decide +kernel
theorem d_B_pushAll_27 : decode prog_3_method_10_code 27 = .ok (.getfield 21, 3) := by decide +kernel
theorem d_B_pushAll_30 : decode prog_3_method_10_code 30 = .ok (.iload_n 3, 1) := by decide +kernel
theorem d_B_pushAll_31 : decode prog_3_method_10_code 31 = .ok (.invokestatic 37, 3) := by decide +kernel
theorem d_B_pushAll_34 : decode prog_3_method_10_code 34 = .ok (.aload_n 0, 1) := by decide +kernel
theorem d_B_pushAll_35 : decode prog_3_method_10_code 35 = .ok (.dup, 1) := by decide +kernel
theorem d_B_pushAll_36 : decode prog_3_method_10_code 36 = .ok (.getfield 21, 3) := by decide +kernel
theorem d_B_pushAll_39 : decode prog_3_method_10_code 39 = .ok (.iload_n 3, 1) := by decide +kernel
theorem d_B_pushAll_40 : decode prog_3_method_10_code 40 = .ok (.iadd, 1) := by decide +kernel
theorem d_B_pushAll_41 : decode prog_3_method_10_code 41 = .ok (.putfield 21, 3) := by decide +kernel
theorem d_B_pushAll_44 : decode prog_3_method_10_code 44 = .ok (.return_, 1) := by decide +kernel
theorem d_B_cut_0 : decode prog_3_method_11_code 0 = .ok (.aload_n 0, 1) := by decide +kernel
theorem d_B_cut_1 : decode prog_3_method_11_code 1 = .ok (.iload_n 1, 1) := by decide +kernel
theorem d_B_cut_2 : decode prog_3_method_11_code 2 = .ok (.iload_n 2, 1) := by decide +kernel
theorem d_B_cut_3 : decode prog_3_method_11_code 3 = .ok (.invokevirtual 29, 3) := by decide +kernel
theorem d_B_cut_6 : decode prog_3_method_11_code 6 = .ok (.ifCond .eq 36, 3) := by decide +kernel
theorem d_B_cut_9 : decode prog_3_method_11_code 9 = .ok (.aload_n 0, 1) := by decide +kernel
theorem d_B_cut_10 : decode prog_3_method_11_code 10 = .ok (.getfield 15, 3) := by decide +kernel
theorem d_B_cut_13 : decode prog_3_method_11_code 13 = .ok (.iload_n 1, 1) := by decide +kernel
theorem d_B_cut_14 : decode prog_3_method_11_code 14 = .ok (.iload_n 2, 1) := by decide +kernel
theorem d_B_cut_15 : decode prog_3_method_11_code 15 = .ok (.iadd, 1) := by decide +kernel
theorem d_B_cut_16 : decode prog_3_method_11_code 16 = .ok (.aload_n 0, 1) := by decide +kernel
theorem d_B_cut_17 : decode prog_3_method_11_code 17 = .ok (.getfield 15, 3) := by decide +kernel
theorem d_B_cut_20 : decode prog_3_method_11_code 20 = .ok (.iload_n 1, 1) := by decide +kernel
theorem d_B_cut_21 : decode prog_3_method_11_code 21 = .ok (.aload_n 0, 1) := by decide +kernel
theorem d_B_cut_22 : decode prog_3_method_11_code 22 = .ok (.getfield 21, 3) := by decide +kernel
theorem d_B_cut_25 : decode prog_3_method_11_code 25 = .ok (.iload_n 1, 1) := by decide +kernel
theorem d_B_cut_26 : decode prog_3_method_11_code 26 = .ok (.isub, 1) := by decide +kernel
theorem d_B_cut_27 : decode prog_3_method_11_code 27 = .ok (.iload_n 2, 1) := by decide +kernel
theorem d_B_cut_28 : decode prog_3_method_11_code 28 = .ok (.isub, 1) := by decide +kernel
theorem d_B_cut_29 : decode prog_3_method_11_code 29 = .ok (.invokestatic 37, 3) := by decide +kernel
theorem d_B_cut_32 : decode prog_3_method_11_code 32 = .ok (.aload_n 0, 1) := by decide +kernel
theorem d_B_cut_33 : decode prog_3_method_11_code 33 = .ok (.dup, 1) := by decide +kernel
theorem d_B_cut_34 : decode prog_3_method_11_code 34 = .ok (.getfield 21, 3) := by decide +kernel
theorem d_B_cut_37 : decode prog_3_method_11_code 37 = .ok (.iload_n 2, 1) := by decide +kernel
theorem d_B_cut_38 : decode prog_3_method_11_code 38 = .ok (.isub, 1) := by decide +kernel
theorem d_B_cut_39 : decode prog_3_method_11_code 39 = .ok (.putfield 21, 3) := by decide +kernel
theorem d_B_cut_42 : decode prog_3_method_11_code 42 = .ok (.return_, 1) := by decide +kernel
theorem d_B_number_0 : decode prog_3_method_12_code 0 = .ok (.aload_n 0, 1) := by decide +kernel
theorem d_B_number_1 : decode prog_3_method_12_code 1 = .ok (.iload_n 1, 1) := by decide +kernel
theorem d_B_number_2 : decode prog_3_method_12_code 2 = .ok (.iload_n 2, 1) := by decide +kernel
theorem d_B_number_3 : decode prog_3_method_12_code 3 = .ok (.invokevirtual 29, 3) := by decide +kernel
theorem d_B_number_6 : decode prog_3_method_12_code 6 = .ok (.ifCond .ne 7, 3) := by decide +kernel
theorem d_B_number_9 : decode prog_3_method_12_code 9 = .ok (.ldc2_w 43, 3) := by decide +kernel
theorem d_B_number_12 : decode prog_3_method_12_code 12 = .ok (.lreturn, 1) := by decide +kernel
theorem d_B_number_13 : decode prog_3_method_12_code 13 = .ok (.lconst 0, 1) := by decide +kernel
theorem d_B_number_14 : decode prog_3_method_12_code 14 = .ok (.lstore_n 3, 1) := by decide +kernel
theorem d_B_number_15 : decode prog_3_method_12_code 15 = .ok (.iload_n 2, 1) := by decide +kernel
theorem d_B_number_16 : decode prog_3_method_12_code 16 = .ok (.iconst 1, 1) := by decide +kernel
theorem d_B_number_17 : decode prog_3_method_12_code 17 = .ok (.isub, 1) := by decide +kernel
theorem d_B_number_18 : decode prog_3_method_12_code 18 = .ok (.istore 5, 2) := by decide +kernel
theorem d_B_number_20 : decode prog_3_method_12_code 20 = .ok (.iload 5, 2) := by decide +kernel
theorem d_B_number_22 : decode prog_3_method_12_code 22 = .ok (.ifCond .lt 24, 3) := by decide +kernel
theorem d_B_number_25 : decode prog_3_method_12_code 25 = .ok (.lload_n 3, 1) := by decide +kernel
theorem d_B_number_26 : decode prog_3_method_12_code 26 = .ok (.bipush 8, 2) := by decide +kernel
theorem d_B_number_28 : decode prog_3_method_12_code 28 = .ok (.lshl, 1) := by decide +kernel
theorem d_B_number_29 : decode prog_3_method_12_code 29 = .ok (.aload_n 0, 1) := by decide +kernel
theorem d_B_number_30 : decode prog_3_method_12_code 30 = .ok (.iload_n 1, 1) := by decide +kernel
theorem d_B_number_31 : decode prog_3_method_12_code 31 = .ok (.iload 5, 2) := by decide +kernel
theorem d_B_number_33 : decode prog_3_method_12_code 33 = .ok (.iadd, 1) := by decide +kernel
theorem d_B_number_34 : decode prog_3_method_12_code 34 = .ok (.invokevirtual 45, 3) := by decide +kernel
theorem d_B_number_37 : decode prog_3_method_12_code 37 = .ok (.i2l, 1) := by decide +kernel
theorem d_B_number_38 : decode prog_3_method_12_code 38 = .ok (.lor, 1) := by decide +kernel
theorem d_B_number_39 : decode prog_3_method_12_code 39 = .ok (.lstore_n 3, 1) := by decide +kernel
theorem d_B_number_40 : decode prog_3_method_12_code 40 = .ok (.iinc 5 (-1), 3) := by decide +kernel
theorem d_B_number_43 : decode prog_3_method_12_code 43 = .ok (.goto (-23), 3) := by decide +kernel
theorem d_B_number_46 : decode prog_3_method_12_code 46 = .ok (.lload_n 3, 1) := by decide +kernel
theorem d_B_number_47 : decode prog_3_method_12_code 47 = .ok (.lreturn, 1) := by decide +kernel
theorem d_B_hasMark_0 : decode prog_3_method_13_code 0 = .ok (.iconst 0, 1) := by decide +kernel
theorem d_B_hasMark_1 : decode prog_3_method_13_code 1 = .ok (.istore_n 3, 1) := by decide +kernel
theorem d_B_hasMark_2 : decode prog_3_method_13_code 2 = .ok (.iload_n 3, 1) := by decide +kernel
theorem d_B_hasMark_3 : decode prog_3_method_13_code 3 = .ok (.iconst 4, 1) := by decide +kernel
theorem d_B_hasMark_4 : decode prog_3_method_13_code 4 = .ok (.if_icmp .ge 31, 3) := by decide +kernel
theorem d_B_hasMark_7 : decode prog_3_method_13_code 7 = .ok (.aload_n 0, 1) := by decide +kernel
theorem d_B_hasMark_8 : decode prog_3_method_13_code 8 = .ok (.iload_n 1, 1) := by decide +kernel
theorem d_B_hasMark_9 : decode prog_3_method_13_code 9 = .ok (.iload_n 3, 1) := by decide +kernel
theorem d_B_hasMark_10 : decode prog_3_method_13_code 10 = .ok (.iadd, 1) := by decide +kernel
theorem d_B_hasMark_11 : decode prog_3_method_13_code 11 = .ok (.invokevirtual 45, 3) := by decide +kernel
theorem d_B_hasMark_14 : decode prog_3_method_13_code 14 = .ok (.iload_n 2, 1) := by decide +kernel
theorem d_B_hasMark_15 : decode prog_3_method_13_code 15 = .ok (.bipush 8, 2) := by decide +kernel
theorem d_B_hasMark_17 : decode prog_3_method_13_code 17 = .ok (.iload_n 3, 1) := by decide +kernel
theorem d_B_hasMark_18 : decode prog_3_method_13_code 18 = .ok (.imul, 1) := by decide +kernel
theorem d_B_hasMark_19 : decode prog_3_method_13_code 19 = .ok (.iushr, 1) := by decide +kernel
theorem d_B_hasMark_20 : decode prog_3_method_13_code 20 = .ok (.sipush 255, 3) := by decide +kernel
theorem d_B_hasMark_23 : decode prog_3_method_13_code 23 = .ok (.iand, 1) := by decide +kernel
theorem d_B_hasMark_24 : decode prog_3_method_13_code 24 = .ok (.if_icmp .eq 5, 3) := by decide +kernel
theorem d_B_hasMark_27 : decode prog_3_method_13_code 27 = .ok (.iconst 0, 1) := by decide +kernel
theorem d_B_hasMark_28 : decode prog_3_method_13_code 28 = .ok (.ireturn, 1) := by decide +kernel
theorem d_B_hasMark_29 : decode prog_3_method_13_code 29 = .ok (.iinc 3 1, 3) := by decide +kernel
theorem d_B_hasMark_32 : decode prog_3_method_13_code 32 = .ok (.goto (-30), 3) := by decide +kernel
theorem d_B_hasMark_35 : decode prog_3_method_13_code 35 = .ok (.iconst 1, 1) := by decide +kernel
theorem d_B_hasMark_36 : decode prog_3_method_13_code 36 = .ok (.ireturn, 1) := by decide +kernel
theorem d_B_holds_0 : decode prog_3_method_14_code 0 = .ok (.iload_n 1, 1) := by decide +kernel
theorem d_B_holds_1 : decode prog_3_method_14_code 1 = .ok (.ifCond .lt 29, 3) := by decide +kernel
theorem d_B_holds_4 : decode prog_3_method_14_code 4 = .ok (.iload_n 2, 1) := by decide +kernel
theorem d_B_holds_5 : decode prog_3_method_14_code 5 = .ok (.ifCond .lt 25, 3) := by decide +kernel
theorem d_B_holds_8 : decode prog_3_method_14_code 8 = .ok (.iload_n 2, 1) := by decide +kernel
theorem d_B_holds_9 : decode prog_3_method_14_code 9 = .ok (.aload_n 0, 1) := by decide +kernel
theorem d_B_holds_10 : decode prog_3_method_14_code 10 = .ok (.getfield 21, 3) := by decide +kernel
theorem d_B_holds_13 : decode prog_3_method_14_code 13 = .ok (.if_icmp .gt 17, 3) := by decide +kernel
theorem d_B_holds_16 : decode prog_3_method_14_code 16 = .ok (.iload_n 1, 1) := by decide +kernel
theorem d_B_holds_17 : decode prog_3_method_14_code 17 = .ok (.aload_n 0, 1) := by decide +kernel
theorem d_B_holds_18 : decode prog_3_method_14_code 18 = .ok (.getfield 21, 3) := by decide +kernel
theorem d_B_holds_21 : decode prog_3_method_14_code 21 = .ok (.iload_n 2, 1) := by decide +kernel
theorem d_B_holds_22 : decode prog_3_method_14_code 22 = .ok (.isub, 1) := by decide +kernel
theorem d_B_holds_23 : decode prog_3_method_14_code 23 = .ok (.if_icmp .gt 7, 3) := by decide +kernel
theorem d_B_holds_26 : decode prog_3_method_14_code 26 = .ok (.iconst 1, 1) := by decide +kernel
theorem d_B_holds_27 : decode prog_3_method_14_code 27 = .ok (.goto 4, 3) := by decide +kernel
theorem d_B_holds_30 : decode prog_3_method_14_code 30 = .ok (.iconst 0, 1) := by decide +kernel
theorem d_B_holds_31 : decode prog_3_method_14_code 31 = .ok (.ireturn, 1) := by decide +kernel
theorem t_B_init_0 {l : Launch} {G : mm_G} {b : Nat} {m : mm_Mem} {Q : mm_O → mm_Mem → Prop} {r0 : Nat} {x1 : Int32} {b_1 : Nat} {n_2 : Nat} {fs_7 : List Value} {fs_11 : List Value} (k3 : ¬ (if 0 < x1 then x1 else 0) < 0) (k4 : (if 0 < x1 then x1 else 0).toNatClampNeg = n_2) (k5 : n_2 * 8 ≤ 536870912) (hb6 : n_2 + 1 + b_1 ≤ b) (g8 : (mm_push m (.inl (G.2 0, n_2, .inl (fun _ => 0)))) r0 = .inr (2, fs_7)) (z9 : r0 ≠ 0) (l10 : 0 < fs_7.length) (g12 : (va_up (mm_push m (.inl (G.2 0, n_2, .inl (fun _ => 0)))) r0 (.inr (2, fs_7.set 0 (.ref (mm_n m + 1))))) r0 = .inr (2, fs_11)) (l13 : 1 < fs_11.length) (h14 : Q (.inl none) (va_up (va_up (mm_push m (.inl (G.2 0, n_2, .inl (fun _ => 0)))) r0 (.inr (2, fs_7.set 0 (.ref (mm_n m + 1))))) r0 (.inr (2, fs_11.set 1 (.int 0))))) : mm_W l G k_B_init 0 [(0, .ref r0), (1, .int x1)] [] b m Q := by
  refine mm_aload_n 0 (i := 0) d_B_init_0 rfl rfl ?_
  refine mm_objInit w_33 w_25 w_26 d_B_init_1 (Nat.le_of_ble_eq_true rfl) (Nat.le_of_ble_eq_true rfl) ?_
  refine mm_aload_n 0 (i := 0) d_B_init_4 rfl rfl ?_
  refine mm_iconst d_B_init_5 (v := 0) (by decide) ?_
  refine mm_iload_n 1 (i := 1) d_B_init_6 rfl rfl ?_
  refine mm_math w_34 w_35 w_3 w_36 d_B_init_7 (Nat.le_of_ble_eq_true rfl) (Nat.le_of_ble_eq_true rfl) ?_
  refine mm_newa (t := 0) (ty := .byte) (a0 := .inl (fun _ => 0)) (atype := .byte) w_44 rfl rfl (fun _ => rfl) (fun _ => trivial) (fun _ => rfl) d_B_init_10 k3 k4 (Nat.le_trans (Nat.mul_le_mul_left _ (by decide)) k5) hb6 ?_
  refine mm_putF cc_B 0 (by decide) w_37 d_B_init_12 rfl rfl rfl (fun _ => rfl) (fun _ => rfl) g8 z9 l10 ?_
  refine mm_aload_n 0 (i := 0) d_B_init_15 rfl rfl ?_
  refine mm_iconst d_B_init_16 (v := 0) (by decide) ?_
  refine mm_putf cc_B 1 (by decide) w_38 d_B_init_17 rfl (fun _ => rfl) (fun _ => rfl) g12 z9 l13 ?_
  exact mm_vret d_B_init_20 rfl h14
theorem t_B_size_0 {l : Launch} {G : mm_G} {b : Nat} {m : mm_Mem} {Q : mm_O → mm_Mem → Prop} {r0 : Nat} {fs_1 : List Value} {u_4 : Int32} (g2 : m r0 = .inr (2, fs_1)) (z3 : r0 ≠ 0) (v5 : fs_1[1]? = some (.int u_4)) (h6 : Q (.inl (some (.int u_4))) m) : mm_W l G k_B_size 0 [(0, .ref r0)] [] b m Q := by
  refine mm_aload_n 0 (i := 0) d_B_size_0 rfl rfl ?_
  refine mm_get cc_B 1 (by decide) w_38 d_B_size_1 g2 z3 v5 ?_
  exact mm_iret d_B_size_4 rfl h6
theorem t_B_free_0 {l : Launch} {G : mm_G} {b : Nat} {m : mm_Mem} {Q : mm_O → mm_Mem → Prop} {r0 : Nat} {fs_1 : List Value} {q_4 : Nat} {n_6 : Nat} {f_7 : Nat → Int32} {u_10 : Int32} (g2 : m r0 = .inr (2, fs_1)) (z3 : r0 ≠ 0) (v5 : fs_1[0]? = some (.ref q_4)) (a8 : m q_4 = .inl (G.2 0, n_6, .inl f_7)) (z9 : q_4 ≠ 0) (v11 : fs_1[1]? = some (.int u_10)) (h12 : Q (.inl (some (.int ((nI n_6) - u_10)))) m) : mm_W l G k_B_free 0 [(0, .ref r0)] [] b m Q := by
  refine mm_aload_n 0 (i := 0) d_B_free_0 rfl rfl ?_
  refine mm_get cc_B 0 (by decide) w_37 d_B_free_1 g2 z3 v5 ?_
  refine mm_alen (t := 0) rfl d_B_free_4 a8 z9 ?_
  refine mm_aload_n 0 (i := 0) d_B_free_5 rfl rfl ?_
  refine mm_get cc_B 1 (by decide) w_38 d_B_free_6 g2 z3 v11 ?_
  refine mm_isub d_B_free_9 ?_
  exact mm_iret d_B_free_10 rfl h12
theorem t_B_get_0 {l : Launch} {G : mm_G} {b : Nat} {m : mm_Mem} {Q : mm_O → mm_Mem → Prop} {r0 : Nat} {x1 : Int32} (h1 : (x1 < 0) → mm_W l G k_B_get 12 [] [] b m Q) (h2 : (¬ x1 < 0) → mm_W l G k_B_get 4 [(0, .ref r0), (1, .int x1)] [] b m Q) : mm_W l G k_B_get 0 [(0, .ref r0), (1, .int x1)] [] b m Q := by
  refine mm_iload_n 1 (i := 1) d_B_get_0 rfl rfl ?_
  exact mm_if_lt (tgt := 12) d_B_get_1 (by decide) (fun c => mm_sub [] rfl (h1 c)) (fun c => mm_sub [0, 1] rfl (h2 c))
theorem t_B_get_4 {l : Launch} {G : mm_G} {b : Nat} {m : mm_Mem} {Q : mm_O → mm_Mem → Prop} {r0 : Nat} {x1 : Int32} {fs_1 : List Value} {u_4 : Int32} (g2 : m r0 = .inr (2, fs_1)) (z3 : r0 ≠ 0) (v5 : fs_1[1]? = some (.int u_4)) (h6 : (x1 < u_4) → mm_W l G k_B_get 16 [(0, .ref r0), (1, .int x1)] [] b m Q) (h7 : (¬ x1 < u_4) → mm_W l G k_B_get 12 [] [] b m Q) : mm_W l G k_B_get 4 [(0, .ref r0), (1, .int x1)] [] b m Q := by
  refine mm_iload_n 1 (i := 1) d_B_get_4 rfl rfl ?_
  refine mm_aload_n 0 (i := 0) d_B_get_5 rfl rfl ?_
  refine mm_get cc_B 1 (by decide) w_38 d_B_get_6 g2 z3 v5 ?_
  exact mm_icmp_lt (tgt := 16) d_B_get_9 (by decide) (fun c => mm_sub [0, 1] rfl (h6 c)) (fun c => mm_sub [] rfl (h7 c))
theorem t_B_get_12 {l : Launch} {G : mm_G} {b : Nat} {m : mm_Mem} {Q : mm_O → mm_Mem → Prop}  (h1 : mm_W l G k_B_get 26 [] [.int ((-1))] b m Q) : mm_W l G k_B_get 12 [] [] b m Q := by
  refine mm_iconst d_B_get_12 (v := (-1)) (by decide) ?_
  refine mm_goto (tgt := 26) d_B_get_13 (by decide) ?_
  exact mm_sub [] rfl h1
theorem t_B_get_16 {l : Launch} {G : mm_G} {b : Nat} {m : mm_Mem} {Q : mm_O → mm_Mem → Prop} {r0 : Nat} {x1 : Int32} {fs_1 : List Value} {q_4 : Nat} {n_6 : Nat} {f_7 : Nat → Int32} (g2 : m r0 = .inr (2, fs_1)) (z3 : r0 ≠ 0) (v5 : fs_1[0]? = some (.ref q_4)) (a8 : m q_4 = .inl (G.2 0, n_6, .inl f_7)) (z9 : q_4 ≠ 0) (i10 : vp_in x1 n_6) (h11 : mm_W l G k_B_get 26 [] [.int ((f_7 x1.toNatClampNeg) &&& 255)] b m Q) : mm_W l G k_B_get 16 [(0, .ref r0), (1, .int x1)] [] b m Q := by
  refine mm_aload_n 0 (i := 0) d_B_get_16 rfl rfl ?_
  refine mm_get cc_B 0 (by decide) w_37 d_B_get_17 g2 z3 v5 ?_
  refine mm_iload_n 1 (i := 1) d_B_get_20 rfl rfl ?_
  refine mm_bald d_B_get_21 a8 z9 i10 ?_
  refine mm_sipush d_B_get_22 (v := 255) (by decide) ?_
  refine mm_iand d_B_get_25 ?_
  exact mm_sub [] rfl h11
theorem t_B_get_26 {l : Launch} {G : mm_G} {b : Nat} {m : mm_Mem} {Q : mm_O → mm_Mem → Prop} {xs0 : Int32} (h1 : Q (.inl (some (.int xs0))) m) : mm_W l G k_B_get 26 [] [.int xs0] b m Q := by
  exact mm_iret d_B_get_26 rfl h1
theorem t_B_set_0 {l : Launch} {G : mm_G} {b : Nat} {m : mm_Mem} {Q : mm_O → mm_Mem → Prop} {r0 : Nat} {x1 : Int32} {x2 : Int32} (h1 : (x1 < 0) → mm_W l G k_B_set 20 [] [] b m Q) (h2 : (¬ x1 < 0) → mm_W l G k_B_set 4 [(0, .ref r0), (1, .int x1), (2, .int x2)] [] b m Q) : mm_W l G k_B_set 0 [(0, .ref r0), (1, .int x1), (2, .int x2)] [] b m Q := by
  refine mm_iload_n 1 (i := 1) d_B_set_0 rfl rfl ?_
  exact mm_if_lt (tgt := 20) d_B_set_1 (by decide) (fun c => mm_sub [] rfl (h1 c)) (fun c => mm_sub [0, 1, 2] rfl (h2 c))
theorem t_B_set_4 {l : Launch} {G : mm_G} {b : Nat} {m : mm_Mem} {Q : mm_O → mm_Mem → Prop} {r0 : Nat} {x1 : Int32} {x2 : Int32} {fs_1 : List Value} {u_4 : Int32} (g2 : m r0 = .inr (2, fs_1)) (z3 : r0 ≠ 0) (v5 : fs_1[1]? = some (.int u_4)) (h6 : (u_4 ≤ x1) → mm_W l G k_B_set 20 [] [] b m Q) (h7 : (¬ u_4 ≤ x1) → mm_W l G k_B_set 12 [(0, .ref r0), (1, .int x1), (2, .int x2)] [] b m Q) : mm_W l G k_B_set 4 [(0, .ref r0), (1, .int x1), (2, .int x2)] [] b m Q := by
  refine mm_iload_n 1 (i := 1) d_B_set_4 rfl rfl ?_
  refine mm_aload_n 0 (i := 0) d_B_set_5 rfl rfl ?_
  refine mm_get cc_B 1 (by decide) w_38 d_B_set_6 g2 z3 v5 ?_
  exact mm_icmp_ge (tgt := 20) d_B_set_9 (by decide) (fun c => mm_sub [] rfl (h6 c)) (fun c => mm_sub [0, 1, 2] rfl (h7 c))
theorem t_B_set_12 {l : Launch} {G : mm_G} {b : Nat} {m : mm_Mem} {Q : mm_O → mm_Mem → Prop} {r0 : Nat} {x1 : Int32} {x2 : Int32} {fs_1 : List Value} {q_4 : Nat} {n_6 : Nat} {f_7 : Nat → Int32} (g2 : m r0 = .inr (2, fs_1)) (z3 : r0 ≠ 0) (v5 : fs_1[0]? = some (.ref q_4)) (a8 : m q_4 = .inl (G.2 0, n_6, .inl f_7)) (z9 : q_4 ≠ 0) (i10 : vp_in x1 n_6) (h11 : mm_W l G k_B_set 20 [] [] b (va_up m q_4 (.inl (G.2 0, n_6, .inl (upd f_7 x1.toNatClampNeg (vp_nar .byte x2.toInt8.toInt32))))) Q) : mm_W l G k_B_set 12 [(0, .ref r0), (1, .int x1), (2, .int x2)] [] b m Q := by
  refine mm_aload_n 0 (i := 0) d_B_set_12 rfl rfl ?_
  refine mm_get cc_B 0 (by decide) w_37 d_B_set_13 g2 z3 v5 ?_
  refine mm_iload_n 1 (i := 1) d_B_set_16 rfl rfl ?_
  refine mm_iload_n 2 (i := 2) d_B_set_17 rfl rfl ?_
  refine mm_i2b d_B_set_18 ?_
  refine mm_bast d_B_set_19 a8 z9 i10 ?_
  exact mm_sub [] rfl h11
theorem t_B_set_20 {l : Launch} {G : mm_G} {b : Nat} {m : mm_Mem} {Q : mm_O → mm_Mem → Prop}  (h1 : Q (.inl none) m) : mm_W l G k_B_set 20 [] [] b m Q := by
  exact mm_vret d_B_set_20 rfl h1
theorem t_B_keep_0 {l : Launch} {G : mm_G} {b : Nat} {m : mm_Mem} {Q : mm_O → mm_Mem → Prop} {r0 : Nat} {x1 : Int32} (h1 : (x1 < 0) → mm_W l G k_B_keep 17 [] [] b m Q) (h2 : (¬ x1 < 0) → mm_W l G k_B_keep 4 [(0, .ref r0), (1, .int x1)] [] b m Q) : mm_W l G k_B_keep 0 [(0, .ref r0), (1, .int x1)] [] b m Q := by
  refine mm_iload_n 1 (i := 1) d_B_keep_0 rfl rfl ?_
  exact mm_if_lt (tgt := 17) d_B_keep_1 (by decide) (fun c => mm_sub [] rfl (h1 c)) (fun c => mm_sub [0, 1] rfl (h2 c))
theorem t_B_keep_4 {l : Launch} {G : mm_G} {b : Nat} {m : mm_Mem} {Q : mm_O → mm_Mem → Prop} {r0 : Nat} {x1 : Int32} {fs_1 : List Value} {u_4 : Int32} (g2 : m r0 = .inr (2, fs_1)) (z3 : r0 ≠ 0) (v5 : fs_1[1]? = some (.int u_4)) (h6 : (u_4 < x1) → mm_W l G k_B_keep 17 [] [] b m Q) (h7 : (¬ u_4 < x1) → mm_W l G k_B_keep 12 [(0, .ref r0), (1, .int x1)] [] b m Q) : mm_W l G k_B_keep 4 [(0, .ref r0), (1, .int x1)] [] b m Q := by
  refine mm_iload_n 1 (i := 1) d_B_keep_4 rfl rfl ?_
  refine mm_aload_n 0 (i := 0) d_B_keep_5 rfl rfl ?_
  refine mm_get cc_B 1 (by decide) w_38 d_B_keep_6 g2 z3 v5 ?_
  exact mm_icmp_gt (tgt := 17) d_B_keep_9 (by decide) (fun c => mm_sub [] rfl (h6 c)) (fun c => mm_sub [0, 1] rfl (h7 c))
theorem t_B_keep_12 {l : Launch} {G : mm_G} {b : Nat} {m : mm_Mem} {Q : mm_O → mm_Mem → Prop} {r0 : Nat} {x1 : Int32} {fs_1 : List Value} (g2 : m r0 = .inr (2, fs_1)) (z3 : r0 ≠ 0) (l4 : 1 < fs_1.length) (h5 : mm_W l G k_B_keep 17 [] [] b (va_up m r0 (.inr (2, fs_1.set 1 (.int x1)))) Q) : mm_W l G k_B_keep 12 [(0, .ref r0), (1, .int x1)] [] b m Q := by
  refine mm_aload_n 0 (i := 0) d_B_keep_12 rfl rfl ?_
  refine mm_iload_n 1 (i := 1) d_B_keep_13 rfl rfl ?_
  refine mm_putf cc_B 1 (by decide) w_38 d_B_keep_14 rfl (fun _ => rfl) (fun _ => rfl) g2 z3 l4 ?_
  exact mm_sub [] rfl h5
theorem t_B_keep_17 {l : Launch} {G : mm_G} {b : Nat} {m : mm_Mem} {Q : mm_O → mm_Mem → Prop}  (h1 : Q (.inl none) m) : mm_W l G k_B_keep 17 [] [] b m Q := by
  exact mm_vret d_B_keep_17 rfl h1
theorem t_B_push_0 {l : Launch} {G : mm_G} {b : Nat} {m : mm_Mem} {Q : mm_O → mm_Mem → Prop} {r0 : Nat} {x1 : Int32} {fs_1 : List Value} {u_4 : Int32} {q_6 : Nat} {n_8 : Nat} {f_9 : Nat → Int32} (g2 : m r0 = .inr (2, fs_1)) (z3 : r0 ≠ 0) (v5 : fs_1[1]? = some (.int u_4)) (v7 : fs_1[0]? = some (.ref q_6)) (a10 : m q_6 = .inl (G.2 0, n_8, .inl f_9)) (z11 : q_6 ≠ 0) (h12 : ((nI n_8) ≤ u_4) → mm_W l G k_B_push 33 [] [] b m Q) (h13 : (¬ (nI n_8) ≤ u_4) → mm_W l G k_B_push 12 [(0, .ref r0), (1, .int x1)] [] b m Q) : mm_W l G k_B_push 0 [(0, .ref r0), (1, .int x1)] [] b m Q := by
  refine mm_aload_n 0 (i := 0) d_B_push_0 rfl rfl ?_
  refine mm_get cc_B 1 (by decide) w_38 d_B_push_1 g2 z3 v5 ?_
  refine mm_aload_n 0 (i := 0) d_B_push_4 rfl rfl ?_
  refine mm_get cc_B 0 (by decide) w_37 d_B_push_5 g2 z3 v7 ?_
  refine mm_alen (t := 0) rfl d_B_push_8 a10 z11 ?_
  exact mm_icmp_ge (tgt := 33) d_B_push_9 (by decide) (fun c => mm_sub [] rfl (h12 c)) (fun c => mm_sub [0, 1] rfl (h13 c))
theorem t_B_push_12 {l : Launch} {G : mm_G} {b : Nat} {m : mm_Mem} {Q : mm_O → mm_Mem → Prop} {r0 : Nat} {x1 : Int32} {fs_1 : List Value} {q_4 : Nat} {u_6 : Int32} {n_8 : Nat} {f_9 : Nat → Int32} {fs_13 : List Value} {u_15 : Int32} {m_18 : mm_Mem} (g2 : m r0 = .inr (2, fs_1)) (z3 : r0 ≠ 0) (v5 : fs_1[0]? = some (.ref q_4)) (v7 : fs_1[1]? = some (.int u_6)) (a10 : m q_4 = .inl (G.2 0, n_8, .inl f_9)) (z11 : q_4 ≠ 0) (i12 : vp_in u_6 n_8) (g14 : (va_up m q_4 (.inl (G.2 0, n_8, .inl (upd f_9 u_6.toNatClampNeg (vp_nar .byte x1.toInt8.toInt32))))) r0 = .inr (2, fs_13)) (v16 : fs_13[1]? = some (.int u_15)) (l17 : 1 < fs_13.length) (q19 : m_18 = va_up (va_up m q_4 (.inl (G.2 0, n_8, .inl (upd f_9 u_6.toNatClampNeg (vp_nar .byte x1.toInt8.toInt32))))) r0 (.inr (2, fs_13.set 1 (.int (u_15 + 1))))) (h20 : mm_W l G k_B_push 33 [] [] b m_18 Q) : mm_W l G k_B_push 12 [(0, .ref r0), (1, .int x1)] [] b m Q := by
  refine mm_aload_n 0 (i := 0) d_B_push_12 rfl rfl ?_
  refine mm_get cc_B 0 (by decide) w_37 d_B_push_13 g2 z3 v5 ?_
  refine mm_aload_n 0 (i := 0) d_B_push_16 rfl rfl ?_
  refine mm_get cc_B 1 (by decide) w_38 d_B_push_17 g2 z3 v7 ?_
  refine mm_iload_n 1 (i := 1) d_B_push_20 rfl rfl ?_
  refine mm_i2b d_B_push_21 ?_
  refine mm_bast d_B_push_22 a10 z11 i12 ?_
  refine mm_aload_n 0 (i := 0) d_B_push_23 rfl rfl ?_
  refine mm_dup d_B_push_24 rfl ?_
  refine mm_get cc_B 1 (by decide) w_38 d_B_push_25 g14 z3 v16 ?_
  refine mm_iconst d_B_push_28 (v := 1) (by decide) ?_
  refine mm_iadd d_B_push_29 ?_
  refine mm_putf cc_B 1 (by decide) w_38 d_B_push_30 rfl (fun _ => rfl) (fun _ => rfl) g14 z3 l17 ?_
  refine mm_eqm q19 ?_
  exact mm_sub [] rfl h20
theorem t_B_push_33 {l : Launch} {G : mm_G} {b : Nat} {m : mm_Mem} {Q : mm_O → mm_Mem → Prop}  (h1 : Q (.inl none) m) : mm_W l G k_B_push 33 [] [] b m Q := by
  exact mm_vret d_B_push_33 rfl h1
theorem t_B_pushWord_0 {l : Launch} {G : mm_G} {b : Nat} {m : mm_Mem} {Q : mm_O → mm_Mem → Prop} {r0 : Nat} {x1 : Int32} (h1 : mm_W l G k_B_pushWord 3 [(0, .ref r0), (1, .int x1), (2, .int 24)] [] b m Q) : mm_W l G k_B_pushWord 0 [(0, .ref r0), (1, .int x1)] [] b m Q := by
  refine mm_bipush d_B_pushWord_0 (v := 24) (by decide) ?_
  refine mm_istore_n (i := 2) d_B_pushWord_2 rfl (Nat.le_of_ble_eq_true rfl) (lv2 := [(2, .int 24), (0, .ref r0), (1, .int x1)]) rfl ?_
  exact mm_sub [1, 2, 0] rfl h1
theorem t_B_pushWord_3 {l : Launch} {G : mm_G} {b : Nat} {m : mm_Mem} {Q : mm_O → mm_Mem → Prop} {r0 : Nat} {x1 : Int32} {x2 : Int32} (h1 : (x2 < 0) → mm_W l G k_B_pushWord 20 [] [] b m Q) (h2 : (¬ x2 < 0) → mm_W l G k_B_pushWord 7 [(0, .ref r0), (1, .int x1), (2, .int x2)] [] b m Q) : mm_W l G k_B_pushWord 3 [(0, .ref r0), (1, .int x1), (2, .int x2)] [] b m Q := by
  refine mm_iload_n 2 (i := 2) d_B_pushWord_3 rfl rfl ?_
  exact mm_if_lt (tgt := 20) d_B_pushWord_4 (by decide) (fun c => mm_sub [] rfl (h1 c)) (fun c => mm_sub [0, 1, 2] rfl (h2 c))
theorem t_B_pushWord_7 {l : Launch} {G : mm_G} {b : Nat} {m : mm_Mem} {Q : mm_O → mm_Mem → Prop} {r0 : Nat} {x1 : Int32} {x2 : Int32} {b_1 : Nat} {b_2 : Nat} {m_4 : mm_Mem} {fs_5 : List Value} (hb3 : b_1 + b_2 ≤ b) (g6 : m r0 = .inr (2, fs_5)) (z7 : r0 ≠ 0) (M8 : mm_W l G k_B_push 0 (lv_args 0 [.ref r0, .int ((x1.toUInt32 >>> (x2.toUInt32 &&& Int32.toUInt32 31)).toInt32)]) [] b_1 m (mm_is (.inl none) m_4)) (h9 : mm_W l G k_B_pushWord 3 [(0, .ref r0), (1, .int x1), (2, .int (x2 + (-8)))] [] b_2 m_4 Q) : mm_W l G k_B_pushWord 7 [(0, .ref r0), (1, .int x1), (2, .int x2)] [] b m Q := by
  refine mm_aload_n 0 (i := 0) d_B_pushWord_7 rfl rfl ?_
  refine mm_iload_n 1 (i := 1) d_B_pushWord_8 rfl rfl ?_
  refine mm_iload_n 2 (i := 2) d_B_pushWord_9 rfl rfl ?_
  refine mm_iushr d_B_pushWord_10 ?_
  refine mm_callV (as := [.int ((x1.toUInt32 >>> (x2.toUInt32 &&& Int32.toUInt32 31)).toInt32)]) (st := []) (b2 := b_2) ca_B_push w_376 w_377 w_378 cc_B.1 rfl d_B_pushWord_11 rfl (Nat.le_of_ble_eq_true rfl) (Nat.le_of_ble_eq_true rfl) (Nat.le_of_ble_eq_true rfl) hb3 g6 z7 M8 (fun E _ ⟨c, _⟩ => nomatch c) (fun v _ ⟨c, e⟩ => ?_)
  cases c
  rw [e]
  show mm_W l G k_B_pushWord 14 [(0, .ref r0), (1, .int x1), (2, .int x2)] [] b_2 m_4 Q
  refine mm_iinc 2 (i := 2) d_B_pushWord_14 rfl (v := x2 + (-8)) rfl (Nat.le_of_ble_eq_true rfl) (lv2 := [(2, .int (x2 + (-8))), (0, .ref r0), (1, .int x1)]) rfl ?_
  refine mm_goto (tgt := 3) d_B_pushWord_17 (by decide) ?_
  exact mm_sub [1, 2, 0] rfl h9
theorem t_B_pushWord_20 {l : Launch} {G : mm_G} {b : Nat} {m : mm_Mem} {Q : mm_O → mm_Mem → Prop}  (h1 : Q (.inl none) m) : mm_W l G k_B_pushWord 20 [] [] b m Q := by
  exact mm_vret d_B_pushWord_20 rfl h1
theorem t_B_pushNumber_0 {l : Launch} {G : mm_G} {b : Nat} {m : mm_Mem} {Q : mm_O → mm_Mem → Prop} {r0 : Nat} {x1 : Int32} {x2 : Int32} (h1 : mm_W l G k_B_pushNumber 2 [(0, .ref r0), (1, .int x1), (2, .int x2), (3, .int 0)] [] b m Q) : mm_W l G k_B_pushNumber 0 [(0, .ref r0), (1, .int x1), (2, .int x2)] [] b m Q := by
  refine mm_iconst d_B_pushNumber_0 (v := 0) (by decide) ?_
  refine mm_istore_n (i := 3) d_B_pushNumber_1 rfl (Nat.le_of_ble_eq_true rfl) (lv2 := [(3, .int 0), (0, .ref r0), (1, .int x1), (2, .int x2)]) rfl ?_
  exact mm_sub [1, 2, 3, 0] rfl h1
theorem t_B_pushNumber_2 {l : Launch} {G : mm_G} {b : Nat} {m : mm_Mem} {Q : mm_O → mm_Mem → Prop} {r0 : Nat} {x1 : Int32} {x2 : Int32} {x3 : Int32} (h1 : (x2 ≤ x3) → mm_W l G k_B_pushNumber 28 [] [] b m Q) (h2 : (¬ x2 ≤ x3) → mm_W l G k_B_pushNumber 7 [(0, .ref r0), (1, .int x1), (2, .int x2), (3, .int x3)] [] b m Q) : mm_W l G k_B_pushNumber 2 [(0, .ref r0), (1, .int x1), (2, .int x2), (3, .int x3)] [] b m Q := by
  refine mm_iload_n 3 (i := 3) d_B_pushNumber_2 rfl rfl ?_
  refine mm_iload_n 2 (i := 2) d_B_pushNumber_3 rfl rfl ?_
  exact mm_icmp_ge (tgt := 28) d_B_pushNumber_4 (by decide) (fun c => mm_sub [] rfl (h1 c)) (fun c => mm_sub [0, 1, 2, 3] rfl (h2 c))
theorem t_B_pushNumber_7 {l : Launch} {G : mm_G} {b : Nat} {m : mm_Mem} {Q : mm_O → mm_Mem → Prop} {r0 : Nat} {x1 : Int32} {x2 : Int32} {x3 : Int32} (h1 : (4 ≤ x3) → mm_W l G k_B_pushNumber 28 [] [] b m Q) (h2 : (¬ 4 ≤ x3) → mm_W l G k_B_pushNumber 12 [(0, .ref r0), (1, .int x1), (2, .int x2), (3, .int x3)] [] b m Q) : mm_W l G k_B_pushNumber 7 [(0, .ref r0), (1, .int x1), (2, .int x2), (3, .int x3)] [] b m Q := by
  refine mm_iload_n 3 (i := 3) d_B_pushNumber_7 rfl rfl ?_
  refine mm_iconst d_B_pushNumber_8 (v := 4) (by decide) ?_
  exact mm_icmp_ge (tgt := 28) d_B_pushNumber_9 (by decide) (fun c => mm_sub [] rfl (h1 c)) (fun c => mm_sub [0, 1, 2, 3] rfl (h2 c))
theorem t_B_pushNumber_12 {l : Launch} {G : mm_G} {b : Nat} {m : mm_Mem} {Q : mm_O → mm_Mem → Prop} {r0 : Nat} {x1 : Int32} {x2 : Int32} {x3 : Int32} {b_1 : Nat} {b_2 : Nat} {m_4 : mm_Mem} {fs_5 : List Value} (hb3 : b_1 + b_2 ≤ b) (g6 : m r0 = .inr (2, fs_5)) (z7 : r0 ≠ 0) (M8 : mm_W l G k_B_push 0 (lv_args 0 [.ref r0, .int ((x1.toUInt32 >>> ((8 * x3).toUInt32 &&& Int32.toUInt32 31)).toInt32)]) [] b_1 m (mm_is (.inl none) m_4)) (h9 : mm_W l G k_B_pushNumber 2 [(0, .ref r0), (1, .int x1), (2, .int x2), (3, .int (x3 + 1))] [] b_2 m_4 Q) : mm_W l G k_B_pushNumber 12 [(0, .ref r0), (1, .int x1), (2, .int x2), (3, .int x3)] [] b m Q := by
  refine mm_aload_n 0 (i := 0) d_B_pushNumber_12 rfl rfl ?_
  refine mm_iload_n 1 (i := 1) d_B_pushNumber_13 rfl rfl ?_
  refine mm_bipush d_B_pushNumber_14 (v := 8) (by decide) ?_
  refine mm_iload_n 3 (i := 3) d_B_pushNumber_16 rfl rfl ?_
  refine mm_imul d_B_pushNumber_17 ?_
  refine mm_iushr d_B_pushNumber_18 ?_
  refine mm_callV (as := [.int ((x1.toUInt32 >>> ((8 * x3).toUInt32 &&& Int32.toUInt32 31)).toInt32)]) (st := []) (b2 := b_2) ca_B_push w_376 w_377 w_378 cc_B.1 rfl d_B_pushNumber_19 rfl (Nat.le_of_ble_eq_true rfl) (Nat.le_of_ble_eq_true rfl) (Nat.le_of_ble_eq_true rfl) hb3 g6 z7 M8 (fun E _ ⟨c, _⟩ => nomatch c) (fun v _ ⟨c, e⟩ => ?_)
  cases c
  rw [e]
  show mm_W l G k_B_pushNumber 22 [(0, .ref r0), (1, .int x1), (2, .int x2), (3, .int x3)] [] b_2 m_4 Q
  refine mm_iinc 3 (i := 3) d_B_pushNumber_22 rfl (v := x3 + 1) rfl (Nat.le_of_ble_eq_true rfl) (lv2 := [(3, .int (x3 + 1)), (0, .ref r0), (1, .int x1), (2, .int x2)]) rfl ?_
  refine mm_goto (tgt := 2) d_B_pushNumber_25 (by decide) ?_
  exact mm_sub [1, 2, 3, 0] rfl h9
theorem t_B_pushNumber_28 {l : Launch} {G : mm_G} {b : Nat} {m : mm_Mem} {Q : mm_O → mm_Mem → Prop}  (h1 : Q (.inl none) m) : mm_W l G k_B_pushNumber 28 [] [] b m Q := by
  exact mm_vret d_B_pushNumber_28 rfl h1
theorem t_B_pushAll_0 {l : Launch} {G : mm_G} {b : Nat} {m : mm_Mem} {Q : mm_O → mm_Mem → Prop} {r0 : Nat} {r1 : Nat} {x2 : Int32} {x3 : Int32} {b_1 : Nat} {b_2 : Nat} {m_4 : mm_Mem} {x_5 : Int32} {fs_6 : List Value} (hb3 : b_1 + b_2 ≤ b) (g7 : m r1 = .inr (2, fs_6)) (z8 : r1 ≠ 0) (M9 : mm_W l G k_B_holds 0 (lv_args 0 [.ref r1, .int x2, .int x3]) [] b_1 m (mm_is (.inl (some (.int x_5))) m_4)) (h10 : (x_5 = 0) → mm_W l G k_B_pushAll 44 [] [] b_2 m_4 Q) (h11 : (¬ x_5 = 0) → mm_W l G k_B_pushAll 9 [(0, .ref r0), (1, .ref r1), (2, .int x2), (3, .int x3)] [] b_2 m_4 Q) : mm_W l G k_B_pushAll 0 [(0, .ref r0), (1, .ref r1), (2, .int x2), (3, .int x3)] [] b m Q := by
  refine mm_aload_n 1 (i := 1) d_B_pushAll_0 rfl rfl ?_
  refine mm_iload_n 2 (i := 2) d_B_pushAll_1 rfl rfl ?_
  refine mm_iload_n 3 (i := 3) d_B_pushAll_2 rfl rfl ?_
  refine mm_callV (as := [.int x2, .int x3]) (st := []) (b2 := b_2) ca_B_holds w_488 w_490 v_B_holds cc_B.1 rfl d_B_pushAll_3 rfl (Nat.le_of_ble_eq_true rfl) (Nat.le_of_ble_eq_true rfl) (Nat.le_of_ble_eq_true rfl) hb3 g7 z8 M9 (fun E _ ⟨c, _⟩ => nomatch c) (fun v _ ⟨c, e⟩ => ?_)
  cases c
  rw [e]
  show mm_W l G k_B_pushAll 6 [(0, .ref r0), (1, .ref r1), (2, .int x2), (3, .int x3)] [.int x_5] b_2 m_4 Q
  exact mm_if_eq (tgt := 44) d_B_pushAll_6 (by decide) (fun c => mm_sub [] rfl (h10 c)) (fun c => mm_sub [0, 1, 2, 3] rfl (h11 c))
theorem t_B_pushAll_9 {l : Launch} {G : mm_G} {b : Nat} {m : mm_Mem} {Q : mm_O → mm_Mem → Prop} {r0 : Nat} {r1 : Nat} {x2 : Int32} {x3 : Int32} {b_1 : Nat} {b_2 : Nat} {m_4 : mm_Mem} {x_5 : Int32} {fs_6 : List Value} (hb3 : b_1 + b_2 ≤ b) (g7 : m r0 = .inr (2, fs_6)) (z8 : r0 ≠ 0) (M9 : mm_W l G k_B_free 0 (lv_args 0 [.ref r0]) [] b_1 m (mm_is (.inl (some (.int x_5))) m_4)) (h10 : (x_5 < x3) → mm_W l G k_B_pushAll 44 [] [] b_2 m_4 Q) (h11 : (¬ x_5 < x3) → mm_W l G k_B_pushAll 17 [(0, .ref r0), (1, .ref r1), (2, .int x2), (3, .int x3)] [] b_2 m_4 Q) : mm_W l G k_B_pushAll 9 [(0, .ref r0), (1, .ref r1), (2, .int x2), (3, .int x3)] [] b m Q := by
  refine mm_iload_n 3 (i := 3) d_B_pushAll_9 rfl rfl ?_
  refine mm_aload_n 0 (i := 0) d_B_pushAll_10 rfl rfl ?_
  refine mm_callV (as := []) (st := [.int x3]) (b2 := b_2) ca_B_free w_492 w_302 w_303 cc_B.1 rfl d_B_pushAll_11 rfl (Nat.le_of_ble_eq_true rfl) (Nat.le_of_ble_eq_true rfl) (Nat.le_of_ble_eq_true rfl) hb3 g7 z8 M9 (fun E _ ⟨c, _⟩ => nomatch c) (fun v _ ⟨c, e⟩ => ?_)
  cases c
  rw [e]
  show mm_W l G k_B_pushAll 14 [(0, .ref r0), (1, .ref r1), (2, .int x2), (3, .int x3)] [.int x_5, .int x3] b_2 m_4 Q
  exact mm_icmp_gt (tgt := 44) d_B_pushAll_14 (by decide) (fun c => mm_sub [] rfl (h10 c)) (fun c => mm_sub [0, 1, 2, 3] rfl (h11 c))
theorem t_B_pushAll_17 {l : Launch} {G : mm_G} {b : Nat} {m : mm_Mem} {Q : mm_O → mm_Mem → Prop} {r0 : Nat} {r1 : Nat} {x2 : Int32} {x3 : Int32} {fs_1 : List Value} {q_4 : Nat} {fs_6 : List Value} {q_9 : Nat} {u_11 : Int32} {n_13 : Nat} {f_14 : Nat → Int32} {n_16 : Nat} {f_17 : Nat → Int32} {fs_27 : List Value} {u_29 : Int32} {m_32 : mm_Mem} (g2 : m r1 = .inr (2, fs_1)) (z3 : r1 ≠ 0) (v5 : fs_1[0]? = some (.ref q_4)) (g7 : m r0 = .inr (2, fs_6)) (z8 : r0 ≠ 0) (v10 : fs_6[0]? = some (.ref q_9)) (v12 : fs_6[1]? = some (.int u_11)) (a15 : m q_4 = .inl (G.2 0, n_13, .inl f_14)) (a18 : m q_9 = .inl (G.2 0, n_16, .inl f_17)) (z19 : q_4 ≠ 0) (z20 : q_9 ≠ 0) (k21 : ¬ x2 < 0) (k22 : ¬ u_11 < 0) (k23 : ¬ x3 < 0) (k24 : x2.toNatClampNeg + x3.toNatClampNeg ≤ n_13) (k25 : u_11.toNatClampNeg + x3.toNatClampNeg ≤ n_16) (k26 : ∀ i, i < x3.toNatClampNeg → fits .byte (.int (f_14 (x2.toNatClampNeg + i))) = true) (g28 : (va_up m q_9 (.inl (G.2 0, n_16, .inl (va_cpy f_14 f_17 x2.toNatClampNeg u_11.toNatClampNeg x3.toNatClampNeg)))) r0 = .inr (2, fs_27)) (v30 : fs_27[1]? = some (.int u_29)) (l31 : 1 < fs_27.length) (q33 : m_32 = va_up (va_up m q_9 (.inl (G.2 0, n_16, .inl (va_cpy f_14 f_17 x2.toNatClampNeg u_11.toNatClampNeg x3.toNatClampNeg)))) r0 (.inr (2, fs_27.set 1 (.int (u_29 + x3))))) (h34 : mm_W l G k_B_pushAll 44 [] [] b m_32 Q) : mm_W l G k_B_pushAll 17 [(0, .ref r0), (1, .ref r1), (2, .int x2), (3, .int x3)] [] b m Q := by
  refine mm_aload_n 1 (i := 1) d_B_pushAll_17 rfl rfl ?_
  refine mm_get cc_B 0 (by decide) w_37 d_B_pushAll_18 g2 z3 v5 ?_
  refine mm_iload_n 2 (i := 2) d_B_pushAll_21 rfl rfl ?_
  refine mm_aload_n 0 (i := 0) d_B_pushAll_22 rfl rfl ?_
  refine mm_get cc_B 0 (by decide) w_37 d_B_pushAll_23 g7 z8 v10 ?_
  refine mm_aload_n 0 (i := 0) d_B_pushAll_26 rfl rfl ?_
  refine mm_get cc_B 1 (by decide) w_38 d_B_pushAll_27 g7 z8 v12 ?_
  refine mm_iload_n 3 (i := 3) d_B_pushAll_30 rfl rfl ?_
  refine mm_copyb (t := 0) rfl rfl w_493 w_495 w_494 w_18 d_B_pushAll_31 (Nat.le_of_ble_eq_true rfl) (Nat.le_of_ble_eq_true rfl) a15 z19 a18 z20 k21 k22 k23 k24 k25 k26 ?_
  refine mm_aload_n 0 (i := 0) d_B_pushAll_34 rfl rfl ?_
  refine mm_dup d_B_pushAll_35 rfl ?_
  refine mm_get cc_B 1 (by decide) w_38 d_B_pushAll_36 g28 z8 v30 ?_
  refine mm_iload_n 3 (i := 3) d_B_pushAll_39 rfl rfl ?_
  refine mm_iadd d_B_pushAll_40 ?_
  refine mm_putf cc_B 1 (by decide) w_38 d_B_pushAll_41 rfl (fun _ => rfl) (fun _ => rfl) g28 z8 l31 ?_
  refine mm_eqm q33 ?_
  exact mm_sub [] rfl h34
theorem t_B_pushAll_44 {l : Launch} {G : mm_G} {b : Nat} {m : mm_Mem} {Q : mm_O → mm_Mem → Prop}  (h1 : Q (.inl none) m) : mm_W l G k_B_pushAll 44 [] [] b m Q := by
  exact mm_vret d_B_pushAll_44 rfl h1
theorem t_B_cut_0 {l : Launch} {G : mm_G} {b : Nat} {m : mm_Mem} {Q : mm_O → mm_Mem → Prop} {r0 : Nat} {x1 : Int32} {x2 : Int32} {b_1 : Nat} {b_2 : Nat} {m_4 : mm_Mem} {x_5 : Int32} {fs_6 : List Value} (hb3 : b_1 + b_2 ≤ b) (g7 : m r0 = .inr (2, fs_6)) (z8 : r0 ≠ 0) (M9 : mm_W l G k_B_holds 0 (lv_args 0 [.ref r0, .int x1, .int x2]) [] b_1 m (mm_is (.inl (some (.int x_5))) m_4)) (h10 : (x_5 = 0) → mm_W l G k_B_cut 42 [] [] b_2 m_4 Q) (h11 : (¬ x_5 = 0) → mm_W l G k_B_cut 9 [(0, .ref r0), (1, .int x1), (2, .int x2)] [] b_2 m_4 Q) : mm_W l G k_B_cut 0 [(0, .ref r0), (1, .int x1), (2, .int x2)] [] b m Q := by
  refine mm_aload_n 0 (i := 0) d_B_cut_0 rfl rfl ?_
  refine mm_iload_n 1 (i := 1) d_B_cut_1 rfl rfl ?_
  refine mm_iload_n 2 (i := 2) d_B_cut_2 rfl rfl ?_
  refine mm_callV (as := [.int x1, .int x2]) (st := []) (b2 := b_2) ca_B_holds w_488 w_490 v_B_holds cc_B.1 rfl d_B_cut_3 rfl (Nat.le_of_ble_eq_true rfl) (Nat.le_of_ble_eq_true rfl) (Nat.le_of_ble_eq_true rfl) hb3 g7 z8 M9 (fun E _ ⟨c, _⟩ => nomatch c) (fun v _ ⟨c, e⟩ => ?_)
  cases c
  rw [e]
  show mm_W l G k_B_cut 6 [(0, .ref r0), (1, .int x1), (2, .int x2)] [.int x_5] b_2 m_4 Q
  exact mm_if_eq (tgt := 42) d_B_cut_6 (by decide) (fun c => mm_sub [] rfl (h10 c)) (fun c => mm_sub [0, 1, 2] rfl (h11 c))
theorem t_B_cut_9 {l : Launch} {G : mm_G} {b : Nat} {m : mm_Mem} {Q : mm_O → mm_Mem → Prop} {r0 : Nat} {x1 : Int32} {x2 : Int32} {fs_1 : List Value} {q_4 : Nat} {u_6 : Int32} {n_8 : Nat} {f_9 : Nat → Int32} {fs_18 : List Value} {u_20 : Int32} {m_23 : mm_Mem} (g2 : m r0 = .inr (2, fs_1)) (z3 : r0 ≠ 0) (v5 : fs_1[0]? = some (.ref q_4)) (v7 : fs_1[1]? = some (.int u_6)) (a10 : m q_4 = .inl (G.2 0, n_8, .inl f_9)) (z11 : q_4 ≠ 0) (k12 : ¬ (x1 + x2) < 0) (k13 : ¬ x1 < 0) (k14 : ¬ ((u_6 - x1) - x2) < 0) (k15 : (x1 + x2).toNatClampNeg + ((u_6 - x1) - x2).toNatClampNeg ≤ n_8) (k16 : x1.toNatClampNeg + ((u_6 - x1) - x2).toNatClampNeg ≤ n_8) (k17 : ∀ i, i < ((u_6 - x1) - x2).toNatClampNeg → fits .byte (.int (f_9 ((x1 + x2).toNatClampNeg + i))) = true) (g19 : (va_up m q_4 (.inl (G.2 0, n_8, .inl (va_cpy f_9 f_9 (x1 + x2).toNatClampNeg x1.toNatClampNeg ((u_6 - x1) - x2).toNatClampNeg)))) r0 = .inr (2, fs_18)) (v21 : fs_18[1]? = some (.int u_20)) (l22 : 1 < fs_18.length) (q24 : m_23 = va_up (va_up m q_4 (.inl (G.2 0, n_8, .inl (va_cpy f_9 f_9 (x1 + x2).toNatClampNeg x1.toNatClampNeg ((u_6 - x1) - x2).toNatClampNeg)))) r0 (.inr (2, fs_18.set 1 (.int (u_20 - x2))))) (h25 : mm_W l G k_B_cut 42 [] [] b m_23 Q) : mm_W l G k_B_cut 9 [(0, .ref r0), (1, .int x1), (2, .int x2)] [] b m Q := by
  refine mm_aload_n 0 (i := 0) d_B_cut_9 rfl rfl ?_
  refine mm_get cc_B 0 (by decide) w_37 d_B_cut_10 g2 z3 v5 ?_
  refine mm_iload_n 1 (i := 1) d_B_cut_13 rfl rfl ?_
  refine mm_iload_n 2 (i := 2) d_B_cut_14 rfl rfl ?_
  refine mm_iadd d_B_cut_15 ?_
  refine mm_aload_n 0 (i := 0) d_B_cut_16 rfl rfl ?_
  refine mm_get cc_B 0 (by decide) w_37 d_B_cut_17 g2 z3 v5 ?_
  refine mm_iload_n 1 (i := 1) d_B_cut_20 rfl rfl ?_
  refine mm_aload_n 0 (i := 0) d_B_cut_21 rfl rfl ?_
  refine mm_get cc_B 1 (by decide) w_38 d_B_cut_22 g2 z3 v7 ?_
  refine mm_iload_n 1 (i := 1) d_B_cut_25 rfl rfl ?_
  refine mm_isub d_B_cut_26 ?_
  refine mm_iload_n 2 (i := 2) d_B_cut_27 rfl rfl ?_
  refine mm_isub d_B_cut_28 ?_
  refine mm_copyb (t := 0) rfl rfl w_493 w_495 w_494 w_18 d_B_cut_29 (Nat.le_of_ble_eq_true rfl) (Nat.le_of_ble_eq_true rfl) a10 z11 a10 z11 k12 k13 k14 k15 k16 k17 ?_
  refine mm_aload_n 0 (i := 0) d_B_cut_32 rfl rfl ?_
  refine mm_dup d_B_cut_33 rfl ?_
  refine mm_get cc_B 1 (by decide) w_38 d_B_cut_34 g19 z3 v21 ?_
  refine mm_iload_n 2 (i := 2) d_B_cut_37 rfl rfl ?_
  refine mm_isub d_B_cut_38 ?_
  refine mm_putf cc_B 1 (by decide) w_38 d_B_cut_39 rfl (fun _ => rfl) (fun _ => rfl) g19 z3 l22 ?_
  refine mm_eqm q24 ?_
  exact mm_sub [] rfl h25
theorem t_B_cut_42 {l : Launch} {G : mm_G} {b : Nat} {m : mm_Mem} {Q : mm_O → mm_Mem → Prop}  (h1 : Q (.inl none) m) : mm_W l G k_B_cut 42 [] [] b m Q := by
  exact mm_vret d_B_cut_42 rfl h1
theorem t_B_number_0 {l : Launch} {G : mm_G} {b : Nat} {m : mm_Mem} {Q : mm_O → mm_Mem → Prop} {r0 : Nat} {x1 : Int32} {x2 : Int32} {b_1 : Nat} {b_2 : Nat} {m_4 : mm_Mem} {x_5 : Int32} {fs_6 : List Value} (hb3 : b_1 + b_2 ≤ b) (g7 : m r0 = .inr (2, fs_6)) (z8 : r0 ≠ 0) (M9 : mm_W l G k_B_holds 0 (lv_args 0 [.ref r0, .int x1, .int x2]) [] b_1 m (mm_is (.inl (some (.int x_5))) m_4)) (h10 : (¬ x_5 = 0) → mm_W l G k_B_number 13 [(0, .ref r0), (1, .int x1), (2, .int x2)] [] b_2 m_4 Q) (h11 : (x_5 = 0) → mm_W l G k_B_number 9 [] [] b_2 m_4 Q) : mm_W l G k_B_number 0 [(0, .ref r0), (1, .int x1), (2, .int x2)] [] b m Q := by
  refine mm_aload_n 0 (i := 0) d_B_number_0 rfl rfl ?_
  refine mm_iload_n 1 (i := 1) d_B_number_1 rfl rfl ?_
  refine mm_iload_n 2 (i := 2) d_B_number_2 rfl rfl ?_
  refine mm_callV (as := [.int x1, .int x2]) (st := []) (b2 := b_2) ca_B_holds w_488 w_490 v_B_holds cc_B.1 rfl d_B_number_3 rfl (Nat.le_of_ble_eq_true rfl) (Nat.le_of_ble_eq_true rfl) (Nat.le_of_ble_eq_true rfl) hb3 g7 z8 M9 (fun E _ ⟨c, _⟩ => nomatch c) (fun v _ ⟨c, e⟩ => ?_)
  cases c
  rw [e]
  show mm_W l G k_B_number 6 [(0, .ref r0), (1, .int x1), (2, .int x2)] [.int x_5] b_2 m_4 Q
  exact mm_if_ne (tgt := 13) d_B_number_6 (by decide) (fun c => mm_sub [0, 1, 2] rfl (h10 c)) (fun c => mm_sub [] rfl (h11 c))
theorem t_B_number_9 {l : Launch} {G : mm_G} {b : Nat} {m : mm_Mem} {Q : mm_O → mm_Mem → Prop}  (h1 : Q (.inl (some (.long ((-1))))) m) : mm_W l G k_B_number 9 [] [] b m Q := by
  refine mm_ldc2 (v := (-1)) w_646 d_B_number_9 ?_
  exact mm_lret d_B_number_12 rfl h1
theorem t_B_number_13 {l : Launch} {G : mm_G} {b : Nat} {m : mm_Mem} {Q : mm_O → mm_Mem → Prop} {r0 : Nat} {x1 : Int32} {x2 : Int32} (h1 : mm_W l G k_B_number 20 [(0, .ref r0), (1, .int x1), (3, .long 0), (5, .int (x2 - 1))] [] b m Q) : mm_W l G k_B_number 13 [(0, .ref r0), (1, .int x1), (2, .int x2)] [] b m Q := by
  refine mm_lconst d_B_number_13 (v := 0) (by decide) ?_
  refine mm_lstore_n (i := 3) d_B_number_14 rfl (Nat.le_of_ble_eq_true rfl) (lv2 := [(3, .long 0), (0, .ref r0), (1, .int x1), (2, .int x2)]) rfl ?_
  refine mm_iload_n 3 (i := 2) d_B_number_15 rfl rfl ?_
  refine mm_iconst d_B_number_16 (v := 1) (by decide) ?_
  refine mm_isub d_B_number_17 ?_
  refine mm_istore (i := 5) d_B_number_18 (Nat.le_of_ble_eq_true rfl) (lv2 := [(5, .int (x2 - 1)), (3, .long 0), (0, .ref r0), (1, .int x1), (2, .int x2)]) rfl ?_
  exact mm_sub [2, 3, 1, 0] rfl h1
theorem t_B_number_20 {l : Launch} {G : mm_G} {b : Nat} {m : mm_Mem} {Q : mm_O → mm_Mem → Prop} {r0 : Nat} {x1 : Int32} {y3 : Int64} {x5 : Int32} (h1 : (x5 < 0) → mm_W l G k_B_number 46 [(3, .long y3)] [] b m Q) (h2 : (¬ x5 < 0) → mm_W l G k_B_number 25 [(0, .ref r0), (1, .int x1), (3, .long y3), (5, .int x5)] [] b m Q) : mm_W l G k_B_number 20 [(0, .ref r0), (1, .int x1), (3, .long y3), (5, .int x5)] [] b m Q := by
  refine mm_iload 3 (i := 5) d_B_number_20 rfl ?_
  exact mm_if_lt (tgt := 46) d_B_number_22 (by decide) (fun c => mm_sub [2] rfl (h1 c)) (fun c => mm_sub [0, 1, 2, 3] rfl (h2 c))
theorem t_B_number_25 {l : Launch} {G : mm_G} {b : Nat} {m : mm_Mem} {Q : mm_O → mm_Mem → Prop} {r0 : Nat} {x1 : Int32} {y3 : Int64} {x5 : Int32} {b_1 : Nat} {b_2 : Nat} {m_4 : mm_Mem} {x_5 : Int32} {fs_6 : List Value} (hb3 : b_1 + b_2 ≤ b) (g7 : m r0 = .inr (2, fs_6)) (z8 : r0 ≠ 0) (M9 : mm_W l G k_B_get 0 (lv_args 0 [.ref r0, .int (x1 + x5)]) [] b_1 m (mm_is (.inl (some (.int x_5))) m_4)) (h10 : mm_W l G k_B_number 20 [(0, .ref r0), (1, .int x1), (3, .long ((y3 <<< ((8 : Int32).toInt64 &&& 63)) ||| x_5.toInt64)), (5, .int (x5 + (-1)))] [] b_2 m_4 Q) : mm_W l G k_B_number 25 [(0, .ref r0), (1, .int x1), (3, .long y3), (5, .int x5)] [] b m Q := by
  refine mm_lload_n 2 (i := 3) d_B_number_25 rfl rfl ?_
  refine mm_bipush d_B_number_26 (v := 8) (by decide) ?_
  refine mm_lshl d_B_number_28 ?_
  refine mm_aload_n 0 (i := 0) d_B_number_29 rfl rfl ?_
  refine mm_iload_n 1 (i := 1) d_B_number_30 rfl rfl ?_
  refine mm_iload 3 (i := 5) d_B_number_31 rfl ?_
  refine mm_iadd d_B_number_33 ?_
  refine mm_callV (as := [.int (x1 + x5)]) (st := [.long (y3 <<< ((8 : Int32).toInt64 &&& 63))]) (b2 := b_2) ca_B_get w_641 w_279 w_280 cc_B.1 rfl d_B_number_34 rfl (Nat.le_of_ble_eq_true rfl) (Nat.le_of_ble_eq_true rfl) (Nat.le_of_ble_eq_true rfl) hb3 g7 z8 M9 (fun E _ ⟨c, _⟩ => nomatch c) (fun v _ ⟨c, e⟩ => ?_)
  cases c
  rw [e]
  show mm_W l G k_B_number 37 [(0, .ref r0), (1, .int x1), (3, .long y3), (5, .int x5)] [.int x_5, .long (y3 <<< ((8 : Int32).toInt64 &&& 63))] b_2 m_4 Q
  refine mm_i2l d_B_number_37 ?_
  refine mm_lor d_B_number_38 ?_
  refine mm_lstore_n (i := 3) d_B_number_39 rfl (Nat.le_of_ble_eq_true rfl) (lv2 := [(3, .long ((y3 <<< ((8 : Int32).toInt64 &&& 63)) ||| x_5.toInt64)), (0, .ref r0), (1, .int x1), (5, .int x5)]) rfl ?_
  refine mm_iinc 3 (i := 5) d_B_number_40 rfl (v := x5 + (-1)) rfl (Nat.le_of_ble_eq_true rfl) (lv2 := [(5, .int (x5 + (-1))), (3, .long ((y3 <<< ((8 : Int32).toInt64 &&& 63)) ||| x_5.toInt64)), (0, .ref r0), (1, .int x1)]) rfl ?_
  refine mm_goto (tgt := 20) d_B_number_43 (by decide) ?_
  exact mm_sub [2, 3, 1, 0] rfl h10
theorem t_B_number_46 {l : Launch} {G : mm_G} {b : Nat} {m : mm_Mem} {Q : mm_O → mm_Mem → Prop} {y3 : Int64} (h1 : Q (.inl (some (.long y3))) m) : mm_W l G k_B_number 46 [(3, .long y3)] [] b m Q := by
  refine mm_lload_n 0 (i := 3) d_B_number_46 rfl rfl ?_
  exact mm_lret d_B_number_47 rfl h1
theorem t_B_hasMark_0 {l : Launch} {G : mm_G} {b : Nat} {m : mm_Mem} {Q : mm_O → mm_Mem → Prop} {r0 : Nat} {x1 : Int32} {x2 : Int32} (h1 : mm_W l G k_B_hasMark 2 [(0, .ref r0), (1, .int x1), (2, .int x2), (3, .int 0)] [] b m Q) : mm_W l G k_B_hasMark 0 [(0, .ref r0), (1, .int x1), (2, .int x2)] [] b m Q := by
  refine mm_iconst d_B_hasMark_0 (v := 0) (by decide) ?_
  refine mm_istore_n (i := 3) d_B_hasMark_1 rfl (Nat.le_of_ble_eq_true rfl) (lv2 := [(3, .int 0), (0, .ref r0), (1, .int x1), (2, .int x2)]) rfl ?_
  exact mm_sub [1, 2, 3, 0] rfl h1
theorem t_B_hasMark_2 {l : Launch} {G : mm_G} {b : Nat} {m : mm_Mem} {Q : mm_O → mm_Mem → Prop} {r0 : Nat} {x1 : Int32} {x2 : Int32} {x3 : Int32} (h1 : (4 ≤ x3) → mm_W l G k_B_hasMark 35 [] [] b m Q) (h2 : (¬ 4 ≤ x3) → mm_W l G k_B_hasMark 7 [(0, .ref r0), (1, .int x1), (2, .int x2), (3, .int x3)] [] b m Q) : mm_W l G k_B_hasMark 2 [(0, .ref r0), (1, .int x1), (2, .int x2), (3, .int x3)] [] b m Q := by
  refine mm_iload_n 3 (i := 3) d_B_hasMark_2 rfl rfl ?_
  refine mm_iconst d_B_hasMark_3 (v := 4) (by decide) ?_
  exact mm_icmp_ge (tgt := 35) d_B_hasMark_4 (by decide) (fun c => mm_sub [] rfl (h1 c)) (fun c => mm_sub [0, 1, 2, 3] rfl (h2 c))
theorem t_B_hasMark_7 {l : Launch} {G : mm_G} {b : Nat} {m : mm_Mem} {Q : mm_O → mm_Mem → Prop} {r0 : Nat} {x1 : Int32} {x2 : Int32} {x3 : Int32} {b_1 : Nat} {b_2 : Nat} {m_4 : mm_Mem} {x_5 : Int32} {fs_6 : List Value} (hb3 : b_1 + b_2 ≤ b) (g7 : m r0 = .inr (2, fs_6)) (z8 : r0 ≠ 0) (M9 : mm_W l G k_B_get 0 (lv_args 0 [.ref r0, .int (x1 + x3)]) [] b_1 m (mm_is (.inl (some (.int x_5))) m_4)) (h10 : (x_5 = (((x2.toUInt32 >>> ((8 * x3).toUInt32 &&& Int32.toUInt32 31)).toInt32) &&& 255)) → mm_W l G k_B_hasMark 29 [(0, .ref r0), (1, .int x1), (2, .int x2), (3, .int x3)] [] b_2 m_4 Q) (h11 : (¬ x_5 = (((x2.toUInt32 >>> ((8 * x3).toUInt32 &&& Int32.toUInt32 31)).toInt32) &&& 255)) → mm_W l G k_B_hasMark 27 [] [] b_2 m_4 Q) : mm_W l G k_B_hasMark 7 [(0, .ref r0), (1, .int x1), (2, .int x2), (3, .int x3)] [] b m Q := by
  refine mm_aload_n 0 (i := 0) d_B_hasMark_7 rfl rfl ?_
  refine mm_iload_n 1 (i := 1) d_B_hasMark_8 rfl rfl ?_
  refine mm_iload_n 3 (i := 3) d_B_hasMark_9 rfl rfl ?_
  refine mm_iadd d_B_hasMark_10 ?_
  refine mm_callV (as := [.int (x1 + x3)]) (st := []) (b2 := b_2) ca_B_get w_641 w_279 w_280 cc_B.1 rfl d_B_hasMark_11 rfl (Nat.le_of_ble_eq_true rfl) (Nat.le_of_ble_eq_true rfl) (Nat.le_of_ble_eq_true rfl) hb3 g7 z8 M9 (fun E _ ⟨c, _⟩ => nomatch c) (fun v _ ⟨c, e⟩ => ?_)
  cases c
  rw [e]
  show mm_W l G k_B_hasMark 14 [(0, .ref r0), (1, .int x1), (2, .int x2), (3, .int x3)] [.int x_5] b_2 m_4 Q
  refine mm_iload_n 2 (i := 2) d_B_hasMark_14 rfl rfl ?_
  refine mm_bipush d_B_hasMark_15 (v := 8) (by decide) ?_
  refine mm_iload_n 3 (i := 3) d_B_hasMark_17 rfl rfl ?_
  refine mm_imul d_B_hasMark_18 ?_
  refine mm_iushr d_B_hasMark_19 ?_
  refine mm_sipush d_B_hasMark_20 (v := 255) (by decide) ?_
  refine mm_iand d_B_hasMark_23 ?_
  exact mm_icmp_eq (tgt := 29) d_B_hasMark_24 (by decide) (fun c => mm_sub [0, 1, 2, 3] rfl (h10 c)) (fun c => mm_sub [] rfl (h11 c))
theorem t_B_hasMark_27 {l : Launch} {G : mm_G} {b : Nat} {m : mm_Mem} {Q : mm_O → mm_Mem → Prop}  (h1 : Q (.inl (some (.int 0))) m) (hn2 : narrow .boolean (.int 0) = .int 0) : mm_W l G k_B_hasMark 27 [] [] b m Q := by
  refine mm_iconst d_B_hasMark_27 (v := 0) (by decide) ?_
  exact mm_zret d_B_hasMark_28 rfl hn2 h1
theorem t_B_hasMark_29 {l : Launch} {G : mm_G} {b : Nat} {m : mm_Mem} {Q : mm_O → mm_Mem → Prop} {r0 : Nat} {x1 : Int32} {x2 : Int32} {x3 : Int32} (h1 : mm_W l G k_B_hasMark 2 [(0, .ref r0), (1, .int x1), (2, .int x2), (3, .int (x3 + 1))] [] b m Q) : mm_W l G k_B_hasMark 29 [(0, .ref r0), (1, .int x1), (2, .int x2), (3, .int x3)] [] b m Q := by
  refine mm_iinc 3 (i := 3) d_B_hasMark_29 rfl (v := x3 + 1) rfl (Nat.le_of_ble_eq_true rfl) (lv2 := [(3, .int (x3 + 1)), (0, .ref r0), (1, .int x1), (2, .int x2)]) rfl ?_
  refine mm_goto (tgt := 2) d_B_hasMark_32 (by decide) ?_
  exact mm_sub [1, 2, 3, 0] rfl h1
theorem t_B_hasMark_35 {l : Launch} {G : mm_G} {b : Nat} {m : mm_Mem} {Q : mm_O → mm_Mem → Prop}  (h1 : Q (.inl (some (.int 1))) m) (hn2 : narrow .boolean (.int 1) = .int 1) : mm_W l G k_B_hasMark 35 [] [] b m Q := by
  refine mm_iconst d_B_hasMark_35 (v := 1) (by decide) ?_
  exact mm_zret d_B_hasMark_36 rfl hn2 h1
theorem t_B_holds_0 {l : Launch} {G : mm_G} {b : Nat} {m : mm_Mem} {Q : mm_O → mm_Mem → Prop} {r0 : Nat} {x1 : Int32} {x2 : Int32} (h1 : (x1 < 0) → mm_W l G k_B_holds 30 [] [] b m Q) (h2 : (¬ x1 < 0) → mm_W l G k_B_holds 4 [(0, .ref r0), (1, .int x1), (2, .int x2)] [] b m Q) : mm_W l G k_B_holds 0 [(0, .ref r0), (1, .int x1), (2, .int x2)] [] b m Q := by
  refine mm_iload_n 1 (i := 1) d_B_holds_0 rfl rfl ?_
  exact mm_if_lt (tgt := 30) d_B_holds_1 (by decide) (fun c => mm_sub [] rfl (h1 c)) (fun c => mm_sub [0, 1, 2] rfl (h2 c))
theorem t_B_holds_4 {l : Launch} {G : mm_G} {b : Nat} {m : mm_Mem} {Q : mm_O → mm_Mem → Prop} {r0 : Nat} {x1 : Int32} {x2 : Int32} (h1 : (x2 < 0) → mm_W l G k_B_holds 30 [] [] b m Q) (h2 : (¬ x2 < 0) → mm_W l G k_B_holds 8 [(0, .ref r0), (1, .int x1), (2, .int x2)] [] b m Q) : mm_W l G k_B_holds 4 [(0, .ref r0), (1, .int x1), (2, .int x2)] [] b m Q := by
  refine mm_iload_n 2 (i := 2) d_B_holds_4 rfl rfl ?_
  exact mm_if_lt (tgt := 30) d_B_holds_5 (by decide) (fun c => mm_sub [] rfl (h1 c)) (fun c => mm_sub [0, 1, 2] rfl (h2 c))
theorem t_B_holds_8 {l : Launch} {G : mm_G} {b : Nat} {m : mm_Mem} {Q : mm_O → mm_Mem → Prop} {r0 : Nat} {x1 : Int32} {x2 : Int32} {fs_1 : List Value} {u_4 : Int32} (g2 : m r0 = .inr (2, fs_1)) (z3 : r0 ≠ 0) (v5 : fs_1[1]? = some (.int u_4)) (h6 : (u_4 < x2) → mm_W l G k_B_holds 30 [] [] b m Q) (h7 : (¬ u_4 < x2) → mm_W l G k_B_holds 16 [(0, .ref r0), (1, .int x1), (2, .int x2)] [] b m Q) : mm_W l G k_B_holds 8 [(0, .ref r0), (1, .int x1), (2, .int x2)] [] b m Q := by
  refine mm_iload_n 2 (i := 2) d_B_holds_8 rfl rfl ?_
  refine mm_aload_n 0 (i := 0) d_B_holds_9 rfl rfl ?_
  refine mm_get cc_B 1 (by decide) w_38 d_B_holds_10 g2 z3 v5 ?_
  exact mm_icmp_gt (tgt := 30) d_B_holds_13 (by decide) (fun c => mm_sub [] rfl (h6 c)) (fun c => mm_sub [0, 1, 2] rfl (h7 c))
theorem t_B_holds_16 {l : Launch} {G : mm_G} {b : Nat} {m : mm_Mem} {Q : mm_O → mm_Mem → Prop} {r0 : Nat} {x1 : Int32} {x2 : Int32} {fs_1 : List Value} {u_4 : Int32} (g2 : m r0 = .inr (2, fs_1)) (z3 : r0 ≠ 0) (v5 : fs_1[1]? = some (.int u_4)) (h6 : ((u_4 - x2) < x1) → mm_W l G k_B_holds 30 [] [] b m Q) (h7 : (¬ (u_4 - x2) < x1) → mm_W l G k_B_holds 26 [] [] b m Q) : mm_W l G k_B_holds 16 [(0, .ref r0), (1, .int x1), (2, .int x2)] [] b m Q := by
  refine mm_iload_n 1 (i := 1) d_B_holds_16 rfl rfl ?_
  refine mm_aload_n 0 (i := 0) d_B_holds_17 rfl rfl ?_
  refine mm_get cc_B 1 (by decide) w_38 d_B_holds_18 g2 z3 v5 ?_
  refine mm_iload_n 2 (i := 2) d_B_holds_21 rfl rfl ?_
  refine mm_isub d_B_holds_22 ?_
  exact mm_icmp_gt (tgt := 30) d_B_holds_23 (by decide) (fun c => mm_sub [] rfl (h6 c)) (fun c => mm_sub [] rfl (h7 c))
theorem t_B_holds_26 {l : Launch} {G : mm_G} {b : Nat} {m : mm_Mem} {Q : mm_O → mm_Mem → Prop}  (h1 : mm_W l G k_B_holds 31 [] [.int 1] b m Q) : mm_W l G k_B_holds 26 [] [] b m Q := by
  refine mm_iconst d_B_holds_26 (v := 1) (by decide) ?_
  refine mm_goto (tgt := 31) d_B_holds_27 (by decide) ?_
  exact mm_sub [] rfl h1
theorem t_B_holds_30 {l : Launch} {G : mm_G} {b : Nat} {m : mm_Mem} {Q : mm_O → mm_Mem → Prop}  (h1 : mm_W l G k_B_holds 31 [] [.int 0] b m Q) : mm_W l G k_B_holds 30 [] [] b m Q := by
  refine mm_iconst d_B_holds_30 (v := 0) (by decide) ?_
  exact mm_sub [] rfl h1
theorem t_B_holds_31 {l : Launch} {G : mm_G} {b : Nat} {m : mm_Mem} {Q : mm_O → mm_Mem → Prop} {xs0 : Int32} (h1 : Q (.inl (some (.int xs0))) m) (hn2 : narrow .boolean (.int xs0) = .int xs0) : mm_W l G k_B_holds 31 [] [.int xs0] b m Q := by
  exact mm_zret d_B_holds_31 rfl hn2 h1
