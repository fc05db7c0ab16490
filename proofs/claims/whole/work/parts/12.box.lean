theorem d_X_init_0 : decode prog_2_method_1_code 0 = .ok (.aload_n 0, 1) := by decide +kernel
theorem d_X_init_1 : decode prog_2_method_1_code 1 = .ok (.invokespecial 3, 3) := by decide +kernel
theorem d_X_init_4 : decode prog_2_method_1_code 4 = .ok (.aload_n 0, 1) := by decide +kernel
theorem d_X_init_5 : decode prog_2_method_1_code 5 = .ok (.bipush 64, 2) := by decide +kernel
theorem d_X_init_7 : decode prog_2_method_1_code 7 = .ok (.anewarray 9, 3) := by decide +kernel
theorem d_X_init_10 : decode prog_2_method_1_code 10 = .ok (.putfield 11, 3) := by decide +kernel
theorem d_X_init_13 : decode prog_2_method_1_code 13 = .ok (.iconst 0, 1) := by decide +kernel
theorem d_X_init_14 : decode prog_2_method_1_code 14 = .ok (.istore_n 1, 1) := by decide +kernel
theorem d_X_init_15 : decode prog_2_method_1_code 15 = .ok (.iload_n 1, 1) := by decide +kernel
theorem d_X_init_16 : decode prog_2_method_1_code 16 = .ok (.bipush 64, 2) := by decide +kernel
theorem d_X_init_18 : decode prog_2_method_1_code 18 = .ok (.if_icmp .ge 22, 3) := by decide +kernel
theorem d_X_init_21 : decode prog_2_method_1_code 21 = .ok (.aload_n 0, 1) := by decide +kernel
theorem d_X_init_22 : decode prog_2_method_1_code 22 = .ok (.getfield 11, 3) := by decide +kernel
theorem d_X_init_25 : decode prog_2_method_1_code 25 = .ok (.iload_n 1, 1) := by decide +kernel
theorem d_X_init_26 : decode prog_2_method_1_code 26 = .ok (.new 9, 3) := by decide +kernel
theorem d_X_init_29 : decode prog_2_method_1_code 29 = .ok (.dup, 1) := by decide +kernel
theorem d_X_init_30 : decode prog_2_method_1_code 30 = .ok (.invokespecial 17, 3) := by decide +kernel
theorem d_X_init_33 : decode prog_2_method_1_code 33 = .ok (.aastore, 1) := by decide +kernel
theorem d_X_init_34 : decode prog_2_method_1_code 34 = .ok (.iinc 1 1, 3) := by decide +kernel
theorem d_X_init_37 : decode prog_2_method_1_code 37 = .ok (.goto (-22), 3) := by decide +kernel
theorem d_X_init_40 : decode prog_2_method_1_code 40 = .ok (.aload_n 0, 1) := by decide +kernel
theorem d_X_init_41 : decode prog_2_method_1_code 41 = .ok (.new 18, 3) := by decide +kernel
theorem d_X_init_44 : decode prog_2_method_1_code 44 = .ok (.dup, 1) := by decide +kernel
theorem d_X_init_45 : decode prog_2_method_1_code 45 = .ok (.ldc 20, 2) := by decide +kernel
theorem d_X_init_47 : decode prog_2_method_1_code 47 = .ok (.invokespecial 21, 3) := by decide +kernel
theorem d_X_init_50 : decode prog_2_method_1_code 50 = .ok (.putfield 24, 3) := by decide +kernel
theorem d_X_init_53 : decode prog_2_method_1_code 53 = .ok (.aload_n 0, 1) := by decide +kernel
theorem d_X_init_54 : decode prog_2_method_1_code 54 = .ok (.iconst 0, 1) := by decide +kernel
theorem d_X_init_55 : decode prog_2_method_1_code 55 = .ok (.putfield 28, 3) := by decide +kernel
theorem d_X_init_58 : decode prog_2_method_1_code 58 = .ok (.return_, 1) := by decide +kernel
theorem d_X_size_0 : decode prog_2_method_2_code 0 = .ok (.aload_n 0, 1) := by decide +kernel
theorem d_X_size_1 : decode prog_2_method_2_code 1 = .ok (.getfield 28, 3) := by decide +kernel
theorem d_X_size_4 : decode prog_2_method_2_code 4 = .ok (.ireturn, 1) := by decide +kernel
theorem d_X_has_0 : decode prog_2_method_3_code 0 = .ok (.iload_n 1, 1) := by decide +kernel
theorem d_X_has_1 : decode prog_2_method_3_code 1 = .ok (.ifCond .lt 15, 3) := by decide +kernel
theorem d_X_has_4 : decode prog_2_method_3_code 4 = .ok (.iload_n 1, 1) := by decide +kernel
theorem d_X_has_5 : decode prog_2_method_3_code 5 = .ok (.aload_n 0, 1) := by decide +kernel
theorem d_X_has_6 : decode prog_2_method_3_code 6 = .ok (.getfield 28, 3) := by decide +kernel
theorem d_X_has_9 : decode prog_2_method_3_code 9 = .ok (.if_icmp .ge 7, 3) := by decide +kernel
theorem d_X_has_12 : decode prog_2_method_3_code 12 = .ok (.iconst 1, 1) := by decide +kernel
theorem d_X_has_13 : decode prog_2_method_3_code 13 = .ok (.goto 4, 3) := by decide +kernel
theorem d_X_has_16 : decode prog_2_method_3_code 16 = .ok (.iconst 0, 1) := by decide +kernel
theorem d_X_has_17 : decode prog_2_method_3_code 17 = .ok (.ireturn, 1) := by decide +kernel
theorem d_X_pick_0 : decode prog_2_method_4_code 0 = .ok (.aload_n 0, 1) := by decide +kernel
theorem d_X_pick_1 : decode prog_2_method_4_code 1 = .ok (.iload_n 1, 1) := by decide +kernel
theorem d_X_pick_2 : decode prog_2_method_4_code 2 = .ok (.invokevirtual 32, 3) := by decide +kernel
theorem d_X_pick_5 : decode prog_2_method_4_code 5 = .ok (.ifCond .eq 12, 3) := by decide +kernel
theorem d_X_pick_8 : decode prog_2_method_4_code 8 = .ok (.aload_n 0, 1) := by decide +kernel
theorem d_X_pick_9 : decode prog_2_method_4_code 9 = .ok (.getfield 11, 3) := by decide +kernel
theorem d_X_pick_12 : decode prog_2_method_4_code 12 = .ok (.iload_n 1, 1) := by decide +kernel
theorem d_X_pick_13 : decode prog_2_method_4_code 13 = .ok (.aaload, 1) := by decide +kernel
theorem d_X_pick_14 : decode prog_2_method_4_code 14 = .ok (.goto 4, 3) := by decide +kernel
theorem d_X_pick_17 : decode prog_2_method_4_code 17 = .ok (.aconst_null, 1) := by decide +kernel
theorem d_X_pick_18 : decode prog_2_method_4_code 18 = .ok (.areturn, 1) := by decide +kernel
theorem d_X_numberOf_0 : decode prog_2_method_5_code 0 = .ok (.iconst 0, 1) := by decide +kernel
theorem d_X_numberOf_1 : decode prog_2_method_5_code 1 = .ok (.istore_n 2, 1) := by decide +kernel
theorem d_X_numberOf_2 : decode prog_2_method_5_code 2 = .ok (.iload_n 2, 1) := by decide +kernel
theorem d_X_numberOf_3 : decode prog_2_method_5_code 3 = .ok (.aload_n 0, 1) := by decide +kernel
theorem d_X_numberOf_4 : decode prog_2_method_5_code 4 = .ok (.getfield 28, 3) := by decide +kernel
theorem d_X_numberOf_7 : decode prog_2_method_5_code 7 = .ok (.if_icmp .ge 46, 3) := by decide +kernel
theorem d_X_numberOf_10 : decode prog_2_method_5_code 10 = .ok (.aload_n 0, 1) := by decide +kernel
theorem d_X_numberOf_11 : decode prog_2_method_5_code 11 = .ok (.getfield 11, 3) := by decide +kernel
theorem d_X_numberOf_14 : decode prog_2_method_5_code 14 = .ok (.iload_n 2, 1) := by decide +kernel
theorem d_X_numberOf_15 : decode prog_2_method_5_code 15 = .ok (.aaload, 1) := by decide +kernel
theorem d_X_numberOf_16 : decode prog_2_method_5_code 16 = .ok (.getfield 36, 3) := by decide +kernel
theorem d_X_numberOf_19 : decode prog_2_method_5_code 19 = .ok (.astore_n 3, 1) := by decide +kernel
theorem d_X_numberOf_20 : decode prog_2_method_5_code 20 = .ok (.aload_n 3, 1) := by decide +kernel
theorem d_X_numberOf_21 : decode prog_2_method_5_code 21 = .ok (.invokevirtual 39, 3) := by decide +kernel
theorem d_X_numberOf_24 : decode prog_2_method_5_code 24 = .ok (.aload_n 1, 1) := by decide +kernel
theorem d_X_numberOf_25 : decode prog_2_method_5_code 25 = .ok (.invokevirtual 39, 3) := by decide +kernel
theorem d_X_numberOf_28 : decode prog_2_method_5_code 28 = .ok (.if_icmp .ne 19, 3) := by decide +kernel
theorem d_X_numberOf_31 : decode prog_2_method_5_code 31 = .ok (.aload_n 3, 1) := by decide +kernel
theorem d_X_numberOf_32 : decode prog_2_method_5_code 32 = .ok (.iconst 0, 1) := by decide +kernel
theorem d_X_numberOf_33 : decode prog_2_method_5_code 33 = .ok (.aload_n 1, 1) := by decide +kernel
theorem d_X_numberOf_34 : decode prog_2_method_5_code 34 = .ok (.iconst 0, 1) := by decide +kernel
theorem d_X_numberOf_35 : decode prog_2_method_5_code 35 = .ok (.aload_n 1, 1) := by decide +kernel
theorem d_X_numberOf_36 : decode prog_2_method_5_code 36 = .ok (.invokevirtual 39, 3) := by decide +kernel
theorem d_X_numberOf_39 : decode prog_2_method_5_code 39 = .ok (.invokestatic 43, 3) := by decide +kernel
theorem d_X_numberOf_42 : decode prog_2_method_5_code 42 = .ok (.ifCond .eq 5, 3) := by decide +kernel
theorem d_X_numberOf_45 : decode prog_2_method_5_code 45 = .ok (.iload_n 2, 1) := by decide +kernel
theorem d_X_numberOf_46 : decode prog_2_method_5_code 46 = .ok (.ireturn, 1) := by decide +kernel
theorem d_X_numberOf_47 : decode prog_2_method_5_code 47 = .ok (.iinc 2 1, 3) := by decide +kernel
theorem d_X_numberOf_50 : decode prog_2_method_5_code 50 = .ok (.goto (-48), 3) := by decide +kernel
theorem d_X_numberOf_53 : decode prog_2_method_5_code 53 = .ok (.iconst (-1), 1) := by decide +kernel
theorem d_X_numberOf_54 : decode prog_2_method_5_code 54 = .ok (.ireturn, 1) := by decide +kernel
theorem d_X_append_0 : decode prog_2_method_6_code 0 = .ok (.aload_n 0, 1) := by decide +kernel
theorem d_X_append_1 : decode prog_2_method_6_code 1 = .ok (.getfield 28, 3) := by decide +kernel
theorem d_X_append_4 : decode prog_2_method_6_code 4 = .ok (.bipush 64, 2) := by decide +kernel
theorem d_X_append_6 : decode prog_2_method_6_code 6 = .ok (.if_icmp .ge 14, 3) := by decide +kernel
theorem d_X_append_9 : decode prog_2_method_6_code 9 = .ok (.iload_n 3, 1) := by decide +kernel
theorem d_X_append_10 : decode prog_2_method_6_code 10 = .ok (.aload_n 0, 1) := by decide +kernel
theorem d_X_append_11 : decode prog_2_method_6_code 11 = .ok (.getfield 24, 3) := by decide +kernel
theorem d_X_append_14 : decode prog_2_method_6_code 14 = .ok (.invokevirtual 49, 3) := by decide +kernel
theorem d_X_append_17 : decode prog_2_method_6_code 17 = .ok (.if_icmp .le 5, 3) := by decide +kernel
theorem d_X_append_20 : decode prog_2_method_6_code 20 = .ok (.aconst_null, 1) := by decide +kernel
theorem d_X_append_21 : decode prog_2_method_6_code 21 = .ok (.areturn, 1) := by decide +kernel
theorem d_X_append_22 : decode prog_2_method_6_code 22 = .ok (.aload_n 0, 1) := by decide +kernel
theorem d_X_append_23 : decode prog_2_method_6_code 23 = .ok (.getfield 11, 3) := by decide +kernel
theorem d_X_append_26 : decode prog_2_method_6_code 26 = .ok (.aload_n 0, 1) := by decide +kernel
theorem d_X_append_27 : decode prog_2_method_6_code 27 = .ok (.getfield 28, 3) := by decide +kernel
theorem d_X_append_30 : decode prog_2_method_6_code 30 = .ok (.aaload, 1) := by decide +kernel
theorem d_X_append_31 : decode prog_2_method_6_code 31 = .ok (.astore 4, 2) := by decide +kernel
theorem d_X_append_33 : decode prog_2_method_6_code 33 = .ok (.aload_n 0, 1) := by decide +kernel
theorem d_X_append_34 : decode prog_2_method_6_code 34 = .ok (.dup, 1) := by decide +kernel
theorem d_X_append_35 : decode prog_2_method_6_code 35 = .ok (.getfield 28, 3) := by decide +kernel
theorem d_X_append_38 : decode prog_2_method_6_code 38 = .ok (.iconst 1, 1) := by decide +kernel
theorem d_X_append_39 : decode prog_2_method_6_code 39 = .ok (.iadd, 1) := by decide +kernel
theorem d_X_append_40 : decode prog_2_method_6_code 40 = .ok (.putfield 28, 3) := by decide +kernel
theorem d_X_append_43 : decode prog_2_method_6_code 43 = .ok (.aload 4, 2) := by decide +kernel
theorem d_X_append_45 : decode prog_2_method_6_code 45 = .ok (.getfield 36, 3) := by decide +kernel
theorem d_X_append_48 : decode prog_2_method_6_code 48 = .ok (.iconst 0, 1) := by decide +kernel
theorem d_X_append_49 : decode prog_2_method_6_code 49 = .ok (.invokevirtual 52, 3) := by decide +kernel
theorem d_X_append_52 : decode prog_2_method_6_code 52 = .ok (.aload 4, 2) := by decide +kernel
theorem d_X_append_54 : decode prog_2_method_6_code 54 = .ok (.aload_n 0, 1) := by decide +kernel
theorem d_X_append_55 : decode prog_2_method_6_code 55 = .ok (.getfield 24, 3) := by decide +kernel
theorem d_X_append_58 : decode prog_2_method_6_code 58 = .ok (.invokevirtual 39, 3) := by decide +kernel
theorem d_X_append_61 : decode prog_2_method_6_code 61 = .ok (.putfield 55, 3) := by decide +kernel
theorem d_X_append_64 : decode prog_2_method_6_code 64 = .ok (.aload 4, 2) := by decide +kernel
theorem d_X_append_66 : decode prog_2_method_6_code 66 = .ok (.iload_n 3, 1) := by decide +kernel
theorem d_X_append_67 : decode prog_2_method_6_code 67 = .ok (.putfield 58, 3) := by decide +kernel
theorem d_X_append_70 : decode prog_2_method_6_code 70 = .ok (.aload_n 0, 1) := by decide +kernel
theorem d_X_append_71 : decode prog_2_method_6_code 71 = .ok (.getfield 24, 3) := by decide +kernel
theorem d_X_append_74 : decode prog_2_method_6_code 74 = .ok (.aload_n 1, 1) := by decide +kernel
theorem d_X_append_75 : decode prog_2_method_6_code 75 = .ok (.iload_n 2, 1) := by decide +kernel
theorem d_X_append_76 : decode prog_2_method_6_code 76 = .ok (.iload_n 3, 1) := by decide +kernel
theorem d_X_append_77 : decode prog_2_method_6_code 77 = .ok (.invokevirtual 61, 3) := by decide +kernel
theorem d_X_append_80 : decode prog_2_method_6_code 80 = .ok (.aload 4, 2) := by decide +kernel
theorem d_X_append_82 : decode prog_2_method_6_code 82 = .ok (.areturn, 1) := by decide +kernel
theorem d_X_clear_0 : decode prog_2_method_7_code 0 = .ok (.aload_n 0, 1) := by decide +kernel
theorem d_X_clear_1 : decode prog_2_method_7_code 1 = .ok (.iconst 0, 1) := by decide +kernel
theorem d_X_clear_2 : decode prog_2_method_7_code 2 = .ok (.putfield 28, 3) := by decide +kernel
theorem d_X_clear_5 : decode prog_2_method_7_code 5 = .ok (.aload_n 0, 1) := by decide +kernel
theorem d_X_clear_6 : decode prog_2_method_7_code 6 = .ok (.getfield 24, 3) := by decide +kernel
theorem d_X_clear_9 : decode prog_2_method_7_code 9 = .ok (.iconst 0, 1) := by decide +kernel
theorem d_X_clear_10 : decode prog_2_method_7_code 10 = .ok (.invokevirtual 52, 3) := by decide +kernel
theorem d_X_clear_13 : decode prog_2_method_7_code 13 = .ok (.return_, 1) := by decide +kernel
theorem d_X_drop_0 : decode prog_2_method_8_code 0 = .ok (.aload_n 0, 1) := by decide +kernel
theorem d_X_drop_1 : decode prog_2_method_8_code 1 = .ok (.iload_n 1, 1) := by decide +kernel
theorem d_X_drop_2 : decode prog_2_method_8_code 2 = .ok (.invokevirtual 32, 3) := by decide +kernel
theorem d_X_drop_5 : decode prog_2_method_8_code 5 = .ok (.ifCond .ne 4, 3) := by decide +kernel
theorem d_X_drop_8 : decode prog_2_method_8_code 8 = .ok (.return_, 1) := by decide +kernel
theorem d_X_drop_9 : decode prog_2_method_8_code 9 = .ok (.aload_n 0, 1) := by decide +kernel
theorem d_X_drop_10 : decode prog_2_method_8_code 10 = .ok (.getfield 11, 3) := by decide +kernel
theorem d_X_drop_13 : decode prog_2_method_8_code 13 = .ok (.iload_n 1, 1) := by decide +kernel
theorem d_X_drop_14 : decode prog_2_method_8_code 14 = .ok (.aaload, 1) := by decide +kernel
theorem d_X_drop_15 : decode prog_2_method_8_code 15 = .ok (.getfield 55, 3) := by decide +kernel
theorem d_X_drop_18 : decode prog_2_method_8_code 18 = .ok (.istore_n 2, 1) := by decide +kernel
theorem d_X_drop_19 : decode prog_2_method_8_code 19 = .ok (.aload_n 0, 1) := by decide +kernel
theorem d_X_drop_20 : decode prog_2_method_8_code 20 = .ok (.getfield 11, 3) := by decide +kernel
theorem d_X_drop_23 : decode prog_2_method_8_code 23 = .ok (.iload_n 1, 1) := by decide +kernel
theorem d_X_drop_24 : decode prog_2_method_8_code 24 = .ok (.aaload, 1) := by decide +kernel
theorem d_X_drop_25 : decode prog_2_method_8_code 25 = .ok (.getfield 58, 3) := by decide +kernel
theorem d_X_drop_28 : decode prog_2_method_8_code 28 = .ok (.istore_n 3, 1) := by decide +kernel
theorem d_X_drop_29 : decode prog_2_method_8_code 29 = .ok (.aload_n 0, 1) := by decide +kernel
theorem d_X_drop_30 : decode prog_2_method_8_code 30 = .ok (.getfield 24, 3) := by decide +kernel
theorem d_X_drop_33 : decode prog_2_method_8_code 33 = .ok (.iload_n 2, 1) := by decide +kernel
theorem d_X_drop_34 : decode prog_2_method_8_code 34 = .ok (.iload_n 3, 1) := by decide +kernel
theorem d_X_drop_35 : decode prog_2_method_8_code 35 = .ok (.invokevirtual 65, 3) := by decide +kernel
theorem d_X_drop_38 : decode prog_2_method_8_code 38 = .ok (.iconst 0, 1) := by decide +kernel
theorem d_X_drop_39 : decode prog_2_method_8_code 39 = .ok (.istore 4, 2) := by decide +kernel
theorem d_X_drop_41 : decode prog_2_method_8_code 41 = .ok (.iload 4, 2) := by decide +kernel
theorem d_X_drop_43 : decode prog_2_method_8_code 43 = .ok (.aload_n 0, 1) := by decide +kernel
theorem d_X_drop_44 : decode prog_2_method_8_code 44 = .ok (.getfield 28, 3) := by decide +kernel
theorem d_X_drop_47 : decode prog_2_method_8_code 47 = .ok (.if_icmp .ge 39, 3) := by decide +kernel
theorem d_X_drop_50 : decode prog_2_method_8_code 50 = .ok (.aload_n 0, 1) := by decide +kernel
theorem d_X_drop_51 : decode prog_2_method_8_code 51 = .ok (.getfield 11, 3) := by decide +kernel
theorem d_X_drop_54 : decode prog_2_method_8_code 54 = .ok (.iload 4, 2) := by decide +kernel
theorem d_X_drop_56 : decode prog_2_method_8_code 56 = .ok (.aaload, 1) := by decide +kernel
theorem d_X_drop_57 : decode prog_2_method_8_code 57 = .ok (.getfield 55, 3) := by decide +kernel
theorem d_X_drop_60 : decode prog_2_method_8_code 60 = .ok (.iload_n 2, 1) := by decide +kernel
theorem d_X_drop_61 : decode prog_2_method_8_code 61 = .ok (.if_icmp .le 19, 3) := by decide +kernel
theorem d_X_drop_64 : decode prog_2_method_8_code 64 = .ok (.aload_n 0, 1) := by decide +kernel
theorem d_X_drop_65 : decode prog_2_method_8_code 65 = .ok (.getfield 11, 3) := by decide +kernel
theorem d_X_drop_68 : decode prog_2_method_8_code 68 = .ok (.iload 4, 2) := by decide +kernel
theorem d_X_drop_70 : decode prog_2_method_8_code 70 = .ok (.aaload, 1) := by decide +kernel
theorem d_X_drop_71 : decode prog_2_method_8_code 71 = .ok (.dup, 1) := by decide +kernel
theorem d_X_drop_72 : decode prog_2_method_8_code 72 = .ok (.getfield 55, 3) := by decide +kernel
theorem d_X_drop_75 : decode prog_2_method_8_code 75 = .ok (.iload_n 3, 1) := by decide +kernel
theorem d_X_drop_76 : decode prog_2_method_8_code 76 = .ok (.isub, 1) := by decide +kernel
theorem d_X_drop_77 : decode prog_2_method_8_code 77 = .ok (.putfield 55, 3) := by decide +kernel
theorem d_X_drop_80 : decode prog_2_method_8_code 80 = .ok (.iinc 4 1, 3) := by decide +kernel
theorem d_X_drop_83 : decode prog_2_method_8_code 83 = .ok (.goto (-42), 3) := by decide +kernel
theorem d_X_drop_86 : decode prog_2_method_8_code 86 = .ok (.aload_n 0, 1) := by decide +kernel
theorem d_X_drop_87 : decode prog_2_method_8_code 87 = .ok (.iload_n 1, 1) := by decide +kernel
theorem d_X_drop_88 : decode prog_2_method_8_code 88 = .ok (.aload_n 0, 1) := by decide +kernel
theorem d_X_drop_89 : decode prog_2_method_8_code 89 = .ok (.getfield 28, 3) := by decide +kernel
theorem d_X_drop_92 : decode prog_2_method_8_code 92 = .ok (.iconst 1, 1) := by decide +kernel
theorem d_X_drop_93 : decode prog_2_method_8_code 93 = .ok (.isub, 1) := by decide +kernel
theorem d_X_drop_94 : decode prog_2_method_8_code 94 = .ok (.invokevirtual 69, 3) := by decide +kernel
theorem d_X_drop_97 : decode prog_2_method_8_code 97 = .ok (.aload_n 0, 1) := by decide +kernel
theorem d_X_drop_98 : decode prog_2_method_8_code 98 = .ok (.dup, 1) := by decide +kernel
theorem d_X_drop_99 : decode prog_2_method_8_code 99 = .ok (.getfield 28, 3) := by decide +kernel
theorem d_X_drop_102 : decode prog_2_method_8_code 102 = .ok (.iconst 1, 1) := by decide +kernel
theorem d_X_drop_103 : decode prog_2_method_8_code 103 = .ok (.isub, 1) := by decide +kernel
theorem d_X_drop_104 : decode prog_2_method_8_code 104 = .ok (.putfield 28, 3) := by decide +kernel
theorem d_X_drop_107 : decode prog_2_method_8_code 107 = .ok (.return_, 1) := by decide +kernel
theorem d_X_shift_0 : decode prog_2_method_9_code 0 = .ok (.aload_n 0, 1) := by decide +kernel
theorem d_X_shift_1 : decode prog_2_method_9_code 1 = .ok (.iload_n 1, 1) := by decide +kernel
theorem d_X_shift_2 : decode prog_2_method_9_code 2 = .ok (.invokevirtual 32, 3) := by decide +kernel
theorem d_X_shift_5 : decode prog_2_method_9_code 5 = .ok (.ifCond .eq 11, 3) := by decide +kernel
theorem d_X_shift_8 : decode prog_2_method_9_code 8 = .ok (.aload_n 0, 1) := by decide +kernel
theorem d_X_shift_9 : decode prog_2_method_9_code 9 = .ok (.iload_n 2, 1) := by decide +kernel
theorem d_X_shift_10 : decode prog_2_method_9_code 10 = .ok (.invokevirtual 32, 3) := by decide +kernel
theorem d_X_shift_13 : decode prog_2_method_9_code 13 = .ok (.ifCond .ne 4, 3) := by decide +kernel
theorem d_X_shift_16 : decode prog_2_method_9_code 16 = .ok (.return_, 1) := by decide +kernel
theorem d_X_shift_17 : decode prog_2_method_9_code 17 = .ok (.aload_n 0, 1) := by decide +kernel
theorem d_X_shift_18 : decode prog_2_method_9_code 18 = .ok (.getfield 11, 3) := by decide +kernel
theorem d_X_shift_21 : decode prog_2_method_9_code 21 = .ok (.iload_n 1, 1) := by decide +kernel
theorem d_X_shift_22 : decode prog_2_method_9_code 22 = .ok (.aaload, 1) := by decide +kernel
theorem d_X_shift_23 : decode prog_2_method_9_code 23 = .ok (.astore_n 3, 1) := by decide +kernel
theorem d_X_shift_24 : decode prog_2_method_9_code 24 = .ok (.iload_n 1, 1) := by decide +kernel
theorem d_X_shift_25 : decode prog_2_method_9_code 25 = .ok (.istore 4, 2) := by decide +kernel
theorem d_X_shift_27 : decode prog_2_method_9_code 27 = .ok (.iload 4, 2) := by decide +kernel
theorem d_X_shift_29 : decode prog_2_method_9_code 29 = .ok (.iload_n 2, 1) := by decide +kernel
theorem d_X_shift_30 : decode prog_2_method_9_code 30 = .ok (.if_icmp .ge 25, 3) := by decide +kernel
theorem d_X_shift_33 : decode prog_2_method_9_code 33 = .ok (.aload_n 0, 1) := by decide +kernel
theorem d_X_shift_34 : decode prog_2_method_9_code 34 = .ok (.getfield 11, 3) := by decide +kernel
theorem d_X_shift_37 : decode prog_2_method_9_code 37 = .ok (.iload 4, 2) := by decide +kernel
theorem d_X_shift_39 : decode prog_2_method_9_code 39 = .ok (.aload_n 0, 1) := by decide +kernel
theorem d_X_shift_40 : decode prog_2_method_9_code 40 = .ok (.getfield 11, 3) := by decide +kernel
theorem d_X_shift_43 : decode prog_2_method_9_code 43 = .ok (.iload 4, 2) := by decide +kernel
theorem d_X_shift_45 : decode prog_2_method_9_code 45 = .ok (.iconst 1, 1) := by decide +kernel
theorem d_X_shift_46 : decode prog_2_method_9_code 46 = .ok (.iadd, 1) := by decide +kernel
theorem d_X_shift_47 : decode prog_2_method_9_code 47 = .ok (.aaload, 1) := by decide +kernel
theorem d_X_shift_48 : decode prog_2_method_9_code 48 = .ok (.aastore, 1) := by decide +kernel
theorem d_X_shift_49 : decode prog_2_method_9_code 49 = .ok (.iinc 4 1, 3) := by decide +kernel
theorem d_X_shift_52 : decode prog_2_method_9_code 52 = .ok (.goto (-25), 3) := by decide +kernel
theorem d_X_shift_55 : decode prog_2_method_9_code 55 = .ok (.iload_n 1, 1) := by decide +kernel
theorem d_X_shift_56 : decode prog_2_method_9_code 56 = .ok (.istore 4, 2) := by decide +kernel
theorem d_X_shift_58 : decode prog_2_method_9_code 58 = .ok (.iload 4, 2) := by decide +kernel
theorem d_X_shift_60 : decode prog_2_method_9_code 60 = .ok (.iload_n 2, 1) := by decide +kernel
theorem d_X_shift_61 : decode prog_2_method_9_code 61 = .ok (.if_icmp .le 25, 3) := by decide +kernel
theorem d_X_shift_64 : decode prog_2_method_9_code 64 = .ok (.aload_n 0, 1) := by decide +kernel
theorem d_X_shift_65 : decode prog_2_method_9_code 65 = .ok (.getfield 11, 3) := by decide +kernel
theorem d_X_shift_68 : decode prog_2_method_9_code 68 = .ok (.iload 4, 2) := by decide +kernel
theorem d_X_shift_70 : decode prog_2_method_9_code 70 = .ok (.aload_n 0, 1) := by decide +kernel
theorem d_X_shift_71 : decode prog_2_method_9_code 71 = .ok (.getfield 11, 3) := by decide +kernel
theorem d_X_shift_74 : decode prog_2_method_9_code 74 = .ok (.iload 4, 2) := by decide +kernel
theorem d_X_shift_76 : decode prog_2_method_9_code 76 = .ok (.iconst 1, 1) := by decide +kernel
theorem d_X_shift_77 : decode prog_2_method_9_code 77 = .ok (.isub, 1) := by decide +kernel
theorem d_X_shift_78 : decode prog_2_method_9_code 78 = .ok (.aaload, 1) := by decide +kernel
theorem d_X_shift_79 : decode prog_2_method_9_code 79 = .ok (.aastore, 1) := by decide +kernel
theorem d_X_shift_80 : decode prog_2_method_9_code 80 = .ok (.iinc 4 (-1), 3) := by decide +kernel
theorem d_X_shift_83 : decode prog_2_method_9_code 83 = .ok (.goto (-25), 3) := by decide +kernel
theorem d_X_shift_86 : decode prog_2_method_9_code 86 = .ok (.aload_n 0, 1) := by decide +kernel
theorem d_X_shift_87 : decode prog_2_method_9_code 87 = .ok (.getfield 11, 3) := by decide +kernel
theorem d_X_shift_90 : decode prog_2_method_9_code 90 = .ok (.iload_n 2, 1) := by decide +kernel
theorem d_X_shift_91 : decode prog_2_method_9_code 91 = .ok (.aload_n 3, 1) := by decide +kernel
theorem d_X_shift_92 : decode prog_2_method_9_code 92 = .ok (.aastore, 1) := by decide +kernel
theorem d_X_shift_93 : decode prog_2_method_9_code 93 = .ok (.return_, 1) := by decide +kernel
theorem d_X_writtenLength_0 : decode prog_2_method_10_code 0 = .ok (.bipush 22, 2) := by decide +kernel
theorem d_X_writtenLength_2 : decode prog_2_method_10_code 2 = .ok (.istore_n 1, 1) := by decide +kernel
theorem d_X_writtenLength_3 : decode prog_2_method_10_code 3 = .ok (.iconst 0, 1) := by decide +kernel
theorem d_X_writtenLength_4 : decode prog_2_method_10_code 4 = .ok (.istore_n 2, 1) := by decide +kernel
theorem d_X_writtenLength_5 : decode prog_2_method_10_code 5 = .ok (.iload_n 2, 1) := by decide +kernel
theorem d_X_writtenLength_6 : decode prog_2_method_10_code 6 = .ok (.aload_n 0, 1) := by decide +kernel
theorem d_X_writtenLength_7 : decode prog_2_method_10_code 7 = .ok (.getfield 28, 3) := by decide +kernel
theorem d_X_writtenLength_10 : decode prog_2_method_10_code 10 = .ok (.if_icmp .ge 37, 3) := by decide +kernel
theorem d_X_writtenLength_13 : decode prog_2_method_10_code 13 = .ok (.iload_n 1, 1) := by decide +kernel
theorem d_X_writtenLength_14 : decode prog_2_method_10_code 14 = .ok (.aload_n 0, 1) := by decide +kernel
theorem d_X_writtenLength_15 : decode prog_2_method_10_code 15 = .ok (.getfield 11, 3) := by decide +kernel
theorem d_X_writtenLength_18 : decode prog_2_method_10_code 18 = .ok (.iload_n 2, 1) := by decide +kernel
theorem d_X_writtenLength_19 : decode prog_2_method_10_code 19 = .ok (.aaload, 1) := by decide +kernel
theorem d_X_writtenLength_20 : decode prog_2_method_10_code 20 = .ok (.invokestatic 72, 3) := by decide +kernel
theorem d_X_writtenLength_23 : decode prog_2_method_10_code 23 = .ok (.bipush 46, 2) := by decide +kernel
theorem d_X_writtenLength_25 : decode prog_2_method_10_code 25 = .ok (.iadd, 1) := by decide +kernel
theorem d_X_writtenLength_26 : decode prog_2_method_10_code 26 = .ok (.aload_n 0, 1) := by decide +kernel
theorem d_X_writtenLength_27 : decode prog_2_method_10_code 27 = .ok (.getfield 11, 3) := by decide +kernel
theorem d_X_writtenLength_30 : decode prog_2_method_10_code 30 = .ok (.iload_n 2, 1) := by decide +kernel
theorem d_X_writtenLength_31 : decode prog_2_method_10_code 31 = .ok (.aaload, 1) := by decide +kernel
theorem d_X_writtenLength_32 : decode prog_2_method_10_code 32 = .ok (.getfield 36, 3) := by decide +kernel
theorem d_X_writtenLength_35 : decode prog_2_method_10_code 35 = .ok (.invokevirtual 39, 3) := by decide +kernel
theorem d_X_writtenLength_38 : decode prog_2_method_10_code 38 = .ok (.iadd, 1) := by decide +kernel
theorem d_X_writtenLength_39 : decode prog_2_method_10_code 39 = .ok (.iadd, 1) := by decide +kernel
theorem d_X_writtenLength_40 : decode prog_2_method_10_code 40 = .ok (.istore_n 1, 1) := by decide +kernel
theorem d_X_writtenLength_41 : decode prog_2_method_10_code 41 = .ok (.iinc 2 1, 3) := by decide +kernel
theorem d_X_writtenLength_44 : decode prog_2_method_10_code 44 = .ok (.goto (-39), 3) := by decide +kernel
theorem d_X_writtenLength_47 : decode prog_2_method_10_code 47 = .ok (.iload_n 1, 1) := by decide +kernel
theorem d_X_writtenLength_48 : decode prog_2_method_10_code 48 = .ok (.ireturn, 1) := by decide +kernel
theorem d_X_writeOver_0 : decode prog_2_method_11_code 0 = .ok (.aload_n 1, 1) := by decide +kernel
theorem d_X_writeOver_1 : decode prog_2_method_11_code 1 = .ok (.iconst 0, 1) := by decide +kernel
theorem d_X_writeOver_2 : decode prog_2_method_11_code 2 = .ok (.invokevirtual 52, 3) := by decide +kernel
theorem d_X_writeOver_5 : decode prog_2_method_11_code 5 = .ok (.iconst 0, 1) := by decide +kernel
theorem d_X_writeOver_6 : decode prog_2_method_11_code 6 = .ok (.istore_n 2, 1) := by decide +kernel
theorem d_X_writeOver_7 : decode prog_2_method_11_code 7 = .ok (.iload_n 2, 1) := by decide +kernel
theorem d_X_writeOver_8 : decode prog_2_method_11_code 8 = .ok (.aload_n 0, 1) := by decide +kernel
theorem d_X_writeOver_9 : decode prog_2_method_11_code 9 = .ok (.getfield 28, 3) := by decide +kernel
theorem d_X_writeOver_12 : decode prog_2_method_11_code 12 = .ok (.if_icmp .ge 20, 3) := by decide +kernel
theorem d_X_writeOver_15 : decode prog_2_method_11_code 15 = .ok (.aload_n 0, 1) := by decide +kernel
theorem d_X_writeOver_16 : decode prog_2_method_11_code 16 = .ok (.aload_n 1, 1) := by decide +kernel
theorem d_X_writeOver_17 : decode prog_2_method_11_code 17 = .ok (.aload_n 0, 1) := by decide +kernel
theorem d_X_writeOver_18 : decode prog_2_method_11_code 18 = .ok (.getfield 11, 3) := by decide +kernel
theorem d_X_writeOver_21 : decode prog_2_method_11_code 21 = .ok (.iload_n 2, 1) := by decide +kernel
theorem d_X_writeOver_22 : decode prog_2_method_11_code 22 = .ok (.aaload, 1) := by decide +kernel
theorem d_X_writeOver_23 : decode prog_2_method_11_code 23 = .ok (.invokevirtual 76, 3) := by decide +kernel
theorem d_X_writeOver_26 : decode prog_2_method_11_code 26 = .ok (.iinc 2 1, 3) := by decide +kernel
theorem d_X_writeOver_29 : decode prog_2_method_11_code 29 = .ok (.goto (-22), 3) := by decide +kernel
theorem d_X_writeOver_32 : decode prog_2_method_11_code 32 = .ok (.aload_n 1, 1) := by decide +kernel
theorem d_X_writeOver_33 : decode prog_2_method_11_code 33 = .ok (.invokevirtual 39, 3) := by decide +kernel
theorem d_X_writeOver_36 : decode prog_2_method_11_code 36 = .ok (.istore_n 2, 1) := by decide +kernel
theorem d_X_writeOver_37 : decode prog_2_method_11_code 37 = .ok (.iconst 0, 1) := by decide +kernel
theorem d_X_writeOver_38 : decode prog_2_method_11_code 38 = .ok (.istore_n 3, 1) := by decide +kernel
theorem d_X_writeOver_39 : decode prog_2_method_11_code 39 = .ok (.iconst 0, 1) := by decide +kernel
theorem d_X_writeOver_40 : decode prog_2_method_11_code 40 = .ok (.istore 4, 2) := by decide +kernel
theorem d_X_writeOver_42 : decode prog_2_method_11_code 42 = .ok (.iload 4, 2) := by decide +kernel
theorem d_X_writeOver_44 : decode prog_2_method_11_code 44 = .ok (.aload_n 0, 1) := by decide +kernel
theorem d_X_writeOver_45 : decode prog_2_method_11_code 45 = .ok (.getfield 28, 3) := by decide +kernel
theorem d_X_writeOver_48 : decode prog_2_method_11_code 48 = .ok (.if_icmp .ge 35, 3) := by decide +kernel
theorem d_X_writeOver_51 : decode prog_2_method_11_code 51 = .ok (.aload_n 0, 1) := by decide +kernel
theorem d_X_writeOver_52 : decode prog_2_method_11_code 52 = .ok (.aload_n 1, 1) := by decide +kernel
theorem d_X_writeOver_53 : decode prog_2_method_11_code 53 = .ok (.aload_n 0, 1) := by decide +kernel
theorem d_X_writeOver_54 : decode prog_2_method_11_code 54 = .ok (.getfield 11, 3) := by decide +kernel
theorem d_X_writeOver_57 : decode prog_2_method_11_code 57 = .ok (.iload 4, 2) := by decide +kernel
theorem d_X_writeOver_59 : decode prog_2_method_11_code 59 = .ok (.aaload, 1) := by decide +kernel
theorem d_X_writeOver_60 : decode prog_2_method_11_code 60 = .ok (.iload_n 3, 1) := by decide +kernel
theorem d_X_writeOver_61 : decode prog_2_method_11_code 61 = .ok (.invokevirtual 80, 3) := by decide +kernel
theorem d_X_writeOver_64 : decode prog_2_method_11_code 64 = .ok (.iload_n 3, 1) := by decide +kernel
theorem d_X_writeOver_65 : decode prog_2_method_11_code 65 = .ok (.aload_n 0, 1) := by decide +kernel
theorem d_X_writeOver_66 : decode prog_2_method_11_code 66 = .ok (.getfield 11, 3) := by decide +kernel
theorem d_X_writeOver_69 : decode prog_2_method_11_code 69 = .ok (.iload 4, 2) := by decide +kernel
theorem d_X_writeOver_71 : decode prog_2_method_11_code 71 = .ok (.aaload, 1) := by decide +kernel
theorem d_X_writeOver_72 : decode prog_2_method_11_code 72 = .ok (.invokestatic 72, 3) := by decide +kernel
theorem d_X_writeOver_75 : decode prog_2_method_11_code 75 = .ok (.iadd, 1) := by decide +kernel
theorem d_X_writeOver_76 : decode prog_2_method_11_code 76 = .ok (.istore_n 3, 1) := by decide +kernel
theorem d_X_writeOver_77 : decode prog_2_method_11_code 77 = .ok (.iinc 4 1, 3) := by decide +kernel
theorem d_X_writeOver_80 : decode prog_2_method_11_code 80 = .ok (.goto (-38), 3) := by decide +kernel
theorem d_X_writeOver_83 : decode prog_2_method_11_code 83 = .ok (.aload_n 0, 1) := by decide +kernel
theorem d_X_writeOver_84 : decode prog_2_method_11_code 84 = .ok (.aload_n 1, 1) := by decide +kernel
theorem d_X_writeOver_85 : decode prog_2_method_11_code 85 = .ok (.iload_n 2, 1) := by decide +kernel
theorem d_X_writeOver_86 : decode prog_2_method_11_code 86 = .ok (.invokevirtual 84, 3) := by decide +kernel
theorem d_X_writeOver_89 : decode prog_2_method_11_code 89 = .ok (.return_, 1) := by decide +kernel
theorem d_X_lengthWithHead_0 : decode prog_2_method_12_code 0 = .ok (.bipush 30, 2) := by decide +kernel
theorem d_X_lengthWithHead_2 : decode prog_2_method_12_code 2 = .ok (.aload_n 0, 1) := by decide +kernel
theorem d_X_lengthWithHead_3 : decode prog_2_method_12_code 3 = .ok (.getfield 36, 3) := by decide +kernel
theorem d_X_lengthWithHead_6 : decode prog_2_method_12_code 6 = .ok (.invokevirtual 39, 3) := by decide +kernel
theorem d_X_lengthWithHead_9 : decode prog_2_method_12_code 9 = .ok (.iadd, 1) := by decide +kernel
theorem d_X_lengthWithHead_10 : decode prog_2_method_12_code 10 = .ok (.aload_n 0, 1) := by decide +kernel
theorem d_X_lengthWithHead_11 : decode prog_2_method_12_code 11 = .ok (.getfield 58, 3) := by decide +kernel
theorem d_X_lengthWithHead_14 : decode prog_2_method_12_code 14 = .ok (.iadd, 1) := by decide +kernel
theorem d_X_lengthWithHead_15 : decode prog_2_method_12_code 15 = .ok (.ireturn, 1) := by decide +kernel
theorem d_X_writeEntry_0 : decode prog_2_method_13_code 0 = .ok (.aload_n 1, 1) := by decide +kernel
theorem d_X_writeEntry_1 : decode prog_2_method_13_code 1 = .ok (.ldc 88, 2) := by decide +kernel
theorem d_X_writeEntry_3 : decode prog_2_method_13_code 3 = .ok (.iconst 4, 1) := by decide +kernel
theorem d_X_writeEntry_4 : decode prog_2_method_13_code 4 = .ok (.invokevirtual 89, 3) := by decide +kernel
theorem d_X_writeEntry_7 : decode prog_2_method_13_code 7 = .ok (.aload_n 0, 1) := by decide +kernel
theorem d_X_writeEntry_8 : decode prog_2_method_13_code 8 = .ok (.aload_n 1, 1) := by decide +kernel
theorem d_X_writeEntry_9 : decode prog_2_method_13_code 9 = .ok (.aload_n 2, 1) := by decide +kernel
theorem d_X_writeEntry_10 : decode prog_2_method_13_code 10 = .ok (.invokevirtual 92, 3) := by decide +kernel
theorem d_X_writeEntry_13 : decode prog_2_method_13_code 13 = .ok (.aload_n 1, 1) := by decide +kernel
theorem d_X_writeEntry_14 : decode prog_2_method_13_code 14 = .ok (.aload_n 2, 1) := by decide +kernel
theorem d_X_writeEntry_15 : decode prog_2_method_13_code 15 = .ok (.getfield 36, 3) := by decide +kernel
theorem d_X_writeEntry_18 : decode prog_2_method_13_code 18 = .ok (.iconst 0, 1) := by decide +kernel
theorem d_X_writeEntry_19 : decode prog_2_method_13_code 19 = .ok (.aload_n 2, 1) := by decide +kernel
theorem d_X_writeEntry_20 : decode prog_2_method_13_code 20 = .ok (.getfield 36, 3) := by decide +kernel
theorem d_X_writeEntry_23 : decode prog_2_method_13_code 23 = .ok (.invokevirtual 39, 3) := by decide +kernel
theorem d_X_writeEntry_26 : decode prog_2_method_13_code 26 = .ok (.invokevirtual 61, 3) := by decide +kernel
theorem d_X_writeEntry_29 : decode prog_2_method_13_code 29 = .ok (.aload_n 1, 1) := by decide +kernel
theorem d_X_writeEntry_30 : decode prog_2_method_13_code 30 = .ok (.aload_n 0, 1) := by decide +kernel
theorem d_X_writeEntry_31 : decode prog_2_method_13_code 31 = .ok (.getfield 24, 3) := by decide +kernel
theorem d_X_writeEntry_34 : decode prog_2_method_13_code 34 = .ok (.aload_n 2, 1) := by decide +kernel
theorem d_X_writeEntry_35 : decode prog_2_method_13_code 35 = .ok (.getfield 55, 3) := by decide +kernel
theorem d_X_writeEntry_38 : decode prog_2_method_13_code 38 = .ok (.aload_n 2, 1) := by decide +kernel
theorem d_X_writeEntry_39 : decode prog_2_method_13_code 39 = .ok (.getfield 58, 3) := by decide +kernel
theorem d_X_writeEntry_42 : decode prog_2_method_13_code 42 = .ok (.invokevirtual 61, 3) := by decide +kernel
theorem d_X_writeEntry_45 : decode prog_2_method_13_code 45 = .ok (.return_, 1) := by decide +kernel
theorem d_X_writeDirectoryHead_0 : decode prog_2_method_14_code 0 = .ok (.aload_n 1, 1) := by decide +kernel
theorem d_X_writeDirectoryHead_1 : decode prog_2_method_14_code 1 = .ok (.ldc 95, 2) := by decide +kernel
theorem d_X_writeDirectoryHead_3 : decode prog_2_method_14_code 3 = .ok (.iconst 4, 1) := by decide +kernel
theorem d_X_writeDirectoryHead_4 : decode prog_2_method_14_code 4 = .ok (.invokevirtual 89, 3) := by decide +kernel
theorem d_X_writeDirectoryHead_7 : decode prog_2_method_14_code 7 = .ok (.aload_n 1, 1) := by decide +kernel
theorem d_X_writeDirectoryHead_8 : decode prog_2_method_14_code 8 = .ok (.bipush 20, 2) := by decide +kernel
theorem d_X_writeDirectoryHead_10 : decode prog_2_method_14_code 10 = .ok (.iconst 2, 1) := by decide +kernel
theorem d_X_writeDirectoryHead_11 : decode prog_2_method_14_code 11 = .ok (.invokevirtual 89, 3) := by decide +kernel
theorem d_X_writeDirectoryHead_14 : decode prog_2_method_14_code 14 = .ok (.aload_n 0, 1) := by decide +kernel
theorem d_X_writeDirectoryHead_15 : decode prog_2_method_14_code 15 = .ok (.aload_n 1, 1) := by decide +kernel
theorem d_X_writeDirectoryHead_16 : decode prog_2_method_14_code 16 = .ok (.aload_n 2, 1) := by decide +kernel
theorem d_X_writeDirectoryHead_17 : decode prog_2_method_14_code 17 = .ok (.invokevirtual 92, 3) := by decide +kernel
theorem d_X_writeDirectoryHead_20 : decode prog_2_method_14_code 20 = .ok (.aload_n 1, 1) := by decide +kernel
theorem d_X_writeDirectoryHead_21 : decode prog_2_method_14_code 21 = .ok (.iconst 0, 1) := by decide +kernel
theorem d_X_writeDirectoryHead_22 : decode prog_2_method_14_code 22 = .ok (.iconst 2, 1) := by decide +kernel
theorem d_X_writeDirectoryHead_23 : decode prog_2_method_14_code 23 = .ok (.invokevirtual 89, 3) := by decide +kernel
theorem d_X_writeDirectoryHead_26 : decode prog_2_method_14_code 26 = .ok (.aload_n 1, 1) := by decide +kernel
theorem d_X_writeDirectoryHead_27 : decode prog_2_method_14_code 27 = .ok (.iconst 0, 1) := by decide +kernel
theorem d_X_writeDirectoryHead_28 : decode prog_2_method_14_code 28 = .ok (.iconst 2, 1) := by decide +kernel
theorem d_X_writeDirectoryHead_29 : decode prog_2_method_14_code 29 = .ok (.invokevirtual 89, 3) := by decide +kernel
theorem d_X_writeDirectoryHead_32 : decode prog_2_method_14_code 32 = .ok (.aload_n 1, 1) := by decide +kernel
theorem d_X_writeDirectoryHead_33 : decode prog_2_method_14_code 33 = .ok (.iconst 0, 1) := by decide +kernel
theorem d_X_writeDirectoryHead_34 : decode prog_2_method_14_code 34 = .ok (.iconst 2, 1) := by decide +kernel
theorem d_X_writeDirectoryHead_35 : decode prog_2_method_14_code 35 = .ok (.invokevirtual 89, 3) := by decide +kernel
theorem d_X_writeDirectoryHead_38 : decode prog_2_method_14_code 38 = .ok (.aload_n 1, 1) := by decide +kernel
theorem d_X_writeDirectoryHead_39 : decode prog_2_method_14_code 39 = .ok (.iconst 0, 1) := by decide +kernel
theorem d_X_writeDirectoryHead_40 : decode prog_2_method_14_code 40 = .ok (.iconst 4, 1) := by decide +kernel
theorem d_X_writeDirectoryHead_41 : decode prog_2_method_14_code 41 = .ok (.invokevirtual 89, 3) := by decide +kernel
theorem d_X_writeDirectoryHead_44 : decode prog_2_method_14_code 44 = .ok (.aload_n 1, 1) := by decide +kernel
theorem d_X_writeDirectoryHead_45 : decode prog_2_method_14_code 45 = .ok (.iload_n 3, 1) := by decide +kernel
theorem d_X_writeDirectoryHead_46 : decode prog_2_method_14_code 46 = .ok (.iconst 4, 1) := by decide +kernel
theorem d_X_writeDirectoryHead_47 : decode prog_2_method_14_code 47 = .ok (.invokevirtual 89, 3) := by decide +kernel
theorem d_X_writeDirectoryHead_50 : decode prog_2_method_14_code 50 = .ok (.aload_n 1, 1) := by decide +kernel
theorem d_X_writeDirectoryHead_51 : decode prog_2_method_14_code 51 = .ok (.aload_n 2, 1) := by decide +kernel
theorem d_X_writeDirectoryHead_52 : decode prog_2_method_14_code 52 = .ok (.getfield 36, 3) := by decide +kernel
theorem d_X_writeDirectoryHead_55 : decode prog_2_method_14_code 55 = .ok (.iconst 0, 1) := by decide +kernel
theorem d_X_writeDirectoryHead_56 : decode prog_2_method_14_code 56 = .ok (.aload_n 2, 1) := by decide +kernel
theorem d_X_writeDirectoryHead_57 : decode prog_2_method_14_code 57 = .ok (.getfield 36, 3) := by decide +kernel
theorem d_X_writeDirectoryHead_60 : decode prog_2_method_14_code 60 = .ok (.invokevirtual 39, 3) := by decide +kernel
theorem d_X_writeDirectoryHead_63 : decode prog_2_method_14_code 63 = .ok (.invokevirtual 61, 3) := by decide +kernel
theorem d_X_writeDirectoryHead_66 : decode prog_2_method_14_code 66 = .ok (.return_, 1) := by decide +kernel
theorem d_X_writeFacts_0 : decode prog_2_method_15_code 0 = .ok (.aload_n 1, 1) := by decide +kernel
theorem d_X_writeFacts_1 : decode prog_2_method_15_code 1 = .ok (.bipush 20, 2) := by decide +kernel
theorem d_X_writeFacts_3 : decode prog_2_method_15_code 3 = .ok (.iconst 2, 1) := by decide +kernel
theorem d_X_writeFacts_4 : decode prog_2_method_15_code 4 = .ok (.invokevirtual 89, 3) := by decide +kernel
theorem d_X_writeFacts_7 : decode prog_2_method_15_code 7 = .ok (.aload_n 1, 1) := by decide +kernel
theorem d_X_writeFacts_8 : decode prog_2_method_15_code 8 = .ok (.iconst 0, 1) := by decide +kernel
theorem d_X_writeFacts_9 : decode prog_2_method_15_code 9 = .ok (.iconst 2, 1) := by decide +kernel
theorem d_X_writeFacts_10 : decode prog_2_method_15_code 10 = .ok (.invokevirtual 89, 3) := by decide +kernel
theorem d_X_writeFacts_13 : decode prog_2_method_15_code 13 = .ok (.aload_n 1, 1) := by decide +kernel
theorem d_X_writeFacts_14 : decode prog_2_method_15_code 14 = .ok (.aload_n 2, 1) := by decide +kernel
theorem d_X_writeFacts_15 : decode prog_2_method_15_code 15 = .ok (.getfield 96, 3) := by decide +kernel
theorem d_X_writeFacts_18 : decode prog_2_method_15_code 18 = .ok (.iconst 2, 1) := by decide +kernel
theorem d_X_writeFacts_19 : decode prog_2_method_15_code 19 = .ok (.invokevirtual 89, 3) := by decide +kernel
theorem d_X_writeFacts_22 : decode prog_2_method_15_code 22 = .ok (.aload_n 1, 1) := by decide +kernel
theorem d_X_writeFacts_23 : decode prog_2_method_15_code 23 = .ok (.iconst 0, 1) := by decide +kernel
theorem d_X_writeFacts_24 : decode prog_2_method_15_code 24 = .ok (.iconst 4, 1) := by decide +kernel
theorem d_X_writeFacts_25 : decode prog_2_method_15_code 25 = .ok (.invokevirtual 89, 3) := by decide +kernel
theorem d_X_writeFacts_28 : decode prog_2_method_15_code 28 = .ok (.aload_n 1, 1) := by decide +kernel
theorem d_X_writeFacts_29 : decode prog_2_method_15_code 29 = .ok (.aload_n 2, 1) := by decide +kernel
theorem d_X_writeFacts_30 : decode prog_2_method_15_code 30 = .ok (.getfield 99, 3) := by decide +kernel
theorem d_X_writeFacts_33 : decode prog_2_method_15_code 33 = .ok (.iconst 4, 1) := by decide +kernel
theorem d_X_writeFacts_34 : decode prog_2_method_15_code 34 = .ok (.invokevirtual 89, 3) := by decide +kernel
theorem d_X_writeFacts_37 : decode prog_2_method_15_code 37 = .ok (.aload_n 1, 1) := by decide +kernel
theorem d_X_writeFacts_38 : decode prog_2_method_15_code 38 = .ok (.aload_n 2, 1) := by decide +kernel
theorem d_X_writeFacts_39 : decode prog_2_method_15_code 39 = .ok (.getfield 58, 3) := by decide +kernel
theorem d_X_writeFacts_42 : decode prog_2_method_15_code 42 = .ok (.iconst 4, 1) := by decide +kernel
theorem d_X_writeFacts_43 : decode prog_2_method_15_code 43 = .ok (.invokevirtual 89, 3) := by decide +kernel
theorem d_X_writeFacts_46 : decode prog_2_method_15_code 46 = .ok (.aload_n 1, 1) := by decide +kernel
theorem d_X_writeFacts_47 : decode prog_2_method_15_code 47 = .ok (.aload_n 2, 1) := by decide +kernel
theorem d_X_writeFacts_48 : decode prog_2_method_15_code 48 = .ok (.getfield 102, 3) := by decide +kernel
theorem d_X_writeFacts_51 : decode prog_2_method_15_code 51 = .ok (.iconst 4, 1) := by decide +kernel
theorem d_X_writeFacts_52 : decode prog_2_method_15_code 52 = .ok (.invokevirtual 89, 3) := by decide +kernel
theorem d_X_writeFacts_55 : decode prog_2_method_15_code 55 = .ok (.aload_n 1, 1) := by decide +kernel
theorem d_X_writeFacts_56 : decode prog_2_method_15_code 56 = .ok (.aload_n 2, 1) := by decide +kernel
theorem d_X_writeFacts_57 : decode prog_2_method_15_code 57 = .ok (.getfield 36, 3) := by decide +kernel
theorem d_X_writeFacts_60 : decode prog_2_method_15_code 60 = .ok (.invokevirtual 39, 3) := by decide +kernel
theorem d_X_writeFacts_63 : decode prog_2_method_15_code 63 = .ok (.iconst 2, 1) := by decide +kernel
theorem d_X_writeFacts_64 : decode prog_2_method_15_code 64 = .ok (.invokevirtual 89, 3) := by decide +kernel
theorem d_X_writeFacts_67 : decode prog_2_method_15_code 67 = .ok (.aload_n 1, 1) := by decide +kernel
theorem d_X_writeFacts_68 : decode prog_2_method_15_code 68 = .ok (.iconst 0, 1) := by decide +kernel
theorem d_X_writeFacts_69 : decode prog_2_method_15_code 69 = .ok (.iconst 2, 1) := by decide +kernel
theorem d_X_writeFacts_70 : decode prog_2_method_15_code 70 = .ok (.invokevirtual 89, 3) := by decide +kernel
theorem d_X_writeFacts_73 : decode prog_2_method_15_code 73 = .ok (.return_, 1) := by decide +kernel
theorem d_X_writeEnd_0 : decode prog_2_method_16_code 0 = .ok (.aload_n 1, 1) := by decide +kernel
theorem d_X_writeEnd_1 : decode prog_2_method_16_code 1 = .ok (.invokevirtual 39, 3) := by decide +kernel
theorem d_X_writeEnd_4 : decode prog_2_method_16_code 4 = .ok (.iload_n 2, 1) := by decide +kernel
theorem d_X_writeEnd_5 : decode prog_2_method_16_code 5 = .ok (.isub, 1) := by decide +kernel
theorem d_X_writeEnd_6 : decode prog_2_method_16_code 6 = .ok (.istore_n 3, 1) := by decide +kernel
theorem d_X_writeEnd_7 : decode prog_2_method_16_code 7 = .ok (.aload_n 1, 1) := by decide +kernel
theorem d_X_writeEnd_8 : decode prog_2_method_16_code 8 = .ok (.ldc 104, 2) := by decide +kernel
theorem d_X_writeEnd_10 : decode prog_2_method_16_code 10 = .ok (.iconst 4, 1) := by decide +kernel
theorem d_X_writeEnd_11 : decode prog_2_method_16_code 11 = .ok (.invokevirtual 89, 3) := by decide +kernel
theorem d_X_writeEnd_14 : decode prog_2_method_16_code 14 = .ok (.aload_n 1, 1) := by decide +kernel
theorem d_X_writeEnd_15 : decode prog_2_method_16_code 15 = .ok (.iconst 0, 1) := by decide +kernel
theorem d_X_writeEnd_16 : decode prog_2_method_16_code 16 = .ok (.iconst 4, 1) := by decide +kernel
theorem d_X_writeEnd_17 : decode prog_2_method_16_code 17 = .ok (.invokevirtual 89, 3) := by decide +kernel
theorem d_X_writeEnd_20 : decode prog_2_method_16_code 20 = .ok (.aload_n 1, 1) := by decide +kernel
theorem d_X_writeEnd_21 : decode prog_2_method_16_code 21 = .ok (.aload_n 0, 1) := by decide +kernel
theorem d_X_writeEnd_22 : decode prog_2_method_16_code 22 = .ok (.getfield 28, 3) := by decide +kernel
theorem d_X_writeEnd_25 : decode prog_2_method_16_code 25 = .ok (.iconst 2, 1) := by decide +kernel
theorem d_X_writeEnd_26 : decode prog_2_method_16_code 26 = .ok (.invokevirtual 89, 3) := by decide +kernel
theorem d_X_writeEnd_29 : decode prog_2_method_16_code 29 = .ok (.aload_n 1, 1) := by decide +kernel
theorem d_X_writeEnd_30 : decode prog_2_method_16_code 30 = .ok (.aload_n 0, 1) := by decide +kernel
theorem d_X_writeEnd_31 : decode prog_2_method_16_code 31 = .ok (.getfield 28, 3) := by decide +kernel
theorem d_X_writeEnd_34 : decode prog_2_method_16_code 34 = .ok (.iconst 2, 1) := by decide +kernel
theorem d_X_writeEnd_35 : decode prog_2_method_16_code 35 = .ok (.invokevirtual 89, 3) := by decide +kernel
theorem d_X_writeEnd_38 : decode prog_2_method_16_code 38 = .ok (.aload_n 1, 1) := by decide +kernel
theorem d_X_writeEnd_39 : decode prog_2_method_16_code 39 = .ok (.iload_n 3, 1) := by decide +kernel
theorem d_X_writeEnd_40 : decode prog_2_method_16_code 40 = .ok (.iconst 4, 1) := by decide +kernel
theorem d_X_writeEnd_41 : decode prog_2_method_16_code 41 = .ok (.invokevirtual 89, 3) := by decide +kernel
theorem d_X_writeEnd_44 : decode prog_2_method_16_code 44 = .ok (.aload_n 1, 1) := by decide +kernel
theorem d_X_writeEnd_45 : decode prog_2_method_16_code 45 = .ok (.iload_n 2, 1) := by decide +kernel
theorem d_X_writeEnd_46 : decode prog_2_method_16_code 46 = .ok (.iconst 4, 1) := by decide +kernel
theorem d_X_writeEnd_47 : decode prog_2_method_16_code 47 = .ok (.invokevirtual 89, 3) := by decide +kernel
theorem d_X_writeEnd_50 : decode prog_2_method_16_code 50 = .ok (.aload_n 1, 1) := by decide +kernel
theorem d_X_writeEnd_51 : decode prog_2_method_16_code 51 = .ok (.iconst 0, 1) := by decide +kernel
theorem d_X_writeEnd_52 : decode prog_2_method_16_code 52 = .ok (.iconst 2, 1) := by decide +kernel
theorem d_X_writeEnd_53 : decode prog_2_method_16_code 53 = .ok (.invokevirtual 89, 3) := by decide +kernel
theorem d_X_writeEnd_56 : decode prog_2_method_16_code 56 = .ok (.return_, 1) := by decide +kernel
theorem t_X_init_0 {l : Launch} {G : mm_G} {b : Nat} {m : mm_Mem} {Q : mm_O → mm_Mem → Prop} {r0 : Nat} {b_1 : Nat} {n_2 : Nat} {fs_7 : List Value} (k3 : ¬ (64 : Int32) < 0) (k4 : (64 : Int32).toNatClampNeg = n_2) (k5 : n_2 * 8 ≤ 536870912) (hb6 : n_2 + 1 + b_1 ≤ b) (g8 : (mm_push m (.inl (G.2 4, n_2, .inr (.inr (.inr (.inr (fun _ => none))))))) r0 = .inr (1, fs_7)) (z9 : r0 ≠ 0) (l10 : 0 < fs_7.length) (h11 : mm_W l G k_X_init 15 [(0, .ref r0), (1, .int 0)] [] b_1 (va_up (mm_push m (.inl (G.2 4, n_2, .inr (.inr (.inr (.inr (fun _ => none))))))) r0 (.inr (1, fs_7.set 0 (.ref (mm_n m + 1))))) Q) : mm_W l G k_X_init 0 [(0, .ref r0)] [] b m Q := by
  refine mm_aload_n 0 (i := 0) d_X_init_0 rfl rfl ?_
  refine mm_objInit w_62 w_25 w_26 d_X_init_1 (Nat.le_of_ble_eq_true rfl) (Nat.le_of_ble_eq_true rfl) ?_
  refine mm_aload_n 0 (i := 0) d_X_init_4 rfl rfl ?_
  refine mm_bipush d_X_init_5 (v := 64) (by decide) ?_
  refine mm_newq (t := 4) w_63 nw_64 rfl d_X_init_7 k3 k4 (by omega) hb6 ?_
  refine mm_putF cc_X 0 (by decide) w_105 d_X_init_10 rfl rfl rfl (fun _ => rfl) (fun _ => rfl) g8 z9 l10 ?_
  refine mm_iconst d_X_init_13 (v := 0) (by decide) ?_
  refine mm_istore_n (i := 1) d_X_init_14 rfl (Nat.le_of_ble_eq_true rfl) (lv2 := [(1, .int 0), (0, .ref r0)]) rfl ?_
  exact mm_sub [1, 0] rfl h11
theorem t_X_init_15 {l : Launch} {G : mm_G} {b : Nat} {m : mm_Mem} {Q : mm_O → mm_Mem → Prop} {r0 : Nat} {x1 : Int32} (h1 : (64 ≤ x1) → mm_W l G k_X_init 40 [(0, .ref r0)] [] b m Q) (h2 : (¬ 64 ≤ x1) → mm_W l G k_X_init 21 [(0, .ref r0), (1, .int x1)] [] b m Q) : mm_W l G k_X_init 15 [(0, .ref r0), (1, .int x1)] [] b m Q := by
  refine mm_iload_n 1 (i := 1) d_X_init_15 rfl rfl ?_
  refine mm_bipush d_X_init_16 (v := 64) (by decide) ?_
  exact mm_icmp_ge (tgt := 40) d_X_init_18 (by decide) (fun c => mm_sub [0] rfl (h1 c)) (fun c => mm_sub [0, 1] rfl (h2 c))
theorem t_X_init_21 {l : Launch} {G : mm_G} {b : Nat} {m : mm_Mem} {Q : mm_O → mm_Mem → Prop} {r0 : Nat} {x1 : Int32} {fs_1 : List Value} {q_4 : Nat} {b_6 : Nat} {b_8 : Nat} {b_9 : Nat} {m_11 : mm_Mem} {n_13 : Nat} {f_14 : Nat → Option Nat} {fs_18 : List Value} (g2 : m r0 = .inr (1, fs_1)) (z3 : r0 ≠ 0) (v5 : fs_1[0]? = some (.ref q_4)) (hb7 : 6 + 1 + b_6 ≤ b) (hb10 : b_8 + b_9 ≤ b_6) (M12 : mm_W l G k_E_init 0 (lv_args 0 [.ref (mm_n m + 1)]) [] b_8 (mm_push m (.inr (4, [.null, .int 0, .int 0, .int 0, .int 0, .int 0]))) (mm_is (.inl none) m_11)) (a15 : m_11 q_4 = .inl (G.2 4, n_13, .inr (.inr (.inr (.inr f_14))))) (z16 : q_4 ≠ 0) (i17 : vp_in x1 n_13) (g19 : m_11 (mm_n m + 1) = .inr (4, fs_18)) (h20 : mm_W l G k_X_init 15 [(0, .ref r0), (1, .int (x1 + 1))] [] b_9 (va_up m_11 q_4 (.inl (G.2 4, n_13, .inr (.inr (.inr (.inr (va_up f_14 x1.toNatClampNeg (some (mm_n m + 1))))))))) Q) : mm_W l G k_X_init 21 [(0, .ref r0), (1, .int x1)] [] b m Q := by
  refine mm_aload_n 0 (i := 0) d_X_init_21 rfl rfl ?_
  refine mm_get cc_X 0 (by decide) w_105 d_X_init_22 g2 z3 v5 ?_
  refine mm_iload_n 1 (i := 1) d_X_init_25 rfl rfl ?_
  refine mm_new (fs := [.null, .int 0, .int 0, .int 0, .int 0, .int 0]) cc_E w_63 w_65 w_6 df_E dz_E (fun _ => rfl) d_X_init_26 hb7 ?_
  refine mm_dup d_X_init_29 rfl ?_
  refine mm_callI (as := []) (st := [.ref (mm_n m + 1), .int x1, .ref q_4]) (b2 := b_9) ca_E_init rfl rfl rfl w_66 w_67 d_X_init_30 rfl (Nat.le_of_ble_eq_true rfl) (Nat.le_of_ble_eq_true rfl) (Nat.le_of_ble_eq_true rfl) hb10 M12 (fun E _ ⟨c, _⟩ => nomatch c) (fun v _ ⟨c, e⟩ => ?_)
  cases c
  rw [e]
  show mm_W l G k_X_init 33 [(0, .ref r0), (1, .int x1)] [.ref (mm_n m + 1), .int x1, .ref q_4] b_9 m_11 Q
  refine mm_aast (t := 4) rfl cc_E.1 d_X_init_33 a15 z16 g19 (Nat.succ_ne_zero _) i17 ?_
  refine mm_iinc 1 (i := 1) d_X_init_34 rfl (v := x1 + 1) rfl (Nat.le_of_ble_eq_true rfl) (lv2 := [(1, .int (x1 + 1)), (0, .ref r0)]) rfl ?_
  refine mm_goto (tgt := 15) d_X_init_37 (by decide) ?_
  exact mm_sub [1, 0] rfl h20
theorem t_X_init_40 {l : Launch} {G : mm_G} {b : Nat} {m : mm_Mem} {Q : mm_O → mm_Mem → Prop} {r0 : Nat} {b_1 : Nat} {b_3 : Nat} {b_4 : Nat} {m_6 : mm_Mem} {fs_8 : List Value} {fs_12 : List Value} (hb2 : 2 + 1 + b_1 ≤ b) (hb5 : b_3 + b_4 ≤ b_1) (M7 : mm_W l G k_B_init 0 (lv_args 0 [.ref (mm_n m + 1), .int 65536]) [] b_3 (mm_push m (.inr (2, [.null, .int 0]))) (mm_is (.inl none) m_6)) (g9 : m_6 r0 = .inr (1, fs_8)) (z10 : r0 ≠ 0) (l11 : 1 < fs_8.length) (g13 : (va_up m_6 r0 (.inr (1, fs_8.set 1 (.ref (mm_n m + 1))))) r0 = .inr (1, fs_12)) (l14 : 2 < fs_12.length) (h15 : Q (.inl none) (va_up (va_up m_6 r0 (.inr (1, fs_8.set 1 (.ref (mm_n m + 1))))) r0 (.inr (1, fs_12.set 2 (.int 0))))) : mm_W l G k_X_init 40 [(0, .ref r0)] [] b m Q := by
  refine mm_aload_n 0 (i := 0) d_X_init_40 rfl rfl ?_
  refine mm_new (fs := [.null, .int 0]) cc_B w_102 w_28 w_2 df_B dz_B (fun _ => rfl) d_X_init_41 hb2 ?_
  refine mm_dup d_X_init_44 rfl ?_
  refine mm_ldc (v := 65536) w_103 d_X_init_45 ?_
  refine mm_callI (as := [.int 65536]) (st := [.ref (mm_n m + 1), .ref r0]) (b2 := b_4) ca_B_init rfl rfl rfl w_104 w_31 d_X_init_47 rfl (Nat.le_of_ble_eq_true rfl) (Nat.le_of_ble_eq_true rfl) (Nat.le_of_ble_eq_true rfl) hb5 M7 (fun E _ ⟨c, _⟩ => nomatch c) (fun v _ ⟨c, e⟩ => ?_)
  cases c
  rw [e]
  show mm_W l G k_X_init 50 [(0, .ref r0)] [.ref (mm_n m + 1), .ref r0] b_4 m_6 Q
  refine mm_putF cc_X 1 (by decide) w_106 d_X_init_50 rfl rfl rfl (fun _ => rfl) (fun _ => rfl) g9 z10 l11 ?_
  refine mm_aload_n 0 (i := 0) d_X_init_53 rfl rfl ?_
  refine mm_iconst d_X_init_54 (v := 0) (by decide) ?_
  refine mm_putf cc_X 2 (by decide) w_108 d_X_init_55 rfl (fun _ => rfl) (fun _ => rfl) g13 z10 l14 ?_
  exact mm_vret d_X_init_58 rfl h15
theorem t_X_size_0 {l : Launch} {G : mm_G} {b : Nat} {m : mm_Mem} {Q : mm_O → mm_Mem → Prop} {r0 : Nat} {fs_1 : List Value} {u_4 : Int32} (g2 : m r0 = .inr (1, fs_1)) (z3 : r0 ≠ 0) (v5 : fs_1[2]? = some (.int u_4)) (h6 : Q (.inl (some (.int u_4))) m) : mm_W l G k_X_size 0 [(0, .ref r0)] [] b m Q := by
  refine mm_aload_n 0 (i := 0) d_X_size_0 rfl rfl ?_
  refine mm_get cc_X 2 (by decide) w_108 d_X_size_1 g2 z3 v5 ?_
  exact mm_iret d_X_size_4 rfl h6
theorem t_X_has_0 {l : Launch} {G : mm_G} {b : Nat} {m : mm_Mem} {Q : mm_O → mm_Mem → Prop} {r0 : Nat} {x1 : Int32} (h1 : (x1 < 0) → mm_W l G k_X_has 16 [] [] b m Q) (h2 : (¬ x1 < 0) → mm_W l G k_X_has 4 [(0, .ref r0), (1, .int x1)] [] b m Q) : mm_W l G k_X_has 0 [(0, .ref r0), (1, .int x1)] [] b m Q := by
  refine mm_iload_n 1 (i := 1) d_X_has_0 rfl rfl ?_
  exact mm_if_lt (tgt := 16) d_X_has_1 (by decide) (fun c => mm_sub [] rfl (h1 c)) (fun c => mm_sub [0, 1] rfl (h2 c))
theorem t_X_has_4 {l : Launch} {G : mm_G} {b : Nat} {m : mm_Mem} {Q : mm_O → mm_Mem → Prop} {r0 : Nat} {x1 : Int32} {fs_1 : List Value} {u_4 : Int32} (g2 : m r0 = .inr (1, fs_1)) (z3 : r0 ≠ 0) (v5 : fs_1[2]? = some (.int u_4)) (h6 : (u_4 ≤ x1) → mm_W l G k_X_has 16 [] [] b m Q) (h7 : (¬ u_4 ≤ x1) → mm_W l G k_X_has 12 [] [] b m Q) : mm_W l G k_X_has 4 [(0, .ref r0), (1, .int x1)] [] b m Q := by
  refine mm_iload_n 1 (i := 1) d_X_has_4 rfl rfl ?_
  refine mm_aload_n 0 (i := 0) d_X_has_5 rfl rfl ?_
  refine mm_get cc_X 2 (by decide) w_108 d_X_has_6 g2 z3 v5 ?_
  exact mm_icmp_ge (tgt := 16) d_X_has_9 (by decide) (fun c => mm_sub [] rfl (h6 c)) (fun c => mm_sub [] rfl (h7 c))
theorem t_X_has_12 {l : Launch} {G : mm_G} {b : Nat} {m : mm_Mem} {Q : mm_O → mm_Mem → Prop}  (h1 : mm_W l G k_X_has 17 [] [.int 1] b m Q) : mm_W l G k_X_has 12 [] [] b m Q := by
  refine mm_iconst d_X_has_12 (v := 1) (by decide) ?_
  refine mm_goto (tgt := 17) d_X_has_13 (by decide) ?_
  exact mm_sub [] rfl h1
theorem t_X_has_16 {l : Launch} {G : mm_G} {b : Nat} {m : mm_Mem} {Q : mm_O → mm_Mem → Prop}  (h1 : mm_W l G k_X_has 17 [] [.int 0] b m Q) : mm_W l G k_X_has 16 [] [] b m Q := by
  refine mm_iconst d_X_has_16 (v := 0) (by decide) ?_
  exact mm_sub [] rfl h1
theorem t_X_has_17 {l : Launch} {G : mm_G} {b : Nat} {m : mm_Mem} {Q : mm_O → mm_Mem → Prop} {xs0 : Int32} (h1 : Q (.inl (some (.int xs0))) m) (hn2 : narrow .boolean (.int xs0) = .int xs0) : mm_W l G k_X_has 17 [] [.int xs0] b m Q := by
  exact mm_zret d_X_has_17 rfl hn2 h1
theorem t_X_pick_0 {l : Launch} {G : mm_G} {b : Nat} {m : mm_Mem} {Q : mm_O → mm_Mem → Prop} {r0 : Nat} {x1 : Int32} {b_1 : Nat} {b_2 : Nat} {m_4 : mm_Mem} {x_5 : Int32} {fs_6 : List Value} (hb3 : b_1 + b_2 ≤ b) (g7 : m r0 = .inr (1, fs_6)) (z8 : r0 ≠ 0) (M9 : mm_W l G k_X_has 0 (lv_args 0 [.ref r0, .int x1]) [] b_1 m (mm_is (.inl (some (.int x_5))) m_4)) (h10 : (x_5 = 0) → mm_W l G k_X_pick 17 [] [] b_2 m_4 Q) (h11 : (¬ x_5 = 0) → mm_W l G k_X_pick 8 [(0, .ref r0), (1, .int x1)] [] b_2 m_4 Q) : mm_W l G k_X_pick 0 [(0, .ref r0), (1, .int x1)] [] b m Q := by
  refine mm_aload_n 0 (i := 0) d_X_pick_0 rfl rfl ?_
  refine mm_iload_n 1 (i := 1) d_X_pick_1 rfl rfl ?_
  refine mm_callV (as := [.int x1]) (st := []) (b2 := b_2) ca_X_has w_526 w_518 w_519 cc_X.1 rfl d_X_pick_2 rfl (Nat.le_of_ble_eq_true rfl) (Nat.le_of_ble_eq_true rfl) (Nat.le_of_ble_eq_true rfl) hb3 g7 z8 M9 (fun E _ ⟨c, _⟩ => nomatch c) (fun v _ ⟨c, e⟩ => ?_)
  cases c
  rw [e]
  show mm_W l G k_X_pick 5 [(0, .ref r0), (1, .int x1)] [.int x_5] b_2 m_4 Q
  exact mm_if_eq (tgt := 17) d_X_pick_5 (by decide) (fun c => mm_sub [] rfl (h10 c)) (fun c => mm_sub [0, 1] rfl (h11 c))
theorem t_X_pick_8 {l : Launch} {G : mm_G} {b : Nat} {m : mm_Mem} {Q : mm_O → mm_Mem → Prop} {r0 : Nat} {x1 : Int32} {fs_1 : List Value} {q_4 : Nat} {n_6 : Nat} {f_7 : Nat → Option Nat} {q_11 : Nat} (g2 : m r0 = .inr (1, fs_1)) (z3 : r0 ≠ 0) (v5 : fs_1[0]? = some (.ref q_4)) (a8 : m q_4 = .inl (G.2 4, n_6, .inr (.inr (.inr (.inr f_7))))) (z9 : q_4 ≠ 0) (i10 : vp_in x1 n_6) (e12 : f_7 x1.toNatClampNeg = some q_11) (h13 : mm_W l G k_X_pick 18 [] [.ref q_11] b m Q) : mm_W l G k_X_pick 8 [(0, .ref r0), (1, .int x1)] [] b m Q := by
  refine mm_aload_n 0 (i := 0) d_X_pick_8 rfl rfl ?_
  refine mm_get cc_X 0 (by decide) w_105 d_X_pick_9 g2 z3 v5 ?_
  refine mm_iload_n 1 (i := 1) d_X_pick_12 rfl rfl ?_
  refine mm_aald (t := 4) rfl d_X_pick_13 a8 z9 i10 e12 ?_
  refine mm_goto (tgt := 18) d_X_pick_14 (by decide) ?_
  exact mm_sub [] rfl h13
theorem t_X_pick_17 {l : Launch} {G : mm_G} {b : Nat} {m : mm_Mem} {Q : mm_O → mm_Mem → Prop}  (h1 : mm_W l G k_X_pick 18 [] [.null] b m Q) : mm_W l G k_X_pick 17 [] [] b m Q := by
  refine mm_null d_X_pick_17 ?_
  exact mm_sub [] rfl h1
theorem t_X_pick_18 {l : Launch} {G : mm_G} {b : Nat} {m : mm_Mem} {Q : mm_O → mm_Mem → Prop} {ws0 : Value} (h1 : Q (.inl (some (ws0))) m) (hw2 : ws0 = .null ∨ ∃ r, ws0 = .ref r) : mm_W l G k_X_pick 18 [] [ws0] b m Q := by
  exact mm_aret d_X_pick_18 rfl hw2 h1
theorem t_X_numberOf_0 {l : Launch} {G : mm_G} {b : Nat} {m : mm_Mem} {Q : mm_O → mm_Mem → Prop} {r0 : Nat} {r1 : Nat} (h1 : mm_W l G k_X_numberOf 2 [(0, .ref r0), (1, .ref r1), (2, .int 0)] [] b m Q) : mm_W l G k_X_numberOf 0 [(0, .ref r0), (1, .ref r1)] [] b m Q := by
  refine mm_iconst d_X_numberOf_0 (v := 0) (by decide) ?_
  refine mm_istore_n (i := 2) d_X_numberOf_1 rfl (Nat.le_of_ble_eq_true rfl) (lv2 := [(2, .int 0), (0, .ref r0), (1, .ref r1)]) rfl ?_
  exact mm_sub [1, 2, 0] rfl h1
theorem t_X_numberOf_2 {l : Launch} {G : mm_G} {b : Nat} {m : mm_Mem} {Q : mm_O → mm_Mem → Prop} {r0 : Nat} {r1 : Nat} {x2 : Int32} {fs_1 : List Value} {u_4 : Int32} (g2 : m r0 = .inr (1, fs_1)) (z3 : r0 ≠ 0) (v5 : fs_1[2]? = some (.int u_4)) (h6 : (u_4 ≤ x2) → mm_W l G k_X_numberOf 53 [] [] b m Q) (h7 : (¬ u_4 ≤ x2) → mm_W l G k_X_numberOf 10 [(0, .ref r0), (1, .ref r1), (2, .int x2)] [] b m Q) : mm_W l G k_X_numberOf 2 [(0, .ref r0), (1, .ref r1), (2, .int x2)] [] b m Q := by
  refine mm_iload_n 2 (i := 2) d_X_numberOf_2 rfl rfl ?_
  refine mm_aload_n 0 (i := 0) d_X_numberOf_3 rfl rfl ?_
  refine mm_get cc_X 2 (by decide) w_108 d_X_numberOf_4 g2 z3 v5 ?_
  exact mm_icmp_ge (tgt := 53) d_X_numberOf_7 (by decide) (fun c => mm_sub [] rfl (h6 c)) (fun c => mm_sub [0, 1, 2] rfl (h7 c))
theorem t_X_numberOf_10 {l : Launch} {G : mm_G} {b : Nat} {m : mm_Mem} {Q : mm_O → mm_Mem → Prop} {r0 : Nat} {r1 : Nat} {x2 : Int32} {fs_1 : List Value} {q_4 : Nat} {n_6 : Nat} {f_7 : Nat → Option Nat} {q_11 : Nat} {fs_13 : List Value} {q_16 : Nat} {b_18 : Nat} {b_19 : Nat} {m_21 : mm_Mem} {x_22 : Int32} {fs_23 : List Value} {b_27 : Nat} {b_28 : Nat} {m_30 : mm_Mem} {x_31 : Int32} {fs_32 : List Value} (g2 : m r0 = .inr (1, fs_1)) (z3 : r0 ≠ 0) (v5 : fs_1[0]? = some (.ref q_4)) (a8 : m q_4 = .inl (G.2 4, n_6, .inr (.inr (.inr (.inr f_7))))) (z9 : q_4 ≠ 0) (i10 : vp_in x2 n_6) (e12 : f_7 x2.toNatClampNeg = some q_11) (g14 : m q_11 = .inr (4, fs_13)) (z15 : q_11 ≠ 0) (v17 : fs_13[0]? = some (.ref q_16)) (hb20 : b_18 + b_19 ≤ b) (g24 : m q_16 = .inr (2, fs_23)) (z25 : q_16 ≠ 0) (M26 : mm_W l G k_B_size 0 (lv_args 0 [.ref q_16]) [] b_18 m (mm_is (.inl (some (.int x_22))) m_21)) (hb29 : b_27 + b_28 ≤ b_19) (g33 : m_21 r1 = .inr (2, fs_32)) (z34 : r1 ≠ 0) (M35 : mm_W l G k_B_size 0 (lv_args 0 [.ref r1]) [] b_27 m_21 (mm_is (.inl (some (.int x_31))) m_30)) (h36 : (¬ x_22 = x_31) → mm_W l G k_X_numberOf 47 [(0, .ref r0), (1, .ref r1), (2, .int x2)] [] b_28 m_30 Q) (h37 : (x_22 = x_31) → mm_W l G k_X_numberOf 31 [(0, .ref r0), (1, .ref r1), (2, .int x2), (3, .ref q_16)] [] b_28 m_30 Q) : mm_W l G k_X_numberOf 10 [(0, .ref r0), (1, .ref r1), (2, .int x2)] [] b m Q := by
  refine mm_aload_n 0 (i := 0) d_X_numberOf_10 rfl rfl ?_
  refine mm_get cc_X 0 (by decide) w_105 d_X_numberOf_11 g2 z3 v5 ?_
  refine mm_iload_n 2 (i := 2) d_X_numberOf_14 rfl rfl ?_
  refine mm_aald (t := 4) rfl d_X_numberOf_15 a8 z9 i10 e12 ?_
  refine mm_getN cc_E 0 (by decide) nw_74 d_X_numberOf_16 g14 z15 v17 ?_
  refine mm_astore_n (i := 3) d_X_numberOf_19 rfl (Nat.le_of_ble_eq_true rfl) (lv2 := [(3, .ref q_16), (0, .ref r0), (1, .ref r1), (2, .int x2)]) rfl ?_
  refine mm_aload_n 0 (i := 3) d_X_numberOf_20 rfl rfl ?_
  refine mm_callV (as := []) (st := []) (b2 := b_19) ca_B_size w_274 w_255 w_256 cc_B.1 rfl d_X_numberOf_21 rfl (Nat.le_of_ble_eq_true rfl) (Nat.le_of_ble_eq_true rfl) (Nat.le_of_ble_eq_true rfl) hb20 g24 z25 M26 (fun E _ ⟨c, _⟩ => nomatch c) (fun v _ ⟨c, e⟩ => ?_)
  cases c
  rw [e]
  show mm_W l G k_X_numberOf 24 [(3, .ref q_16), (0, .ref r0), (1, .ref r1), (2, .int x2)] [.int x_22] b_19 m_21 Q
  refine mm_aload_n 2 (i := 1) d_X_numberOf_24 rfl rfl ?_
  refine mm_callV (as := []) (st := [.int x_22]) (b2 := b_28) ca_B_size w_274 w_255 w_256 cc_B.1 rfl d_X_numberOf_25 rfl (Nat.le_of_ble_eq_true rfl) (Nat.le_of_ble_eq_true rfl) (Nat.le_of_ble_eq_true rfl) hb29 g33 z34 M35 (fun E _ ⟨c, _⟩ => nomatch c) (fun v _ ⟨c, e⟩ => ?_)
  cases c
  rw [e]
  show mm_W l G k_X_numberOf 28 [(3, .ref q_16), (0, .ref r0), (1, .ref r1), (2, .int x2)] [.int x_31, .int x_22] b_28 m_30 Q
  exact mm_icmp_ne (tgt := 47) d_X_numberOf_28 (by decide) (fun c => mm_sub [1, 2, 3] rfl (h36 c)) (fun c => mm_sub [1, 2, 3, 0] rfl (h37 c))
theorem t_X_numberOf_31 {l : Launch} {G : mm_G} {b : Nat} {m : mm_Mem} {Q : mm_O → mm_Mem → Prop} {r0 : Nat} {r1 : Nat} {x2 : Int32} {r3 : Nat} {b_1 : Nat} {b_2 : Nat} {m_4 : mm_Mem} {x_5 : Int32} {fs_6 : List Value} {b_10 : Nat} {b_11 : Nat} {m_13 : mm_Mem} {x_14 : Int32} (hb3 : b_1 + b_2 ≤ b) (g7 : m r1 = .inr (2, fs_6)) (z8 : r1 ≠ 0) (M9 : mm_W l G k_B_size 0 (lv_args 0 [.ref r1]) [] b_1 m (mm_is (.inl (some (.int x_5))) m_4)) (hb12 : b_10 + b_11 ≤ b_2) (M15 : mm_W l G k_N_areAlike 0 (lv_args 0 [.ref r3, .int 0, .ref r1, .int 0, .int x_5]) [] b_10 m_4 (mm_is (.inl (some (.int x_14))) m_13)) (h16 : (x_14 = 0) → mm_W l G k_X_numberOf 47 [(0, .ref r0), (1, .ref r1), (2, .int x2)] [] b_11 m_13 Q) (h17 : (¬ x_14 = 0) → mm_W l G k_X_numberOf 45 [(2, .int x2)] [] b_11 m_13 Q) : mm_W l G k_X_numberOf 31 [(0, .ref r0), (1, .ref r1), (2, .int x2), (3, .ref r3)] [] b m Q := by
  refine mm_aload_n 3 (i := 3) d_X_numberOf_31 rfl rfl ?_
  refine mm_iconst d_X_numberOf_32 (v := 0) (by decide) ?_
  refine mm_aload_n 1 (i := 1) d_X_numberOf_33 rfl rfl ?_
  refine mm_iconst d_X_numberOf_34 (v := 0) (by decide) ?_
  refine mm_aload_n 1 (i := 1) d_X_numberOf_35 rfl rfl ?_
  refine mm_callV (as := []) (st := [.int 0, .ref r1, .int 0, .ref r3]) (b2 := b_2) ca_B_size w_274 w_255 w_256 cc_B.1 rfl d_X_numberOf_36 rfl (Nat.le_of_ble_eq_true rfl) (Nat.le_of_ble_eq_true rfl) (Nat.le_of_ble_eq_true rfl) hb3 g7 z8 M9 (fun E _ ⟨c, _⟩ => nomatch c) (fun v _ ⟨c, e⟩ => ?_)
  cases c
  rw [e]
  show mm_W l G k_X_numberOf 39 [(0, .ref r0), (1, .ref r1), (2, .int x2), (3, .ref r3)] [.int x_5, .int 0, .ref r1, .int 0, .ref r3] b_2 m_4 Q
  refine mm_callS (as := [.ref r3, .int 0, .ref r1, .int 0, .int x_5]) (st := []) (b2 := b_11) ca_N_areAlike w_275 w_276 d_X_numberOf_39 rfl (Nat.le_of_ble_eq_true rfl) (Nat.le_of_ble_eq_true rfl) (Nat.le_of_ble_eq_true rfl) hb12 M15 (fun E _ ⟨c, _⟩ => nomatch c) (fun v _ ⟨c, e⟩ => ?_)
  cases c
  rw [e]
  show mm_W l G k_X_numberOf 42 [(0, .ref r0), (1, .ref r1), (2, .int x2), (3, .ref r3)] [.int x_14] b_11 m_13 Q
  exact mm_if_eq (tgt := 47) d_X_numberOf_42 (by decide) (fun c => mm_sub [0, 1, 2] rfl (h16 c)) (fun c => mm_sub [2] rfl (h17 c))
theorem t_X_numberOf_45 {l : Launch} {G : mm_G} {b : Nat} {m : mm_Mem} {Q : mm_O → mm_Mem → Prop} {x2 : Int32} (h1 : Q (.inl (some (.int x2))) m) : mm_W l G k_X_numberOf 45 [(2, .int x2)] [] b m Q := by
  refine mm_iload_n 0 (i := 2) d_X_numberOf_45 rfl rfl ?_
  exact mm_iret d_X_numberOf_46 rfl h1
theorem t_X_numberOf_47 {l : Launch} {G : mm_G} {b : Nat} {m : mm_Mem} {Q : mm_O → mm_Mem → Prop} {r0 : Nat} {r1 : Nat} {x2 : Int32} (h1 : mm_W l G k_X_numberOf 2 [(0, .ref r0), (1, .ref r1), (2, .int (x2 + 1))] [] b m Q) : mm_W l G k_X_numberOf 47 [(0, .ref r0), (1, .ref r1), (2, .int x2)] [] b m Q := by
  refine mm_iinc 2 (i := 2) d_X_numberOf_47 rfl (v := x2 + 1) rfl (Nat.le_of_ble_eq_true rfl) (lv2 := [(2, .int (x2 + 1)), (0, .ref r0), (1, .ref r1)]) rfl ?_
  refine mm_goto (tgt := 2) d_X_numberOf_50 (by decide) ?_
  exact mm_sub [1, 2, 0] rfl h1
theorem t_X_numberOf_53 {l : Launch} {G : mm_G} {b : Nat} {m : mm_Mem} {Q : mm_O → mm_Mem → Prop}  (h1 : Q (.inl (some (.int ((-1))))) m) : mm_W l G k_X_numberOf 53 [] [] b m Q := by
  refine mm_iconst d_X_numberOf_53 (v := (-1)) (by decide) ?_
  exact mm_iret d_X_numberOf_54 rfl h1
theorem t_X_append_0 {l : Launch} {G : mm_G} {b : Nat} {m : mm_Mem} {Q : mm_O → mm_Mem → Prop} {r0 : Nat} {r1 : Nat} {x2 : Int32} {x3 : Int32} {fs_1 : List Value} {u_4 : Int32} (g2 : m r0 = .inr (1, fs_1)) (z3 : r0 ≠ 0) (v5 : fs_1[2]? = some (.int u_4)) (h6 : (64 ≤ u_4) → mm_W l G k_X_append 20 [] [] b m Q) (h7 : (¬ 64 ≤ u_4) → mm_W l G k_X_append 9 [(0, .ref r0), (1, .ref r1), (2, .int x2), (3, .int x3)] [] b m Q) : mm_W l G k_X_append 0 [(0, .ref r0), (1, .ref r1), (2, .int x2), (3, .int x3)] [] b m Q := by
  refine mm_aload_n 0 (i := 0) d_X_append_0 rfl rfl ?_
  refine mm_get cc_X 2 (by decide) w_108 d_X_append_1 g2 z3 v5 ?_
  refine mm_bipush d_X_append_4 (v := 64) (by decide) ?_
  exact mm_icmp_ge (tgt := 20) d_X_append_6 (by decide) (fun c => mm_sub [] rfl (h6 c)) (fun c => mm_sub [0, 1, 2, 3] rfl (h7 c))
theorem t_X_append_9 {l : Launch} {G : mm_G} {b : Nat} {m : mm_Mem} {Q : mm_O → mm_Mem → Prop} {r0 : Nat} {r1 : Nat} {x2 : Int32} {x3 : Int32} {fs_1 : List Value} {q_4 : Nat} {b_6 : Nat} {b_7 : Nat} {m_9 : mm_Mem} {x_10 : Int32} {fs_11 : List Value} (g2 : m r0 = .inr (1, fs_1)) (z3 : r0 ≠ 0) (v5 : fs_1[1]? = some (.ref q_4)) (hb8 : b_6 + b_7 ≤ b) (g12 : m q_4 = .inr (2, fs_11)) (z13 : q_4 ≠ 0) (M14 : mm_W l G k_B_free 0 (lv_args 0 [.ref q_4]) [] b_6 m (mm_is (.inl (some (.int x_10))) m_9)) (h15 : (x3 ≤ x_10) → mm_W l G k_X_append 22 [(0, .ref r0), (1, .ref r1), (2, .int x2), (3, .int x3)] [] b_7 m_9 Q) (h16 : (¬ x3 ≤ x_10) → mm_W l G k_X_append 20 [] [] b_7 m_9 Q) : mm_W l G k_X_append 9 [(0, .ref r0), (1, .ref r1), (2, .int x2), (3, .int x3)] [] b m Q := by
  refine mm_iload_n 3 (i := 3) d_X_append_9 rfl rfl ?_
  refine mm_aload_n 0 (i := 0) d_X_append_10 rfl rfl ?_
  refine mm_get cc_X 1 (by decide) w_106 d_X_append_11 g2 z3 v5 ?_
  refine mm_callV (as := []) (st := [.int x3]) (b2 := b_7) ca_B_free w_482 w_302 w_303 cc_B.1 rfl d_X_append_14 rfl (Nat.le_of_ble_eq_true rfl) (Nat.le_of_ble_eq_true rfl) (Nat.le_of_ble_eq_true rfl) hb8 g12 z13 M14 (fun E _ ⟨c, _⟩ => nomatch c) (fun v _ ⟨c, e⟩ => ?_)
  cases c
  rw [e]
  show mm_W l G k_X_append 17 [(0, .ref r0), (1, .ref r1), (2, .int x2), (3, .int x3)] [.int x_10, .int x3] b_7 m_9 Q
  exact mm_icmp_le (tgt := 22) d_X_append_17 (by decide) (fun c => mm_sub [0, 1, 2, 3] rfl (h15 c)) (fun c => mm_sub [] rfl (h16 c))
theorem t_X_append_20 {l : Launch} {G : mm_G} {b : Nat} {m : mm_Mem} {Q : mm_O → mm_Mem → Prop}  (h1 : Q (.inl (some (.null))) m) : mm_W l G k_X_append 20 [] [] b m Q := by
  refine mm_null d_X_append_20 ?_
  exact mm_aret d_X_append_21 rfl (Or.inl rfl) h1
theorem t_X_append_22 {l : Launch} {G : mm_G} {b : Nat} {m : mm_Mem} {Q : mm_O → mm_Mem → Prop} {r0 : Nat} {r1 : Nat} {x2 : Int32} {x3 : Int32} {fs_1 : List Value} {q_4 : Nat} {u_6 : Int32} {n_8 : Nat} {f_9 : Nat → Option Nat} {q_13 : Nat} {fs_16 : List Value} {q_19 : Nat} {b_21 : Nat} {b_22 : Nat} {m_24 : mm_Mem} {fs_25 : List Value} {fs_29 : List Value} {q_31 : Nat} {b_33 : Nat} {b_34 : Nat} {m_36 : mm_Mem} {x_37 : Int32} {fs_38 : List Value} {fs_42 : List Value} {fs_45 : List Value} {fs_48 : List Value} {q_50 : Nat} {b_52 : Nat} {b_53 : Nat} {m_55 : mm_Mem} {fs_56 : List Value} (g2 : m r0 = .inr (1, fs_1)) (z3 : r0 ≠ 0) (v5 : fs_1[0]? = some (.ref q_4)) (v7 : fs_1[2]? = some (.int u_6)) (a10 : m q_4 = .inl (G.2 4, n_8, .inr (.inr (.inr (.inr f_9))))) (z11 : q_4 ≠ 0) (i12 : vp_in u_6 n_8) (e14 : f_9 u_6.toNatClampNeg = some q_13) (l15 : 2 < fs_1.length) (g17 : (va_up m r0 (.inr (1, fs_1.set 2 (.int (u_6 + 1))))) q_13 = .inr (4, fs_16)) (z18 : q_13 ≠ 0) (v20 : fs_16[0]? = some (.ref q_19)) (hb23 : b_21 + b_22 ≤ b) (g26 : (va_up m r0 (.inr (1, fs_1.set 2 (.int (u_6 + 1))))) q_19 = .inr (2, fs_25)) (z27 : q_19 ≠ 0) (M28 : mm_W l G k_B_keep 0 (lv_args 0 [.ref q_19, .int 0]) [] b_21 (va_up m r0 (.inr (1, fs_1.set 2 (.int (u_6 + 1))))) (mm_is (.inl none) m_24)) (g30 : m_24 r0 = .inr (1, fs_29)) (v32 : fs_29[1]? = some (.ref q_31)) (hb35 : b_33 + b_34 ≤ b_22) (g39 : m_24 q_31 = .inr (2, fs_38)) (z40 : q_31 ≠ 0) (M41 : mm_W l G k_B_size 0 (lv_args 0 [.ref q_31]) [] b_33 m_24 (mm_is (.inl (some (.int x_37))) m_36)) (g43 : m_36 q_13 = .inr (4, fs_42)) (l44 : 2 < fs_42.length) (g46 : (va_up m_36 q_13 (.inr (4, fs_42.set 2 (.int x_37)))) q_13 = .inr (4, fs_45)) (l47 : 3 < fs_45.length) (g49 : (va_up (va_up m_36 q_13 (.inr (4, fs_42.set 2 (.int x_37)))) q_13 (.inr (4, fs_45.set 3 (.int x3)))) r0 = .inr (1, fs_48)) (v51 : fs_48[1]? = some (.ref q_50)) (hb54 : b_52 + b_53 ≤ b_34) (g57 : (va_up (va_up m_36 q_13 (.inr (4, fs_42.set 2 (.int x_37)))) q_13 (.inr (4, fs_45.set 3 (.int x3)))) q_50 = .inr (2, fs_56)) (z58 : q_50 ≠ 0) (M59 : mm_W l G k_B_pushAll 0 (lv_args 0 [.ref q_50, .ref r1, .int x2, .int x3]) [] b_52 (va_up (va_up m_36 q_13 (.inr (4, fs_42.set 2 (.int x_37)))) q_13 (.inr (4, fs_45.set 3 (.int x3)))) (mm_is (.inl none) m_55)) (h60 : Q (.inl (some (.ref q_13))) m_55) : mm_W l G k_X_append 22 [(0, .ref r0), (1, .ref r1), (2, .int x2), (3, .int x3)] [] b m Q := by
  refine mm_aload_n 0 (i := 0) d_X_append_22 rfl rfl ?_
  refine mm_get cc_X 0 (by decide) w_105 d_X_append_23 g2 z3 v5 ?_
  refine mm_aload_n 0 (i := 0) d_X_append_26 rfl rfl ?_
  refine mm_get cc_X 2 (by decide) w_108 d_X_append_27 g2 z3 v7 ?_
  refine mm_aald (t := 4) rfl d_X_append_30 a10 z11 i12 e14 ?_
  refine mm_astore (i := 4) d_X_append_31 (Nat.le_of_ble_eq_true rfl) (lv2 := [(4, .ref q_13), (0, .ref r0), (1, .ref r1), (2, .int x2), (3, .int x3)]) rfl ?_
  refine mm_aload_n 1 (i := 0) d_X_append_33 rfl rfl ?_
  refine mm_dup d_X_append_34 rfl ?_
  refine mm_get cc_X 2 (by decide) w_108 d_X_append_35 g2 z3 v7 ?_
  refine mm_iconst d_X_append_38 (v := 1) (by decide) ?_
  refine mm_iadd d_X_append_39 ?_
  refine mm_putf cc_X 2 (by decide) w_108 d_X_append_40 rfl (fun _ => rfl) (fun _ => rfl) g2 z3 l15 ?_
  refine mm_aload 0 (i := 4) d_X_append_43 rfl ?_
  refine mm_getN cc_E 0 (by decide) nw_74 d_X_append_45 g17 z18 v20 ?_
  refine mm_iconst d_X_append_48 (v := 0) (by decide) ?_
  refine mm_callV (as := [.int 0]) (st := []) (b2 := b_22) ca_B_keep w_483 w_263 w_264 cc_B.1 rfl d_X_append_49 rfl (Nat.le_of_ble_eq_true rfl) (Nat.le_of_ble_eq_true rfl) (Nat.le_of_ble_eq_true rfl) hb23 g26 z27 M28 (fun E _ ⟨c, _⟩ => nomatch c) (fun v _ ⟨c, e⟩ => ?_)
  cases c
  rw [e]
  show mm_W l G k_X_append 52 [(4, .ref q_13), (0, .ref r0), (1, .ref r1), (2, .int x2), (3, .int x3)] [] b_22 m_24 Q
  refine mm_aload 0 (i := 4) d_X_append_52 rfl ?_
  refine mm_aload_n 1 (i := 0) d_X_append_54 rfl rfl ?_
  refine mm_get cc_X 1 (by decide) w_106 d_X_append_55 g30 z3 v32 ?_
  refine mm_callV (as := []) (st := [.ref q_13]) (b2 := b_34) ca_B_size w_274 w_255 w_256 cc_B.1 rfl d_X_append_58 rfl (Nat.le_of_ble_eq_true rfl) (Nat.le_of_ble_eq_true rfl) (Nat.le_of_ble_eq_true rfl) hb35 g39 z40 M41 (fun E _ ⟨c, _⟩ => nomatch c) (fun v _ ⟨c, e⟩ => ?_)
  cases c
  rw [e]
  show mm_W l G k_X_append 61 [(4, .ref q_13), (0, .ref r0), (1, .ref r1), (2, .int x2), (3, .int x3)] [.int x_37, .ref q_13] b_34 m_36 Q
  refine mm_putN cc_E 2 (by decide) nw_79 d_X_append_61 rfl (fun _ => rfl) (fun _ => rfl) g43 z18 l44 ?_
  refine mm_aload 0 (i := 4) d_X_append_64 rfl ?_
  refine mm_iload_n 4 (i := 3) d_X_append_66 rfl rfl ?_
  refine mm_putN cc_E 3 (by decide) nw_81 d_X_append_67 rfl (fun _ => rfl) (fun _ => rfl) g46 z18 l47 ?_
  refine mm_aload_n 1 (i := 0) d_X_append_70 rfl rfl ?_
  refine mm_get cc_X 1 (by decide) w_106 d_X_append_71 g49 z3 v51 ?_
  refine mm_aload_n 2 (i := 1) d_X_append_74 rfl rfl ?_
  refine mm_iload_n 3 (i := 2) d_X_append_75 rfl rfl ?_
  refine mm_iload_n 4 (i := 3) d_X_append_76 rfl rfl ?_
  refine mm_callV (as := [.ref r1, .int x2, .int x3]) (st := []) (b2 := b_53) ca_B_pushAll w_484 w_485 w_486 cc_B.1 rfl d_X_append_77 rfl (Nat.le_of_ble_eq_true rfl) (Nat.le_of_ble_eq_true rfl) (Nat.le_of_ble_eq_true rfl) hb54 g57 z58 M59 (fun E _ ⟨c, _⟩ => nomatch c) (fun v _ ⟨c, e⟩ => ?_)
  cases c
  rw [e]
  show mm_W l G k_X_append 80 [(4, .ref q_13), (0, .ref r0), (1, .ref r1), (2, .int x2), (3, .int x3)] [] b_53 m_55 Q
  refine mm_aload 0 (i := 4) d_X_append_80 rfl ?_
  exact mm_aret d_X_append_82 rfl (Or.inr ⟨_, rfl⟩) h60
theorem t_X_clear_0 {l : Launch} {G : mm_G} {b : Nat} {m : mm_Mem} {Q : mm_O → mm_Mem → Prop} {r0 : Nat} {fs_1 : List Value} {fs_5 : List Value} {q_7 : Nat} {b_9 : Nat} {b_10 : Nat} {m_12 : mm_Mem} {fs_13 : List Value} (g2 : m r0 = .inr (1, fs_1)) (z3 : r0 ≠ 0) (l4 : 2 < fs_1.length) (g6 : (va_up m r0 (.inr (1, fs_1.set 2 (.int 0)))) r0 = .inr (1, fs_5)) (v8 : fs_5[1]? = some (.ref q_7)) (hb11 : b_9 + b_10 ≤ b) (g14 : (va_up m r0 (.inr (1, fs_1.set 2 (.int 0)))) q_7 = .inr (2, fs_13)) (z15 : q_7 ≠ 0) (M16 : mm_W l G k_B_keep 0 (lv_args 0 [.ref q_7, .int 0]) [] b_9 (va_up m r0 (.inr (1, fs_1.set 2 (.int 0)))) (mm_is (.inl none) m_12)) (h17 : Q (.inl none) m_12) : mm_W l G k_X_clear 0 [(0, .ref r0)] [] b m Q := by
  refine mm_aload_n 0 (i := 0) d_X_clear_0 rfl rfl ?_
  refine mm_iconst d_X_clear_1 (v := 0) (by decide) ?_
  refine mm_putf cc_X 2 (by decide) w_108 d_X_clear_2 rfl (fun _ => rfl) (fun _ => rfl) g2 z3 l4 ?_
  refine mm_aload_n 0 (i := 0) d_X_clear_5 rfl rfl ?_
  refine mm_get cc_X 1 (by decide) w_106 d_X_clear_6 g6 z3 v8 ?_
  refine mm_iconst d_X_clear_9 (v := 0) (by decide) ?_
  refine mm_callV (as := [.int 0]) (st := []) (b2 := b_10) ca_B_keep w_483 w_263 w_264 cc_B.1 rfl d_X_clear_10 rfl (Nat.le_of_ble_eq_true rfl) (Nat.le_of_ble_eq_true rfl) (Nat.le_of_ble_eq_true rfl) hb11 g14 z15 M16 (fun E _ ⟨c, _⟩ => nomatch c) (fun v _ ⟨c, e⟩ => ?_)
  cases c
  rw [e]
  show mm_W l G k_X_clear 13 [(0, .ref r0)] [] b_10 m_12 Q
  exact mm_vret d_X_clear_13 rfl h17
theorem t_X_drop_0 {l : Launch} {G : mm_G} {b : Nat} {m : mm_Mem} {Q : mm_O → mm_Mem → Prop} {r0 : Nat} {x1 : Int32} {b_1 : Nat} {b_2 : Nat} {m_4 : mm_Mem} {x_5 : Int32} {fs_6 : List Value} (hb3 : b_1 + b_2 ≤ b) (g7 : m r0 = .inr (1, fs_6)) (z8 : r0 ≠ 0) (M9 : mm_W l G k_X_has 0 (lv_args 0 [.ref r0, .int x1]) [] b_1 m (mm_is (.inl (some (.int x_5))) m_4)) (h10 : (¬ x_5 = 0) → mm_W l G k_X_drop 9 [(0, .ref r0), (1, .int x1)] [] b_2 m_4 Q) (h11 : (x_5 = 0) → mm_W l G k_X_drop 8 [] [] b_2 m_4 Q) : mm_W l G k_X_drop 0 [(0, .ref r0), (1, .int x1)] [] b m Q := by
  refine mm_aload_n 0 (i := 0) d_X_drop_0 rfl rfl ?_
  refine mm_iload_n 1 (i := 1) d_X_drop_1 rfl rfl ?_
  refine mm_callV (as := [.int x1]) (st := []) (b2 := b_2) ca_X_has w_526 w_518 w_519 cc_X.1 rfl d_X_drop_2 rfl (Nat.le_of_ble_eq_true rfl) (Nat.le_of_ble_eq_true rfl) (Nat.le_of_ble_eq_true rfl) hb3 g7 z8 M9 (fun E _ ⟨c, _⟩ => nomatch c) (fun v _ ⟨c, e⟩ => ?_)
  cases c
  rw [e]
  show mm_W l G k_X_drop 5 [(0, .ref r0), (1, .int x1)] [.int x_5] b_2 m_4 Q
  exact mm_if_ne (tgt := 9) d_X_drop_5 (by decide) (fun c => mm_sub [0, 1] rfl (h10 c)) (fun c => mm_sub [] rfl (h11 c))
theorem t_X_drop_8 {l : Launch} {G : mm_G} {b : Nat} {m : mm_Mem} {Q : mm_O → mm_Mem → Prop}  (h1 : Q (.inl none) m) : mm_W l G k_X_drop 8 [] [] b m Q := by
  exact mm_vret d_X_drop_8 rfl h1
theorem t_X_drop_9 {l : Launch} {G : mm_G} {b : Nat} {m : mm_Mem} {Q : mm_O → mm_Mem → Prop} {r0 : Nat} {x1 : Int32} {fs_1 : List Value} {q_4 : Nat} {n_6 : Nat} {f_7 : Nat → Option Nat} {q_11 : Nat} {fs_13 : List Value} {u_16 : Int32} {q_19 : Nat} {fs_21 : List Value} {u_24 : Int32} {q_26 : Nat} {b_28 : Nat} {b_29 : Nat} {m_31 : mm_Mem} {fs_32 : List Value} (g2 : m r0 = .inr (1, fs_1)) (z3 : r0 ≠ 0) (v5 : fs_1[0]? = some (.ref q_4)) (a8 : m q_4 = .inl (G.2 4, n_6, .inr (.inr (.inr (.inr f_7))))) (z9 : q_4 ≠ 0) (i10 : vp_in x1 n_6) (e12 : f_7 x1.toNatClampNeg = some q_11) (g14 : m q_11 = .inr (4, fs_13)) (z15 : q_11 ≠ 0) (v17 : fs_13[2]? = some (.int u_16)) (i18 : vp_in x1 n_6) (e20 : f_7 x1.toNatClampNeg = some q_19) (g22 : m q_19 = .inr (4, fs_21)) (z23 : q_19 ≠ 0) (v25 : fs_21[3]? = some (.int u_24)) (v27 : fs_1[1]? = some (.ref q_26)) (hb30 : b_28 + b_29 ≤ b) (g33 : m q_26 = .inr (2, fs_32)) (z34 : q_26 ≠ 0) (M35 : mm_W l G k_B_cut 0 (lv_args 0 [.ref q_26, .int u_16, .int u_24]) [] b_28 m (mm_is (.inl none) m_31)) (h36 : mm_W l G k_X_drop 41 [(0, .ref r0), (1, .int x1), (2, .int u_16), (3, .int u_24), (4, .int 0)] [] b_29 m_31 Q) : mm_W l G k_X_drop 9 [(0, .ref r0), (1, .int x1)] [] b m Q := by
  refine mm_aload_n 0 (i := 0) d_X_drop_9 rfl rfl ?_
  refine mm_get cc_X 0 (by decide) w_105 d_X_drop_10 g2 z3 v5 ?_
  refine mm_iload_n 1 (i := 1) d_X_drop_13 rfl rfl ?_
  refine mm_aald (t := 4) rfl d_X_drop_14 a8 z9 i10 e12 ?_
  refine mm_getN cc_E 2 (by decide) nw_79 d_X_drop_15 g14 z15 v17 ?_
  refine mm_istore_n (i := 2) d_X_drop_18 rfl (Nat.le_of_ble_eq_true rfl) (lv2 := [(2, .int u_16), (0, .ref r0), (1, .int x1)]) rfl ?_
  refine mm_aload_n 1 (i := 0) d_X_drop_19 rfl rfl ?_
  refine mm_get cc_X 0 (by decide) w_105 d_X_drop_20 g2 z3 v5 ?_
  refine mm_iload_n 2 (i := 1) d_X_drop_23 rfl rfl ?_
  refine mm_aald (t := 4) rfl d_X_drop_24 a8 z9 i18 e20 ?_
  refine mm_getN cc_E 3 (by decide) nw_81 d_X_drop_25 g22 z23 v25 ?_
  refine mm_istore_n (i := 3) d_X_drop_28 rfl (Nat.le_of_ble_eq_true rfl) (lv2 := [(3, .int u_24), (2, .int u_16), (0, .ref r0), (1, .int x1)]) rfl ?_
  refine mm_aload_n 2 (i := 0) d_X_drop_29 rfl rfl ?_
  refine mm_get cc_X 1 (by decide) w_106 d_X_drop_30 g2 z3 v27 ?_
  refine mm_iload_n 1 (i := 2) d_X_drop_33 rfl rfl ?_
  refine mm_iload_n 0 (i := 3) d_X_drop_34 rfl rfl ?_
  refine mm_callV (as := [.int u_16, .int u_24]) (st := []) (b2 := b_29) ca_B_cut w_527 w_528 w_529 cc_B.1 rfl d_X_drop_35 rfl (Nat.le_of_ble_eq_true rfl) (Nat.le_of_ble_eq_true rfl) (Nat.le_of_ble_eq_true rfl) hb30 g33 z34 M35 (fun E _ ⟨c, _⟩ => nomatch c) (fun v _ ⟨c, e⟩ => ?_)
  cases c
  rw [e]
  show mm_W l G k_X_drop 38 [(3, .int u_24), (2, .int u_16), (0, .ref r0), (1, .int x1)] [] b_29 m_31 Q
  refine mm_iconst d_X_drop_38 (v := 0) (by decide) ?_
  refine mm_istore (i := 4) d_X_drop_39 (Nat.le_of_ble_eq_true rfl) (lv2 := [(4, .int 0), (3, .int u_24), (2, .int u_16), (0, .ref r0), (1, .int x1)]) rfl ?_
  exact mm_sub [3, 4, 2, 1, 0] rfl h36
theorem t_X_drop_41 {l : Launch} {G : mm_G} {b : Nat} {m : mm_Mem} {Q : mm_O → mm_Mem → Prop} {r0 : Nat} {x1 : Int32} {x2 : Int32} {x3 : Int32} {x4 : Int32} {fs_1 : List Value} {u_4 : Int32} (g2 : m r0 = .inr (1, fs_1)) (z3 : r0 ≠ 0) (v5 : fs_1[2]? = some (.int u_4)) (h6 : (u_4 ≤ x4) → mm_W l G k_X_drop 86 [(0, .ref r0), (1, .int x1)] [] b m Q) (h7 : (¬ u_4 ≤ x4) → mm_W l G k_X_drop 50 [(0, .ref r0), (1, .int x1), (2, .int x2), (3, .int x3), (4, .int x4)] [] b m Q) : mm_W l G k_X_drop 41 [(0, .ref r0), (1, .int x1), (2, .int x2), (3, .int x3), (4, .int x4)] [] b m Q := by
  refine mm_iload 4 (i := 4) d_X_drop_41 rfl ?_
  refine mm_aload_n 0 (i := 0) d_X_drop_43 rfl rfl ?_
  refine mm_get cc_X 2 (by decide) w_108 d_X_drop_44 g2 z3 v5 ?_
  exact mm_icmp_ge (tgt := 86) d_X_drop_47 (by decide) (fun c => mm_sub [0, 1] rfl (h6 c)) (fun c => mm_sub [0, 1, 2, 3, 4] rfl (h7 c))
theorem t_X_drop_50 {l : Launch} {G : mm_G} {b : Nat} {m : mm_Mem} {Q : mm_O → mm_Mem → Prop} {r0 : Nat} {x1 : Int32} {x2 : Int32} {x3 : Int32} {x4 : Int32} {fs_1 : List Value} {q_4 : Nat} {n_6 : Nat} {f_7 : Nat → Option Nat} {q_11 : Nat} {fs_13 : List Value} {u_16 : Int32} (g2 : m r0 = .inr (1, fs_1)) (z3 : r0 ≠ 0) (v5 : fs_1[0]? = some (.ref q_4)) (a8 : m q_4 = .inl (G.2 4, n_6, .inr (.inr (.inr (.inr f_7))))) (z9 : q_4 ≠ 0) (i10 : vp_in x4 n_6) (e12 : f_7 x4.toNatClampNeg = some q_11) (g14 : m q_11 = .inr (4, fs_13)) (z15 : q_11 ≠ 0) (v17 : fs_13[2]? = some (.int u_16)) (h18 : (u_16 ≤ x2) → mm_W l G k_X_drop 80 [(0, .ref r0), (1, .int x1), (2, .int x2), (3, .int x3), (4, .int x4)] [] b m Q) (h19 : (¬ u_16 ≤ x2) → mm_W l G k_X_drop 64 [(0, .ref r0), (1, .int x1), (2, .int x2), (3, .int x3), (4, .int x4)] [] b m Q) : mm_W l G k_X_drop 50 [(0, .ref r0), (1, .int x1), (2, .int x2), (3, .int x3), (4, .int x4)] [] b m Q := by
  refine mm_aload_n 0 (i := 0) d_X_drop_50 rfl rfl ?_
  refine mm_get cc_X 0 (by decide) w_105 d_X_drop_51 g2 z3 v5 ?_
  refine mm_iload 4 (i := 4) d_X_drop_54 rfl ?_
  refine mm_aald (t := 4) rfl d_X_drop_56 a8 z9 i10 e12 ?_
  refine mm_getN cc_E 2 (by decide) nw_79 d_X_drop_57 g14 z15 v17 ?_
  refine mm_iload_n 2 (i := 2) d_X_drop_60 rfl rfl ?_
  exact mm_icmp_le (tgt := 80) d_X_drop_61 (by decide) (fun c => mm_sub [0, 1, 2, 3, 4] rfl (h18 c)) (fun c => mm_sub [0, 1, 2, 3, 4] rfl (h19 c))
theorem t_X_drop_64 {l : Launch} {G : mm_G} {b : Nat} {m : mm_Mem} {Q : mm_O → mm_Mem → Prop} {r0 : Nat} {x1 : Int32} {x2 : Int32} {x3 : Int32} {x4 : Int32} {fs_1 : List Value} {q_4 : Nat} {n_6 : Nat} {f_7 : Nat → Option Nat} {q_11 : Nat} {fs_13 : List Value} {u_16 : Int32} (g2 : m r0 = .inr (1, fs_1)) (z3 : r0 ≠ 0) (v5 : fs_1[0]? = some (.ref q_4)) (a8 : m q_4 = .inl (G.2 4, n_6, .inr (.inr (.inr (.inr f_7))))) (z9 : q_4 ≠ 0) (i10 : vp_in x4 n_6) (e12 : f_7 x4.toNatClampNeg = some q_11) (g14 : m q_11 = .inr (4, fs_13)) (z15 : q_11 ≠ 0) (v17 : fs_13[2]? = some (.int u_16)) (l18 : 2 < fs_13.length) (h19 : mm_W l G k_X_drop 80 [(0, .ref r0), (1, .int x1), (2, .int x2), (3, .int x3), (4, .int x4)] [] b (va_up m q_11 (.inr (4, fs_13.set 2 (.int (u_16 - x3))))) Q) : mm_W l G k_X_drop 64 [(0, .ref r0), (1, .int x1), (2, .int x2), (3, .int x3), (4, .int x4)] [] b m Q := by
  refine mm_aload_n 0 (i := 0) d_X_drop_64 rfl rfl ?_
  refine mm_get cc_X 0 (by decide) w_105 d_X_drop_65 g2 z3 v5 ?_
  refine mm_iload 4 (i := 4) d_X_drop_68 rfl ?_
  refine mm_aald (t := 4) rfl d_X_drop_70 a8 z9 i10 e12 ?_
  refine mm_dup d_X_drop_71 rfl ?_
  refine mm_getN cc_E 2 (by decide) nw_79 d_X_drop_72 g14 z15 v17 ?_
  refine mm_iload_n 3 (i := 3) d_X_drop_75 rfl rfl ?_
  refine mm_isub d_X_drop_76 ?_
  refine mm_putN cc_E 2 (by decide) nw_79 d_X_drop_77 rfl (fun _ => rfl) (fun _ => rfl) g14 z15 l18 ?_
  exact mm_sub [0, 1, 2, 3, 4] rfl h19
theorem t_X_drop_80 {l : Launch} {G : mm_G} {b : Nat} {m : mm_Mem} {Q : mm_O → mm_Mem → Prop} {r0 : Nat} {x1 : Int32} {x2 : Int32} {x3 : Int32} {x4 : Int32} (h1 : mm_W l G k_X_drop 41 [(0, .ref r0), (1, .int x1), (2, .int x2), (3, .int x3), (4, .int (x4 + 1))] [] b m Q) : mm_W l G k_X_drop 80 [(0, .ref r0), (1, .int x1), (2, .int x2), (3, .int x3), (4, .int x4)] [] b m Q := by
  refine mm_iinc 4 (i := 4) d_X_drop_80 rfl (v := x4 + 1) rfl (Nat.le_of_ble_eq_true rfl) (lv2 := [(4, .int (x4 + 1)), (0, .ref r0), (1, .int x1), (2, .int x2), (3, .int x3)]) rfl ?_
  refine mm_goto (tgt := 41) d_X_drop_83 (by decide) ?_
  exact mm_sub [1, 2, 3, 4, 0] rfl h1
theorem t_X_drop_86 {l : Launch} {G : mm_G} {b : Nat} {m : mm_Mem} {Q : mm_O → mm_Mem → Prop} {r0 : Nat} {x1 : Int32} {fs_1 : List Value} {u_4 : Int32} {b_6 : Nat} {b_7 : Nat} {m_9 : mm_Mem} {fs_11 : List Value} {u_13 : Int32} (g2 : m r0 = .inr (1, fs_1)) (z3 : r0 ≠ 0) (v5 : fs_1[2]? = some (.int u_4)) (hb8 : b_6 + b_7 ≤ b) (M10 : mm_W l G k_X_shift 0 (lv_args 0 [.ref r0, .int x1, .int (u_4 - 1)]) [] b_6 m (mm_is (.inl none) m_9)) (g12 : m_9 r0 = .inr (1, fs_11)) (v14 : fs_11[2]? = some (.int u_13)) (l15 : 2 < fs_11.length) (h16 : Q (.inl none) (va_up m_9 r0 (.inr (1, fs_11.set 2 (.int (u_13 - 1)))))) : mm_W l G k_X_drop 86 [(0, .ref r0), (1, .int x1)] [] b m Q := by
  refine mm_aload_n 0 (i := 0) d_X_drop_86 rfl rfl ?_
  refine mm_iload_n 1 (i := 1) d_X_drop_87 rfl rfl ?_
  refine mm_aload_n 0 (i := 0) d_X_drop_88 rfl rfl ?_
  refine mm_get cc_X 2 (by decide) w_108 d_X_drop_89 g2 z3 v5 ?_
  refine mm_iconst d_X_drop_92 (v := 1) (by decide) ?_
  refine mm_isub d_X_drop_93 ?_
  refine mm_callV (as := [.int x1, .int (u_4 - 1)]) (st := []) (b2 := b_7) ca_X_shift w_531 w_532 w_533 cc_X.1 rfl d_X_drop_94 rfl (Nat.le_of_ble_eq_true rfl) (Nat.le_of_ble_eq_true rfl) (Nat.le_of_ble_eq_true rfl) hb8 g2 z3 M10 (fun E _ ⟨c, _⟩ => nomatch c) (fun v _ ⟨c, e⟩ => ?_)
  cases c
  rw [e]
  show mm_W l G k_X_drop 97 [(0, .ref r0), (1, .int x1)] [] b_7 m_9 Q
  refine mm_aload_n 0 (i := 0) d_X_drop_97 rfl rfl ?_
  refine mm_dup d_X_drop_98 rfl ?_
  refine mm_get cc_X 2 (by decide) w_108 d_X_drop_99 g12 z3 v14 ?_
  refine mm_iconst d_X_drop_102 (v := 1) (by decide) ?_
  refine mm_isub d_X_drop_103 ?_
  refine mm_putf cc_X 2 (by decide) w_108 d_X_drop_104 rfl (fun _ => rfl) (fun _ => rfl) g12 z3 l15 ?_
  exact mm_vret d_X_drop_107 rfl h16
theorem t_X_shift_0 {l : Launch} {G : mm_G} {b : Nat} {m : mm_Mem} {Q : mm_O → mm_Mem → Prop} {r0 : Nat} {x1 : Int32} {x2 : Int32} {b_1 : Nat} {b_2 : Nat} {m_4 : mm_Mem} {x_5 : Int32} {fs_6 : List Value} (hb3 : b_1 + b_2 ≤ b) (g7 : m r0 = .inr (1, fs_6)) (z8 : r0 ≠ 0) (M9 : mm_W l G k_X_has 0 (lv_args 0 [.ref r0, .int x1]) [] b_1 m (mm_is (.inl (some (.int x_5))) m_4)) (h10 : (x_5 = 0) → mm_W l G k_X_shift 16 [] [] b_2 m_4 Q) (h11 : (¬ x_5 = 0) → mm_W l G k_X_shift 8 [(0, .ref r0), (1, .int x1), (2, .int x2)] [] b_2 m_4 Q) : mm_W l G k_X_shift 0 [(0, .ref r0), (1, .int x1), (2, .int x2)] [] b m Q := by
  refine mm_aload_n 0 (i := 0) d_X_shift_0 rfl rfl ?_
  refine mm_iload_n 1 (i := 1) d_X_shift_1 rfl rfl ?_
  refine mm_callV (as := [.int x1]) (st := []) (b2 := b_2) ca_X_has w_526 w_518 w_519 cc_X.1 rfl d_X_shift_2 rfl (Nat.le_of_ble_eq_true rfl) (Nat.le_of_ble_eq_true rfl) (Nat.le_of_ble_eq_true rfl) hb3 g7 z8 M9 (fun E _ ⟨c, _⟩ => nomatch c) (fun v _ ⟨c, e⟩ => ?_)
  cases c
  rw [e]
  show mm_W l G k_X_shift 5 [(0, .ref r0), (1, .int x1), (2, .int x2)] [.int x_5] b_2 m_4 Q
  exact mm_if_eq (tgt := 16) d_X_shift_5 (by decide) (fun c => mm_sub [] rfl (h10 c)) (fun c => mm_sub [0, 1, 2] rfl (h11 c))
theorem t_X_shift_8 {l : Launch} {G : mm_G} {b : Nat} {m : mm_Mem} {Q : mm_O → mm_Mem → Prop} {r0 : Nat} {x1 : Int32} {x2 : Int32} {b_1 : Nat} {b_2 : Nat} {m_4 : mm_Mem} {x_5 : Int32} {fs_6 : List Value} (hb3 : b_1 + b_2 ≤ b) (g7 : m r0 = .inr (1, fs_6)) (z8 : r0 ≠ 0) (M9 : mm_W l G k_X_has 0 (lv_args 0 [.ref r0, .int x2]) [] b_1 m (mm_is (.inl (some (.int x_5))) m_4)) (h10 : (¬ x_5 = 0) → mm_W l G k_X_shift 17 [(0, .ref r0), (1, .int x1), (2, .int x2)] [] b_2 m_4 Q) (h11 : (x_5 = 0) → mm_W l G k_X_shift 16 [] [] b_2 m_4 Q) : mm_W l G k_X_shift 8 [(0, .ref r0), (1, .int x1), (2, .int x2)] [] b m Q := by
  refine mm_aload_n 0 (i := 0) d_X_shift_8 rfl rfl ?_
  refine mm_iload_n 2 (i := 2) d_X_shift_9 rfl rfl ?_
  refine mm_callV (as := [.int x2]) (st := []) (b2 := b_2) ca_X_has w_526 w_518 w_519 cc_X.1 rfl d_X_shift_10 rfl (Nat.le_of_ble_eq_true rfl) (Nat.le_of_ble_eq_true rfl) (Nat.le_of_ble_eq_true rfl) hb3 g7 z8 M9 (fun E _ ⟨c, _⟩ => nomatch c) (fun v _ ⟨c, e⟩ => ?_)
  cases c
  rw [e]
  show mm_W l G k_X_shift 13 [(0, .ref r0), (1, .int x1), (2, .int x2)] [.int x_5] b_2 m_4 Q
  exact mm_if_ne (tgt := 17) d_X_shift_13 (by decide) (fun c => mm_sub [0, 1, 2] rfl (h10 c)) (fun c => mm_sub [] rfl (h11 c))
theorem t_X_shift_16 {l : Launch} {G : mm_G} {b : Nat} {m : mm_Mem} {Q : mm_O → mm_Mem → Prop}  (h1 : Q (.inl none) m) : mm_W l G k_X_shift 16 [] [] b m Q := by
  exact mm_vret d_X_shift_16 rfl h1
theorem t_X_shift_17 {l : Launch} {G : mm_G} {b : Nat} {m : mm_Mem} {Q : mm_O → mm_Mem → Prop} {r0 : Nat} {x1 : Int32} {x2 : Int32} {fs_1 : List Value} {q_4 : Nat} {n_6 : Nat} {f_7 : Nat → Option Nat} {q_11 : Nat} (g2 : m r0 = .inr (1, fs_1)) (z3 : r0 ≠ 0) (v5 : fs_1[0]? = some (.ref q_4)) (a8 : m q_4 = .inl (G.2 4, n_6, .inr (.inr (.inr (.inr f_7))))) (z9 : q_4 ≠ 0) (i10 : vp_in x1 n_6) (e12 : f_7 x1.toNatClampNeg = some q_11) (h13 : mm_W l G k_X_shift 27 [(0, .ref r0), (1, .int x1), (2, .int x2), (3, .ref q_11), (4, .int x1)] [] b m Q) : mm_W l G k_X_shift 17 [(0, .ref r0), (1, .int x1), (2, .int x2)] [] b m Q := by
  refine mm_aload_n 0 (i := 0) d_X_shift_17 rfl rfl ?_
  refine mm_get cc_X 0 (by decide) w_105 d_X_shift_18 g2 z3 v5 ?_
  refine mm_iload_n 1 (i := 1) d_X_shift_21 rfl rfl ?_
  refine mm_aald (t := 4) rfl d_X_shift_22 a8 z9 i10 e12 ?_
  refine mm_astore_n (i := 3) d_X_shift_23 rfl (Nat.le_of_ble_eq_true rfl) (lv2 := [(3, .ref q_11), (0, .ref r0), (1, .int x1), (2, .int x2)]) rfl ?_
  refine mm_iload_n 2 (i := 1) d_X_shift_24 rfl rfl ?_
  refine mm_istore (i := 4) d_X_shift_25 (Nat.le_of_ble_eq_true rfl) (lv2 := [(4, .int x1), (3, .ref q_11), (0, .ref r0), (1, .int x1), (2, .int x2)]) rfl ?_
  exact mm_sub [2, 3, 4, 1, 0] rfl h13
theorem t_X_shift_27 {l : Launch} {G : mm_G} {b : Nat} {m : mm_Mem} {Q : mm_O → mm_Mem → Prop} {r0 : Nat} {x1 : Int32} {x2 : Int32} {r3 : Nat} {x4 : Int32} (h1 : (x2 ≤ x4) → mm_W l G k_X_shift 55 [(0, .ref r0), (1, .int x1), (2, .int x2), (3, .ref r3)] [] b m Q) (h2 : (¬ x2 ≤ x4) → mm_W l G k_X_shift 33 [(0, .ref r0), (1, .int x1), (2, .int x2), (3, .ref r3), (4, .int x4)] [] b m Q) : mm_W l G k_X_shift 27 [(0, .ref r0), (1, .int x1), (2, .int x2), (3, .ref r3), (4, .int x4)] [] b m Q := by
  refine mm_iload 4 (i := 4) d_X_shift_27 rfl ?_
  refine mm_iload_n 2 (i := 2) d_X_shift_29 rfl rfl ?_
  exact mm_icmp_ge (tgt := 55) d_X_shift_30 (by decide) (fun c => mm_sub [0, 1, 2, 3] rfl (h1 c)) (fun c => mm_sub [0, 1, 2, 3, 4] rfl (h2 c))
theorem t_X_shift_33 {l : Launch} {G : mm_G} {b : Nat} {m : mm_Mem} {Q : mm_O → mm_Mem → Prop} {r0 : Nat} {x1 : Int32} {x2 : Int32} {r3 : Nat} {x4 : Int32} {fs_1 : List Value} {q_4 : Nat} {n_6 : Nat} {f_7 : Nat → Option Nat} {q_11 : Nat} {fs_14 : List Value} (g2 : m r0 = .inr (1, fs_1)) (z3 : r0 ≠ 0) (v5 : fs_1[0]? = some (.ref q_4)) (a8 : m q_4 = .inl (G.2 4, n_6, .inr (.inr (.inr (.inr f_7))))) (z9 : q_4 ≠ 0) (i10 : vp_in (x4 + 1) n_6) (e12 : f_7 (x4 + 1).toNatClampNeg = some q_11) (i13 : vp_in x4 n_6) (g15 : m q_11 = .inr (4, fs_14)) (z16 : q_11 ≠ 0) (h17 : mm_W l G k_X_shift 27 [(0, .ref r0), (1, .int x1), (2, .int x2), (3, .ref r3), (4, .int (x4 + 1))] [] b (va_up m q_4 (.inl (G.2 4, n_6, .inr (.inr (.inr (.inr (va_up f_7 x4.toNatClampNeg (some q_11)))))))) Q) : mm_W l G k_X_shift 33 [(0, .ref r0), (1, .int x1), (2, .int x2), (3, .ref r3), (4, .int x4)] [] b m Q := by
  refine mm_aload_n 0 (i := 0) d_X_shift_33 rfl rfl ?_
  refine mm_get cc_X 0 (by decide) w_105 d_X_shift_34 g2 z3 v5 ?_
  refine mm_iload 4 (i := 4) d_X_shift_37 rfl ?_
  refine mm_aload_n 0 (i := 0) d_X_shift_39 rfl rfl ?_
  refine mm_get cc_X 0 (by decide) w_105 d_X_shift_40 g2 z3 v5 ?_
  refine mm_iload 4 (i := 4) d_X_shift_43 rfl ?_
  refine mm_iconst d_X_shift_45 (v := 1) (by decide) ?_
  refine mm_iadd d_X_shift_46 ?_
  refine mm_aald (t := 4) rfl d_X_shift_47 a8 z9 i10 e12 ?_
  refine mm_aast (t := 4) rfl cc_E.1 d_X_shift_48 a8 z9 g15 z16 i13 ?_
  refine mm_iinc 4 (i := 4) d_X_shift_49 rfl (v := x4 + 1) rfl (Nat.le_of_ble_eq_true rfl) (lv2 := [(4, .int (x4 + 1)), (0, .ref r0), (1, .int x1), (2, .int x2), (3, .ref r3)]) rfl ?_
  refine mm_goto (tgt := 27) d_X_shift_52 (by decide) ?_
  exact mm_sub [1, 2, 3, 4, 0] rfl h17
theorem t_X_shift_55 {l : Launch} {G : mm_G} {b : Nat} {m : mm_Mem} {Q : mm_O → mm_Mem → Prop} {r0 : Nat} {x1 : Int32} {x2 : Int32} {r3 : Nat} (h1 : mm_W l G k_X_shift 58 [(0, .ref r0), (2, .int x2), (3, .ref r3), (4, .int x1)] [] b m Q) : mm_W l G k_X_shift 55 [(0, .ref r0), (1, .int x1), (2, .int x2), (3, .ref r3)] [] b m Q := by
  refine mm_iload_n 1 (i := 1) d_X_shift_55 rfl rfl ?_
  refine mm_istore (i := 4) d_X_shift_56 (Nat.le_of_ble_eq_true rfl) (lv2 := [(4, .int x1), (0, .ref r0), (1, .int x1), (2, .int x2), (3, .ref r3)]) rfl ?_
  exact mm_sub [1, 3, 4, 0] rfl h1
theorem t_X_shift_58 {l : Launch} {G : mm_G} {b : Nat} {m : mm_Mem} {Q : mm_O → mm_Mem → Prop} {r0 : Nat} {x2 : Int32} {r3 : Nat} {x4 : Int32} (h1 : (x4 ≤ x2) → mm_W l G k_X_shift 86 [(0, .ref r0), (2, .int x2), (3, .ref r3)] [] b m Q) (h2 : (¬ x4 ≤ x2) → mm_W l G k_X_shift 64 [(0, .ref r0), (2, .int x2), (3, .ref r3), (4, .int x4)] [] b m Q) : mm_W l G k_X_shift 58 [(0, .ref r0), (2, .int x2), (3, .ref r3), (4, .int x4)] [] b m Q := by
  refine mm_iload 3 (i := 4) d_X_shift_58 rfl ?_
  refine mm_iload_n 1 (i := 2) d_X_shift_60 rfl rfl ?_
  exact mm_icmp_le (tgt := 86) d_X_shift_61 (by decide) (fun c => mm_sub [0, 1, 2] rfl (h1 c)) (fun c => mm_sub [0, 1, 2, 3] rfl (h2 c))
theorem t_X_shift_64 {l : Launch} {G : mm_G} {b : Nat} {m : mm_Mem} {Q : mm_O → mm_Mem → Prop} {r0 : Nat} {x2 : Int32} {r3 : Nat} {x4 : Int32} {fs_1 : List Value} {q_4 : Nat} {n_6 : Nat} {f_7 : Nat → Option Nat} {q_11 : Nat} {fs_14 : List Value} (g2 : m r0 = .inr (1, fs_1)) (z3 : r0 ≠ 0) (v5 : fs_1[0]? = some (.ref q_4)) (a8 : m q_4 = .inl (G.2 4, n_6, .inr (.inr (.inr (.inr f_7))))) (z9 : q_4 ≠ 0) (i10 : vp_in (x4 - 1) n_6) (e12 : f_7 (x4 - 1).toNatClampNeg = some q_11) (i13 : vp_in x4 n_6) (g15 : m q_11 = .inr (4, fs_14)) (z16 : q_11 ≠ 0) (h17 : mm_W l G k_X_shift 58 [(0, .ref r0), (2, .int x2), (3, .ref r3), (4, .int (x4 + (-1)))] [] b (va_up m q_4 (.inl (G.2 4, n_6, .inr (.inr (.inr (.inr (va_up f_7 x4.toNatClampNeg (some q_11)))))))) Q) : mm_W l G k_X_shift 64 [(0, .ref r0), (2, .int x2), (3, .ref r3), (4, .int x4)] [] b m Q := by
  refine mm_aload_n 0 (i := 0) d_X_shift_64 rfl rfl ?_
  refine mm_get cc_X 0 (by decide) w_105 d_X_shift_65 g2 z3 v5 ?_
  refine mm_iload 3 (i := 4) d_X_shift_68 rfl ?_
  refine mm_aload_n 0 (i := 0) d_X_shift_70 rfl rfl ?_
  refine mm_get cc_X 0 (by decide) w_105 d_X_shift_71 g2 z3 v5 ?_
  refine mm_iload 3 (i := 4) d_X_shift_74 rfl ?_
  refine mm_iconst d_X_shift_76 (v := 1) (by decide) ?_
  refine mm_isub d_X_shift_77 ?_
  refine mm_aald (t := 4) rfl d_X_shift_78 a8 z9 i10 e12 ?_
  refine mm_aast (t := 4) rfl cc_E.1 d_X_shift_79 a8 z9 g15 z16 i13 ?_
  refine mm_iinc 3 (i := 4) d_X_shift_80 rfl (v := x4 + (-1)) rfl (Nat.le_of_ble_eq_true rfl) (lv2 := [(4, .int (x4 + (-1))), (0, .ref r0), (2, .int x2), (3, .ref r3)]) rfl ?_
  refine mm_goto (tgt := 58) d_X_shift_83 (by decide) ?_
  exact mm_sub [1, 2, 3, 0] rfl h17
theorem t_X_shift_86 {l : Launch} {G : mm_G} {b : Nat} {m : mm_Mem} {Q : mm_O → mm_Mem → Prop} {r0 : Nat} {x2 : Int32} {r3 : Nat} {fs_1 : List Value} {q_4 : Nat} {n_6 : Nat} {f_7 : Nat → Option Nat} {fs_11 : List Value} (g2 : m r0 = .inr (1, fs_1)) (z3 : r0 ≠ 0) (v5 : fs_1[0]? = some (.ref q_4)) (a8 : m q_4 = .inl (G.2 4, n_6, .inr (.inr (.inr (.inr f_7))))) (z9 : q_4 ≠ 0) (i10 : vp_in x2 n_6) (g12 : m r3 = .inr (4, fs_11)) (z13 : r3 ≠ 0) (h14 : Q (.inl none) (va_up m q_4 (.inl (G.2 4, n_6, .inr (.inr (.inr (.inr (va_up f_7 x2.toNatClampNeg (some r3))))))))) : mm_W l G k_X_shift 86 [(0, .ref r0), (2, .int x2), (3, .ref r3)] [] b m Q := by
  refine mm_aload_n 0 (i := 0) d_X_shift_86 rfl rfl ?_
  refine mm_get cc_X 0 (by decide) w_105 d_X_shift_87 g2 z3 v5 ?_
  refine mm_iload_n 1 (i := 2) d_X_shift_90 rfl rfl ?_
  refine mm_aload_n 2 (i := 3) d_X_shift_91 rfl rfl ?_
  refine mm_aast (t := 4) rfl cc_E.1 d_X_shift_92 a8 z9 g12 z13 i10 ?_
  exact mm_vret d_X_shift_93 rfl h14
theorem t_X_writtenLength_0 {l : Launch} {G : mm_G} {b : Nat} {m : mm_Mem} {Q : mm_O → mm_Mem → Prop} {r0 : Nat} (h1 : mm_W l G k_X_writtenLength 5 [(0, .ref r0), (1, .int 22), (2, .int 0)] [] b m Q) : mm_W l G k_X_writtenLength 0 [(0, .ref r0)] [] b m Q := by
  refine mm_bipush d_X_writtenLength_0 (v := 22) (by decide) ?_
  refine mm_istore_n (i := 1) d_X_writtenLength_2 rfl (Nat.le_of_ble_eq_true rfl) (lv2 := [(1, .int 22), (0, .ref r0)]) rfl ?_
  refine mm_iconst d_X_writtenLength_3 (v := 0) (by decide) ?_
  refine mm_istore_n (i := 2) d_X_writtenLength_4 rfl (Nat.le_of_ble_eq_true rfl) (lv2 := [(2, .int 0), (1, .int 22), (0, .ref r0)]) rfl ?_
  exact mm_sub [2, 1, 0] rfl h1
theorem t_X_writtenLength_5 {l : Launch} {G : mm_G} {b : Nat} {m : mm_Mem} {Q : mm_O → mm_Mem → Prop} {r0 : Nat} {x1 : Int32} {x2 : Int32} {fs_1 : List Value} {u_4 : Int32} (g2 : m r0 = .inr (1, fs_1)) (z3 : r0 ≠ 0) (v5 : fs_1[2]? = some (.int u_4)) (h6 : (u_4 ≤ x2) → mm_W l G k_X_writtenLength 47 [(1, .int x1)] [] b m Q) (h7 : (¬ u_4 ≤ x2) → mm_W l G k_X_writtenLength 13 [(0, .ref r0), (1, .int x1), (2, .int x2)] [] b m Q) : mm_W l G k_X_writtenLength 5 [(0, .ref r0), (1, .int x1), (2, .int x2)] [] b m Q := by
  refine mm_iload_n 2 (i := 2) d_X_writtenLength_5 rfl rfl ?_
  refine mm_aload_n 0 (i := 0) d_X_writtenLength_6 rfl rfl ?_
  refine mm_get cc_X 2 (by decide) w_108 d_X_writtenLength_7 g2 z3 v5 ?_
  exact mm_icmp_ge (tgt := 47) d_X_writtenLength_10 (by decide) (fun c => mm_sub [1] rfl (h6 c)) (fun c => mm_sub [0, 1, 2] rfl (h7 c))
theorem t_X_writtenLength_13 {l : Launch} {G : mm_G} {b : Nat} {m : mm_Mem} {Q : mm_O → mm_Mem → Prop} {r0 : Nat} {x1 : Int32} {x2 : Int32} {fs_1 : List Value} {q_4 : Nat} {n_6 : Nat} {f_7 : Nat → Option Nat} {q_11 : Nat} {b_13 : Nat} {b_14 : Nat} {m_16 : mm_Mem} {x_17 : Int32} {fs_19 : List Value} {q_21 : Nat} {n_23 : Nat} {f_24 : Nat → Option Nat} {q_28 : Nat} {fs_30 : List Value} {q_33 : Nat} {b_35 : Nat} {b_36 : Nat} {m_38 : mm_Mem} {x_39 : Int32} {fs_40 : List Value} (g2 : m r0 = .inr (1, fs_1)) (z3 : r0 ≠ 0) (v5 : fs_1[0]? = some (.ref q_4)) (a8 : m q_4 = .inl (G.2 4, n_6, .inr (.inr (.inr (.inr f_7))))) (z9 : q_4 ≠ 0) (i10 : vp_in x2 n_6) (e12 : f_7 x2.toNatClampNeg = some q_11) (hb15 : b_13 + b_14 ≤ b) (M18 : mm_W l G k_X_lengthWithHead 0 (lv_args 0 [.ref q_11]) [] b_13 m (mm_is (.inl (some (.int x_17))) m_16)) (g20 : m_16 r0 = .inr (1, fs_19)) (v22 : fs_19[0]? = some (.ref q_21)) (a25 : m_16 q_21 = .inl (G.2 4, n_23, .inr (.inr (.inr (.inr f_24))))) (z26 : q_21 ≠ 0) (i27 : vp_in x2 n_23) (e29 : f_24 x2.toNatClampNeg = some q_28) (g31 : m_16 q_28 = .inr (4, fs_30)) (z32 : q_28 ≠ 0) (v34 : fs_30[0]? = some (.ref q_33)) (hb37 : b_35 + b_36 ≤ b_14) (g41 : m_16 q_33 = .inr (2, fs_40)) (z42 : q_33 ≠ 0) (M43 : mm_W l G k_B_size 0 (lv_args 0 [.ref q_33]) [] b_35 m_16 (mm_is (.inl (some (.int x_39))) m_38)) (h44 : mm_W l G k_X_writtenLength 5 [(0, .ref r0), (1, .int (x1 + ((x_17 + 46) + x_39))), (2, .int (x2 + 1))] [] b_36 m_38 Q) : mm_W l G k_X_writtenLength 13 [(0, .ref r0), (1, .int x1), (2, .int x2)] [] b m Q := by
  refine mm_iload_n 1 (i := 1) d_X_writtenLength_13 rfl rfl ?_
  refine mm_aload_n 0 (i := 0) d_X_writtenLength_14 rfl rfl ?_
  refine mm_get cc_X 0 (by decide) w_105 d_X_writtenLength_15 g2 z3 v5 ?_
  refine mm_iload_n 2 (i := 2) d_X_writtenLength_18 rfl rfl ?_
  refine mm_aald (t := 4) rfl d_X_writtenLength_19 a8 z9 i10 e12 ?_
  refine mm_callS (as := [.ref q_11]) (st := [.int x1]) (b2 := b_14) ca_X_lengthWithHead w_581 w_582 d_X_writtenLength_20 rfl (Nat.le_of_ble_eq_true rfl) (Nat.le_of_ble_eq_true rfl) (Nat.le_of_ble_eq_true rfl) hb15 M18 (fun E _ ⟨c, _⟩ => nomatch c) (fun v _ ⟨c, e⟩ => ?_)
  cases c
  rw [e]
  show mm_W l G k_X_writtenLength 23 [(0, .ref r0), (1, .int x1), (2, .int x2)] [.int x_17, .int x1] b_14 m_16 Q
  refine mm_bipush d_X_writtenLength_23 (v := 46) (by decide) ?_
  refine mm_iadd d_X_writtenLength_25 ?_
  refine mm_aload_n 0 (i := 0) d_X_writtenLength_26 rfl rfl ?_
  refine mm_get cc_X 0 (by decide) w_105 d_X_writtenLength_27 g20 z3 v22 ?_
  refine mm_iload_n 2 (i := 2) d_X_writtenLength_30 rfl rfl ?_
  refine mm_aald (t := 4) rfl d_X_writtenLength_31 a25 z26 i27 e29 ?_
  refine mm_getN cc_E 0 (by decide) nw_74 d_X_writtenLength_32 g31 z32 v34 ?_
  refine mm_callV (as := []) (st := [.int (x_17 + 46), .int x1]) (b2 := b_36) ca_B_size w_274 w_255 w_256 cc_B.1 rfl d_X_writtenLength_35 rfl (Nat.le_of_ble_eq_true rfl) (Nat.le_of_ble_eq_true rfl) (Nat.le_of_ble_eq_true rfl) hb37 g41 z42 M43 (fun E _ ⟨c, _⟩ => nomatch c) (fun v _ ⟨c, e⟩ => ?_)
  cases c
  rw [e]
  show mm_W l G k_X_writtenLength 38 [(0, .ref r0), (1, .int x1), (2, .int x2)] [.int x_39, .int (x_17 + 46), .int x1] b_36 m_38 Q
  refine mm_iadd d_X_writtenLength_38 ?_
  refine mm_iadd d_X_writtenLength_39 ?_
  refine mm_istore_n (i := 1) d_X_writtenLength_40 rfl (Nat.le_of_ble_eq_true rfl) (lv2 := [(1, .int (x1 + ((x_17 + 46) + x_39))), (0, .ref r0), (2, .int x2)]) rfl ?_
  refine mm_iinc 2 (i := 2) d_X_writtenLength_41 rfl (v := x2 + 1) rfl (Nat.le_of_ble_eq_true rfl) (lv2 := [(2, .int (x2 + 1)), (1, .int (x1 + ((x_17 + 46) + x_39))), (0, .ref r0)]) rfl ?_
  refine mm_goto (tgt := 5) d_X_writtenLength_44 (by decide) ?_
  exact mm_sub [2, 1, 0] rfl h44
theorem t_X_writtenLength_47 {l : Launch} {G : mm_G} {b : Nat} {m : mm_Mem} {Q : mm_O → mm_Mem → Prop} {x1 : Int32} (h1 : Q (.inl (some (.int x1))) m) : mm_W l G k_X_writtenLength 47 [(1, .int x1)] [] b m Q := by
  refine mm_iload_n 0 (i := 1) d_X_writtenLength_47 rfl rfl ?_
  exact mm_iret d_X_writtenLength_48 rfl h1
theorem t_X_writeOver_0 {l : Launch} {G : mm_G} {b : Nat} {m : mm_Mem} {Q : mm_O → mm_Mem → Prop} {r0 : Nat} {r1 : Nat} {b_1 : Nat} {b_2 : Nat} {m_4 : mm_Mem} {fs_5 : List Value} (hb3 : b_1 + b_2 ≤ b) (g6 : m r1 = .inr (2, fs_5)) (z7 : r1 ≠ 0) (M8 : mm_W l G k_B_keep 0 (lv_args 0 [.ref r1, .int 0]) [] b_1 m (mm_is (.inl none) m_4)) (h9 : mm_W l G k_X_writeOver 7 [(0, .ref r0), (1, .ref r1), (2, .int 0)] [] b_2 m_4 Q) : mm_W l G k_X_writeOver 0 [(0, .ref r0), (1, .ref r1)] [] b m Q := by
  refine mm_aload_n 1 (i := 1) d_X_writeOver_0 rfl rfl ?_
  refine mm_iconst d_X_writeOver_1 (v := 0) (by decide) ?_
  refine mm_callV (as := [.int 0]) (st := []) (b2 := b_2) ca_B_keep w_483 w_263 w_264 cc_B.1 rfl d_X_writeOver_2 rfl (Nat.le_of_ble_eq_true rfl) (Nat.le_of_ble_eq_true rfl) (Nat.le_of_ble_eq_true rfl) hb3 g6 z7 M8 (fun E _ ⟨c, _⟩ => nomatch c) (fun v _ ⟨c, e⟩ => ?_)
  cases c
  rw [e]
  show mm_W l G k_X_writeOver 5 [(0, .ref r0), (1, .ref r1)] [] b_2 m_4 Q
  refine mm_iconst d_X_writeOver_5 (v := 0) (by decide) ?_
  refine mm_istore_n (i := 2) d_X_writeOver_6 rfl (Nat.le_of_ble_eq_true rfl) (lv2 := [(2, .int 0), (0, .ref r0), (1, .ref r1)]) rfl ?_
  exact mm_sub [1, 2, 0] rfl h9
theorem t_X_writeOver_7 {l : Launch} {G : mm_G} {b : Nat} {m : mm_Mem} {Q : mm_O → mm_Mem → Prop} {r0 : Nat} {r1 : Nat} {x2 : Int32} {fs_1 : List Value} {u_4 : Int32} (g2 : m r0 = .inr (1, fs_1)) (z3 : r0 ≠ 0) (v5 : fs_1[2]? = some (.int u_4)) (h6 : (u_4 ≤ x2) → mm_W l G k_X_writeOver 32 [(0, .ref r0), (1, .ref r1)] [] b m Q) (h7 : (¬ u_4 ≤ x2) → mm_W l G k_X_writeOver 15 [(0, .ref r0), (1, .ref r1), (2, .int x2)] [] b m Q) : mm_W l G k_X_writeOver 7 [(0, .ref r0), (1, .ref r1), (2, .int x2)] [] b m Q := by
  refine mm_iload_n 2 (i := 2) d_X_writeOver_7 rfl rfl ?_
  refine mm_aload_n 0 (i := 0) d_X_writeOver_8 rfl rfl ?_
  refine mm_get cc_X 2 (by decide) w_108 d_X_writeOver_9 g2 z3 v5 ?_
  exact mm_icmp_ge (tgt := 32) d_X_writeOver_12 (by decide) (fun c => mm_sub [0, 1] rfl (h6 c)) (fun c => mm_sub [0, 1, 2] rfl (h7 c))
theorem t_X_writeOver_15 {l : Launch} {G : mm_G} {b : Nat} {m : mm_Mem} {Q : mm_O → mm_Mem → Prop} {r0 : Nat} {r1 : Nat} {x2 : Int32} {fs_1 : List Value} {q_4 : Nat} {n_6 : Nat} {f_7 : Nat → Option Nat} {q_11 : Nat} {b_13 : Nat} {b_14 : Nat} {m_16 : mm_Mem} (g2 : m r0 = .inr (1, fs_1)) (z3 : r0 ≠ 0) (v5 : fs_1[0]? = some (.ref q_4)) (a8 : m q_4 = .inl (G.2 4, n_6, .inr (.inr (.inr (.inr f_7))))) (z9 : q_4 ≠ 0) (i10 : vp_in x2 n_6) (e12 : f_7 x2.toNatClampNeg = some q_11) (hb15 : b_13 + b_14 ≤ b) (M17 : mm_W l G k_X_writeEntry 0 (lv_args 0 [.ref r0, .ref r1, .ref q_11]) [] b_13 m (mm_is (.inl none) m_16)) (h18 : mm_W l G k_X_writeOver 7 [(0, .ref r0), (1, .ref r1), (2, .int (x2 + 1))] [] b_14 m_16 Q) : mm_W l G k_X_writeOver 15 [(0, .ref r0), (1, .ref r1), (2, .int x2)] [] b m Q := by
  refine mm_aload_n 0 (i := 0) d_X_writeOver_15 rfl rfl ?_
  refine mm_aload_n 1 (i := 1) d_X_writeOver_16 rfl rfl ?_
  refine mm_aload_n 0 (i := 0) d_X_writeOver_17 rfl rfl ?_
  refine mm_get cc_X 0 (by decide) w_105 d_X_writeOver_18 g2 z3 v5 ?_
  refine mm_iload_n 2 (i := 2) d_X_writeOver_21 rfl rfl ?_
  refine mm_aald (t := 4) rfl d_X_writeOver_22 a8 z9 i10 e12 ?_
  refine mm_callV (as := [.ref r1, .ref q_11]) (st := []) (b2 := b_14) ca_X_writeEntry w_588 w_590 v_X_writeEntry cc_X.1 rfl d_X_writeOver_23 rfl (Nat.le_of_ble_eq_true rfl) (Nat.le_of_ble_eq_true rfl) (Nat.le_of_ble_eq_true rfl) hb15 g2 z3 M17 (fun E _ ⟨c, _⟩ => nomatch c) (fun v _ ⟨c, e⟩ => ?_)
  cases c
  rw [e]
  show mm_W l G k_X_writeOver 26 [(0, .ref r0), (1, .ref r1), (2, .int x2)] [] b_14 m_16 Q
  refine mm_iinc 2 (i := 2) d_X_writeOver_26 rfl (v := x2 + 1) rfl (Nat.le_of_ble_eq_true rfl) (lv2 := [(2, .int (x2 + 1)), (0, .ref r0), (1, .ref r1)]) rfl ?_
  refine mm_goto (tgt := 7) d_X_writeOver_29 (by decide) ?_
  exact mm_sub [1, 2, 0] rfl h18
theorem t_X_writeOver_32 {l : Launch} {G : mm_G} {b : Nat} {m : mm_Mem} {Q : mm_O → mm_Mem → Prop} {r0 : Nat} {r1 : Nat} {b_1 : Nat} {b_2 : Nat} {m_4 : mm_Mem} {x_5 : Int32} {fs_6 : List Value} (hb3 : b_1 + b_2 ≤ b) (g7 : m r1 = .inr (2, fs_6)) (z8 : r1 ≠ 0) (M9 : mm_W l G k_B_size 0 (lv_args 0 [.ref r1]) [] b_1 m (mm_is (.inl (some (.int x_5))) m_4)) (h10 : mm_W l G k_X_writeOver 42 [(0, .ref r0), (1, .ref r1), (2, .int x_5), (3, .int 0), (4, .int 0)] [] b_2 m_4 Q) : mm_W l G k_X_writeOver 32 [(0, .ref r0), (1, .ref r1)] [] b m Q := by
  refine mm_aload_n 1 (i := 1) d_X_writeOver_32 rfl rfl ?_
  refine mm_callV (as := []) (st := []) (b2 := b_2) ca_B_size w_274 w_255 w_256 cc_B.1 rfl d_X_writeOver_33 rfl (Nat.le_of_ble_eq_true rfl) (Nat.le_of_ble_eq_true rfl) (Nat.le_of_ble_eq_true rfl) hb3 g7 z8 M9 (fun E _ ⟨c, _⟩ => nomatch c) (fun v _ ⟨c, e⟩ => ?_)
  cases c
  rw [e]
  show mm_W l G k_X_writeOver 36 [(0, .ref r0), (1, .ref r1)] [.int x_5] b_2 m_4 Q
  refine mm_istore_n (i := 2) d_X_writeOver_36 rfl (Nat.le_of_ble_eq_true rfl) (lv2 := [(2, .int x_5), (0, .ref r0), (1, .ref r1)]) rfl ?_
  refine mm_iconst d_X_writeOver_37 (v := 0) (by decide) ?_
  refine mm_istore_n (i := 3) d_X_writeOver_38 rfl (Nat.le_of_ble_eq_true rfl) (lv2 := [(3, .int 0), (2, .int x_5), (0, .ref r0), (1, .ref r1)]) rfl ?_
  refine mm_iconst d_X_writeOver_39 (v := 0) (by decide) ?_
  refine mm_istore (i := 4) d_X_writeOver_40 (Nat.le_of_ble_eq_true rfl) (lv2 := [(4, .int 0), (3, .int 0), (2, .int x_5), (0, .ref r0), (1, .ref r1)]) rfl ?_
  exact mm_sub [3, 4, 2, 1, 0] rfl h10
theorem t_X_writeOver_42 {l : Launch} {G : mm_G} {b : Nat} {m : mm_Mem} {Q : mm_O → mm_Mem → Prop} {r0 : Nat} {r1 : Nat} {x2 : Int32} {x3 : Int32} {x4 : Int32} {fs_1 : List Value} {u_4 : Int32} (g2 : m r0 = .inr (1, fs_1)) (z3 : r0 ≠ 0) (v5 : fs_1[2]? = some (.int u_4)) (h6 : (u_4 ≤ x4) → mm_W l G k_X_writeOver 83 [(0, .ref r0), (1, .ref r1), (2, .int x2)] [] b m Q) (h7 : (¬ u_4 ≤ x4) → mm_W l G k_X_writeOver 51 [(0, .ref r0), (1, .ref r1), (2, .int x2), (3, .int x3), (4, .int x4)] [] b m Q) : mm_W l G k_X_writeOver 42 [(0, .ref r0), (1, .ref r1), (2, .int x2), (3, .int x3), (4, .int x4)] [] b m Q := by
  refine mm_iload 4 (i := 4) d_X_writeOver_42 rfl ?_
  refine mm_aload_n 0 (i := 0) d_X_writeOver_44 rfl rfl ?_
  refine mm_get cc_X 2 (by decide) w_108 d_X_writeOver_45 g2 z3 v5 ?_
  exact mm_icmp_ge (tgt := 83) d_X_writeOver_48 (by decide) (fun c => mm_sub [0, 1, 2] rfl (h6 c)) (fun c => mm_sub [0, 1, 2, 3, 4] rfl (h7 c))
theorem t_X_writeOver_51 {l : Launch} {G : mm_G} {b : Nat} {m : mm_Mem} {Q : mm_O → mm_Mem → Prop} {r0 : Nat} {r1 : Nat} {x2 : Int32} {x3 : Int32} {x4 : Int32} {fs_1 : List Value} {q_4 : Nat} {n_6 : Nat} {f_7 : Nat → Option Nat} {q_11 : Nat} {b_13 : Nat} {b_14 : Nat} {m_16 : mm_Mem} {fs_18 : List Value} {q_20 : Nat} {n_22 : Nat} {f_23 : Nat → Option Nat} {q_27 : Nat} {b_29 : Nat} {b_30 : Nat} {m_32 : mm_Mem} {x_33 : Int32} (g2 : m r0 = .inr (1, fs_1)) (z3 : r0 ≠ 0) (v5 : fs_1[0]? = some (.ref q_4)) (a8 : m q_4 = .inl (G.2 4, n_6, .inr (.inr (.inr (.inr f_7))))) (z9 : q_4 ≠ 0) (i10 : vp_in x4 n_6) (e12 : f_7 x4.toNatClampNeg = some q_11) (hb15 : b_13 + b_14 ≤ b) (M17 : mm_W l G k_X_writeDirectoryHead 0 (lv_args 0 [.ref r0, .ref r1, .ref q_11, .int x3]) [] b_13 m (mm_is (.inl none) m_16)) (g19 : m_16 r0 = .inr (1, fs_18)) (v21 : fs_18[0]? = some (.ref q_20)) (a24 : m_16 q_20 = .inl (G.2 4, n_22, .inr (.inr (.inr (.inr f_23))))) (z25 : q_20 ≠ 0) (i26 : vp_in x4 n_22) (e28 : f_23 x4.toNatClampNeg = some q_27) (hb31 : b_29 + b_30 ≤ b_14) (M34 : mm_W l G k_X_lengthWithHead 0 (lv_args 0 [.ref q_27]) [] b_29 m_16 (mm_is (.inl (some (.int x_33))) m_32)) (h35 : mm_W l G k_X_writeOver 42 [(0, .ref r0), (1, .ref r1), (2, .int x2), (3, .int (x3 + x_33)), (4, .int (x4 + 1))] [] b_30 m_32 Q) : mm_W l G k_X_writeOver 51 [(0, .ref r0), (1, .ref r1), (2, .int x2), (3, .int x3), (4, .int x4)] [] b m Q := by
  refine mm_aload_n 0 (i := 0) d_X_writeOver_51 rfl rfl ?_
  refine mm_aload_n 1 (i := 1) d_X_writeOver_52 rfl rfl ?_
  refine mm_aload_n 0 (i := 0) d_X_writeOver_53 rfl rfl ?_
  refine mm_get cc_X 0 (by decide) w_105 d_X_writeOver_54 g2 z3 v5 ?_
  refine mm_iload 4 (i := 4) d_X_writeOver_57 rfl ?_
  refine mm_aald (t := 4) rfl d_X_writeOver_59 a8 z9 i10 e12 ?_
  refine mm_iload_n 3 (i := 3) d_X_writeOver_60 rfl rfl ?_
  refine mm_callV (as := [.ref r1, .ref q_11, .int x3]) (st := []) (b2 := b_14) ca_X_writeDirectoryHead w_601 w_603 v_X_writeDirectoryHead cc_X.1 rfl d_X_writeOver_61 rfl (Nat.le_of_ble_eq_true rfl) (Nat.le_of_ble_eq_true rfl) (Nat.le_of_ble_eq_true rfl) hb15 g2 z3 M17 (fun E _ ⟨c, _⟩ => nomatch c) (fun v _ ⟨c, e⟩ => ?_)
  cases c
  rw [e]
  show mm_W l G k_X_writeOver 64 [(0, .ref r0), (1, .ref r1), (2, .int x2), (3, .int x3), (4, .int x4)] [] b_14 m_16 Q
  refine mm_iload_n 3 (i := 3) d_X_writeOver_64 rfl rfl ?_
  refine mm_aload_n 0 (i := 0) d_X_writeOver_65 rfl rfl ?_
  refine mm_get cc_X 0 (by decide) w_105 d_X_writeOver_66 g19 z3 v21 ?_
  refine mm_iload 4 (i := 4) d_X_writeOver_69 rfl ?_
  refine mm_aald (t := 4) rfl d_X_writeOver_71 a24 z25 i26 e28 ?_
  refine mm_callS (as := [.ref q_27]) (st := [.int x3]) (b2 := b_30) ca_X_lengthWithHead w_581 w_582 d_X_writeOver_72 rfl (Nat.le_of_ble_eq_true rfl) (Nat.le_of_ble_eq_true rfl) (Nat.le_of_ble_eq_true rfl) hb31 M34 (fun E _ ⟨c, _⟩ => nomatch c) (fun v _ ⟨c, e⟩ => ?_)
  cases c
  rw [e]
  show mm_W l G k_X_writeOver 75 [(0, .ref r0), (1, .ref r1), (2, .int x2), (3, .int x3), (4, .int x4)] [.int x_33, .int x3] b_30 m_32 Q
  refine mm_iadd d_X_writeOver_75 ?_
  refine mm_istore_n (i := 3) d_X_writeOver_76 rfl (Nat.le_of_ble_eq_true rfl) (lv2 := [(3, .int (x3 + x_33)), (0, .ref r0), (1, .ref r1), (2, .int x2), (4, .int x4)]) rfl ?_
  refine mm_iinc 4 (i := 4) d_X_writeOver_77 rfl (v := x4 + 1) rfl (Nat.le_of_ble_eq_true rfl) (lv2 := [(4, .int (x4 + 1)), (3, .int (x3 + x_33)), (0, .ref r0), (1, .ref r1), (2, .int x2)]) rfl ?_
  refine mm_goto (tgt := 42) d_X_writeOver_80 (by decide) ?_
  exact mm_sub [2, 3, 4, 1, 0] rfl h35
theorem t_X_writeOver_83 {l : Launch} {G : mm_G} {b : Nat} {m : mm_Mem} {Q : mm_O → mm_Mem → Prop} {r0 : Nat} {r1 : Nat} {x2 : Int32} {b_1 : Nat} {b_2 : Nat} {m_4 : mm_Mem} {fs_5 : List Value} (hb3 : b_1 + b_2 ≤ b) (g6 : m r0 = .inr (1, fs_5)) (z7 : r0 ≠ 0) (M8 : mm_W l G k_X_writeEnd 0 (lv_args 0 [.ref r0, .ref r1, .int x2]) [] b_1 m (mm_is (.inl none) m_4)) (h9 : Q (.inl none) m_4) : mm_W l G k_X_writeOver 83 [(0, .ref r0), (1, .ref r1), (2, .int x2)] [] b m Q := by
  refine mm_aload_n 0 (i := 0) d_X_writeOver_83 rfl rfl ?_
  refine mm_aload_n 1 (i := 1) d_X_writeOver_84 rfl rfl ?_
  refine mm_iload_n 2 (i := 2) d_X_writeOver_85 rfl rfl ?_
  refine mm_callV (as := [.ref r1, .int x2]) (st := []) (b2 := b_2) ca_X_writeEnd w_606 w_608 v_X_writeEnd cc_X.1 rfl d_X_writeOver_86 rfl (Nat.le_of_ble_eq_true rfl) (Nat.le_of_ble_eq_true rfl) (Nat.le_of_ble_eq_true rfl) hb3 g6 z7 M8 (fun E _ ⟨c, _⟩ => nomatch c) (fun v _ ⟨c, e⟩ => ?_)
  cases c
  rw [e]
  show mm_W l G k_X_writeOver 89 [(0, .ref r0), (1, .ref r1), (2, .int x2)] [] b_2 m_4 Q
  exact mm_vret d_X_writeOver_89 rfl h9
theorem t_X_lengthWithHead_0 {l : Launch} {G : mm_G} {b : Nat} {m : mm_Mem} {Q : mm_O → mm_Mem → Prop} {r0 : Nat} {fs_1 : List Value} {q_4 : Nat} {b_6 : Nat} {b_7 : Nat} {m_9 : mm_Mem} {x_10 : Int32} {fs_11 : List Value} {fs_15 : List Value} {u_17 : Int32} (g2 : m r0 = .inr (4, fs_1)) (z3 : r0 ≠ 0) (v5 : fs_1[0]? = some (.ref q_4)) (hb8 : b_6 + b_7 ≤ b) (g12 : m q_4 = .inr (2, fs_11)) (z13 : q_4 ≠ 0) (M14 : mm_W l G k_B_size 0 (lv_args 0 [.ref q_4]) [] b_6 m (mm_is (.inl (some (.int x_10))) m_9)) (g16 : m_9 r0 = .inr (4, fs_15)) (v18 : fs_15[3]? = some (.int u_17)) (h19 : Q (.inl (some (.int ((30 + x_10) + u_17)))) m_9) : mm_W l G k_X_lengthWithHead 0 [(0, .ref r0)] [] b m Q := by
  refine mm_bipush d_X_lengthWithHead_0 (v := 30) (by decide) ?_
  refine mm_aload_n 0 (i := 0) d_X_lengthWithHead_2 rfl rfl ?_
  refine mm_getN cc_E 0 (by decide) nw_74 d_X_lengthWithHead_3 g2 z3 v5 ?_
  refine mm_callV (as := []) (st := [.int 30]) (b2 := b_7) ca_B_size w_274 w_255 w_256 cc_B.1 rfl d_X_lengthWithHead_6 rfl (Nat.le_of_ble_eq_true rfl) (Nat.le_of_ble_eq_true rfl) (Nat.le_of_ble_eq_true rfl) hb8 g12 z13 M14 (fun E _ ⟨c, _⟩ => nomatch c) (fun v _ ⟨c, e⟩ => ?_)
  cases c
  rw [e]
  show mm_W l G k_X_lengthWithHead 9 [(0, .ref r0)] [.int x_10, .int 30] b_7 m_9 Q
  refine mm_iadd d_X_lengthWithHead_9 ?_
  refine mm_aload_n 0 (i := 0) d_X_lengthWithHead_10 rfl rfl ?_
  refine mm_getN cc_E 3 (by decide) nw_81 d_X_lengthWithHead_11 g16 z3 v18 ?_
  refine mm_iadd d_X_lengthWithHead_14 ?_
  exact mm_iret d_X_lengthWithHead_15 rfl h19
theorem t_X_writeEntry_0 {l : Launch} {G : mm_G} {b : Nat} {m : mm_Mem} {Q : mm_O → mm_Mem → Prop} {r0 : Nat} {r1 : Nat} {r2 : Nat} {b_1 : Nat} {b_2 : Nat} {m_4 : mm_Mem} {fs_5 : List Value} {b_9 : Nat} {b_10 : Nat} {m_12 : mm_Mem} {fs_13 : List Value} {fs_17 : List Value} {q_20 : Nat} {b_22 : Nat} {b_23 : Nat} {m_25 : mm_Mem} {x_26 : Int32} {fs_27 : List Value} {b_31 : Nat} {b_32 : Nat} {m_34 : mm_Mem} {fs_35 : List Value} {fs_38 : List Value} {q_40 : Nat} {fs_42 : List Value} {u_44 : Int32} {u_46 : Int32} {b_48 : Nat} {b_49 : Nat} {m_51 : mm_Mem} {fs_52 : List Value} (hb3 : b_1 + b_2 ≤ b) (g6 : m r1 = .inr (2, fs_5)) (z7 : r1 ≠ 0) (M8 : mm_W l G k_B_pushNumber 0 (lv_args 0 [.ref r1, .int 67324752, .int 4]) [] b_1 m (mm_is (.inl none) m_4)) (hb11 : b_9 + b_10 ≤ b_2) (g14 : m_4 r0 = .inr (1, fs_13)) (z15 : r0 ≠ 0) (M16 : mm_W l G k_X_writeFacts 0 (lv_args 0 [.ref r0, .ref r1, .ref r2]) [] b_9 m_4 (mm_is (.inl none) m_12)) (g18 : m_12 r2 = .inr (4, fs_17)) (z19 : r2 ≠ 0) (v21 : fs_17[0]? = some (.ref q_20)) (hb24 : b_22 + b_23 ≤ b_10) (g28 : m_12 q_20 = .inr (2, fs_27)) (z29 : q_20 ≠ 0) (M30 : mm_W l G k_B_size 0 (lv_args 0 [.ref q_20]) [] b_22 m_12 (mm_is (.inl (some (.int x_26))) m_25)) (hb33 : b_31 + b_32 ≤ b_23) (g36 : m_25 r1 = .inr (2, fs_35)) (M37 : mm_W l G k_B_pushAll 0 (lv_args 0 [.ref r1, .ref q_20, .int 0, .int x_26]) [] b_31 m_25 (mm_is (.inl none) m_34)) (g39 : m_34 r0 = .inr (1, fs_38)) (v41 : fs_38[1]? = some (.ref q_40)) (g43 : m_34 r2 = .inr (4, fs_42)) (v45 : fs_42[2]? = some (.int u_44)) (v47 : fs_42[3]? = some (.int u_46)) (hb50 : b_48 + b_49 ≤ b_32) (g53 : m_34 r1 = .inr (2, fs_52)) (M54 : mm_W l G k_B_pushAll 0 (lv_args 0 [.ref r1, .ref q_40, .int u_44, .int u_46]) [] b_48 m_34 (mm_is (.inl none) m_51)) (h55 : Q (.inl none) m_51) : mm_W l G k_X_writeEntry 0 [(0, .ref r0), (1, .ref r1), (2, .ref r2)] [] b m Q := by
  refine mm_aload_n 1 (i := 1) d_X_writeEntry_0 rfl rfl ?_
  refine mm_ldc (v := 67324752) w_592 d_X_writeEntry_1 ?_
  refine mm_iconst d_X_writeEntry_3 (v := 4) (by decide) ?_
  refine mm_callV (as := [.int 67324752, .int 4]) (st := []) (b2 := b_2) ca_B_pushNumber w_593 w_594 w_595 cc_B.1 rfl d_X_writeEntry_4 rfl (Nat.le_of_ble_eq_true rfl) (Nat.le_of_ble_eq_true rfl) (Nat.le_of_ble_eq_true rfl) hb3 g6 z7 M8 (fun E _ ⟨c, _⟩ => nomatch c) (fun v _ ⟨c, e⟩ => ?_)
  cases c
  rw [e]
  show mm_W l G k_X_writeEntry 7 [(0, .ref r0), (1, .ref r1), (2, .ref r2)] [] b_2 m_4 Q
  refine mm_aload_n 0 (i := 0) d_X_writeEntry_7 rfl rfl ?_
  refine mm_aload_n 1 (i := 1) d_X_writeEntry_8 rfl rfl ?_
  refine mm_aload_n 2 (i := 2) d_X_writeEntry_9 rfl rfl ?_
  refine mm_callV (as := [.ref r1, .ref r2]) (st := []) (b2 := b_10) ca_X_writeFacts w_597 w_599 v_X_writeFacts cc_X.1 rfl d_X_writeEntry_10 rfl (Nat.le_of_ble_eq_true rfl) (Nat.le_of_ble_eq_true rfl) (Nat.le_of_ble_eq_true rfl) hb11 g14 z15 M16 (fun E _ ⟨c, _⟩ => nomatch c) (fun v _ ⟨c, e⟩ => ?_)
  cases c
  rw [e]
  show mm_W l G k_X_writeEntry 13 [(0, .ref r0), (1, .ref r1), (2, .ref r2)] [] b_10 m_12 Q
  refine mm_aload_n 1 (i := 1) d_X_writeEntry_13 rfl rfl ?_
  refine mm_aload_n 2 (i := 2) d_X_writeEntry_14 rfl rfl ?_
  refine mm_getN cc_E 0 (by decide) nw_74 d_X_writeEntry_15 g18 z19 v21 ?_
  refine mm_iconst d_X_writeEntry_18 (v := 0) (by decide) ?_
  refine mm_aload_n 2 (i := 2) d_X_writeEntry_19 rfl rfl ?_
  refine mm_getN cc_E 0 (by decide) nw_74 d_X_writeEntry_20 g18 z19 v21 ?_
  refine mm_callV (as := []) (st := [.int 0, .ref q_20, .ref r1]) (b2 := b_23) ca_B_size w_274 w_255 w_256 cc_B.1 rfl d_X_writeEntry_23 rfl (Nat.le_of_ble_eq_true rfl) (Nat.le_of_ble_eq_true rfl) (Nat.le_of_ble_eq_true rfl) hb24 g28 z29 M30 (fun E _ ⟨c, _⟩ => nomatch c) (fun v _ ⟨c, e⟩ => ?_)
  cases c
  rw [e]
  show mm_W l G k_X_writeEntry 26 [(0, .ref r0), (1, .ref r1), (2, .ref r2)] [.int x_26, .int 0, .ref q_20, .ref r1] b_23 m_25 Q
  refine mm_callV (as := [.ref q_20, .int 0, .int x_26]) (st := []) (b2 := b_32) ca_B_pushAll w_484 w_485 w_486 cc_B.1 rfl d_X_writeEntry_26 rfl (Nat.le_of_ble_eq_true rfl) (Nat.le_of_ble_eq_true rfl) (Nat.le_of_ble_eq_true rfl) hb33 g36 z7 M37 (fun E _ ⟨c, _⟩ => nomatch c) (fun v _ ⟨c, e⟩ => ?_)
  cases c
  rw [e]
  show mm_W l G k_X_writeEntry 29 [(0, .ref r0), (1, .ref r1), (2, .ref r2)] [] b_32 m_34 Q
  refine mm_aload_n 1 (i := 1) d_X_writeEntry_29 rfl rfl ?_
  refine mm_aload_n 0 (i := 0) d_X_writeEntry_30 rfl rfl ?_
  refine mm_get cc_X 1 (by decide) w_106 d_X_writeEntry_31 g39 z15 v41 ?_
  refine mm_aload_n 2 (i := 2) d_X_writeEntry_34 rfl rfl ?_
  refine mm_getN cc_E 2 (by decide) nw_79 d_X_writeEntry_35 g43 z19 v45 ?_
  refine mm_aload_n 2 (i := 2) d_X_writeEntry_38 rfl rfl ?_
  refine mm_getN cc_E 3 (by decide) nw_81 d_X_writeEntry_39 g43 z19 v47 ?_
  refine mm_callV (as := [.ref q_40, .int u_44, .int u_46]) (st := []) (b2 := b_49) ca_B_pushAll w_484 w_485 w_486 cc_B.1 rfl d_X_writeEntry_42 rfl (Nat.le_of_ble_eq_true rfl) (Nat.le_of_ble_eq_true rfl) (Nat.le_of_ble_eq_true rfl) hb50 g53 z7 M54 (fun E _ ⟨c, _⟩ => nomatch c) (fun v _ ⟨c, e⟩ => ?_)
  cases c
  rw [e]
  show mm_W l G k_X_writeEntry 45 [(0, .ref r0), (1, .ref r1), (2, .ref r2)] [] b_49 m_51 Q
  exact mm_vret d_X_writeEntry_45 rfl h55
theorem t_X_writeDirectoryHead_0 {l : Launch} {G : mm_G} {b : Nat} {m : mm_Mem} {Q : mm_O → mm_Mem → Prop} {r0 : Nat} {r1 : Nat} {r2 : Nat} {x3 : Int32} {b_1 : Nat} {b_2 : Nat} {m_4 : mm_Mem} {fs_5 : List Value} {b_9 : Nat} {b_10 : Nat} {m_12 : mm_Mem} {fs_13 : List Value} {b_16 : Nat} {b_17 : Nat} {m_19 : mm_Mem} {fs_20 : List Value} {b_24 : Nat} {b_25 : Nat} {m_27 : mm_Mem} {fs_28 : List Value} {b_31 : Nat} {b_32 : Nat} {m_34 : mm_Mem} {fs_35 : List Value} {b_38 : Nat} {b_39 : Nat} {m_41 : mm_Mem} {fs_42 : List Value} {b_45 : Nat} {b_46 : Nat} {m_48 : mm_Mem} {fs_49 : List Value} {b_52 : Nat} {b_53 : Nat} {m_55 : mm_Mem} {fs_56 : List Value} {fs_59 : List Value} {q_62 : Nat} {b_64 : Nat} {b_65 : Nat} {m_67 : mm_Mem} {x_68 : Int32} {fs_69 : List Value} {b_73 : Nat} {b_74 : Nat} {m_76 : mm_Mem} {fs_77 : List Value} (hb3 : b_1 + b_2 ≤ b) (g6 : m r1 = .inr (2, fs_5)) (z7 : r1 ≠ 0) (M8 : mm_W l G k_B_pushNumber 0 (lv_args 0 [.ref r1, .int 33639248, .int 4]) [] b_1 m (mm_is (.inl none) m_4)) (hb11 : b_9 + b_10 ≤ b_2) (g14 : m_4 r1 = .inr (2, fs_13)) (M15 : mm_W l G k_B_pushNumber 0 (lv_args 0 [.ref r1, .int 20, .int 2]) [] b_9 m_4 (mm_is (.inl none) m_12)) (hb18 : b_16 + b_17 ≤ b_10) (g21 : m_12 r0 = .inr (1, fs_20)) (z22 : r0 ≠ 0) (M23 : mm_W l G k_X_writeFacts 0 (lv_args 0 [.ref r0, .ref r1, .ref r2]) [] b_16 m_12 (mm_is (.inl none) m_19)) (hb26 : b_24 + b_25 ≤ b_17) (g29 : m_19 r1 = .inr (2, fs_28)) (M30 : mm_W l G k_B_pushNumber 0 (lv_args 0 [.ref r1, .int 0, .int 2]) [] b_24 m_19 (mm_is (.inl none) m_27)) (hb33 : b_31 + b_32 ≤ b_25) (g36 : m_27 r1 = .inr (2, fs_35)) (M37 : mm_W l G k_B_pushNumber 0 (lv_args 0 [.ref r1, .int 0, .int 2]) [] b_31 m_27 (mm_is (.inl none) m_34)) (hb40 : b_38 + b_39 ≤ b_32) (g43 : m_34 r1 = .inr (2, fs_42)) (M44 : mm_W l G k_B_pushNumber 0 (lv_args 0 [.ref r1, .int 0, .int 2]) [] b_38 m_34 (mm_is (.inl none) m_41)) (hb47 : b_45 + b_46 ≤ b_39) (g50 : m_41 r1 = .inr (2, fs_49)) (M51 : mm_W l G k_B_pushNumber 0 (lv_args 0 [.ref r1, .int 0, .int 4]) [] b_45 m_41 (mm_is (.inl none) m_48)) (hb54 : b_52 + b_53 ≤ b_46) (g57 : m_48 r1 = .inr (2, fs_56)) (M58 : mm_W l G k_B_pushNumber 0 (lv_args 0 [.ref r1, .int x3, .int 4]) [] b_52 m_48 (mm_is (.inl none) m_55)) (g60 : m_55 r2 = .inr (4, fs_59)) (z61 : r2 ≠ 0) (v63 : fs_59[0]? = some (.ref q_62)) (hb66 : b_64 + b_65 ≤ b_53) (g70 : m_55 q_62 = .inr (2, fs_69)) (z71 : q_62 ≠ 0) (M72 : mm_W l G k_B_size 0 (lv_args 0 [.ref q_62]) [] b_64 m_55 (mm_is (.inl (some (.int x_68))) m_67)) (hb75 : b_73 + b_74 ≤ b_65) (g78 : m_67 r1 = .inr (2, fs_77)) (M79 : mm_W l G k_B_pushAll 0 (lv_args 0 [.ref r1, .ref q_62, .int 0, .int x_68]) [] b_73 m_67 (mm_is (.inl none) m_76)) (h80 : Q (.inl none) m_76) : mm_W l G k_X_writeDirectoryHead 0 [(0, .ref r0), (1, .ref r1), (2, .ref r2), (3, .int x3)] [] b m Q := by
  refine mm_aload_n 1 (i := 1) d_X_writeDirectoryHead_0 rfl rfl ?_
  refine mm_ldc (v := 33639248) w_605 d_X_writeDirectoryHead_1 ?_
  refine mm_iconst d_X_writeDirectoryHead_3 (v := 4) (by decide) ?_
  refine mm_callV (as := [.int 33639248, .int 4]) (st := []) (b2 := b_2) ca_B_pushNumber w_593 w_594 w_595 cc_B.1 rfl d_X_writeDirectoryHead_4 rfl (Nat.le_of_ble_eq_true rfl) (Nat.le_of_ble_eq_true rfl) (Nat.le_of_ble_eq_true rfl) hb3 g6 z7 M8 (fun E _ ⟨c, _⟩ => nomatch c) (fun v _ ⟨c, e⟩ => ?_)
  cases c
  rw [e]
  show mm_W l G k_X_writeDirectoryHead 7 [(0, .ref r0), (1, .ref r1), (2, .ref r2), (3, .int x3)] [] b_2 m_4 Q
  refine mm_aload_n 1 (i := 1) d_X_writeDirectoryHead_7 rfl rfl ?_
  refine mm_bipush d_X_writeDirectoryHead_8 (v := 20) (by decide) ?_
  refine mm_iconst d_X_writeDirectoryHead_10 (v := 2) (by decide) ?_
  refine mm_callV (as := [.int 20, .int 2]) (st := []) (b2 := b_10) ca_B_pushNumber w_593 w_594 w_595 cc_B.1 rfl d_X_writeDirectoryHead_11 rfl (Nat.le_of_ble_eq_true rfl) (Nat.le_of_ble_eq_true rfl) (Nat.le_of_ble_eq_true rfl) hb11 g14 z7 M15 (fun E _ ⟨c, _⟩ => nomatch c) (fun v _ ⟨c, e⟩ => ?_)
  cases c
  rw [e]
  show mm_W l G k_X_writeDirectoryHead 14 [(0, .ref r0), (1, .ref r1), (2, .ref r2), (3, .int x3)] [] b_10 m_12 Q
  refine mm_aload_n 0 (i := 0) d_X_writeDirectoryHead_14 rfl rfl ?_
  refine mm_aload_n 1 (i := 1) d_X_writeDirectoryHead_15 rfl rfl ?_
  refine mm_aload_n 2 (i := 2) d_X_writeDirectoryHead_16 rfl rfl ?_
  refine mm_callV (as := [.ref r1, .ref r2]) (st := []) (b2 := b_17) ca_X_writeFacts w_597 w_599 v_X_writeFacts cc_X.1 rfl d_X_writeDirectoryHead_17 rfl (Nat.le_of_ble_eq_true rfl) (Nat.le_of_ble_eq_true rfl) (Nat.le_of_ble_eq_true rfl) hb18 g21 z22 M23 (fun E _ ⟨c, _⟩ => nomatch c) (fun v _ ⟨c, e⟩ => ?_)
  cases c
  rw [e]
  show mm_W l G k_X_writeDirectoryHead 20 [(0, .ref r0), (1, .ref r1), (2, .ref r2), (3, .int x3)] [] b_17 m_19 Q
  refine mm_aload_n 1 (i := 1) d_X_writeDirectoryHead_20 rfl rfl ?_
  refine mm_iconst d_X_writeDirectoryHead_21 (v := 0) (by decide) ?_
  refine mm_iconst d_X_writeDirectoryHead_22 (v := 2) (by decide) ?_
  refine mm_callV (as := [.int 0, .int 2]) (st := []) (b2 := b_25) ca_B_pushNumber w_593 w_594 w_595 cc_B.1 rfl d_X_writeDirectoryHead_23 rfl (Nat.le_of_ble_eq_true rfl) (Nat.le_of_ble_eq_true rfl) (Nat.le_of_ble_eq_true rfl) hb26 g29 z7 M30 (fun E _ ⟨c, _⟩ => nomatch c) (fun v _ ⟨c, e⟩ => ?_)
  cases c
  rw [e]
  show mm_W l G k_X_writeDirectoryHead 26 [(0, .ref r0), (1, .ref r1), (2, .ref r2), (3, .int x3)] [] b_25 m_27 Q
  refine mm_aload_n 1 (i := 1) d_X_writeDirectoryHead_26 rfl rfl ?_
  refine mm_iconst d_X_writeDirectoryHead_27 (v := 0) (by decide) ?_
  refine mm_iconst d_X_writeDirectoryHead_28 (v := 2) (by decide) ?_
  refine mm_callV (as := [.int 0, .int 2]) (st := []) (b2 := b_32) ca_B_pushNumber w_593 w_594 w_595 cc_B.1 rfl d_X_writeDirectoryHead_29 rfl (Nat.le_of_ble_eq_true rfl) (Nat.le_of_ble_eq_true rfl) (Nat.le_of_ble_eq_true rfl) hb33 g36 z7 M37 (fun E _ ⟨c, _⟩ => nomatch c) (fun v _ ⟨c, e⟩ => ?_)
  cases c
  rw [e]
  show mm_W l G k_X_writeDirectoryHead 32 [(0, .ref r0), (1, .ref r1), (2, .ref r2), (3, .int x3)] [] b_32 m_34 Q
  refine mm_aload_n 1 (i := 1) d_X_writeDirectoryHead_32 rfl rfl ?_
  refine mm_iconst d_X_writeDirectoryHead_33 (v := 0) (by decide) ?_
  refine mm_iconst d_X_writeDirectoryHead_34 (v := 2) (by decide) ?_
  refine mm_callV (as := [.int 0, .int 2]) (st := []) (b2 := b_39) ca_B_pushNumber w_593 w_594 w_595 cc_B.1 rfl d_X_writeDirectoryHead_35 rfl (Nat.le_of_ble_eq_true rfl) (Nat.le_of_ble_eq_true rfl) (Nat.le_of_ble_eq_true rfl) hb40 g43 z7 M44 (fun E _ ⟨c, _⟩ => nomatch c) (fun v _ ⟨c, e⟩ => ?_)
  cases c
  rw [e]
  show mm_W l G k_X_writeDirectoryHead 38 [(0, .ref r0), (1, .ref r1), (2, .ref r2), (3, .int x3)] [] b_39 m_41 Q
  refine mm_aload_n 1 (i := 1) d_X_writeDirectoryHead_38 rfl rfl ?_
  refine mm_iconst d_X_writeDirectoryHead_39 (v := 0) (by decide) ?_
  refine mm_iconst d_X_writeDirectoryHead_40 (v := 4) (by decide) ?_
  refine mm_callV (as := [.int 0, .int 4]) (st := []) (b2 := b_46) ca_B_pushNumber w_593 w_594 w_595 cc_B.1 rfl d_X_writeDirectoryHead_41 rfl (Nat.le_of_ble_eq_true rfl) (Nat.le_of_ble_eq_true rfl) (Nat.le_of_ble_eq_true rfl) hb47 g50 z7 M51 (fun E _ ⟨c, _⟩ => nomatch c) (fun v _ ⟨c, e⟩ => ?_)
  cases c
  rw [e]
  show mm_W l G k_X_writeDirectoryHead 44 [(0, .ref r0), (1, .ref r1), (2, .ref r2), (3, .int x3)] [] b_46 m_48 Q
  refine mm_aload_n 1 (i := 1) d_X_writeDirectoryHead_44 rfl rfl ?_
  refine mm_iload_n 3 (i := 3) d_X_writeDirectoryHead_45 rfl rfl ?_
  refine mm_iconst d_X_writeDirectoryHead_46 (v := 4) (by decide) ?_
  refine mm_callV (as := [.int x3, .int 4]) (st := []) (b2 := b_53) ca_B_pushNumber w_593 w_594 w_595 cc_B.1 rfl d_X_writeDirectoryHead_47 rfl (Nat.le_of_ble_eq_true rfl) (Nat.le_of_ble_eq_true rfl) (Nat.le_of_ble_eq_true rfl) hb54 g57 z7 M58 (fun E _ ⟨c, _⟩ => nomatch c) (fun v _ ⟨c, e⟩ => ?_)
  cases c
  rw [e]
  show mm_W l G k_X_writeDirectoryHead 50 [(0, .ref r0), (1, .ref r1), (2, .ref r2), (3, .int x3)] [] b_53 m_55 Q
  refine mm_aload_n 1 (i := 1) d_X_writeDirectoryHead_50 rfl rfl ?_
  refine mm_aload_n 2 (i := 2) d_X_writeDirectoryHead_51 rfl rfl ?_
  refine mm_getN cc_E 0 (by decide) nw_74 d_X_writeDirectoryHead_52 g60 z61 v63 ?_
  refine mm_iconst d_X_writeDirectoryHead_55 (v := 0) (by decide) ?_
  refine mm_aload_n 2 (i := 2) d_X_writeDirectoryHead_56 rfl rfl ?_
  refine mm_getN cc_E 0 (by decide) nw_74 d_X_writeDirectoryHead_57 g60 z61 v63 ?_
  refine mm_callV (as := []) (st := [.int 0, .ref q_62, .ref r1]) (b2 := b_65) ca_B_size w_274 w_255 w_256 cc_B.1 rfl d_X_writeDirectoryHead_60 rfl (Nat.le_of_ble_eq_true rfl) (Nat.le_of_ble_eq_true rfl) (Nat.le_of_ble_eq_true rfl) hb66 g70 z71 M72 (fun E _ ⟨c, _⟩ => nomatch c) (fun v _ ⟨c, e⟩ => ?_)
  cases c
  rw [e]
  show mm_W l G k_X_writeDirectoryHead 63 [(0, .ref r0), (1, .ref r1), (2, .ref r2), (3, .int x3)] [.int x_68, .int 0, .ref q_62, .ref r1] b_65 m_67 Q
  refine mm_callV (as := [.ref q_62, .int 0, .int x_68]) (st := []) (b2 := b_74) ca_B_pushAll w_484 w_485 w_486 cc_B.1 rfl d_X_writeDirectoryHead_63 rfl (Nat.le_of_ble_eq_true rfl) (Nat.le_of_ble_eq_true rfl) (Nat.le_of_ble_eq_true rfl) hb75 g78 z7 M79 (fun E _ ⟨c, _⟩ => nomatch c) (fun v _ ⟨c, e⟩ => ?_)
  cases c
  rw [e]
  show mm_W l G k_X_writeDirectoryHead 66 [(0, .ref r0), (1, .ref r1), (2, .ref r2), (3, .int x3)] [] b_74 m_76 Q
  exact mm_vret d_X_writeDirectoryHead_66 rfl h80
theorem t_X_writeFacts_0 {l : Launch} {G : mm_G} {b : Nat} {m : mm_Mem} {Q : mm_O → mm_Mem → Prop} {r0 : Nat} {r1 : Nat} {r2 : Nat} {b_1 : Nat} {b_2 : Nat} {m_4 : mm_Mem} {fs_5 : List Value} {b_9 : Nat} {b_10 : Nat} {m_12 : mm_Mem} {fs_13 : List Value} {fs_16 : List Value} {u_19 : Int32} {b_21 : Nat} {b_22 : Nat} {m_24 : mm_Mem} {fs_25 : List Value} {b_28 : Nat} {b_29 : Nat} {m_31 : mm_Mem} {fs_32 : List Value} {fs_35 : List Value} {u_37 : Int32} {b_39 : Nat} {b_40 : Nat} {m_42 : mm_Mem} {fs_43 : List Value} {fs_46 : List Value} {u_48 : Int32} {b_50 : Nat} {b_51 : Nat} {m_53 : mm_Mem} {fs_54 : List Value} {fs_57 : List Value} {u_59 : Int32} {b_61 : Nat} {b_62 : Nat} {m_64 : mm_Mem} {fs_65 : List Value} {fs_68 : List Value} {q_70 : Nat} {b_72 : Nat} {b_73 : Nat} {m_75 : mm_Mem} {x_76 : Int32} {fs_77 : List Value} {b_81 : Nat} {b_82 : Nat} {m_84 : mm_Mem} {fs_85 : List Value} {b_88 : Nat} {b_89 : Nat} {m_91 : mm_Mem} {fs_92 : List Value} (hb3 : b_1 + b_2 ≤ b) (g6 : m r1 = .inr (2, fs_5)) (z7 : r1 ≠ 0) (M8 : mm_W l G k_B_pushNumber 0 (lv_args 0 [.ref r1, .int 20, .int 2]) [] b_1 m (mm_is (.inl none) m_4)) (hb11 : b_9 + b_10 ≤ b_2) (g14 : m_4 r1 = .inr (2, fs_13)) (M15 : mm_W l G k_B_pushNumber 0 (lv_args 0 [.ref r1, .int 0, .int 2]) [] b_9 m_4 (mm_is (.inl none) m_12)) (g17 : m_12 r2 = .inr (4, fs_16)) (z18 : r2 ≠ 0) (v20 : fs_16[1]? = some (.int u_19)) (hb23 : b_21 + b_22 ≤ b_10) (g26 : m_12 r1 = .inr (2, fs_25)) (M27 : mm_W l G k_B_pushNumber 0 (lv_args 0 [.ref r1, .int u_19, .int 2]) [] b_21 m_12 (mm_is (.inl none) m_24)) (hb30 : b_28 + b_29 ≤ b_22) (g33 : m_24 r1 = .inr (2, fs_32)) (M34 : mm_W l G k_B_pushNumber 0 (lv_args 0 [.ref r1, .int 0, .int 4]) [] b_28 m_24 (mm_is (.inl none) m_31)) (g36 : m_31 r2 = .inr (4, fs_35)) (v38 : fs_35[5]? = some (.int u_37)) (hb41 : b_39 + b_40 ≤ b_29) (g44 : m_31 r1 = .inr (2, fs_43)) (M45 : mm_W l G k_B_pushNumber 0 (lv_args 0 [.ref r1, .int u_37, .int 4]) [] b_39 m_31 (mm_is (.inl none) m_42)) (g47 : m_42 r2 = .inr (4, fs_46)) (v49 : fs_46[3]? = some (.int u_48)) (hb52 : b_50 + b_51 ≤ b_40) (g55 : m_42 r1 = .inr (2, fs_54)) (M56 : mm_W l G k_B_pushNumber 0 (lv_args 0 [.ref r1, .int u_48, .int 4]) [] b_50 m_42 (mm_is (.inl none) m_53)) (g58 : m_53 r2 = .inr (4, fs_57)) (v60 : fs_57[4]? = some (.int u_59)) (hb63 : b_61 + b_62 ≤ b_51) (g66 : m_53 r1 = .inr (2, fs_65)) (M67 : mm_W l G k_B_pushNumber 0 (lv_args 0 [.ref r1, .int u_59, .int 4]) [] b_61 m_53 (mm_is (.inl none) m_64)) (g69 : m_64 r2 = .inr (4, fs_68)) (v71 : fs_68[0]? = some (.ref q_70)) (hb74 : b_72 + b_73 ≤ b_62) (g78 : m_64 q_70 = .inr (2, fs_77)) (z79 : q_70 ≠ 0) (M80 : mm_W l G k_B_size 0 (lv_args 0 [.ref q_70]) [] b_72 m_64 (mm_is (.inl (some (.int x_76))) m_75)) (hb83 : b_81 + b_82 ≤ b_73) (g86 : m_75 r1 = .inr (2, fs_85)) (M87 : mm_W l G k_B_pushNumber 0 (lv_args 0 [.ref r1, .int x_76, .int 2]) [] b_81 m_75 (mm_is (.inl none) m_84)) (hb90 : b_88 + b_89 ≤ b_82) (g93 : m_84 r1 = .inr (2, fs_92)) (M94 : mm_W l G k_B_pushNumber 0 (lv_args 0 [.ref r1, .int 0, .int 2]) [] b_88 m_84 (mm_is (.inl none) m_91)) (h95 : Q (.inl none) m_91) : mm_W l G k_X_writeFacts 0 [(0, .ref r0), (1, .ref r1), (2, .ref r2)] [] b m Q := by
  refine mm_aload_n 1 (i := 1) d_X_writeFacts_0 rfl rfl ?_
  refine mm_bipush d_X_writeFacts_1 (v := 20) (by decide) ?_
  refine mm_iconst d_X_writeFacts_3 (v := 2) (by decide) ?_
  refine mm_callV (as := [.int 20, .int 2]) (st := []) (b2 := b_2) ca_B_pushNumber w_593 w_594 w_595 cc_B.1 rfl d_X_writeFacts_4 rfl (Nat.le_of_ble_eq_true rfl) (Nat.le_of_ble_eq_true rfl) (Nat.le_of_ble_eq_true rfl) hb3 g6 z7 M8 (fun E _ ⟨c, _⟩ => nomatch c) (fun v _ ⟨c, e⟩ => ?_)
  cases c
  rw [e]
  show mm_W l G k_X_writeFacts 7 [(0, .ref r0), (1, .ref r1), (2, .ref r2)] [] b_2 m_4 Q
  refine mm_aload_n 1 (i := 1) d_X_writeFacts_7 rfl rfl ?_
  refine mm_iconst d_X_writeFacts_8 (v := 0) (by decide) ?_
  refine mm_iconst d_X_writeFacts_9 (v := 2) (by decide) ?_
  refine mm_callV (as := [.int 0, .int 2]) (st := []) (b2 := b_10) ca_B_pushNumber w_593 w_594 w_595 cc_B.1 rfl d_X_writeFacts_10 rfl (Nat.le_of_ble_eq_true rfl) (Nat.le_of_ble_eq_true rfl) (Nat.le_of_ble_eq_true rfl) hb11 g14 z7 M15 (fun E _ ⟨c, _⟩ => nomatch c) (fun v _ ⟨c, e⟩ => ?_)
  cases c
  rw [e]
  show mm_W l G k_X_writeFacts 13 [(0, .ref r0), (1, .ref r1), (2, .ref r2)] [] b_10 m_12 Q
  refine mm_aload_n 1 (i := 1) d_X_writeFacts_13 rfl rfl ?_
  refine mm_aload_n 2 (i := 2) d_X_writeFacts_14 rfl rfl ?_
  refine mm_getN cc_E 1 (by decide) nw_78 d_X_writeFacts_15 g17 z18 v20 ?_
  refine mm_iconst d_X_writeFacts_18 (v := 2) (by decide) ?_
  refine mm_callV (as := [.int u_19, .int 2]) (st := []) (b2 := b_22) ca_B_pushNumber w_593 w_594 w_595 cc_B.1 rfl d_X_writeFacts_19 rfl (Nat.le_of_ble_eq_true rfl) (Nat.le_of_ble_eq_true rfl) (Nat.le_of_ble_eq_true rfl) hb23 g26 z7 M27 (fun E _ ⟨c, _⟩ => nomatch c) (fun v _ ⟨c, e⟩ => ?_)
  cases c
  rw [e]
  show mm_W l G k_X_writeFacts 22 [(0, .ref r0), (1, .ref r1), (2, .ref r2)] [] b_22 m_24 Q
  refine mm_aload_n 1 (i := 1) d_X_writeFacts_22 rfl rfl ?_
  refine mm_iconst d_X_writeFacts_23 (v := 0) (by decide) ?_
  refine mm_iconst d_X_writeFacts_24 (v := 4) (by decide) ?_
  refine mm_callV (as := [.int 0, .int 4]) (st := []) (b2 := b_29) ca_B_pushNumber w_593 w_594 w_595 cc_B.1 rfl d_X_writeFacts_25 rfl (Nat.le_of_ble_eq_true rfl) (Nat.le_of_ble_eq_true rfl) (Nat.le_of_ble_eq_true rfl) hb30 g33 z7 M34 (fun E _ ⟨c, _⟩ => nomatch c) (fun v _ ⟨c, e⟩ => ?_)
  cases c
  rw [e]
  show mm_W l G k_X_writeFacts 28 [(0, .ref r0), (1, .ref r1), (2, .ref r2)] [] b_29 m_31 Q
  refine mm_aload_n 1 (i := 1) d_X_writeFacts_28 rfl rfl ?_
  refine mm_aload_n 2 (i := 2) d_X_writeFacts_29 rfl rfl ?_
  refine mm_getN cc_E 5 (by decide) nw_88 d_X_writeFacts_30 g36 z18 v38 ?_
  refine mm_iconst d_X_writeFacts_33 (v := 4) (by decide) ?_
  refine mm_callV (as := [.int u_37, .int 4]) (st := []) (b2 := b_40) ca_B_pushNumber w_593 w_594 w_595 cc_B.1 rfl d_X_writeFacts_34 rfl (Nat.le_of_ble_eq_true rfl) (Nat.le_of_ble_eq_true rfl) (Nat.le_of_ble_eq_true rfl) hb41 g44 z7 M45 (fun E _ ⟨c, _⟩ => nomatch c) (fun v _ ⟨c, e⟩ => ?_)
  cases c
  rw [e]
  show mm_W l G k_X_writeFacts 37 [(0, .ref r0), (1, .ref r1), (2, .ref r2)] [] b_40 m_42 Q
  refine mm_aload_n 1 (i := 1) d_X_writeFacts_37 rfl rfl ?_
  refine mm_aload_n 2 (i := 2) d_X_writeFacts_38 rfl rfl ?_
  refine mm_getN cc_E 3 (by decide) nw_81 d_X_writeFacts_39 g47 z18 v49 ?_
  refine mm_iconst d_X_writeFacts_42 (v := 4) (by decide) ?_
  refine mm_callV (as := [.int u_48, .int 4]) (st := []) (b2 := b_51) ca_B_pushNumber w_593 w_594 w_595 cc_B.1 rfl d_X_writeFacts_43 rfl (Nat.le_of_ble_eq_true rfl) (Nat.le_of_ble_eq_true rfl) (Nat.le_of_ble_eq_true rfl) hb52 g55 z7 M56 (fun E _ ⟨c, _⟩ => nomatch c) (fun v _ ⟨c, e⟩ => ?_)
  cases c
  rw [e]
  show mm_W l G k_X_writeFacts 46 [(0, .ref r0), (1, .ref r1), (2, .ref r2)] [] b_51 m_53 Q
  refine mm_aload_n 1 (i := 1) d_X_writeFacts_46 rfl rfl ?_
  refine mm_aload_n 2 (i := 2) d_X_writeFacts_47 rfl rfl ?_
  refine mm_getN cc_E 4 (by decide) nw_85 d_X_writeFacts_48 g58 z18 v60 ?_
  refine mm_iconst d_X_writeFacts_51 (v := 4) (by decide) ?_
  refine mm_callV (as := [.int u_59, .int 4]) (st := []) (b2 := b_62) ca_B_pushNumber w_593 w_594 w_595 cc_B.1 rfl d_X_writeFacts_52 rfl (Nat.le_of_ble_eq_true rfl) (Nat.le_of_ble_eq_true rfl) (Nat.le_of_ble_eq_true rfl) hb63 g66 z7 M67 (fun E _ ⟨c, _⟩ => nomatch c) (fun v _ ⟨c, e⟩ => ?_)
  cases c
  rw [e]
  show mm_W l G k_X_writeFacts 55 [(0, .ref r0), (1, .ref r1), (2, .ref r2)] [] b_62 m_64 Q
  refine mm_aload_n 1 (i := 1) d_X_writeFacts_55 rfl rfl ?_
  refine mm_aload_n 2 (i := 2) d_X_writeFacts_56 rfl rfl ?_
  refine mm_getN cc_E 0 (by decide) nw_74 d_X_writeFacts_57 g69 z18 v71 ?_
  refine mm_callV (as := []) (st := [.ref r1]) (b2 := b_73) ca_B_size w_274 w_255 w_256 cc_B.1 rfl d_X_writeFacts_60 rfl (Nat.le_of_ble_eq_true rfl) (Nat.le_of_ble_eq_true rfl) (Nat.le_of_ble_eq_true rfl) hb74 g78 z79 M80 (fun E _ ⟨c, _⟩ => nomatch c) (fun v _ ⟨c, e⟩ => ?_)
  cases c
  rw [e]
  show mm_W l G k_X_writeFacts 63 [(0, .ref r0), (1, .ref r1), (2, .ref r2)] [.int x_76, .ref r1] b_73 m_75 Q
  refine mm_iconst d_X_writeFacts_63 (v := 2) (by decide) ?_
  refine mm_callV (as := [.int x_76, .int 2]) (st := []) (b2 := b_82) ca_B_pushNumber w_593 w_594 w_595 cc_B.1 rfl d_X_writeFacts_64 rfl (Nat.le_of_ble_eq_true rfl) (Nat.le_of_ble_eq_true rfl) (Nat.le_of_ble_eq_true rfl) hb83 g86 z7 M87 (fun E _ ⟨c, _⟩ => nomatch c) (fun v _ ⟨c, e⟩ => ?_)
  cases c
  rw [e]
  show mm_W l G k_X_writeFacts 67 [(0, .ref r0), (1, .ref r1), (2, .ref r2)] [] b_82 m_84 Q
  refine mm_aload_n 1 (i := 1) d_X_writeFacts_67 rfl rfl ?_
  refine mm_iconst d_X_writeFacts_68 (v := 0) (by decide) ?_
  refine mm_iconst d_X_writeFacts_69 (v := 2) (by decide) ?_
  refine mm_callV (as := [.int 0, .int 2]) (st := []) (b2 := b_89) ca_B_pushNumber w_593 w_594 w_595 cc_B.1 rfl d_X_writeFacts_70 rfl (Nat.le_of_ble_eq_true rfl) (Nat.le_of_ble_eq_true rfl) (Nat.le_of_ble_eq_true rfl) hb90 g93 z7 M94 (fun E _ ⟨c, _⟩ => nomatch c) (fun v _ ⟨c, e⟩ => ?_)
  cases c
  rw [e]
  show mm_W l G k_X_writeFacts 73 [(0, .ref r0), (1, .ref r1), (2, .ref r2)] [] b_89 m_91 Q
  exact mm_vret d_X_writeFacts_73 rfl h95
theorem t_X_writeEnd_0 {l : Launch} {G : mm_G} {b : Nat} {m : mm_Mem} {Q : mm_O → mm_Mem → Prop} {r0 : Nat} {r1 : Nat} {x2 : Int32} {b_1 : Nat} {b_2 : Nat} {m_4 : mm_Mem} {x_5 : Int32} {fs_6 : List Value} {b_10 : Nat} {b_11 : Nat} {m_13 : mm_Mem} {fs_14 : List Value} {b_17 : Nat} {b_18 : Nat} {m_20 : mm_Mem} {fs_21 : List Value} {fs_24 : List Value} {u_27 : Int32} {b_29 : Nat} {b_30 : Nat} {m_32 : mm_Mem} {fs_33 : List Value} {fs_36 : List Value} {u_38 : Int32} {b_40 : Nat} {b_41 : Nat} {m_43 : mm_Mem} {fs_44 : List Value} {b_47 : Nat} {b_48 : Nat} {m_50 : mm_Mem} {fs_51 : List Value} {b_54 : Nat} {b_55 : Nat} {m_57 : mm_Mem} {fs_58 : List Value} {b_61 : Nat} {b_62 : Nat} {m_64 : mm_Mem} {fs_65 : List Value} (hb3 : b_1 + b_2 ≤ b) (g7 : m r1 = .inr (2, fs_6)) (z8 : r1 ≠ 0) (M9 : mm_W l G k_B_size 0 (lv_args 0 [.ref r1]) [] b_1 m (mm_is (.inl (some (.int x_5))) m_4)) (hb12 : b_10 + b_11 ≤ b_2) (g15 : m_4 r1 = .inr (2, fs_14)) (M16 : mm_W l G k_B_pushNumber 0 (lv_args 0 [.ref r1, .int 101010256, .int 4]) [] b_10 m_4 (mm_is (.inl none) m_13)) (hb19 : b_17 + b_18 ≤ b_11) (g22 : m_13 r1 = .inr (2, fs_21)) (M23 : mm_W l G k_B_pushNumber 0 (lv_args 0 [.ref r1, .int 0, .int 4]) [] b_17 m_13 (mm_is (.inl none) m_20)) (g25 : m_20 r0 = .inr (1, fs_24)) (z26 : r0 ≠ 0) (v28 : fs_24[2]? = some (.int u_27)) (hb31 : b_29 + b_30 ≤ b_18) (g34 : m_20 r1 = .inr (2, fs_33)) (M35 : mm_W l G k_B_pushNumber 0 (lv_args 0 [.ref r1, .int u_27, .int 2]) [] b_29 m_20 (mm_is (.inl none) m_32)) (g37 : m_32 r0 = .inr (1, fs_36)) (v39 : fs_36[2]? = some (.int u_38)) (hb42 : b_40 + b_41 ≤ b_30) (g45 : m_32 r1 = .inr (2, fs_44)) (M46 : mm_W l G k_B_pushNumber 0 (lv_args 0 [.ref r1, .int u_38, .int 2]) [] b_40 m_32 (mm_is (.inl none) m_43)) (hb49 : b_47 + b_48 ≤ b_41) (g52 : m_43 r1 = .inr (2, fs_51)) (M53 : mm_W l G k_B_pushNumber 0 (lv_args 0 [.ref r1, .int (x_5 - x2), .int 4]) [] b_47 m_43 (mm_is (.inl none) m_50)) (hb56 : b_54 + b_55 ≤ b_48) (g59 : m_50 r1 = .inr (2, fs_58)) (M60 : mm_W l G k_B_pushNumber 0 (lv_args 0 [.ref r1, .int x2, .int 4]) [] b_54 m_50 (mm_is (.inl none) m_57)) (hb63 : b_61 + b_62 ≤ b_55) (g66 : m_57 r1 = .inr (2, fs_65)) (M67 : mm_W l G k_B_pushNumber 0 (lv_args 0 [.ref r1, .int 0, .int 2]) [] b_61 m_57 (mm_is (.inl none) m_64)) (h68 : Q (.inl none) m_64) : mm_W l G k_X_writeEnd 0 [(0, .ref r0), (1, .ref r1), (2, .int x2)] [] b m Q := by
  refine mm_aload_n 1 (i := 1) d_X_writeEnd_0 rfl rfl ?_
  refine mm_callV (as := []) (st := []) (b2 := b_2) ca_B_size w_274 w_255 w_256 cc_B.1 rfl d_X_writeEnd_1 rfl (Nat.le_of_ble_eq_true rfl) (Nat.le_of_ble_eq_true rfl) (Nat.le_of_ble_eq_true rfl) hb3 g7 z8 M9 (fun E _ ⟨c, _⟩ => nomatch c) (fun v _ ⟨c, e⟩ => ?_)
  cases c
  rw [e]
  show mm_W l G k_X_writeEnd 4 [(0, .ref r0), (1, .ref r1), (2, .int x2)] [.int x_5] b_2 m_4 Q
  refine mm_iload_n 2 (i := 2) d_X_writeEnd_4 rfl rfl ?_
  refine mm_isub d_X_writeEnd_5 ?_
  refine mm_istore_n (i := 3) d_X_writeEnd_6 rfl (Nat.le_of_ble_eq_true rfl) (lv2 := [(3, .int (x_5 - x2)), (0, .ref r0), (1, .ref r1), (2, .int x2)]) rfl ?_
  refine mm_aload_n 2 (i := 1) d_X_writeEnd_7 rfl rfl ?_
  refine mm_ldc (v := 101010256) w_610 d_X_writeEnd_8 ?_
  refine mm_iconst d_X_writeEnd_10 (v := 4) (by decide) ?_
  refine mm_callV (as := [.int 101010256, .int 4]) (st := []) (b2 := b_11) ca_B_pushNumber w_593 w_594 w_595 cc_B.1 rfl d_X_writeEnd_11 rfl (Nat.le_of_ble_eq_true rfl) (Nat.le_of_ble_eq_true rfl) (Nat.le_of_ble_eq_true rfl) hb12 g15 z8 M16 (fun E _ ⟨c, _⟩ => nomatch c) (fun v _ ⟨c, e⟩ => ?_)
  cases c
  rw [e]
  show mm_W l G k_X_writeEnd 14 [(3, .int (x_5 - x2)), (0, .ref r0), (1, .ref r1), (2, .int x2)] [] b_11 m_13 Q
  refine mm_aload_n 2 (i := 1) d_X_writeEnd_14 rfl rfl ?_
  refine mm_iconst d_X_writeEnd_15 (v := 0) (by decide) ?_
  refine mm_iconst d_X_writeEnd_16 (v := 4) (by decide) ?_
  refine mm_callV (as := [.int 0, .int 4]) (st := []) (b2 := b_18) ca_B_pushNumber w_593 w_594 w_595 cc_B.1 rfl d_X_writeEnd_17 rfl (Nat.le_of_ble_eq_true rfl) (Nat.le_of_ble_eq_true rfl) (Nat.le_of_ble_eq_true rfl) hb19 g22 z8 M23 (fun E _ ⟨c, _⟩ => nomatch c) (fun v _ ⟨c, e⟩ => ?_)
  cases c
  rw [e]
  show mm_W l G k_X_writeEnd 20 [(3, .int (x_5 - x2)), (0, .ref r0), (1, .ref r1), (2, .int x2)] [] b_18 m_20 Q
  refine mm_aload_n 2 (i := 1) d_X_writeEnd_20 rfl rfl ?_
  refine mm_aload_n 1 (i := 0) d_X_writeEnd_21 rfl rfl ?_
  refine mm_get cc_X 2 (by decide) w_108 d_X_writeEnd_22 g25 z26 v28 ?_
  refine mm_iconst d_X_writeEnd_25 (v := 2) (by decide) ?_
  refine mm_callV (as := [.int u_27, .int 2]) (st := []) (b2 := b_30) ca_B_pushNumber w_593 w_594 w_595 cc_B.1 rfl d_X_writeEnd_26 rfl (Nat.le_of_ble_eq_true rfl) (Nat.le_of_ble_eq_true rfl) (Nat.le_of_ble_eq_true rfl) hb31 g34 z8 M35 (fun E _ ⟨c, _⟩ => nomatch c) (fun v _ ⟨c, e⟩ => ?_)
  cases c
  rw [e]
  show mm_W l G k_X_writeEnd 29 [(3, .int (x_5 - x2)), (0, .ref r0), (1, .ref r1), (2, .int x2)] [] b_30 m_32 Q
  refine mm_aload_n 2 (i := 1) d_X_writeEnd_29 rfl rfl ?_
  refine mm_aload_n 1 (i := 0) d_X_writeEnd_30 rfl rfl ?_
  refine mm_get cc_X 2 (by decide) w_108 d_X_writeEnd_31 g37 z26 v39 ?_
  refine mm_iconst d_X_writeEnd_34 (v := 2) (by decide) ?_
  refine mm_callV (as := [.int u_38, .int 2]) (st := []) (b2 := b_41) ca_B_pushNumber w_593 w_594 w_595 cc_B.1 rfl d_X_writeEnd_35 rfl (Nat.le_of_ble_eq_true rfl) (Nat.le_of_ble_eq_true rfl) (Nat.le_of_ble_eq_true rfl) hb42 g45 z8 M46 (fun E _ ⟨c, _⟩ => nomatch c) (fun v _ ⟨c, e⟩ => ?_)
  cases c
  rw [e]
  show mm_W l G k_X_writeEnd 38 [(3, .int (x_5 - x2)), (0, .ref r0), (1, .ref r1), (2, .int x2)] [] b_41 m_43 Q
  refine mm_aload_n 2 (i := 1) d_X_writeEnd_38 rfl rfl ?_
  refine mm_iload_n 0 (i := 3) d_X_writeEnd_39 rfl rfl ?_
  refine mm_iconst d_X_writeEnd_40 (v := 4) (by decide) ?_
  refine mm_callV (as := [.int (x_5 - x2), .int 4]) (st := []) (b2 := b_48) ca_B_pushNumber w_593 w_594 w_595 cc_B.1 rfl d_X_writeEnd_41 rfl (Nat.le_of_ble_eq_true rfl) (Nat.le_of_ble_eq_true rfl) (Nat.le_of_ble_eq_true rfl) hb49 g52 z8 M53 (fun E _ ⟨c, _⟩ => nomatch c) (fun v _ ⟨c, e⟩ => ?_)
  cases c
  rw [e]
  show mm_W l G k_X_writeEnd 44 [(3, .int (x_5 - x2)), (0, .ref r0), (1, .ref r1), (2, .int x2)] [] b_48 m_50 Q
  refine mm_aload_n 2 (i := 1) d_X_writeEnd_44 rfl rfl ?_
  refine mm_iload_n 3 (i := 2) d_X_writeEnd_45 rfl rfl ?_
  refine mm_iconst d_X_writeEnd_46 (v := 4) (by decide) ?_
  refine mm_callV (as := [.int x2, .int 4]) (st := []) (b2 := b_55) ca_B_pushNumber w_593 w_594 w_595 cc_B.1 rfl d_X_writeEnd_47 rfl (Nat.le_of_ble_eq_true rfl) (Nat.le_of_ble_eq_true rfl) (Nat.le_of_ble_eq_true rfl) hb56 g59 z8 M60 (fun E _ ⟨c, _⟩ => nomatch c) (fun v _ ⟨c, e⟩ => ?_)
  cases c
  rw [e]
  show mm_W l G k_X_writeEnd 50 [(3, .int (x_5 - x2)), (0, .ref r0), (1, .ref r1), (2, .int x2)] [] b_55 m_57 Q
  refine mm_aload_n 2 (i := 1) d_X_writeEnd_50 rfl rfl ?_
  refine mm_iconst d_X_writeEnd_51 (v := 0) (by decide) ?_
  refine mm_iconst d_X_writeEnd_52 (v := 2) (by decide) ?_
  refine mm_callV (as := [.int 0, .int 2]) (st := []) (b2 := b_62) ca_B_pushNumber w_593 w_594 w_595 cc_B.1 rfl d_X_writeEnd_53 rfl (Nat.le_of_ble_eq_true rfl) (Nat.le_of_ble_eq_true rfl) (Nat.le_of_ble_eq_true rfl) hb63 g66 z8 M67 (fun E _ ⟨c, _⟩ => nomatch c) (fun v _ ⟨c, e⟩ => ?_)
  cases c
  rw [e]
  show mm_W l G k_X_writeEnd 56 [(3, .int (x_5 - x2)), (0, .ref r0), (1, .ref r1), (2, .int x2)] [] b_62 m_64 Q
  exact mm_vret d_X_writeEnd_56 rfl h68
