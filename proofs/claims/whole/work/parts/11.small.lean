theorem d_N_isName_0 : decode prog_8_method_2_code 0 = .ok (.iload_n 2, 1) := by decide +kernel
theorem d_N_isName_1 : decode prog_8_method_2_code 1 = .ok (.iconst 1, 1) := by decide +kernel
theorem d_N_isName_2 : decode prog_8_method_2_code 2 = .ok (.if_icmp .lt 9, 3) := by decide +kernel
theorem d_N_isName_5 : decode prog_8_method_2_code 5 = .ok (.iload_n 2, 1) := by decide +kernel
theorem d_N_isName_6 : decode prog_8_method_2_code 6 = .ok (.bipush 64, 2) := by decide +kernel
theorem d_N_isName_8 : decode prog_8_method_2_code 8 = .ok (.if_icmp .le 5, 3) := by decide +kernel
theorem d_N_isName_11 : decode prog_8_method_2_code 11 = .ok (.iconst 0, 1) := by decide +kernel
theorem d_N_isName_12 : decode prog_8_method_2_code 12 = .ok (.ireturn, 1) := by decide +kernel
theorem d_N_isName_13 : decode prog_8_method_2_code 13 = .ok (.iload_n 1, 1) := by decide +kernel
theorem d_N_isName_14 : decode prog_8_method_2_code 14 = .ok (.istore_n 3, 1) := by decide +kernel
theorem d_N_isName_15 : decode prog_8_method_2_code 15 = .ok (.iload_n 1, 1) := by decide +kernel
theorem d_N_isName_16 : decode prog_8_method_2_code 16 = .ok (.istore 4, 2) := by decide +kernel
theorem d_N_isName_18 : decode prog_8_method_2_code 18 = .ok (.iload 4, 2) := by decide +kernel
theorem d_N_isName_20 : decode prog_8_method_2_code 20 = .ok (.iload_n 1, 1) := by decide +kernel
theorem d_N_isName_21 : decode prog_8_method_2_code 21 = .ok (.iload_n 2, 1) := by decide +kernel
theorem d_N_isName_22 : decode prog_8_method_2_code 22 = .ok (.iadd, 1) := by decide +kernel
theorem d_N_isName_23 : decode prog_8_method_2_code 23 = .ok (.if_icmp .ge 66, 3) := by decide +kernel
theorem d_N_isName_26 : decode prog_8_method_2_code 26 = .ok (.aload_n 0, 1) := by decide +kernel
theorem d_N_isName_27 : decode prog_8_method_2_code 27 = .ok (.iload 4, 2) := by decide +kernel
theorem d_N_isName_29 : decode prog_8_method_2_code 29 = .ok (.invokevirtual 9, 3) := by decide +kernel
theorem d_N_isName_32 : decode prog_8_method_2_code 32 = .ok (.istore 5, 2) := by decide +kernel
theorem d_N_isName_34 : decode prog_8_method_2_code 34 = .ok (.iload 5, 2) := by decide +kernel
theorem d_N_isName_36 : decode prog_8_method_2_code 36 = .ok (.bipush 33, 2) := by decide +kernel
theorem d_N_isName_38 : decode prog_8_method_2_code 38 = .ok (.if_icmp .lt 17, 3) := by decide +kernel
theorem d_N_isName_41 : decode prog_8_method_2_code 41 = .ok (.iload 5, 2) := by decide +kernel
theorem d_N_isName_43 : decode prog_8_method_2_code 43 = .ok (.bipush 126, 2) := by decide +kernel
theorem d_N_isName_45 : decode prog_8_method_2_code 45 = .ok (.if_icmp .gt 10, 3) := by decide +kernel
theorem d_N_isName_48 : decode prog_8_method_2_code 48 = .ok (.iload 5, 2) := by decide +kernel
theorem d_N_isName_50 : decode prog_8_method_2_code 50 = .ok (.bipush 92, 2) := by decide +kernel
theorem d_N_isName_52 : decode prog_8_method_2_code 52 = .ok (.if_icmp .ne 5, 3) := by decide +kernel
theorem d_N_isName_55 : decode prog_8_method_2_code 55 = .ok (.iconst 0, 1) := by decide +kernel
theorem d_N_isName_56 : decode prog_8_method_2_code 56 = .ok (.ireturn, 1) := by decide +kernel
theorem d_N_isName_57 : decode prog_8_method_2_code 57 = .ok (.iload 5, 2) := by decide +kernel
theorem d_N_isName_59 : decode prog_8_method_2_code 59 = .ok (.bipush 47, 2) := by decide +kernel
theorem d_N_isName_61 : decode prog_8_method_2_code 61 = .ok (.if_icmp .ne 22, 3) := by decide +kernel
theorem d_N_isName_64 : decode prog_8_method_2_code 64 = .ok (.aload_n 0, 1) := by decide +kernel
theorem d_N_isName_65 : decode prog_8_method_2_code 65 = .ok (.iload_n 3, 1) := by decide +kernel
theorem d_N_isName_66 : decode prog_8_method_2_code 66 = .ok (.iload 4, 2) := by decide +kernel
theorem d_N_isName_68 : decode prog_8_method_2_code 68 = .ok (.iload_n 3, 1) := by decide +kernel
theorem d_N_isName_69 : decode prog_8_method_2_code 69 = .ok (.isub, 1) := by decide +kernel
theorem d_N_isName_70 : decode prog_8_method_2_code 70 = .ok (.invokestatic 15, 3) := by decide +kernel
theorem d_N_isName_73 : decode prog_8_method_2_code 73 = .ok (.ifCond .ne 5, 3) := by decide +kernel
theorem d_N_isName_76 : decode prog_8_method_2_code 76 = .ok (.iconst 0, 1) := by decide +kernel
theorem d_N_isName_77 : decode prog_8_method_2_code 77 = .ok (.ireturn, 1) := by decide +kernel
theorem d_N_isName_78 : decode prog_8_method_2_code 78 = .ok (.iload 4, 2) := by decide +kernel
theorem d_N_isName_80 : decode prog_8_method_2_code 80 = .ok (.iconst 1, 1) := by decide +kernel
theorem d_N_isName_81 : decode prog_8_method_2_code 81 = .ok (.iadd, 1) := by decide +kernel
theorem d_N_isName_82 : decode prog_8_method_2_code 82 = .ok (.istore_n 3, 1) := by decide +kernel
theorem d_N_isName_83 : decode prog_8_method_2_code 83 = .ok (.iinc 4 1, 3) := by decide +kernel
theorem d_N_isName_86 : decode prog_8_method_2_code 86 = .ok (.goto (-68), 3) := by decide +kernel
theorem d_N_isName_89 : decode prog_8_method_2_code 89 = .ok (.aload_n 0, 1) := by decide +kernel
theorem d_N_isName_90 : decode prog_8_method_2_code 90 = .ok (.iload_n 3, 1) := by decide +kernel
theorem d_N_isName_91 : decode prog_8_method_2_code 91 = .ok (.iload_n 1, 1) := by decide +kernel
theorem d_N_isName_92 : decode prog_8_method_2_code 92 = .ok (.iload_n 2, 1) := by decide +kernel
theorem d_N_isName_93 : decode prog_8_method_2_code 93 = .ok (.iadd, 1) := by decide +kernel
theorem d_N_isName_94 : decode prog_8_method_2_code 94 = .ok (.iload_n 3, 1) := by decide +kernel
theorem d_N_isName_95 : decode prog_8_method_2_code 95 = .ok (.isub, 1) := by decide +kernel
theorem d_N_isName_96 : decode prog_8_method_2_code 96 = .ok (.invokestatic 15, 3) := by decide +kernel
theorem d_N_isName_99 : decode prog_8_method_2_code 99 = .ok (.ireturn, 1) := by decide +kernel
theorem d_N_isPiece_0 : decode prog_8_method_3_code 0 = .ok (.iconst 0, 1) := by decide +kernel
theorem d_N_isPiece_1 : decode prog_8_method_3_code 1 = .ok (.istore_n 3, 1) := by decide +kernel
theorem d_N_isPiece_2 : decode prog_8_method_3_code 2 = .ok (.iload_n 3, 1) := by decide +kernel
theorem d_N_isPiece_3 : decode prog_8_method_3_code 3 = .ok (.iload_n 2, 1) := by decide +kernel
theorem d_N_isPiece_4 : decode prog_8_method_3_code 4 = .ok (.if_icmp .ge 28, 3) := by decide +kernel
theorem d_N_isPiece_7 : decode prog_8_method_3_code 7 = .ok (.iload_n 3, 1) := by decide +kernel
theorem d_N_isPiece_8 : decode prog_8_method_3_code 8 = .ok (.iconst 2, 1) := by decide +kernel
theorem d_N_isPiece_9 : decode prog_8_method_3_code 9 = .ok (.if_icmp .ge 23, 3) := by decide +kernel
theorem d_N_isPiece_12 : decode prog_8_method_3_code 12 = .ok (.aload_n 0, 1) := by decide +kernel
theorem d_N_isPiece_13 : decode prog_8_method_3_code 13 = .ok (.iload_n 1, 1) := by decide +kernel
theorem d_N_isPiece_14 : decode prog_8_method_3_code 14 = .ok (.iload_n 3, 1) := by decide +kernel
theorem d_N_isPiece_15 : decode prog_8_method_3_code 15 = .ok (.iadd, 1) := by decide +kernel
theorem d_N_isPiece_16 : decode prog_8_method_3_code 16 = .ok (.invokevirtual 9, 3) := by decide +kernel
theorem d_N_isPiece_19 : decode prog_8_method_3_code 19 = .ok (.bipush 46, 2) := by decide +kernel
theorem d_N_isPiece_21 : decode prog_8_method_3_code 21 = .ok (.if_icmp .eq 5, 3) := by decide +kernel
theorem d_N_isPiece_24 : decode prog_8_method_3_code 24 = .ok (.iconst 1, 1) := by decide +kernel
theorem d_N_isPiece_25 : decode prog_8_method_3_code 25 = .ok (.ireturn, 1) := by decide +kernel
theorem d_N_isPiece_26 : decode prog_8_method_3_code 26 = .ok (.iinc 3 1, 3) := by decide +kernel
theorem d_N_isPiece_29 : decode prog_8_method_3_code 29 = .ok (.goto (-27), 3) := by decide +kernel
theorem d_N_isPiece_32 : decode prog_8_method_3_code 32 = .ok (.iload_n 2, 1) := by decide +kernel
theorem d_N_isPiece_33 : decode prog_8_method_3_code 33 = .ok (.iconst 2, 1) := by decide +kernel
theorem d_N_isPiece_34 : decode prog_8_method_3_code 34 = .ok (.if_icmp .le 7, 3) := by decide +kernel
theorem d_N_isPiece_37 : decode prog_8_method_3_code 37 = .ok (.iconst 1, 1) := by decide +kernel
theorem d_N_isPiece_38 : decode prog_8_method_3_code 38 = .ok (.goto 4, 3) := by decide +kernel
theorem d_N_isPiece_41 : decode prog_8_method_3_code 41 = .ok (.iconst 0, 1) := by decide +kernel
theorem d_N_isPiece_42 : decode prog_8_method_3_code 42 = .ok (.ireturn, 1) := by decide +kernel
theorem d_N_areAlike_0 : decode prog_8_method_4_code 0 = .ok (.iconst 0, 1) := by decide +kernel
theorem d_N_areAlike_1 : decode prog_8_method_4_code 1 = .ok (.istore 5, 2) := by decide +kernel
theorem d_N_areAlike_3 : decode prog_8_method_4_code 3 = .ok (.iload 5, 2) := by decide +kernel
theorem d_N_areAlike_5 : decode prog_8_method_4_code 5 = .ok (.iload 4, 2) := by decide +kernel
theorem d_N_areAlike_7 : decode prog_8_method_4_code 7 = .ok (.if_icmp .ge 36, 3) := by decide +kernel
theorem d_N_areAlike_10 : decode prog_8_method_4_code 10 = .ok (.aload_n 0, 1) := by decide +kernel
theorem d_N_areAlike_11 : decode prog_8_method_4_code 11 = .ok (.iload_n 1, 1) := by decide +kernel
theorem d_N_areAlike_12 : decode prog_8_method_4_code 12 = .ok (.iload 5, 2) := by decide +kernel
theorem d_N_areAlike_14 : decode prog_8_method_4_code 14 = .ok (.iadd, 1) := by decide +kernel
theorem d_N_areAlike_15 : decode prog_8_method_4_code 15 = .ok (.invokevirtual 9, 3) := by decide +kernel
theorem d_N_areAlike_18 : decode prog_8_method_4_code 18 = .ok (.invokestatic 21, 3) := by decide +kernel
theorem d_N_areAlike_21 : decode prog_8_method_4_code 21 = .ok (.aload_n 2, 1) := by decide +kernel
theorem d_N_areAlike_22 : decode prog_8_method_4_code 22 = .ok (.iload_n 3, 1) := by decide +kernel
theorem d_N_areAlike_23 : decode prog_8_method_4_code 23 = .ok (.iload 5, 2) := by decide +kernel
theorem d_N_areAlike_25 : decode prog_8_method_4_code 25 = .ok (.iadd, 1) := by decide +kernel
theorem d_N_areAlike_26 : decode prog_8_method_4_code 26 = .ok (.invokevirtual 9, 3) := by decide +kernel
theorem d_N_areAlike_29 : decode prog_8_method_4_code 29 = .ok (.invokestatic 21, 3) := by decide +kernel
theorem d_N_areAlike_32 : decode prog_8_method_4_code 32 = .ok (.if_icmp .eq 5, 3) := by decide +kernel
theorem d_N_areAlike_35 : decode prog_8_method_4_code 35 = .ok (.iconst 0, 1) := by decide +kernel
theorem d_N_areAlike_36 : decode prog_8_method_4_code 36 = .ok (.ireturn, 1) := by decide +kernel
theorem d_N_areAlike_37 : decode prog_8_method_4_code 37 = .ok (.iinc 5 1, 3) := by decide +kernel
theorem d_N_areAlike_40 : decode prog_8_method_4_code 40 = .ok (.goto (-37), 3) := by decide +kernel
theorem d_N_areAlike_43 : decode prog_8_method_4_code 43 = .ok (.iconst 1, 1) := by decide +kernel
theorem d_N_areAlike_44 : decode prog_8_method_4_code 44 = .ok (.ireturn, 1) := by decide +kernel
theorem d_N_small_0 : decode prog_8_method_5_code 0 = .ok (.iload_n 0, 1) := by decide +kernel
theorem d_N_small_1 : decode prog_8_method_5_code 1 = .ok (.bipush 65, 2) := by decide +kernel
theorem d_N_small_3 : decode prog_8_method_5_code 3 = .ok (.if_icmp .lt 19, 3) := by decide +kernel
theorem d_N_small_6 : decode prog_8_method_5_code 6 = .ok (.iload_n 0, 1) := by decide +kernel
theorem d_N_small_7 : decode prog_8_method_5_code 7 = .ok (.bipush 90, 2) := by decide +kernel
theorem d_N_small_9 : decode prog_8_method_5_code 9 = .ok (.if_icmp .gt 13, 3) := by decide +kernel
theorem d_N_small_12 : decode prog_8_method_5_code 12 = .ok (.iload_n 0, 1) := by decide +kernel
theorem d_N_small_13 : decode prog_8_method_5_code 13 = .ok (.bipush 65, 2) := by decide +kernel
theorem d_N_small_15 : decode prog_8_method_5_code 15 = .ok (.isub, 1) := by decide +kernel
theorem d_N_small_16 : decode prog_8_method_5_code 16 = .ok (.bipush 97, 2) := by decide +kernel
theorem d_N_small_18 : decode prog_8_method_5_code 18 = .ok (.iadd, 1) := by decide +kernel
theorem d_N_small_19 : decode prog_8_method_5_code 19 = .ok (.goto 4, 3) := by decide +kernel
theorem d_N_small_22 : decode prog_8_method_5_code 22 = .ok (.iload_n 0, 1) := by decide +kernel
theorem d_N_small_23 : decode prog_8_method_5_code 23 = .ok (.ireturn, 1) := by decide +kernel
theorem d_C_init_0 : decode prog_4_method_1_code 0 = .ok (.aload_n 0, 1) := by decide +kernel
theorem d_C_init_1 : decode prog_4_method_1_code 1 = .ok (.invokespecial 1, 3) := by decide +kernel
theorem d_C_init_4 : decode prog_4_method_1_code 4 = .ok (.aload_n 0, 1) := by decide +kernel
theorem d_C_init_5 : decode prog_4_method_1_code 5 = .ok (.sipush 256, 3) := by decide +kernel
theorem d_C_init_8 : decode prog_4_method_1_code 8 = .ok (.newarray .int, 2) := by decide +kernel
theorem d_C_init_10 : decode prog_4_method_1_code 10 = .ok (.putfield 7, 3) := by decide +kernel
theorem d_C_init_13 : decode prog_4_method_1_code 13 = .ok (.iconst 0, 1) := by decide +kernel
theorem d_C_init_14 : decode prog_4_method_1_code 14 = .ok (.istore_n 1, 1) := by decide +kernel
theorem d_C_init_15 : decode prog_4_method_1_code 15 = .ok (.iload_n 1, 1) := by decide +kernel
theorem d_C_init_16 : decode prog_4_method_1_code 16 = .ok (.sipush 256, 3) := by decide +kernel
theorem d_C_init_19 : decode prog_4_method_1_code 19 = .ok (.if_icmp .ge 52, 3) := by decide +kernel
theorem d_C_init_22 : decode prog_4_method_1_code 22 = .ok (.iload_n 1, 1) := by decide +kernel
theorem d_C_init_23 : decode prog_4_method_1_code 23 = .ok (.istore_n 2, 1) := by decide +kernel
theorem d_C_init_24 : decode prog_4_method_1_code 24 = .ok (.iconst 0, 1) := by decide +kernel
theorem d_C_init_25 : decode prog_4_method_1_code 25 = .ok (.istore_n 3, 1) := by decide +kernel
theorem d_C_init_26 : decode prog_4_method_1_code 26 = .ok (.iload_n 3, 1) := by decide +kernel
theorem d_C_init_27 : decode prog_4_method_1_code 27 = .ok (.bipush 8, 2) := by decide +kernel
theorem d_C_init_29 : decode prog_4_method_1_code 29 = .ok (.if_icmp .ge 29, 3) := by decide +kernel
theorem d_C_init_32 : decode prog_4_method_1_code 32 = .ok (.iload_n 2, 1) := by decide +kernel
theorem d_C_init_33 : decode prog_4_method_1_code 33 = .ok (.iconst 1, 1) := by decide +kernel
theorem d_C_init_34 : decode prog_4_method_1_code 34 = .ok (.iand, 1) := by decide +kernel
theorem d_C_init_35 : decode prog_4_method_1_code 35 = .ok (.iconst 1, 1) := by decide +kernel
theorem d_C_init_36 : decode prog_4_method_1_code 36 = .ok (.if_icmp .ne 12, 3) := by decide +kernel
theorem d_C_init_39 : decode prog_4_method_1_code 39 = .ok (.iload_n 2, 1) := by decide +kernel
theorem d_C_init_40 : decode prog_4_method_1_code 40 = .ok (.iconst 1, 1) := by decide +kernel
theorem d_C_init_41 : decode prog_4_method_1_code 41 = .ok (.iushr, 1) := by decide +kernel
theorem d_C_init_42 : decode prog_4_method_1_code 42 = .ok (.ldc 13, 2) := by decide +kernel
theorem d_C_init_44 : decode prog_4_method_1_code 44 = .ok (.ixor, 1) := by decide +kernel
theorem d_C_init_45 : decode prog_4_method_1_code 45 = .ok (.goto 6, 3) := by decide +kernel
theorem d_C_init_48 : decode prog_4_method_1_code 48 = .ok (.iload_n 2, 1) := by decide +kernel
theorem d_C_init_49 : decode prog_4_method_1_code 49 = .ok (.iconst 1, 1) := by decide +kernel
theorem d_C_init_50 : decode prog_4_method_1_code 50 = .ok (.iushr, 1) := by decide +kernel
theorem d_C_init_51 : decode prog_4_method_1_code 51 = .ok (.istore_n 2, 1) := by decide +kernel
theorem d_C_init_52 : decode prog_4_method_1_code 52 = .ok (.iinc 3 1, 3) := by decide +kernel
theorem d_C_init_55 : decode prog_4_method_1_code 55 = .ok (.goto (-29), 3) := by decide +kernel
theorem d_C_init_58 : decode prog_4_method_1_code 58 = .ok (.aload_n 0, 1) := by decide +kernel
theorem d_C_init_59 : decode prog_4_method_1_code 59 = .ok (.getfield 7, 3) := by decide +kernel
theorem d_C_init_62 : decode prog_4_method_1_code 62 = .ok (.iload_n 1, 1) := by decide +kernel
theorem d_C_init_63 : decode prog_4_method_1_code 63 = .ok (.iload_n 2, 1) := by decide +kernel
theorem d_C_init_64 : decode prog_4_method_1_code 64 = .ok (.iastore, 1) := by decide +kernel
theorem d_C_init_65 : decode prog_4_method_1_code 65 = .ok (.iinc 1 1, 3) := by decide +kernel
theorem d_C_init_68 : decode prog_4_method_1_code 68 = .ok (.goto (-53), 3) := by decide +kernel
theorem d_C_init_71 : decode prog_4_method_1_code 71 = .ok (.return_, 1) := by decide +kernel
theorem d_C_checkOf_0 : decode prog_4_method_2_code 0 = .ok (.iconst (-1), 1) := by decide +kernel
theorem d_C_checkOf_1 : decode prog_4_method_2_code 1 = .ok (.istore 4, 2) := by decide +kernel
theorem d_C_checkOf_3 : decode prog_4_method_2_code 3 = .ok (.iconst 0, 1) := by decide +kernel
theorem d_C_checkOf_4 : decode prog_4_method_2_code 4 = .ok (.istore 5, 2) := by decide +kernel
theorem d_C_checkOf_6 : decode prog_4_method_2_code 6 = .ok (.iload 5, 2) := by decide +kernel
theorem d_C_checkOf_8 : decode prog_4_method_2_code 8 = .ok (.iload_n 3, 1) := by decide +kernel
theorem d_C_checkOf_9 : decode prog_4_method_2_code 9 = .ok (.if_icmp .ge 37, 3) := by decide +kernel
theorem d_C_checkOf_12 : decode prog_4_method_2_code 12 = .ok (.iload 4, 2) := by decide +kernel
theorem d_C_checkOf_14 : decode prog_4_method_2_code 14 = .ok (.bipush 8, 2) := by decide +kernel
theorem d_C_checkOf_16 : decode prog_4_method_2_code 16 = .ok (.iushr, 1) := by decide +kernel
theorem d_C_checkOf_17 : decode prog_4_method_2_code 17 = .ok (.aload_n 0, 1) := by decide +kernel
theorem d_C_checkOf_18 : decode prog_4_method_2_code 18 = .ok (.getfield 7, 3) := by decide +kernel
theorem d_C_checkOf_21 : decode prog_4_method_2_code 21 = .ok (.iload 4, 2) := by decide +kernel
theorem d_C_checkOf_23 : decode prog_4_method_2_code 23 = .ok (.aload_n 1, 1) := by decide +kernel
theorem d_C_checkOf_24 : decode prog_4_method_2_code 24 = .ok (.iload_n 2, 1) := by decide +kernel
theorem d_C_checkOf_25 : decode prog_4_method_2_code 25 = .ok (.iload 5, 2) := by decide +kernel
theorem d_C_checkOf_27 : decode prog_4_method_2_code 27 = .ok (.iadd, 1) := by decide +kernel
theorem d_C_checkOf_28 : decode prog_4_method_2_code 28 = .ok (.invokevirtual 14, 3) := by decide +kernel
theorem d_C_checkOf_31 : decode prog_4_method_2_code 31 = .ok (.ixor, 1) := by decide +kernel
theorem d_C_checkOf_32 : decode prog_4_method_2_code 32 = .ok (.sipush 255, 3) := by decide +kernel
theorem d_C_checkOf_35 : decode prog_4_method_2_code 35 = .ok (.iand, 1) := by decide +kernel
theorem d_C_checkOf_36 : decode prog_4_method_2_code 36 = .ok (.iaload, 1) := by decide +kernel
theorem d_C_checkOf_37 : decode prog_4_method_2_code 37 = .ok (.ixor, 1) := by decide +kernel
theorem d_C_checkOf_38 : decode prog_4_method_2_code 38 = .ok (.istore 4, 2) := by decide +kernel
theorem d_C_checkOf_40 : decode prog_4_method_2_code 40 = .ok (.iinc 5 1, 3) := by decide +kernel
theorem d_C_checkOf_43 : decode prog_4_method_2_code 43 = .ok (.goto (-37), 3) := by decide +kernel
theorem d_C_checkOf_46 : decode prog_4_method_2_code 46 = .ok (.iload 4, 2) := by decide +kernel
theorem d_C_checkOf_48 : decode prog_4_method_2_code 48 = .ok (.iconst (-1), 1) := by decide +kernel
theorem d_C_checkOf_49 : decode prog_4_method_2_code 49 = .ok (.ixor, 1) := by decide +kernel
theorem d_C_checkOf_50 : decode prog_4_method_2_code 50 = .ok (.ireturn, 1) := by decide +kernel
theorem d_E_init_0 : decode prog_5_method_1_code 0 = .ok (.aload_n 0, 1) := by decide +kernel
theorem d_E_init_1 : decode prog_5_method_1_code 1 = .ok (.invokespecial 3, 3) := by decide +kernel
theorem d_E_init_4 : decode prog_5_method_1_code 4 = .ok (.aload_n 0, 1) := by decide +kernel
theorem d_E_init_5 : decode prog_5_method_1_code 5 = .ok (.new 9, 3) := by decide +kernel
theorem d_E_init_8 : decode prog_5_method_1_code 8 = .ok (.dup, 1) := by decide +kernel
theorem d_E_init_9 : decode prog_5_method_1_code 9 = .ok (.bipush 64, 2) := by decide +kernel
theorem d_E_init_11 : decode prog_5_method_1_code 11 = .ok (.invokespecial 11, 3) := by decide +kernel
theorem d_E_init_14 : decode prog_5_method_1_code 14 = .ok (.putfield 14, 3) := by decide +kernel
theorem d_E_init_17 : decode prog_5_method_1_code 17 = .ok (.return_, 1) := by decide +kernel
theorem d_E_describe_0 : decode prog_5_method_2_code 0 = .ok (.aload_n 0, 1) := by decide +kernel
theorem d_E_describe_1 : decode prog_5_method_2_code 1 = .ok (.iload_n 1, 1) := by decide +kernel
theorem d_E_describe_2 : decode prog_5_method_2_code 2 = .ok (.putfield 20, 3) := by decide +kernel
theorem d_E_describe_5 : decode prog_5_method_2_code 5 = .ok (.aload_n 0, 1) := by decide +kernel
theorem d_E_describe_6 : decode prog_5_method_2_code 6 = .ok (.iload_n 2, 1) := by decide +kernel
theorem d_E_describe_7 : decode prog_5_method_2_code 7 = .ok (.putfield 24, 3) := by decide +kernel
theorem d_E_describe_10 : decode prog_5_method_2_code 10 = .ok (.aload_n 0, 1) := by decide +kernel
theorem d_E_describe_11 : decode prog_5_method_2_code 11 = .ok (.iload_n 3, 1) := by decide +kernel
theorem d_E_describe_12 : decode prog_5_method_2_code 12 = .ok (.putfield 27, 3) := by decide +kernel
theorem d_E_describe_15 : decode prog_5_method_2_code 15 = .ok (.return_, 1) := by decide +kernel
theorem d_F_init_0 : decode prog_6_method_1_code 0 = .ok (.aload_n 0, 1) := by decide +kernel
theorem d_F_init_1 : decode prog_6_method_1_code 1 = .ok (.invokespecial 3, 3) := by decide +kernel
theorem d_F_init_4 : decode prog_6_method_1_code 4 = .ok (.return_, 1) := by decide +kernel
theorem d_F_takeFrom_0 : decode prog_6_method_2_code 0 = .ok (.aload_n 0, 1) := by decide +kernel
theorem d_F_takeFrom_1 : decode prog_6_method_2_code 1 = .ok (.aload_n 1, 1) := by decide +kernel
theorem d_F_takeFrom_2 : decode prog_6_method_2_code 2 = .ok (.iload_n 2, 1) := by decide +kernel
theorem d_F_takeFrom_3 : decode prog_6_method_2_code 3 = .ok (.iconst 2, 1) := by decide +kernel
theorem d_F_takeFrom_4 : decode prog_6_method_2_code 4 = .ok (.iadd, 1) := by decide +kernel
theorem d_F_takeFrom_5 : decode prog_6_method_2_code 5 = .ok (.iconst 2, 1) := by decide +kernel
theorem d_F_takeFrom_6 : decode prog_6_method_2_code 6 = .ok (.invokevirtual 9, 3) := by decide +kernel
theorem d_F_takeFrom_9 : decode prog_6_method_2_code 9 = .ok (.l2i, 1) := by decide +kernel
theorem d_F_takeFrom_10 : decode prog_6_method_2_code 10 = .ok (.putfield 15, 3) := by decide +kernel
theorem d_F_takeFrom_13 : decode prog_6_method_2_code 13 = .ok (.aload_n 0, 1) := by decide +kernel
theorem d_F_takeFrom_14 : decode prog_6_method_2_code 14 = .ok (.aload_n 1, 1) := by decide +kernel
theorem d_F_takeFrom_15 : decode prog_6_method_2_code 15 = .ok (.iload_n 2, 1) := by decide +kernel
theorem d_F_takeFrom_16 : decode prog_6_method_2_code 16 = .ok (.iconst 4, 1) := by decide +kernel
theorem d_F_takeFrom_17 : decode prog_6_method_2_code 17 = .ok (.iadd, 1) := by decide +kernel
theorem d_F_takeFrom_18 : decode prog_6_method_2_code 18 = .ok (.iconst 2, 1) := by decide +kernel
theorem d_F_takeFrom_19 : decode prog_6_method_2_code 19 = .ok (.invokevirtual 9, 3) := by decide +kernel
theorem d_F_takeFrom_22 : decode prog_6_method_2_code 22 = .ok (.l2i, 1) := by decide +kernel
theorem d_F_takeFrom_23 : decode prog_6_method_2_code 23 = .ok (.putfield 21, 3) := by decide +kernel
theorem d_F_takeFrom_26 : decode prog_6_method_2_code 26 = .ok (.aload_n 0, 1) := by decide +kernel
theorem d_F_takeFrom_27 : decode prog_6_method_2_code 27 = .ok (.aload_n 1, 1) := by decide +kernel
theorem d_F_takeFrom_28 : decode prog_6_method_2_code 28 = .ok (.iload_n 2, 1) := by decide +kernel
theorem d_F_takeFrom_29 : decode prog_6_method_2_code 29 = .ok (.bipush 10, 2) := by decide +kernel
theorem d_F_takeFrom_31 : decode prog_6_method_2_code 31 = .ok (.iadd, 1) := by decide +kernel
theorem d_F_takeFrom_32 : decode prog_6_method_2_code 32 = .ok (.iconst 4, 1) := by decide +kernel
theorem d_F_takeFrom_33 : decode prog_6_method_2_code 33 = .ok (.invokevirtual 9, 3) := by decide +kernel
theorem d_F_takeFrom_36 : decode prog_6_method_2_code 36 = .ok (.putfield 24, 3) := by decide +kernel
theorem d_F_takeFrom_39 : decode prog_6_method_2_code 39 = .ok (.aload_n 0, 1) := by decide +kernel
theorem d_F_takeFrom_40 : decode prog_6_method_2_code 40 = .ok (.aload_n 1, 1) := by decide +kernel
theorem d_F_takeFrom_41 : decode prog_6_method_2_code 41 = .ok (.iload_n 2, 1) := by decide +kernel
theorem d_F_takeFrom_42 : decode prog_6_method_2_code 42 = .ok (.bipush 14, 2) := by decide +kernel
theorem d_F_takeFrom_44 : decode prog_6_method_2_code 44 = .ok (.iadd, 1) := by decide +kernel
theorem d_F_takeFrom_45 : decode prog_6_method_2_code 45 = .ok (.iconst 4, 1) := by decide +kernel
theorem d_F_takeFrom_46 : decode prog_6_method_2_code 46 = .ok (.invokevirtual 9, 3) := by decide +kernel
theorem d_F_takeFrom_49 : decode prog_6_method_2_code 49 = .ok (.putfield 28, 3) := by decide +kernel
theorem d_F_takeFrom_52 : decode prog_6_method_2_code 52 = .ok (.aload_n 0, 1) := by decide +kernel
theorem d_F_takeFrom_53 : decode prog_6_method_2_code 53 = .ok (.aload_n 1, 1) := by decide +kernel
theorem d_F_takeFrom_54 : decode prog_6_method_2_code 54 = .ok (.iload_n 2, 1) := by decide +kernel
theorem d_F_takeFrom_55 : decode prog_6_method_2_code 55 = .ok (.bipush 18, 2) := by decide +kernel
theorem d_F_takeFrom_57 : decode prog_6_method_2_code 57 = .ok (.iadd, 1) := by decide +kernel
theorem d_F_takeFrom_58 : decode prog_6_method_2_code 58 = .ok (.iconst 4, 1) := by decide +kernel
theorem d_F_takeFrom_59 : decode prog_6_method_2_code 59 = .ok (.invokevirtual 9, 3) := by decide +kernel
theorem d_F_takeFrom_62 : decode prog_6_method_2_code 62 = .ok (.putfield 31, 3) := by decide +kernel
theorem d_F_takeFrom_65 : decode prog_6_method_2_code 65 = .ok (.aload_n 0, 1) := by decide +kernel
theorem d_F_takeFrom_66 : decode prog_6_method_2_code 66 = .ok (.aload_n 1, 1) := by decide +kernel
theorem d_F_takeFrom_67 : decode prog_6_method_2_code 67 = .ok (.iload_n 2, 1) := by decide +kernel
theorem d_F_takeFrom_68 : decode prog_6_method_2_code 68 = .ok (.bipush 22, 2) := by decide +kernel
theorem d_F_takeFrom_70 : decode prog_6_method_2_code 70 = .ok (.iadd, 1) := by decide +kernel
theorem d_F_takeFrom_71 : decode prog_6_method_2_code 71 = .ok (.iconst 2, 1) := by decide +kernel
theorem d_F_takeFrom_72 : decode prog_6_method_2_code 72 = .ok (.invokevirtual 9, 3) := by decide +kernel
theorem d_F_takeFrom_75 : decode prog_6_method_2_code 75 = .ok (.l2i, 1) := by decide +kernel
theorem d_F_takeFrom_76 : decode prog_6_method_2_code 76 = .ok (.putfield 34, 3) := by decide +kernel
theorem d_F_takeFrom_79 : decode prog_6_method_2_code 79 = .ok (.aload_n 0, 1) := by decide +kernel
theorem d_F_takeFrom_80 : decode prog_6_method_2_code 80 = .ok (.aload_n 1, 1) := by decide +kernel
theorem d_F_takeFrom_81 : decode prog_6_method_2_code 81 = .ok (.iload_n 2, 1) := by decide +kernel
theorem d_F_takeFrom_82 : decode prog_6_method_2_code 82 = .ok (.bipush 24, 2) := by decide +kernel
theorem d_F_takeFrom_84 : decode prog_6_method_2_code 84 = .ok (.iadd, 1) := by decide +kernel
theorem d_F_takeFrom_85 : decode prog_6_method_2_code 85 = .ok (.iconst 2, 1) := by decide +kernel
theorem d_F_takeFrom_86 : decode prog_6_method_2_code 86 = .ok (.invokevirtual 9, 3) := by decide +kernel
theorem d_F_takeFrom_89 : decode prog_6_method_2_code 89 = .ok (.l2i, 1) := by decide +kernel
theorem d_F_takeFrom_90 : decode prog_6_method_2_code 90 = .ok (.putfield 37, 3) := by decide +kernel
theorem d_F_takeFrom_93 : decode prog_6_method_2_code 93 = .ok (.return_, 1) := by decide +kernel
theorem d_F_hasTail_0 : decode prog_6_method_3_code 0 = .ok (.aload_n 0, 1) := by decide +kernel
theorem d_F_hasTail_1 : decode prog_6_method_3_code 1 = .ok (.getfield 15, 3) := by decide +kernel
theorem d_F_hasTail_4 : decode prog_6_method_3_code 4 = .ok (.bipush 8, 2) := by decide +kernel
theorem d_F_hasTail_6 : decode prog_6_method_3_code 6 = .ok (.iand, 1) := by decide +kernel
theorem d_F_hasTail_7 : decode prog_6_method_3_code 7 = .ok (.ifCond .eq 7, 3) := by decide +kernel
theorem d_F_hasTail_10 : decode prog_6_method_3_code 10 = .ok (.iconst 1, 1) := by decide +kernel
theorem d_F_hasTail_11 : decode prog_6_method_3_code 11 = .ok (.goto 4, 3) := by decide +kernel
theorem d_F_hasTail_14 : decode prog_6_method_3_code 14 = .ok (.iconst 0, 1) := by decide +kernel
theorem d_F_hasTail_15 : decode prog_6_method_3_code 15 = .ok (.ireturn, 1) := by decide +kernel
theorem d_G_init_0 : decode prog_7_method_1_code 0 = .ok (.aload_n 0, 1) := by decide +kernel
theorem d_G_init_1 : decode prog_7_method_1_code 1 = .ok (.invokespecial 3, 3) := by decide +kernel
theorem d_G_init_4 : decode prog_7_method_1_code 4 = .ok (.aload_n 0, 1) := by decide +kernel
theorem d_G_init_5 : decode prog_7_method_1_code 5 = .ok (.new 9, 3) := by decide +kernel
theorem d_G_init_8 : decode prog_7_method_1_code 8 = .ok (.dup, 1) := by decide +kernel
theorem d_G_init_9 : decode prog_7_method_1_code 9 = .ok (.invokespecial 11, 3) := by decide +kernel
theorem d_G_init_12 : decode prog_7_method_1_code 12 = .ok (.putfield 12, 3) := by decide +kernel
theorem d_G_init_15 : decode prog_7_method_1_code 15 = .ok (.return_, 1) := by decide +kernel
theorem d_G_takeFrom_0 : decode prog_7_method_2_code 0 = .ok (.aload_n 0, 1) := by decide +kernel
theorem d_G_takeFrom_1 : decode prog_7_method_2_code 1 = .ok (.getfield 12, 3) := by decide +kernel
theorem d_G_takeFrom_4 : decode prog_7_method_2_code 4 = .ok (.aload_n 1, 1) := by decide +kernel
theorem d_G_takeFrom_5 : decode prog_7_method_2_code 5 = .ok (.iload_n 2, 1) := by decide +kernel
theorem d_G_takeFrom_6 : decode prog_7_method_2_code 6 = .ok (.bipush 6, 2) := by decide +kernel
theorem d_G_takeFrom_8 : decode prog_7_method_2_code 8 = .ok (.iadd, 1) := by decide +kernel
theorem d_G_takeFrom_9 : decode prog_7_method_2_code 9 = .ok (.invokevirtual 18, 3) := by decide +kernel
theorem d_G_takeFrom_12 : decode prog_7_method_2_code 12 = .ok (.aload_n 1, 1) := by decide +kernel
theorem d_G_takeFrom_13 : decode prog_7_method_2_code 13 = .ok (.iload_n 2, 1) := by decide +kernel
theorem d_G_takeFrom_14 : decode prog_7_method_2_code 14 = .ok (.bipush 32, 2) := by decide +kernel
theorem d_G_takeFrom_16 : decode prog_7_method_2_code 16 = .ok (.iadd, 1) := by decide +kernel
theorem d_G_takeFrom_17 : decode prog_7_method_2_code 17 = .ok (.iconst 2, 1) := by decide +kernel
theorem d_G_takeFrom_18 : decode prog_7_method_2_code 18 = .ok (.invokevirtual 22, 3) := by decide +kernel
theorem d_G_takeFrom_21 : decode prog_7_method_2_code 21 = .ok (.l2i, 1) := by decide +kernel
theorem d_G_takeFrom_22 : decode prog_7_method_2_code 22 = .ok (.istore_n 3, 1) := by decide +kernel
theorem d_G_takeFrom_23 : decode prog_7_method_2_code 23 = .ok (.aload_n 0, 1) := by decide +kernel
theorem d_G_takeFrom_24 : decode prog_7_method_2_code 24 = .ok (.aload_n 1, 1) := by decide +kernel
theorem d_G_takeFrom_25 : decode prog_7_method_2_code 25 = .ok (.iload_n 2, 1) := by decide +kernel
theorem d_G_takeFrom_26 : decode prog_7_method_2_code 26 = .ok (.bipush 42, 2) := by decide +kernel
theorem d_G_takeFrom_28 : decode prog_7_method_2_code 28 = .ok (.iadd, 1) := by decide +kernel
theorem d_G_takeFrom_29 : decode prog_7_method_2_code 29 = .ok (.iconst 4, 1) := by decide +kernel
theorem d_G_takeFrom_30 : decode prog_7_method_2_code 30 = .ok (.invokevirtual 22, 3) := by decide +kernel
theorem d_G_takeFrom_33 : decode prog_7_method_2_code 33 = .ok (.putfield 28, 3) := by decide +kernel
theorem d_G_takeFrom_36 : decode prog_7_method_2_code 36 = .ok (.aload_n 0, 1) := by decide +kernel
theorem d_G_takeFrom_37 : decode prog_7_method_2_code 37 = .ok (.iload_n 2, 1) := by decide +kernel
theorem d_G_takeFrom_38 : decode prog_7_method_2_code 38 = .ok (.bipush 46, 2) := by decide +kernel
theorem d_G_takeFrom_40 : decode prog_7_method_2_code 40 = .ok (.iadd, 1) := by decide +kernel
theorem d_G_takeFrom_41 : decode prog_7_method_2_code 41 = .ok (.putfield 32, 3) := by decide +kernel
theorem d_G_takeFrom_44 : decode prog_7_method_2_code 44 = .ok (.aload_n 0, 1) := by decide +kernel
theorem d_G_takeFrom_45 : decode prog_7_method_2_code 45 = .ok (.aload_n 0, 1) := by decide +kernel
theorem d_G_takeFrom_46 : decode prog_7_method_2_code 46 = .ok (.getfield 32, 3) := by decide +kernel
theorem d_G_takeFrom_49 : decode prog_7_method_2_code 49 = .ok (.aload_n 0, 1) := by decide +kernel
theorem d_G_takeFrom_50 : decode prog_7_method_2_code 50 = .ok (.getfield 12, 3) := by decide +kernel
theorem d_G_takeFrom_53 : decode prog_7_method_2_code 53 = .ok (.getfield 36, 3) := by decide +kernel
theorem d_G_takeFrom_56 : decode prog_7_method_2_code 56 = .ok (.iadd, 1) := by decide +kernel
theorem d_G_takeFrom_57 : decode prog_7_method_2_code 57 = .ok (.aload_n 0, 1) := by decide +kernel
theorem d_G_takeFrom_58 : decode prog_7_method_2_code 58 = .ok (.getfield 12, 3) := by decide +kernel
theorem d_G_takeFrom_61 : decode prog_7_method_2_code 61 = .ok (.getfield 39, 3) := by decide +kernel
theorem d_G_takeFrom_64 : decode prog_7_method_2_code 64 = .ok (.iadd, 1) := by decide +kernel
theorem d_G_takeFrom_65 : decode prog_7_method_2_code 65 = .ok (.iload_n 3, 1) := by decide +kernel
theorem d_G_takeFrom_66 : decode prog_7_method_2_code 66 = .ok (.iadd, 1) := by decide +kernel
theorem d_G_takeFrom_67 : decode prog_7_method_2_code 67 = .ok (.putfield 42, 3) := by decide +kernel
theorem d_G_takeFrom_70 : decode prog_7_method_2_code 70 = .ok (.return_, 1) := by decide +kernel
theorem t_N_isName_0 {l : Launch} {G : mm_G} {b : Nat} {m : mm_Mem} {Q : mm_O → mm_Mem → Prop} {r0 : Nat} {x1 : Int32} {x2 : Int32} (h1 : (x2 < 1) → mm_W l G k_N_isName 11 [] [] b m Q) (h2 : (¬ x2 < 1) → mm_W l G k_N_isName 5 [(0, .ref r0), (1, .int x1), (2, .int x2)] [] b m Q) : mm_W l G k_N_isName 0 [(0, .ref r0), (1, .int x1), (2, .int x2)] [] b m Q := by
  refine mm_iload_n 2 (i := 2) d_N_isName_0 rfl rfl ?_
  refine mm_iconst d_N_isName_1 (v := 1) (by decide) ?_
  exact mm_icmp_lt (tgt := 11) d_N_isName_2 (by decide) (fun c => mm_sub [] rfl (h1 c)) (fun c => mm_sub [0, 1, 2] rfl (h2 c))
theorem t_N_isName_5 {l : Launch} {G : mm_G} {b : Nat} {m : mm_Mem} {Q : mm_O → mm_Mem → Prop} {r0 : Nat} {x1 : Int32} {x2 : Int32} (h1 : (x2 ≤ 64) → mm_W l G k_N_isName 13 [(0, .ref r0), (1, .int x1), (2, .int x2)] [] b m Q) (h2 : (¬ x2 ≤ 64) → mm_W l G k_N_isName 11 [] [] b m Q) : mm_W l G k_N_isName 5 [(0, .ref r0), (1, .int x1), (2, .int x2)] [] b m Q := by
  refine mm_iload_n 2 (i := 2) d_N_isName_5 rfl rfl ?_
  refine mm_bipush d_N_isName_6 (v := 64) (by decide) ?_
  exact mm_icmp_le (tgt := 13) d_N_isName_8 (by decide) (fun c => mm_sub [0, 1, 2] rfl (h1 c)) (fun c => mm_sub [] rfl (h2 c))
theorem t_N_isName_11 {l : Launch} {G : mm_G} {b : Nat} {m : mm_Mem} {Q : mm_O → mm_Mem → Prop}  (h1 : Q (.inl (some (.int 0))) m) (hn2 : narrow .boolean (.int 0) = .int 0) : mm_W l G k_N_isName 11 [] [] b m Q := by
  refine mm_iconst d_N_isName_11 (v := 0) (by decide) ?_
  exact mm_zret d_N_isName_12 rfl hn2 h1
theorem t_N_isName_13 {l : Launch} {G : mm_G} {b : Nat} {m : mm_Mem} {Q : mm_O → mm_Mem → Prop} {r0 : Nat} {x1 : Int32} {x2 : Int32} (h1 : mm_W l G k_N_isName 18 [(0, .ref r0), (1, .int x1), (2, .int x2), (3, .int x1), (4, .int x1)] [] b m Q) : mm_W l G k_N_isName 13 [(0, .ref r0), (1, .int x1), (2, .int x2)] [] b m Q := by
  refine mm_iload_n 1 (i := 1) d_N_isName_13 rfl rfl ?_
  refine mm_istore_n (i := 3) d_N_isName_14 rfl (Nat.le_of_ble_eq_true rfl) (lv2 := [(3, .int x1), (0, .ref r0), (1, .int x1), (2, .int x2)]) rfl ?_
  refine mm_iload_n 2 (i := 1) d_N_isName_15 rfl rfl ?_
  refine mm_istore (i := 4) d_N_isName_16 (Nat.le_of_ble_eq_true rfl) (lv2 := [(4, .int x1), (3, .int x1), (0, .ref r0), (1, .int x1), (2, .int x2)]) rfl ?_
  exact mm_sub [2, 3, 4, 1, 0] rfl h1
theorem t_N_isName_18 {l : Launch} {G : mm_G} {b : Nat} {m : mm_Mem} {Q : mm_O → mm_Mem → Prop} {r0 : Nat} {x1 : Int32} {x2 : Int32} {x3 : Int32} {x4 : Int32} (h1 : ((x1 + x2) ≤ x4) → mm_W l G k_N_isName 89 [(0, .ref r0), (1, .int x1), (2, .int x2), (3, .int x3)] [] b m Q) (h2 : (¬ (x1 + x2) ≤ x4) → mm_W l G k_N_isName 26 [(0, .ref r0), (1, .int x1), (2, .int x2), (3, .int x3), (4, .int x4)] [] b m Q) : mm_W l G k_N_isName 18 [(0, .ref r0), (1, .int x1), (2, .int x2), (3, .int x3), (4, .int x4)] [] b m Q := by
  refine mm_iload 4 (i := 4) d_N_isName_18 rfl ?_
  refine mm_iload_n 1 (i := 1) d_N_isName_20 rfl rfl ?_
  refine mm_iload_n 2 (i := 2) d_N_isName_21 rfl rfl ?_
  refine mm_iadd d_N_isName_22 ?_
  exact mm_icmp_ge (tgt := 89) d_N_isName_23 (by decide) (fun c => mm_sub [0, 1, 2, 3] rfl (h1 c)) (fun c => mm_sub [0, 1, 2, 3, 4] rfl (h2 c))
theorem t_N_isName_26 {l : Launch} {G : mm_G} {b : Nat} {m : mm_Mem} {Q : mm_O → mm_Mem → Prop} {r0 : Nat} {x1 : Int32} {x2 : Int32} {x3 : Int32} {x4 : Int32} {b_1 : Nat} {b_2 : Nat} {m_4 : mm_Mem} {x_5 : Int32} {fs_6 : List Value} (hb3 : b_1 + b_2 ≤ b) (g7 : m r0 = .inr (2, fs_6)) (z8 : r0 ≠ 0) (M9 : mm_W l G k_B_get 0 (lv_args 0 [.ref r0, .int x4]) [] b_1 m (mm_is (.inl (some (.int x_5))) m_4)) (h10 : (x_5 < 33) → mm_W l G k_N_isName 55 [] [] b_2 m_4 Q) (h11 : (¬ x_5 < 33) → mm_W l G k_N_isName 41 [(0, .ref r0), (1, .int x1), (2, .int x2), (3, .int x3), (4, .int x4), (5, .int x_5)] [] b_2 m_4 Q) : mm_W l G k_N_isName 26 [(0, .ref r0), (1, .int x1), (2, .int x2), (3, .int x3), (4, .int x4)] [] b m Q := by
  refine mm_aload_n 0 (i := 0) d_N_isName_26 rfl rfl ?_
  refine mm_iload 4 (i := 4) d_N_isName_27 rfl ?_
  refine mm_callV (as := [.int x4]) (st := []) (b2 := b_2) ca_B_get w_278 w_279 w_280 cc_B.1 rfl d_N_isName_29 rfl (Nat.le_of_ble_eq_true rfl) (Nat.le_of_ble_eq_true rfl) (Nat.le_of_ble_eq_true rfl) hb3 g7 z8 M9 (fun E _ ⟨c, _⟩ => nomatch c) (fun v _ ⟨c, e⟩ => ?_)
  cases c
  rw [e]
  show mm_W l G k_N_isName 32 [(0, .ref r0), (1, .int x1), (2, .int x2), (3, .int x3), (4, .int x4)] [.int x_5] b_2 m_4 Q
  refine mm_istore (i := 5) d_N_isName_32 (Nat.le_of_ble_eq_true rfl) (lv2 := [(5, .int x_5), (0, .ref r0), (1, .int x1), (2, .int x2), (3, .int x3), (4, .int x4)]) rfl ?_
  refine mm_iload 0 (i := 5) d_N_isName_34 rfl ?_
  refine mm_bipush d_N_isName_36 (v := 33) (by decide) ?_
  exact mm_icmp_lt (tgt := 55) d_N_isName_38 (by decide) (fun c => mm_sub [] rfl (h10 c)) (fun c => mm_sub [1, 2, 3, 4, 5, 0] rfl (h11 c))
theorem t_N_isName_41 {l : Launch} {G : mm_G} {b : Nat} {m : mm_Mem} {Q : mm_O → mm_Mem → Prop} {r0 : Nat} {x1 : Int32} {x2 : Int32} {x3 : Int32} {x4 : Int32} {x5 : Int32} (h1 : (126 < x5) → mm_W l G k_N_isName 55 [] [] b m Q) (h2 : (¬ 126 < x5) → mm_W l G k_N_isName 48 [(0, .ref r0), (1, .int x1), (2, .int x2), (3, .int x3), (4, .int x4), (5, .int x5)] [] b m Q) : mm_W l G k_N_isName 41 [(0, .ref r0), (1, .int x1), (2, .int x2), (3, .int x3), (4, .int x4), (5, .int x5)] [] b m Q := by
  refine mm_iload 5 (i := 5) d_N_isName_41 rfl ?_
  refine mm_bipush d_N_isName_43 (v := 126) (by decide) ?_
  exact mm_icmp_gt (tgt := 55) d_N_isName_45 (by decide) (fun c => mm_sub [] rfl (h1 c)) (fun c => mm_sub [0, 1, 2, 3, 4, 5] rfl (h2 c))
theorem t_N_isName_48 {l : Launch} {G : mm_G} {b : Nat} {m : mm_Mem} {Q : mm_O → mm_Mem → Prop} {r0 : Nat} {x1 : Int32} {x2 : Int32} {x3 : Int32} {x4 : Int32} {x5 : Int32} (h1 : (¬ x5 = 92) → mm_W l G k_N_isName 57 [(0, .ref r0), (1, .int x1), (2, .int x2), (3, .int x3), (4, .int x4), (5, .int x5)] [] b m Q) (h2 : (x5 = 92) → mm_W l G k_N_isName 55 [] [] b m Q) : mm_W l G k_N_isName 48 [(0, .ref r0), (1, .int x1), (2, .int x2), (3, .int x3), (4, .int x4), (5, .int x5)] [] b m Q := by
  refine mm_iload 5 (i := 5) d_N_isName_48 rfl ?_
  refine mm_bipush d_N_isName_50 (v := 92) (by decide) ?_
  exact mm_icmp_ne (tgt := 57) d_N_isName_52 (by decide) (fun c => mm_sub [0, 1, 2, 3, 4, 5] rfl (h1 c)) (fun c => mm_sub [] rfl (h2 c))
theorem t_N_isName_55 {l : Launch} {G : mm_G} {b : Nat} {m : mm_Mem} {Q : mm_O → mm_Mem → Prop}  (h1 : Q (.inl (some (.int 0))) m) (hn2 : narrow .boolean (.int 0) = .int 0) : mm_W l G k_N_isName 55 [] [] b m Q := by
  refine mm_iconst d_N_isName_55 (v := 0) (by decide) ?_
  exact mm_zret d_N_isName_56 rfl hn2 h1
theorem t_N_isName_57 {l : Launch} {G : mm_G} {b : Nat} {m : mm_Mem} {Q : mm_O → mm_Mem → Prop} {r0 : Nat} {x1 : Int32} {x2 : Int32} {x3 : Int32} {x4 : Int32} {x5 : Int32} (h1 : (¬ x5 = 47) → mm_W l G k_N_isName 83 [(0, .ref r0), (1, .int x1), (2, .int x2), (3, .int x3), (4, .int x4)] [] b m Q) (h2 : (x5 = 47) → mm_W l G k_N_isName 64 [(0, .ref r0), (1, .int x1), (2, .int x2), (3, .int x3), (4, .int x4)] [] b m Q) : mm_W l G k_N_isName 57 [(0, .ref r0), (1, .int x1), (2, .int x2), (3, .int x3), (4, .int x4), (5, .int x5)] [] b m Q := by
  refine mm_iload 5 (i := 5) d_N_isName_57 rfl ?_
  refine mm_bipush d_N_isName_59 (v := 47) (by decide) ?_
  exact mm_icmp_ne (tgt := 83) d_N_isName_61 (by decide) (fun c => mm_sub [0, 1, 2, 3, 4] rfl (h1 c)) (fun c => mm_sub [0, 1, 2, 3, 4] rfl (h2 c))
theorem t_N_isName_64 {l : Launch} {G : mm_G} {b : Nat} {m : mm_Mem} {Q : mm_O → mm_Mem → Prop} {r0 : Nat} {x1 : Int32} {x2 : Int32} {x3 : Int32} {x4 : Int32} {b_1 : Nat} {b_2 : Nat} {m_4 : mm_Mem} {x_5 : Int32} (hb3 : b_1 + b_2 ≤ b) (M6 : mm_W l G k_N_isPiece 0 (lv_args 0 [.ref r0, .int x3, .int (x4 - x3)]) [] b_1 m (mm_is (.inl (some (.int x_5))) m_4)) (h7 : (¬ x_5 = 0) → mm_W l G k_N_isName 78 [(0, .ref r0), (1, .int x1), (2, .int x2), (4, .int x4)] [] b_2 m_4 Q) (h8 : (x_5 = 0) → mm_W l G k_N_isName 76 [] [] b_2 m_4 Q) : mm_W l G k_N_isName 64 [(0, .ref r0), (1, .int x1), (2, .int x2), (3, .int x3), (4, .int x4)] [] b m Q := by
  refine mm_aload_n 0 (i := 0) d_N_isName_64 rfl rfl ?_
  refine mm_iload_n 3 (i := 3) d_N_isName_65 rfl rfl ?_
  refine mm_iload 4 (i := 4) d_N_isName_66 rfl ?_
  refine mm_iload_n 3 (i := 3) d_N_isName_68 rfl rfl ?_
  refine mm_isub d_N_isName_69 ?_
  refine mm_callS (as := [.ref r0, .int x3, .int (x4 - x3)]) (st := []) (b2 := b_2) ca_N_isPiece w_465 w_466 d_N_isName_70 rfl (Nat.le_of_ble_eq_true rfl) (Nat.le_of_ble_eq_true rfl) (Nat.le_of_ble_eq_true rfl) hb3 M6 (fun E _ ⟨c, _⟩ => nomatch c) (fun v _ ⟨c, e⟩ => ?_)
  cases c
  rw [e]
  show mm_W l G k_N_isName 73 [(0, .ref r0), (1, .int x1), (2, .int x2), (3, .int x3), (4, .int x4)] [.int x_5] b_2 m_4 Q
  exact mm_if_ne (tgt := 78) d_N_isName_73 (by decide) (fun c => mm_sub [0, 1, 2, 4] rfl (h7 c)) (fun c => mm_sub [] rfl (h8 c))
theorem t_N_isName_76 {l : Launch} {G : mm_G} {b : Nat} {m : mm_Mem} {Q : mm_O → mm_Mem → Prop}  (h1 : Q (.inl (some (.int 0))) m) (hn2 : narrow .boolean (.int 0) = .int 0) : mm_W l G k_N_isName 76 [] [] b m Q := by
  refine mm_iconst d_N_isName_76 (v := 0) (by decide) ?_
  exact mm_zret d_N_isName_77 rfl hn2 h1
theorem t_N_isName_78 {l : Launch} {G : mm_G} {b : Nat} {m : mm_Mem} {Q : mm_O → mm_Mem → Prop} {r0 : Nat} {x1 : Int32} {x2 : Int32} {x4 : Int32} (h1 : mm_W l G k_N_isName 83 [(0, .ref r0), (1, .int x1), (2, .int x2), (3, .int (x4 + 1)), (4, .int x4)] [] b m Q) : mm_W l G k_N_isName 78 [(0, .ref r0), (1, .int x1), (2, .int x2), (4, .int x4)] [] b m Q := by
  refine mm_iload 3 (i := 4) d_N_isName_78 rfl ?_
  refine mm_iconst d_N_isName_80 (v := 1) (by decide) ?_
  refine mm_iadd d_N_isName_81 ?_
  refine mm_istore_n (i := 3) d_N_isName_82 rfl (Nat.le_of_ble_eq_true rfl) (lv2 := [(3, .int (x4 + 1)), (0, .ref r0), (1, .int x1), (2, .int x2), (4, .int x4)]) rfl ?_
  exact mm_sub [1, 2, 3, 0, 4] rfl h1
theorem t_N_isName_83 {l : Launch} {G : mm_G} {b : Nat} {m : mm_Mem} {Q : mm_O → mm_Mem → Prop} {r0 : Nat} {x1 : Int32} {x2 : Int32} {x3 : Int32} {x4 : Int32} (h1 : mm_W l G k_N_isName 18 [(0, .ref r0), (1, .int x1), (2, .int x2), (3, .int x3), (4, .int (x4 + 1))] [] b m Q) : mm_W l G k_N_isName 83 [(0, .ref r0), (1, .int x1), (2, .int x2), (3, .int x3), (4, .int x4)] [] b m Q := by
  refine mm_iinc 4 (i := 4) d_N_isName_83 rfl (v := x4 + 1) rfl (Nat.le_of_ble_eq_true rfl) (lv2 := [(4, .int (x4 + 1)), (0, .ref r0), (1, .int x1), (2, .int x2), (3, .int x3)]) rfl ?_
  refine mm_goto (tgt := 18) d_N_isName_86 (by decide) ?_
  exact mm_sub [1, 2, 3, 4, 0] rfl h1
theorem t_N_isName_89 {l : Launch} {G : mm_G} {b : Nat} {m : mm_Mem} {Q : mm_O → mm_Mem → Prop} {r0 : Nat} {x1 : Int32} {x2 : Int32} {x3 : Int32} {b_1 : Nat} {b_2 : Nat} {m_4 : mm_Mem} {x_5 : Int32} (hb3 : b_1 + b_2 ≤ b) (M6 : mm_W l G k_N_isPiece 0 (lv_args 0 [.ref r0, .int x3, .int ((x1 + x2) - x3)]) [] b_1 m (mm_is (.inl (some (.int x_5))) m_4)) (h7 : Q (.inl (some (.int x_5))) m_4) (hn8 : narrow .boolean (.int x_5) = .int x_5) : mm_W l G k_N_isName 89 [(0, .ref r0), (1, .int x1), (2, .int x2), (3, .int x3)] [] b m Q := by
  refine mm_aload_n 0 (i := 0) d_N_isName_89 rfl rfl ?_
  refine mm_iload_n 3 (i := 3) d_N_isName_90 rfl rfl ?_
  refine mm_iload_n 1 (i := 1) d_N_isName_91 rfl rfl ?_
  refine mm_iload_n 2 (i := 2) d_N_isName_92 rfl rfl ?_
  refine mm_iadd d_N_isName_93 ?_
  refine mm_iload_n 3 (i := 3) d_N_isName_94 rfl rfl ?_
  refine mm_isub d_N_isName_95 ?_
  refine mm_callS (as := [.ref r0, .int x3, .int ((x1 + x2) - x3)]) (st := []) (b2 := b_2) ca_N_isPiece w_465 w_466 d_N_isName_96 rfl (Nat.le_of_ble_eq_true rfl) (Nat.le_of_ble_eq_true rfl) (Nat.le_of_ble_eq_true rfl) hb3 M6 (fun E _ ⟨c, _⟩ => nomatch c) (fun v _ ⟨c, e⟩ => ?_)
  cases c
  rw [e]
  show mm_W l G k_N_isName 99 [(0, .ref r0), (1, .int x1), (2, .int x2), (3, .int x3)] [.int x_5] b_2 m_4 Q
  exact mm_zret d_N_isName_99 rfl hn8 h7
theorem t_N_isPiece_0 {l : Launch} {G : mm_G} {b : Nat} {m : mm_Mem} {Q : mm_O → mm_Mem → Prop} {r0 : Nat} {x1 : Int32} {x2 : Int32} (h1 : mm_W l G k_N_isPiece 2 [(0, .ref r0), (1, .int x1), (2, .int x2), (3, .int 0)] [] b m Q) : mm_W l G k_N_isPiece 0 [(0, .ref r0), (1, .int x1), (2, .int x2)] [] b m Q := by
  refine mm_iconst d_N_isPiece_0 (v := 0) (by decide) ?_
  refine mm_istore_n (i := 3) d_N_isPiece_1 rfl (Nat.le_of_ble_eq_true rfl) (lv2 := [(3, .int 0), (0, .ref r0), (1, .int x1), (2, .int x2)]) rfl ?_
  exact mm_sub [1, 2, 3, 0] rfl h1
theorem t_N_isPiece_2 {l : Launch} {G : mm_G} {b : Nat} {m : mm_Mem} {Q : mm_O → mm_Mem → Prop} {r0 : Nat} {x1 : Int32} {x2 : Int32} {x3 : Int32} (h1 : (x2 ≤ x3) → mm_W l G k_N_isPiece 32 [(2, .int x2)] [] b m Q) (h2 : (¬ x2 ≤ x3) → mm_W l G k_N_isPiece 7 [(0, .ref r0), (1, .int x1), (2, .int x2), (3, .int x3)] [] b m Q) : mm_W l G k_N_isPiece 2 [(0, .ref r0), (1, .int x1), (2, .int x2), (3, .int x3)] [] b m Q := by
  refine mm_iload_n 3 (i := 3) d_N_isPiece_2 rfl rfl ?_
  refine mm_iload_n 2 (i := 2) d_N_isPiece_3 rfl rfl ?_
  exact mm_icmp_ge (tgt := 32) d_N_isPiece_4 (by decide) (fun c => mm_sub [2] rfl (h1 c)) (fun c => mm_sub [0, 1, 2, 3] rfl (h2 c))
theorem t_N_isPiece_7 {l : Launch} {G : mm_G} {b : Nat} {m : mm_Mem} {Q : mm_O → mm_Mem → Prop} {r0 : Nat} {x1 : Int32} {x2 : Int32} {x3 : Int32} (h1 : (2 ≤ x3) → mm_W l G k_N_isPiece 32 [(2, .int x2)] [] b m Q) (h2 : (¬ 2 ≤ x3) → mm_W l G k_N_isPiece 12 [(0, .ref r0), (1, .int x1), (2, .int x2), (3, .int x3)] [] b m Q) : mm_W l G k_N_isPiece 7 [(0, .ref r0), (1, .int x1), (2, .int x2), (3, .int x3)] [] b m Q := by
  refine mm_iload_n 3 (i := 3) d_N_isPiece_7 rfl rfl ?_
  refine mm_iconst d_N_isPiece_8 (v := 2) (by decide) ?_
  exact mm_icmp_ge (tgt := 32) d_N_isPiece_9 (by decide) (fun c => mm_sub [2] rfl (h1 c)) (fun c => mm_sub [0, 1, 2, 3] rfl (h2 c))
theorem t_N_isPiece_12 {l : Launch} {G : mm_G} {b : Nat} {m : mm_Mem} {Q : mm_O → mm_Mem → Prop} {r0 : Nat} {x1 : Int32} {x2 : Int32} {x3 : Int32} {b_1 : Nat} {b_2 : Nat} {m_4 : mm_Mem} {x_5 : Int32} {fs_6 : List Value} (hb3 : b_1 + b_2 ≤ b) (g7 : m r0 = .inr (2, fs_6)) (z8 : r0 ≠ 0) (M9 : mm_W l G k_B_get 0 (lv_args 0 [.ref r0, .int (x1 + x3)]) [] b_1 m (mm_is (.inl (some (.int x_5))) m_4)) (h10 : (x_5 = 46) → mm_W l G k_N_isPiece 26 [(0, .ref r0), (1, .int x1), (2, .int x2), (3, .int x3)] [] b_2 m_4 Q) (h11 : (¬ x_5 = 46) → mm_W l G k_N_isPiece 24 [] [] b_2 m_4 Q) : mm_W l G k_N_isPiece 12 [(0, .ref r0), (1, .int x1), (2, .int x2), (3, .int x3)] [] b m Q := by
  refine mm_aload_n 0 (i := 0) d_N_isPiece_12 rfl rfl ?_
  refine mm_iload_n 1 (i := 1) d_N_isPiece_13 rfl rfl ?_
  refine mm_iload_n 3 (i := 3) d_N_isPiece_14 rfl rfl ?_
  refine mm_iadd d_N_isPiece_15 ?_
  refine mm_callV (as := [.int (x1 + x3)]) (st := []) (b2 := b_2) ca_B_get w_278 w_279 w_280 cc_B.1 rfl d_N_isPiece_16 rfl (Nat.le_of_ble_eq_true rfl) (Nat.le_of_ble_eq_true rfl) (Nat.le_of_ble_eq_true rfl) hb3 g7 z8 M9 (fun E _ ⟨c, _⟩ => nomatch c) (fun v _ ⟨c, e⟩ => ?_)
  cases c
  rw [e]
  show mm_W l G k_N_isPiece 19 [(0, .ref r0), (1, .int x1), (2, .int x2), (3, .int x3)] [.int x_5] b_2 m_4 Q
  refine mm_bipush d_N_isPiece_19 (v := 46) (by decide) ?_
  exact mm_icmp_eq (tgt := 26) d_N_isPiece_21 (by decide) (fun c => mm_sub [0, 1, 2, 3] rfl (h10 c)) (fun c => mm_sub [] rfl (h11 c))
theorem t_N_isPiece_24 {l : Launch} {G : mm_G} {b : Nat} {m : mm_Mem} {Q : mm_O → mm_Mem → Prop}  (h1 : Q (.inl (some (.int 1))) m) (hn2 : narrow .boolean (.int 1) = .int 1) : mm_W l G k_N_isPiece 24 [] [] b m Q := by
  refine mm_iconst d_N_isPiece_24 (v := 1) (by decide) ?_
  exact mm_zret d_N_isPiece_25 rfl hn2 h1
theorem t_N_isPiece_26 {l : Launch} {G : mm_G} {b : Nat} {m : mm_Mem} {Q : mm_O → mm_Mem → Prop} {r0 : Nat} {x1 : Int32} {x2 : Int32} {x3 : Int32} (h1 : mm_W l G k_N_isPiece 2 [(0, .ref r0), (1, .int x1), (2, .int x2), (3, .int (x3 + 1))] [] b m Q) : mm_W l G k_N_isPiece 26 [(0, .ref r0), (1, .int x1), (2, .int x2), (3, .int x3)] [] b m Q := by
  refine mm_iinc 3 (i := 3) d_N_isPiece_26 rfl (v := x3 + 1) rfl (Nat.le_of_ble_eq_true rfl) (lv2 := [(3, .int (x3 + 1)), (0, .ref r0), (1, .int x1), (2, .int x2)]) rfl ?_
  refine mm_goto (tgt := 2) d_N_isPiece_29 (by decide) ?_
  exact mm_sub [1, 2, 3, 0] rfl h1
theorem t_N_isPiece_32 {l : Launch} {G : mm_G} {b : Nat} {m : mm_Mem} {Q : mm_O → mm_Mem → Prop} {x2 : Int32} (h1 : (x2 ≤ 2) → mm_W l G k_N_isPiece 41 [] [] b m Q) (h2 : (¬ x2 ≤ 2) → mm_W l G k_N_isPiece 37 [] [] b m Q) : mm_W l G k_N_isPiece 32 [(2, .int x2)] [] b m Q := by
  refine mm_iload_n 0 (i := 2) d_N_isPiece_32 rfl rfl ?_
  refine mm_iconst d_N_isPiece_33 (v := 2) (by decide) ?_
  exact mm_icmp_le (tgt := 41) d_N_isPiece_34 (by decide) (fun c => mm_sub [] rfl (h1 c)) (fun c => mm_sub [] rfl (h2 c))
theorem t_N_isPiece_37 {l : Launch} {G : mm_G} {b : Nat} {m : mm_Mem} {Q : mm_O → mm_Mem → Prop}  (h1 : mm_W l G k_N_isPiece 42 [] [.int 1] b m Q) : mm_W l G k_N_isPiece 37 [] [] b m Q := by
  refine mm_iconst d_N_isPiece_37 (v := 1) (by decide) ?_
  refine mm_goto (tgt := 42) d_N_isPiece_38 (by decide) ?_
  exact mm_sub [] rfl h1
theorem t_N_isPiece_41 {l : Launch} {G : mm_G} {b : Nat} {m : mm_Mem} {Q : mm_O → mm_Mem → Prop}  (h1 : mm_W l G k_N_isPiece 42 [] [.int 0] b m Q) : mm_W l G k_N_isPiece 41 [] [] b m Q := by
  refine mm_iconst d_N_isPiece_41 (v := 0) (by decide) ?_
  exact mm_sub [] rfl h1
theorem t_N_isPiece_42 {l : Launch} {G : mm_G} {b : Nat} {m : mm_Mem} {Q : mm_O → mm_Mem → Prop} {xs0 : Int32} (h1 : Q (.inl (some (.int xs0))) m) (hn2 : narrow .boolean (.int xs0) = .int xs0) : mm_W l G k_N_isPiece 42 [] [.int xs0] b m Q := by
  exact mm_zret d_N_isPiece_42 rfl hn2 h1
theorem t_N_areAlike_0 {l : Launch} {G : mm_G} {b : Nat} {m : mm_Mem} {Q : mm_O → mm_Mem → Prop} {r0 : Nat} {x1 : Int32} {r2 : Nat} {x3 : Int32} {x4 : Int32} (h1 : mm_W l G k_N_areAlike 3 [(0, .ref r0), (1, .int x1), (2, .ref r2), (3, .int x3), (4, .int x4), (5, .int 0)] [] b m Q) : mm_W l G k_N_areAlike 0 [(0, .ref r0), (1, .int x1), (2, .ref r2), (3, .int x3), (4, .int x4)] [] b m Q := by
  refine mm_iconst d_N_areAlike_0 (v := 0) (by decide) ?_
  refine mm_istore (i := 5) d_N_areAlike_1 (Nat.le_of_ble_eq_true rfl) (lv2 := [(5, .int 0), (0, .ref r0), (1, .int x1), (2, .ref r2), (3, .int x3), (4, .int x4)]) rfl ?_
  exact mm_sub [1, 2, 3, 4, 5, 0] rfl h1
theorem t_N_areAlike_3 {l : Launch} {G : mm_G} {b : Nat} {m : mm_Mem} {Q : mm_O → mm_Mem → Prop} {r0 : Nat} {x1 : Int32} {r2 : Nat} {x3 : Int32} {x4 : Int32} {x5 : Int32} (h1 : (x4 ≤ x5) → mm_W l G k_N_areAlike 43 [] [] b m Q) (h2 : (¬ x4 ≤ x5) → mm_W l G k_N_areAlike 10 [(0, .ref r0), (1, .int x1), (2, .ref r2), (3, .int x3), (4, .int x4), (5, .int x5)] [] b m Q) : mm_W l G k_N_areAlike 3 [(0, .ref r0), (1, .int x1), (2, .ref r2), (3, .int x3), (4, .int x4), (5, .int x5)] [] b m Q := by
  refine mm_iload 5 (i := 5) d_N_areAlike_3 rfl ?_
  refine mm_iload 4 (i := 4) d_N_areAlike_5 rfl ?_
  exact mm_icmp_ge (tgt := 43) d_N_areAlike_7 (by decide) (fun c => mm_sub [] rfl (h1 c)) (fun c => mm_sub [0, 1, 2, 3, 4, 5] rfl (h2 c))
theorem t_N_areAlike_10 {l : Launch} {G : mm_G} {b : Nat} {m : mm_Mem} {Q : mm_O → mm_Mem → Prop} {r0 : Nat} {x1 : Int32} {r2 : Nat} {x3 : Int32} {x4 : Int32} {x5 : Int32} {b_1 : Nat} {b_2 : Nat} {m_4 : mm_Mem} {x_5 : Int32} {fs_6 : List Value} {b_10 : Nat} {b_11 : Nat} {m_13 : mm_Mem} {x_14 : Int32} {b_16 : Nat} {b_17 : Nat} {m_19 : mm_Mem} {x_20 : Int32} {fs_21 : List Value} {b_25 : Nat} {b_26 : Nat} {m_28 : mm_Mem} {x_29 : Int32} (hb3 : b_1 + b_2 ≤ b) (g7 : m r0 = .inr (2, fs_6)) (z8 : r0 ≠ 0) (M9 : mm_W l G k_B_get 0 (lv_args 0 [.ref r0, .int (x1 + x5)]) [] b_1 m (mm_is (.inl (some (.int x_5))) m_4)) (hb12 : b_10 + b_11 ≤ b_2) (M15 : mm_W l G k_N_small 0 (lv_args 0 [.int x_5]) [] b_10 m_4 (mm_is (.inl (some (.int x_14))) m_13)) (hb18 : b_16 + b_17 ≤ b_11) (g22 : m_13 r2 = .inr (2, fs_21)) (z23 : r2 ≠ 0) (M24 : mm_W l G k_B_get 0 (lv_args 0 [.ref r2, .int (x3 + x5)]) [] b_16 m_13 (mm_is (.inl (some (.int x_20))) m_19)) (hb27 : b_25 + b_26 ≤ b_17) (M30 : mm_W l G k_N_small 0 (lv_args 0 [.int x_20]) [] b_25 m_19 (mm_is (.inl (some (.int x_29))) m_28)) (h31 : (x_14 = x_29) → mm_W l G k_N_areAlike 37 [(0, .ref r0), (1, .int x1), (2, .ref r2), (3, .int x3), (4, .int x4), (5, .int x5)] [] b_26 m_28 Q) (h32 : (¬ x_14 = x_29) → mm_W l G k_N_areAlike 35 [] [] b_26 m_28 Q) : mm_W l G k_N_areAlike 10 [(0, .ref r0), (1, .int x1), (2, .ref r2), (3, .int x3), (4, .int x4), (5, .int x5)] [] b m Q := by
  refine mm_aload_n 0 (i := 0) d_N_areAlike_10 rfl rfl ?_
  refine mm_iload_n 1 (i := 1) d_N_areAlike_11 rfl rfl ?_
  refine mm_iload 5 (i := 5) d_N_areAlike_12 rfl ?_
  refine mm_iadd d_N_areAlike_14 ?_
  refine mm_callV (as := [.int (x1 + x5)]) (st := []) (b2 := b_2) ca_B_get w_278 w_279 w_280 cc_B.1 rfl d_N_areAlike_15 rfl (Nat.le_of_ble_eq_true rfl) (Nat.le_of_ble_eq_true rfl) (Nat.le_of_ble_eq_true rfl) hb3 g7 z8 M9 (fun E _ ⟨c, _⟩ => nomatch c) (fun v _ ⟨c, e⟩ => ?_)
  cases c
  rw [e]
  show mm_W l G k_N_areAlike 18 [(0, .ref r0), (1, .int x1), (2, .ref r2), (3, .int x3), (4, .int x4), (5, .int x5)] [.int x_5] b_2 m_4 Q
  refine mm_callS (as := [.int x_5]) (st := []) (b2 := b_11) ca_N_small w_282 w_283 d_N_areAlike_18 rfl (Nat.le_of_ble_eq_true rfl) (Nat.le_of_ble_eq_true rfl) (Nat.le_of_ble_eq_true rfl) hb12 M15 (fun E _ ⟨c, _⟩ => nomatch c) (fun v _ ⟨c, e⟩ => ?_)
  cases c
  rw [e]
  show mm_W l G k_N_areAlike 21 [(0, .ref r0), (1, .int x1), (2, .ref r2), (3, .int x3), (4, .int x4), (5, .int x5)] [.int x_14] b_11 m_13 Q
  refine mm_aload_n 2 (i := 2) d_N_areAlike_21 rfl rfl ?_
  refine mm_iload_n 3 (i := 3) d_N_areAlike_22 rfl rfl ?_
  refine mm_iload 5 (i := 5) d_N_areAlike_23 rfl ?_
  refine mm_iadd d_N_areAlike_25 ?_
  refine mm_callV (as := [.int (x3 + x5)]) (st := [.int x_14]) (b2 := b_17) ca_B_get w_278 w_279 w_280 cc_B.1 rfl d_N_areAlike_26 rfl (Nat.le_of_ble_eq_true rfl) (Nat.le_of_ble_eq_true rfl) (Nat.le_of_ble_eq_true rfl) hb18 g22 z23 M24 (fun E _ ⟨c, _⟩ => nomatch c) (fun v _ ⟨c, e⟩ => ?_)
  cases c
  rw [e]
  show mm_W l G k_N_areAlike 29 [(0, .ref r0), (1, .int x1), (2, .ref r2), (3, .int x3), (4, .int x4), (5, .int x5)] [.int x_20, .int x_14] b_17 m_19 Q
  refine mm_callS (as := [.int x_20]) (st := [.int x_14]) (b2 := b_26) ca_N_small w_282 w_283 d_N_areAlike_29 rfl (Nat.le_of_ble_eq_true rfl) (Nat.le_of_ble_eq_true rfl) (Nat.le_of_ble_eq_true rfl) hb27 M30 (fun E _ ⟨c, _⟩ => nomatch c) (fun v _ ⟨c, e⟩ => ?_)
  cases c
  rw [e]
  show mm_W l G k_N_areAlike 32 [(0, .ref r0), (1, .int x1), (2, .ref r2), (3, .int x3), (4, .int x4), (5, .int x5)] [.int x_29, .int x_14] b_26 m_28 Q
  exact mm_icmp_eq (tgt := 37) d_N_areAlike_32 (by decide) (fun c => mm_sub [0, 1, 2, 3, 4, 5] rfl (h31 c)) (fun c => mm_sub [] rfl (h32 c))
theorem t_N_areAlike_35 {l : Launch} {G : mm_G} {b : Nat} {m : mm_Mem} {Q : mm_O → mm_Mem → Prop}  (h1 : Q (.inl (some (.int 0))) m) (hn2 : narrow .boolean (.int 0) = .int 0) : mm_W l G k_N_areAlike 35 [] [] b m Q := by
  refine mm_iconst d_N_areAlike_35 (v := 0) (by decide) ?_
  exact mm_zret d_N_areAlike_36 rfl hn2 h1
theorem t_N_areAlike_37 {l : Launch} {G : mm_G} {b : Nat} {m : mm_Mem} {Q : mm_O → mm_Mem → Prop} {r0 : Nat} {x1 : Int32} {r2 : Nat} {x3 : Int32} {x4 : Int32} {x5 : Int32} (h1 : mm_W l G k_N_areAlike 3 [(0, .ref r0), (1, .int x1), (2, .ref r2), (3, .int x3), (4, .int x4), (5, .int (x5 + 1))] [] b m Q) : mm_W l G k_N_areAlike 37 [(0, .ref r0), (1, .int x1), (2, .ref r2), (3, .int x3), (4, .int x4), (5, .int x5)] [] b m Q := by
  refine mm_iinc 5 (i := 5) d_N_areAlike_37 rfl (v := x5 + 1) rfl (Nat.le_of_ble_eq_true rfl) (lv2 := [(5, .int (x5 + 1)), (0, .ref r0), (1, .int x1), (2, .ref r2), (3, .int x3), (4, .int x4)]) rfl ?_
  refine mm_goto (tgt := 3) d_N_areAlike_40 (by decide) ?_
  exact mm_sub [1, 2, 3, 4, 5, 0] rfl h1
theorem t_N_areAlike_43 {l : Launch} {G : mm_G} {b : Nat} {m : mm_Mem} {Q : mm_O → mm_Mem → Prop}  (h1 : Q (.inl (some (.int 1))) m) (hn2 : narrow .boolean (.int 1) = .int 1) : mm_W l G k_N_areAlike 43 [] [] b m Q := by
  refine mm_iconst d_N_areAlike_43 (v := 1) (by decide) ?_
  exact mm_zret d_N_areAlike_44 rfl hn2 h1
theorem t_N_small_0 {l : Launch} {G : mm_G} {b : Nat} {m : mm_Mem} {Q : mm_O → mm_Mem → Prop} {x0 : Int32} (h1 : (x0 < 65) → mm_W l G k_N_small 22 [(0, .int x0)] [] b m Q) (h2 : (¬ x0 < 65) → mm_W l G k_N_small 6 [(0, .int x0)] [] b m Q) : mm_W l G k_N_small 0 [(0, .int x0)] [] b m Q := by
  refine mm_iload_n 0 (i := 0) d_N_small_0 rfl rfl ?_
  refine mm_bipush d_N_small_1 (v := 65) (by decide) ?_
  exact mm_icmp_lt (tgt := 22) d_N_small_3 (by decide) (fun c => mm_sub [0] rfl (h1 c)) (fun c => mm_sub [0] rfl (h2 c))
theorem t_N_small_6 {l : Launch} {G : mm_G} {b : Nat} {m : mm_Mem} {Q : mm_O → mm_Mem → Prop} {x0 : Int32} (h1 : (90 < x0) → mm_W l G k_N_small 22 [(0, .int x0)] [] b m Q) (h2 : (¬ 90 < x0) → mm_W l G k_N_small 12 [(0, .int x0)] [] b m Q) : mm_W l G k_N_small 6 [(0, .int x0)] [] b m Q := by
  refine mm_iload_n 0 (i := 0) d_N_small_6 rfl rfl ?_
  refine mm_bipush d_N_small_7 (v := 90) (by decide) ?_
  exact mm_icmp_gt (tgt := 22) d_N_small_9 (by decide) (fun c => mm_sub [0] rfl (h1 c)) (fun c => mm_sub [0] rfl (h2 c))
theorem t_N_small_12 {l : Launch} {G : mm_G} {b : Nat} {m : mm_Mem} {Q : mm_O → mm_Mem → Prop} {x0 : Int32} (h1 : mm_W l G k_N_small 23 [] [.int ((x0 - 65) + 97)] b m Q) : mm_W l G k_N_small 12 [(0, .int x0)] [] b m Q := by
  refine mm_iload_n 0 (i := 0) d_N_small_12 rfl rfl ?_
  refine mm_bipush d_N_small_13 (v := 65) (by decide) ?_
  refine mm_isub d_N_small_15 ?_
  refine mm_bipush d_N_small_16 (v := 97) (by decide) ?_
  refine mm_iadd d_N_small_18 ?_
  refine mm_goto (tgt := 23) d_N_small_19 (by decide) ?_
  exact mm_sub [] rfl h1
theorem t_N_small_22 {l : Launch} {G : mm_G} {b : Nat} {m : mm_Mem} {Q : mm_O → mm_Mem → Prop} {x0 : Int32} (h1 : mm_W l G k_N_small 23 [] [.int x0] b m Q) : mm_W l G k_N_small 22 [(0, .int x0)] [] b m Q := by
  refine mm_iload_n 0 (i := 0) d_N_small_22 rfl rfl ?_
  exact mm_sub [] rfl h1
theorem t_N_small_23 {l : Launch} {G : mm_G} {b : Nat} {m : mm_Mem} {Q : mm_O → mm_Mem → Prop} {xs0 : Int32} (h1 : Q (.inl (some (.int xs0))) m) : mm_W l G k_N_small 23 [] [.int xs0] b m Q := by
  exact mm_iret d_N_small_23 rfl h1
theorem t_C_init_0 {l : Launch} {G : mm_G} {b : Nat} {m : mm_Mem} {Q : mm_O → mm_Mem → Prop} {r0 : Nat} {b_1 : Nat} {n_2 : Nat} {fs_7 : List Value} (k3 : ¬ (256 : Int32) < 0) (k4 : (256 : Int32).toNatClampNeg = n_2) (k5 : n_2 * 8 ≤ 536870912) (hb6 : n_2 + 1 + b_1 ≤ b) (g8 : (mm_push m (.inl (G.2 1, n_2, .inl (fun _ => 0)))) r0 = .inr (3, fs_7)) (z9 : r0 ≠ 0) (l10 : 0 < fs_7.length) (h11 : mm_W l G k_C_init 15 [(0, .ref r0), (1, .int 0)] [] b_1 (va_up (mm_push m (.inl (G.2 1, n_2, .inl (fun _ => 0)))) r0 (.inr (3, fs_7.set 0 (.ref (mm_n m + 1))))) Q) : mm_W l G k_C_init 0 [(0, .ref r0)] [] b m Q := by
  refine mm_aload_n 0 (i := 0) d_C_init_0 rfl rfl ?_
  refine mm_objInit w_50 w_25 w_26 d_C_init_1 (Nat.le_of_ble_eq_true rfl) (Nat.le_of_ble_eq_true rfl) ?_
  refine mm_aload_n 0 (i := 0) d_C_init_4 rfl rfl ?_
  refine mm_sipush d_C_init_5 (v := 256) (by decide) ?_
  refine mm_newa (t := 1) (ty := .int) (a0 := .inl (fun _ => 0)) (atype := .int) w_56 rfl rfl (fun _ => rfl) (fun _ => trivial) (fun _ => rfl) d_C_init_8 k3 k4 (Nat.le_trans (Nat.mul_le_mul_left _ (by decide)) k5) hb6 ?_
  refine mm_putF cc_C 0 (by decide) w_52 d_C_init_10 rfl rfl rfl (fun _ => rfl) (fun _ => rfl) g8 z9 l10 ?_
  refine mm_iconst d_C_init_13 (v := 0) (by decide) ?_
  refine mm_istore_n (i := 1) d_C_init_14 rfl (Nat.le_of_ble_eq_true rfl) (lv2 := [(1, .int 0), (0, .ref r0)]) rfl ?_
  exact mm_sub [1, 0] rfl h11
theorem t_C_init_15 {l : Launch} {G : mm_G} {b : Nat} {m : mm_Mem} {Q : mm_O → mm_Mem → Prop} {r0 : Nat} {x1 : Int32} (h1 : (256 ≤ x1) → mm_W l G k_C_init 71 [] [] b m Q) (h2 : (¬ 256 ≤ x1) → mm_W l G k_C_init 22 [(0, .ref r0), (1, .int x1)] [] b m Q) : mm_W l G k_C_init 15 [(0, .ref r0), (1, .int x1)] [] b m Q := by
  refine mm_iload_n 1 (i := 1) d_C_init_15 rfl rfl ?_
  refine mm_sipush d_C_init_16 (v := 256) (by decide) ?_
  exact mm_icmp_ge (tgt := 71) d_C_init_19 (by decide) (fun c => mm_sub [] rfl (h1 c)) (fun c => mm_sub [0, 1] rfl (h2 c))
theorem t_C_init_22 {l : Launch} {G : mm_G} {b : Nat} {m : mm_Mem} {Q : mm_O → mm_Mem → Prop} {r0 : Nat} {x1 : Int32} (h1 : mm_W l G k_C_init 26 [(0, .ref r0), (1, .int x1), (2, .int x1), (3, .int 0)] [] b m Q) : mm_W l G k_C_init 22 [(0, .ref r0), (1, .int x1)] [] b m Q := by
  refine mm_iload_n 1 (i := 1) d_C_init_22 rfl rfl ?_
  refine mm_istore_n (i := 2) d_C_init_23 rfl (Nat.le_of_ble_eq_true rfl) (lv2 := [(2, .int x1), (0, .ref r0), (1, .int x1)]) rfl ?_
  refine mm_iconst d_C_init_24 (v := 0) (by decide) ?_
  refine mm_istore_n (i := 3) d_C_init_25 rfl (Nat.le_of_ble_eq_true rfl) (lv2 := [(3, .int 0), (2, .int x1), (0, .ref r0), (1, .int x1)]) rfl ?_
  exact mm_sub [2, 3, 1, 0] rfl h1
theorem t_C_init_26 {l : Launch} {G : mm_G} {b : Nat} {m : mm_Mem} {Q : mm_O → mm_Mem → Prop} {r0 : Nat} {x1 : Int32} {x2 : Int32} {x3 : Int32} (h1 : (8 ≤ x3) → mm_W l G k_C_init 58 [(0, .ref r0), (1, .int x1), (2, .int x2)] [] b m Q) (h2 : (¬ 8 ≤ x3) → mm_W l G k_C_init 32 [(0, .ref r0), (1, .int x1), (2, .int x2), (3, .int x3)] [] b m Q) : mm_W l G k_C_init 26 [(0, .ref r0), (1, .int x1), (2, .int x2), (3, .int x3)] [] b m Q := by
  refine mm_iload_n 3 (i := 3) d_C_init_26 rfl rfl ?_
  refine mm_bipush d_C_init_27 (v := 8) (by decide) ?_
  exact mm_icmp_ge (tgt := 58) d_C_init_29 (by decide) (fun c => mm_sub [0, 1, 2] rfl (h1 c)) (fun c => mm_sub [0, 1, 2, 3] rfl (h2 c))
theorem t_C_init_32 {l : Launch} {G : mm_G} {b : Nat} {m : mm_Mem} {Q : mm_O → mm_Mem → Prop} {r0 : Nat} {x1 : Int32} {x2 : Int32} {x3 : Int32} (h1 : (¬ (x2 &&& 1) = 1) → mm_W l G k_C_init 48 [(0, .ref r0), (1, .int x1), (2, .int x2), (3, .int x3)] [] b m Q) (h2 : ((x2 &&& 1) = 1) → mm_W l G k_C_init 39 [(0, .ref r0), (1, .int x1), (2, .int x2), (3, .int x3)] [] b m Q) : mm_W l G k_C_init 32 [(0, .ref r0), (1, .int x1), (2, .int x2), (3, .int x3)] [] b m Q := by
  refine mm_iload_n 2 (i := 2) d_C_init_32 rfl rfl ?_
  refine mm_iconst d_C_init_33 (v := 1) (by decide) ?_
  refine mm_iand d_C_init_34 ?_
  refine mm_iconst d_C_init_35 (v := 1) (by decide) ?_
  exact mm_icmp_ne (tgt := 48) d_C_init_36 (by decide) (fun c => mm_sub [0, 1, 2, 3] rfl (h1 c)) (fun c => mm_sub [0, 1, 2, 3] rfl (h2 c))
theorem t_C_init_39 {l : Launch} {G : mm_G} {b : Nat} {m : mm_Mem} {Q : mm_O → mm_Mem → Prop} {r0 : Nat} {x1 : Int32} {x2 : Int32} {x3 : Int32} (h1 : mm_W l G k_C_init 51 [(0, .ref r0), (1, .int x1), (3, .int x3)] [.int (((x2.toUInt32 >>> ((1 : Int32).toUInt32 &&& Int32.toUInt32 31)).toInt32) ^^^ ((-306674912)))] b m Q) : mm_W l G k_C_init 39 [(0, .ref r0), (1, .int x1), (2, .int x2), (3, .int x3)] [] b m Q := by
  refine mm_iload_n 2 (i := 2) d_C_init_39 rfl rfl ?_
  refine mm_iconst d_C_init_40 (v := 1) (by decide) ?_
  refine mm_iushr d_C_init_41 ?_
  refine mm_ldc (v := (-306674912)) w_51 d_C_init_42 ?_
  refine mm_ixor d_C_init_44 ?_
  refine mm_goto (tgt := 51) d_C_init_45 (by decide) ?_
  exact mm_sub [0, 1, 3] rfl h1
theorem t_C_init_48 {l : Launch} {G : mm_G} {b : Nat} {m : mm_Mem} {Q : mm_O → mm_Mem → Prop} {r0 : Nat} {x1 : Int32} {x2 : Int32} {x3 : Int32} (h1 : mm_W l G k_C_init 51 [(0, .ref r0), (1, .int x1), (3, .int x3)] [.int ((x2.toUInt32 >>> ((1 : Int32).toUInt32 &&& Int32.toUInt32 31)).toInt32)] b m Q) : mm_W l G k_C_init 48 [(0, .ref r0), (1, .int x1), (2, .int x2), (3, .int x3)] [] b m Q := by
  refine mm_iload_n 2 (i := 2) d_C_init_48 rfl rfl ?_
  refine mm_iconst d_C_init_49 (v := 1) (by decide) ?_
  refine mm_iushr d_C_init_50 ?_
  exact mm_sub [0, 1, 3] rfl h1
theorem t_C_init_51 {l : Launch} {G : mm_G} {b : Nat} {m : mm_Mem} {Q : mm_O → mm_Mem → Prop} {r0 : Nat} {x1 : Int32} {x3 : Int32} {xs0 : Int32} (h1 : mm_W l G k_C_init 26 [(0, .ref r0), (1, .int x1), (2, .int xs0), (3, .int (x3 + 1))] [] b m Q) : mm_W l G k_C_init 51 [(0, .ref r0), (1, .int x1), (3, .int x3)] [.int xs0] b m Q := by
  refine mm_istore_n (i := 2) d_C_init_51 rfl (Nat.le_of_ble_eq_true rfl) (lv2 := [(2, .int xs0), (0, .ref r0), (1, .int x1), (3, .int x3)]) rfl ?_
  refine mm_iinc 3 (i := 3) d_C_init_52 rfl (v := x3 + 1) rfl (Nat.le_of_ble_eq_true rfl) (lv2 := [(3, .int (x3 + 1)), (2, .int xs0), (0, .ref r0), (1, .int x1)]) rfl ?_
  refine mm_goto (tgt := 26) d_C_init_55 (by decide) ?_
  exact mm_sub [2, 3, 1, 0] rfl h1
theorem t_C_init_58 {l : Launch} {G : mm_G} {b : Nat} {m : mm_Mem} {Q : mm_O → mm_Mem → Prop} {r0 : Nat} {x1 : Int32} {x2 : Int32} {fs_1 : List Value} {q_4 : Nat} {n_6 : Nat} {f_7 : Nat → Int32} (g2 : m r0 = .inr (3, fs_1)) (z3 : r0 ≠ 0) (v5 : fs_1[0]? = some (.ref q_4)) (a8 : m q_4 = .inl (G.2 1, n_6, .inl f_7)) (z9 : q_4 ≠ 0) (i10 : vp_in x1 n_6) (h11 : mm_W l G k_C_init 15 [(0, .ref r0), (1, .int (x1 + 1))] [] b (va_up m q_4 (.inl (G.2 1, n_6, .inl (upd f_7 x1.toNatClampNeg x2)))) Q) : mm_W l G k_C_init 58 [(0, .ref r0), (1, .int x1), (2, .int x2)] [] b m Q := by
  refine mm_aload_n 0 (i := 0) d_C_init_58 rfl rfl ?_
  refine mm_get cc_C 0 (by decide) w_52 d_C_init_59 g2 z3 v5 ?_
  refine mm_iload_n 1 (i := 1) d_C_init_62 rfl rfl ?_
  refine mm_iload_n 2 (i := 2) d_C_init_63 rfl rfl ?_
  refine mm_iast d_C_init_64 a8 z9 i10 ?_
  refine mm_iinc 1 (i := 1) d_C_init_65 rfl (v := x1 + 1) rfl (Nat.le_of_ble_eq_true rfl) (lv2 := [(1, .int (x1 + 1)), (0, .ref r0), (2, .int x2)]) rfl ?_
  refine mm_goto (tgt := 15) d_C_init_68 (by decide) ?_
  exact mm_sub [1, 0] rfl h11
theorem t_C_init_71 {l : Launch} {G : mm_G} {b : Nat} {m : mm_Mem} {Q : mm_O → mm_Mem → Prop}  (h1 : Q (.inl none) m) : mm_W l G k_C_init 71 [] [] b m Q := by
  exact mm_vret d_C_init_71 rfl h1
theorem t_C_checkOf_0 {l : Launch} {G : mm_G} {b : Nat} {m : mm_Mem} {Q : mm_O → mm_Mem → Prop} {r0 : Nat} {r1 : Nat} {x2 : Int32} {x3 : Int32} (h1 : mm_W l G k_C_checkOf 6 [(0, .ref r0), (1, .ref r1), (2, .int x2), (3, .int x3), (4, .int ((-1))), (5, .int 0)] [] b m Q) : mm_W l G k_C_checkOf 0 [(0, .ref r0), (1, .ref r1), (2, .int x2), (3, .int x3)] [] b m Q := by
  refine mm_iconst d_C_checkOf_0 (v := (-1)) (by decide) ?_
  refine mm_istore (i := 4) d_C_checkOf_1 (Nat.le_of_ble_eq_true rfl) (lv2 := [(4, .int ((-1))), (0, .ref r0), (1, .ref r1), (2, .int x2), (3, .int x3)]) rfl ?_
  refine mm_iconst d_C_checkOf_3 (v := 0) (by decide) ?_
  refine mm_istore (i := 5) d_C_checkOf_4 (Nat.le_of_ble_eq_true rfl) (lv2 := [(5, .int 0), (4, .int ((-1))), (0, .ref r0), (1, .ref r1), (2, .int x2), (3, .int x3)]) rfl ?_
  exact mm_sub [2, 3, 4, 5, 1, 0] rfl h1
theorem t_C_checkOf_6 {l : Launch} {G : mm_G} {b : Nat} {m : mm_Mem} {Q : mm_O → mm_Mem → Prop} {r0 : Nat} {r1 : Nat} {x2 : Int32} {x3 : Int32} {x4 : Int32} {x5 : Int32} (h1 : (x3 ≤ x5) → mm_W l G k_C_checkOf 46 [(4, .int x4)] [] b m Q) (h2 : (¬ x3 ≤ x5) → mm_W l G k_C_checkOf 12 [(0, .ref r0), (1, .ref r1), (2, .int x2), (3, .int x3), (4, .int x4), (5, .int x5)] [] b m Q) : mm_W l G k_C_checkOf 6 [(0, .ref r0), (1, .ref r1), (2, .int x2), (3, .int x3), (4, .int x4), (5, .int x5)] [] b m Q := by
  refine mm_iload 5 (i := 5) d_C_checkOf_6 rfl ?_
  refine mm_iload_n 3 (i := 3) d_C_checkOf_8 rfl rfl ?_
  exact mm_icmp_ge (tgt := 46) d_C_checkOf_9 (by decide) (fun c => mm_sub [4] rfl (h1 c)) (fun c => mm_sub [0, 1, 2, 3, 4, 5] rfl (h2 c))
theorem t_C_checkOf_12 {l : Launch} {G : mm_G} {b : Nat} {m : mm_Mem} {Q : mm_O → mm_Mem → Prop} {r0 : Nat} {r1 : Nat} {x2 : Int32} {x3 : Int32} {x4 : Int32} {x5 : Int32} {fs_1 : List Value} {q_4 : Nat} {b_6 : Nat} {b_7 : Nat} {m_9 : mm_Mem} {x_10 : Int32} {fs_11 : List Value} {n_15 : Nat} {f_16 : Nat → Int32} (g2 : m r0 = .inr (3, fs_1)) (z3 : r0 ≠ 0) (v5 : fs_1[0]? = some (.ref q_4)) (hb8 : b_6 + b_7 ≤ b) (g12 : m r1 = .inr (2, fs_11)) (z13 : r1 ≠ 0) (M14 : mm_W l G k_B_get 0 (lv_args 0 [.ref r1, .int (x2 + x5)]) [] b_6 m (mm_is (.inl (some (.int x_10))) m_9)) (a17 : m_9 q_4 = .inl (G.2 1, n_15, .inl f_16)) (z18 : q_4 ≠ 0) (i19 : vp_in ((x4 ^^^ x_10) &&& 255) n_15) (h20 : mm_W l G k_C_checkOf 6 [(0, .ref r0), (1, .ref r1), (2, .int x2), (3, .int x3), (4, .int (((x4.toUInt32 >>> ((8 : Int32).toUInt32 &&& Int32.toUInt32 31)).toInt32) ^^^ (f_16 ((x4 ^^^ x_10) &&& 255).toNatClampNeg))), (5, .int (x5 + 1))] [] b_7 m_9 Q) : mm_W l G k_C_checkOf 12 [(0, .ref r0), (1, .ref r1), (2, .int x2), (3, .int x3), (4, .int x4), (5, .int x5)] [] b m Q := by
  refine mm_iload 4 (i := 4) d_C_checkOf_12 rfl ?_
  refine mm_bipush d_C_checkOf_14 (v := 8) (by decide) ?_
  refine mm_iushr d_C_checkOf_16 ?_
  refine mm_aload_n 0 (i := 0) d_C_checkOf_17 rfl rfl ?_
  refine mm_get cc_C 0 (by decide) w_52 d_C_checkOf_18 g2 z3 v5 ?_
  refine mm_iload 4 (i := 4) d_C_checkOf_21 rfl ?_
  refine mm_aload_n 1 (i := 1) d_C_checkOf_23 rfl rfl ?_
  refine mm_iload_n 2 (i := 2) d_C_checkOf_24 rfl rfl ?_
  refine mm_iload 5 (i := 5) d_C_checkOf_25 rfl ?_
  refine mm_iadd d_C_checkOf_27 ?_
  refine mm_callV (as := [.int (x2 + x5)]) (st := [.int x4, .ref q_4, .int ((x4.toUInt32 >>> ((8 : Int32).toUInt32 &&& Int32.toUInt32 31)).toInt32)]) (b2 := b_7) ca_B_get w_473 w_279 w_280 cc_B.1 rfl d_C_checkOf_28 rfl (Nat.le_of_ble_eq_true rfl) (Nat.le_of_ble_eq_true rfl) (Nat.le_of_ble_eq_true rfl) hb8 g12 z13 M14 (fun E _ ⟨c, _⟩ => nomatch c) (fun v _ ⟨c, e⟩ => ?_)
  cases c
  rw [e]
  show mm_W l G k_C_checkOf 31 [(0, .ref r0), (1, .ref r1), (2, .int x2), (3, .int x3), (4, .int x4), (5, .int x5)] [.int x_10, .int x4, .ref q_4, .int ((x4.toUInt32 >>> ((8 : Int32).toUInt32 &&& Int32.toUInt32 31)).toInt32)] b_7 m_9 Q
  refine mm_ixor d_C_checkOf_31 ?_
  refine mm_sipush d_C_checkOf_32 (v := 255) (by decide) ?_
  refine mm_iand d_C_checkOf_35 ?_
  refine mm_iald d_C_checkOf_36 a17 z18 i19 ?_
  refine mm_ixor d_C_checkOf_37 ?_
  refine mm_istore (i := 4) d_C_checkOf_38 (Nat.le_of_ble_eq_true rfl) (lv2 := [(4, .int (((x4.toUInt32 >>> ((8 : Int32).toUInt32 &&& Int32.toUInt32 31)).toInt32) ^^^ (f_16 ((x4 ^^^ x_10) &&& 255).toNatClampNeg))), (0, .ref r0), (1, .ref r1), (2, .int x2), (3, .int x3), (5, .int x5)]) rfl ?_
  refine mm_iinc 5 (i := 5) d_C_checkOf_40 rfl (v := x5 + 1) rfl (Nat.le_of_ble_eq_true rfl) (lv2 := [(5, .int (x5 + 1)), (4, .int (((x4.toUInt32 >>> ((8 : Int32).toUInt32 &&& Int32.toUInt32 31)).toInt32) ^^^ (f_16 ((x4 ^^^ x_10) &&& 255).toNatClampNeg))), (0, .ref r0), (1, .ref r1), (2, .int x2), (3, .int x3)]) rfl ?_
  refine mm_goto (tgt := 6) d_C_checkOf_43 (by decide) ?_
  exact mm_sub [2, 3, 4, 5, 1, 0] rfl h20
theorem t_C_checkOf_46 {l : Launch} {G : mm_G} {b : Nat} {m : mm_Mem} {Q : mm_O → mm_Mem → Prop} {x4 : Int32} (h1 : Q (.inl (some (.int (x4 ^^^ ((-1)))))) m) : mm_W l G k_C_checkOf 46 [(4, .int x4)] [] b m Q := by
  refine mm_iload 0 (i := 4) d_C_checkOf_46 rfl ?_
  refine mm_iconst d_C_checkOf_48 (v := (-1)) (by decide) ?_
  refine mm_ixor d_C_checkOf_49 ?_
  exact mm_iret d_C_checkOf_50 rfl h1
theorem t_E_init_0 {l : Launch} {G : mm_G} {b : Nat} {m : mm_Mem} {Q : mm_O → mm_Mem → Prop} {r0 : Nat} {b_1 : Nat} {b_3 : Nat} {b_4 : Nat} {m_6 : mm_Mem} {fs_8 : List Value} (hb2 : 2 + 1 + b_1 ≤ b) (hb5 : b_3 + b_4 ≤ b_1) (M7 : mm_W l G k_B_init 0 (lv_args 0 [.ref (mm_n m + 1), .int 64]) [] b_3 (mm_push m (.inr (2, [.null, .int 0]))) (mm_is (.inl none) m_6)) (g9 : m_6 r0 = .inr (4, fs_8)) (z10 : r0 ≠ 0) (l11 : 0 < fs_8.length) (h12 : Q (.inl none) (va_up m_6 r0 (.inr (4, fs_8.set 0 (.ref (mm_n m + 1)))))) : mm_W l G k_E_init 0 [(0, .ref r0)] [] b m Q := by
  refine mm_aload_n 0 (i := 0) d_E_init_0 rfl rfl ?_
  refine mm_objInit w_69 w_25 w_26 d_E_init_1 (Nat.le_of_ble_eq_true rfl) (Nat.le_of_ble_eq_true rfl) ?_
  refine mm_aload_n 0 (i := 0) d_E_init_4 rfl rfl ?_
  refine mm_new (fs := [.null, .int 0]) cc_B w_70 w_28 w_2 df_B dz_B (fun _ => rfl) d_E_init_5 hb2 ?_
  refine mm_dup d_E_init_8 rfl ?_
  refine mm_bipush d_E_init_9 (v := 64) (by decide) ?_
  refine mm_callI (as := [.int 64]) (st := [.ref (mm_n m + 1), .ref r0]) (b2 := b_4) ca_B_init rfl rfl rfl w_71 w_31 d_E_init_11 rfl (Nat.le_of_ble_eq_true rfl) (Nat.le_of_ble_eq_true rfl) (Nat.le_of_ble_eq_true rfl) hb5 M7 (fun E _ ⟨c, _⟩ => nomatch c) (fun v _ ⟨c, e⟩ => ?_)
  cases c
  rw [e]
  show mm_W l G k_E_init 14 [(0, .ref r0)] [.ref (mm_n m + 1), .ref r0] b_4 m_6 Q
  refine mm_putF cc_E 0 (by decide) w_72 d_E_init_14 rfl rfl rfl (fun _ => rfl) (fun _ => rfl) g9 z10 l11 ?_
  exact mm_vret d_E_init_17 rfl h12
theorem t_E_describe_0 {l : Launch} {G : mm_G} {b : Nat} {m : mm_Mem} {Q : mm_O → mm_Mem → Prop} {r0 : Nat} {x1 : Int32} {x2 : Int32} {x3 : Int32} {fs_1 : List Value} {fs_5 : List Value} {fs_8 : List Value} (g2 : m r0 = .inr (4, fs_1)) (z3 : r0 ≠ 0) (l4 : 1 < fs_1.length) (g6 : (va_up m r0 (.inr (4, fs_1.set 1 (.int x1)))) r0 = .inr (4, fs_5)) (l7 : 4 < fs_5.length) (g9 : (va_up (va_up m r0 (.inr (4, fs_1.set 1 (.int x1)))) r0 (.inr (4, fs_5.set 4 (.int x2)))) r0 = .inr (4, fs_8)) (l10 : 5 < fs_8.length) (h11 : Q (.inl none) (va_up (va_up (va_up m r0 (.inr (4, fs_1.set 1 (.int x1)))) r0 (.inr (4, fs_5.set 4 (.int x2)))) r0 (.inr (4, fs_8.set 5 (.int x3))))) : mm_W l G k_E_describe 0 [(0, .ref r0), (1, .int x1), (2, .int x2), (3, .int x3)] [] b m Q := by
  refine mm_aload_n 0 (i := 0) d_E_describe_0 rfl rfl ?_
  refine mm_iload_n 1 (i := 1) d_E_describe_1 rfl rfl ?_
  refine mm_putf cc_E 1 (by decide) w_76 d_E_describe_2 rfl (fun _ => rfl) (fun _ => rfl) g2 z3 l4 ?_
  refine mm_aload_n 0 (i := 0) d_E_describe_5 rfl rfl ?_
  refine mm_iload_n 2 (i := 2) d_E_describe_6 rfl rfl ?_
  refine mm_putf cc_E 4 (by decide) w_83 d_E_describe_7 rfl (fun _ => rfl) (fun _ => rfl) g6 z3 l7 ?_
  refine mm_aload_n 0 (i := 0) d_E_describe_10 rfl rfl ?_
  refine mm_iload_n 3 (i := 3) d_E_describe_11 rfl rfl ?_
  refine mm_putf cc_E 5 (by decide) w_86 d_E_describe_12 rfl (fun _ => rfl) (fun _ => rfl) g9 z3 l10 ?_
  exact mm_vret d_E_describe_15 rfl h11
theorem t_F_init_0 {l : Launch} {G : mm_G} {b : Nat} {m : mm_Mem} {Q : mm_O → mm_Mem → Prop} {r0 : Nat} (h1 : Q (.inl none) m) : mm_W l G k_F_init 0 [(0, .ref r0)] [] b m Q := by
  refine mm_aload_n 0 (i := 0) d_F_init_0 rfl rfl ?_
  refine mm_objInit w_134 w_25 w_26 d_F_init_1 (Nat.le_of_ble_eq_true rfl) (Nat.le_of_ble_eq_true rfl) ?_
  exact mm_vret d_F_init_4 rfl h1
theorem t_F_takeFrom_0 {l : Launch} {G : mm_G} {b : Nat} {m : mm_Mem} {Q : mm_O → mm_Mem → Prop} {r0 : Nat} {r1 : Nat} {x2 : Int32} {b_1 : Nat} {b_2 : Nat} {m_4 : mm_Mem} {y_5 : Int64} {fs_6 : List Value} {fs_10 : List Value} {b_14 : Nat} {b_15 : Nat} {m_17 : mm_Mem} {y_18 : Int64} {fs_19 : List Value} {fs_22 : List Value} {b_25 : Nat} {b_26 : Nat} {m_28 : mm_Mem} {y_29 : Int64} {fs_30 : List Value} {fs_33 : List Value} {b_36 : Nat} {b_37 : Nat} {m_39 : mm_Mem} {y_40 : Int64} {fs_41 : List Value} {fs_44 : List Value} {b_47 : Nat} {b_48 : Nat} {m_50 : mm_Mem} {y_51 : Int64} {fs_52 : List Value} {fs_55 : List Value} {b_58 : Nat} {b_59 : Nat} {m_61 : mm_Mem} {y_62 : Int64} {fs_63 : List Value} {fs_66 : List Value} {b_69 : Nat} {b_70 : Nat} {m_72 : mm_Mem} {y_73 : Int64} {fs_74 : List Value} {fs_77 : List Value} (hb3 : b_1 + b_2 ≤ b) (g7 : m r1 = .inr (2, fs_6)) (z8 : r1 ≠ 0) (M9 : mm_W l G k_B_number 0 (lv_args 0 [.ref r1, .int (x2 + 2), .int 2]) [] b_1 m (mm_is (.inl (some (.long y_5))) m_4)) (g11 : m_4 r0 = .inr (5, fs_10)) (z12 : r0 ≠ 0) (l13 : 0 < fs_10.length) (hb16 : b_14 + b_15 ≤ b_2) (g20 : (va_up m_4 r0 (.inr (5, fs_10.set 0 (.int y_5.toInt32)))) r1 = .inr (2, fs_19)) (M21 : mm_W l G k_B_number 0 (lv_args 0 [.ref r1, .int (x2 + 4), .int 2]) [] b_14 (va_up m_4 r0 (.inr (5, fs_10.set 0 (.int y_5.toInt32)))) (mm_is (.inl (some (.long y_18))) m_17)) (g23 : m_17 r0 = .inr (5, fs_22)) (l24 : 1 < fs_22.length) (hb27 : b_25 + b_26 ≤ b_15) (g31 : (va_up m_17 r0 (.inr (5, fs_22.set 1 (.int y_18.toInt32)))) r1 = .inr (2, fs_30)) (M32 : mm_W l G k_B_number 0 (lv_args 0 [.ref r1, .int (x2 + 10), .int 4]) [] b_25 (va_up m_17 r0 (.inr (5, fs_22.set 1 (.int y_18.toInt32)))) (mm_is (.inl (some (.long y_29))) m_28)) (g34 : m_28 r0 = .inr (5, fs_33)) (l35 : 2 < fs_33.length) (hb38 : b_36 + b_37 ≤ b_26) (g42 : (va_up m_28 r0 (.inr (5, fs_33.set 2 (.long y_29)))) r1 = .inr (2, fs_41)) (M43 : mm_W l G k_B_number 0 (lv_args 0 [.ref r1, .int (x2 + 14), .int 4]) [] b_36 (va_up m_28 r0 (.inr (5, fs_33.set 2 (.long y_29)))) (mm_is (.inl (some (.long y_40))) m_39)) (g45 : m_39 r0 = .inr (5, fs_44)) (l46 : 3 < fs_44.length) (hb49 : b_47 + b_48 ≤ b_37) (g53 : (va_up m_39 r0 (.inr (5, fs_44.set 3 (.long y_40)))) r1 = .inr (2, fs_52)) (M54 : mm_W l G k_B_number 0 (lv_args 0 [.ref r1, .int (x2 + 18), .int 4]) [] b_47 (va_up m_39 r0 (.inr (5, fs_44.set 3 (.long y_40)))) (mm_is (.inl (some (.long y_51))) m_50)) (g56 : m_50 r0 = .inr (5, fs_55)) (l57 : 4 < fs_55.length) (hb60 : b_58 + b_59 ≤ b_48) (g64 : (va_up m_50 r0 (.inr (5, fs_55.set 4 (.long y_51)))) r1 = .inr (2, fs_63)) (M65 : mm_W l G k_B_number 0 (lv_args 0 [.ref r1, .int (x2 + 22), .int 2]) [] b_58 (va_up m_50 r0 (.inr (5, fs_55.set 4 (.long y_51)))) (mm_is (.inl (some (.long y_62))) m_61)) (g67 : m_61 r0 = .inr (5, fs_66)) (l68 : 5 < fs_66.length) (hb71 : b_69 + b_70 ≤ b_59) (g75 : (va_up m_61 r0 (.inr (5, fs_66.set 5 (.int y_62.toInt32)))) r1 = .inr (2, fs_74)) (M76 : mm_W l G k_B_number 0 (lv_args 0 [.ref r1, .int (x2 + 24), .int 2]) [] b_69 (va_up m_61 r0 (.inr (5, fs_66.set 5 (.int y_62.toInt32)))) (mm_is (.inl (some (.long y_73))) m_72)) (g78 : m_72 r0 = .inr (5, fs_77)) (l79 : 6 < fs_77.length) (h80 : Q (.inl none) (va_up m_72 r0 (.inr (5, fs_77.set 6 (.int y_73.toInt32))))) : mm_W l G k_F_takeFrom 0 [(0, .ref r0), (1, .ref r1), (2, .int x2)] [] b m Q := by
  refine mm_aload_n 0 (i := 0) d_F_takeFrom_0 rfl rfl ?_
  refine mm_aload_n 1 (i := 1) d_F_takeFrom_1 rfl rfl ?_
  refine mm_iload_n 2 (i := 2) d_F_takeFrom_2 rfl rfl ?_
  refine mm_iconst d_F_takeFrom_3 (v := 2) (by decide) ?_
  refine mm_iadd d_F_takeFrom_4 ?_
  refine mm_iconst d_F_takeFrom_5 (v := 2) (by decide) ?_
  refine mm_callV (as := [.int (x2 + 2), .int 2]) (st := [.ref r0]) (b2 := b_2) ca_B_number w_665 w_643 w_644 cc_B.1 rfl d_F_takeFrom_6 rfl (Nat.le_of_ble_eq_true rfl) (Nat.le_of_ble_eq_true rfl) (Nat.le_of_ble_eq_true rfl) hb3 g7 z8 M9 (fun E _ ⟨c, _⟩ => nomatch c) (fun v _ ⟨c, e⟩ => ?_)
  cases c
  rw [e]
  show mm_W l G k_F_takeFrom 9 [(0, .ref r0), (1, .ref r1), (2, .int x2)] [.long y_5, .ref r0] b_2 m_4 Q
  refine mm_l2i d_F_takeFrom_9 ?_
  refine mm_putf cc_F 0 (by decide) w_135 d_F_takeFrom_10 rfl (fun _ => rfl) (fun _ => rfl) g11 z12 l13 ?_
  refine mm_aload_n 0 (i := 0) d_F_takeFrom_13 rfl rfl ?_
  refine mm_aload_n 1 (i := 1) d_F_takeFrom_14 rfl rfl ?_
  refine mm_iload_n 2 (i := 2) d_F_takeFrom_15 rfl rfl ?_
  refine mm_iconst d_F_takeFrom_16 (v := 4) (by decide) ?_
  refine mm_iadd d_F_takeFrom_17 ?_
  refine mm_iconst d_F_takeFrom_18 (v := 2) (by decide) ?_
  refine mm_callV (as := [.int (x2 + 4), .int 2]) (st := [.ref r0]) (b2 := b_15) ca_B_number w_665 w_643 w_644 cc_B.1 rfl d_F_takeFrom_19 rfl (Nat.le_of_ble_eq_true rfl) (Nat.le_of_ble_eq_true rfl) (Nat.le_of_ble_eq_true rfl) hb16 g20 z8 M21 (fun E _ ⟨c, _⟩ => nomatch c) (fun v _ ⟨c, e⟩ => ?_)
  cases c
  rw [e]
  show mm_W l G k_F_takeFrom 22 [(0, .ref r0), (1, .ref r1), (2, .int x2)] [.long y_18, .ref r0] b_15 m_17 Q
  refine mm_l2i d_F_takeFrom_22 ?_
  refine mm_putf cc_F 1 (by decide) w_137 d_F_takeFrom_23 rfl (fun _ => rfl) (fun _ => rfl) g23 z12 l24 ?_
  refine mm_aload_n 0 (i := 0) d_F_takeFrom_26 rfl rfl ?_
  refine mm_aload_n 1 (i := 1) d_F_takeFrom_27 rfl rfl ?_
  refine mm_iload_n 2 (i := 2) d_F_takeFrom_28 rfl rfl ?_
  refine mm_bipush d_F_takeFrom_29 (v := 10) (by decide) ?_
  refine mm_iadd d_F_takeFrom_31 ?_
  refine mm_iconst d_F_takeFrom_32 (v := 4) (by decide) ?_
  refine mm_callV (as := [.int (x2 + 10), .int 4]) (st := [.ref r0]) (b2 := b_26) ca_B_number w_665 w_643 w_644 cc_B.1 rfl d_F_takeFrom_33 rfl (Nat.le_of_ble_eq_true rfl) (Nat.le_of_ble_eq_true rfl) (Nat.le_of_ble_eq_true rfl) hb27 g31 z8 M32 (fun E _ ⟨c, _⟩ => nomatch c) (fun v _ ⟨c, e⟩ => ?_)
  cases c
  rw [e]
  show mm_W l G k_F_takeFrom 36 [(0, .ref r0), (1, .ref r1), (2, .int x2)] [.long y_29, .ref r0] b_26 m_28 Q
  refine mm_putf cc_F 2 (by decide) w_139 d_F_takeFrom_36 rfl (fun _ => rfl) (fun _ => rfl) g34 z12 l35 ?_
  refine mm_aload_n 0 (i := 0) d_F_takeFrom_39 rfl rfl ?_
  refine mm_aload_n 1 (i := 1) d_F_takeFrom_40 rfl rfl ?_
  refine mm_iload_n 2 (i := 2) d_F_takeFrom_41 rfl rfl ?_
  refine mm_bipush d_F_takeFrom_42 (v := 14) (by decide) ?_
  refine mm_iadd d_F_takeFrom_44 ?_
  refine mm_iconst d_F_takeFrom_45 (v := 4) (by decide) ?_
  refine mm_callV (as := [.int (x2 + 14), .int 4]) (st := [.ref r0]) (b2 := b_37) ca_B_number w_665 w_643 w_644 cc_B.1 rfl d_F_takeFrom_46 rfl (Nat.le_of_ble_eq_true rfl) (Nat.le_of_ble_eq_true rfl) (Nat.le_of_ble_eq_true rfl) hb38 g42 z8 M43 (fun E _ ⟨c, _⟩ => nomatch c) (fun v _ ⟨c, e⟩ => ?_)
  cases c
  rw [e]
  show mm_W l G k_F_takeFrom 49 [(0, .ref r0), (1, .ref r1), (2, .int x2)] [.long y_40, .ref r0] b_37 m_39 Q
  refine mm_putf cc_F 3 (by decide) w_141 d_F_takeFrom_49 rfl (fun _ => rfl) (fun _ => rfl) g45 z12 l46 ?_
  refine mm_aload_n 0 (i := 0) d_F_takeFrom_52 rfl rfl ?_
  refine mm_aload_n 1 (i := 1) d_F_takeFrom_53 rfl rfl ?_
  refine mm_iload_n 2 (i := 2) d_F_takeFrom_54 rfl rfl ?_
  refine mm_bipush d_F_takeFrom_55 (v := 18) (by decide) ?_
  refine mm_iadd d_F_takeFrom_57 ?_
  refine mm_iconst d_F_takeFrom_58 (v := 4) (by decide) ?_
  refine mm_callV (as := [.int (x2 + 18), .int 4]) (st := [.ref r0]) (b2 := b_48) ca_B_number w_665 w_643 w_644 cc_B.1 rfl d_F_takeFrom_59 rfl (Nat.le_of_ble_eq_true rfl) (Nat.le_of_ble_eq_true rfl) (Nat.le_of_ble_eq_true rfl) hb49 g53 z8 M54 (fun E _ ⟨c, _⟩ => nomatch c) (fun v _ ⟨c, e⟩ => ?_)
  cases c
  rw [e]
  show mm_W l G k_F_takeFrom 62 [(0, .ref r0), (1, .ref r1), (2, .int x2)] [.long y_51, .ref r0] b_48 m_50 Q
  refine mm_putf cc_F 4 (by decide) w_143 d_F_takeFrom_62 rfl (fun _ => rfl) (fun _ => rfl) g56 z12 l57 ?_
  refine mm_aload_n 0 (i := 0) d_F_takeFrom_65 rfl rfl ?_
  refine mm_aload_n 1 (i := 1) d_F_takeFrom_66 rfl rfl ?_
  refine mm_iload_n 2 (i := 2) d_F_takeFrom_67 rfl rfl ?_
  refine mm_bipush d_F_takeFrom_68 (v := 22) (by decide) ?_
  refine mm_iadd d_F_takeFrom_70 ?_
  refine mm_iconst d_F_takeFrom_71 (v := 2) (by decide) ?_
  refine mm_callV (as := [.int (x2 + 22), .int 2]) (st := [.ref r0]) (b2 := b_59) ca_B_number w_665 w_643 w_644 cc_B.1 rfl d_F_takeFrom_72 rfl (Nat.le_of_ble_eq_true rfl) (Nat.le_of_ble_eq_true rfl) (Nat.le_of_ble_eq_true rfl) hb60 g64 z8 M65 (fun E _ ⟨c, _⟩ => nomatch c) (fun v _ ⟨c, e⟩ => ?_)
  cases c
  rw [e]
  show mm_W l G k_F_takeFrom 75 [(0, .ref r0), (1, .ref r1), (2, .int x2)] [.long y_62, .ref r0] b_59 m_61 Q
  refine mm_l2i d_F_takeFrom_75 ?_
  refine mm_putf cc_F 5 (by decide) w_146 d_F_takeFrom_76 rfl (fun _ => rfl) (fun _ => rfl) g67 z12 l68 ?_
  refine mm_aload_n 0 (i := 0) d_F_takeFrom_79 rfl rfl ?_
  refine mm_aload_n 1 (i := 1) d_F_takeFrom_80 rfl rfl ?_
  refine mm_iload_n 2 (i := 2) d_F_takeFrom_81 rfl rfl ?_
  refine mm_bipush d_F_takeFrom_82 (v := 24) (by decide) ?_
  refine mm_iadd d_F_takeFrom_84 ?_
  refine mm_iconst d_F_takeFrom_85 (v := 2) (by decide) ?_
  refine mm_callV (as := [.int (x2 + 24), .int 2]) (st := [.ref r0]) (b2 := b_70) ca_B_number w_665 w_643 w_644 cc_B.1 rfl d_F_takeFrom_86 rfl (Nat.le_of_ble_eq_true rfl) (Nat.le_of_ble_eq_true rfl) (Nat.le_of_ble_eq_true rfl) hb71 g75 z8 M76 (fun E _ ⟨c, _⟩ => nomatch c) (fun v _ ⟨c, e⟩ => ?_)
  cases c
  rw [e]
  show mm_W l G k_F_takeFrom 89 [(0, .ref r0), (1, .ref r1), (2, .int x2)] [.long y_73, .ref r0] b_70 m_72 Q
  refine mm_l2i d_F_takeFrom_89 ?_
  refine mm_putf cc_F 6 (by decide) w_149 d_F_takeFrom_90 rfl (fun _ => rfl) (fun _ => rfl) g78 z12 l79 ?_
  exact mm_vret d_F_takeFrom_93 rfl h80
theorem t_F_hasTail_0 {l : Launch} {G : mm_G} {b : Nat} {m : mm_Mem} {Q : mm_O → mm_Mem → Prop} {r0 : Nat} {fs_1 : List Value} {u_4 : Int32} (g2 : m r0 = .inr (5, fs_1)) (z3 : r0 ≠ 0) (v5 : fs_1[0]? = some (.int u_4)) (h6 : ((u_4 &&& 8) = 0) → mm_W l G k_F_hasTail 14 [] [] b m Q) (h7 : (¬ (u_4 &&& 8) = 0) → mm_W l G k_F_hasTail 10 [] [] b m Q) : mm_W l G k_F_hasTail 0 [(0, .ref r0)] [] b m Q := by
  refine mm_aload_n 0 (i := 0) d_F_hasTail_0 rfl rfl ?_
  refine mm_get cc_F 0 (by decide) w_135 d_F_hasTail_1 g2 z3 v5 ?_
  refine mm_bipush d_F_hasTail_4 (v := 8) (by decide) ?_
  refine mm_iand d_F_hasTail_6 ?_
  exact mm_if_eq (tgt := 14) d_F_hasTail_7 (by decide) (fun c => mm_sub [] rfl (h6 c)) (fun c => mm_sub [] rfl (h7 c))
theorem t_F_hasTail_10 {l : Launch} {G : mm_G} {b : Nat} {m : mm_Mem} {Q : mm_O → mm_Mem → Prop}  (h1 : mm_W l G k_F_hasTail 15 [] [.int 1] b m Q) : mm_W l G k_F_hasTail 10 [] [] b m Q := by
  refine mm_iconst d_F_hasTail_10 (v := 1) (by decide) ?_
  refine mm_goto (tgt := 15) d_F_hasTail_11 (by decide) ?_
  exact mm_sub [] rfl h1
theorem t_F_hasTail_14 {l : Launch} {G : mm_G} {b : Nat} {m : mm_Mem} {Q : mm_O → mm_Mem → Prop}  (h1 : mm_W l G k_F_hasTail 15 [] [.int 0] b m Q) : mm_W l G k_F_hasTail 14 [] [] b m Q := by
  refine mm_iconst d_F_hasTail_14 (v := 0) (by decide) ?_
  exact mm_sub [] rfl h1
theorem t_F_hasTail_15 {l : Launch} {G : mm_G} {b : Nat} {m : mm_Mem} {Q : mm_O → mm_Mem → Prop} {xs0 : Int32} (h1 : Q (.inl (some (.int xs0))) m) (hn2 : narrow .boolean (.int xs0) = .int xs0) : mm_W l G k_F_hasTail 15 [] [.int xs0] b m Q := by
  exact mm_zret d_F_hasTail_15 rfl hn2 h1
theorem t_G_init_0 {l : Launch} {G : mm_G} {b : Nat} {m : mm_Mem} {Q : mm_O → mm_Mem → Prop} {r0 : Nat} {b_1 : Nat} {b_3 : Nat} {b_4 : Nat} {m_6 : mm_Mem} {fs_8 : List Value} (hb2 : 7 + 1 + b_1 ≤ b) (hb5 : b_3 + b_4 ≤ b_1) (M7 : mm_W l G k_F_init 0 (lv_args 0 [.ref (mm_n m + 1)]) [] b_3 (mm_push m (.inr (5, [.int 0, .int 0, .long 0, .long 0, .long 0, .int 0, .int 0]))) (mm_is (.inl none) m_6)) (g9 : m_6 r0 = .inr (6, fs_8)) (z10 : r0 ≠ 0) (l11 : 0 < fs_8.length) (h12 : Q (.inl none) (va_up m_6 r0 (.inr (6, fs_8.set 0 (.ref (mm_n m + 1)))))) : mm_W l G k_G_init 0 [(0, .ref r0)] [] b m Q := by
  refine mm_aload_n 0 (i := 0) d_G_init_0 rfl rfl ?_
  refine mm_objInit w_128 w_25 w_26 d_G_init_1 (Nat.le_of_ble_eq_true rfl) (Nat.le_of_ble_eq_true rfl) ?_
  refine mm_aload_n 0 (i := 0) d_G_init_4 rfl rfl ?_
  refine mm_new (fs := [.int 0, .int 0, .long 0, .long 0, .long 0, .int 0, .int 0]) cc_F w_129 w_130 w_9 df_F dz_F (fun _ => rfl) d_G_init_5 hb2 ?_
  refine mm_dup d_G_init_8 rfl ?_
  refine mm_callIN (as := []) (st := [.ref (mm_n m + 1), .ref r0]) (b2 := b_4) ca_F_init rfl rfl rfl nw_131 w_132 d_G_init_9 rfl (Nat.le_of_ble_eq_true rfl) (Nat.le_of_ble_eq_true rfl) (Nat.le_of_ble_eq_true rfl) hb5 M7 (fun E _ ⟨c, _⟩ => nomatch c) (fun v _ ⟨c, e⟩ => ?_)
  cases c
  rw [e]
  show mm_W l G k_G_init 12 [(0, .ref r0)] [.ref (mm_n m + 1), .ref r0] b_4 m_6 Q
  refine mm_putF cc_G 0 (by decide) w_166 d_G_init_12 rfl rfl rfl (fun _ => rfl) (fun _ => rfl) g9 z10 l11 ?_
  exact mm_vret d_G_init_15 rfl h12
theorem t_G_takeFrom_0 {l : Launch} {G : mm_G} {b : Nat} {m : mm_Mem} {Q : mm_O → mm_Mem → Prop} {r0 : Nat} {r1 : Nat} {x2 : Int32} {fs_1 : List Value} {q_4 : Nat} {b_6 : Nat} {b_7 : Nat} {m_9 : mm_Mem} {fs_10 : List Value} {b_14 : Nat} {b_15 : Nat} {m_17 : mm_Mem} {y_18 : Int64} {fs_19 : List Value} {b_23 : Nat} {b_24 : Nat} {m_26 : mm_Mem} {y_27 : Int64} {fs_28 : List Value} {fs_31 : List Value} {fs_34 : List Value} {fs_37 : List Value} {u_39 : Int32} {q_41 : Nat} {fs_43 : List Value} {u_46 : Int32} {u_48 : Int32} {m_51 : mm_Mem} (g2 : m r0 = .inr (6, fs_1)) (z3 : r0 ≠ 0) (v5 : fs_1[0]? = some (.ref q_4)) (hb8 : b_6 + b_7 ≤ b) (g11 : m q_4 = .inr (5, fs_10)) (z12 : q_4 ≠ 0) (M13 : mm_W l G k_F_takeFrom 0 (lv_args 0 [.ref q_4, .ref r1, .int (x2 + 6)]) [] b_6 m (mm_is (.inl none) m_9)) (hb16 : b_14 + b_15 ≤ b_7) (g20 : m_9 r1 = .inr (2, fs_19)) (z21 : r1 ≠ 0) (M22 : mm_W l G k_B_number 0 (lv_args 0 [.ref r1, .int (x2 + 32), .int 2]) [] b_14 m_9 (mm_is (.inl (some (.long y_18))) m_17)) (hb25 : b_23 + b_24 ≤ b_15) (g29 : m_17 r1 = .inr (2, fs_28)) (M30 : mm_W l G k_B_number 0 (lv_args 0 [.ref r1, .int (x2 + 42), .int 4]) [] b_23 m_17 (mm_is (.inl (some (.long y_27))) m_26)) (g32 : m_26 r0 = .inr (6, fs_31)) (l33 : 3 < fs_31.length) (g35 : (va_up m_26 r0 (.inr (6, fs_31.set 3 (.long y_27)))) r0 = .inr (6, fs_34)) (l36 : 1 < fs_34.length) (g38 : (va_up (va_up m_26 r0 (.inr (6, fs_31.set 3 (.long y_27)))) r0 (.inr (6, fs_34.set 1 (.int (x2 + 46))))) r0 = .inr (6, fs_37)) (v40 : fs_37[1]? = some (.int u_39)) (v42 : fs_37[0]? = some (.ref q_41)) (g44 : (va_up (va_up m_26 r0 (.inr (6, fs_31.set 3 (.long y_27)))) r0 (.inr (6, fs_34.set 1 (.int (x2 + 46))))) q_41 = .inr (5, fs_43)) (z45 : q_41 ≠ 0) (v47 : fs_43[5]? = some (.int u_46)) (v49 : fs_43[6]? = some (.int u_48)) (l50 : 2 < fs_37.length) (q52 : m_51 = va_up (va_up (va_up m_26 r0 (.inr (6, fs_31.set 3 (.long y_27)))) r0 (.inr (6, fs_34.set 1 (.int (x2 + 46))))) r0 (.inr (6, fs_37.set 2 (.int (((u_39 + u_46) + u_48) + y_18.toInt32))))) (h53 : Q (.inl none) m_51) : mm_W l G k_G_takeFrom 0 [(0, .ref r0), (1, .ref r1), (2, .int x2)] [] b m Q := by
  refine mm_aload_n 0 (i := 0) d_G_takeFrom_0 rfl rfl ?_
  refine mm_get cc_G 0 (by decide) w_166 d_G_takeFrom_1 g2 z3 v5 ?_
  refine mm_aload_n 1 (i := 1) d_G_takeFrom_4 rfl rfl ?_
  refine mm_iload_n 2 (i := 2) d_G_takeFrom_5 rfl rfl ?_
  refine mm_bipush d_G_takeFrom_6 (v := 6) (by decide) ?_
  refine mm_iadd d_G_takeFrom_8 ?_
  refine mm_callV (as := [.ref r1, .int (x2 + 6)]) (st := []) (b2 := b_7) ca_F_takeFrom w_661 w_662 w_663 cc_F.1 rfl d_G_takeFrom_9 rfl (Nat.le_of_ble_eq_true rfl) (Nat.le_of_ble_eq_true rfl) (Nat.le_of_ble_eq_true rfl) hb8 g11 z12 M13 (fun E _ ⟨c, _⟩ => nomatch c) (fun v _ ⟨c, e⟩ => ?_)
  cases c
  rw [e]
  show mm_W l G k_G_takeFrom 12 [(0, .ref r0), (1, .ref r1), (2, .int x2)] [] b_7 m_9 Q
  refine mm_aload_n 1 (i := 1) d_G_takeFrom_12 rfl rfl ?_
  refine mm_iload_n 2 (i := 2) d_G_takeFrom_13 rfl rfl ?_
  refine mm_bipush d_G_takeFrom_14 (v := 32) (by decide) ?_
  refine mm_iadd d_G_takeFrom_16 ?_
  refine mm_iconst d_G_takeFrom_17 (v := 2) (by decide) ?_
  refine mm_callV (as := [.int (x2 + 32), .int 2]) (st := []) (b2 := b_15) ca_B_number w_666 w_643 w_644 cc_B.1 rfl d_G_takeFrom_18 rfl (Nat.le_of_ble_eq_true rfl) (Nat.le_of_ble_eq_true rfl) (Nat.le_of_ble_eq_true rfl) hb16 g20 z21 M22 (fun E _ ⟨c, _⟩ => nomatch c) (fun v _ ⟨c, e⟩ => ?_)
  cases c
  rw [e]
  show mm_W l G k_G_takeFrom 21 [(0, .ref r0), (1, .ref r1), (2, .int x2)] [.long y_18] b_15 m_17 Q
  refine mm_l2i d_G_takeFrom_21 ?_
  refine mm_istore_n (i := 3) d_G_takeFrom_22 rfl (Nat.le_of_ble_eq_true rfl) (lv2 := [(3, .int y_18.toInt32), (0, .ref r0), (1, .ref r1), (2, .int x2)]) rfl ?_
  refine mm_aload_n 1 (i := 0) d_G_takeFrom_23 rfl rfl ?_
  refine mm_aload_n 2 (i := 1) d_G_takeFrom_24 rfl rfl ?_
  refine mm_iload_n 3 (i := 2) d_G_takeFrom_25 rfl rfl ?_
  refine mm_bipush d_G_takeFrom_26 (v := 42) (by decide) ?_
  refine mm_iadd d_G_takeFrom_28 ?_
  refine mm_iconst d_G_takeFrom_29 (v := 4) (by decide) ?_
  refine mm_callV (as := [.int (x2 + 42), .int 4]) (st := [.ref r0]) (b2 := b_24) ca_B_number w_666 w_643 w_644 cc_B.1 rfl d_G_takeFrom_30 rfl (Nat.le_of_ble_eq_true rfl) (Nat.le_of_ble_eq_true rfl) (Nat.le_of_ble_eq_true rfl) hb25 g29 z21 M30 (fun E _ ⟨c, _⟩ => nomatch c) (fun v _ ⟨c, e⟩ => ?_)
  cases c
  rw [e]
  show mm_W l G k_G_takeFrom 33 [(3, .int y_18.toInt32), (0, .ref r0), (1, .ref r1), (2, .int x2)] [.long y_27, .ref r0] b_24 m_26 Q
  refine mm_putf cc_G 3 (by decide) w_172 d_G_takeFrom_33 rfl (fun _ => rfl) (fun _ => rfl) g32 z3 l33 ?_
  refine mm_aload_n 1 (i := 0) d_G_takeFrom_36 rfl rfl ?_
  refine mm_iload_n 3 (i := 2) d_G_takeFrom_37 rfl rfl ?_
  refine mm_bipush d_G_takeFrom_38 (v := 46) (by decide) ?_
  refine mm_iadd d_G_takeFrom_40 ?_
  refine mm_putf cc_G 1 (by decide) w_168 d_G_takeFrom_41 rfl (fun _ => rfl) (fun _ => rfl) g35 z3 l36 ?_
  refine mm_aload_n 1 (i := 0) d_G_takeFrom_44 rfl rfl ?_
  refine mm_aload_n 1 (i := 0) d_G_takeFrom_45 rfl rfl ?_
  refine mm_get cc_G 1 (by decide) w_168 d_G_takeFrom_46 g38 z3 v40 ?_
  refine mm_aload_n 1 (i := 0) d_G_takeFrom_49 rfl rfl ?_
  refine mm_get cc_G 0 (by decide) w_166 d_G_takeFrom_50 g38 z3 v42 ?_
  refine mm_getN cc_F 5 (by decide) nw_145 d_G_takeFrom_53 g44 z45 v47 ?_
  refine mm_iadd d_G_takeFrom_56 ?_
  refine mm_aload_n 1 (i := 0) d_G_takeFrom_57 rfl rfl ?_
  refine mm_get cc_G 0 (by decide) w_166 d_G_takeFrom_58 g38 z3 v42 ?_
  refine mm_getN cc_F 6 (by decide) nw_148 d_G_takeFrom_61 g44 z45 v49 ?_
  refine mm_iadd d_G_takeFrom_64 ?_
  refine mm_iload_n 0 (i := 3) d_G_takeFrom_65 rfl rfl ?_
  refine mm_iadd d_G_takeFrom_66 ?_
  refine mm_putf cc_G 2 (by decide) w_170 d_G_takeFrom_67 rfl (fun _ => rfl) (fun _ => rfl) g38 z3 l50 ?_
  refine mm_eqm q52 ?_
  exact mm_vret d_G_takeFrom_70 rfl h53
