theorem d_R_init_0 : decode prog_9_method_1_code 0 = .ok (.aload_n 0, 1) := by decide +kernel
theorem d_R_init_1 : decode prog_9_method_1_code 1 = .ok (.invokespecial 3, 3) := by decide +kernel
theorem d_R_init_4 : decode prog_9_method_1_code 4 = .ok (.aload_n 0, 1) := by decide +kernel
theorem d_R_init_5 : decode prog_9_method_1_code 5 = .ok (.aload_n 1, 1) := by decide +kernel
theorem d_R_init_6 : decode prog_9_method_1_code 6 = .ok (.putfield 9, 3) := by decide +kernel
theorem d_R_init_9 : decode prog_9_method_1_code 9 = .ok (.aload_n 0, 1) := by decide +kernel
theorem d_R_init_10 : decode prog_9_method_1_code 10 = .ok (.aload_n 2, 1) := by decide +kernel
theorem d_R_init_11 : decode prog_9_method_1_code 11 = .ok (.putfield 15, 3) := by decide +kernel
theorem d_R_init_14 : decode prog_9_method_1_code 14 = .ok (.aload_n 0, 1) := by decide +kernel
theorem d_R_init_15 : decode prog_9_method_1_code 15 = .ok (.bipush 64, 2) := by decide +kernel
theorem d_R_init_17 : decode prog_9_method_1_code 17 = .ok (.anewarray 19, 3) := by decide +kernel
theorem d_R_init_20 : decode prog_9_method_1_code 20 = .ok (.putfield 21, 3) := by decide +kernel
theorem d_R_init_23 : decode prog_9_method_1_code 23 = .ok (.iconst 0, 1) := by decide +kernel
theorem d_R_init_24 : decode prog_9_method_1_code 24 = .ok (.istore_n 3, 1) := by decide +kernel
theorem d_R_init_25 : decode prog_9_method_1_code 25 = .ok (.iload_n 3, 1) := by decide +kernel
theorem d_R_init_26 : decode prog_9_method_1_code 26 = .ok (.bipush 64, 2) := by decide +kernel
theorem d_R_init_28 : decode prog_9_method_1_code 28 = .ok (.if_icmp .ge 22, 3) := by decide +kernel
theorem d_R_init_31 : decode prog_9_method_1_code 31 = .ok (.aload_n 0, 1) := by decide +kernel
theorem d_R_init_32 : decode prog_9_method_1_code 32 = .ok (.getfield 21, 3) := by decide +kernel
theorem d_R_init_35 : decode prog_9_method_1_code 35 = .ok (.iload_n 3, 1) := by decide +kernel
theorem d_R_init_36 : decode prog_9_method_1_code 36 = .ok (.new 19, 3) := by decide +kernel
theorem d_R_init_39 : decode prog_9_method_1_code 39 = .ok (.dup, 1) := by decide +kernel
theorem d_R_init_40 : decode prog_9_method_1_code 40 = .ok (.invokespecial 25, 3) := by decide +kernel
theorem d_R_init_43 : decode prog_9_method_1_code 43 = .ok (.aastore, 1) := by decide +kernel
theorem d_R_init_44 : decode prog_9_method_1_code 44 = .ok (.iinc 3 1, 3) := by decide +kernel
theorem d_R_init_47 : decode prog_9_method_1_code 47 = .ok (.goto (-22), 3) := by decide +kernel
theorem d_R_init_50 : decode prog_9_method_1_code 50 = .ok (.aload_n 0, 1) := by decide +kernel
theorem d_R_init_51 : decode prog_9_method_1_code 51 = .ok (.new 26, 3) := by decide +kernel
theorem d_R_init_54 : decode prog_9_method_1_code 54 = .ok (.dup, 1) := by decide +kernel
theorem d_R_init_55 : decode prog_9_method_1_code 55 = .ok (.invokespecial 28, 3) := by decide +kernel
theorem d_R_init_58 : decode prog_9_method_1_code 58 = .ok (.putfield 29, 3) := by decide +kernel
theorem d_R_init_61 : decode prog_9_method_1_code 61 = .ok (.aload_n 0, 1) := by decide +kernel
theorem d_R_init_62 : decode prog_9_method_1_code 62 = .ok (.bipush 64, 2) := by decide +kernel
theorem d_R_init_64 : decode prog_9_method_1_code 64 = .ok (.newarray .int, 2) := by decide +kernel
theorem d_R_init_66 : decode prog_9_method_1_code 66 = .ok (.putfield 33, 3) := by decide +kernel
theorem d_R_init_69 : decode prog_9_method_1_code 69 = .ok (.aload_n 0, 1) := by decide +kernel
theorem d_R_init_70 : decode prog_9_method_1_code 70 = .ok (.iconst 0, 1) := by decide +kernel
theorem d_R_init_71 : decode prog_9_method_1_code 71 = .ok (.putfield 37, 3) := by decide +kernel
theorem d_R_init_74 : decode prog_9_method_1_code 74 = .ok (.aload_n 0, 1) := by decide +kernel
theorem d_R_init_75 : decode prog_9_method_1_code 75 = .ok (.iconst (-1), 1) := by decide +kernel
theorem d_R_init_76 : decode prog_9_method_1_code 76 = .ok (.putfield 41, 3) := by decide +kernel
theorem d_R_init_79 : decode prog_9_method_1_code 79 = .ok (.aload_n 0, 1) := by decide +kernel
theorem d_R_init_80 : decode prog_9_method_1_code 80 = .ok (.iconst (-1), 1) := by decide +kernel
theorem d_R_init_81 : decode prog_9_method_1_code 81 = .ok (.putfield 44, 3) := by decide +kernel
theorem d_R_init_84 : decode prog_9_method_1_code 84 = .ok (.return_, 1) := by decide +kernel
theorem d_R_findsNoFault_0 : decode prog_9_method_2_code 0 = .ok (.aload_n 0, 1) := by decide +kernel
theorem d_R_findsNoFault_1 : decode prog_9_method_2_code 1 = .ok (.iconst 0, 1) := by decide +kernel
theorem d_R_findsNoFault_2 : decode prog_9_method_2_code 2 = .ok (.iconst (-1), 1) := by decide +kernel
theorem d_R_findsNoFault_3 : decode prog_9_method_2_code 3 = .ok (.iconst (-1), 1) := by decide +kernel
theorem d_R_findsNoFault_4 : decode prog_9_method_2_code 4 = .ok (.invokevirtual 47, 3) := by decide +kernel
theorem d_R_findsNoFault_7 : decode prog_9_method_2_code 7 = .ok (.pop, 1) := by decide +kernel
theorem d_R_findsNoFault_8 : decode prog_9_method_2_code 8 = .ok (.aload_n 0, 1) := by decide +kernel
theorem d_R_findsNoFault_9 : decode prog_9_method_2_code 9 = .ok (.invokevirtual 51, 3) := by decide +kernel
theorem d_R_findsNoFault_12 : decode prog_9_method_2_code 12 = .ok (.ifCond .eq 36, 3) := by decide +kernel
theorem d_R_findsNoFault_15 : decode prog_9_method_2_code 15 = .ok (.aload_n 0, 1) := by decide +kernel
theorem d_R_findsNoFault_16 : decode prog_9_method_2_code 16 = .ok (.iload_n 1, 1) := by decide +kernel
theorem d_R_findsNoFault_17 : decode prog_9_method_2_code 17 = .ok (.invokevirtual 55, 3) := by decide +kernel
theorem d_R_findsNoFault_20 : decode prog_9_method_2_code 20 = .ok (.ifCond .eq 28, 3) := by decide +kernel
theorem d_R_findsNoFault_23 : decode prog_9_method_2_code 23 = .ok (.aload_n 0, 1) := by decide +kernel
theorem d_R_findsNoFault_24 : decode prog_9_method_2_code 24 = .ok (.invokevirtual 59, 3) := by decide +kernel
theorem d_R_findsNoFault_27 : decode prog_9_method_2_code 27 = .ok (.ifCond .eq 21, 3) := by decide +kernel
theorem d_R_findsNoFault_30 : decode prog_9_method_2_code 30 = .ok (.aload_n 0, 1) := by decide +kernel
theorem d_R_findsNoFault_31 : decode prog_9_method_2_code 31 = .ok (.invokevirtual 62, 3) := by decide +kernel
theorem d_R_findsNoFault_34 : decode prog_9_method_2_code 34 = .ok (.ifCond .eq 14, 3) := by decide +kernel
theorem d_R_findsNoFault_37 : decode prog_9_method_2_code 37 = .ok (.aload_n 0, 1) := by decide +kernel
theorem d_R_findsNoFault_38 : decode prog_9_method_2_code 38 = .ok (.invokevirtual 65, 3) := by decide +kernel
theorem d_R_findsNoFault_41 : decode prog_9_method_2_code 41 = .ok (.ifCond .eq 7, 3) := by decide +kernel
theorem d_R_findsNoFault_44 : decode prog_9_method_2_code 44 = .ok (.iconst 1, 1) := by decide +kernel
theorem d_R_findsNoFault_45 : decode prog_9_method_2_code 45 = .ok (.goto 4, 3) := by decide +kernel
theorem d_R_findsNoFault_48 : decode prog_9_method_2_code 48 = .ok (.iconst 0, 1) := by decide +kernel
theorem d_R_findsNoFault_49 : decode prog_9_method_2_code 49 = .ok (.ireturn, 1) := by decide +kernel
theorem d_R_unpackInto_0 : decode prog_9_method_3_code 0 = .ok (.aload_n 1, 1) := by decide +kernel
theorem d_R_unpackInto_1 : decode prog_9_method_3_code 1 = .ok (.invokevirtual 68, 3) := by decide +kernel
theorem d_R_unpackInto_4 : decode prog_9_method_3_code 4 = .ok (.iconst 0, 1) := by decide +kernel
theorem d_R_unpackInto_5 : decode prog_9_method_3_code 5 = .ok (.istore_n 2, 1) := by decide +kernel
theorem d_R_unpackInto_6 : decode prog_9_method_3_code 6 = .ok (.iload_n 2, 1) := by decide +kernel
theorem d_R_unpackInto_7 : decode prog_9_method_3_code 7 = .ok (.aload_n 0, 1) := by decide +kernel
theorem d_R_unpackInto_8 : decode prog_9_method_3_code 8 = .ok (.getfield 73, 3) := by decide +kernel
theorem d_R_unpackInto_11 : decode prog_9_method_3_code 11 = .ok (.if_icmp .ge 90, 3) := by decide +kernel
theorem d_R_unpackInto_14 : decode prog_9_method_3_code 14 = .ok (.aload_n 0, 1) := by decide +kernel
theorem d_R_unpackInto_15 : decode prog_9_method_3_code 15 = .ok (.getfield 21, 3) := by decide +kernel
theorem d_R_unpackInto_18 : decode prog_9_method_3_code 18 = .ok (.iload_n 2, 1) := by decide +kernel
theorem d_R_unpackInto_19 : decode prog_9_method_3_code 19 = .ok (.aaload, 1) := by decide +kernel
theorem d_R_unpackInto_20 : decode prog_9_method_3_code 20 = .ok (.astore_n 3, 1) := by decide +kernel
theorem d_R_unpackInto_21 : decode prog_9_method_3_code 21 = .ok (.aload_n 3, 1) := by decide +kernel
theorem d_R_unpackInto_22 : decode prog_9_method_3_code 22 = .ok (.getfield 76, 3) := by decide +kernel
theorem d_R_unpackInto_25 : decode prog_9_method_3_code 25 = .ok (.astore 4, 2) := by decide +kernel
theorem d_R_unpackInto_27 : decode prog_9_method_3_code 27 = .ok (.aload_n 1, 1) := by decide +kernel
theorem d_R_unpackInto_28 : decode prog_9_method_3_code 28 = .ok (.aload_n 0, 1) := by decide +kernel
theorem d_R_unpackInto_29 : decode prog_9_method_3_code 29 = .ok (.getfield 9, 3) := by decide +kernel
theorem d_R_unpackInto_32 : decode prog_9_method_3_code 32 = .ok (.aload_n 3, 1) := by decide +kernel
theorem d_R_unpackInto_33 : decode prog_9_method_3_code 33 = .ok (.getfield 79, 3) := by decide +kernel
theorem d_R_unpackInto_36 : decode prog_9_method_3_code 36 = .ok (.aload 4, 2) := by decide +kernel
theorem d_R_unpackInto_38 : decode prog_9_method_3_code 38 = .ok (.getfield 82, 3) := by decide +kernel
theorem d_R_unpackInto_41 : decode prog_9_method_3_code 41 = .ok (.l2i, 1) := by decide +kernel
theorem d_R_unpackInto_42 : decode prog_9_method_3_code 42 = .ok (.invokevirtual 86, 3) := by decide +kernel
theorem d_R_unpackInto_45 : decode prog_9_method_3_code 45 = .ok (.astore 5, 2) := by decide +kernel
theorem d_R_unpackInto_47 : decode prog_9_method_3_code 47 = .ok (.aload 5, 2) := by decide +kernel
theorem d_R_unpackInto_49 : decode prog_9_method_3_code 49 = .ok (.ifnull 46, 3) := by decide +kernel
theorem d_R_unpackInto_52 : decode prog_9_method_3_code 52 = .ok (.aload 5, 2) := by decide +kernel
theorem d_R_unpackInto_54 : decode prog_9_method_3_code 54 = .ok (.getfield 90, 3) := by decide +kernel
theorem d_R_unpackInto_57 : decode prog_9_method_3_code 57 = .ok (.aload_n 0, 1) := by decide +kernel
theorem d_R_unpackInto_58 : decode prog_9_method_3_code 58 = .ok (.getfield 9, 3) := by decide +kernel
theorem d_R_unpackInto_61 : decode prog_9_method_3_code 61 = .ok (.aload_n 3, 1) := by decide +kernel
theorem d_R_unpackInto_62 : decode prog_9_method_3_code 62 = .ok (.getfield 95, 3) := by decide +kernel
theorem d_R_unpackInto_65 : decode prog_9_method_3_code 65 = .ok (.aload 4, 2) := by decide +kernel
theorem d_R_unpackInto_67 : decode prog_9_method_3_code 67 = .ok (.getfield 98, 3) := by decide +kernel
theorem d_R_unpackInto_70 : decode prog_9_method_3_code 70 = .ok (.invokevirtual 101, 3) := by decide +kernel
theorem d_R_unpackInto_73 : decode prog_9_method_3_code 73 = .ok (.aload 5, 2) := by decide +kernel
theorem d_R_unpackInto_75 : decode prog_9_method_3_code 75 = .ok (.aload 4, 2) := by decide +kernel
theorem d_R_unpackInto_77 : decode prog_9_method_3_code 77 = .ok (.getfield 107, 3) := by decide +kernel
theorem d_R_unpackInto_80 : decode prog_9_method_3_code 80 = .ok (.aload 4, 2) := by decide +kernel
theorem d_R_unpackInto_82 : decode prog_9_method_3_code 82 = .ok (.getfield 110, 3) := by decide +kernel
theorem d_R_unpackInto_85 : decode prog_9_method_3_code 85 = .ok (.l2i, 1) := by decide +kernel
theorem d_R_unpackInto_86 : decode prog_9_method_3_code 86 = .ok (.aload 4, 2) := by decide +kernel
theorem d_R_unpackInto_88 : decode prog_9_method_3_code 88 = .ok (.getfield 113, 3) := by decide +kernel
theorem d_R_unpackInto_91 : decode prog_9_method_3_code 91 = .ok (.l2i, 1) := by decide +kernel
theorem d_R_unpackInto_92 : decode prog_9_method_3_code 92 = .ok (.invokevirtual 116, 3) := by decide +kernel
theorem d_R_unpackInto_95 : decode prog_9_method_3_code 95 = .ok (.iinc 2 1, 3) := by decide +kernel
theorem d_R_unpackInto_98 : decode prog_9_method_3_code 98 = .ok (.goto (-92), 3) := by decide +kernel
theorem d_R_unpackInto_101 : decode prog_9_method_3_code 101 = .ok (.return_, 1) := by decide +kernel
theorem d_R_note_0 : decode prog_9_method_4_code 0 = .ok (.aload_n 0, 1) := by decide +kernel
theorem d_R_note_1 : decode prog_9_method_4_code 1 = .ok (.iload_n 1, 1) := by decide +kernel
theorem d_R_note_2 : decode prog_9_method_4_code 2 = .ok (.putfield 37, 3) := by decide +kernel
theorem d_R_note_5 : decode prog_9_method_4_code 5 = .ok (.aload_n 0, 1) := by decide +kernel
theorem d_R_note_6 : decode prog_9_method_4_code 6 = .ok (.iload_n 2, 1) := by decide +kernel
theorem d_R_note_7 : decode prog_9_method_4_code 7 = .ok (.putfield 41, 3) := by decide +kernel
theorem d_R_note_10 : decode prog_9_method_4_code 10 = .ok (.aload_n 0, 1) := by decide +kernel
theorem d_R_note_11 : decode prog_9_method_4_code 11 = .ok (.iload_n 3, 1) := by decide +kernel
theorem d_R_note_12 : decode prog_9_method_4_code 12 = .ok (.putfield 44, 3) := by decide +kernel
theorem d_R_note_15 : decode prog_9_method_4_code 15 = .ok (.iconst 0, 1) := by decide +kernel
theorem d_R_note_16 : decode prog_9_method_4_code 16 = .ok (.ireturn, 1) := by decide +kernel
theorem d_R_examineEnd_0 : decode prog_9_method_5_code 0 = .ok (.aload_n 0, 1) := by decide +kernel
theorem d_R_examineEnd_1 : decode prog_9_method_5_code 1 = .ok (.aload_n 0, 1) := by decide +kernel
theorem d_R_examineEnd_2 : decode prog_9_method_5_code 2 = .ok (.invokevirtual 120, 3) := by decide +kernel
theorem d_R_examineEnd_5 : decode prog_9_method_5_code 5 = .ok (.putfield 124, 3) := by decide +kernel
theorem d_R_examineEnd_8 : decode prog_9_method_5_code 8 = .ok (.aload_n 0, 1) := by decide +kernel
theorem d_R_examineEnd_9 : decode prog_9_method_5_code 9 = .ok (.getfield 124, 3) := by decide +kernel
theorem d_R_examineEnd_12 : decode prog_9_method_5_code 12 = .ok (.iconst (-1), 1) := by decide +kernel
theorem d_R_examineEnd_13 : decode prog_9_method_5_code 13 = .ok (.if_icmp .ne 17, 3) := by decide +kernel
theorem d_R_examineEnd_16 : decode prog_9_method_5_code 16 = .ok (.aload_n 0, 1) := by decide +kernel
theorem d_R_examineEnd_17 : decode prog_9_method_5_code 17 = .ok (.iconst 1, 1) := by decide +kernel
theorem d_R_examineEnd_18 : decode prog_9_method_5_code 18 = .ok (.aload_n 0, 1) := by decide +kernel
theorem d_R_examineEnd_19 : decode prog_9_method_5_code 19 = .ok (.getfield 9, 3) := by decide +kernel
theorem d_R_examineEnd_22 : decode prog_9_method_5_code 22 = .ok (.invokevirtual 127, 3) := by decide +kernel
theorem d_R_examineEnd_25 : decode prog_9_method_5_code 25 = .ok (.iconst (-1), 1) := by decide +kernel
theorem d_R_examineEnd_26 : decode prog_9_method_5_code 26 = .ok (.invokevirtual 47, 3) := by decide +kernel
theorem d_R_examineEnd_29 : decode prog_9_method_5_code 29 = .ok (.ireturn, 1) := by decide +kernel
theorem d_R_examineEnd_30 : decode prog_9_method_5_code 30 = .ok (.aload_n 0, 1) := by decide +kernel
theorem d_R_examineEnd_31 : decode prog_9_method_5_code 31 = .ok (.getfield 9, 3) := by decide +kernel
theorem d_R_examineEnd_34 : decode prog_9_method_5_code 34 = .ok (.aload_n 0, 1) := by decide +kernel
theorem d_R_examineEnd_35 : decode prog_9_method_5_code 35 = .ok (.getfield 124, 3) := by decide +kernel
theorem d_R_examineEnd_38 : decode prog_9_method_5_code 38 = .ok (.iconst 4, 1) := by decide +kernel
theorem d_R_examineEnd_39 : decode prog_9_method_5_code 39 = .ok (.iadd, 1) := by decide +kernel
theorem d_R_examineEnd_40 : decode prog_9_method_5_code 40 = .ok (.iconst 4, 1) := by decide +kernel
theorem d_R_examineEnd_41 : decode prog_9_method_5_code 41 = .ok (.invokevirtual 129, 3) := by decide +kernel
theorem d_R_examineEnd_44 : decode prog_9_method_5_code 44 = .ok (.lstore_n 1, 1) := by decide +kernel
theorem d_R_examineEnd_45 : decode prog_9_method_5_code 45 = .ok (.aload_n 0, 1) := by decide +kernel
theorem d_R_examineEnd_46 : decode prog_9_method_5_code 46 = .ok (.getfield 9, 3) := by decide +kernel
theorem d_R_examineEnd_49 : decode prog_9_method_5_code 49 = .ok (.aload_n 0, 1) := by decide +kernel
theorem d_R_examineEnd_50 : decode prog_9_method_5_code 50 = .ok (.getfield 124, 3) := by decide +kernel
theorem d_R_examineEnd_53 : decode prog_9_method_5_code 53 = .ok (.bipush 8, 2) := by decide +kernel
theorem d_R_examineEnd_55 : decode prog_9_method_5_code 55 = .ok (.iadd, 1) := by decide +kernel
theorem d_R_examineEnd_56 : decode prog_9_method_5_code 56 = .ok (.iconst 2, 1) := by decide +kernel
theorem d_R_examineEnd_57 : decode prog_9_method_5_code 57 = .ok (.invokevirtual 129, 3) := by decide +kernel
theorem d_R_examineEnd_60 : decode prog_9_method_5_code 60 = .ok (.lstore_n 3, 1) := by decide +kernel
theorem d_R_examineEnd_61 : decode prog_9_method_5_code 61 = .ok (.aload_n 0, 1) := by decide +kernel
theorem d_R_examineEnd_62 : decode prog_9_method_5_code 62 = .ok (.getfield 9, 3) := by decide +kernel
theorem d_R_examineEnd_65 : decode prog_9_method_5_code 65 = .ok (.aload_n 0, 1) := by decide +kernel
theorem d_R_examineEnd_66 : decode prog_9_method_5_code 66 = .ok (.getfield 124, 3) := by decide +kernel
theorem d_R_examineEnd_69 : decode prog_9_method_5_code 69 = .ok (.bipush 10, 2) := by decide +kernel
theorem d_R_examineEnd_71 : decode prog_9_method_5_code 71 = .ok (.iadd, 1) := by decide +kernel
theorem d_R_examineEnd_72 : decode prog_9_method_5_code 72 = .ok (.iconst 2, 1) := by decide +kernel
theorem d_R_examineEnd_73 : decode prog_9_method_5_code 73 = .ok (.invokevirtual 129, 3) := by decide +kernel
theorem d_R_examineEnd_76 : decode prog_9_method_5_code 76 = .ok (.lstore 5, 2) := by decide +kernel
theorem d_R_examineEnd_78 : decode prog_9_method_5_code 78 = .ok (.aload_n 0, 1) := by decide +kernel
theorem d_R_examineEnd_79 : decode prog_9_method_5_code 79 = .ok (.getfield 9, 3) := by decide +kernel
theorem d_R_examineEnd_82 : decode prog_9_method_5_code 82 = .ok (.aload_n 0, 1) := by decide +kernel
theorem d_R_examineEnd_83 : decode prog_9_method_5_code 83 = .ok (.getfield 124, 3) := by decide +kernel
theorem d_R_examineEnd_86 : decode prog_9_method_5_code 86 = .ok (.bipush 12, 2) := by decide +kernel
theorem d_R_examineEnd_88 : decode prog_9_method_5_code 88 = .ok (.iadd, 1) := by decide +kernel
theorem d_R_examineEnd_89 : decode prog_9_method_5_code 89 = .ok (.iconst 4, 1) := by decide +kernel
theorem d_R_examineEnd_90 : decode prog_9_method_5_code 90 = .ok (.invokevirtual 129, 3) := by decide +kernel
theorem d_R_examineEnd_93 : decode prog_9_method_5_code 93 = .ok (.lstore 7, 2) := by decide +kernel
theorem d_R_examineEnd_95 : decode prog_9_method_5_code 95 = .ok (.aload_n 0, 1) := by decide +kernel
theorem d_R_examineEnd_96 : decode prog_9_method_5_code 96 = .ok (.getfield 9, 3) := by decide +kernel
theorem d_R_examineEnd_99 : decode prog_9_method_5_code 99 = .ok (.aload_n 0, 1) := by decide +kernel
theorem d_R_examineEnd_100 : decode prog_9_method_5_code 100 = .ok (.getfield 124, 3) := by decide +kernel
theorem d_R_examineEnd_103 : decode prog_9_method_5_code 103 = .ok (.bipush 16, 2) := by decide +kernel
theorem d_R_examineEnd_105 : decode prog_9_method_5_code 105 = .ok (.iadd, 1) := by decide +kernel
theorem d_R_examineEnd_106 : decode prog_9_method_5_code 106 = .ok (.iconst 4, 1) := by decide +kernel
theorem d_R_examineEnd_107 : decode prog_9_method_5_code 107 = .ok (.invokevirtual 129, 3) := by decide +kernel
theorem d_R_examineEnd_110 : decode prog_9_method_5_code 110 = .ok (.lstore 9, 2) := by decide +kernel
theorem d_R_examineEnd_112 : decode prog_9_method_5_code 112 = .ok (.lload_n 1, 1) := by decide +kernel
theorem d_R_examineEnd_113 : decode prog_9_method_5_code 113 = .ok (.lconst 0, 1) := by decide +kernel
theorem d_R_examineEnd_114 : decode prog_9_method_5_code 114 = .ok (.lcmp, 1) := by decide +kernel
theorem d_R_examineEnd_115 : decode prog_9_method_5_code 115 = .ok (.ifCond .ne 33, 3) := by decide +kernel
theorem d_R_examineEnd_118 : decode prog_9_method_5_code 118 = .ok (.lload_n 3, 1) := by decide +kernel
theorem d_R_examineEnd_119 : decode prog_9_method_5_code 119 = .ok (.lload 5, 2) := by decide +kernel
theorem d_R_examineEnd_121 : decode prog_9_method_5_code 121 = .ok (.lcmp, 1) := by decide +kernel
theorem d_R_examineEnd_122 : decode prog_9_method_5_code 122 = .ok (.ifCond .ne 26, 3) := by decide +kernel
theorem d_R_examineEnd_125 : decode prog_9_method_5_code 125 = .ok (.lload 5, 2) := by decide +kernel
theorem d_R_examineEnd_127 : decode prog_9_method_5_code 127 = .ok (.ldc2_w 133, 3) := by decide +kernel
theorem d_R_examineEnd_130 : decode prog_9_method_5_code 130 = .ok (.lcmp, 1) := by decide +kernel
theorem d_R_examineEnd_131 : decode prog_9_method_5_code 131 = .ok (.ifCond .gt 17, 3) := by decide +kernel
theorem d_R_examineEnd_134 : decode prog_9_method_5_code 134 = .ok (.lload 9, 2) := by decide +kernel
theorem d_R_examineEnd_136 : decode prog_9_method_5_code 136 = .ok (.lload 7, 2) := by decide +kernel
theorem d_R_examineEnd_138 : decode prog_9_method_5_code 138 = .ok (.ladd, 1) := by decide +kernel
theorem d_R_examineEnd_139 : decode prog_9_method_5_code 139 = .ok (.aload_n 0, 1) := by decide +kernel
theorem d_R_examineEnd_140 : decode prog_9_method_5_code 140 = .ok (.getfield 124, 3) := by decide +kernel
theorem d_R_examineEnd_143 : decode prog_9_method_5_code 143 = .ok (.i2l, 1) := by decide +kernel
theorem d_R_examineEnd_144 : decode prog_9_method_5_code 144 = .ok (.lcmp, 1) := by decide +kernel
theorem d_R_examineEnd_145 : decode prog_9_method_5_code 145 = .ok (.ifCond .eq 14, 3) := by decide +kernel
theorem d_R_examineEnd_148 : decode prog_9_method_5_code 148 = .ok (.aload_n 0, 1) := by decide +kernel
theorem d_R_examineEnd_149 : decode prog_9_method_5_code 149 = .ok (.iconst 2, 1) := by decide +kernel
theorem d_R_examineEnd_150 : decode prog_9_method_5_code 150 = .ok (.aload_n 0, 1) := by decide +kernel
theorem d_R_examineEnd_151 : decode prog_9_method_5_code 151 = .ok (.getfield 124, 3) := by decide +kernel
theorem d_R_examineEnd_154 : decode prog_9_method_5_code 154 = .ok (.iconst (-1), 1) := by decide +kernel
theorem d_R_examineEnd_155 : decode prog_9_method_5_code 155 = .ok (.invokevirtual 47, 3) := by decide +kernel
theorem d_R_examineEnd_158 : decode prog_9_method_5_code 158 = .ok (.ireturn, 1) := by decide +kernel
theorem d_R_examineEnd_159 : decode prog_9_method_5_code 159 = .ok (.aload_n 0, 1) := by decide +kernel
theorem d_R_examineEnd_160 : decode prog_9_method_5_code 160 = .ok (.lload 5, 2) := by decide +kernel
theorem d_R_examineEnd_162 : decode prog_9_method_5_code 162 = .ok (.l2i, 1) := by decide +kernel
theorem d_R_examineEnd_163 : decode prog_9_method_5_code 163 = .ok (.putfield 73, 3) := by decide +kernel
theorem d_R_examineEnd_166 : decode prog_9_method_5_code 166 = .ok (.aload_n 0, 1) := by decide +kernel
theorem d_R_examineEnd_167 : decode prog_9_method_5_code 167 = .ok (.lload 9, 2) := by decide +kernel
theorem d_R_examineEnd_169 : decode prog_9_method_5_code 169 = .ok (.l2i, 1) := by decide +kernel
theorem d_R_examineEnd_170 : decode prog_9_method_5_code 170 = .ok (.putfield 135, 3) := by decide +kernel
theorem d_R_examineEnd_173 : decode prog_9_method_5_code 173 = .ok (.iconst 1, 1) := by decide +kernel
theorem d_R_examineEnd_174 : decode prog_9_method_5_code 174 = .ok (.ireturn, 1) := by decide +kernel
theorem d_R_lastEnd_0 : decode prog_9_method_6_code 0 = .ok (.aload_n 0, 1) := by decide +kernel
theorem d_R_lastEnd_1 : decode prog_9_method_6_code 1 = .ok (.getfield 9, 3) := by decide +kernel
theorem d_R_lastEnd_4 : decode prog_9_method_6_code 4 = .ok (.invokevirtual 127, 3) := by decide +kernel
theorem d_R_lastEnd_7 : decode prog_9_method_6_code 7 = .ok (.bipush 22, 2) := by decide +kernel
theorem d_R_lastEnd_9 : decode prog_9_method_6_code 9 = .ok (.isub, 1) := by decide +kernel
theorem d_R_lastEnd_10 : decode prog_9_method_6_code 10 = .ok (.istore_n 1, 1) := by decide +kernel
theorem d_R_lastEnd_11 : decode prog_9_method_6_code 11 = .ok (.iload_n 1, 1) := by decide +kernel
theorem d_R_lastEnd_12 : decode prog_9_method_6_code 12 = .ok (.ifCond .lt 54, 3) := by decide +kernel
theorem d_R_lastEnd_15 : decode prog_9_method_6_code 15 = .ok (.aload_n 0, 1) := by decide +kernel
theorem d_R_lastEnd_16 : decode prog_9_method_6_code 16 = .ok (.getfield 9, 3) := by decide +kernel
theorem d_R_lastEnd_19 : decode prog_9_method_6_code 19 = .ok (.iload_n 1, 1) := by decide +kernel
theorem d_R_lastEnd_20 : decode prog_9_method_6_code 20 = .ok (.ldc 138, 2) := by decide +kernel
theorem d_R_lastEnd_22 : decode prog_9_method_6_code 22 = .ok (.invokevirtual 139, 3) := by decide +kernel
theorem d_R_lastEnd_25 : decode prog_9_method_6_code 25 = .ok (.ifCond .eq 35, 3) := by decide +kernel
theorem d_R_lastEnd_28 : decode prog_9_method_6_code 28 = .ok (.iload_n 1, 1) := by decide +kernel
theorem d_R_lastEnd_29 : decode prog_9_method_6_code 29 = .ok (.bipush 22, 2) := by decide +kernel
theorem d_R_lastEnd_31 : decode prog_9_method_6_code 31 = .ok (.iadd, 1) := by decide +kernel
theorem d_R_lastEnd_32 : decode prog_9_method_6_code 32 = .ok (.i2l, 1) := by decide +kernel
theorem d_R_lastEnd_33 : decode prog_9_method_6_code 33 = .ok (.aload_n 0, 1) := by decide +kernel
theorem d_R_lastEnd_34 : decode prog_9_method_6_code 34 = .ok (.getfield 9, 3) := by decide +kernel
theorem d_R_lastEnd_37 : decode prog_9_method_6_code 37 = .ok (.iload_n 1, 1) := by decide +kernel
theorem d_R_lastEnd_38 : decode prog_9_method_6_code 38 = .ok (.bipush 20, 2) := by decide +kernel
theorem d_R_lastEnd_40 : decode prog_9_method_6_code 40 = .ok (.iadd, 1) := by decide +kernel
theorem d_R_lastEnd_41 : decode prog_9_method_6_code 41 = .ok (.iconst 2, 1) := by decide +kernel
theorem d_R_lastEnd_42 : decode prog_9_method_6_code 42 = .ok (.invokevirtual 129, 3) := by decide +kernel
theorem d_R_lastEnd_45 : decode prog_9_method_6_code 45 = .ok (.ladd, 1) := by decide +kernel
theorem d_R_lastEnd_46 : decode prog_9_method_6_code 46 = .ok (.aload_n 0, 1) := by decide +kernel
theorem d_R_lastEnd_47 : decode prog_9_method_6_code 47 = .ok (.getfield 9, 3) := by decide +kernel
theorem d_R_lastEnd_50 : decode prog_9_method_6_code 50 = .ok (.invokevirtual 127, 3) := by decide +kernel
theorem d_R_lastEnd_53 : decode prog_9_method_6_code 53 = .ok (.i2l, 1) := by decide +kernel
theorem d_R_lastEnd_54 : decode prog_9_method_6_code 54 = .ok (.lcmp, 1) := by decide +kernel
theorem d_R_lastEnd_55 : decode prog_9_method_6_code 55 = .ok (.ifCond .ne 5, 3) := by decide +kernel
theorem d_R_lastEnd_58 : decode prog_9_method_6_code 58 = .ok (.iload_n 1, 1) := by decide +kernel
theorem d_R_lastEnd_59 : decode prog_9_method_6_code 59 = .ok (.ireturn, 1) := by decide +kernel
theorem d_R_lastEnd_60 : decode prog_9_method_6_code 60 = .ok (.iinc 1 (-1), 3) := by decide +kernel
theorem d_R_lastEnd_63 : decode prog_9_method_6_code 63 = .ok (.goto (-52), 3) := by decide +kernel
theorem d_R_lastEnd_66 : decode prog_9_method_6_code 66 = .ok (.iconst (-1), 1) := by decide +kernel
theorem d_R_lastEnd_67 : decode prog_9_method_6_code 67 = .ok (.ireturn, 1) := by decide +kernel
theorem d_R_examineDirectory_0 : decode prog_9_method_7_code 0 = .ok (.aload_n 0, 1) := by decide +kernel
theorem d_R_examineDirectory_1 : decode prog_9_method_7_code 1 = .ok (.lconst 0, 1) := by decide +kernel
theorem d_R_examineDirectory_2 : decode prog_9_method_7_code 2 = .ok (.putfield 143, 3) := by decide +kernel
theorem d_R_examineDirectory_5 : decode prog_9_method_7_code 5 = .ok (.aload_n 0, 1) := by decide +kernel
theorem d_R_examineDirectory_6 : decode prog_9_method_7_code 6 = .ok (.lconst 0, 1) := by decide +kernel
theorem d_R_examineDirectory_7 : decode prog_9_method_7_code 7 = .ok (.putfield 146, 3) := by decide +kernel
theorem d_R_examineDirectory_10 : decode prog_9_method_7_code 10 = .ok (.aload_n 0, 1) := by decide +kernel
theorem d_R_examineDirectory_11 : decode prog_9_method_7_code 11 = .ok (.getfield 135, 3) := by decide +kernel
theorem d_R_examineDirectory_14 : decode prog_9_method_7_code 14 = .ok (.istore_n 2, 1) := by decide +kernel
theorem d_R_examineDirectory_15 : decode prog_9_method_7_code 15 = .ok (.iconst 0, 1) := by decide +kernel
theorem d_R_examineDirectory_16 : decode prog_9_method_7_code 16 = .ok (.istore_n 3, 1) := by decide +kernel
theorem d_R_examineDirectory_17 : decode prog_9_method_7_code 17 = .ok (.iload_n 3, 1) := by decide +kernel
theorem d_R_examineDirectory_18 : decode prog_9_method_7_code 18 = .ok (.aload_n 0, 1) := by decide +kernel
theorem d_R_examineDirectory_19 : decode prog_9_method_7_code 19 = .ok (.getfield 73, 3) := by decide +kernel
theorem d_R_examineDirectory_22 : decode prog_9_method_7_code 22 = .ok (.if_icmp .ge 42, 3) := by decide +kernel
theorem d_R_examineDirectory_25 : decode prog_9_method_7_code 25 = .ok (.aload_n 0, 1) := by decide +kernel
theorem d_R_examineDirectory_26 : decode prog_9_method_7_code 26 = .ok (.iload_n 3, 1) := by decide +kernel
theorem d_R_examineDirectory_27 : decode prog_9_method_7_code 27 = .ok (.iload_n 2, 1) := by decide +kernel
theorem d_R_examineDirectory_28 : decode prog_9_method_7_code 28 = .ok (.iload_n 1, 1) := by decide +kernel
theorem d_R_examineDirectory_29 : decode prog_9_method_7_code 29 = .ok (.invokevirtual 149, 3) := by decide +kernel
theorem d_R_examineDirectory_32 : decode prog_9_method_7_code 32 = .ok (.istore 4, 2) := by decide +kernel
theorem d_R_examineDirectory_34 : decode prog_9_method_7_code 34 = .ok (.iload 4, 2) := by decide +kernel
theorem d_R_examineDirectory_36 : decode prog_9_method_7_code 36 = .ok (.ifCond .eq 12, 3) := by decide +kernel
theorem d_R_examineDirectory_39 : decode prog_9_method_7_code 39 = .ok (.aload_n 0, 1) := by decide +kernel
theorem d_R_examineDirectory_40 : decode prog_9_method_7_code 40 = .ok (.iload 4, 2) := by decide +kernel
theorem d_R_examineDirectory_42 : decode prog_9_method_7_code 42 = .ok (.iload_n 2, 1) := by decide +kernel
theorem d_R_examineDirectory_43 : decode prog_9_method_7_code 43 = .ok (.iload_n 3, 1) := by decide +kernel
theorem d_R_examineDirectory_44 : decode prog_9_method_7_code 44 = .ok (.invokevirtual 47, 3) := by decide +kernel
theorem d_R_examineDirectory_47 : decode prog_9_method_7_code 47 = .ok (.ireturn, 1) := by decide +kernel
theorem d_R_examineDirectory_48 : decode prog_9_method_7_code 48 = .ok (.aload_n 0, 1) := by decide +kernel
theorem d_R_examineDirectory_49 : decode prog_9_method_7_code 49 = .ok (.getfield 21, 3) := by decide +kernel
theorem d_R_examineDirectory_52 : decode prog_9_method_7_code 52 = .ok (.iload_n 3, 1) := by decide +kernel
theorem d_R_examineDirectory_53 : decode prog_9_method_7_code 53 = .ok (.aaload, 1) := by decide +kernel
theorem d_R_examineDirectory_54 : decode prog_9_method_7_code 54 = .ok (.getfield 153, 3) := by decide +kernel
theorem d_R_examineDirectory_57 : decode prog_9_method_7_code 57 = .ok (.istore_n 2, 1) := by decide +kernel
theorem d_R_examineDirectory_58 : decode prog_9_method_7_code 58 = .ok (.iinc 3 1, 3) := by decide +kernel
theorem d_R_examineDirectory_61 : decode prog_9_method_7_code 61 = .ok (.goto (-44), 3) := by decide +kernel
theorem d_R_examineDirectory_64 : decode prog_9_method_7_code 64 = .ok (.iload_n 2, 1) := by decide +kernel
theorem d_R_examineDirectory_65 : decode prog_9_method_7_code 65 = .ok (.aload_n 0, 1) := by decide +kernel
theorem d_R_examineDirectory_66 : decode prog_9_method_7_code 66 = .ok (.getfield 124, 3) := by decide +kernel
theorem d_R_examineDirectory_69 : decode prog_9_method_7_code 69 = .ok (.if_icmp .eq 13, 3) := by decide +kernel
theorem d_R_examineDirectory_72 : decode prog_9_method_7_code 72 = .ok (.aload_n 0, 1) := by decide +kernel
theorem d_R_examineDirectory_73 : decode prog_9_method_7_code 73 = .ok (.iconst 3, 1) := by decide +kernel
theorem d_R_examineDirectory_74 : decode prog_9_method_7_code 74 = .ok (.iload_n 2, 1) := by decide +kernel
theorem d_R_examineDirectory_75 : decode prog_9_method_7_code 75 = .ok (.iconst (-1), 1) := by decide +kernel
theorem d_R_examineDirectory_76 : decode prog_9_method_7_code 76 = .ok (.invokevirtual 47, 3) := by decide +kernel
theorem d_R_examineDirectory_79 : decode prog_9_method_7_code 79 = .ok (.ifCond .eq 7, 3) := by decide +kernel
theorem d_R_examineDirectory_82 : decode prog_9_method_7_code 82 = .ok (.iconst 1, 1) := by decide +kernel
theorem d_R_examineDirectory_83 : decode prog_9_method_7_code 83 = .ok (.goto 4, 3) := by decide +kernel
theorem d_R_examineDirectory_86 : decode prog_9_method_7_code 86 = .ok (.iconst 0, 1) := by decide +kernel
theorem d_R_examineDirectory_87 : decode prog_9_method_7_code 87 = .ok (.ireturn, 1) := by decide +kernel
theorem d_R_directoryFault_0 : decode prog_9_method_8_code 0 = .ok (.iload_n 2, 1) := by decide +kernel
theorem d_R_directoryFault_1 : decode prog_9_method_8_code 1 = .ok (.aload_n 0, 1) := by decide +kernel
theorem d_R_directoryFault_2 : decode prog_9_method_8_code 2 = .ok (.getfield 124, 3) := by decide +kernel
theorem d_R_directoryFault_5 : decode prog_9_method_8_code 5 = .ok (.bipush 46, 2) := by decide +kernel
theorem d_R_directoryFault_7 : decode prog_9_method_8_code 7 = .ok (.isub, 1) := by decide +kernel
theorem d_R_directoryFault_8 : decode prog_9_method_8_code 8 = .ok (.if_icmp .gt 16, 3) := by decide +kernel
theorem d_R_directoryFault_11 : decode prog_9_method_8_code 11 = .ok (.aload_n 0, 1) := by decide +kernel
theorem d_R_directoryFault_12 : decode prog_9_method_8_code 12 = .ok (.getfield 9, 3) := by decide +kernel
theorem d_R_directoryFault_15 : decode prog_9_method_8_code 15 = .ok (.iload_n 2, 1) := by decide +kernel
theorem d_R_directoryFault_16 : decode prog_9_method_8_code 16 = .ok (.ldc 156, 2) := by decide +kernel
theorem d_R_directoryFault_18 : decode prog_9_method_8_code 18 = .ok (.invokevirtual 139, 3) := by decide +kernel
theorem d_R_directoryFault_21 : decode prog_9_method_8_code 21 = .ok (.ifCond .ne 5, 3) := by decide +kernel
theorem d_R_directoryFault_24 : decode prog_9_method_8_code 24 = .ok (.iconst 3, 1) := by decide +kernel
theorem d_R_directoryFault_25 : decode prog_9_method_8_code 25 = .ok (.ireturn, 1) := by decide +kernel
theorem d_R_directoryFault_26 : decode prog_9_method_8_code 26 = .ok (.aload_n 0, 1) := by decide +kernel
theorem d_R_directoryFault_27 : decode prog_9_method_8_code 27 = .ok (.getfield 21, 3) := by decide +kernel
theorem d_R_directoryFault_30 : decode prog_9_method_8_code 30 = .ok (.iload_n 1, 1) := by decide +kernel
theorem d_R_directoryFault_31 : decode prog_9_method_8_code 31 = .ok (.aaload, 1) := by decide +kernel
theorem d_R_directoryFault_32 : decode prog_9_method_8_code 32 = .ok (.astore 4, 2) := by decide +kernel
theorem d_R_directoryFault_34 : decode prog_9_method_8_code 34 = .ok (.aload 4, 2) := by decide +kernel
theorem d_R_directoryFault_36 : decode prog_9_method_8_code 36 = .ok (.aload_n 0, 1) := by decide +kernel
theorem d_R_directoryFault_37 : decode prog_9_method_8_code 37 = .ok (.getfield 9, 3) := by decide +kernel
theorem d_R_directoryFault_40 : decode prog_9_method_8_code 40 = .ok (.iload_n 2, 1) := by decide +kernel
theorem d_R_directoryFault_41 : decode prog_9_method_8_code 41 = .ok (.invokevirtual 157, 3) := by decide +kernel
theorem d_R_directoryFault_44 : decode prog_9_method_8_code 44 = .ok (.aload 4, 2) := by decide +kernel
theorem d_R_directoryFault_46 : decode prog_9_method_8_code 46 = .ok (.getfield 153, 3) := by decide +kernel
theorem d_R_directoryFault_49 : decode prog_9_method_8_code 49 = .ok (.aload_n 0, 1) := by decide +kernel
theorem d_R_directoryFault_50 : decode prog_9_method_8_code 50 = .ok (.getfield 124, 3) := by decide +kernel
theorem d_R_directoryFault_53 : decode prog_9_method_8_code 53 = .ok (.if_icmp .le 5, 3) := by decide +kernel
theorem d_R_directoryFault_56 : decode prog_9_method_8_code 56 = .ok (.iconst 3, 1) := by decide +kernel
theorem d_R_directoryFault_57 : decode prog_9_method_8_code 57 = .ok (.ireturn, 1) := by decide +kernel
theorem d_R_directoryFault_58 : decode prog_9_method_8_code 58 = .ok (.aload 4, 2) := by decide +kernel
theorem d_R_directoryFault_60 : decode prog_9_method_8_code 60 = .ok (.getfield 76, 3) := by decide +kernel
theorem d_R_directoryFault_63 : decode prog_9_method_8_code 63 = .ok (.astore 5, 2) := by decide +kernel
theorem d_R_directoryFault_65 : decode prog_9_method_8_code 65 = .ok (.aload 5, 2) := by decide +kernel
theorem d_R_directoryFault_67 : decode prog_9_method_8_code 67 = .ok (.getfield 107, 3) := by decide +kernel
theorem d_R_directoryFault_70 : decode prog_9_method_8_code 70 = .ok (.ifCond .eq 13, 3) := by decide +kernel
theorem d_R_directoryFault_73 : decode prog_9_method_8_code 73 = .ok (.aload 5, 2) := by decide +kernel
theorem d_R_directoryFault_75 : decode prog_9_method_8_code 75 = .ok (.getfield 107, 3) := by decide +kernel
theorem d_R_directoryFault_78 : decode prog_9_method_8_code 78 = .ok (.bipush 8, 2) := by decide +kernel
theorem d_R_directoryFault_80 : decode prog_9_method_8_code 80 = .ok (.if_icmp .ne 7, 3) := by decide +kernel
theorem d_R_directoryFault_83 : decode prog_9_method_8_code 83 = .ok (.iconst 1, 1) := by decide +kernel
theorem d_R_directoryFault_84 : decode prog_9_method_8_code 84 = .ok (.goto 4, 3) := by decide +kernel
theorem d_R_directoryFault_87 : decode prog_9_method_8_code 87 = .ok (.iconst 0, 1) := by decide +kernel
theorem d_R_directoryFault_88 : decode prog_9_method_8_code 88 = .ok (.istore 6, 2) := by decide +kernel
theorem d_R_directoryFault_90 : decode prog_9_method_8_code 90 = .ok (.aload 5, 2) := by decide +kernel
theorem d_R_directoryFault_92 : decode prog_9_method_8_code 92 = .ok (.getfield 161, 3) := by decide +kernel
theorem d_R_directoryFault_95 : decode prog_9_method_8_code 95 = .ok (.sipush (-2057), 3) := by decide +kernel
theorem d_R_directoryFault_98 : decode prog_9_method_8_code 98 = .ok (.iand, 1) := by decide +kernel
theorem d_R_directoryFault_99 : decode prog_9_method_8_code 99 = .ok (.ifCond .ne 25, 3) := by decide +kernel
theorem d_R_directoryFault_102 : decode prog_9_method_8_code 102 = .ok (.iload 6, 2) := by decide +kernel
theorem d_R_directoryFault_104 : decode prog_9_method_8_code 104 = .ok (.ifCond .eq 20, 3) := by decide +kernel
theorem d_R_directoryFault_107 : decode prog_9_method_8_code 107 = .ok (.aload_n 0, 1) := by decide +kernel
theorem d_R_directoryFault_108 : decode prog_9_method_8_code 108 = .ok (.getfield 9, 3) := by decide +kernel
theorem d_R_directoryFault_111 : decode prog_9_method_8_code 111 = .ok (.iload_n 2, 1) := by decide +kernel
theorem d_R_directoryFault_112 : decode prog_9_method_8_code 112 = .ok (.bipush 34, 2) := by decide +kernel
theorem d_R_directoryFault_114 : decode prog_9_method_8_code 114 = .ok (.iadd, 1) := by decide +kernel
theorem d_R_directoryFault_115 : decode prog_9_method_8_code 115 = .ok (.iconst 2, 1) := by decide +kernel
theorem d_R_directoryFault_116 : decode prog_9_method_8_code 116 = .ok (.invokevirtual 129, 3) := by decide +kernel
theorem d_R_directoryFault_119 : decode prog_9_method_8_code 119 = .ok (.lconst 0, 1) := by decide +kernel
theorem d_R_directoryFault_120 : decode prog_9_method_8_code 120 = .ok (.lcmp, 1) := by decide +kernel
theorem d_R_directoryFault_121 : decode prog_9_method_8_code 121 = .ok (.ifCond .eq 5, 3) := by decide +kernel
theorem d_R_directoryFault_124 : decode prog_9_method_8_code 124 = .ok (.iconst 4, 1) := by decide +kernel
theorem d_R_directoryFault_125 : decode prog_9_method_8_code 125 = .ok (.ireturn, 1) := by decide +kernel
theorem d_R_directoryFault_126 : decode prog_9_method_8_code 126 = .ok (.aload_n 0, 1) := by decide +kernel
theorem d_R_directoryFault_127 : decode prog_9_method_8_code 127 = .ok (.getfield 9, 3) := by decide +kernel
theorem d_R_directoryFault_130 : decode prog_9_method_8_code 130 = .ok (.aload 4, 2) := by decide +kernel
theorem d_R_directoryFault_132 : decode prog_9_method_8_code 132 = .ok (.getfield 95, 3) := by decide +kernel
theorem d_R_directoryFault_135 : decode prog_9_method_8_code 135 = .ok (.aload 5, 2) := by decide +kernel
theorem d_R_directoryFault_137 : decode prog_9_method_8_code 137 = .ok (.getfield 98, 3) := by decide +kernel
theorem d_R_directoryFault_140 : decode prog_9_method_8_code 140 = .ok (.invokestatic 164, 3) := by decide +kernel
theorem d_R_directoryFault_143 : decode prog_9_method_8_code 143 = .ok (.ifCond .eq 11, 3) := by decide +kernel
theorem d_R_directoryFault_146 : decode prog_9_method_8_code 146 = .ok (.aload_n 0, 1) := by decide +kernel
theorem d_R_directoryFault_147 : decode prog_9_method_8_code 147 = .ok (.iload_n 1, 1) := by decide +kernel
theorem d_R_directoryFault_148 : decode prog_9_method_8_code 148 = .ok (.invokevirtual 170, 3) := by decide +kernel
theorem d_R_directoryFault_151 : decode prog_9_method_8_code 151 = .ok (.ifCond .eq 5, 3) := by decide +kernel
theorem d_R_directoryFault_154 : decode prog_9_method_8_code 154 = .ok (.iconst 5, 1) := by decide +kernel
theorem d_R_directoryFault_155 : decode prog_9_method_8_code 155 = .ok (.ireturn, 1) := by decide +kernel
theorem d_R_directoryFault_156 : decode prog_9_method_8_code 156 = .ok (.aload 5, 2) := by decide +kernel
theorem d_R_directoryFault_158 : decode prog_9_method_8_code 158 = .ok (.getfield 107, 3) := by decide +kernel
theorem d_R_directoryFault_161 : decode prog_9_method_8_code 161 = .ok (.ifCond .ne 20, 3) := by decide +kernel
theorem d_R_directoryFault_164 : decode prog_9_method_8_code 164 = .ok (.aload 5, 2) := by decide +kernel
theorem d_R_directoryFault_166 : decode prog_9_method_8_code 166 = .ok (.getfield 82, 3) := by decide +kernel
theorem d_R_directoryFault_169 : decode prog_9_method_8_code 169 = .ok (.aload 5, 2) := by decide +kernel
theorem d_R_directoryFault_171 : decode prog_9_method_8_code 171 = .ok (.getfield 110, 3) := by decide +kernel
theorem d_R_directoryFault_174 : decode prog_9_method_8_code 174 = .ok (.lcmp, 1) := by decide +kernel
theorem d_R_directoryFault_175 : decode prog_9_method_8_code 175 = .ok (.ifCond .eq 6, 3) := by decide +kernel
theorem d_R_directoryFault_178 : decode prog_9_method_8_code 178 = .ok (.bipush 6, 2) := by decide +kernel
theorem d_R_directoryFault_180 : decode prog_9_method_8_code 180 = .ok (.ireturn, 1) := by decide +kernel
theorem d_R_directoryFault_181 : decode prog_9_method_8_code 181 = .ok (.aload_n 0, 1) := by decide +kernel
theorem d_R_directoryFault_182 : decode prog_9_method_8_code 182 = .ok (.dup, 1) := by decide +kernel
theorem d_R_directoryFault_183 : decode prog_9_method_8_code 183 = .ok (.getfield 143, 3) := by decide +kernel
theorem d_R_directoryFault_186 : decode prog_9_method_8_code 186 = .ok (.aload 5, 2) := by decide +kernel
theorem d_R_directoryFault_188 : decode prog_9_method_8_code 188 = .ok (.getfield 82, 3) := by decide +kernel
theorem d_R_directoryFault_191 : decode prog_9_method_8_code 191 = .ok (.ladd, 1) := by decide +kernel
theorem d_R_directoryFault_192 : decode prog_9_method_8_code 192 = .ok (.putfield 143, 3) := by decide +kernel
theorem d_R_directoryFault_195 : decode prog_9_method_8_code 195 = .ok (.aload_n 0, 1) := by decide +kernel
theorem d_R_directoryFault_196 : decode prog_9_method_8_code 196 = .ok (.dup, 1) := by decide +kernel
theorem d_R_directoryFault_197 : decode prog_9_method_8_code 197 = .ok (.getfield 146, 3) := by decide +kernel
theorem d_R_directoryFault_200 : decode prog_9_method_8_code 200 = .ok (.aload 5, 2) := by decide +kernel
theorem d_R_directoryFault_202 : decode prog_9_method_8_code 202 = .ok (.getfield 110, 3) := by decide +kernel
theorem d_R_directoryFault_205 : decode prog_9_method_8_code 205 = .ok (.ladd, 1) := by decide +kernel
theorem d_R_directoryFault_206 : decode prog_9_method_8_code 206 = .ok (.putfield 146, 3) := by decide +kernel
theorem d_R_directoryFault_209 : decode prog_9_method_8_code 209 = .ok (.aload_n 0, 1) := by decide +kernel
theorem d_R_directoryFault_210 : decode prog_9_method_8_code 210 = .ok (.getfield 143, 3) := by decide +kernel
theorem d_R_directoryFault_213 : decode prog_9_method_8_code 213 = .ok (.iload_n 3, 1) := by decide +kernel
theorem d_R_directoryFault_214 : decode prog_9_method_8_code 214 = .ok (.i2l, 1) := by decide +kernel
theorem d_R_directoryFault_215 : decode prog_9_method_8_code 215 = .ok (.lcmp, 1) := by decide +kernel
theorem d_R_directoryFault_216 : decode prog_9_method_8_code 216 = .ok (.ifCond .gt 13, 3) := by decide +kernel
theorem d_R_directoryFault_219 : decode prog_9_method_8_code 219 = .ok (.aload_n 0, 1) := by decide +kernel
theorem d_R_directoryFault_220 : decode prog_9_method_8_code 220 = .ok (.getfield 146, 3) := by decide +kernel
theorem d_R_directoryFault_223 : decode prog_9_method_8_code 223 = .ok (.iload_n 3, 1) := by decide +kernel
theorem d_R_directoryFault_224 : decode prog_9_method_8_code 224 = .ok (.i2l, 1) := by decide +kernel
theorem d_R_directoryFault_225 : decode prog_9_method_8_code 225 = .ok (.lcmp, 1) := by decide +kernel
theorem d_R_directoryFault_226 : decode prog_9_method_8_code 226 = .ok (.ifCond .le 8, 3) := by decide +kernel
theorem d_R_directoryFault_229 : decode prog_9_method_8_code 229 = .ok (.bipush 9, 2) := by decide +kernel
theorem d_R_directoryFault_231 : decode prog_9_method_8_code 231 = .ok (.goto 4, 3) := by decide +kernel
theorem d_R_directoryFault_234 : decode prog_9_method_8_code 234 = .ok (.iconst 0, 1) := by decide +kernel
theorem d_R_directoryFault_235 : decode prog_9_method_8_code 235 = .ok (.ireturn, 1) := by decide +kernel
theorem d_R_isNamedBefore_0 : decode prog_9_method_9_code 0 = .ok (.aload_n 0, 1) := by decide +kernel
theorem d_R_isNamedBefore_1 : decode prog_9_method_9_code 1 = .ok (.getfield 21, 3) := by decide +kernel
theorem d_R_isNamedBefore_4 : decode prog_9_method_9_code 4 = .ok (.iload_n 1, 1) := by decide +kernel
theorem d_R_isNamedBefore_5 : decode prog_9_method_9_code 5 = .ok (.aaload, 1) := by decide +kernel
theorem d_R_isNamedBefore_6 : decode prog_9_method_9_code 6 = .ok (.getfield 95, 3) := by decide +kernel
theorem d_R_isNamedBefore_9 : decode prog_9_method_9_code 9 = .ok (.istore_n 2, 1) := by decide +kernel
theorem d_R_isNamedBefore_10 : decode prog_9_method_9_code 10 = .ok (.aload_n 0, 1) := by decide +kernel
theorem d_R_isNamedBefore_11 : decode prog_9_method_9_code 11 = .ok (.getfield 21, 3) := by decide +kernel
theorem d_R_isNamedBefore_14 : decode prog_9_method_9_code 14 = .ok (.iload_n 1, 1) := by decide +kernel
theorem d_R_isNamedBefore_15 : decode prog_9_method_9_code 15 = .ok (.aaload, 1) := by decide +kernel
theorem d_R_isNamedBefore_16 : decode prog_9_method_9_code 16 = .ok (.getfield 76, 3) := by decide +kernel
theorem d_R_isNamedBefore_19 : decode prog_9_method_9_code 19 = .ok (.getfield 98, 3) := by decide +kernel
theorem d_R_isNamedBefore_22 : decode prog_9_method_9_code 22 = .ok (.istore_n 3, 1) := by decide +kernel
theorem d_R_isNamedBefore_23 : decode prog_9_method_9_code 23 = .ok (.iconst 0, 1) := by decide +kernel
theorem d_R_isNamedBefore_24 : decode prog_9_method_9_code 24 = .ok (.istore 4, 2) := by decide +kernel
theorem d_R_isNamedBefore_26 : decode prog_9_method_9_code 26 = .ok (.iload 4, 2) := by decide +kernel
theorem d_R_isNamedBefore_28 : decode prog_9_method_9_code 28 = .ok (.iload_n 1, 1) := by decide +kernel
theorem d_R_isNamedBefore_29 : decode prog_9_method_9_code 29 = .ok (.if_icmp .ge 54, 3) := by decide +kernel
theorem d_R_isNamedBefore_32 : decode prog_9_method_9_code 32 = .ok (.aload_n 0, 1) := by decide +kernel
theorem d_R_isNamedBefore_33 : decode prog_9_method_9_code 33 = .ok (.getfield 21, 3) := by decide +kernel
theorem d_R_isNamedBefore_36 : decode prog_9_method_9_code 36 = .ok (.iload 4, 2) := by decide +kernel
theorem d_R_isNamedBefore_38 : decode prog_9_method_9_code 38 = .ok (.aaload, 1) := by decide +kernel
theorem d_R_isNamedBefore_39 : decode prog_9_method_9_code 39 = .ok (.getfield 76, 3) := by decide +kernel
theorem d_R_isNamedBefore_42 : decode prog_9_method_9_code 42 = .ok (.getfield 98, 3) := by decide +kernel
theorem d_R_isNamedBefore_45 : decode prog_9_method_9_code 45 = .ok (.iload_n 3, 1) := by decide +kernel
theorem d_R_isNamedBefore_46 : decode prog_9_method_9_code 46 = .ok (.if_icmp .ne 31, 3) := by decide +kernel
theorem d_R_isNamedBefore_49 : decode prog_9_method_9_code 49 = .ok (.aload_n 0, 1) := by decide +kernel
theorem d_R_isNamedBefore_50 : decode prog_9_method_9_code 50 = .ok (.getfield 9, 3) := by decide +kernel
theorem d_R_isNamedBefore_53 : decode prog_9_method_9_code 53 = .ok (.aload_n 0, 1) := by decide +kernel
theorem d_R_isNamedBefore_54 : decode prog_9_method_9_code 54 = .ok (.getfield 21, 3) := by decide +kernel
theorem d_R_isNamedBefore_57 : decode prog_9_method_9_code 57 = .ok (.iload 4, 2) := by decide +kernel
theorem d_R_isNamedBefore_59 : decode prog_9_method_9_code 59 = .ok (.aaload, 1) := by decide +kernel
theorem d_R_isNamedBefore_60 : decode prog_9_method_9_code 60 = .ok (.getfield 95, 3) := by decide +kernel
theorem d_R_isNamedBefore_63 : decode prog_9_method_9_code 63 = .ok (.aload_n 0, 1) := by decide +kernel
theorem d_R_isNamedBefore_64 : decode prog_9_method_9_code 64 = .ok (.getfield 9, 3) := by decide +kernel
theorem d_R_isNamedBefore_67 : decode prog_9_method_9_code 67 = .ok (.iload_n 2, 1) := by decide +kernel
theorem d_R_isNamedBefore_68 : decode prog_9_method_9_code 68 = .ok (.iload_n 3, 1) := by decide +kernel
theorem d_R_isNamedBefore_69 : decode prog_9_method_9_code 69 = .ok (.invokestatic 173, 3) := by decide +kernel
theorem d_R_isNamedBefore_72 : decode prog_9_method_9_code 72 = .ok (.ifCond .eq 5, 3) := by decide +kernel
theorem d_R_isNamedBefore_75 : decode prog_9_method_9_code 75 = .ok (.iconst 1, 1) := by decide +kernel
theorem d_R_isNamedBefore_76 : decode prog_9_method_9_code 76 = .ok (.ireturn, 1) := by decide +kernel
theorem d_R_isNamedBefore_77 : decode prog_9_method_9_code 77 = .ok (.iinc 4 1, 3) := by decide +kernel
theorem d_R_isNamedBefore_80 : decode prog_9_method_9_code 80 = .ok (.goto (-54), 3) := by decide +kernel
theorem d_R_isNamedBefore_83 : decode prog_9_method_9_code 83 = .ok (.iconst 0, 1) := by decide +kernel
theorem d_R_isNamedBefore_84 : decode prog_9_method_9_code 84 = .ok (.ireturn, 1) := by decide +kernel
theorem d_R_examineEntries_0 : decode prog_9_method_10_code 0 = .ok (.iconst 0, 1) := by decide +kernel
theorem d_R_examineEntries_1 : decode prog_9_method_10_code 1 = .ok (.istore_n 1, 1) := by decide +kernel
theorem d_R_examineEntries_2 : decode prog_9_method_10_code 2 = .ok (.iload_n 1, 1) := by decide +kernel
theorem d_R_examineEntries_3 : decode prog_9_method_10_code 3 = .ok (.aload_n 0, 1) := by decide +kernel
theorem d_R_examineEntries_4 : decode prog_9_method_10_code 4 = .ok (.getfield 73, 3) := by decide +kernel
theorem d_R_examineEntries_7 : decode prog_9_method_10_code 7 = .ok (.if_icmp .ge 62, 3) := by decide +kernel
theorem d_R_examineEntries_10 : decode prog_9_method_10_code 10 = .ok (.aload_n 0, 1) := by decide +kernel
theorem d_R_examineEntries_11 : decode prog_9_method_10_code 11 = .ok (.getfield 21, 3) := by decide +kernel
theorem d_R_examineEntries_14 : decode prog_9_method_10_code 14 = .ok (.iload_n 1, 1) := by decide +kernel
theorem d_R_examineEntries_15 : decode prog_9_method_10_code 15 = .ok (.aaload, 1) := by decide +kernel
theorem d_R_examineEntries_16 : decode prog_9_method_10_code 16 = .ok (.astore_n 2, 1) := by decide +kernel
theorem d_R_examineEntries_17 : decode prog_9_method_10_code 17 = .ok (.aload_n 2, 1) := by decide +kernel
theorem d_R_examineEntries_18 : decode prog_9_method_10_code 18 = .ok (.getfield 177, 3) := by decide +kernel
theorem d_R_examineEntries_21 : decode prog_9_method_10_code 21 = .ok (.ldc2_w 180, 3) := by decide +kernel
theorem d_R_examineEntries_24 : decode prog_9_method_10_code 24 = .ok (.invokestatic 182, 3) := by decide +kernel
theorem d_R_examineEntries_27 : decode prog_9_method_10_code 27 = .ok (.l2i, 1) := by decide +kernel
theorem d_R_examineEntries_28 : decode prog_9_method_10_code 28 = .ok (.istore_n 3, 1) := by decide +kernel
theorem d_R_examineEntries_29 : decode prog_9_method_10_code 29 = .ok (.aload_n 0, 1) := by decide +kernel
theorem d_R_examineEntries_30 : decode prog_9_method_10_code 30 = .ok (.aload_n 2, 1) := by decide +kernel
theorem d_R_examineEntries_31 : decode prog_9_method_10_code 31 = .ok (.invokevirtual 188, 3) := by decide +kernel
theorem d_R_examineEntries_34 : decode prog_9_method_10_code 34 = .ok (.ifCond .ne 12, 3) := by decide +kernel
theorem d_R_examineEntries_37 : decode prog_9_method_10_code 37 = .ok (.aload_n 0, 1) := by decide +kernel
theorem d_R_examineEntries_38 : decode prog_9_method_10_code 38 = .ok (.bipush 7, 2) := by decide +kernel
theorem d_R_examineEntries_40 : decode prog_9_method_10_code 40 = .ok (.iload_n 3, 1) := by decide +kernel
theorem d_R_examineEntries_41 : decode prog_9_method_10_code 41 = .ok (.iload_n 1, 1) := by decide +kernel
theorem d_R_examineEntries_42 : decode prog_9_method_10_code 42 = .ok (.invokevirtual 47, 3) := by decide +kernel
theorem d_R_examineEntries_45 : decode prog_9_method_10_code 45 = .ok (.ireturn, 1) := by decide +kernel
theorem d_R_examineEntries_46 : decode prog_9_method_10_code 46 = .ok (.aload_n 0, 1) := by decide +kernel
theorem d_R_examineEntries_47 : decode prog_9_method_10_code 47 = .ok (.aload_n 2, 1) := by decide +kernel
theorem d_R_examineEntries_48 : decode prog_9_method_10_code 48 = .ok (.invokevirtual 192, 3) := by decide +kernel
theorem d_R_examineEntries_51 : decode prog_9_method_10_code 51 = .ok (.ifCond .ne 12, 3) := by decide +kernel
theorem d_R_examineEntries_54 : decode prog_9_method_10_code 54 = .ok (.aload_n 0, 1) := by decide +kernel
theorem d_R_examineEntries_55 : decode prog_9_method_10_code 55 = .ok (.bipush 8, 2) := by decide +kernel
theorem d_R_examineEntries_57 : decode prog_9_method_10_code 57 = .ok (.iload_n 3, 1) := by decide +kernel
theorem d_R_examineEntries_58 : decode prog_9_method_10_code 58 = .ok (.iload_n 1, 1) := by decide +kernel
theorem d_R_examineEntries_59 : decode prog_9_method_10_code 59 = .ok (.invokevirtual 47, 3) := by decide +kernel
theorem d_R_examineEntries_62 : decode prog_9_method_10_code 62 = .ok (.ireturn, 1) := by decide +kernel
theorem d_R_examineEntries_63 : decode prog_9_method_10_code 63 = .ok (.iinc 1 1, 3) := by decide +kernel
theorem d_R_examineEntries_66 : decode prog_9_method_10_code 66 = .ok (.goto (-64), 3) := by decide +kernel
theorem d_R_examineEntries_69 : decode prog_9_method_10_code 69 = .ok (.iconst 1, 1) := by decide +kernel
theorem d_R_examineEntries_70 : decode prog_9_method_10_code 70 = .ok (.ireturn, 1) := by decide +kernel
theorem d_R_isHeadSound_0 : decode prog_9_method_11_code 0 = .ok (.aload_n 1, 1) := by decide +kernel
theorem d_R_isHeadSound_1 : decode prog_9_method_11_code 1 = .ok (.getfield 177, 3) := by decide +kernel
theorem d_R_isHeadSound_4 : decode prog_9_method_11_code 4 = .ok (.aload_n 0, 1) := by decide +kernel
theorem d_R_isHeadSound_5 : decode prog_9_method_11_code 5 = .ok (.getfield 135, 3) := by decide +kernel
theorem d_R_isHeadSound_8 : decode prog_9_method_11_code 8 = .ok (.bipush 30, 2) := by decide +kernel
theorem d_R_isHeadSound_10 : decode prog_9_method_11_code 10 = .ok (.isub, 1) := by decide +kernel
theorem d_R_isHeadSound_11 : decode prog_9_method_11_code 11 = .ok (.i2l, 1) := by decide +kernel
theorem d_R_isHeadSound_12 : decode prog_9_method_11_code 12 = .ok (.lcmp, 1) := by decide +kernel
theorem d_R_isHeadSound_13 : decode prog_9_method_11_code 13 = .ok (.ifCond .le 5, 3) := by decide +kernel
theorem d_R_isHeadSound_16 : decode prog_9_method_11_code 16 = .ok (.iconst 0, 1) := by decide +kernel
theorem d_R_isHeadSound_17 : decode prog_9_method_11_code 17 = .ok (.ireturn, 1) := by decide +kernel
theorem d_R_isHeadSound_18 : decode prog_9_method_11_code 18 = .ok (.aload_n 1, 1) := by decide +kernel
theorem d_R_isHeadSound_19 : decode prog_9_method_11_code 19 = .ok (.getfield 177, 3) := by decide +kernel
theorem d_R_isHeadSound_22 : decode prog_9_method_11_code 22 = .ok (.l2i, 1) := by decide +kernel
theorem d_R_isHeadSound_23 : decode prog_9_method_11_code 23 = .ok (.istore_n 2, 1) := by decide +kernel
theorem d_R_isHeadSound_24 : decode prog_9_method_11_code 24 = .ok (.aload_n 1, 1) := by decide +kernel
theorem d_R_isHeadSound_25 : decode prog_9_method_11_code 25 = .ok (.getfield 76, 3) := by decide +kernel
theorem d_R_isHeadSound_28 : decode prog_9_method_11_code 28 = .ok (.astore_n 3, 1) := by decide +kernel
theorem d_R_isHeadSound_29 : decode prog_9_method_11_code 29 = .ok (.aload_n 0, 1) := by decide +kernel
theorem d_R_isHeadSound_30 : decode prog_9_method_11_code 30 = .ok (.getfield 29, 3) := by decide +kernel
theorem d_R_isHeadSound_33 : decode prog_9_method_11_code 33 = .ok (.aload_n 0, 1) := by decide +kernel
theorem d_R_isHeadSound_34 : decode prog_9_method_11_code 34 = .ok (.getfield 9, 3) := by decide +kernel
theorem d_R_isHeadSound_37 : decode prog_9_method_11_code 37 = .ok (.iload_n 2, 1) := by decide +kernel
theorem d_R_isHeadSound_38 : decode prog_9_method_11_code 38 = .ok (.iconst 4, 1) := by decide +kernel
theorem d_R_isHeadSound_39 : decode prog_9_method_11_code 39 = .ok (.iadd, 1) := by decide +kernel
theorem d_R_isHeadSound_40 : decode prog_9_method_11_code 40 = .ok (.invokevirtual 195, 3) := by decide +kernel
theorem d_R_isHeadSound_43 : decode prog_9_method_11_code 43 = .ok (.iload_n 2, 1) := by decide +kernel
theorem d_R_isHeadSound_44 : decode prog_9_method_11_code 44 = .ok (.bipush 30, 2) := by decide +kernel
theorem d_R_isHeadSound_46 : decode prog_9_method_11_code 46 = .ok (.iadd, 1) := by decide +kernel
theorem d_R_isHeadSound_47 : decode prog_9_method_11_code 47 = .ok (.istore 4, 2) := by decide +kernel
theorem d_R_isHeadSound_49 : decode prog_9_method_11_code 49 = .ok (.aload_n 1, 1) := by decide +kernel
theorem d_R_isHeadSound_50 : decode prog_9_method_11_code 50 = .ok (.iload 4, 2) := by decide +kernel
theorem d_R_isHeadSound_52 : decode prog_9_method_11_code 52 = .ok (.aload_n 0, 1) := by decide +kernel
theorem d_R_isHeadSound_53 : decode prog_9_method_11_code 53 = .ok (.getfield 29, 3) := by decide +kernel
theorem d_R_isHeadSound_56 : decode prog_9_method_11_code 56 = .ok (.getfield 98, 3) := by decide +kernel
theorem d_R_isHeadSound_59 : decode prog_9_method_11_code 59 = .ok (.iadd, 1) := by decide +kernel
theorem d_R_isHeadSound_60 : decode prog_9_method_11_code 60 = .ok (.aload_n 0, 1) := by decide +kernel
theorem d_R_isHeadSound_61 : decode prog_9_method_11_code 61 = .ok (.getfield 29, 3) := by decide +kernel
theorem d_R_isHeadSound_64 : decode prog_9_method_11_code 64 = .ok (.getfield 196, 3) := by decide +kernel
theorem d_R_isHeadSound_67 : decode prog_9_method_11_code 67 = .ok (.iadd, 1) := by decide +kernel
theorem d_R_isHeadSound_68 : decode prog_9_method_11_code 68 = .ok (.putfield 79, 3) := by decide +kernel
theorem d_R_isHeadSound_71 : decode prog_9_method_11_code 71 = .ok (.aload_n 3, 1) := by decide +kernel
theorem d_R_isHeadSound_72 : decode prog_9_method_11_code 72 = .ok (.invokevirtual 199, 3) := by decide +kernel
theorem d_R_isHeadSound_75 : decode prog_9_method_11_code 75 = .ok (.istore 5, 2) := by decide +kernel
theorem d_R_isHeadSound_77 : decode prog_9_method_11_code 77 = .ok (.aload_n 1, 1) := by decide +kernel
theorem d_R_isHeadSound_78 : decode prog_9_method_11_code 78 = .ok (.getfield 79, 3) := by decide +kernel
theorem d_R_isHeadSound_81 : decode prog_9_method_11_code 81 = .ok (.aload_n 0, 1) := by decide +kernel
theorem d_R_isHeadSound_82 : decode prog_9_method_11_code 82 = .ok (.getfield 135, 3) := by decide +kernel
theorem d_R_isHeadSound_85 : decode prog_9_method_11_code 85 = .ok (.if_icmp .gt 136, 3) := by decide +kernel
theorem d_R_isHeadSound_88 : decode prog_9_method_11_code 88 = .ok (.aload_n 0, 1) := by decide +kernel
theorem d_R_isHeadSound_89 : decode prog_9_method_11_code 89 = .ok (.getfield 9, 3) := by decide +kernel
theorem d_R_isHeadSound_92 : decode prog_9_method_11_code 92 = .ok (.iload_n 2, 1) := by decide +kernel
theorem d_R_isHeadSound_93 : decode prog_9_method_11_code 93 = .ok (.ldc 202, 2) := by decide +kernel
theorem d_R_isHeadSound_95 : decode prog_9_method_11_code 95 = .ok (.invokevirtual 139, 3) := by decide +kernel
theorem d_R_isHeadSound_98 : decode prog_9_method_11_code 98 = .ok (.ifCond .eq 123, 3) := by decide +kernel
theorem d_R_isHeadSound_101 : decode prog_9_method_11_code 101 = .ok (.aload_n 0, 1) := by decide +kernel
theorem d_R_isHeadSound_102 : decode prog_9_method_11_code 102 = .ok (.getfield 29, 3) := by decide +kernel
theorem d_R_isHeadSound_105 : decode prog_9_method_11_code 105 = .ok (.getfield 107, 3) := by decide +kernel
theorem d_R_isHeadSound_108 : decode prog_9_method_11_code 108 = .ok (.aload_n 3, 1) := by decide +kernel
theorem d_R_isHeadSound_109 : decode prog_9_method_11_code 109 = .ok (.getfield 107, 3) := by decide +kernel
theorem d_R_isHeadSound_112 : decode prog_9_method_11_code 112 = .ok (.if_icmp .ne 109, 3) := by decide +kernel
theorem d_R_isHeadSound_115 : decode prog_9_method_11_code 115 = .ok (.aload_n 0, 1) := by decide +kernel
theorem d_R_isHeadSound_116 : decode prog_9_method_11_code 116 = .ok (.getfield 29, 3) := by decide +kernel
theorem d_R_isHeadSound_119 : decode prog_9_method_11_code 119 = .ok (.getfield 161, 3) := by decide +kernel
theorem d_R_isHeadSound_122 : decode prog_9_method_11_code 122 = .ok (.aload_n 3, 1) := by decide +kernel
theorem d_R_isHeadSound_123 : decode prog_9_method_11_code 123 = .ok (.getfield 161, 3) := by decide +kernel
theorem d_R_isHeadSound_126 : decode prog_9_method_11_code 126 = .ok (.if_icmp .ne 95, 3) := by decide +kernel
theorem d_R_isHeadSound_129 : decode prog_9_method_11_code 129 = .ok (.aload_n 0, 1) := by decide +kernel
theorem d_R_isHeadSound_130 : decode prog_9_method_11_code 130 = .ok (.getfield 29, 3) := by decide +kernel
theorem d_R_isHeadSound_133 : decode prog_9_method_11_code 133 = .ok (.getfield 98, 3) := by decide +kernel
theorem d_R_isHeadSound_136 : decode prog_9_method_11_code 136 = .ok (.aload_n 3, 1) := by decide +kernel
theorem d_R_isHeadSound_137 : decode prog_9_method_11_code 137 = .ok (.getfield 98, 3) := by decide +kernel
theorem d_R_isHeadSound_140 : decode prog_9_method_11_code 140 = .ok (.if_icmp .ne 81, 3) := by decide +kernel
theorem d_R_isHeadSound_143 : decode prog_9_method_11_code 143 = .ok (.aload_n 0, 1) := by decide +kernel
theorem d_R_isHeadSound_144 : decode prog_9_method_11_code 144 = .ok (.iload 4, 2) := by decide +kernel
theorem d_R_isHeadSound_146 : decode prog_9_method_11_code 146 = .ok (.aload_n 1, 1) := by decide +kernel
theorem d_R_isHeadSound_147 : decode prog_9_method_11_code 147 = .ok (.getfield 95, 3) := by decide +kernel
theorem d_R_isHeadSound_150 : decode prog_9_method_11_code 150 = .ok (.aload_n 3, 1) := by decide +kernel
theorem d_R_isHeadSound_151 : decode prog_9_method_11_code 151 = .ok (.getfield 98, 3) := by decide +kernel
theorem d_R_isHeadSound_154 : decode prog_9_method_11_code 154 = .ok (.invokevirtual 203, 3) := by decide +kernel
theorem d_R_isHeadSound_157 : decode prog_9_method_11_code 157 = .ok (.ifCond .eq 64, 3) := by decide +kernel
theorem d_R_isHeadSound_160 : decode prog_9_method_11_code 160 = .ok (.aload_n 0, 1) := by decide +kernel
theorem d_R_isHeadSound_161 : decode prog_9_method_11_code 161 = .ok (.getfield 29, 3) := by decide +kernel
theorem d_R_isHeadSound_164 : decode prog_9_method_11_code 164 = .ok (.getfield 113, 3) := by decide +kernel
theorem d_R_isHeadSound_167 : decode prog_9_method_11_code 167 = .ok (.aload_n 3, 1) := by decide +kernel
theorem d_R_isHeadSound_168 : decode prog_9_method_11_code 168 = .ok (.getfield 113, 3) := by decide +kernel
theorem d_R_isHeadSound_171 : decode prog_9_method_11_code 171 = .ok (.iload 5, 2) := by decide +kernel
theorem d_R_isHeadSound_173 : decode prog_9_method_11_code 173 = .ok (.invokestatic 206, 3) := by decide +kernel
theorem d_R_isHeadSound_176 : decode prog_9_method_11_code 176 = .ok (.ifCond .eq 45, 3) := by decide +kernel
theorem d_R_isHeadSound_179 : decode prog_9_method_11_code 179 = .ok (.aload_n 0, 1) := by decide +kernel
theorem d_R_isHeadSound_180 : decode prog_9_method_11_code 180 = .ok (.getfield 29, 3) := by decide +kernel
theorem d_R_isHeadSound_183 : decode prog_9_method_11_code 183 = .ok (.getfield 82, 3) := by decide +kernel
theorem d_R_isHeadSound_186 : decode prog_9_method_11_code 186 = .ok (.aload_n 3, 1) := by decide +kernel
theorem d_R_isHeadSound_187 : decode prog_9_method_11_code 187 = .ok (.getfield 82, 3) := by decide +kernel
theorem d_R_isHeadSound_190 : decode prog_9_method_11_code 190 = .ok (.iload 5, 2) := by decide +kernel
theorem d_R_isHeadSound_192 : decode prog_9_method_11_code 192 = .ok (.invokestatic 206, 3) := by decide +kernel
theorem d_R_isHeadSound_195 : decode prog_9_method_11_code 195 = .ok (.ifCond .eq 26, 3) := by decide +kernel
theorem d_R_isHeadSound_198 : decode prog_9_method_11_code 198 = .ok (.aload_n 0, 1) := by decide +kernel
theorem d_R_isHeadSound_199 : decode prog_9_method_11_code 199 = .ok (.getfield 29, 3) := by decide +kernel
theorem d_R_isHeadSound_202 : decode prog_9_method_11_code 202 = .ok (.getfield 110, 3) := by decide +kernel
theorem d_R_isHeadSound_205 : decode prog_9_method_11_code 205 = .ok (.aload_n 3, 1) := by decide +kernel
theorem d_R_isHeadSound_206 : decode prog_9_method_11_code 206 = .ok (.getfield 110, 3) := by decide +kernel
theorem d_R_isHeadSound_209 : decode prog_9_method_11_code 209 = .ok (.iload 5, 2) := by decide +kernel
theorem d_R_isHeadSound_211 : decode prog_9_method_11_code 211 = .ok (.invokestatic 206, 3) := by decide +kernel
theorem d_R_isHeadSound_214 : decode prog_9_method_11_code 214 = .ok (.ifCond .eq 7, 3) := by decide +kernel
theorem d_R_isHeadSound_217 : decode prog_9_method_11_code 217 = .ok (.iconst 1, 1) := by decide +kernel
theorem d_R_isHeadSound_218 : decode prog_9_method_11_code 218 = .ok (.goto 4, 3) := by decide +kernel
theorem d_R_isHeadSound_221 : decode prog_9_method_11_code 221 = .ok (.iconst 0, 1) := by decide +kernel
theorem d_R_isHeadSound_222 : decode prog_9_method_11_code 222 = .ok (.ireturn, 1) := by decide +kernel
theorem d_R_agrees_0 : decode prog_9_method_12_code 0 = .ok (.lload_n 0, 1) := by decide +kernel
theorem d_R_agrees_1 : decode prog_9_method_12_code 1 = .ok (.lload_n 2, 1) := by decide +kernel
theorem d_R_agrees_2 : decode prog_9_method_12_code 2 = .ok (.lcmp, 1) := by decide +kernel
theorem d_R_agrees_3 : decode prog_9_method_12_code 3 = .ok (.ifCond .eq 14, 3) := by decide +kernel
theorem d_R_agrees_6 : decode prog_9_method_12_code 6 = .ok (.iload 4, 2) := by decide +kernel
theorem d_R_agrees_8 : decode prog_9_method_12_code 8 = .ok (.ifCond .eq 13, 3) := by decide +kernel
theorem d_R_agrees_11 : decode prog_9_method_12_code 11 = .ok (.lload_n 0, 1) := by decide +kernel
theorem d_R_agrees_12 : decode prog_9_method_12_code 12 = .ok (.lconst 0, 1) := by decide +kernel
theorem d_R_agrees_13 : decode prog_9_method_12_code 13 = .ok (.lcmp, 1) := by decide +kernel
theorem d_R_agrees_14 : decode prog_9_method_12_code 14 = .ok (.ifCond .ne 7, 3) := by decide +kernel
theorem d_R_agrees_17 : decode prog_9_method_12_code 17 = .ok (.iconst 1, 1) := by decide +kernel
theorem d_R_agrees_18 : decode prog_9_method_12_code 18 = .ok (.goto 4, 3) := by decide +kernel
theorem d_R_agrees_21 : decode prog_9_method_12_code 21 = .ok (.iconst 0, 1) := by decide +kernel
theorem d_R_agrees_22 : decode prog_9_method_12_code 22 = .ok (.ireturn, 1) := by decide +kernel
theorem d_R_areSame_0 : decode prog_9_method_13_code 0 = .ok (.iconst 0, 1) := by decide +kernel
theorem d_R_areSame_1 : decode prog_9_method_13_code 1 = .ok (.istore 4, 2) := by decide +kernel
theorem d_R_areSame_3 : decode prog_9_method_13_code 3 = .ok (.iload 4, 2) := by decide +kernel
theorem d_R_areSame_5 : decode prog_9_method_13_code 5 = .ok (.iload_n 3, 1) := by decide +kernel
theorem d_R_areSame_6 : decode prog_9_method_13_code 6 = .ok (.if_icmp .ge 36, 3) := by decide +kernel
theorem d_R_areSame_9 : decode prog_9_method_13_code 9 = .ok (.aload_n 0, 1) := by decide +kernel
theorem d_R_areSame_10 : decode prog_9_method_13_code 10 = .ok (.getfield 9, 3) := by decide +kernel
theorem d_R_areSame_13 : decode prog_9_method_13_code 13 = .ok (.iload_n 1, 1) := by decide +kernel
theorem d_R_areSame_14 : decode prog_9_method_13_code 14 = .ok (.iload 4, 2) := by decide +kernel
theorem d_R_areSame_16 : decode prog_9_method_13_code 16 = .ok (.iadd, 1) := by decide +kernel
theorem d_R_areSame_17 : decode prog_9_method_13_code 17 = .ok (.invokevirtual 210, 3) := by decide +kernel
theorem d_R_areSame_20 : decode prog_9_method_13_code 20 = .ok (.aload_n 0, 1) := by decide +kernel
theorem d_R_areSame_21 : decode prog_9_method_13_code 21 = .ok (.getfield 9, 3) := by decide +kernel
theorem d_R_areSame_24 : decode prog_9_method_13_code 24 = .ok (.iload_n 2, 1) := by decide +kernel
theorem d_R_areSame_25 : decode prog_9_method_13_code 25 = .ok (.iload 4, 2) := by decide +kernel
theorem d_R_areSame_27 : decode prog_9_method_13_code 27 = .ok (.iadd, 1) := by decide +kernel
theorem d_R_areSame_28 : decode prog_9_method_13_code 28 = .ok (.invokevirtual 210, 3) := by decide +kernel
theorem d_R_areSame_31 : decode prog_9_method_13_code 31 = .ok (.if_icmp .eq 5, 3) := by decide +kernel
theorem d_R_areSame_34 : decode prog_9_method_13_code 34 = .ok (.iconst 0, 1) := by decide +kernel
theorem d_R_areSame_35 : decode prog_9_method_13_code 35 = .ok (.ireturn, 1) := by decide +kernel
theorem d_R_areSame_36 : decode prog_9_method_13_code 36 = .ok (.iinc 4 1, 3) := by decide +kernel
theorem d_R_areSame_39 : decode prog_9_method_13_code 39 = .ok (.goto (-36), 3) := by decide +kernel
theorem d_R_areSame_42 : decode prog_9_method_13_code 42 = .ok (.iconst 1, 1) := by decide +kernel
theorem d_R_areSame_43 : decode prog_9_method_13_code 43 = .ok (.ireturn, 1) := by decide +kernel
theorem d_R_areBytesSound_0 : decode prog_9_method_14_code 0 = .ok (.aload_n 1, 1) := by decide +kernel
theorem d_R_areBytesSound_1 : decode prog_9_method_14_code 1 = .ok (.getfield 76, 3) := by decide +kernel
theorem d_R_areBytesSound_4 : decode prog_9_method_14_code 4 = .ok (.astore_n 2, 1) := by decide +kernel
theorem d_R_areBytesSound_5 : decode prog_9_method_14_code 5 = .ok (.aload_n 1, 1) := by decide +kernel
theorem d_R_areBytesSound_6 : decode prog_9_method_14_code 6 = .ok (.getfield 79, 3) := by decide +kernel
theorem d_R_areBytesSound_9 : decode prog_9_method_14_code 9 = .ok (.aload_n 2, 1) := by decide +kernel
theorem d_R_areBytesSound_10 : decode prog_9_method_14_code 10 = .ok (.getfield 82, 3) := by decide +kernel
theorem d_R_areBytesSound_13 : decode prog_9_method_14_code 13 = .ok (.l2i, 1) := by decide +kernel
theorem d_R_areBytesSound_14 : decode prog_9_method_14_code 14 = .ok (.iadd, 1) := by decide +kernel
theorem d_R_areBytesSound_15 : decode prog_9_method_14_code 15 = .ok (.istore_n 3, 1) := by decide +kernel
theorem d_R_areBytesSound_16 : decode prog_9_method_14_code 16 = .ok (.aload_n 1, 1) := by decide +kernel
theorem d_R_areBytesSound_17 : decode prog_9_method_14_code 17 = .ok (.iload_n 3, 1) := by decide +kernel
theorem d_R_areBytesSound_18 : decode prog_9_method_14_code 18 = .ok (.putfield 214, 3) := by decide +kernel
theorem d_R_areBytesSound_21 : decode prog_9_method_14_code 21 = .ok (.aload_n 2, 1) := by decide +kernel
theorem d_R_areBytesSound_22 : decode prog_9_method_14_code 22 = .ok (.invokevirtual 199, 3) := by decide +kernel
theorem d_R_areBytesSound_25 : decode prog_9_method_14_code 25 = .ok (.ifCond .ne 17, 3) := by decide +kernel
theorem d_R_areBytesSound_28 : decode prog_9_method_14_code 28 = .ok (.iload_n 3, 1) := by decide +kernel
theorem d_R_areBytesSound_29 : decode prog_9_method_14_code 29 = .ok (.aload_n 0, 1) := by decide +kernel
theorem d_R_areBytesSound_30 : decode prog_9_method_14_code 30 = .ok (.getfield 135, 3) := by decide +kernel
theorem d_R_areBytesSound_33 : decode prog_9_method_14_code 33 = .ok (.if_icmp .gt 7, 3) := by decide +kernel
theorem d_R_areBytesSound_36 : decode prog_9_method_14_code 36 = .ok (.iconst 1, 1) := by decide +kernel
theorem d_R_areBytesSound_37 : decode prog_9_method_14_code 37 = .ok (.goto 4, 3) := by decide +kernel
theorem d_R_areBytesSound_40 : decode prog_9_method_14_code 40 = .ok (.iconst 0, 1) := by decide +kernel
theorem d_R_areBytesSound_41 : decode prog_9_method_14_code 41 = .ok (.ireturn, 1) := by decide +kernel
theorem d_R_areBytesSound_42 : decode prog_9_method_14_code 42 = .ok (.aload_n 0, 1) := by decide +kernel
theorem d_R_areBytesSound_43 : decode prog_9_method_14_code 43 = .ok (.getfield 9, 3) := by decide +kernel
theorem d_R_areBytesSound_46 : decode prog_9_method_14_code 46 = .ok (.iload_n 3, 1) := by decide +kernel
theorem d_R_areBytesSound_47 : decode prog_9_method_14_code 47 = .ok (.ldc 217, 2) := by decide +kernel
theorem d_R_areBytesSound_49 : decode prog_9_method_14_code 49 = .ok (.invokevirtual 139, 3) := by decide +kernel
theorem d_R_areBytesSound_52 : decode prog_9_method_14_code 52 = .ok (.ifCond .eq 9, 3) := by decide +kernel
theorem d_R_areBytesSound_55 : decode prog_9_method_14_code 55 = .ok (.iload_n 3, 1) := by decide +kernel
theorem d_R_areBytesSound_56 : decode prog_9_method_14_code 56 = .ok (.iconst 4, 1) := by decide +kernel
theorem d_R_areBytesSound_57 : decode prog_9_method_14_code 57 = .ok (.iadd, 1) := by decide +kernel
theorem d_R_areBytesSound_58 : decode prog_9_method_14_code 58 = .ok (.goto 4, 3) := by decide +kernel
theorem d_R_areBytesSound_61 : decode prog_9_method_14_code 61 = .ok (.iload_n 3, 1) := by decide +kernel
theorem d_R_areBytesSound_62 : decode prog_9_method_14_code 62 = .ok (.istore 4, 2) := by decide +kernel
theorem d_R_areBytesSound_64 : decode prog_9_method_14_code 64 = .ok (.aload_n 1, 1) := by decide +kernel
theorem d_R_areBytesSound_65 : decode prog_9_method_14_code 65 = .ok (.iload 4, 2) := by decide +kernel
theorem d_R_areBytesSound_67 : decode prog_9_method_14_code 67 = .ok (.bipush 12, 2) := by decide +kernel
theorem d_R_areBytesSound_69 : decode prog_9_method_14_code 69 = .ok (.iadd, 1) := by decide +kernel
theorem d_R_areBytesSound_70 : decode prog_9_method_14_code 70 = .ok (.putfield 214, 3) := by decide +kernel
theorem d_R_areBytesSound_73 : decode prog_9_method_14_code 73 = .ok (.aload_n 1, 1) := by decide +kernel
theorem d_R_areBytesSound_74 : decode prog_9_method_14_code 74 = .ok (.getfield 214, 3) := by decide +kernel
theorem d_R_areBytesSound_77 : decode prog_9_method_14_code 77 = .ok (.aload_n 0, 1) := by decide +kernel
theorem d_R_areBytesSound_78 : decode prog_9_method_14_code 78 = .ok (.getfield 135, 3) := by decide +kernel
theorem d_R_areBytesSound_81 : decode prog_9_method_14_code 81 = .ok (.if_icmp .gt 66, 3) := by decide +kernel
theorem d_R_areBytesSound_84 : decode prog_9_method_14_code 84 = .ok (.aload_n 0, 1) := by decide +kernel
theorem d_R_areBytesSound_85 : decode prog_9_method_14_code 85 = .ok (.getfield 9, 3) := by decide +kernel
theorem d_R_areBytesSound_88 : decode prog_9_method_14_code 88 = .ok (.iload 4, 2) := by decide +kernel
theorem d_R_areBytesSound_90 : decode prog_9_method_14_code 90 = .ok (.iconst 4, 1) := by decide +kernel
theorem d_R_areBytesSound_91 : decode prog_9_method_14_code 91 = .ok (.invokevirtual 129, 3) := by decide +kernel
theorem d_R_areBytesSound_94 : decode prog_9_method_14_code 94 = .ok (.aload_n 2, 1) := by decide +kernel
theorem d_R_areBytesSound_95 : decode prog_9_method_14_code 95 = .ok (.getfield 113, 3) := by decide +kernel
theorem d_R_areBytesSound_98 : decode prog_9_method_14_code 98 = .ok (.lcmp, 1) := by decide +kernel
theorem d_R_areBytesSound_99 : decode prog_9_method_14_code 99 = .ok (.ifCond .ne 48, 3) := by decide +kernel
theorem d_R_areBytesSound_102 : decode prog_9_method_14_code 102 = .ok (.aload_n 0, 1) := by decide +kernel
theorem d_R_areBytesSound_103 : decode prog_9_method_14_code 103 = .ok (.getfield 9, 3) := by decide +kernel
theorem d_R_areBytesSound_106 : decode prog_9_method_14_code 106 = .ok (.iload 4, 2) := by decide +kernel
theorem d_R_areBytesSound_108 : decode prog_9_method_14_code 108 = .ok (.iconst 4, 1) := by decide +kernel
theorem d_R_areBytesSound_109 : decode prog_9_method_14_code 109 = .ok (.iadd, 1) := by decide +kernel
theorem d_R_areBytesSound_110 : decode prog_9_method_14_code 110 = .ok (.iconst 4, 1) := by decide +kernel
theorem d_R_areBytesSound_111 : decode prog_9_method_14_code 111 = .ok (.invokevirtual 129, 3) := by decide +kernel
theorem d_R_areBytesSound_114 : decode prog_9_method_14_code 114 = .ok (.aload_n 2, 1) := by decide +kernel
theorem d_R_areBytesSound_115 : decode prog_9_method_14_code 115 = .ok (.getfield 82, 3) := by decide +kernel
theorem d_R_areBytesSound_118 : decode prog_9_method_14_code 118 = .ok (.lcmp, 1) := by decide +kernel
theorem d_R_areBytesSound_119 : decode prog_9_method_14_code 119 = .ok (.ifCond .ne 28, 3) := by decide +kernel
theorem d_R_areBytesSound_122 : decode prog_9_method_14_code 122 = .ok (.aload_n 0, 1) := by decide +kernel
theorem d_R_areBytesSound_123 : decode prog_9_method_14_code 123 = .ok (.getfield 9, 3) := by decide +kernel
theorem d_R_areBytesSound_126 : decode prog_9_method_14_code 126 = .ok (.iload 4, 2) := by decide +kernel
theorem d_R_areBytesSound_128 : decode prog_9_method_14_code 128 = .ok (.bipush 8, 2) := by decide +kernel
theorem d_R_areBytesSound_130 : decode prog_9_method_14_code 130 = .ok (.iadd, 1) := by decide +kernel
theorem d_R_areBytesSound_131 : decode prog_9_method_14_code 131 = .ok (.iconst 4, 1) := by decide +kernel
theorem d_R_areBytesSound_132 : decode prog_9_method_14_code 132 = .ok (.invokevirtual 129, 3) := by decide +kernel
theorem d_R_areBytesSound_135 : decode prog_9_method_14_code 135 = .ok (.aload_n 2, 1) := by decide +kernel
theorem d_R_areBytesSound_136 : decode prog_9_method_14_code 136 = .ok (.getfield 110, 3) := by decide +kernel
theorem d_R_areBytesSound_139 : decode prog_9_method_14_code 139 = .ok (.lcmp, 1) := by decide +kernel
theorem d_R_areBytesSound_140 : decode prog_9_method_14_code 140 = .ok (.ifCond .ne 7, 3) := by decide +kernel
theorem d_R_areBytesSound_143 : decode prog_9_method_14_code 143 = .ok (.iconst 1, 1) := by decide +kernel
theorem d_R_areBytesSound_144 : decode prog_9_method_14_code 144 = .ok (.goto 4, 3) := by decide +kernel
theorem d_R_areBytesSound_147 : decode prog_9_method_14_code 147 = .ok (.iconst 0, 1) := by decide +kernel
theorem d_R_areBytesSound_148 : decode prog_9_method_14_code 148 = .ok (.ireturn, 1) := by decide +kernel
theorem d_R_examinePlaces_0 : decode prog_9_method_15_code 0 = .ok (.aload_n 0, 1) := by decide +kernel
theorem d_R_examinePlaces_1 : decode prog_9_method_15_code 1 = .ok (.invokevirtual 218, 3) := by decide +kernel
theorem d_R_examinePlaces_4 : decode prog_9_method_15_code 4 = .ok (.iconst 0, 1) := by decide +kernel
theorem d_R_examinePlaces_5 : decode prog_9_method_15_code 5 = .ok (.istore_n 1, 1) := by decide +kernel
theorem d_R_examinePlaces_6 : decode prog_9_method_15_code 6 = .ok (.iconst 0, 1) := by decide +kernel
theorem d_R_examinePlaces_7 : decode prog_9_method_15_code 7 = .ok (.istore_n 2, 1) := by decide +kernel
theorem d_R_examinePlaces_8 : decode prog_9_method_15_code 8 = .ok (.iload_n 2, 1) := by decide +kernel
theorem d_R_examinePlaces_9 : decode prog_9_method_15_code 9 = .ok (.aload_n 0, 1) := by decide +kernel
theorem d_R_examinePlaces_10 : decode prog_9_method_15_code 10 = .ok (.getfield 73, 3) := by decide +kernel
theorem d_R_examinePlaces_13 : decode prog_9_method_15_code 13 = .ok (.if_icmp .ge 50, 3) := by decide +kernel
theorem d_R_examinePlaces_16 : decode prog_9_method_15_code 16 = .ok (.aload_n 0, 1) := by decide +kernel
theorem d_R_examinePlaces_17 : decode prog_9_method_15_code 17 = .ok (.getfield 21, 3) := by decide +kernel
theorem d_R_examinePlaces_20 : decode prog_9_method_15_code 20 = .ok (.aload_n 0, 1) := by decide +kernel
theorem d_R_examinePlaces_21 : decode prog_9_method_15_code 21 = .ok (.getfield 33, 3) := by decide +kernel
theorem d_R_examinePlaces_24 : decode prog_9_method_15_code 24 = .ok (.iload_n 2, 1) := by decide +kernel
theorem d_R_examinePlaces_25 : decode prog_9_method_15_code 25 = .ok (.iaload, 1) := by decide +kernel
theorem d_R_examinePlaces_26 : decode prog_9_method_15_code 26 = .ok (.aaload, 1) := by decide +kernel
theorem d_R_examinePlaces_27 : decode prog_9_method_15_code 27 = .ok (.astore_n 3, 1) := by decide +kernel
theorem d_R_examinePlaces_28 : decode prog_9_method_15_code 28 = .ok (.aload_n 3, 1) := by decide +kernel
theorem d_R_examinePlaces_29 : decode prog_9_method_15_code 29 = .ok (.getfield 177, 3) := by decide +kernel
theorem d_R_examinePlaces_32 : decode prog_9_method_15_code 32 = .ok (.iload_n 1, 1) := by decide +kernel
theorem d_R_examinePlaces_33 : decode prog_9_method_15_code 33 = .ok (.i2l, 1) := by decide +kernel
theorem d_R_examinePlaces_34 : decode prog_9_method_15_code 34 = .ok (.lcmp, 1) := by decide +kernel
theorem d_R_examinePlaces_35 : decode prog_9_method_15_code 35 = .ok (.ifCond .eq 17, 3) := by decide +kernel
theorem d_R_examinePlaces_38 : decode prog_9_method_15_code 38 = .ok (.aload_n 0, 1) := by decide +kernel
theorem d_R_examinePlaces_39 : decode prog_9_method_15_code 39 = .ok (.bipush 10, 2) := by decide +kernel
theorem d_R_examinePlaces_41 : decode prog_9_method_15_code 41 = .ok (.iload_n 1, 1) := by decide +kernel
theorem d_R_examinePlaces_42 : decode prog_9_method_15_code 42 = .ok (.aload_n 0, 1) := by decide +kernel
theorem d_R_examinePlaces_43 : decode prog_9_method_15_code 43 = .ok (.getfield 33, 3) := by decide +kernel
theorem d_R_examinePlaces_46 : decode prog_9_method_15_code 46 = .ok (.iload_n 2, 1) := by decide +kernel
theorem d_R_examinePlaces_47 : decode prog_9_method_15_code 47 = .ok (.iaload, 1) := by decide +kernel
theorem d_R_examinePlaces_48 : decode prog_9_method_15_code 48 = .ok (.invokevirtual 47, 3) := by decide +kernel
theorem d_R_examinePlaces_51 : decode prog_9_method_15_code 51 = .ok (.ireturn, 1) := by decide +kernel
theorem d_R_examinePlaces_52 : decode prog_9_method_15_code 52 = .ok (.aload_n 3, 1) := by decide +kernel
theorem d_R_examinePlaces_53 : decode prog_9_method_15_code 53 = .ok (.getfield 214, 3) := by decide +kernel
theorem d_R_examinePlaces_56 : decode prog_9_method_15_code 56 = .ok (.istore_n 1, 1) := by decide +kernel
theorem d_R_examinePlaces_57 : decode prog_9_method_15_code 57 = .ok (.iinc 2 1, 3) := by decide +kernel
theorem d_R_examinePlaces_60 : decode prog_9_method_15_code 60 = .ok (.goto (-52), 3) := by decide +kernel
theorem d_R_examinePlaces_63 : decode prog_9_method_15_code 63 = .ok (.iload_n 1, 1) := by decide +kernel
theorem d_R_examinePlaces_64 : decode prog_9_method_15_code 64 = .ok (.aload_n 0, 1) := by decide +kernel
theorem d_R_examinePlaces_65 : decode prog_9_method_15_code 65 = .ok (.getfield 135, 3) := by decide +kernel
theorem d_R_examinePlaces_68 : decode prog_9_method_15_code 68 = .ok (.if_icmp .eq 14, 3) := by decide +kernel
theorem d_R_examinePlaces_71 : decode prog_9_method_15_code 71 = .ok (.aload_n 0, 1) := by decide +kernel
theorem d_R_examinePlaces_72 : decode prog_9_method_15_code 72 = .ok (.bipush 10, 2) := by decide +kernel
theorem d_R_examinePlaces_74 : decode prog_9_method_15_code 74 = .ok (.iload_n 1, 1) := by decide +kernel
theorem d_R_examinePlaces_75 : decode prog_9_method_15_code 75 = .ok (.iconst (-1), 1) := by decide +kernel
theorem d_R_examinePlaces_76 : decode prog_9_method_15_code 76 = .ok (.invokevirtual 47, 3) := by decide +kernel
theorem d_R_examinePlaces_79 : decode prog_9_method_15_code 79 = .ok (.ifCond .eq 7, 3) := by decide +kernel
theorem d_R_examinePlaces_82 : decode prog_9_method_15_code 82 = .ok (.iconst 1, 1) := by decide +kernel
theorem d_R_examinePlaces_83 : decode prog_9_method_15_code 83 = .ok (.goto 4, 3) := by decide +kernel
theorem d_R_examinePlaces_86 : decode prog_9_method_15_code 86 = .ok (.iconst 0, 1) := by decide +kernel
theorem d_R_examinePlaces_87 : decode prog_9_method_15_code 87 = .ok (.ireturn, 1) := by decide +kernel
theorem d_R_orderByHeads_0 : decode prog_9_method_16_code 0 = .ok (.iconst 0, 1) := by decide +kernel
theorem d_R_orderByHeads_1 : decode prog_9_method_16_code 1 = .ok (.istore_n 1, 1) := by decide +kernel
theorem d_R_orderByHeads_2 : decode prog_9_method_16_code 2 = .ok (.iload_n 1, 1) := by decide +kernel
theorem d_R_orderByHeads_3 : decode prog_9_method_16_code 3 = .ok (.aload_n 0, 1) := by decide +kernel
theorem d_R_orderByHeads_4 : decode prog_9_method_16_code 4 = .ok (.getfield 73, 3) := by decide +kernel
theorem d_R_orderByHeads_7 : decode prog_9_method_16_code 7 = .ok (.if_icmp .ge 71, 3) := by decide +kernel
theorem d_R_orderByHeads_10 : decode prog_9_method_16_code 10 = .ok (.iload_n 1, 1) := by decide +kernel
theorem d_R_orderByHeads_11 : decode prog_9_method_16_code 11 = .ok (.istore_n 2, 1) := by decide +kernel
theorem d_R_orderByHeads_12 : decode prog_9_method_16_code 12 = .ok (.iload_n 2, 1) := by decide +kernel
theorem d_R_orderByHeads_13 : decode prog_9_method_16_code 13 = .ok (.ifCond .le 52, 3) := by decide +kernel
theorem d_R_orderByHeads_16 : decode prog_9_method_16_code 16 = .ok (.aload_n 0, 1) := by decide +kernel
theorem d_R_orderByHeads_17 : decode prog_9_method_16_code 17 = .ok (.getfield 21, 3) := by decide +kernel
theorem d_R_orderByHeads_20 : decode prog_9_method_16_code 20 = .ok (.aload_n 0, 1) := by decide +kernel
theorem d_R_orderByHeads_21 : decode prog_9_method_16_code 21 = .ok (.getfield 33, 3) := by decide +kernel
theorem d_R_orderByHeads_24 : decode prog_9_method_16_code 24 = .ok (.iload_n 2, 1) := by decide +kernel
theorem d_R_orderByHeads_25 : decode prog_9_method_16_code 25 = .ok (.iconst 1, 1) := by decide +kernel
theorem d_R_orderByHeads_26 : decode prog_9_method_16_code 26 = .ok (.isub, 1) := by decide +kernel
theorem d_R_orderByHeads_27 : decode prog_9_method_16_code 27 = .ok (.iaload, 1) := by decide +kernel
theorem d_R_orderByHeads_28 : decode prog_9_method_16_code 28 = .ok (.aaload, 1) := by decide +kernel
theorem d_R_orderByHeads_29 : decode prog_9_method_16_code 29 = .ok (.getfield 177, 3) := by decide +kernel
theorem d_R_orderByHeads_32 : decode prog_9_method_16_code 32 = .ok (.aload_n 0, 1) := by decide +kernel
theorem d_R_orderByHeads_33 : decode prog_9_method_16_code 33 = .ok (.getfield 21, 3) := by decide +kernel
theorem d_R_orderByHeads_36 : decode prog_9_method_16_code 36 = .ok (.iload_n 1, 1) := by decide +kernel
theorem d_R_orderByHeads_37 : decode prog_9_method_16_code 37 = .ok (.aaload, 1) := by decide +kernel
theorem d_R_orderByHeads_38 : decode prog_9_method_16_code 38 = .ok (.getfield 177, 3) := by decide +kernel
theorem d_R_orderByHeads_41 : decode prog_9_method_16_code 41 = .ok (.lcmp, 1) := by decide +kernel
theorem d_R_orderByHeads_42 : decode prog_9_method_16_code 42 = .ok (.ifCond .le 23, 3) := by decide +kernel
theorem d_R_orderByHeads_45 : decode prog_9_method_16_code 45 = .ok (.aload_n 0, 1) := by decide +kernel
theorem d_R_orderByHeads_46 : decode prog_9_method_16_code 46 = .ok (.getfield 33, 3) := by decide +kernel
theorem d_R_orderByHeads_49 : decode prog_9_method_16_code 49 = .ok (.iload_n 2, 1) := by decide +kernel
theorem d_R_orderByHeads_50 : decode prog_9_method_16_code 50 = .ok (.aload_n 0, 1) := by decide +kernel
theorem d_R_orderByHeads_51 : decode prog_9_method_16_code 51 = .ok (.getfield 33, 3) := by decide +kernel
theorem d_R_orderByHeads_54 : decode prog_9_method_16_code 54 = .ok (.iload_n 2, 1) := by decide +kernel
theorem d_R_orderByHeads_55 : decode prog_9_method_16_code 55 = .ok (.iconst 1, 1) := by decide +kernel
theorem d_R_orderByHeads_56 : decode prog_9_method_16_code 56 = .ok (.isub, 1) := by decide +kernel
theorem d_R_orderByHeads_57 : decode prog_9_method_16_code 57 = .ok (.iaload, 1) := by decide +kernel
theorem d_R_orderByHeads_58 : decode prog_9_method_16_code 58 = .ok (.iastore, 1) := by decide +kernel
theorem d_R_orderByHeads_59 : decode prog_9_method_16_code 59 = .ok (.iinc 2 (-1), 3) := by decide +kernel
theorem d_R_orderByHeads_62 : decode prog_9_method_16_code 62 = .ok (.goto (-50), 3) := by decide +kernel
theorem d_R_orderByHeads_65 : decode prog_9_method_16_code 65 = .ok (.aload_n 0, 1) := by decide +kernel
theorem d_R_orderByHeads_66 : decode prog_9_method_16_code 66 = .ok (.getfield 33, 3) := by decide +kernel
theorem d_R_orderByHeads_69 : decode prog_9_method_16_code 69 = .ok (.iload_n 2, 1) := by decide +kernel
theorem d_R_orderByHeads_70 : decode prog_9_method_16_code 70 = .ok (.iload_n 1, 1) := by decide +kernel
theorem d_R_orderByHeads_71 : decode prog_9_method_16_code 71 = .ok (.iastore, 1) := by decide +kernel
theorem d_R_orderByHeads_72 : decode prog_9_method_16_code 72 = .ok (.iinc 1 1, 3) := by decide +kernel
theorem d_R_orderByHeads_75 : decode prog_9_method_16_code 75 = .ok (.goto (-73), 3) := by decide +kernel
theorem d_R_orderByHeads_78 : decode prog_9_method_16_code 78 = .ok (.return_, 1) := by decide +kernel
theorem d_R_examineChecks_0 : decode prog_9_method_17_code 0 = .ok (.iconst 0, 1) := by decide +kernel
theorem d_R_examineChecks_1 : decode prog_9_method_17_code 1 = .ok (.istore_n 1, 1) := by decide +kernel
theorem d_R_examineChecks_2 : decode prog_9_method_17_code 2 = .ok (.iload_n 1, 1) := by decide +kernel
theorem d_R_examineChecks_3 : decode prog_9_method_17_code 3 = .ok (.aload_n 0, 1) := by decide +kernel
theorem d_R_examineChecks_4 : decode prog_9_method_17_code 4 = .ok (.getfield 73, 3) := by decide +kernel
theorem d_R_examineChecks_7 : decode prog_9_method_17_code 7 = .ok (.if_icmp .ge 72, 3) := by decide +kernel
theorem d_R_examineChecks_10 : decode prog_9_method_17_code 10 = .ok (.aload_n 0, 1) := by decide +kernel
theorem d_R_examineChecks_11 : decode prog_9_method_17_code 11 = .ok (.getfield 21, 3) := by decide +kernel
theorem d_R_examineChecks_14 : decode prog_9_method_17_code 14 = .ok (.iload_n 1, 1) := by decide +kernel
theorem d_R_examineChecks_15 : decode prog_9_method_17_code 15 = .ok (.aaload, 1) := by decide +kernel
theorem d_R_examineChecks_16 : decode prog_9_method_17_code 16 = .ok (.astore_n 2, 1) := by decide +kernel
theorem d_R_examineChecks_17 : decode prog_9_method_17_code 17 = .ok (.aload_n 2, 1) := by decide +kernel
theorem d_R_examineChecks_18 : decode prog_9_method_17_code 18 = .ok (.getfield 76, 3) := by decide +kernel
theorem d_R_examineChecks_21 : decode prog_9_method_17_code 21 = .ok (.astore_n 3, 1) := by decide +kernel
theorem d_R_examineChecks_22 : decode prog_9_method_17_code 22 = .ok (.aload_n 3, 1) := by decide +kernel
theorem d_R_examineChecks_23 : decode prog_9_method_17_code 23 = .ok (.getfield 107, 3) := by decide +kernel
theorem d_R_examineChecks_26 : decode prog_9_method_17_code 26 = .ok (.ifCond .ne 47, 3) := by decide +kernel
theorem d_R_examineChecks_29 : decode prog_9_method_17_code 29 = .ok (.aload_n 0, 1) := by decide +kernel
theorem d_R_examineChecks_30 : decode prog_9_method_17_code 30 = .ok (.getfield 15, 3) := by decide +kernel
theorem d_R_examineChecks_33 : decode prog_9_method_17_code 33 = .ok (.aload_n 0, 1) := by decide +kernel
theorem d_R_examineChecks_34 : decode prog_9_method_17_code 34 = .ok (.getfield 9, 3) := by decide +kernel
theorem d_R_examineChecks_37 : decode prog_9_method_17_code 37 = .ok (.aload_n 2, 1) := by decide +kernel
theorem d_R_examineChecks_38 : decode prog_9_method_17_code 38 = .ok (.getfield 79, 3) := by decide +kernel
theorem d_R_examineChecks_41 : decode prog_9_method_17_code 41 = .ok (.aload_n 3, 1) := by decide +kernel
theorem d_R_examineChecks_42 : decode prog_9_method_17_code 42 = .ok (.getfield 82, 3) := by decide +kernel
theorem d_R_examineChecks_45 : decode prog_9_method_17_code 45 = .ok (.l2i, 1) := by decide +kernel
theorem d_R_examineChecks_46 : decode prog_9_method_17_code 46 = .ok (.invokevirtual 221, 3) := by decide +kernel
theorem d_R_examineChecks_49 : decode prog_9_method_17_code 49 = .ok (.istore 4, 2) := by decide +kernel
theorem d_R_examineChecks_51 : decode prog_9_method_17_code 51 = .ok (.iload 4, 2) := by decide +kernel
theorem d_R_examineChecks_53 : decode prog_9_method_17_code 53 = .ok (.aload_n 3, 1) := by decide +kernel
theorem d_R_examineChecks_54 : decode prog_9_method_17_code 54 = .ok (.getfield 113, 3) := by decide +kernel
theorem d_R_examineChecks_57 : decode prog_9_method_17_code 57 = .ok (.l2i, 1) := by decide +kernel
theorem d_R_examineChecks_58 : decode prog_9_method_17_code 58 = .ok (.if_icmp .eq 15, 3) := by decide +kernel
theorem d_R_examineChecks_61 : decode prog_9_method_17_code 61 = .ok (.aload_n 0, 1) := by decide +kernel
theorem d_R_examineChecks_62 : decode prog_9_method_17_code 62 = .ok (.bipush 11, 2) := by decide +kernel
theorem d_R_examineChecks_64 : decode prog_9_method_17_code 64 = .ok (.aload_n 2, 1) := by decide +kernel
theorem d_R_examineChecks_65 : decode prog_9_method_17_code 65 = .ok (.getfield 79, 3) := by decide +kernel
theorem d_R_examineChecks_68 : decode prog_9_method_17_code 68 = .ok (.iload_n 1, 1) := by decide +kernel
theorem d_R_examineChecks_69 : decode prog_9_method_17_code 69 = .ok (.invokevirtual 47, 3) := by decide +kernel
theorem d_R_examineChecks_72 : decode prog_9_method_17_code 72 = .ok (.ireturn, 1) := by decide +kernel
theorem d_R_examineChecks_73 : decode prog_9_method_17_code 73 = .ok (.iinc 1 1, 3) := by decide +kernel
theorem d_R_examineChecks_76 : decode prog_9_method_17_code 76 = .ok (.goto (-74), 3) := by decide +kernel
theorem d_R_examineChecks_79 : decode prog_9_method_17_code 79 = .ok (.iconst 1, 1) := by decide +kernel
theorem d_R_examineChecks_80 : decode prog_9_method_17_code 80 = .ok (.ireturn, 1) := by decide +kernel
theorem t_R_init_0 {l : Launch} {G : mm_G} {b : Nat} {m : mm_Mem} {Q : mm_O → mm_Mem → Prop} {r0 : Nat} {r1 : Nat} {r2 : Nat} {fs_1 : List Value} {fs_5 : List Value} {b_8 : Nat} {n_9 : Nat} {m_14 : mm_Mem} {fs_16 : List Value} (g2 : m r0 = .inr (7, fs_1)) (z3 : r0 ≠ 0) (l4 : 0 < fs_1.length) (g6 : (va_up m r0 (.inr (7, fs_1.set 0 (.ref r1)))) r0 = .inr (7, fs_5)) (l7 : 1 < fs_5.length) (k10 : ¬ (64 : Int32) < 0) (k11 : (64 : Int32).toNatClampNeg = n_9) (k12 : n_9 * 8 ≤ 536870912) (hb13 : n_9 + 1 + b_8 ≤ b) (q15 : m_14 = mm_push (va_up (va_up m r0 (.inr (7, fs_1.set 0 (.ref r1)))) r0 (.inr (7, fs_5.set 1 (.ref r2)))) (.inl (G.2 5, n_9, .inr (.inr (.inr (.inr (fun _ => none))))))) (g17 : m_14 r0 = .inr (7, fs_16)) (l18 : 2 < fs_16.length) (h19 : mm_W l G k_R_init 25 [(0, .ref r0), (3, .int 0)] [] b_8 (va_up m_14 r0 (.inr (7, fs_16.set 2 (.ref (mm_n (va_up (va_up m r0 (.inr (7, fs_1.set 0 (.ref r1)))) r0 (.inr (7, fs_5.set 1 (.ref r2)))) + 1))))) Q) : mm_W l G k_R_init 0 [(0, .ref r0), (1, .ref r1), (2, .ref r2)] [] b m Q := by
  refine mm_aload_n 0 (i := 0) d_R_init_0 rfl rfl ?_
  refine mm_objInit w_121 w_25 w_26 d_R_init_1 (Nat.le_of_ble_eq_true rfl) (Nat.le_of_ble_eq_true rfl) ?_
  refine mm_aload_n 0 (i := 0) d_R_init_4 rfl rfl ?_
  refine mm_aload_n 1 (i := 1) d_R_init_5 rfl rfl ?_
  refine mm_putF cc_R 0 (by decide) w_191 d_R_init_6 rfl rfl rfl (fun _ => rfl) (fun _ => rfl) g2 z3 l4 ?_
  refine mm_aload_n 0 (i := 0) d_R_init_9 rfl rfl ?_
  refine mm_aload_n 2 (i := 2) d_R_init_10 rfl rfl ?_
  refine mm_putF cc_R 1 (by decide) w_192 d_R_init_11 rfl rfl rfl (fun _ => rfl) (fun _ => rfl) g6 z3 l7 ?_
  refine mm_aload_n 0 (i := 0) d_R_init_14 rfl rfl ?_
  refine mm_bipush d_R_init_15 (v := 64) (by decide) ?_
  refine mm_newq (t := 5) w_122 nw_123 rfl d_R_init_17 k10 k11 (by omega) hb13 ?_
  refine mm_eqm q15 ?_
  refine mm_putF cc_R 2 (by decide) w_193 d_R_init_20 rfl rfl rfl (fun _ => rfl) (fun _ => rfl) g17 z3 l18 ?_
  refine mm_iconst d_R_init_23 (v := 0) (by decide) ?_
  refine mm_istore_n (i := 3) d_R_init_24 rfl (Nat.le_of_ble_eq_true rfl) (lv2 := [(3, .int 0), (0, .ref r0), (1, .ref r1), (2, .ref r2)]) rfl ?_
  exact mm_sub [1, 0] rfl h19
theorem t_R_init_25 {l : Launch} {G : mm_G} {b : Nat} {m : mm_Mem} {Q : mm_O → mm_Mem → Prop} {r0 : Nat} {x3 : Int32} (h1 : (64 ≤ x3) → mm_W l G k_R_init 50 [(0, .ref r0)] [] b m Q) (h2 : (¬ 64 ≤ x3) → mm_W l G k_R_init 31 [(0, .ref r0), (3, .int x3)] [] b m Q) : mm_W l G k_R_init 25 [(0, .ref r0), (3, .int x3)] [] b m Q := by
  refine mm_iload_n 1 (i := 3) d_R_init_25 rfl rfl ?_
  refine mm_bipush d_R_init_26 (v := 64) (by decide) ?_
  exact mm_icmp_ge (tgt := 50) d_R_init_28 (by decide) (fun c => mm_sub [0] rfl (h1 c)) (fun c => mm_sub [0, 1] rfl (h2 c))
theorem t_R_init_31 {l : Launch} {G : mm_G} {b : Nat} {m : mm_Mem} {Q : mm_O → mm_Mem → Prop} {r0 : Nat} {x3 : Int32} {fs_1 : List Value} {q_4 : Nat} {b_6 : Nat} {b_8 : Nat} {b_9 : Nat} {m_11 : mm_Mem} {n_13 : Nat} {f_14 : Nat → Option Nat} {fs_18 : List Value} (g2 : m r0 = .inr (7, fs_1)) (z3 : r0 ≠ 0) (v5 : fs_1[2]? = some (.ref q_4)) (hb7 : 6 + 1 + b_6 ≤ b) (hb10 : b_8 + b_9 ≤ b_6) (M12 : mm_W l G k_G_init 0 (lv_args 0 [.ref (mm_n m + 1)]) [] b_8 (mm_push m (.inr (6, [.null, .int 0, .int 0, .long 0, .int 0, .int 0]))) (mm_is (.inl none) m_11)) (a15 : m_11 q_4 = .inl (G.2 5, n_13, .inr (.inr (.inr (.inr f_14))))) (z16 : q_4 ≠ 0) (i17 : vp_in x3 n_13) (g19 : m_11 (mm_n m + 1) = .inr (6, fs_18)) (h20 : mm_W l G k_R_init 25 [(0, .ref r0), (3, .int (x3 + 1))] [] b_9 (va_up m_11 q_4 (.inl (G.2 5, n_13, .inr (.inr (.inr (.inr (va_up f_14 x3.toNatClampNeg (some (mm_n m + 1))))))))) Q) : mm_W l G k_R_init 31 [(0, .ref r0), (3, .int x3)] [] b m Q := by
  refine mm_aload_n 0 (i := 0) d_R_init_31 rfl rfl ?_
  refine mm_get cc_R 2 (by decide) w_193 d_R_init_32 g2 z3 v5 ?_
  refine mm_iload_n 1 (i := 3) d_R_init_35 rfl rfl ?_
  refine mm_new (fs := [.null, .int 0, .int 0, .long 0, .int 0, .int 0]) cc_G w_122 w_124 w_8 df_G dz_G (fun _ => rfl) d_R_init_36 hb7 ?_
  refine mm_dup d_R_init_39 rfl ?_
  refine mm_callI (as := []) (st := [.ref (mm_n m + 1), .int x3, .ref q_4]) (b2 := b_9) ca_G_init rfl rfl rfl w_125 w_126 d_R_init_40 rfl (Nat.le_of_ble_eq_true rfl) (Nat.le_of_ble_eq_true rfl) (Nat.le_of_ble_eq_true rfl) hb10 M12 (fun E _ ⟨c, _⟩ => nomatch c) (fun v _ ⟨c, e⟩ => ?_)
  cases c
  rw [e]
  show mm_W l G k_R_init 43 [(0, .ref r0), (3, .int x3)] [.ref (mm_n m + 1), .int x3, .ref q_4] b_9 m_11 Q
  refine mm_aast (t := 5) rfl cc_G.1 d_R_init_43 a15 z16 g19 (Nat.succ_ne_zero _) i17 ?_
  refine mm_iinc 1 (i := 3) d_R_init_44 rfl (v := x3 + 1) rfl (Nat.le_of_ble_eq_true rfl) (lv2 := [(3, .int (x3 + 1)), (0, .ref r0)]) rfl ?_
  refine mm_goto (tgt := 25) d_R_init_47 (by decide) ?_
  exact mm_sub [1, 0] rfl h20
theorem t_R_init_50 {l : Launch} {G : mm_G} {b : Nat} {m : mm_Mem} {Q : mm_O → mm_Mem → Prop} {r0 : Nat} {b_1 : Nat} {b_3 : Nat} {b_4 : Nat} {m_6 : mm_Mem} {fs_8 : List Value} {b_12 : Nat} {n_13 : Nat} {fs_18 : List Value} {m_21 : mm_Mem} {fs_23 : List Value} {fs_26 : List Value} {fs_29 : List Value} (hb2 : 7 + 1 + b_1 ≤ b) (hb5 : b_3 + b_4 ≤ b_1) (M7 : mm_W l G k_F_init 0 (lv_args 0 [.ref (mm_n m + 1)]) [] b_3 (mm_push m (.inr (5, [.int 0, .int 0, .long 0, .long 0, .long 0, .int 0, .int 0]))) (mm_is (.inl none) m_6)) (g9 : m_6 r0 = .inr (7, fs_8)) (z10 : r0 ≠ 0) (l11 : 3 < fs_8.length) (k14 : ¬ (64 : Int32) < 0) (k15 : (64 : Int32).toNatClampNeg = n_13) (k16 : n_13 * 8 ≤ 536870912) (hb17 : n_13 + 1 + b_12 ≤ b_4) (g19 : (mm_push (va_up m_6 r0 (.inr (7, fs_8.set 3 (.ref (mm_n m + 1))))) (.inl (G.2 1, n_13, .inl (fun _ => 0)))) r0 = .inr (7, fs_18)) (l20 : 4 < fs_18.length) (q22 : m_21 = va_up (mm_push (va_up m_6 r0 (.inr (7, fs_8.set 3 (.ref (mm_n m + 1))))) (.inl (G.2 1, n_13, .inl (fun _ => 0)))) r0 (.inr (7, fs_18.set 4 (.ref (mm_n (va_up m_6 r0 (.inr (7, fs_8.set 3 (.ref (mm_n m + 1))))) + 1))))) (g24 : m_21 r0 = .inr (7, fs_23)) (l25 : 5 < fs_23.length) (g27 : (va_up m_21 r0 (.inr (7, fs_23.set 5 (.int 0)))) r0 = .inr (7, fs_26)) (l28 : 6 < fs_26.length) (g30 : (va_up (va_up m_21 r0 (.inr (7, fs_23.set 5 (.int 0)))) r0 (.inr (7, fs_26.set 6 (.int ((-1)))))) r0 = .inr (7, fs_29)) (l31 : 7 < fs_29.length) (h32 : Q (.inl none) (va_up (va_up (va_up m_21 r0 (.inr (7, fs_23.set 5 (.int 0)))) r0 (.inr (7, fs_26.set 6 (.int ((-1)))))) r0 (.inr (7, fs_29.set 7 (.int ((-1))))))) : mm_W l G k_R_init 50 [(0, .ref r0)] [] b m Q := by
  refine mm_aload_n 0 (i := 0) d_R_init_50 rfl rfl ?_
  refine mm_new (fs := [.int 0, .int 0, .long 0, .long 0, .long 0, .int 0, .int 0]) cc_F w_189 w_130 w_9 df_F dz_F (fun _ => rfl) d_R_init_51 hb2 ?_
  refine mm_dup d_R_init_54 rfl ?_
  refine mm_callIN (as := []) (st := [.ref (mm_n m + 1), .ref r0]) (b2 := b_4) ca_F_init rfl rfl rfl nw_190 w_132 d_R_init_55 rfl (Nat.le_of_ble_eq_true rfl) (Nat.le_of_ble_eq_true rfl) (Nat.le_of_ble_eq_true rfl) hb5 M7 (fun E _ ⟨c, _⟩ => nomatch c) (fun v _ ⟨c, e⟩ => ?_)
  cases c
  rw [e]
  show mm_W l G k_R_init 58 [(0, .ref r0)] [.ref (mm_n m + 1), .ref r0] b_4 m_6 Q
  refine mm_putF cc_R 3 (by decide) w_194 d_R_init_58 rfl rfl rfl (fun _ => rfl) (fun _ => rfl) g9 z10 l11 ?_
  refine mm_aload_n 0 (i := 0) d_R_init_61 rfl rfl ?_
  refine mm_bipush d_R_init_62 (v := 64) (by decide) ?_
  refine mm_newa (t := 1) (ty := .int) (a0 := .inl (fun _ => 0)) (atype := .int) w_56 rfl rfl (fun _ => rfl) (fun _ => trivial) (fun _ => rfl) d_R_init_64 k14 k15 (Nat.le_trans (Nat.mul_le_mul_left _ (by decide)) k16) hb17 ?_
  refine mm_putF cc_R 4 (by decide) w_195 d_R_init_66 rfl rfl rfl (fun _ => rfl) (fun _ => rfl) g19 z10 l20 ?_
  refine mm_eqm q22 ?_
  refine mm_aload_n 0 (i := 0) d_R_init_69 rfl rfl ?_
  refine mm_iconst d_R_init_70 (v := 0) (by decide) ?_
  refine mm_putf cc_R 5 (by decide) w_196 d_R_init_71 rfl (fun _ => rfl) (fun _ => rfl) g24 z10 l25 ?_
  refine mm_aload_n 0 (i := 0) d_R_init_74 rfl rfl ?_
  refine mm_iconst d_R_init_75 (v := (-1)) (by decide) ?_
  refine mm_putf cc_R 6 (by decide) w_198 d_R_init_76 rfl (fun _ => rfl) (fun _ => rfl) g27 z10 l28 ?_
  refine mm_aload_n 0 (i := 0) d_R_init_79 rfl rfl ?_
  refine mm_iconst d_R_init_80 (v := (-1)) (by decide) ?_
  refine mm_putf cc_R 7 (by decide) w_200 d_R_init_81 rfl (fun _ => rfl) (fun _ => rfl) g30 z10 l31 ?_
  exact mm_vret d_R_init_84 rfl h32
theorem t_R_findsNoFault_0 {l : Launch} {G : mm_G} {b : Nat} {m : mm_Mem} {Q : mm_O → mm_Mem → Prop} {r0 : Nat} {x1 : Int32} {b_1 : Nat} {b_2 : Nat} {m_4 : mm_Mem} {x_5 : Int32} {fs_6 : List Value} {b_10 : Nat} {b_11 : Nat} {P_13 : mm_O → mm_Mem → Prop} {fs_14 : List Value} (hb3 : b_1 + b_2 ≤ b) (g7 : m r0 = .inr (7, fs_6)) (z8 : r0 ≠ 0) (M9 : mm_W l G k_R_note 0 (lv_args 0 [.ref r0, .int 0, .int ((-1)), .int ((-1))]) [] b_1 m (mm_is (.inl (some (.int x_5))) m_4)) (hb12 : b_10 + b_11 ≤ b_2) (g15 : m_4 r0 = .inr (7, fs_14)) (M16 : mm_W l G k_R_examineEnd 0 (lv_args 0 [.ref r0]) [] b_10 m_4 P_13) (hx17 : ∀ (E : String) (n_2 : mm_Mem), ¬ P_13 (.inr E) n_2) (h18 : ∀ (v : Option Value) (n_2 : mm_Mem), P_13 (.inl v) n_2 → ∃ x9 : Int32, v = some (.int x9) ∧ mm_W l G k_R_findsNoFault 12 [(0, .ref r0), (1, .int x1)] [.int x9] b_11 n_2 Q) : mm_W l G k_R_findsNoFault 0 [(0, .ref r0), (1, .int x1)] [] b m Q := by
  refine mm_aload_n 0 (i := 0) d_R_findsNoFault_0 rfl rfl ?_
  refine mm_iconst d_R_findsNoFault_1 (v := 0) (by decide) ?_
  refine mm_iconst d_R_findsNoFault_2 (v := (-1)) (by decide) ?_
  refine mm_iconst d_R_findsNoFault_3 (v := (-1)) (by decide) ?_
  refine mm_callV (as := [.int 0, .int ((-1)), .int ((-1))]) (st := []) (b2 := b_2) ca_R_note w_623 w_625 v_R_note cc_R.1 rfl d_R_findsNoFault_4 rfl (Nat.le_of_ble_eq_true rfl) (Nat.le_of_ble_eq_true rfl) (Nat.le_of_ble_eq_true rfl) hb3 g7 z8 M9 (fun E _ ⟨c, _⟩ => nomatch c) (fun v _ ⟨c, e⟩ => ?_)
  cases c
  rw [e]
  show mm_W l G k_R_findsNoFault 7 [(0, .ref r0), (1, .int x1)] [.int x_5] b_2 m_4 Q
  refine mm_pop d_R_findsNoFault_7 rfl ?_
  refine mm_aload_n 0 (i := 0) d_R_findsNoFault_8 rfl rfl ?_
  refine mm_callV (as := []) (st := []) (b2 := b_11) ca_R_examineEnd w_627 w_629 v_R_examineEnd cc_R.1 rfl d_R_findsNoFault_9 rfl (Nat.le_of_ble_eq_true rfl) (Nat.le_of_ble_eq_true rfl) (Nat.le_of_ble_eq_true rfl) hb12 g15 z8 M16 (fun E m2 q => absurd q (hx17 E m2)) (fun v m2 q => ?_)
  obtain ⟨x9, rfl, z9⟩ := h18 v m2 q
  exact mm_sub [0, 1] rfl z9
theorem t_R_findsNoFault_12 {l : Launch} {G : mm_G} {b : Nat} {m : mm_Mem} {Q : mm_O → mm_Mem → Prop} {r0 : Nat} {x1 : Int32} {xs0 : Int32} (h1 : (xs0 = 0) → mm_W l G k_R_findsNoFault 48 [] [] b m Q) (h2 : (¬ xs0 = 0) → mm_W l G k_R_findsNoFault 15 [(0, .ref r0), (1, .int x1)] [] b m Q) : mm_W l G k_R_findsNoFault 12 [(0, .ref r0), (1, .int x1)] [.int xs0] b m Q := by
  exact mm_if_eq (tgt := 48) d_R_findsNoFault_12 (by decide) (fun c => mm_sub [] rfl (h1 c)) (fun c => mm_sub [0, 1] rfl (h2 c))
theorem t_R_findsNoFault_15 {l : Launch} {G : mm_G} {b : Nat} {m : mm_Mem} {Q : mm_O → mm_Mem → Prop} {r0 : Nat} {x1 : Int32} {b_1 : Nat} {b_2 : Nat} {P_4 : mm_O → mm_Mem → Prop} {fs_5 : List Value} (hb3 : b_1 + b_2 ≤ b) (g6 : m r0 = .inr (7, fs_5)) (z7 : r0 ≠ 0) (M8 : mm_W l G k_R_examineDirectory 0 (lv_args 0 [.ref r0, .int x1]) [] b_1 m P_4) (hx9 : ∀ (E : String) (n_2 : mm_Mem), ¬ P_4 (.inr E) n_2) (h10 : ∀ (v : Option Value) (n_2 : mm_Mem), P_4 (.inl v) n_2 → ∃ x9 : Int32, v = some (.int x9) ∧ mm_W l G k_R_findsNoFault 20 [(0, .ref r0)] [.int x9] b_2 n_2 Q) : mm_W l G k_R_findsNoFault 15 [(0, .ref r0), (1, .int x1)] [] b m Q := by
  refine mm_aload_n 0 (i := 0) d_R_findsNoFault_15 rfl rfl ?_
  refine mm_iload_n 1 (i := 1) d_R_findsNoFault_16 rfl rfl ?_
  refine mm_callV (as := [.int x1]) (st := []) (b2 := b_2) ca_R_examineDirectory w_648 w_650 v_R_examineDirectory cc_R.1 rfl d_R_findsNoFault_17 rfl (Nat.le_of_ble_eq_true rfl) (Nat.le_of_ble_eq_true rfl) (Nat.le_of_ble_eq_true rfl) hb3 g6 z7 M8 (fun E m2 q => absurd q (hx9 E m2)) (fun v m2 q => ?_)
  obtain ⟨x9, rfl, z9⟩ := h10 v m2 q
  exact mm_sub [0] rfl z9
theorem t_R_findsNoFault_20 {l : Launch} {G : mm_G} {b : Nat} {m : mm_Mem} {Q : mm_O → mm_Mem → Prop} {r0 : Nat} {xs0 : Int32} (h1 : (xs0 = 0) → mm_W l G k_R_findsNoFault 48 [] [] b m Q) (h2 : (¬ xs0 = 0) → mm_W l G k_R_findsNoFault 23 [(0, .ref r0)] [] b m Q) : mm_W l G k_R_findsNoFault 20 [(0, .ref r0)] [.int xs0] b m Q := by
  exact mm_if_eq (tgt := 48) d_R_findsNoFault_20 (by decide) (fun c => mm_sub [] rfl (h1 c)) (fun c => mm_sub [0] rfl (h2 c))
theorem t_R_findsNoFault_23 {l : Launch} {G : mm_G} {b : Nat} {m : mm_Mem} {Q : mm_O → mm_Mem → Prop} {r0 : Nat} {b_1 : Nat} {b_2 : Nat} {P_4 : mm_O → mm_Mem → Prop} {fs_5 : List Value} (hb3 : b_1 + b_2 ≤ b) (g6 : m r0 = .inr (7, fs_5)) (z7 : r0 ≠ 0) (M8 : mm_W l G k_R_examineEntries 0 (lv_args 0 [.ref r0]) [] b_1 m P_4) (hx9 : ∀ (E : String) (n_2 : mm_Mem), ¬ P_4 (.inr E) n_2) (h10 : ∀ (v : Option Value) (n_2 : mm_Mem), P_4 (.inl v) n_2 → ∃ x9 : Int32, v = some (.int x9) ∧ mm_W l G k_R_findsNoFault 27 [(0, .ref r0)] [.int x9] b_2 n_2 Q) : mm_W l G k_R_findsNoFault 23 [(0, .ref r0)] [] b m Q := by
  refine mm_aload_n 0 (i := 0) d_R_findsNoFault_23 rfl rfl ?_
  refine mm_callV (as := []) (st := []) (b2 := b_2) ca_R_examineEntries w_673 w_675 v_R_examineEntries cc_R.1 rfl d_R_findsNoFault_24 rfl (Nat.le_of_ble_eq_true rfl) (Nat.le_of_ble_eq_true rfl) (Nat.le_of_ble_eq_true rfl) hb3 g6 z7 M8 (fun E m2 q => absurd q (hx9 E m2)) (fun v m2 q => ?_)
  obtain ⟨x9, rfl, z9⟩ := h10 v m2 q
  exact mm_sub [0] rfl z9
theorem t_R_findsNoFault_27 {l : Launch} {G : mm_G} {b : Nat} {m : mm_Mem} {Q : mm_O → mm_Mem → Prop} {r0 : Nat} {xs0 : Int32} (h1 : (xs0 = 0) → mm_W l G k_R_findsNoFault 48 [] [] b m Q) (h2 : (¬ xs0 = 0) → mm_W l G k_R_findsNoFault 30 [(0, .ref r0)] [] b m Q) : mm_W l G k_R_findsNoFault 27 [(0, .ref r0)] [.int xs0] b m Q := by
  exact mm_if_eq (tgt := 48) d_R_findsNoFault_27 (by decide) (fun c => mm_sub [] rfl (h1 c)) (fun c => mm_sub [0] rfl (h2 c))
theorem t_R_findsNoFault_30 {l : Launch} {G : mm_G} {b : Nat} {m : mm_Mem} {Q : mm_O → mm_Mem → Prop} {r0 : Nat} {b_1 : Nat} {b_2 : Nat} {P_4 : mm_O → mm_Mem → Prop} {fs_5 : List Value} (hb3 : b_1 + b_2 ≤ b) (g6 : m r0 = .inr (7, fs_5)) (z7 : r0 ≠ 0) (M8 : mm_W l G k_R_examinePlaces 0 (lv_args 0 [.ref r0]) [] b_1 m P_4) (hx9 : ∀ (E : String) (n_2 : mm_Mem), ¬ P_4 (.inr E) n_2) (h10 : ∀ (v : Option Value) (n_2 : mm_Mem), P_4 (.inl v) n_2 → ∃ x9 : Int32, v = some (.int x9) ∧ mm_W l G k_R_findsNoFault 34 [(0, .ref r0)] [.int x9] b_2 n_2 Q) : mm_W l G k_R_findsNoFault 30 [(0, .ref r0)] [] b m Q := by
  refine mm_aload_n 0 (i := 0) d_R_findsNoFault_30 rfl rfl ?_
  refine mm_callV (as := []) (st := []) (b2 := b_2) ca_R_examinePlaces w_704 w_706 v_R_examinePlaces cc_R.1 rfl d_R_findsNoFault_31 rfl (Nat.le_of_ble_eq_true rfl) (Nat.le_of_ble_eq_true rfl) (Nat.le_of_ble_eq_true rfl) hb3 g6 z7 M8 (fun E m2 q => absurd q (hx9 E m2)) (fun v m2 q => ?_)
  obtain ⟨x9, rfl, z9⟩ := h10 v m2 q
  exact mm_sub [0] rfl z9
theorem t_R_findsNoFault_34 {l : Launch} {G : mm_G} {b : Nat} {m : mm_Mem} {Q : mm_O → mm_Mem → Prop} {r0 : Nat} {xs0 : Int32} (h1 : (xs0 = 0) → mm_W l G k_R_findsNoFault 48 [] [] b m Q) (h2 : (¬ xs0 = 0) → mm_W l G k_R_findsNoFault 37 [(0, .ref r0)] [] b m Q) : mm_W l G k_R_findsNoFault 34 [(0, .ref r0)] [.int xs0] b m Q := by
  exact mm_if_eq (tgt := 48) d_R_findsNoFault_34 (by decide) (fun c => mm_sub [] rfl (h1 c)) (fun c => mm_sub [0] rfl (h2 c))
theorem t_R_findsNoFault_37 {l : Launch} {G : mm_G} {b : Nat} {m : mm_Mem} {Q : mm_O → mm_Mem → Prop} {r0 : Nat} {b_1 : Nat} {b_2 : Nat} {m_4 : mm_Mem} {x_5 : Int32} {fs_6 : List Value} (hb3 : b_1 + b_2 ≤ b) (g7 : m r0 = .inr (7, fs_6)) (z8 : r0 ≠ 0) (M9 : mm_W l G k_R_examineChecks 0 (lv_args 0 [.ref r0]) [] b_1 m (mm_is (.inl (some (.int x_5))) m_4)) (h10 : (x_5 = 0) → mm_W l G k_R_findsNoFault 48 [] [] b_2 m_4 Q) (h11 : (¬ x_5 = 0) → mm_W l G k_R_findsNoFault 44 [] [] b_2 m_4 Q) : mm_W l G k_R_findsNoFault 37 [(0, .ref r0)] [] b m Q := by
  refine mm_aload_n 0 (i := 0) d_R_findsNoFault_37 rfl rfl ?_
  refine mm_callV (as := []) (st := []) (b2 := b_2) ca_R_examineChecks w_712 w_714 v_R_examineChecks cc_R.1 rfl d_R_findsNoFault_38 rfl (Nat.le_of_ble_eq_true rfl) (Nat.le_of_ble_eq_true rfl) (Nat.le_of_ble_eq_true rfl) hb3 g7 z8 M9 (fun E _ ⟨c, _⟩ => nomatch c) (fun v _ ⟨c, e⟩ => ?_)
  cases c
  rw [e]
  show mm_W l G k_R_findsNoFault 41 [(0, .ref r0)] [.int x_5] b_2 m_4 Q
  exact mm_if_eq (tgt := 48) d_R_findsNoFault_41 (by decide) (fun c => mm_sub [] rfl (h10 c)) (fun c => mm_sub [] rfl (h11 c))
theorem t_R_findsNoFault_44 {l : Launch} {G : mm_G} {b : Nat} {m : mm_Mem} {Q : mm_O → mm_Mem → Prop}  (h1 : mm_W l G k_R_findsNoFault 49 [] [.int 1] b m Q) : mm_W l G k_R_findsNoFault 44 [] [] b m Q := by
  refine mm_iconst d_R_findsNoFault_44 (v := 1) (by decide) ?_
  refine mm_goto (tgt := 49) d_R_findsNoFault_45 (by decide) ?_
  exact mm_sub [] rfl h1
theorem t_R_findsNoFault_48 {l : Launch} {G : mm_G} {b : Nat} {m : mm_Mem} {Q : mm_O → mm_Mem → Prop}  (h1 : mm_W l G k_R_findsNoFault 49 [] [.int 0] b m Q) : mm_W l G k_R_findsNoFault 48 [] [] b m Q := by
  refine mm_iconst d_R_findsNoFault_48 (v := 0) (by decide) ?_
  exact mm_sub [] rfl h1
theorem t_R_findsNoFault_49 {l : Launch} {G : mm_G} {b : Nat} {m : mm_Mem} {Q : mm_O → mm_Mem → Prop} {xs0 : Int32} (h1 : Q (.inl (some (.int xs0))) m) (hn2 : narrow .boolean (.int xs0) = .int xs0) : mm_W l G k_R_findsNoFault 49 [] [.int xs0] b m Q := by
  exact mm_zret d_R_findsNoFault_49 rfl hn2 h1
theorem t_R_unpackInto_0 {l : Launch} {G : mm_G} {b : Nat} {m : mm_Mem} {Q : mm_O → mm_Mem → Prop} {r0 : Nat} {r1 : Nat} {b_1 : Nat} {b_2 : Nat} {m_4 : mm_Mem} {fs_5 : List Value} (hb3 : b_1 + b_2 ≤ b) (g6 : m r1 = .inr (1, fs_5)) (z7 : r1 ≠ 0) (M8 : mm_W l G k_X_clear 0 (lv_args 0 [.ref r1]) [] b_1 m (mm_is (.inl none) m_4)) (h9 : mm_W l G k_R_unpackInto 6 [(0, .ref r0), (1, .ref r1), (2, .int 0)] [] b_2 m_4 Q) : mm_W l G k_R_unpackInto 0 [(0, .ref r0), (1, .ref r1)] [] b m Q := by
  refine mm_aload_n 1 (i := 1) d_R_unpackInto_0 rfl rfl ?_
  refine mm_callV (as := []) (st := []) (b2 := b_2) ca_X_clear w_721 w_722 w_723 cc_X.1 rfl d_R_unpackInto_1 rfl (Nat.le_of_ble_eq_true rfl) (Nat.le_of_ble_eq_true rfl) (Nat.le_of_ble_eq_true rfl) hb3 g6 z7 M8 (fun E _ ⟨c, _⟩ => nomatch c) (fun v _ ⟨c, e⟩ => ?_)
  cases c
  rw [e]
  show mm_W l G k_R_unpackInto 4 [(0, .ref r0), (1, .ref r1)] [] b_2 m_4 Q
  refine mm_iconst d_R_unpackInto_4 (v := 0) (by decide) ?_
  refine mm_istore_n (i := 2) d_R_unpackInto_5 rfl (Nat.le_of_ble_eq_true rfl) (lv2 := [(2, .int 0), (0, .ref r0), (1, .ref r1)]) rfl ?_
  exact mm_sub [1, 2, 0] rfl h9
theorem t_R_unpackInto_6 {l : Launch} {G : mm_G} {b : Nat} {m : mm_Mem} {Q : mm_O → mm_Mem → Prop} {r0 : Nat} {r1 : Nat} {x2 : Int32} {fs_1 : List Value} {u_4 : Int32} (g2 : m r0 = .inr (7, fs_1)) (z3 : r0 ≠ 0) (v5 : fs_1[10]? = some (.int u_4)) (h6 : (u_4 ≤ x2) → mm_W l G k_R_unpackInto 101 [] [] b m Q) (h7 : (¬ u_4 ≤ x2) → mm_W l G k_R_unpackInto 14 [(0, .ref r0), (1, .ref r1), (2, .int x2)] [] b m Q) : mm_W l G k_R_unpackInto 6 [(0, .ref r0), (1, .ref r1), (2, .int x2)] [] b m Q := by
  refine mm_iload_n 2 (i := 2) d_R_unpackInto_6 rfl rfl ?_
  refine mm_aload_n 0 (i := 0) d_R_unpackInto_7 rfl rfl ?_
  refine mm_get cc_R 10 (by decide) w_204 d_R_unpackInto_8 g2 z3 v5 ?_
  exact mm_icmp_ge (tgt := 101) d_R_unpackInto_11 (by decide) (fun c => mm_sub [] rfl (h6 c)) (fun c => mm_sub [0, 1, 2] rfl (h7 c))
theorem t_R_unpackInto_14 {l : Launch} {G : mm_G} {b : Nat} {m : mm_Mem} {Q : mm_O → mm_Mem → Prop} {r0 : Nat} {r1 : Nat} {x2 : Int32} {fs_1 : List Value} {q_4 : Nat} {n_6 : Nat} {f_7 : Nat → Option Nat} {q_11 : Nat} {fs_13 : List Value} {q_16 : Nat} {q_18 : Nat} {u_20 : Int32} {fs_22 : List Value} {v_25 : Int64} {b_27 : Nat} {b_28 : Nat} {P_30 : mm_O → mm_Mem → Prop} {fs_31 : List Value} (g2 : m r0 = .inr (7, fs_1)) (z3 : r0 ≠ 0) (v5 : fs_1[2]? = some (.ref q_4)) (a8 : m q_4 = .inl (G.2 5, n_6, .inr (.inr (.inr (.inr f_7))))) (z9 : q_4 ≠ 0) (i10 : vp_in x2 n_6) (e12 : f_7 x2.toNatClampNeg = some q_11) (g14 : m q_11 = .inr (6, fs_13)) (z15 : q_11 ≠ 0) (v17 : fs_13[0]? = some (.ref q_16)) (v19 : fs_1[0]? = some (.ref q_18)) (v21 : fs_13[4]? = some (.int u_20)) (g23 : m q_16 = .inr (5, fs_22)) (z24 : q_16 ≠ 0) (v26 : fs_22[3]? = some (.long v_25)) (hb29 : b_27 + b_28 ≤ b) (g32 : m r1 = .inr (1, fs_31)) (z33 : r1 ≠ 0) (M34 : mm_W l G k_X_append 0 (lv_args 0 [.ref r1, .ref q_18, .int u_20, .int v_25.toInt32]) [] b_27 m P_30) (hx35 : ∀ (E : String) (n_2 : mm_Mem), ¬ P_30 (.inr E) n_2) (h36 : ∀ (v : Option Value) (n_2 : mm_Mem), P_30 (.inl v) n_2 → ∃ w9 : Value, v = some w9 ∧ mm_W l G k_R_unpackInto 45 [(0, .ref r0), (1, .ref r1), (2, .int x2), (3, .ref q_11), (4, .ref q_16)] [w9] b_28 n_2 Q) : mm_W l G k_R_unpackInto 14 [(0, .ref r0), (1, .ref r1), (2, .int x2)] [] b m Q := by
  refine mm_aload_n 0 (i := 0) d_R_unpackInto_14 rfl rfl ?_
  refine mm_get cc_R 2 (by decide) w_193 d_R_unpackInto_15 g2 z3 v5 ?_
  refine mm_iload_n 2 (i := 2) d_R_unpackInto_18 rfl rfl ?_
  refine mm_aald (t := 5) rfl d_R_unpackInto_19 a8 z9 i10 e12 ?_
  refine mm_astore_n (i := 3) d_R_unpackInto_20 rfl (Nat.le_of_ble_eq_true rfl) (lv2 := [(3, .ref q_11), (0, .ref r0), (1, .ref r1), (2, .int x2)]) rfl ?_
  refine mm_aload_n 0 (i := 3) d_R_unpackInto_21 rfl rfl ?_
  refine mm_getN cc_G 0 (by decide) nw_167 d_R_unpackInto_22 g14 z15 v17 ?_
  refine mm_astore (i := 4) d_R_unpackInto_25 (Nat.le_of_ble_eq_true rfl) (lv2 := [(4, .ref q_16), (3, .ref q_11), (0, .ref r0), (1, .ref r1), (2, .int x2)]) rfl ?_
  refine mm_aload_n 3 (i := 1) d_R_unpackInto_27 rfl rfl ?_
  refine mm_aload_n 2 (i := 0) d_R_unpackInto_28 rfl rfl ?_
  refine mm_get cc_R 0 (by decide) w_191 d_R_unpackInto_29 g2 z3 v19 ?_
  refine mm_aload_n 1 (i := 3) d_R_unpackInto_32 rfl rfl ?_
  refine mm_getN cc_G 4 (by decide) nw_174 d_R_unpackInto_33 g14 z15 v21 ?_
  refine mm_aload 0 (i := 4) d_R_unpackInto_36 rfl ?_
  refine mm_getN cc_F 3 (by decide) nw_142 d_R_unpackInto_38 g23 z24 v26 ?_
  refine mm_l2i d_R_unpackInto_41 ?_
  refine mm_callV (as := [.ref q_18, .int u_20, .int v_25.toInt32]) (st := []) (b2 := b_28) ca_X_append w_725 w_479 w_480 cc_X.1 rfl d_R_unpackInto_42 rfl (Nat.le_of_ble_eq_true rfl) (Nat.le_of_ble_eq_true rfl) (Nat.le_of_ble_eq_true rfl) hb29 g32 z33 M34 (fun E m2 q => absurd q (hx35 E m2)) (fun v m2 q => ?_)
  obtain ⟨w9, rfl, z9⟩ := h36 v m2 q
  exact mm_sub [2, 3, 4, 1, 0] rfl z9
theorem t_R_unpackInto_45 {l : Launch} {G : mm_G} {b : Nat} {m : mm_Mem} {Q : mm_O → mm_Mem → Prop} {r0 : Nat} {r1 : Nat} {x2 : Int32} {r3 : Nat} {r4 : Nat} {ws0 : Value} (hw1 : ws0 = .null ∨ ∃ r, ws0 = .ref r) (h2 : (∀ r, ws0 = .ref r → mm_W l G k_R_unpackInto 52 [(0, .ref r0), (1, .ref r1), (2, .int x2), (3, .ref r3), (4, .ref r4), (5, ws0)] [] b m Q)) (h3 : (ws0 = .null → mm_W l G k_R_unpackInto 95 [(0, .ref r0), (1, .ref r1), (2, .int x2)] [] b m Q)) : mm_W l G k_R_unpackInto 45 [(0, .ref r0), (1, .ref r1), (2, .int x2), (3, .ref r3), (4, .ref r4)] [ws0] b m Q := by
  refine mm_astoreV (i := 5) d_R_unpackInto_45 (Nat.le_of_ble_eq_true rfl) (lv2 := [(5, ws0), (0, .ref r0), (1, .ref r1), (2, .int x2), (3, .ref r3), (4, .ref r4)]) rfl hw1 ?_
  refine mm_aloadV 0 (i := 5) d_R_unpackInto_47 rfl hw1 ?_
  exact mm_ifnullV (tgt := 95) d_R_unpackInto_49 (by decide) hw1 (fun r c => mm_sub [1, 2, 3, 4, 5, 0] rfl (h2 r c)) (fun c => mm_sub [1, 2, 3] rfl (h3 c))
theorem t_R_unpackInto_52 {l : Launch} {G : mm_G} {b : Nat} {m : mm_Mem} {Q : mm_O → mm_Mem → Prop} {r0 : Nat} {r1 : Nat} {x2 : Int32} {r3 : Nat} {r4 : Nat} {r5 : Nat} {fs_1 : List Value} {q_4 : Nat} {fs_6 : List Value} {q_9 : Nat} {fs_11 : List Value} {u_14 : Int32} {fs_16 : List Value} {u_19 : Int32} {b_21 : Nat} {b_22 : Nat} {m_24 : mm_Mem} {fs_25 : List Value} {fs_29 : List Value} {u_31 : Int32} {v_33 : Int64} {v_35 : Int64} {b_37 : Nat} {b_38 : Nat} {m_40 : mm_Mem} {fs_41 : List Value} (g2 : m r5 = .inr (4, fs_1)) (z3 : r5 ≠ 0) (v5 : fs_1[0]? = some (.ref q_4)) (g7 : m r0 = .inr (7, fs_6)) (z8 : r0 ≠ 0) (v10 : fs_6[0]? = some (.ref q_9)) (g12 : m r3 = .inr (6, fs_11)) (z13 : r3 ≠ 0) (v15 : fs_11[1]? = some (.int u_14)) (g17 : m r4 = .inr (5, fs_16)) (z18 : r4 ≠ 0) (v20 : fs_16[5]? = some (.int u_19)) (hb23 : b_21 + b_22 ≤ b) (g26 : m q_4 = .inr (2, fs_25)) (z27 : q_4 ≠ 0) (M28 : mm_W l G k_B_pushAll 0 (lv_args 0 [.ref q_4, .ref q_9, .int u_14, .int u_19]) [] b_21 m (mm_is (.inl none) m_24)) (g30 : m_24 r4 = .inr (5, fs_29)) (v32 : fs_29[1]? = some (.int u_31)) (v34 : fs_29[4]? = some (.long v_33)) (v36 : fs_29[2]? = some (.long v_35)) (hb39 : b_37 + b_38 ≤ b_22) (g42 : m_24 r5 = .inr (4, fs_41)) (M43 : mm_W l G k_E_describe 0 (lv_args 0 [.ref r5, .int u_31, .int v_33.toInt32, .int v_35.toInt32]) [] b_37 m_24 (mm_is (.inl none) m_40)) (h44 : mm_W l G k_R_unpackInto 95 [(0, .ref r0), (1, .ref r1), (2, .int x2)] [] b_38 m_40 Q) : mm_W l G k_R_unpackInto 52 [(0, .ref r0), (1, .ref r1), (2, .int x2), (3, .ref r3), (4, .ref r4), (5, .ref r5)] [] b m Q := by
  refine mm_aload 5 (i := 5) d_R_unpackInto_52 rfl ?_
  refine mm_getN cc_E 0 (by decide) nw_73 d_R_unpackInto_54 g2 z3 v5 ?_
  refine mm_aload_n 0 (i := 0) d_R_unpackInto_57 rfl rfl ?_
  refine mm_get cc_R 0 (by decide) w_191 d_R_unpackInto_58 g7 z8 v10 ?_
  refine mm_aload_n 3 (i := 3) d_R_unpackInto_61 rfl rfl ?_
  refine mm_getN cc_G 1 (by decide) nw_169 d_R_unpackInto_62 g12 z13 v15 ?_
  refine mm_aload 4 (i := 4) d_R_unpackInto_65 rfl ?_
  refine mm_getN cc_F 5 (by decide) nw_147 d_R_unpackInto_67 g17 z18 v20 ?_
  refine mm_callV (as := [.ref q_9, .int u_14, .int u_19]) (st := []) (b2 := b_22) ca_B_pushAll w_726 w_485 w_486 cc_B.1 rfl d_R_unpackInto_70 rfl (Nat.le_of_ble_eq_true rfl) (Nat.le_of_ble_eq_true rfl) (Nat.le_of_ble_eq_true rfl) hb23 g26 z27 M28 (fun E _ ⟨c, _⟩ => nomatch c) (fun v _ ⟨c, e⟩ => ?_)
  cases c
  rw [e]
  show mm_W l G k_R_unpackInto 73 [(0, .ref r0), (1, .ref r1), (2, .int x2), (3, .ref r3), (4, .ref r4), (5, .ref r5)] [] b_22 m_24 Q
  refine mm_aload 5 (i := 5) d_R_unpackInto_73 rfl ?_
  refine mm_aload 4 (i := 4) d_R_unpackInto_75 rfl ?_
  refine mm_getN cc_F 1 (by decide) nw_138 d_R_unpackInto_77 g30 z18 v32 ?_
  refine mm_aload 4 (i := 4) d_R_unpackInto_80 rfl ?_
  refine mm_getN cc_F 4 (by decide) nw_144 d_R_unpackInto_82 g30 z18 v34 ?_
  refine mm_l2i d_R_unpackInto_85 ?_
  refine mm_aload 4 (i := 4) d_R_unpackInto_86 rfl ?_
  refine mm_getN cc_F 2 (by decide) nw_140 d_R_unpackInto_88 g30 z18 v36 ?_
  refine mm_l2i d_R_unpackInto_91 ?_
  refine mm_callV (as := [.int u_31, .int v_33.toInt32, .int v_35.toInt32]) (st := []) (b2 := b_38) ca_E_describe w_727 w_499 w_500 cc_E.1 rfl d_R_unpackInto_92 rfl (Nat.le_of_ble_eq_true rfl) (Nat.le_of_ble_eq_true rfl) (Nat.le_of_ble_eq_true rfl) hb39 g42 z3 M43 (fun E _ ⟨c, _⟩ => nomatch c) (fun v _ ⟨c, e⟩ => ?_)
  cases c
  rw [e]
  show mm_W l G k_R_unpackInto 95 [(0, .ref r0), (1, .ref r1), (2, .int x2), (3, .ref r3), (4, .ref r4), (5, .ref r5)] [] b_38 m_40 Q
  exact mm_sub [0, 1, 2] rfl h44
theorem t_R_unpackInto_95 {l : Launch} {G : mm_G} {b : Nat} {m : mm_Mem} {Q : mm_O → mm_Mem → Prop} {r0 : Nat} {r1 : Nat} {x2 : Int32} (h1 : mm_W l G k_R_unpackInto 6 [(0, .ref r0), (1, .ref r1), (2, .int (x2 + 1))] [] b m Q) : mm_W l G k_R_unpackInto 95 [(0, .ref r0), (1, .ref r1), (2, .int x2)] [] b m Q := by
  refine mm_iinc 2 (i := 2) d_R_unpackInto_95 rfl (v := x2 + 1) rfl (Nat.le_of_ble_eq_true rfl) (lv2 := [(2, .int (x2 + 1)), (0, .ref r0), (1, .ref r1)]) rfl ?_
  refine mm_goto (tgt := 6) d_R_unpackInto_98 (by decide) ?_
  exact mm_sub [1, 2, 0] rfl h1
theorem t_R_unpackInto_101 {l : Launch} {G : mm_G} {b : Nat} {m : mm_Mem} {Q : mm_O → mm_Mem → Prop}  (h1 : Q (.inl none) m) : mm_W l G k_R_unpackInto 101 [] [] b m Q := by
  exact mm_vret d_R_unpackInto_101 rfl h1
theorem t_R_note_0 {l : Launch} {G : mm_G} {b : Nat} {m : mm_Mem} {Q : mm_O → mm_Mem → Prop} {r0 : Nat} {x1 : Int32} {x2 : Int32} {x3 : Int32} {fs_1 : List Value} {fs_5 : List Value} {fs_8 : List Value} (g2 : m r0 = .inr (7, fs_1)) (z3 : r0 ≠ 0) (l4 : 5 < fs_1.length) (g6 : (va_up m r0 (.inr (7, fs_1.set 5 (.int x1)))) r0 = .inr (7, fs_5)) (l7 : 6 < fs_5.length) (g9 : (va_up (va_up m r0 (.inr (7, fs_1.set 5 (.int x1)))) r0 (.inr (7, fs_5.set 6 (.int x2)))) r0 = .inr (7, fs_8)) (l10 : 7 < fs_8.length) (h11 : Q (.inl (some (.int 0))) (va_up (va_up (va_up m r0 (.inr (7, fs_1.set 5 (.int x1)))) r0 (.inr (7, fs_5.set 6 (.int x2)))) r0 (.inr (7, fs_8.set 7 (.int x3))))) (hn12 : narrow .boolean (.int 0) = .int 0) : mm_W l G k_R_note 0 [(0, .ref r0), (1, .int x1), (2, .int x2), (3, .int x3)] [] b m Q := by
  refine mm_aload_n 0 (i := 0) d_R_note_0 rfl rfl ?_
  refine mm_iload_n 1 (i := 1) d_R_note_1 rfl rfl ?_
  refine mm_putf cc_R 5 (by decide) w_196 d_R_note_2 rfl (fun _ => rfl) (fun _ => rfl) g2 z3 l4 ?_
  refine mm_aload_n 0 (i := 0) d_R_note_5 rfl rfl ?_
  refine mm_iload_n 2 (i := 2) d_R_note_6 rfl rfl ?_
  refine mm_putf cc_R 6 (by decide) w_198 d_R_note_7 rfl (fun _ => rfl) (fun _ => rfl) g6 z3 l7 ?_
  refine mm_aload_n 0 (i := 0) d_R_note_10 rfl rfl ?_
  refine mm_iload_n 3 (i := 3) d_R_note_11 rfl rfl ?_
  refine mm_putf cc_R 7 (by decide) w_200 d_R_note_12 rfl (fun _ => rfl) (fun _ => rfl) g9 z3 l10 ?_
  refine mm_iconst d_R_note_15 (v := 0) (by decide) ?_
  exact mm_zret d_R_note_16 rfl hn12 h11
theorem t_R_examineEnd_0 {l : Launch} {G : mm_G} {b : Nat} {m : mm_Mem} {Q : mm_O → mm_Mem → Prop} {r0 : Nat} {b_1 : Nat} {b_2 : Nat} {m_4 : mm_Mem} {x_5 : Int32} {fs_6 : List Value} {fs_10 : List Value} {fs_13 : List Value} {u_15 : Int32} (hb3 : b_1 + b_2 ≤ b) (g7 : m r0 = .inr (7, fs_6)) (z8 : r0 ≠ 0) (M9 : mm_W l G k_R_lastEnd 0 (lv_args 0 [.ref r0]) [] b_1 m (mm_is (.inl (some (.int x_5))) m_4)) (g11 : m_4 r0 = .inr (7, fs_10)) (l12 : 8 < fs_10.length) (g14 : (va_up m_4 r0 (.inr (7, fs_10.set 8 (.int x_5)))) r0 = .inr (7, fs_13)) (v16 : fs_13[8]? = some (.int u_15)) (h17 : (¬ u_15 = ((-1))) → mm_W l G k_R_examineEnd 30 [(0, .ref r0)] [] b_2 (va_up m_4 r0 (.inr (7, fs_10.set 8 (.int x_5)))) Q) (h18 : (u_15 = ((-1))) → mm_W l G k_R_examineEnd 16 [(0, .ref r0)] [] b_2 (va_up m_4 r0 (.inr (7, fs_10.set 8 (.int x_5)))) Q) : mm_W l G k_R_examineEnd 0 [(0, .ref r0)] [] b m Q := by
  refine mm_aload_n 0 (i := 0) d_R_examineEnd_0 rfl rfl ?_
  refine mm_aload_n 0 (i := 0) d_R_examineEnd_1 rfl rfl ?_
  refine mm_callV (as := []) (st := [.ref r0]) (b2 := b_2) ca_R_lastEnd w_631 w_633 v_R_lastEnd cc_R.1 rfl d_R_examineEnd_2 rfl (Nat.le_of_ble_eq_true rfl) (Nat.le_of_ble_eq_true rfl) (Nat.le_of_ble_eq_true rfl) hb3 g7 z8 M9 (fun E _ ⟨c, _⟩ => nomatch c) (fun v _ ⟨c, e⟩ => ?_)
  cases c
  rw [e]
  show mm_W l G k_R_examineEnd 5 [(0, .ref r0)] [.int x_5, .ref r0] b_2 m_4 Q
  refine mm_putf cc_R 8 (by decide) w_202 d_R_examineEnd_5 rfl (fun _ => rfl) (fun _ => rfl) g11 z8 l12 ?_
  refine mm_aload_n 0 (i := 0) d_R_examineEnd_8 rfl rfl ?_
  refine mm_get cc_R 8 (by decide) w_202 d_R_examineEnd_9 g14 z8 v16 ?_
  refine mm_iconst d_R_examineEnd_12 (v := (-1)) (by decide) ?_
  exact mm_icmp_ne (tgt := 30) d_R_examineEnd_13 (by decide) (fun c => mm_sub [0] rfl (h17 c)) (fun c => mm_sub [0] rfl (h18 c))
theorem t_R_examineEnd_16 {l : Launch} {G : mm_G} {b : Nat} {m : mm_Mem} {Q : mm_O → mm_Mem → Prop} {r0 : Nat} {fs_1 : List Value} {q_4 : Nat} {b_6 : Nat} {b_7 : Nat} {m_9 : mm_Mem} {x_10 : Int32} {fs_11 : List Value} {b_15 : Nat} {b_16 : Nat} {m_18 : mm_Mem} {x_19 : Int32} {fs_20 : List Value} (g2 : m r0 = .inr (7, fs_1)) (z3 : r0 ≠ 0) (v5 : fs_1[0]? = some (.ref q_4)) (hb8 : b_6 + b_7 ≤ b) (g12 : m q_4 = .inr (2, fs_11)) (z13 : q_4 ≠ 0) (M14 : mm_W l G k_B_size 0 (lv_args 0 [.ref q_4]) [] b_6 m (mm_is (.inl (some (.int x_10))) m_9)) (hb17 : b_15 + b_16 ≤ b_7) (g21 : m_9 r0 = .inr (7, fs_20)) (M22 : mm_W l G k_R_note 0 (lv_args 0 [.ref r0, .int 1, .int x_10, .int ((-1))]) [] b_15 m_9 (mm_is (.inl (some (.int x_19))) m_18)) (h23 : Q (.inl (some (.int x_19))) m_18) (hn24 : narrow .boolean (.int x_19) = .int x_19) : mm_W l G k_R_examineEnd 16 [(0, .ref r0)] [] b m Q := by
  refine mm_aload_n 0 (i := 0) d_R_examineEnd_16 rfl rfl ?_
  refine mm_iconst d_R_examineEnd_17 (v := 1) (by decide) ?_
  refine mm_aload_n 0 (i := 0) d_R_examineEnd_18 rfl rfl ?_
  refine mm_get cc_R 0 (by decide) w_191 d_R_examineEnd_19 g2 z3 v5 ?_
  refine mm_callV (as := []) (st := [.int 1, .ref r0]) (b2 := b_7) ca_B_size w_635 w_255 w_256 cc_B.1 rfl d_R_examineEnd_22 rfl (Nat.le_of_ble_eq_true rfl) (Nat.le_of_ble_eq_true rfl) (Nat.le_of_ble_eq_true rfl) hb8 g12 z13 M14 (fun E _ ⟨c, _⟩ => nomatch c) (fun v _ ⟨c, e⟩ => ?_)
  cases c
  rw [e]
  show mm_W l G k_R_examineEnd 25 [(0, .ref r0)] [.int x_10, .int 1, .ref r0] b_7 m_9 Q
  refine mm_iconst d_R_examineEnd_25 (v := (-1)) (by decide) ?_
  refine mm_callV (as := [.int 1, .int x_10, .int ((-1))]) (st := []) (b2 := b_16) ca_R_note w_623 w_625 v_R_note cc_R.1 rfl d_R_examineEnd_26 rfl (Nat.le_of_ble_eq_true rfl) (Nat.le_of_ble_eq_true rfl) (Nat.le_of_ble_eq_true rfl) hb17 g21 z3 M22 (fun E _ ⟨c, _⟩ => nomatch c) (fun v _ ⟨c, e⟩ => ?_)
  cases c
  rw [e]
  show mm_W l G k_R_examineEnd 29 [(0, .ref r0)] [.int x_19] b_16 m_18 Q
  exact mm_zret d_R_examineEnd_29 rfl hn24 h23
theorem t_R_examineEnd_30 {l : Launch} {G : mm_G} {b : Nat} {m : mm_Mem} {Q : mm_O → mm_Mem → Prop} {r0 : Nat} {fs_1 : List Value} {q_4 : Nat} {u_6 : Int32} {b_8 : Nat} {b_9 : Nat} {m_11 : mm_Mem} {y_12 : Int64} {fs_13 : List Value} {fs_17 : List Value} {q_19 : Nat} {u_21 : Int32} {b_23 : Nat} {b_24 : Nat} {m_26 : mm_Mem} {y_27 : Int64} {fs_28 : List Value} {fs_32 : List Value} {q_34 : Nat} {u_36 : Int32} {b_38 : Nat} {b_39 : Nat} {m_41 : mm_Mem} {y_42 : Int64} {fs_43 : List Value} {fs_47 : List Value} {q_49 : Nat} {u_51 : Int32} {b_53 : Nat} {b_54 : Nat} {m_56 : mm_Mem} {y_57 : Int64} {fs_58 : List Value} {fs_62 : List Value} {q_64 : Nat} {u_66 : Int32} {b_68 : Nat} {b_69 : Nat} {m_71 : mm_Mem} {y_72 : Int64} {fs_73 : List Value} (g2 : m r0 = .inr (7, fs_1)) (z3 : r0 ≠ 0) (v5 : fs_1[0]? = some (.ref q_4)) (v7 : fs_1[8]? = some (.int u_6)) (hb10 : b_8 + b_9 ≤ b) (g14 : m q_4 = .inr (2, fs_13)) (z15 : q_4 ≠ 0) (M16 : mm_W l G k_B_number 0 (lv_args 0 [.ref q_4, .int (u_6 + 4), .int 4]) [] b_8 m (mm_is (.inl (some (.long y_12))) m_11)) (g18 : m_11 r0 = .inr (7, fs_17)) (v20 : fs_17[0]? = some (.ref q_19)) (v22 : fs_17[8]? = some (.int u_21)) (hb25 : b_23 + b_24 ≤ b_9) (g29 : m_11 q_19 = .inr (2, fs_28)) (z30 : q_19 ≠ 0) (M31 : mm_W l G k_B_number 0 (lv_args 0 [.ref q_19, .int (u_21 + 8), .int 2]) [] b_23 m_11 (mm_is (.inl (some (.long y_27))) m_26)) (g33 : m_26 r0 = .inr (7, fs_32)) (v35 : fs_32[0]? = some (.ref q_34)) (v37 : fs_32[8]? = some (.int u_36)) (hb40 : b_38 + b_39 ≤ b_24) (g44 : m_26 q_34 = .inr (2, fs_43)) (z45 : q_34 ≠ 0) (M46 : mm_W l G k_B_number 0 (lv_args 0 [.ref q_34, .int (u_36 + 10), .int 2]) [] b_38 m_26 (mm_is (.inl (some (.long y_42))) m_41)) (g48 : m_41 r0 = .inr (7, fs_47)) (v50 : fs_47[0]? = some (.ref q_49)) (v52 : fs_47[8]? = some (.int u_51)) (hb55 : b_53 + b_54 ≤ b_39) (g59 : m_41 q_49 = .inr (2, fs_58)) (z60 : q_49 ≠ 0) (M61 : mm_W l G k_B_number 0 (lv_args 0 [.ref q_49, .int (u_51 + 12), .int 4]) [] b_53 m_41 (mm_is (.inl (some (.long y_57))) m_56)) (g63 : m_56 r0 = .inr (7, fs_62)) (v65 : fs_62[0]? = some (.ref q_64)) (v67 : fs_62[8]? = some (.int u_66)) (hb70 : b_68 + b_69 ≤ b_54) (g74 : m_56 q_64 = .inr (2, fs_73)) (z75 : q_64 ≠ 0) (M76 : mm_W l G k_B_number 0 (lv_args 0 [.ref q_64, .int (u_66 + 16), .int 4]) [] b_68 m_56 (mm_is (.inl (some (.long y_72))) m_71)) (h77 : (¬ (lg_cmp y_12 0) = 0) → mm_W l G k_R_examineEnd 148 [(0, .ref r0)] [] b_69 m_71 Q) (h78 : ((lg_cmp y_12 0) = 0) → mm_W l G k_R_examineEnd 118 [(0, .ref r0), (3, .long y_27), (5, .long y_42), (7, .long y_57), (9, .long y_72)] [] b_69 m_71 Q) : mm_W l G k_R_examineEnd 30 [(0, .ref r0)] [] b m Q := by
  refine mm_aload_n 0 (i := 0) d_R_examineEnd_30 rfl rfl ?_
  refine mm_get cc_R 0 (by decide) w_191 d_R_examineEnd_31 g2 z3 v5 ?_
  refine mm_aload_n 0 (i := 0) d_R_examineEnd_34 rfl rfl ?_
  refine mm_get cc_R 8 (by decide) w_202 d_R_examineEnd_35 g2 z3 v7 ?_
  refine mm_iconst d_R_examineEnd_38 (v := 4) (by decide) ?_
  refine mm_iadd d_R_examineEnd_39 ?_
  refine mm_iconst d_R_examineEnd_40 (v := 4) (by decide) ?_
  refine mm_callV (as := [.int (u_6 + 4), .int 4]) (st := []) (b2 := b_9) ca_B_number w_642 w_643 w_644 cc_B.1 rfl d_R_examineEnd_41 rfl (Nat.le_of_ble_eq_true rfl) (Nat.le_of_ble_eq_true rfl) (Nat.le_of_ble_eq_true rfl) hb10 g14 z15 M16 (fun E _ ⟨c, _⟩ => nomatch c) (fun v _ ⟨c, e⟩ => ?_)
  cases c
  rw [e]
  show mm_W l G k_R_examineEnd 44 [(0, .ref r0)] [.long y_12] b_9 m_11 Q
  refine mm_lstore_n (i := 1) d_R_examineEnd_44 rfl (Nat.le_of_ble_eq_true rfl) (lv2 := [(1, .long y_12), (0, .ref r0)]) rfl ?_
  refine mm_aload_n 1 (i := 0) d_R_examineEnd_45 rfl rfl ?_
  refine mm_get cc_R 0 (by decide) w_191 d_R_examineEnd_46 g18 z3 v20 ?_
  refine mm_aload_n 1 (i := 0) d_R_examineEnd_49 rfl rfl ?_
  refine mm_get cc_R 8 (by decide) w_202 d_R_examineEnd_50 g18 z3 v22 ?_
  refine mm_bipush d_R_examineEnd_53 (v := 8) (by decide) ?_
  refine mm_iadd d_R_examineEnd_55 ?_
  refine mm_iconst d_R_examineEnd_56 (v := 2) (by decide) ?_
  refine mm_callV (as := [.int (u_21 + 8), .int 2]) (st := []) (b2 := b_24) ca_B_number w_642 w_643 w_644 cc_B.1 rfl d_R_examineEnd_57 rfl (Nat.le_of_ble_eq_true rfl) (Nat.le_of_ble_eq_true rfl) (Nat.le_of_ble_eq_true rfl) hb25 g29 z30 M31 (fun E _ ⟨c, _⟩ => nomatch c) (fun v _ ⟨c, e⟩ => ?_)
  cases c
  rw [e]
  show mm_W l G k_R_examineEnd 60 [(1, .long y_12), (0, .ref r0)] [.long y_27] b_24 m_26 Q
  refine mm_lstore_n (i := 3) d_R_examineEnd_60 rfl (Nat.le_of_ble_eq_true rfl) (lv2 := [(3, .long y_27), (1, .long y_12), (0, .ref r0)]) rfl ?_
  refine mm_aload_n 2 (i := 0) d_R_examineEnd_61 rfl rfl ?_
  refine mm_get cc_R 0 (by decide) w_191 d_R_examineEnd_62 g33 z3 v35 ?_
  refine mm_aload_n 2 (i := 0) d_R_examineEnd_65 rfl rfl ?_
  refine mm_get cc_R 8 (by decide) w_202 d_R_examineEnd_66 g33 z3 v37 ?_
  refine mm_bipush d_R_examineEnd_69 (v := 10) (by decide) ?_
  refine mm_iadd d_R_examineEnd_71 ?_
  refine mm_iconst d_R_examineEnd_72 (v := 2) (by decide) ?_
  refine mm_callV (as := [.int (u_36 + 10), .int 2]) (st := []) (b2 := b_39) ca_B_number w_642 w_643 w_644 cc_B.1 rfl d_R_examineEnd_73 rfl (Nat.le_of_ble_eq_true rfl) (Nat.le_of_ble_eq_true rfl) (Nat.le_of_ble_eq_true rfl) hb40 g44 z45 M46 (fun E _ ⟨c, _⟩ => nomatch c) (fun v _ ⟨c, e⟩ => ?_)
  cases c
  rw [e]
  show mm_W l G k_R_examineEnd 76 [(3, .long y_27), (1, .long y_12), (0, .ref r0)] [.long y_42] b_39 m_41 Q
  refine mm_lstore (i := 5) d_R_examineEnd_76 (Nat.le_of_ble_eq_true rfl) (lv2 := [(5, .long y_42), (3, .long y_27), (1, .long y_12), (0, .ref r0)]) rfl ?_
  refine mm_aload_n 3 (i := 0) d_R_examineEnd_78 rfl rfl ?_
  refine mm_get cc_R 0 (by decide) w_191 d_R_examineEnd_79 g48 z3 v50 ?_
  refine mm_aload_n 3 (i := 0) d_R_examineEnd_82 rfl rfl ?_
  refine mm_get cc_R 8 (by decide) w_202 d_R_examineEnd_83 g48 z3 v52 ?_
  refine mm_bipush d_R_examineEnd_86 (v := 12) (by decide) ?_
  refine mm_iadd d_R_examineEnd_88 ?_
  refine mm_iconst d_R_examineEnd_89 (v := 4) (by decide) ?_
  refine mm_callV (as := [.int (u_51 + 12), .int 4]) (st := []) (b2 := b_54) ca_B_number w_642 w_643 w_644 cc_B.1 rfl d_R_examineEnd_90 rfl (Nat.le_of_ble_eq_true rfl) (Nat.le_of_ble_eq_true rfl) (Nat.le_of_ble_eq_true rfl) hb55 g59 z60 M61 (fun E _ ⟨c, _⟩ => nomatch c) (fun v _ ⟨c, e⟩ => ?_)
  cases c
  rw [e]
  show mm_W l G k_R_examineEnd 93 [(5, .long y_42), (3, .long y_27), (1, .long y_12), (0, .ref r0)] [.long y_57] b_54 m_56 Q
  refine mm_lstore (i := 7) d_R_examineEnd_93 (Nat.le_of_ble_eq_true rfl) (lv2 := [(7, .long y_57), (5, .long y_42), (3, .long y_27), (1, .long y_12), (0, .ref r0)]) rfl ?_
  refine mm_aload_n 4 (i := 0) d_R_examineEnd_95 rfl rfl ?_
  refine mm_get cc_R 0 (by decide) w_191 d_R_examineEnd_96 g63 z3 v65 ?_
  refine mm_aload_n 4 (i := 0) d_R_examineEnd_99 rfl rfl ?_
  refine mm_get cc_R 8 (by decide) w_202 d_R_examineEnd_100 g63 z3 v67 ?_
  refine mm_bipush d_R_examineEnd_103 (v := 16) (by decide) ?_
  refine mm_iadd d_R_examineEnd_105 ?_
  refine mm_iconst d_R_examineEnd_106 (v := 4) (by decide) ?_
  refine mm_callV (as := [.int (u_66 + 16), .int 4]) (st := []) (b2 := b_69) ca_B_number w_642 w_643 w_644 cc_B.1 rfl d_R_examineEnd_107 rfl (Nat.le_of_ble_eq_true rfl) (Nat.le_of_ble_eq_true rfl) (Nat.le_of_ble_eq_true rfl) hb70 g74 z75 M76 (fun E _ ⟨c, _⟩ => nomatch c) (fun v _ ⟨c, e⟩ => ?_)
  cases c
  rw [e]
  show mm_W l G k_R_examineEnd 110 [(7, .long y_57), (5, .long y_42), (3, .long y_27), (1, .long y_12), (0, .ref r0)] [.long y_72] b_69 m_71 Q
  refine mm_lstore (i := 9) d_R_examineEnd_110 (Nat.le_of_ble_eq_true rfl) (lv2 := [(9, .long y_72), (7, .long y_57), (5, .long y_42), (3, .long y_27), (1, .long y_12), (0, .ref r0)]) rfl ?_
  refine mm_lload_n 4 (i := 1) d_R_examineEnd_112 rfl rfl ?_
  refine mm_lconst d_R_examineEnd_113 (v := 0) (by decide) ?_
  refine mm_lcmp d_R_examineEnd_114 ?_
  exact mm_if_ne (tgt := 148) d_R_examineEnd_115 (by decide) (fun c => mm_sub [5] rfl (h77 c)) (fun c => mm_sub [5, 3, 2, 1, 0] rfl (h78 c))
theorem t_R_examineEnd_118 {l : Launch} {G : mm_G} {b : Nat} {m : mm_Mem} {Q : mm_O → mm_Mem → Prop} {r0 : Nat} {y3 : Int64} {y5 : Int64} {y7 : Int64} {y9 : Int64} (h1 : (¬ (lg_cmp y3 y5) = 0) → mm_W l G k_R_examineEnd 148 [(0, .ref r0)] [] b m Q) (h2 : ((lg_cmp y3 y5) = 0) → mm_W l G k_R_examineEnd 125 [(0, .ref r0), (5, .long y5), (7, .long y7), (9, .long y9)] [] b m Q) : mm_W l G k_R_examineEnd 118 [(0, .ref r0), (3, .long y3), (5, .long y5), (7, .long y7), (9, .long y9)] [] b m Q := by
  refine mm_lload_n 1 (i := 3) d_R_examineEnd_118 rfl rfl ?_
  refine mm_lload 2 (i := 5) d_R_examineEnd_119 rfl ?_
  refine mm_lcmp d_R_examineEnd_121 ?_
  exact mm_if_ne (tgt := 148) d_R_examineEnd_122 (by decide) (fun c => mm_sub [0] rfl (h1 c)) (fun c => mm_sub [0, 2, 3, 4] rfl (h2 c))
theorem t_R_examineEnd_125 {l : Launch} {G : mm_G} {b : Nat} {m : mm_Mem} {Q : mm_O → mm_Mem → Prop} {r0 : Nat} {y5 : Int64} {y7 : Int64} {y9 : Int64} (h1 : (0 < (lg_cmp y5 64)) → mm_W l G k_R_examineEnd 148 [(0, .ref r0)] [] b m Q) (h2 : (¬ 0 < (lg_cmp y5 64)) → mm_W l G k_R_examineEnd 134 [(0, .ref r0), (5, .long y5), (7, .long y7), (9, .long y9)] [] b m Q) : mm_W l G k_R_examineEnd 125 [(0, .ref r0), (5, .long y5), (7, .long y7), (9, .long y9)] [] b m Q := by
  refine mm_lload 1 (i := 5) d_R_examineEnd_125 rfl ?_
  refine mm_ldc2 (v := 64) w_647 d_R_examineEnd_127 ?_
  refine mm_lcmp d_R_examineEnd_130 ?_
  exact mm_if_gt (tgt := 148) d_R_examineEnd_131 (by decide) (fun c => mm_sub [0] rfl (h1 c)) (fun c => mm_sub [0, 1, 2, 3] rfl (h2 c))
theorem t_R_examineEnd_134 {l : Launch} {G : mm_G} {b : Nat} {m : mm_Mem} {Q : mm_O → mm_Mem → Prop} {r0 : Nat} {y5 : Int64} {y7 : Int64} {y9 : Int64} {fs_1 : List Value} {u_4 : Int32} (g2 : m r0 = .inr (7, fs_1)) (z3 : r0 ≠ 0) (v5 : fs_1[8]? = some (.int u_4)) (h6 : ((lg_cmp (y9 + y7) u_4.toInt64) = 0) → mm_W l G k_R_examineEnd 159 [(0, .ref r0), (5, .long y5), (9, .long y9)] [] b m Q) (h7 : (¬ (lg_cmp (y9 + y7) u_4.toInt64) = 0) → mm_W l G k_R_examineEnd 148 [(0, .ref r0)] [] b m Q) : mm_W l G k_R_examineEnd 134 [(0, .ref r0), (5, .long y5), (7, .long y7), (9, .long y9)] [] b m Q := by
  refine mm_lload 3 (i := 9) d_R_examineEnd_134 rfl ?_
  refine mm_lload 2 (i := 7) d_R_examineEnd_136 rfl ?_
  refine mm_ladd d_R_examineEnd_138 ?_
  refine mm_aload_n 0 (i := 0) d_R_examineEnd_139 rfl rfl ?_
  refine mm_get cc_R 8 (by decide) w_202 d_R_examineEnd_140 g2 z3 v5 ?_
  refine mm_i2l d_R_examineEnd_143 ?_
  refine mm_lcmp d_R_examineEnd_144 ?_
  exact mm_if_eq (tgt := 159) d_R_examineEnd_145 (by decide) (fun c => mm_sub [0, 1, 3] rfl (h6 c)) (fun c => mm_sub [0] rfl (h7 c))
theorem t_R_examineEnd_148 {l : Launch} {G : mm_G} {b : Nat} {m : mm_Mem} {Q : mm_O → mm_Mem → Prop} {r0 : Nat} {fs_1 : List Value} {u_4 : Int32} {b_6 : Nat} {b_7 : Nat} {m_9 : mm_Mem} {x_10 : Int32} (g2 : m r0 = .inr (7, fs_1)) (z3 : r0 ≠ 0) (v5 : fs_1[8]? = some (.int u_4)) (hb8 : b_6 + b_7 ≤ b) (M11 : mm_W l G k_R_note 0 (lv_args 0 [.ref r0, .int 2, .int u_4, .int ((-1))]) [] b_6 m (mm_is (.inl (some (.int x_10))) m_9)) (h12 : Q (.inl (some (.int x_10))) m_9) (hn13 : narrow .boolean (.int x_10) = .int x_10) : mm_W l G k_R_examineEnd 148 [(0, .ref r0)] [] b m Q := by
  refine mm_aload_n 0 (i := 0) d_R_examineEnd_148 rfl rfl ?_
  refine mm_iconst d_R_examineEnd_149 (v := 2) (by decide) ?_
  refine mm_aload_n 0 (i := 0) d_R_examineEnd_150 rfl rfl ?_
  refine mm_get cc_R 8 (by decide) w_202 d_R_examineEnd_151 g2 z3 v5 ?_
  refine mm_iconst d_R_examineEnd_154 (v := (-1)) (by decide) ?_
  refine mm_callV (as := [.int 2, .int u_4, .int ((-1))]) (st := []) (b2 := b_7) ca_R_note w_623 w_625 v_R_note cc_R.1 rfl d_R_examineEnd_155 rfl (Nat.le_of_ble_eq_true rfl) (Nat.le_of_ble_eq_true rfl) (Nat.le_of_ble_eq_true rfl) hb8 g2 z3 M11 (fun E _ ⟨c, _⟩ => nomatch c) (fun v _ ⟨c, e⟩ => ?_)
  cases c
  rw [e]
  show mm_W l G k_R_examineEnd 158 [(0, .ref r0)] [.int x_10] b_7 m_9 Q
  exact mm_zret d_R_examineEnd_158 rfl hn13 h12
theorem t_R_examineEnd_159 {l : Launch} {G : mm_G} {b : Nat} {m : mm_Mem} {Q : mm_O → mm_Mem → Prop} {r0 : Nat} {y5 : Int64} {y9 : Int64} {fs_1 : List Value} {fs_5 : List Value} (g2 : m r0 = .inr (7, fs_1)) (z3 : r0 ≠ 0) (l4 : 10 < fs_1.length) (g6 : (va_up m r0 (.inr (7, fs_1.set 10 (.int y5.toInt32)))) r0 = .inr (7, fs_5)) (l7 : 9 < fs_5.length) (h8 : Q (.inl (some (.int 1))) (va_up (va_up m r0 (.inr (7, fs_1.set 10 (.int y5.toInt32)))) r0 (.inr (7, fs_5.set 9 (.int y9.toInt32))))) (hn9 : narrow .boolean (.int 1) = .int 1) : mm_W l G k_R_examineEnd 159 [(0, .ref r0), (5, .long y5), (9, .long y9)] [] b m Q := by
  refine mm_aload_n 0 (i := 0) d_R_examineEnd_159 rfl rfl ?_
  refine mm_lload 1 (i := 5) d_R_examineEnd_160 rfl ?_
  refine mm_l2i d_R_examineEnd_162 ?_
  refine mm_putf cc_R 10 (by decide) w_204 d_R_examineEnd_163 rfl (fun _ => rfl) (fun _ => rfl) g2 z3 l4 ?_
  refine mm_aload_n 0 (i := 0) d_R_examineEnd_166 rfl rfl ?_
  refine mm_lload 2 (i := 9) d_R_examineEnd_167 rfl ?_
  refine mm_l2i d_R_examineEnd_169 ?_
  refine mm_putf cc_R 9 (by decide) w_203 d_R_examineEnd_170 rfl (fun _ => rfl) (fun _ => rfl) g6 z3 l7 ?_
  refine mm_iconst d_R_examineEnd_173 (v := 1) (by decide) ?_
  exact mm_zret d_R_examineEnd_174 rfl hn9 h8
theorem t_R_lastEnd_0 {l : Launch} {G : mm_G} {b : Nat} {m : mm_Mem} {Q : mm_O → mm_Mem → Prop} {r0 : Nat} {fs_1 : List Value} {q_4 : Nat} {b_6 : Nat} {b_7 : Nat} {m_9 : mm_Mem} {x_10 : Int32} {fs_11 : List Value} (g2 : m r0 = .inr (7, fs_1)) (z3 : r0 ≠ 0) (v5 : fs_1[0]? = some (.ref q_4)) (hb8 : b_6 + b_7 ≤ b) (g12 : m q_4 = .inr (2, fs_11)) (z13 : q_4 ≠ 0) (M14 : mm_W l G k_B_size 0 (lv_args 0 [.ref q_4]) [] b_6 m (mm_is (.inl (some (.int x_10))) m_9)) (h15 : mm_W l G k_R_lastEnd 11 [(0, .ref r0), (1, .int (x_10 - 22))] [] b_7 m_9 Q) : mm_W l G k_R_lastEnd 0 [(0, .ref r0)] [] b m Q := by
  refine mm_aload_n 0 (i := 0) d_R_lastEnd_0 rfl rfl ?_
  refine mm_get cc_R 0 (by decide) w_191 d_R_lastEnd_1 g2 z3 v5 ?_
  refine mm_callV (as := []) (st := []) (b2 := b_7) ca_B_size w_635 w_255 w_256 cc_B.1 rfl d_R_lastEnd_4 rfl (Nat.le_of_ble_eq_true rfl) (Nat.le_of_ble_eq_true rfl) (Nat.le_of_ble_eq_true rfl) hb8 g12 z13 M14 (fun E _ ⟨c, _⟩ => nomatch c) (fun v _ ⟨c, e⟩ => ?_)
  cases c
  rw [e]
  show mm_W l G k_R_lastEnd 7 [(0, .ref r0)] [.int x_10] b_7 m_9 Q
  refine mm_bipush d_R_lastEnd_7 (v := 22) (by decide) ?_
  refine mm_isub d_R_lastEnd_9 ?_
  refine mm_istore_n (i := 1) d_R_lastEnd_10 rfl (Nat.le_of_ble_eq_true rfl) (lv2 := [(1, .int (x_10 - 22)), (0, .ref r0)]) rfl ?_
  exact mm_sub [1, 0] rfl h15
theorem t_R_lastEnd_11 {l : Launch} {G : mm_G} {b : Nat} {m : mm_Mem} {Q : mm_O → mm_Mem → Prop} {r0 : Nat} {x1 : Int32} (h1 : (x1 < 0) → mm_W l G k_R_lastEnd 66 [] [] b m Q) (h2 : (¬ x1 < 0) → mm_W l G k_R_lastEnd 15 [(0, .ref r0), (1, .int x1)] [] b m Q) : mm_W l G k_R_lastEnd 11 [(0, .ref r0), (1, .int x1)] [] b m Q := by
  refine mm_iload_n 1 (i := 1) d_R_lastEnd_11 rfl rfl ?_
  exact mm_if_lt (tgt := 66) d_R_lastEnd_12 (by decide) (fun c => mm_sub [] rfl (h1 c)) (fun c => mm_sub [0, 1] rfl (h2 c))
theorem t_R_lastEnd_15 {l : Launch} {G : mm_G} {b : Nat} {m : mm_Mem} {Q : mm_O → mm_Mem → Prop} {r0 : Nat} {x1 : Int32} {fs_1 : List Value} {q_4 : Nat} {b_6 : Nat} {b_7 : Nat} {m_9 : mm_Mem} {x_10 : Int32} {fs_11 : List Value} (g2 : m r0 = .inr (7, fs_1)) (z3 : r0 ≠ 0) (v5 : fs_1[0]? = some (.ref q_4)) (hb8 : b_6 + b_7 ≤ b) (g12 : m q_4 = .inr (2, fs_11)) (z13 : q_4 ≠ 0) (M14 : mm_W l G k_B_hasMark 0 (lv_args 0 [.ref q_4, .int x1, .int 101010256]) [] b_6 m (mm_is (.inl (some (.int x_10))) m_9)) (h15 : (x_10 = 0) → mm_W l G k_R_lastEnd 60 [(0, .ref r0), (1, .int x1)] [] b_7 m_9 Q) (h16 : (¬ x_10 = 0) → mm_W l G k_R_lastEnd 28 [(0, .ref r0), (1, .int x1)] [] b_7 m_9 Q) : mm_W l G k_R_lastEnd 15 [(0, .ref r0), (1, .int x1)] [] b m Q := by
  refine mm_aload_n 0 (i := 0) d_R_lastEnd_15 rfl rfl ?_
  refine mm_get cc_R 0 (by decide) w_191 d_R_lastEnd_16 g2 z3 v5 ?_
  refine mm_iload_n 1 (i := 1) d_R_lastEnd_19 rfl rfl ?_
  refine mm_ldc (v := 101010256) w_636 d_R_lastEnd_20 ?_
  refine mm_callV (as := [.int x1, .int 101010256]) (st := []) (b2 := b_7) ca_B_hasMark w_637 w_638 w_639 cc_B.1 rfl d_R_lastEnd_22 rfl (Nat.le_of_ble_eq_true rfl) (Nat.le_of_ble_eq_true rfl) (Nat.le_of_ble_eq_true rfl) hb8 g12 z13 M14 (fun E _ ⟨c, _⟩ => nomatch c) (fun v _ ⟨c, e⟩ => ?_)
  cases c
  rw [e]
  show mm_W l G k_R_lastEnd 25 [(0, .ref r0), (1, .int x1)] [.int x_10] b_7 m_9 Q
  exact mm_if_eq (tgt := 60) d_R_lastEnd_25 (by decide) (fun c => mm_sub [0, 1] rfl (h15 c)) (fun c => mm_sub [0, 1] rfl (h16 c))
theorem t_R_lastEnd_28 {l : Launch} {G : mm_G} {b : Nat} {m : mm_Mem} {Q : mm_O → mm_Mem → Prop} {r0 : Nat} {x1 : Int32} {fs_1 : List Value} {q_4 : Nat} {b_6 : Nat} {b_7 : Nat} {m_9 : mm_Mem} {y_10 : Int64} {fs_11 : List Value} {fs_15 : List Value} {q_17 : Nat} {b_19 : Nat} {b_20 : Nat} {m_22 : mm_Mem} {x_23 : Int32} {fs_24 : List Value} (g2 : m r0 = .inr (7, fs_1)) (z3 : r0 ≠ 0) (v5 : fs_1[0]? = some (.ref q_4)) (hb8 : b_6 + b_7 ≤ b) (g12 : m q_4 = .inr (2, fs_11)) (z13 : q_4 ≠ 0) (M14 : mm_W l G k_B_number 0 (lv_args 0 [.ref q_4, .int (x1 + 20), .int 2]) [] b_6 m (mm_is (.inl (some (.long y_10))) m_9)) (g16 : m_9 r0 = .inr (7, fs_15)) (v18 : fs_15[0]? = some (.ref q_17)) (hb21 : b_19 + b_20 ≤ b_7) (g25 : m_9 q_17 = .inr (2, fs_24)) (z26 : q_17 ≠ 0) (M27 : mm_W l G k_B_size 0 (lv_args 0 [.ref q_17]) [] b_19 m_9 (mm_is (.inl (some (.int x_23))) m_22)) (h28 : (¬ (lg_cmp (((x1 + 22).toInt64) + y_10) x_23.toInt64) = 0) → mm_W l G k_R_lastEnd 60 [(0, .ref r0), (1, .int x1)] [] b_20 m_22 Q) (h29 : ((lg_cmp (((x1 + 22).toInt64) + y_10) x_23.toInt64) = 0) → mm_W l G k_R_lastEnd 58 [(1, .int x1)] [] b_20 m_22 Q) : mm_W l G k_R_lastEnd 28 [(0, .ref r0), (1, .int x1)] [] b m Q := by
  refine mm_iload_n 1 (i := 1) d_R_lastEnd_28 rfl rfl ?_
  refine mm_bipush d_R_lastEnd_29 (v := 22) (by decide) ?_
  refine mm_iadd d_R_lastEnd_31 ?_
  refine mm_i2l d_R_lastEnd_32 ?_
  refine mm_aload_n 0 (i := 0) d_R_lastEnd_33 rfl rfl ?_
  refine mm_get cc_R 0 (by decide) w_191 d_R_lastEnd_34 g2 z3 v5 ?_
  refine mm_iload_n 1 (i := 1) d_R_lastEnd_37 rfl rfl ?_
  refine mm_bipush d_R_lastEnd_38 (v := 20) (by decide) ?_
  refine mm_iadd d_R_lastEnd_40 ?_
  refine mm_iconst d_R_lastEnd_41 (v := 2) (by decide) ?_
  refine mm_callV (as := [.int (x1 + 20), .int 2]) (st := [.long ((x1 + 22).toInt64)]) (b2 := b_7) ca_B_number w_642 w_643 w_644 cc_B.1 rfl d_R_lastEnd_42 rfl (Nat.le_of_ble_eq_true rfl) (Nat.le_of_ble_eq_true rfl) (Nat.le_of_ble_eq_true rfl) hb8 g12 z13 M14 (fun E _ ⟨c, _⟩ => nomatch c) (fun v _ ⟨c, e⟩ => ?_)
  cases c
  rw [e]
  show mm_W l G k_R_lastEnd 45 [(0, .ref r0), (1, .int x1)] [.long y_10, .long ((x1 + 22).toInt64)] b_7 m_9 Q
  refine mm_ladd d_R_lastEnd_45 ?_
  refine mm_aload_n 0 (i := 0) d_R_lastEnd_46 rfl rfl ?_
  refine mm_get cc_R 0 (by decide) w_191 d_R_lastEnd_47 g16 z3 v18 ?_
  refine mm_callV (as := []) (st := [.long (((x1 + 22).toInt64) + y_10)]) (b2 := b_20) ca_B_size w_635 w_255 w_256 cc_B.1 rfl d_R_lastEnd_50 rfl (Nat.le_of_ble_eq_true rfl) (Nat.le_of_ble_eq_true rfl) (Nat.le_of_ble_eq_true rfl) hb21 g25 z26 M27 (fun E _ ⟨c, _⟩ => nomatch c) (fun v _ ⟨c, e⟩ => ?_)
  cases c
  rw [e]
  show mm_W l G k_R_lastEnd 53 [(0, .ref r0), (1, .int x1)] [.int x_23, .long (((x1 + 22).toInt64) + y_10)] b_20 m_22 Q
  refine mm_i2l d_R_lastEnd_53 ?_
  refine mm_lcmp d_R_lastEnd_54 ?_
  exact mm_if_ne (tgt := 60) d_R_lastEnd_55 (by decide) (fun c => mm_sub [0, 1] rfl (h28 c)) (fun c => mm_sub [1] rfl (h29 c))
theorem t_R_lastEnd_58 {l : Launch} {G : mm_G} {b : Nat} {m : mm_Mem} {Q : mm_O → mm_Mem → Prop} {x1 : Int32} (h1 : Q (.inl (some (.int x1))) m) : mm_W l G k_R_lastEnd 58 [(1, .int x1)] [] b m Q := by
  refine mm_iload_n 0 (i := 1) d_R_lastEnd_58 rfl rfl ?_
  exact mm_iret d_R_lastEnd_59 rfl h1
theorem t_R_lastEnd_60 {l : Launch} {G : mm_G} {b : Nat} {m : mm_Mem} {Q : mm_O → mm_Mem → Prop} {r0 : Nat} {x1 : Int32} (h1 : mm_W l G k_R_lastEnd 11 [(0, .ref r0), (1, .int (x1 + (-1)))] [] b m Q) : mm_W l G k_R_lastEnd 60 [(0, .ref r0), (1, .int x1)] [] b m Q := by
  refine mm_iinc 1 (i := 1) d_R_lastEnd_60 rfl (v := x1 + (-1)) rfl (Nat.le_of_ble_eq_true rfl) (lv2 := [(1, .int (x1 + (-1))), (0, .ref r0)]) rfl ?_
  refine mm_goto (tgt := 11) d_R_lastEnd_63 (by decide) ?_
  exact mm_sub [1, 0] rfl h1
theorem t_R_lastEnd_66 {l : Launch} {G : mm_G} {b : Nat} {m : mm_Mem} {Q : mm_O → mm_Mem → Prop}  (h1 : Q (.inl (some (.int ((-1))))) m) : mm_W l G k_R_lastEnd 66 [] [] b m Q := by
  refine mm_iconst d_R_lastEnd_66 (v := (-1)) (by decide) ?_
  exact mm_iret d_R_lastEnd_67 rfl h1
theorem t_R_examineDirectory_0 {l : Launch} {G : mm_G} {b : Nat} {m : mm_Mem} {Q : mm_O → mm_Mem → Prop} {r0 : Nat} {x1 : Int32} {fs_1 : List Value} {fs_5 : List Value} {fs_8 : List Value} {u_10 : Int32} (g2 : m r0 = .inr (7, fs_1)) (z3 : r0 ≠ 0) (l4 : 11 < fs_1.length) (g6 : (va_up m r0 (.inr (7, fs_1.set 11 (.long 0)))) r0 = .inr (7, fs_5)) (l7 : 12 < fs_5.length) (g9 : (va_up (va_up m r0 (.inr (7, fs_1.set 11 (.long 0)))) r0 (.inr (7, fs_5.set 12 (.long 0)))) r0 = .inr (7, fs_8)) (v11 : fs_8[9]? = some (.int u_10)) (h12 : mm_W l G k_R_examineDirectory 17 [(0, .ref r0), (1, .int x1), (2, .int u_10), (3, .int 0)] [] b (va_up (va_up m r0 (.inr (7, fs_1.set 11 (.long 0)))) r0 (.inr (7, fs_5.set 12 (.long 0)))) Q) : mm_W l G k_R_examineDirectory 0 [(0, .ref r0), (1, .int x1)] [] b m Q := by
  refine mm_aload_n 0 (i := 0) d_R_examineDirectory_0 rfl rfl ?_
  refine mm_lconst d_R_examineDirectory_1 (v := 0) (by decide) ?_
  refine mm_putf cc_R 11 (by decide) w_205 d_R_examineDirectory_2 rfl (fun _ => rfl) (fun _ => rfl) g2 z3 l4 ?_
  refine mm_aload_n 0 (i := 0) d_R_examineDirectory_5 rfl rfl ?_
  refine mm_lconst d_R_examineDirectory_6 (v := 0) (by decide) ?_
  refine mm_putf cc_R 12 (by decide) w_206 d_R_examineDirectory_7 rfl (fun _ => rfl) (fun _ => rfl) g6 z3 l7 ?_
  refine mm_aload_n 0 (i := 0) d_R_examineDirectory_10 rfl rfl ?_
  refine mm_get cc_R 9 (by decide) w_203 d_R_examineDirectory_11 g9 z3 v11 ?_
  refine mm_istore_n (i := 2) d_R_examineDirectory_14 rfl (Nat.le_of_ble_eq_true rfl) (lv2 := [(2, .int u_10), (0, .ref r0), (1, .int x1)]) rfl ?_
  refine mm_iconst d_R_examineDirectory_15 (v := 0) (by decide) ?_
  refine mm_istore_n (i := 3) d_R_examineDirectory_16 rfl (Nat.le_of_ble_eq_true rfl) (lv2 := [(3, .int 0), (2, .int u_10), (0, .ref r0), (1, .int x1)]) rfl ?_
  exact mm_sub [2, 3, 1, 0] rfl h12
theorem t_R_examineDirectory_17 {l : Launch} {G : mm_G} {b : Nat} {m : mm_Mem} {Q : mm_O → mm_Mem → Prop} {r0 : Nat} {x1 : Int32} {x2 : Int32} {x3 : Int32} {fs_1 : List Value} {u_4 : Int32} (g2 : m r0 = .inr (7, fs_1)) (z3 : r0 ≠ 0) (v5 : fs_1[10]? = some (.int u_4)) (h6 : (u_4 ≤ x3) → mm_W l G k_R_examineDirectory 64 [(0, .ref r0), (2, .int x2)] [] b m Q) (h7 : (¬ u_4 ≤ x3) → mm_W l G k_R_examineDirectory 25 [(0, .ref r0), (1, .int x1), (2, .int x2), (3, .int x3)] [] b m Q) : mm_W l G k_R_examineDirectory 17 [(0, .ref r0), (1, .int x1), (2, .int x2), (3, .int x3)] [] b m Q := by
  refine mm_iload_n 3 (i := 3) d_R_examineDirectory_17 rfl rfl ?_
  refine mm_aload_n 0 (i := 0) d_R_examineDirectory_18 rfl rfl ?_
  refine mm_get cc_R 10 (by decide) w_204 d_R_examineDirectory_19 g2 z3 v5 ?_
  exact mm_icmp_ge (tgt := 64) d_R_examineDirectory_22 (by decide) (fun c => mm_sub [0, 2] rfl (h6 c)) (fun c => mm_sub [0, 1, 2, 3] rfl (h7 c))
theorem t_R_examineDirectory_25 {l : Launch} {G : mm_G} {b : Nat} {m : mm_Mem} {Q : mm_O → mm_Mem → Prop} {r0 : Nat} {x1 : Int32} {x2 : Int32} {x3 : Int32} {b_1 : Nat} {b_2 : Nat} {P_4 : mm_O → mm_Mem → Prop} {fs_5 : List Value} (hb3 : b_1 + b_2 ≤ b) (g6 : m r0 = .inr (7, fs_5)) (z7 : r0 ≠ 0) (M8 : mm_W l G k_R_directoryFault 0 (lv_args 0 [.ref r0, .int x3, .int x2, .int x1]) [] b_1 m P_4) (hx9 : ∀ (E : String) (n_2 : mm_Mem), ¬ P_4 (.inr E) n_2) (h10 : ∀ (v : Option Value) (n_2 : mm_Mem), P_4 (.inl v) n_2 → ∃ x9 : Int32, v = some (.int x9) ∧ mm_W l G k_R_examineDirectory 32 [(0, .ref r0), (1, .int x1), (2, .int x2), (3, .int x3)] [.int x9] b_2 n_2 Q) : mm_W l G k_R_examineDirectory 25 [(0, .ref r0), (1, .int x1), (2, .int x2), (3, .int x3)] [] b m Q := by
  refine mm_aload_n 0 (i := 0) d_R_examineDirectory_25 rfl rfl ?_
  refine mm_iload_n 3 (i := 3) d_R_examineDirectory_26 rfl rfl ?_
  refine mm_iload_n 2 (i := 2) d_R_examineDirectory_27 rfl rfl ?_
  refine mm_iload_n 1 (i := 1) d_R_examineDirectory_28 rfl rfl ?_
  refine mm_callV (as := [.int x3, .int x2, .int x1]) (st := []) (b2 := b_2) ca_R_directoryFault w_652 w_654 v_R_directoryFault cc_R.1 rfl d_R_examineDirectory_29 rfl (Nat.le_of_ble_eq_true rfl) (Nat.le_of_ble_eq_true rfl) (Nat.le_of_ble_eq_true rfl) hb3 g6 z7 M8 (fun E m2 q => absurd q (hx9 E m2)) (fun v m2 q => ?_)
  obtain ⟨x9, rfl, z9⟩ := h10 v m2 q
  exact mm_sub [0, 1, 2, 3] rfl z9
theorem t_R_examineDirectory_32 {l : Launch} {G : mm_G} {b : Nat} {m : mm_Mem} {Q : mm_O → mm_Mem → Prop} {r0 : Nat} {x1 : Int32} {x2 : Int32} {x3 : Int32} {xs0 : Int32} (h1 : (xs0 = 0) → mm_W l G k_R_examineDirectory 48 [(0, .ref r0), (1, .int x1), (3, .int x3)] [] b m Q) (h2 : (¬ xs0 = 0) → mm_W l G k_R_examineDirectory 39 [(0, .ref r0), (2, .int x2), (3, .int x3), (4, .int xs0)] [] b m Q) : mm_W l G k_R_examineDirectory 32 [(0, .ref r0), (1, .int x1), (2, .int x2), (3, .int x3)] [.int xs0] b m Q := by
  refine mm_istore (i := 4) d_R_examineDirectory_32 (Nat.le_of_ble_eq_true rfl) (lv2 := [(4, .int xs0), (0, .ref r0), (1, .int x1), (2, .int x2), (3, .int x3)]) rfl ?_
  refine mm_iload 0 (i := 4) d_R_examineDirectory_34 rfl ?_
  exact mm_if_eq (tgt := 48) d_R_examineDirectory_36 (by decide) (fun c => mm_sub [1, 2, 4] rfl (h1 c)) (fun c => mm_sub [1, 3, 4, 0] rfl (h2 c))
theorem t_R_examineDirectory_39 {l : Launch} {G : mm_G} {b : Nat} {m : mm_Mem} {Q : mm_O → mm_Mem → Prop} {r0 : Nat} {x2 : Int32} {x3 : Int32} {x4 : Int32} {b_1 : Nat} {b_2 : Nat} {m_4 : mm_Mem} {x_5 : Int32} {fs_6 : List Value} (hb3 : b_1 + b_2 ≤ b) (g7 : m r0 = .inr (7, fs_6)) (z8 : r0 ≠ 0) (M9 : mm_W l G k_R_note 0 (lv_args 0 [.ref r0, .int x4, .int x2, .int x3]) [] b_1 m (mm_is (.inl (some (.int x_5))) m_4)) (h10 : Q (.inl (some (.int x_5))) m_4) (hn11 : narrow .boolean (.int x_5) = .int x_5) : mm_W l G k_R_examineDirectory 39 [(0, .ref r0), (2, .int x2), (3, .int x3), (4, .int x4)] [] b m Q := by
  refine mm_aload_n 0 (i := 0) d_R_examineDirectory_39 rfl rfl ?_
  refine mm_iload 3 (i := 4) d_R_examineDirectory_40 rfl ?_
  refine mm_iload_n 1 (i := 2) d_R_examineDirectory_42 rfl rfl ?_
  refine mm_iload_n 2 (i := 3) d_R_examineDirectory_43 rfl rfl ?_
  refine mm_callV (as := [.int x4, .int x2, .int x3]) (st := []) (b2 := b_2) ca_R_note w_623 w_625 v_R_note cc_R.1 rfl d_R_examineDirectory_44 rfl (Nat.le_of_ble_eq_true rfl) (Nat.le_of_ble_eq_true rfl) (Nat.le_of_ble_eq_true rfl) hb3 g7 z8 M9 (fun E _ ⟨c, _⟩ => nomatch c) (fun v _ ⟨c, e⟩ => ?_)
  cases c
  rw [e]
  show mm_W l G k_R_examineDirectory 47 [(0, .ref r0), (2, .int x2), (3, .int x3), (4, .int x4)] [.int x_5] b_2 m_4 Q
  exact mm_zret d_R_examineDirectory_47 rfl hn11 h10
theorem t_R_examineDirectory_48 {l : Launch} {G : mm_G} {b : Nat} {m : mm_Mem} {Q : mm_O → mm_Mem → Prop} {r0 : Nat} {x1 : Int32} {x3 : Int32} {fs_1 : List Value} {q_4 : Nat} {n_6 : Nat} {f_7 : Nat → Option Nat} {q_11 : Nat} {fs_13 : List Value} {u_16 : Int32} (g2 : m r0 = .inr (7, fs_1)) (z3 : r0 ≠ 0) (v5 : fs_1[2]? = some (.ref q_4)) (a8 : m q_4 = .inl (G.2 5, n_6, .inr (.inr (.inr (.inr f_7))))) (z9 : q_4 ≠ 0) (i10 : vp_in x3 n_6) (e12 : f_7 x3.toNatClampNeg = some q_11) (g14 : m q_11 = .inr (6, fs_13)) (z15 : q_11 ≠ 0) (v17 : fs_13[2]? = some (.int u_16)) (h18 : mm_W l G k_R_examineDirectory 17 [(0, .ref r0), (1, .int x1), (2, .int u_16), (3, .int (x3 + 1))] [] b m Q) : mm_W l G k_R_examineDirectory 48 [(0, .ref r0), (1, .int x1), (3, .int x3)] [] b m Q := by
  refine mm_aload_n 0 (i := 0) d_R_examineDirectory_48 rfl rfl ?_
  refine mm_get cc_R 2 (by decide) w_193 d_R_examineDirectory_49 g2 z3 v5 ?_
  refine mm_iload_n 2 (i := 3) d_R_examineDirectory_52 rfl rfl ?_
  refine mm_aald (t := 5) rfl d_R_examineDirectory_53 a8 z9 i10 e12 ?_
  refine mm_getN cc_G 2 (by decide) nw_171 d_R_examineDirectory_54 g14 z15 v17 ?_
  refine mm_istore_n (i := 2) d_R_examineDirectory_57 rfl (Nat.le_of_ble_eq_true rfl) (lv2 := [(2, .int u_16), (0, .ref r0), (1, .int x1), (3, .int x3)]) rfl ?_
  refine mm_iinc 3 (i := 3) d_R_examineDirectory_58 rfl (v := x3 + 1) rfl (Nat.le_of_ble_eq_true rfl) (lv2 := [(3, .int (x3 + 1)), (2, .int u_16), (0, .ref r0), (1, .int x1)]) rfl ?_
  refine mm_goto (tgt := 17) d_R_examineDirectory_61 (by decide) ?_
  exact mm_sub [2, 3, 1, 0] rfl h18
theorem t_R_examineDirectory_64 {l : Launch} {G : mm_G} {b : Nat} {m : mm_Mem} {Q : mm_O → mm_Mem → Prop} {r0 : Nat} {x2 : Int32} {fs_1 : List Value} {u_4 : Int32} (g2 : m r0 = .inr (7, fs_1)) (z3 : r0 ≠ 0) (v5 : fs_1[8]? = some (.int u_4)) (h6 : (x2 = u_4) → mm_W l G k_R_examineDirectory 82 [] [] b m Q) (h7 : (¬ x2 = u_4) → mm_W l G k_R_examineDirectory 72 [(0, .ref r0), (2, .int x2)] [] b m Q) : mm_W l G k_R_examineDirectory 64 [(0, .ref r0), (2, .int x2)] [] b m Q := by
  refine mm_iload_n 1 (i := 2) d_R_examineDirectory_64 rfl rfl ?_
  refine mm_aload_n 0 (i := 0) d_R_examineDirectory_65 rfl rfl ?_
  refine mm_get cc_R 8 (by decide) w_202 d_R_examineDirectory_66 g2 z3 v5 ?_
  exact mm_icmp_eq (tgt := 82) d_R_examineDirectory_69 (by decide) (fun c => mm_sub [] rfl (h6 c)) (fun c => mm_sub [0, 1] rfl (h7 c))
theorem t_R_examineDirectory_72 {l : Launch} {G : mm_G} {b : Nat} {m : mm_Mem} {Q : mm_O → mm_Mem → Prop} {r0 : Nat} {x2 : Int32} {b_1 : Nat} {b_2 : Nat} {m_4 : mm_Mem} {x_5 : Int32} {fs_6 : List Value} (hb3 : b_1 + b_2 ≤ b) (g7 : m r0 = .inr (7, fs_6)) (z8 : r0 ≠ 0) (M9 : mm_W l G k_R_note 0 (lv_args 0 [.ref r0, .int 3, .int x2, .int ((-1))]) [] b_1 m (mm_is (.inl (some (.int x_5))) m_4)) (h10 : (x_5 = 0) → mm_W l G k_R_examineDirectory 86 [] [] b_2 m_4 Q) (h11 : (¬ x_5 = 0) → mm_W l G k_R_examineDirectory 82 [] [] b_2 m_4 Q) : mm_W l G k_R_examineDirectory 72 [(0, .ref r0), (2, .int x2)] [] b m Q := by
  refine mm_aload_n 0 (i := 0) d_R_examineDirectory_72 rfl rfl ?_
  refine mm_iconst d_R_examineDirectory_73 (v := 3) (by decide) ?_
  refine mm_iload_n 1 (i := 2) d_R_examineDirectory_74 rfl rfl ?_
  refine mm_iconst d_R_examineDirectory_75 (v := (-1)) (by decide) ?_
  refine mm_callV (as := [.int 3, .int x2, .int ((-1))]) (st := []) (b2 := b_2) ca_R_note w_623 w_625 v_R_note cc_R.1 rfl d_R_examineDirectory_76 rfl (Nat.le_of_ble_eq_true rfl) (Nat.le_of_ble_eq_true rfl) (Nat.le_of_ble_eq_true rfl) hb3 g7 z8 M9 (fun E _ ⟨c, _⟩ => nomatch c) (fun v _ ⟨c, e⟩ => ?_)
  cases c
  rw [e]
  show mm_W l G k_R_examineDirectory 79 [(0, .ref r0), (2, .int x2)] [.int x_5] b_2 m_4 Q
  exact mm_if_eq (tgt := 86) d_R_examineDirectory_79 (by decide) (fun c => mm_sub [] rfl (h10 c)) (fun c => mm_sub [] rfl (h11 c))
theorem t_R_examineDirectory_82 {l : Launch} {G : mm_G} {b : Nat} {m : mm_Mem} {Q : mm_O → mm_Mem → Prop}  (h1 : mm_W l G k_R_examineDirectory 87 [] [.int 1] b m Q) : mm_W l G k_R_examineDirectory 82 [] [] b m Q := by
  refine mm_iconst d_R_examineDirectory_82 (v := 1) (by decide) ?_
  refine mm_goto (tgt := 87) d_R_examineDirectory_83 (by decide) ?_
  exact mm_sub [] rfl h1
theorem t_R_examineDirectory_86 {l : Launch} {G : mm_G} {b : Nat} {m : mm_Mem} {Q : mm_O → mm_Mem → Prop}  (h1 : mm_W l G k_R_examineDirectory 87 [] [.int 0] b m Q) : mm_W l G k_R_examineDirectory 86 [] [] b m Q := by
  refine mm_iconst d_R_examineDirectory_86 (v := 0) (by decide) ?_
  exact mm_sub [] rfl h1
theorem t_R_examineDirectory_87 {l : Launch} {G : mm_G} {b : Nat} {m : mm_Mem} {Q : mm_O → mm_Mem → Prop} {xs0 : Int32} (h1 : Q (.inl (some (.int xs0))) m) (hn2 : narrow .boolean (.int xs0) = .int xs0) : mm_W l G k_R_examineDirectory 87 [] [.int xs0] b m Q := by
  exact mm_zret d_R_examineDirectory_87 rfl hn2 h1
theorem t_R_directoryFault_0 {l : Launch} {G : mm_G} {b : Nat} {m : mm_Mem} {Q : mm_O → mm_Mem → Prop} {r0 : Nat} {x1 : Int32} {x2 : Int32} {x3 : Int32} {fs_1 : List Value} {u_4 : Int32} (g2 : m r0 = .inr (7, fs_1)) (z3 : r0 ≠ 0) (v5 : fs_1[8]? = some (.int u_4)) (h6 : ((u_4 - 46) < x2) → mm_W l G k_R_directoryFault 24 [] [] b m Q) (h7 : (¬ (u_4 - 46) < x2) → mm_W l G k_R_directoryFault 11 [(0, .ref r0), (1, .int x1), (2, .int x2), (3, .int x3)] [] b m Q) : mm_W l G k_R_directoryFault 0 [(0, .ref r0), (1, .int x1), (2, .int x2), (3, .int x3)] [] b m Q := by
  refine mm_iload_n 2 (i := 2) d_R_directoryFault_0 rfl rfl ?_
  refine mm_aload_n 0 (i := 0) d_R_directoryFault_1 rfl rfl ?_
  refine mm_get cc_R 8 (by decide) w_202 d_R_directoryFault_2 g2 z3 v5 ?_
  refine mm_bipush d_R_directoryFault_5 (v := 46) (by decide) ?_
  refine mm_isub d_R_directoryFault_7 ?_
  exact mm_icmp_gt (tgt := 24) d_R_directoryFault_8 (by decide) (fun c => mm_sub [] rfl (h6 c)) (fun c => mm_sub [0, 1, 2, 3] rfl (h7 c))
theorem t_R_directoryFault_11 {l : Launch} {G : mm_G} {b : Nat} {m : mm_Mem} {Q : mm_O → mm_Mem → Prop} {r0 : Nat} {x1 : Int32} {x2 : Int32} {x3 : Int32} {fs_1 : List Value} {q_4 : Nat} {b_6 : Nat} {b_7 : Nat} {m_9 : mm_Mem} {x_10 : Int32} {fs_11 : List Value} (g2 : m r0 = .inr (7, fs_1)) (z3 : r0 ≠ 0) (v5 : fs_1[0]? = some (.ref q_4)) (hb8 : b_6 + b_7 ≤ b) (g12 : m q_4 = .inr (2, fs_11)) (z13 : q_4 ≠ 0) (M14 : mm_W l G k_B_hasMark 0 (lv_args 0 [.ref q_4, .int x2, .int 33639248]) [] b_6 m (mm_is (.inl (some (.int x_10))) m_9)) (h15 : (¬ x_10 = 0) → mm_W l G k_R_directoryFault 26 [(0, .ref r0), (1, .int x1), (2, .int x2), (3, .int x3)] [] b_7 m_9 Q) (h16 : (x_10 = 0) → mm_W l G k_R_directoryFault 24 [] [] b_7 m_9 Q) : mm_W l G k_R_directoryFault 11 [(0, .ref r0), (1, .int x1), (2, .int x2), (3, .int x3)] [] b m Q := by
  refine mm_aload_n 0 (i := 0) d_R_directoryFault_11 rfl rfl ?_
  refine mm_get cc_R 0 (by decide) w_191 d_R_directoryFault_12 g2 z3 v5 ?_
  refine mm_iload_n 2 (i := 2) d_R_directoryFault_15 rfl rfl ?_
  refine mm_ldc (v := 33639248) w_656 d_R_directoryFault_16 ?_
  refine mm_callV (as := [.int x2, .int 33639248]) (st := []) (b2 := b_7) ca_B_hasMark w_637 w_638 w_639 cc_B.1 rfl d_R_directoryFault_18 rfl (Nat.le_of_ble_eq_true rfl) (Nat.le_of_ble_eq_true rfl) (Nat.le_of_ble_eq_true rfl) hb8 g12 z13 M14 (fun E _ ⟨c, _⟩ => nomatch c) (fun v _ ⟨c, e⟩ => ?_)
  cases c
  rw [e]
  show mm_W l G k_R_directoryFault 21 [(0, .ref r0), (1, .int x1), (2, .int x2), (3, .int x3)] [.int x_10] b_7 m_9 Q
  exact mm_if_ne (tgt := 26) d_R_directoryFault_21 (by decide) (fun c => mm_sub [0, 1, 2, 3] rfl (h15 c)) (fun c => mm_sub [] rfl (h16 c))
theorem t_R_directoryFault_24 {l : Launch} {G : mm_G} {b : Nat} {m : mm_Mem} {Q : mm_O → mm_Mem → Prop}  (h1 : Q (.inl (some (.int 3))) m) : mm_W l G k_R_directoryFault 24 [] [] b m Q := by
  refine mm_iconst d_R_directoryFault_24 (v := 3) (by decide) ?_
  exact mm_iret d_R_directoryFault_25 rfl h1
theorem t_R_directoryFault_26 {l : Launch} {G : mm_G} {b : Nat} {m : mm_Mem} {Q : mm_O → mm_Mem → Prop} {r0 : Nat} {x1 : Int32} {x2 : Int32} {x3 : Int32} {fs_1 : List Value} {q_4 : Nat} {n_6 : Nat} {f_7 : Nat → Option Nat} {q_11 : Nat} {q_13 : Nat} {b_15 : Nat} {b_16 : Nat} {m_18 : mm_Mem} {fs_19 : List Value} {fs_23 : List Value} {u_25 : Int32} {fs_27 : List Value} {u_29 : Int32} (g2 : m r0 = .inr (7, fs_1)) (z3 : r0 ≠ 0) (v5 : fs_1[2]? = some (.ref q_4)) (a8 : m q_4 = .inl (G.2 5, n_6, .inr (.inr (.inr (.inr f_7))))) (z9 : q_4 ≠ 0) (i10 : vp_in x1 n_6) (e12 : f_7 x1.toNatClampNeg = some q_11) (v14 : fs_1[0]? = some (.ref q_13)) (hb17 : b_15 + b_16 ≤ b) (g20 : m q_11 = .inr (6, fs_19)) (z21 : q_11 ≠ 0) (M22 : mm_W l G k_G_takeFrom 0 (lv_args 0 [.ref q_11, .ref q_13, .int x2]) [] b_15 m (mm_is (.inl none) m_18)) (g24 : m_18 q_11 = .inr (6, fs_23)) (v26 : fs_23[2]? = some (.int u_25)) (g28 : m_18 r0 = .inr (7, fs_27)) (v30 : fs_27[8]? = some (.int u_29)) (h31 : (u_25 ≤ u_29) → mm_W l G k_R_directoryFault 58 [(0, .ref r0), (1, .int x1), (2, .int x2), (3, .int x3), (4, .ref q_11)] [] b_16 m_18 Q) (h32 : (¬ u_25 ≤ u_29) → mm_W l G k_R_directoryFault 56 [] [] b_16 m_18 Q) : mm_W l G k_R_directoryFault 26 [(0, .ref r0), (1, .int x1), (2, .int x2), (3, .int x3)] [] b m Q := by
  refine mm_aload_n 0 (i := 0) d_R_directoryFault_26 rfl rfl ?_
  refine mm_get cc_R 2 (by decide) w_193 d_R_directoryFault_27 g2 z3 v5 ?_
  refine mm_iload_n 1 (i := 1) d_R_directoryFault_30 rfl rfl ?_
  refine mm_aald (t := 5) rfl d_R_directoryFault_31 a8 z9 i10 e12 ?_
  refine mm_astore (i := 4) d_R_directoryFault_32 (Nat.le_of_ble_eq_true rfl) (lv2 := [(4, .ref q_11), (0, .ref r0), (1, .int x1), (2, .int x2), (3, .int x3)]) rfl ?_
  refine mm_aload 0 (i := 4) d_R_directoryFault_34 rfl ?_
  refine mm_aload_n 1 (i := 0) d_R_directoryFault_36 rfl rfl ?_
  refine mm_get cc_R 0 (by decide) w_191 d_R_directoryFault_37 g2 z3 v14 ?_
  refine mm_iload_n 3 (i := 2) d_R_directoryFault_40 rfl rfl ?_
  refine mm_callV (as := [.ref q_13, .int x2]) (st := []) (b2 := b_16) ca_G_takeFrom w_657 w_658 w_659 cc_G.1 rfl d_R_directoryFault_41 rfl (Nat.le_of_ble_eq_true rfl) (Nat.le_of_ble_eq_true rfl) (Nat.le_of_ble_eq_true rfl) hb17 g20 z21 M22 (fun E _ ⟨c, _⟩ => nomatch c) (fun v _ ⟨c, e⟩ => ?_)
  cases c
  rw [e]
  show mm_W l G k_R_directoryFault 44 [(4, .ref q_11), (0, .ref r0), (1, .int x1), (2, .int x2), (3, .int x3)] [] b_16 m_18 Q
  refine mm_aload 0 (i := 4) d_R_directoryFault_44 rfl ?_
  refine mm_getN cc_G 2 (by decide) nw_171 d_R_directoryFault_46 g24 z21 v26 ?_
  refine mm_aload_n 1 (i := 0) d_R_directoryFault_49 rfl rfl ?_
  refine mm_get cc_R 8 (by decide) w_202 d_R_directoryFault_50 g28 z3 v30 ?_
  exact mm_icmp_le (tgt := 58) d_R_directoryFault_53 (by decide) (fun c => mm_sub [1, 2, 3, 4, 0] rfl (h31 c)) (fun c => mm_sub [] rfl (h32 c))
theorem t_R_directoryFault_56 {l : Launch} {G : mm_G} {b : Nat} {m : mm_Mem} {Q : mm_O → mm_Mem → Prop}  (h1 : Q (.inl (some (.int 3))) m) : mm_W l G k_R_directoryFault 56 [] [] b m Q := by
  refine mm_iconst d_R_directoryFault_56 (v := 3) (by decide) ?_
  exact mm_iret d_R_directoryFault_57 rfl h1
theorem t_R_directoryFault_58 {l : Launch} {G : mm_G} {b : Nat} {m : mm_Mem} {Q : mm_O → mm_Mem → Prop} {r0 : Nat} {x1 : Int32} {x2 : Int32} {x3 : Int32} {r4 : Nat} {fs_1 : List Value} {q_4 : Nat} {fs_6 : List Value} {u_9 : Int32} (g2 : m r4 = .inr (6, fs_1)) (z3 : r4 ≠ 0) (v5 : fs_1[0]? = some (.ref q_4)) (g7 : m q_4 = .inr (5, fs_6)) (z8 : q_4 ≠ 0) (v10 : fs_6[1]? = some (.int u_9)) (h11 : (u_9 = 0) → mm_W l G k_R_directoryFault 83 [(0, .ref r0), (1, .int x1), (2, .int x2), (3, .int x3), (4, .ref r4), (5, .ref q_4)] [] b m Q) (h12 : (¬ u_9 = 0) → mm_W l G k_R_directoryFault 73 [(0, .ref r0), (1, .int x1), (2, .int x2), (3, .int x3), (4, .ref r4), (5, .ref q_4)] [] b m Q) : mm_W l G k_R_directoryFault 58 [(0, .ref r0), (1, .int x1), (2, .int x2), (3, .int x3), (4, .ref r4)] [] b m Q := by
  refine mm_aload 4 (i := 4) d_R_directoryFault_58 rfl ?_
  refine mm_getN cc_G 0 (by decide) nw_167 d_R_directoryFault_60 g2 z3 v5 ?_
  refine mm_astore (i := 5) d_R_directoryFault_63 (Nat.le_of_ble_eq_true rfl) (lv2 := [(5, .ref q_4), (0, .ref r0), (1, .int x1), (2, .int x2), (3, .int x3), (4, .ref r4)]) rfl ?_
  refine mm_aload 0 (i := 5) d_R_directoryFault_65 rfl ?_
  refine mm_getN cc_F 1 (by decide) nw_138 d_R_directoryFault_67 g7 z8 v10 ?_
  exact mm_if_eq (tgt := 83) d_R_directoryFault_70 (by decide) (fun c => mm_sub [1, 2, 3, 4, 5, 0] rfl (h11 c)) (fun c => mm_sub [1, 2, 3, 4, 5, 0] rfl (h12 c))
theorem t_R_directoryFault_73 {l : Launch} {G : mm_G} {b : Nat} {m : mm_Mem} {Q : mm_O → mm_Mem → Prop} {r0 : Nat} {x1 : Int32} {x2 : Int32} {x3 : Int32} {r4 : Nat} {r5 : Nat} {fs_1 : List Value} {u_4 : Int32} (g2 : m r5 = .inr (5, fs_1)) (z3 : r5 ≠ 0) (v5 : fs_1[1]? = some (.int u_4)) (h6 : (¬ u_4 = 8) → mm_W l G k_R_directoryFault 87 [(0, .ref r0), (1, .int x1), (2, .int x2), (3, .int x3), (4, .ref r4), (5, .ref r5)] [] b m Q) (h7 : (u_4 = 8) → mm_W l G k_R_directoryFault 83 [(0, .ref r0), (1, .int x1), (2, .int x2), (3, .int x3), (4, .ref r4), (5, .ref r5)] [] b m Q) : mm_W l G k_R_directoryFault 73 [(0, .ref r0), (1, .int x1), (2, .int x2), (3, .int x3), (4, .ref r4), (5, .ref r5)] [] b m Q := by
  refine mm_aload 5 (i := 5) d_R_directoryFault_73 rfl ?_
  refine mm_getN cc_F 1 (by decide) nw_138 d_R_directoryFault_75 g2 z3 v5 ?_
  refine mm_bipush d_R_directoryFault_78 (v := 8) (by decide) ?_
  exact mm_icmp_ne (tgt := 87) d_R_directoryFault_80 (by decide) (fun c => mm_sub [0, 1, 2, 3, 4, 5] rfl (h6 c)) (fun c => mm_sub [0, 1, 2, 3, 4, 5] rfl (h7 c))
theorem t_R_directoryFault_83 {l : Launch} {G : mm_G} {b : Nat} {m : mm_Mem} {Q : mm_O → mm_Mem → Prop} {r0 : Nat} {x1 : Int32} {x2 : Int32} {x3 : Int32} {r4 : Nat} {r5 : Nat} (h1 : mm_W l G k_R_directoryFault 88 [(0, .ref r0), (1, .int x1), (2, .int x2), (3, .int x3), (4, .ref r4), (5, .ref r5)] [.int 1] b m Q) : mm_W l G k_R_directoryFault 83 [(0, .ref r0), (1, .int x1), (2, .int x2), (3, .int x3), (4, .ref r4), (5, .ref r5)] [] b m Q := by
  refine mm_iconst d_R_directoryFault_83 (v := 1) (by decide) ?_
  refine mm_goto (tgt := 88) d_R_directoryFault_84 (by decide) ?_
  exact mm_sub [0, 1, 2, 3, 4, 5] rfl h1
theorem t_R_directoryFault_87 {l : Launch} {G : mm_G} {b : Nat} {m : mm_Mem} {Q : mm_O → mm_Mem → Prop} {r0 : Nat} {x1 : Int32} {x2 : Int32} {x3 : Int32} {r4 : Nat} {r5 : Nat} (h1 : mm_W l G k_R_directoryFault 88 [(0, .ref r0), (1, .int x1), (2, .int x2), (3, .int x3), (4, .ref r4), (5, .ref r5)] [.int 0] b m Q) : mm_W l G k_R_directoryFault 87 [(0, .ref r0), (1, .int x1), (2, .int x2), (3, .int x3), (4, .ref r4), (5, .ref r5)] [] b m Q := by
  refine mm_iconst d_R_directoryFault_87 (v := 0) (by decide) ?_
  exact mm_sub [0, 1, 2, 3, 4, 5] rfl h1
theorem t_R_directoryFault_88 {l : Launch} {G : mm_G} {b : Nat} {m : mm_Mem} {Q : mm_O → mm_Mem → Prop} {r0 : Nat} {x1 : Int32} {x2 : Int32} {x3 : Int32} {r4 : Nat} {r5 : Nat} {xs0 : Int32} {fs_1 : List Value} {u_4 : Int32} (g2 : m r5 = .inr (5, fs_1)) (z3 : r5 ≠ 0) (v5 : fs_1[0]? = some (.int u_4)) (h6 : (¬ (u_4 &&& ((-2057))) = 0) → mm_W l G k_R_directoryFault 124 [] [] b m Q) (h7 : ((u_4 &&& ((-2057))) = 0) → mm_W l G k_R_directoryFault 102 [(0, .ref r0), (1, .int x1), (2, .int x2), (3, .int x3), (4, .ref r4), (5, .ref r5), (6, .int xs0)] [] b m Q) : mm_W l G k_R_directoryFault 88 [(0, .ref r0), (1, .int x1), (2, .int x2), (3, .int x3), (4, .ref r4), (5, .ref r5)] [.int xs0] b m Q := by
  refine mm_istore (i := 6) d_R_directoryFault_88 (Nat.le_of_ble_eq_true rfl) (lv2 := [(6, .int xs0), (0, .ref r0), (1, .int x1), (2, .int x2), (3, .int x3), (4, .ref r4), (5, .ref r5)]) rfl ?_
  refine mm_aload 6 (i := 5) d_R_directoryFault_90 rfl ?_
  refine mm_getN cc_F 0 (by decide) nw_136 d_R_directoryFault_92 g2 z3 v5 ?_
  refine mm_sipush d_R_directoryFault_95 (v := (-2057)) (by decide) ?_
  refine mm_iand d_R_directoryFault_98 ?_
  exact mm_if_ne (tgt := 124) d_R_directoryFault_99 (by decide) (fun c => mm_sub [] rfl (h6 c)) (fun c => mm_sub [1, 2, 3, 4, 5, 6, 0] rfl (h7 c))
theorem t_R_directoryFault_102 {l : Launch} {G : mm_G} {b : Nat} {m : mm_Mem} {Q : mm_O → mm_Mem → Prop} {r0 : Nat} {x1 : Int32} {x2 : Int32} {x3 : Int32} {r4 : Nat} {r5 : Nat} {x6 : Int32} (h1 : (x6 = 0) → mm_W l G k_R_directoryFault 124 [] [] b m Q) (h2 : (¬ x6 = 0) → mm_W l G k_R_directoryFault 107 [(0, .ref r0), (1, .int x1), (2, .int x2), (3, .int x3), (4, .ref r4), (5, .ref r5)] [] b m Q) : mm_W l G k_R_directoryFault 102 [(0, .ref r0), (1, .int x1), (2, .int x2), (3, .int x3), (4, .ref r4), (5, .ref r5), (6, .int x6)] [] b m Q := by
  refine mm_iload 6 (i := 6) d_R_directoryFault_102 rfl ?_
  exact mm_if_eq (tgt := 124) d_R_directoryFault_104 (by decide) (fun c => mm_sub [] rfl (h1 c)) (fun c => mm_sub [0, 1, 2, 3, 4, 5] rfl (h2 c))
theorem t_R_directoryFault_107 {l : Launch} {G : mm_G} {b : Nat} {m : mm_Mem} {Q : mm_O → mm_Mem → Prop} {r0 : Nat} {x1 : Int32} {x2 : Int32} {x3 : Int32} {r4 : Nat} {r5 : Nat} {fs_1 : List Value} {q_4 : Nat} {b_6 : Nat} {b_7 : Nat} {m_9 : mm_Mem} {y_10 : Int64} {fs_11 : List Value} (g2 : m r0 = .inr (7, fs_1)) (z3 : r0 ≠ 0) (v5 : fs_1[0]? = some (.ref q_4)) (hb8 : b_6 + b_7 ≤ b) (g12 : m q_4 = .inr (2, fs_11)) (z13 : q_4 ≠ 0) (M14 : mm_W l G k_B_number 0 (lv_args 0 [.ref q_4, .int (x2 + 34), .int 2]) [] b_6 m (mm_is (.inl (some (.long y_10))) m_9)) (h15 : ((lg_cmp y_10 0) = 0) → mm_W l G k_R_directoryFault 126 [(0, .ref r0), (1, .int x1), (3, .int x3), (4, .ref r4), (5, .ref r5)] [] b_7 m_9 Q) (h16 : (¬ (lg_cmp y_10 0) = 0) → mm_W l G k_R_directoryFault 124 [] [] b_7 m_9 Q) : mm_W l G k_R_directoryFault 107 [(0, .ref r0), (1, .int x1), (2, .int x2), (3, .int x3), (4, .ref r4), (5, .ref r5)] [] b m Q := by
  refine mm_aload_n 0 (i := 0) d_R_directoryFault_107 rfl rfl ?_
  refine mm_get cc_R 0 (by decide) w_191 d_R_directoryFault_108 g2 z3 v5 ?_
  refine mm_iload_n 2 (i := 2) d_R_directoryFault_111 rfl rfl ?_
  refine mm_bipush d_R_directoryFault_112 (v := 34) (by decide) ?_
  refine mm_iadd d_R_directoryFault_114 ?_
  refine mm_iconst d_R_directoryFault_115 (v := 2) (by decide) ?_
  refine mm_callV (as := [.int (x2 + 34), .int 2]) (st := []) (b2 := b_7) ca_B_number w_642 w_643 w_644 cc_B.1 rfl d_R_directoryFault_116 rfl (Nat.le_of_ble_eq_true rfl) (Nat.le_of_ble_eq_true rfl) (Nat.le_of_ble_eq_true rfl) hb8 g12 z13 M14 (fun E _ ⟨c, _⟩ => nomatch c) (fun v _ ⟨c, e⟩ => ?_)
  cases c
  rw [e]
  show mm_W l G k_R_directoryFault 119 [(0, .ref r0), (1, .int x1), (2, .int x2), (3, .int x3), (4, .ref r4), (5, .ref r5)] [.long y_10] b_7 m_9 Q
  refine mm_lconst d_R_directoryFault_119 (v := 0) (by decide) ?_
  refine mm_lcmp d_R_directoryFault_120 ?_
  exact mm_if_eq (tgt := 126) d_R_directoryFault_121 (by decide) (fun c => mm_sub [0, 1, 3, 4, 5] rfl (h15 c)) (fun c => mm_sub [] rfl (h16 c))
theorem t_R_directoryFault_124 {l : Launch} {G : mm_G} {b : Nat} {m : mm_Mem} {Q : mm_O → mm_Mem → Prop}  (h1 : Q (.inl (some (.int 4))) m) : mm_W l G k_R_directoryFault 124 [] [] b m Q := by
  refine mm_iconst d_R_directoryFault_124 (v := 4) (by decide) ?_
  exact mm_iret d_R_directoryFault_125 rfl h1
theorem t_R_directoryFault_126 {l : Launch} {G : mm_G} {b : Nat} {m : mm_Mem} {Q : mm_O → mm_Mem → Prop} {r0 : Nat} {x1 : Int32} {x3 : Int32} {r4 : Nat} {r5 : Nat} {fs_1 : List Value} {q_4 : Nat} {fs_6 : List Value} {u_9 : Int32} {fs_11 : List Value} {u_14 : Int32} {b_16 : Nat} {b_17 : Nat} {m_19 : mm_Mem} {x_20 : Int32} (g2 : m r0 = .inr (7, fs_1)) (z3 : r0 ≠ 0) (v5 : fs_1[0]? = some (.ref q_4)) (g7 : m r4 = .inr (6, fs_6)) (z8 : r4 ≠ 0) (v10 : fs_6[1]? = some (.int u_9)) (g12 : m r5 = .inr (5, fs_11)) (z13 : r5 ≠ 0) (v15 : fs_11[5]? = some (.int u_14)) (hb18 : b_16 + b_17 ≤ b) (M21 : mm_W l G k_N_isName 0 (lv_args 0 [.ref q_4, .int u_9, .int u_14]) [] b_16 m (mm_is (.inl (some (.int x_20))) m_19)) (h22 : (x_20 = 0) → mm_W l G k_R_directoryFault 154 [] [] b_17 m_19 Q) (h23 : (¬ x_20 = 0) → mm_W l G k_R_directoryFault 146 [(0, .ref r0), (1, .int x1), (3, .int x3), (5, .ref r5)] [] b_17 m_19 Q) : mm_W l G k_R_directoryFault 126 [(0, .ref r0), (1, .int x1), (3, .int x3), (4, .ref r4), (5, .ref r5)] [] b m Q := by
  refine mm_aload_n 0 (i := 0) d_R_directoryFault_126 rfl rfl ?_
  refine mm_get cc_R 0 (by decide) w_191 d_R_directoryFault_127 g2 z3 v5 ?_
  refine mm_aload 3 (i := 4) d_R_directoryFault_130 rfl ?_
  refine mm_getN cc_G 1 (by decide) nw_169 d_R_directoryFault_132 g7 z8 v10 ?_
  refine mm_aload 4 (i := 5) d_R_directoryFault_135 rfl ?_
  refine mm_getN cc_F 5 (by decide) nw_147 d_R_directoryFault_137 g12 z13 v15 ?_
  refine mm_callS (as := [.ref q_4, .int u_9, .int u_14]) (st := []) (b2 := b_17) ca_N_isName w_667 w_463 d_R_directoryFault_140 rfl (Nat.le_of_ble_eq_true rfl) (Nat.le_of_ble_eq_true rfl) (Nat.le_of_ble_eq_true rfl) hb18 M21 (fun E _ ⟨c, _⟩ => nomatch c) (fun v _ ⟨c, e⟩ => ?_)
  cases c
  rw [e]
  show mm_W l G k_R_directoryFault 143 [(0, .ref r0), (1, .int x1), (3, .int x3), (4, .ref r4), (5, .ref r5)] [.int x_20] b_17 m_19 Q
  exact mm_if_eq (tgt := 154) d_R_directoryFault_143 (by decide) (fun c => mm_sub [] rfl (h22 c)) (fun c => mm_sub [0, 1, 2, 4] rfl (h23 c))
theorem t_R_directoryFault_146 {l : Launch} {G : mm_G} {b : Nat} {m : mm_Mem} {Q : mm_O → mm_Mem → Prop} {r0 : Nat} {x1 : Int32} {x3 : Int32} {r5 : Nat} {b_1 : Nat} {b_2 : Nat} {m_4 : mm_Mem} {x_5 : Int32} {fs_6 : List Value} (hb3 : b_1 + b_2 ≤ b) (g7 : m r0 = .inr (7, fs_6)) (z8 : r0 ≠ 0) (M9 : mm_W l G k_R_isNamedBefore 0 (lv_args 0 [.ref r0, .int x1]) [] b_1 m (mm_is (.inl (some (.int x_5))) m_4)) (h10 : (x_5 = 0) → mm_W l G k_R_directoryFault 156 [(0, .ref r0), (3, .int x3), (5, .ref r5)] [] b_2 m_4 Q) (h11 : (¬ x_5 = 0) → mm_W l G k_R_directoryFault 154 [] [] b_2 m_4 Q) : mm_W l G k_R_directoryFault 146 [(0, .ref r0), (1, .int x1), (3, .int x3), (5, .ref r5)] [] b m Q := by
  refine mm_aload_n 0 (i := 0) d_R_directoryFault_146 rfl rfl ?_
  refine mm_iload_n 1 (i := 1) d_R_directoryFault_147 rfl rfl ?_
  refine mm_callV (as := [.int x1]) (st := []) (b2 := b_2) ca_R_isNamedBefore w_668 w_670 v_R_isNamedBefore cc_R.1 rfl d_R_directoryFault_148 rfl (Nat.le_of_ble_eq_true rfl) (Nat.le_of_ble_eq_true rfl) (Nat.le_of_ble_eq_true rfl) hb3 g7 z8 M9 (fun E _ ⟨c, _⟩ => nomatch c) (fun v _ ⟨c, e⟩ => ?_)
  cases c
  rw [e]
  show mm_W l G k_R_directoryFault 151 [(0, .ref r0), (1, .int x1), (3, .int x3), (5, .ref r5)] [.int x_5] b_2 m_4 Q
  exact mm_if_eq (tgt := 156) d_R_directoryFault_151 (by decide) (fun c => mm_sub [0, 2, 3] rfl (h10 c)) (fun c => mm_sub [] rfl (h11 c))
theorem t_R_directoryFault_154 {l : Launch} {G : mm_G} {b : Nat} {m : mm_Mem} {Q : mm_O → mm_Mem → Prop}  (h1 : Q (.inl (some (.int 5))) m) : mm_W l G k_R_directoryFault 154 [] [] b m Q := by
  refine mm_iconst d_R_directoryFault_154 (v := 5) (by decide) ?_
  exact mm_iret d_R_directoryFault_155 rfl h1
theorem t_R_directoryFault_156 {l : Launch} {G : mm_G} {b : Nat} {m : mm_Mem} {Q : mm_O → mm_Mem → Prop} {r0 : Nat} {x3 : Int32} {r5 : Nat} {fs_1 : List Value} {u_4 : Int32} (g2 : m r5 = .inr (5, fs_1)) (z3 : r5 ≠ 0) (v5 : fs_1[1]? = some (.int u_4)) (h6 : (¬ u_4 = 0) → mm_W l G k_R_directoryFault 181 [(0, .ref r0), (3, .int x3), (5, .ref r5)] [] b m Q) (h7 : (u_4 = 0) → mm_W l G k_R_directoryFault 164 [(0, .ref r0), (3, .int x3), (5, .ref r5)] [] b m Q) : mm_W l G k_R_directoryFault 156 [(0, .ref r0), (3, .int x3), (5, .ref r5)] [] b m Q := by
  refine mm_aload 2 (i := 5) d_R_directoryFault_156 rfl ?_
  refine mm_getN cc_F 1 (by decide) nw_138 d_R_directoryFault_158 g2 z3 v5 ?_
  exact mm_if_ne (tgt := 181) d_R_directoryFault_161 (by decide) (fun c => mm_sub [0, 1, 2] rfl (h6 c)) (fun c => mm_sub [0, 1, 2] rfl (h7 c))
theorem t_R_directoryFault_164 {l : Launch} {G : mm_G} {b : Nat} {m : mm_Mem} {Q : mm_O → mm_Mem → Prop} {r0 : Nat} {x3 : Int32} {r5 : Nat} {fs_1 : List Value} {v_4 : Int64} {v_6 : Int64} (g2 : m r5 = .inr (5, fs_1)) (z3 : r5 ≠ 0) (v5 : fs_1[3]? = some (.long v_4)) (v7 : fs_1[4]? = some (.long v_6)) (h8 : ((lg_cmp v_4 v_6) = 0) → mm_W l G k_R_directoryFault 181 [(0, .ref r0), (3, .int x3), (5, .ref r5)] [] b m Q) (h9 : (¬ (lg_cmp v_4 v_6) = 0) → mm_W l G k_R_directoryFault 178 [] [] b m Q) : mm_W l G k_R_directoryFault 164 [(0, .ref r0), (3, .int x3), (5, .ref r5)] [] b m Q := by
  refine mm_aload 2 (i := 5) d_R_directoryFault_164 rfl ?_
  refine mm_getN cc_F 3 (by decide) nw_142 d_R_directoryFault_166 g2 z3 v5 ?_
  refine mm_aload 2 (i := 5) d_R_directoryFault_169 rfl ?_
  refine mm_getN cc_F 4 (by decide) nw_144 d_R_directoryFault_171 g2 z3 v7 ?_
  refine mm_lcmp d_R_directoryFault_174 ?_
  exact mm_if_eq (tgt := 181) d_R_directoryFault_175 (by decide) (fun c => mm_sub [0, 1, 2] rfl (h8 c)) (fun c => mm_sub [] rfl (h9 c))
theorem t_R_directoryFault_178 {l : Launch} {G : mm_G} {b : Nat} {m : mm_Mem} {Q : mm_O → mm_Mem → Prop}  (h1 : Q (.inl (some (.int 6))) m) : mm_W l G k_R_directoryFault 178 [] [] b m Q := by
  refine mm_bipush d_R_directoryFault_178 (v := 6) (by decide) ?_
  exact mm_iret d_R_directoryFault_180 rfl h1
theorem t_R_directoryFault_181 {l : Launch} {G : mm_G} {b : Nat} {m : mm_Mem} {Q : mm_O → mm_Mem → Prop} {r0 : Nat} {x3 : Int32} {r5 : Nat} {fs_1 : List Value} {v_4 : Int64} {fs_6 : List Value} {v_9 : Int64} {fs_12 : List Value} {v_14 : Int64} {fs_16 : List Value} {v_18 : Int64} {fs_21 : List Value} {v_23 : Int64} (g2 : m r0 = .inr (7, fs_1)) (z3 : r0 ≠ 0) (v5 : fs_1[11]? = some (.long v_4)) (g7 : m r5 = .inr (5, fs_6)) (z8 : r5 ≠ 0) (v10 : fs_6[3]? = some (.long v_9)) (l11 : 11 < fs_1.length) (g13 : (va_up m r0 (.inr (7, fs_1.set 11 (.long (v_4 + v_9))))) r0 = .inr (7, fs_12)) (v15 : fs_12[12]? = some (.long v_14)) (g17 : (va_up m r0 (.inr (7, fs_1.set 11 (.long (v_4 + v_9))))) r5 = .inr (5, fs_16)) (v19 : fs_16[4]? = some (.long v_18)) (l20 : 12 < fs_12.length) (g22 : (va_up (va_up m r0 (.inr (7, fs_1.set 11 (.long (v_4 + v_9))))) r0 (.inr (7, fs_12.set 12 (.long (v_14 + v_18))))) r0 = .inr (7, fs_21)) (v24 : fs_21[11]? = some (.long v_23)) (h25 : (0 < (lg_cmp v_23 x3.toInt64)) → mm_W l G k_R_directoryFault 229 [] [] b (va_up (va_up m r0 (.inr (7, fs_1.set 11 (.long (v_4 + v_9))))) r0 (.inr (7, fs_12.set 12 (.long (v_14 + v_18))))) Q) (h26 : (¬ 0 < (lg_cmp v_23 x3.toInt64)) → mm_W l G k_R_directoryFault 219 [(0, .ref r0), (3, .int x3)] [] b (va_up (va_up m r0 (.inr (7, fs_1.set 11 (.long (v_4 + v_9))))) r0 (.inr (7, fs_12.set 12 (.long (v_14 + v_18))))) Q) : mm_W l G k_R_directoryFault 181 [(0, .ref r0), (3, .int x3), (5, .ref r5)] [] b m Q := by
  refine mm_aload_n 0 (i := 0) d_R_directoryFault_181 rfl rfl ?_
  refine mm_dup d_R_directoryFault_182 rfl ?_
  refine mm_get cc_R 11 (by decide) w_205 d_R_directoryFault_183 g2 z3 v5 ?_
  refine mm_aload 2 (i := 5) d_R_directoryFault_186 rfl ?_
  refine mm_getN cc_F 3 (by decide) nw_142 d_R_directoryFault_188 g7 z8 v10 ?_
  refine mm_ladd d_R_directoryFault_191 ?_
  refine mm_putf cc_R 11 (by decide) w_205 d_R_directoryFault_192 rfl (fun _ => rfl) (fun _ => rfl) g2 z3 l11 ?_
  refine mm_aload_n 0 (i := 0) d_R_directoryFault_195 rfl rfl ?_
  refine mm_dup d_R_directoryFault_196 rfl ?_
  refine mm_get cc_R 12 (by decide) w_206 d_R_directoryFault_197 g13 z3 v15 ?_
  refine mm_aload 2 (i := 5) d_R_directoryFault_200 rfl ?_
  refine mm_getN cc_F 4 (by decide) nw_144 d_R_directoryFault_202 g17 z8 v19 ?_
  refine mm_ladd d_R_directoryFault_205 ?_
  refine mm_putf cc_R 12 (by decide) w_206 d_R_directoryFault_206 rfl (fun _ => rfl) (fun _ => rfl) g13 z3 l20 ?_
  refine mm_aload_n 0 (i := 0) d_R_directoryFault_209 rfl rfl ?_
  refine mm_get cc_R 11 (by decide) w_205 d_R_directoryFault_210 g22 z3 v24 ?_
  refine mm_iload_n 1 (i := 3) d_R_directoryFault_213 rfl rfl ?_
  refine mm_i2l d_R_directoryFault_214 ?_
  refine mm_lcmp d_R_directoryFault_215 ?_
  exact mm_if_gt (tgt := 229) d_R_directoryFault_216 (by decide) (fun c => mm_sub [] rfl (h25 c)) (fun c => mm_sub [0, 1] rfl (h26 c))
theorem t_R_directoryFault_219 {l : Launch} {G : mm_G} {b : Nat} {m : mm_Mem} {Q : mm_O → mm_Mem → Prop} {r0 : Nat} {x3 : Int32} {fs_1 : List Value} {v_4 : Int64} (g2 : m r0 = .inr (7, fs_1)) (z3 : r0 ≠ 0) (v5 : fs_1[12]? = some (.long v_4)) (h6 : ((lg_cmp v_4 x3.toInt64) ≤ 0) → mm_W l G k_R_directoryFault 234 [] [] b m Q) (h7 : (¬ (lg_cmp v_4 x3.toInt64) ≤ 0) → mm_W l G k_R_directoryFault 229 [] [] b m Q) : mm_W l G k_R_directoryFault 219 [(0, .ref r0), (3, .int x3)] [] b m Q := by
  refine mm_aload_n 0 (i := 0) d_R_directoryFault_219 rfl rfl ?_
  refine mm_get cc_R 12 (by decide) w_206 d_R_directoryFault_220 g2 z3 v5 ?_
  refine mm_iload_n 1 (i := 3) d_R_directoryFault_223 rfl rfl ?_
  refine mm_i2l d_R_directoryFault_224 ?_
  refine mm_lcmp d_R_directoryFault_225 ?_
  exact mm_if_le (tgt := 234) d_R_directoryFault_226 (by decide) (fun c => mm_sub [] rfl (h6 c)) (fun c => mm_sub [] rfl (h7 c))
theorem t_R_directoryFault_229 {l : Launch} {G : mm_G} {b : Nat} {m : mm_Mem} {Q : mm_O → mm_Mem → Prop}  (h1 : mm_W l G k_R_directoryFault 235 [] [.int 9] b m Q) : mm_W l G k_R_directoryFault 229 [] [] b m Q := by
  refine mm_bipush d_R_directoryFault_229 (v := 9) (by decide) ?_
  refine mm_goto (tgt := 235) d_R_directoryFault_231 (by decide) ?_
  exact mm_sub [] rfl h1
theorem t_R_directoryFault_234 {l : Launch} {G : mm_G} {b : Nat} {m : mm_Mem} {Q : mm_O → mm_Mem → Prop}  (h1 : mm_W l G k_R_directoryFault 235 [] [.int 0] b m Q) : mm_W l G k_R_directoryFault 234 [] [] b m Q := by
  refine mm_iconst d_R_directoryFault_234 (v := 0) (by decide) ?_
  exact mm_sub [] rfl h1
theorem t_R_directoryFault_235 {l : Launch} {G : mm_G} {b : Nat} {m : mm_Mem} {Q : mm_O → mm_Mem → Prop} {xs0 : Int32} (h1 : Q (.inl (some (.int xs0))) m) : mm_W l G k_R_directoryFault 235 [] [.int xs0] b m Q := by
  exact mm_iret d_R_directoryFault_235 rfl h1
theorem t_R_isNamedBefore_0 {l : Launch} {G : mm_G} {b : Nat} {m : mm_Mem} {Q : mm_O → mm_Mem → Prop} {r0 : Nat} {x1 : Int32} {fs_1 : List Value} {q_4 : Nat} {n_6 : Nat} {f_7 : Nat → Option Nat} {q_11 : Nat} {fs_13 : List Value} {u_16 : Int32} {q_19 : Nat} {fs_21 : List Value} {q_24 : Nat} {fs_26 : List Value} {u_29 : Int32} (g2 : m r0 = .inr (7, fs_1)) (z3 : r0 ≠ 0) (v5 : fs_1[2]? = some (.ref q_4)) (a8 : m q_4 = .inl (G.2 5, n_6, .inr (.inr (.inr (.inr f_7))))) (z9 : q_4 ≠ 0) (i10 : vp_in x1 n_6) (e12 : f_7 x1.toNatClampNeg = some q_11) (g14 : m q_11 = .inr (6, fs_13)) (z15 : q_11 ≠ 0) (v17 : fs_13[1]? = some (.int u_16)) (i18 : vp_in x1 n_6) (e20 : f_7 x1.toNatClampNeg = some q_19) (g22 : m q_19 = .inr (6, fs_21)) (z23 : q_19 ≠ 0) (v25 : fs_21[0]? = some (.ref q_24)) (g27 : m q_24 = .inr (5, fs_26)) (z28 : q_24 ≠ 0) (v30 : fs_26[5]? = some (.int u_29)) (h31 : mm_W l G k_R_isNamedBefore 26 [(0, .ref r0), (1, .int x1), (2, .int u_16), (3, .int u_29), (4, .int 0)] [] b m Q) : mm_W l G k_R_isNamedBefore 0 [(0, .ref r0), (1, .int x1)] [] b m Q := by
  refine mm_aload_n 0 (i := 0) d_R_isNamedBefore_0 rfl rfl ?_
  refine mm_get cc_R 2 (by decide) w_193 d_R_isNamedBefore_1 g2 z3 v5 ?_
  refine mm_iload_n 1 (i := 1) d_R_isNamedBefore_4 rfl rfl ?_
  refine mm_aald (t := 5) rfl d_R_isNamedBefore_5 a8 z9 i10 e12 ?_
  refine mm_getN cc_G 1 (by decide) nw_169 d_R_isNamedBefore_6 g14 z15 v17 ?_
  refine mm_istore_n (i := 2) d_R_isNamedBefore_9 rfl (Nat.le_of_ble_eq_true rfl) (lv2 := [(2, .int u_16), (0, .ref r0), (1, .int x1)]) rfl ?_
  refine mm_aload_n 1 (i := 0) d_R_isNamedBefore_10 rfl rfl ?_
  refine mm_get cc_R 2 (by decide) w_193 d_R_isNamedBefore_11 g2 z3 v5 ?_
  refine mm_iload_n 2 (i := 1) d_R_isNamedBefore_14 rfl rfl ?_
  refine mm_aald (t := 5) rfl d_R_isNamedBefore_15 a8 z9 i18 e20 ?_
  refine mm_getN cc_G 0 (by decide) nw_167 d_R_isNamedBefore_16 g22 z23 v25 ?_
  refine mm_getN cc_F 5 (by decide) nw_147 d_R_isNamedBefore_19 g27 z28 v30 ?_
  refine mm_istore_n (i := 3) d_R_isNamedBefore_22 rfl (Nat.le_of_ble_eq_true rfl) (lv2 := [(3, .int u_29), (2, .int u_16), (0, .ref r0), (1, .int x1)]) rfl ?_
  refine mm_iconst d_R_isNamedBefore_23 (v := 0) (by decide) ?_
  refine mm_istore (i := 4) d_R_isNamedBefore_24 (Nat.le_of_ble_eq_true rfl) (lv2 := [(4, .int 0), (3, .int u_29), (2, .int u_16), (0, .ref r0), (1, .int x1)]) rfl ?_
  exact mm_sub [3, 4, 2, 1, 0] rfl h31
theorem t_R_isNamedBefore_26 {l : Launch} {G : mm_G} {b : Nat} {m : mm_Mem} {Q : mm_O → mm_Mem → Prop} {r0 : Nat} {x1 : Int32} {x2 : Int32} {x3 : Int32} {x4 : Int32} (h1 : (x1 ≤ x4) → mm_W l G k_R_isNamedBefore 83 [] [] b m Q) (h2 : (¬ x1 ≤ x4) → mm_W l G k_R_isNamedBefore 32 [(0, .ref r0), (1, .int x1), (2, .int x2), (3, .int x3), (4, .int x4)] [] b m Q) : mm_W l G k_R_isNamedBefore 26 [(0, .ref r0), (1, .int x1), (2, .int x2), (3, .int x3), (4, .int x4)] [] b m Q := by
  refine mm_iload 4 (i := 4) d_R_isNamedBefore_26 rfl ?_
  refine mm_iload_n 1 (i := 1) d_R_isNamedBefore_28 rfl rfl ?_
  exact mm_icmp_ge (tgt := 83) d_R_isNamedBefore_29 (by decide) (fun c => mm_sub [] rfl (h1 c)) (fun c => mm_sub [0, 1, 2, 3, 4] rfl (h2 c))
theorem t_R_isNamedBefore_32 {l : Launch} {G : mm_G} {b : Nat} {m : mm_Mem} {Q : mm_O → mm_Mem → Prop} {r0 : Nat} {x1 : Int32} {x2 : Int32} {x3 : Int32} {x4 : Int32} {fs_1 : List Value} {q_4 : Nat} {n_6 : Nat} {f_7 : Nat → Option Nat} {q_11 : Nat} {fs_13 : List Value} {q_16 : Nat} {fs_18 : List Value} {u_21 : Int32} (g2 : m r0 = .inr (7, fs_1)) (z3 : r0 ≠ 0) (v5 : fs_1[2]? = some (.ref q_4)) (a8 : m q_4 = .inl (G.2 5, n_6, .inr (.inr (.inr (.inr f_7))))) (z9 : q_4 ≠ 0) (i10 : vp_in x4 n_6) (e12 : f_7 x4.toNatClampNeg = some q_11) (g14 : m q_11 = .inr (6, fs_13)) (z15 : q_11 ≠ 0) (v17 : fs_13[0]? = some (.ref q_16)) (g19 : m q_16 = .inr (5, fs_18)) (z20 : q_16 ≠ 0) (v22 : fs_18[5]? = some (.int u_21)) (h23 : (¬ u_21 = x3) → mm_W l G k_R_isNamedBefore 77 [(0, .ref r0), (1, .int x1), (2, .int x2), (3, .int x3), (4, .int x4)] [] b m Q) (h24 : (u_21 = x3) → mm_W l G k_R_isNamedBefore 49 [(0, .ref r0), (1, .int x1), (2, .int x2), (3, .int x3), (4, .int x4)] [] b m Q) : mm_W l G k_R_isNamedBefore 32 [(0, .ref r0), (1, .int x1), (2, .int x2), (3, .int x3), (4, .int x4)] [] b m Q := by
  refine mm_aload_n 0 (i := 0) d_R_isNamedBefore_32 rfl rfl ?_
  refine mm_get cc_R 2 (by decide) w_193 d_R_isNamedBefore_33 g2 z3 v5 ?_
  refine mm_iload 4 (i := 4) d_R_isNamedBefore_36 rfl ?_
  refine mm_aald (t := 5) rfl d_R_isNamedBefore_38 a8 z9 i10 e12 ?_
  refine mm_getN cc_G 0 (by decide) nw_167 d_R_isNamedBefore_39 g14 z15 v17 ?_
  refine mm_getN cc_F 5 (by decide) nw_147 d_R_isNamedBefore_42 g19 z20 v22 ?_
  refine mm_iload_n 3 (i := 3) d_R_isNamedBefore_45 rfl rfl ?_
  exact mm_icmp_ne (tgt := 77) d_R_isNamedBefore_46 (by decide) (fun c => mm_sub [0, 1, 2, 3, 4] rfl (h23 c)) (fun c => mm_sub [0, 1, 2, 3, 4] rfl (h24 c))
theorem t_R_isNamedBefore_49 {l : Launch} {G : mm_G} {b : Nat} {m : mm_Mem} {Q : mm_O → mm_Mem → Prop} {r0 : Nat} {x1 : Int32} {x2 : Int32} {x3 : Int32} {x4 : Int32} {fs_1 : List Value} {q_4 : Nat} {q_6 : Nat} {n_8 : Nat} {f_9 : Nat → Option Nat} {q_13 : Nat} {fs_15 : List Value} {u_18 : Int32} {b_20 : Nat} {b_21 : Nat} {m_23 : mm_Mem} {x_24 : Int32} (g2 : m r0 = .inr (7, fs_1)) (z3 : r0 ≠ 0) (v5 : fs_1[0]? = some (.ref q_4)) (v7 : fs_1[2]? = some (.ref q_6)) (a10 : m q_6 = .inl (G.2 5, n_8, .inr (.inr (.inr (.inr f_9))))) (z11 : q_6 ≠ 0) (i12 : vp_in x4 n_8) (e14 : f_9 x4.toNatClampNeg = some q_13) (g16 : m q_13 = .inr (6, fs_15)) (z17 : q_13 ≠ 0) (v19 : fs_15[1]? = some (.int u_18)) (hb22 : b_20 + b_21 ≤ b) (M25 : mm_W l G k_N_areAlike 0 (lv_args 0 [.ref q_4, .int u_18, .ref q_4, .int x2, .int x3]) [] b_20 m (mm_is (.inl (some (.int x_24))) m_23)) (h26 : (x_24 = 0) → mm_W l G k_R_isNamedBefore 77 [(0, .ref r0), (1, .int x1), (2, .int x2), (3, .int x3), (4, .int x4)] [] b_21 m_23 Q) (h27 : (¬ x_24 = 0) → mm_W l G k_R_isNamedBefore 75 [] [] b_21 m_23 Q) : mm_W l G k_R_isNamedBefore 49 [(0, .ref r0), (1, .int x1), (2, .int x2), (3, .int x3), (4, .int x4)] [] b m Q := by
  refine mm_aload_n 0 (i := 0) d_R_isNamedBefore_49 rfl rfl ?_
  refine mm_get cc_R 0 (by decide) w_191 d_R_isNamedBefore_50 g2 z3 v5 ?_
  refine mm_aload_n 0 (i := 0) d_R_isNamedBefore_53 rfl rfl ?_
  refine mm_get cc_R 2 (by decide) w_193 d_R_isNamedBefore_54 g2 z3 v7 ?_
  refine mm_iload 4 (i := 4) d_R_isNamedBefore_57 rfl ?_
  refine mm_aald (t := 5) rfl d_R_isNamedBefore_59 a10 z11 i12 e14 ?_
  refine mm_getN cc_G 1 (by decide) nw_169 d_R_isNamedBefore_60 g16 z17 v19 ?_
  refine mm_aload_n 0 (i := 0) d_R_isNamedBefore_63 rfl rfl ?_
  refine mm_get cc_R 0 (by decide) w_191 d_R_isNamedBefore_64 g2 z3 v5 ?_
  refine mm_iload_n 2 (i := 2) d_R_isNamedBefore_67 rfl rfl ?_
  refine mm_iload_n 3 (i := 3) d_R_isNamedBefore_68 rfl rfl ?_
  refine mm_callS (as := [.ref q_4, .int u_18, .ref q_4, .int x2, .int x3]) (st := []) (b2 := b_21) ca_N_areAlike w_672 w_276 d_R_isNamedBefore_69 rfl (Nat.le_of_ble_eq_true rfl) (Nat.le_of_ble_eq_true rfl) (Nat.le_of_ble_eq_true rfl) hb22 M25 (fun E _ ⟨c, _⟩ => nomatch c) (fun v _ ⟨c, e⟩ => ?_)
  cases c
  rw [e]
  show mm_W l G k_R_isNamedBefore 72 [(0, .ref r0), (1, .int x1), (2, .int x2), (3, .int x3), (4, .int x4)] [.int x_24] b_21 m_23 Q
  exact mm_if_eq (tgt := 77) d_R_isNamedBefore_72 (by decide) (fun c => mm_sub [0, 1, 2, 3, 4] rfl (h26 c)) (fun c => mm_sub [] rfl (h27 c))
theorem t_R_isNamedBefore_75 {l : Launch} {G : mm_G} {b : Nat} {m : mm_Mem} {Q : mm_O → mm_Mem → Prop}  (h1 : Q (.inl (some (.int 1))) m) (hn2 : narrow .boolean (.int 1) = .int 1) : mm_W l G k_R_isNamedBefore 75 [] [] b m Q := by
  refine mm_iconst d_R_isNamedBefore_75 (v := 1) (by decide) ?_
  exact mm_zret d_R_isNamedBefore_76 rfl hn2 h1
theorem t_R_isNamedBefore_77 {l : Launch} {G : mm_G} {b : Nat} {m : mm_Mem} {Q : mm_O → mm_Mem → Prop} {r0 : Nat} {x1 : Int32} {x2 : Int32} {x3 : Int32} {x4 : Int32} (h1 : mm_W l G k_R_isNamedBefore 26 [(0, .ref r0), (1, .int x1), (2, .int x2), (3, .int x3), (4, .int (x4 + 1))] [] b m Q) : mm_W l G k_R_isNamedBefore 77 [(0, .ref r0), (1, .int x1), (2, .int x2), (3, .int x3), (4, .int x4)] [] b m Q := by
  refine mm_iinc 4 (i := 4) d_R_isNamedBefore_77 rfl (v := x4 + 1) rfl (Nat.le_of_ble_eq_true rfl) (lv2 := [(4, .int (x4 + 1)), (0, .ref r0), (1, .int x1), (2, .int x2), (3, .int x3)]) rfl ?_
  refine mm_goto (tgt := 26) d_R_isNamedBefore_80 (by decide) ?_
  exact mm_sub [1, 2, 3, 4, 0] rfl h1
theorem t_R_isNamedBefore_83 {l : Launch} {G : mm_G} {b : Nat} {m : mm_Mem} {Q : mm_O → mm_Mem → Prop}  (h1 : Q (.inl (some (.int 0))) m) (hn2 : narrow .boolean (.int 0) = .int 0) : mm_W l G k_R_isNamedBefore 83 [] [] b m Q := by
  refine mm_iconst d_R_isNamedBefore_83 (v := 0) (by decide) ?_
  exact mm_zret d_R_isNamedBefore_84 rfl hn2 h1
theorem t_R_examineEntries_0 {l : Launch} {G : mm_G} {b : Nat} {m : mm_Mem} {Q : mm_O → mm_Mem → Prop} {r0 : Nat} (h1 : mm_W l G k_R_examineEntries 2 [(0, .ref r0), (1, .int 0)] [] b m Q) : mm_W l G k_R_examineEntries 0 [(0, .ref r0)] [] b m Q := by
  refine mm_iconst d_R_examineEntries_0 (v := 0) (by decide) ?_
  refine mm_istore_n (i := 1) d_R_examineEntries_1 rfl (Nat.le_of_ble_eq_true rfl) (lv2 := [(1, .int 0), (0, .ref r0)]) rfl ?_
  exact mm_sub [1, 0] rfl h1
theorem t_R_examineEntries_2 {l : Launch} {G : mm_G} {b : Nat} {m : mm_Mem} {Q : mm_O → mm_Mem → Prop} {r0 : Nat} {x1 : Int32} {fs_1 : List Value} {u_4 : Int32} (g2 : m r0 = .inr (7, fs_1)) (z3 : r0 ≠ 0) (v5 : fs_1[10]? = some (.int u_4)) (h6 : (u_4 ≤ x1) → mm_W l G k_R_examineEntries 69 [] [] b m Q) (h7 : (¬ u_4 ≤ x1) → mm_W l G k_R_examineEntries 10 [(0, .ref r0), (1, .int x1)] [] b m Q) : mm_W l G k_R_examineEntries 2 [(0, .ref r0), (1, .int x1)] [] b m Q := by
  refine mm_iload_n 1 (i := 1) d_R_examineEntries_2 rfl rfl ?_
  refine mm_aload_n 0 (i := 0) d_R_examineEntries_3 rfl rfl ?_
  refine mm_get cc_R 10 (by decide) w_204 d_R_examineEntries_4 g2 z3 v5 ?_
  exact mm_icmp_ge (tgt := 69) d_R_examineEntries_7 (by decide) (fun c => mm_sub [] rfl (h6 c)) (fun c => mm_sub [0, 1] rfl (h7 c))
theorem t_R_examineEntries_10 {l : Launch} {G : mm_G} {b : Nat} {m : mm_Mem} {Q : mm_O → mm_Mem → Prop} {r0 : Nat} {x1 : Int32} {fs_1 : List Value} {q_4 : Nat} {n_6 : Nat} {f_7 : Nat → Option Nat} {q_11 : Nat} {fs_13 : List Value} {v_16 : Int64} {b_18 : Nat} {b_19 : Nat} {P_21 : mm_O → mm_Mem → Prop} (g2 : m r0 = .inr (7, fs_1)) (z3 : r0 ≠ 0) (v5 : fs_1[2]? = some (.ref q_4)) (a8 : m q_4 = .inl (G.2 5, n_6, .inr (.inr (.inr (.inr f_7))))) (z9 : q_4 ≠ 0) (i10 : vp_in x1 n_6) (e12 : f_7 x1.toNatClampNeg = some q_11) (g14 : m q_11 = .inr (6, fs_13)) (z15 : q_11 ≠ 0) (v17 : fs_13[3]? = some (.long v_16)) (hb20 : b_18 + b_19 ≤ b) (M22 : mm_W l G k_R_isHeadSound 0 (lv_args 0 [.ref r0, .ref q_11]) [] b_18 m P_21) (hx23 : ∀ (E : String) (n_2 : mm_Mem), ¬ P_21 (.inr E) n_2) (h24 : ∀ (v : Option Value) (n_2 : mm_Mem), P_21 (.inl v) n_2 → ∃ x9 : Int32, v = some (.int x9) ∧ mm_W l G k_R_examineEntries 34 [(0, .ref r0), (1, .int x1), (2, .ref q_11), (3, .int ((if 65536 < v_16 then 65536 else v_16).toInt32))] [.int x9] b_19 n_2 Q) : mm_W l G k_R_examineEntries 10 [(0, .ref r0), (1, .int x1)] [] b m Q := by
  refine mm_aload_n 0 (i := 0) d_R_examineEntries_10 rfl rfl ?_
  refine mm_get cc_R 2 (by decide) w_193 d_R_examineEntries_11 g2 z3 v5 ?_
  refine mm_iload_n 1 (i := 1) d_R_examineEntries_14 rfl rfl ?_
  refine mm_aald (t := 5) rfl d_R_examineEntries_15 a8 z9 i10 e12 ?_
  refine mm_astore_n (i := 2) d_R_examineEntries_16 rfl (Nat.le_of_ble_eq_true rfl) (lv2 := [(2, .ref q_11), (0, .ref r0), (1, .int x1)]) rfl ?_
  refine mm_aload_n 0 (i := 2) d_R_examineEntries_17 rfl rfl ?_
  refine mm_getN cc_G 3 (by decide) nw_173 d_R_examineEntries_18 g14 z15 v17 ?_
  refine mm_ldc2 (v := 65536) w_677 d_R_examineEntries_21 ?_
  refine mm_minL w_678 w_679 w_3 w_680 d_R_examineEntries_24 (Nat.le_of_ble_eq_true rfl) (Nat.le_of_ble_eq_true rfl) ?_
  refine mm_l2i d_R_examineEntries_27 ?_
  refine mm_istore_n (i := 3) d_R_examineEntries_28 rfl (Nat.le_of_ble_eq_true rfl) (lv2 := [(3, .int ((if 65536 < v_16 then 65536 else v_16).toInt32)), (2, .ref q_11), (0, .ref r0), (1, .int x1)]) rfl ?_
  refine mm_aload_n 2 (i := 0) d_R_examineEntries_29 rfl rfl ?_
  refine mm_aload_n 1 (i := 2) d_R_examineEntries_30 rfl rfl ?_
  refine mm_callV (as := [.ref q_11]) (st := []) (b2 := b_19) ca_R_isHeadSound w_681 w_683 v_R_isHeadSound cc_R.1 rfl d_R_examineEntries_31 rfl (Nat.le_of_ble_eq_true rfl) (Nat.le_of_ble_eq_true rfl) (Nat.le_of_ble_eq_true rfl) hb20 g2 z3 M22 (fun E m2 q => absurd q (hx23 E m2)) (fun v m2 q => ?_)
  obtain ⟨x9, rfl, z9⟩ := h24 v m2 q
  exact mm_sub [2, 3, 1, 0] rfl z9
theorem t_R_examineEntries_34 {l : Launch} {G : mm_G} {b : Nat} {m : mm_Mem} {Q : mm_O → mm_Mem → Prop} {r0 : Nat} {x1 : Int32} {r2 : Nat} {x3 : Int32} {xs0 : Int32} (h1 : (¬ xs0 = 0) → mm_W l G k_R_examineEntries 46 [(0, .ref r0), (1, .int x1), (2, .ref r2), (3, .int x3)] [] b m Q) (h2 : (xs0 = 0) → mm_W l G k_R_examineEntries 37 [(0, .ref r0), (1, .int x1), (3, .int x3)] [] b m Q) : mm_W l G k_R_examineEntries 34 [(0, .ref r0), (1, .int x1), (2, .ref r2), (3, .int x3)] [.int xs0] b m Q := by
  exact mm_if_ne (tgt := 46) d_R_examineEntries_34 (by decide) (fun c => mm_sub [0, 1, 2, 3] rfl (h1 c)) (fun c => mm_sub [0, 1, 3] rfl (h2 c))
theorem t_R_examineEntries_37 {l : Launch} {G : mm_G} {b : Nat} {m : mm_Mem} {Q : mm_O → mm_Mem → Prop} {r0 : Nat} {x1 : Int32} {x3 : Int32} {b_1 : Nat} {b_2 : Nat} {m_4 : mm_Mem} {x_5 : Int32} {fs_6 : List Value} (hb3 : b_1 + b_2 ≤ b) (g7 : m r0 = .inr (7, fs_6)) (z8 : r0 ≠ 0) (M9 : mm_W l G k_R_note 0 (lv_args 0 [.ref r0, .int 7, .int x3, .int x1]) [] b_1 m (mm_is (.inl (some (.int x_5))) m_4)) (h10 : Q (.inl (some (.int x_5))) m_4) (hn11 : narrow .boolean (.int x_5) = .int x_5) : mm_W l G k_R_examineEntries 37 [(0, .ref r0), (1, .int x1), (3, .int x3)] [] b m Q := by
  refine mm_aload_n 0 (i := 0) d_R_examineEntries_37 rfl rfl ?_
  refine mm_bipush d_R_examineEntries_38 (v := 7) (by decide) ?_
  refine mm_iload_n 2 (i := 3) d_R_examineEntries_40 rfl rfl ?_
  refine mm_iload_n 1 (i := 1) d_R_examineEntries_41 rfl rfl ?_
  refine mm_callV (as := [.int 7, .int x3, .int x1]) (st := []) (b2 := b_2) ca_R_note w_623 w_625 v_R_note cc_R.1 rfl d_R_examineEntries_42 rfl (Nat.le_of_ble_eq_true rfl) (Nat.le_of_ble_eq_true rfl) (Nat.le_of_ble_eq_true rfl) hb3 g7 z8 M9 (fun E _ ⟨c, _⟩ => nomatch c) (fun v _ ⟨c, e⟩ => ?_)
  cases c
  rw [e]
  show mm_W l G k_R_examineEntries 45 [(0, .ref r0), (1, .int x1), (3, .int x3)] [.int x_5] b_2 m_4 Q
  exact mm_zret d_R_examineEntries_45 rfl hn11 h10
theorem t_R_examineEntries_46 {l : Launch} {G : mm_G} {b : Nat} {m : mm_Mem} {Q : mm_O → mm_Mem → Prop} {r0 : Nat} {x1 : Int32} {r2 : Nat} {x3 : Int32} {b_1 : Nat} {b_2 : Nat} {P_4 : mm_O → mm_Mem → Prop} {fs_5 : List Value} (hb3 : b_1 + b_2 ≤ b) (g6 : m r0 = .inr (7, fs_5)) (z7 : r0 ≠ 0) (M8 : mm_W l G k_R_areBytesSound 0 (lv_args 0 [.ref r0, .ref r2]) [] b_1 m P_4) (hx9 : ∀ (E : String) (n_2 : mm_Mem), ¬ P_4 (.inr E) n_2) (h10 : ∀ (v : Option Value) (n_2 : mm_Mem), P_4 (.inl v) n_2 → ∃ x9 : Int32, v = some (.int x9) ∧ mm_W l G k_R_examineEntries 51 [(0, .ref r0), (1, .int x1), (3, .int x3)] [.int x9] b_2 n_2 Q) : mm_W l G k_R_examineEntries 46 [(0, .ref r0), (1, .int x1), (2, .ref r2), (3, .int x3)] [] b m Q := by
  refine mm_aload_n 0 (i := 0) d_R_examineEntries_46 rfl rfl ?_
  refine mm_aload_n 2 (i := 2) d_R_examineEntries_47 rfl rfl ?_
  refine mm_callV (as := [.ref r2]) (st := []) (b2 := b_2) ca_R_areBytesSound w_699 w_701 v_R_areBytesSound cc_R.1 rfl d_R_examineEntries_48 rfl (Nat.le_of_ble_eq_true rfl) (Nat.le_of_ble_eq_true rfl) (Nat.le_of_ble_eq_true rfl) hb3 g6 z7 M8 (fun E m2 q => absurd q (hx9 E m2)) (fun v m2 q => ?_)
  obtain ⟨x9, rfl, z9⟩ := h10 v m2 q
  exact mm_sub [0, 1, 3] rfl z9
theorem t_R_examineEntries_51 {l : Launch} {G : mm_G} {b : Nat} {m : mm_Mem} {Q : mm_O → mm_Mem → Prop} {r0 : Nat} {x1 : Int32} {x3 : Int32} {xs0 : Int32} (h1 : (¬ xs0 = 0) → mm_W l G k_R_examineEntries 63 [(0, .ref r0), (1, .int x1)] [] b m Q) (h2 : (xs0 = 0) → mm_W l G k_R_examineEntries 54 [(0, .ref r0), (1, .int x1), (3, .int x3)] [] b m Q) : mm_W l G k_R_examineEntries 51 [(0, .ref r0), (1, .int x1), (3, .int x3)] [.int xs0] b m Q := by
  exact mm_if_ne (tgt := 63) d_R_examineEntries_51 (by decide) (fun c => mm_sub [0, 1] rfl (h1 c)) (fun c => mm_sub [0, 1, 2] rfl (h2 c))
theorem t_R_examineEntries_54 {l : Launch} {G : mm_G} {b : Nat} {m : mm_Mem} {Q : mm_O → mm_Mem → Prop} {r0 : Nat} {x1 : Int32} {x3 : Int32} {b_1 : Nat} {b_2 : Nat} {m_4 : mm_Mem} {x_5 : Int32} {fs_6 : List Value} (hb3 : b_1 + b_2 ≤ b) (g7 : m r0 = .inr (7, fs_6)) (z8 : r0 ≠ 0) (M9 : mm_W l G k_R_note 0 (lv_args 0 [.ref r0, .int 8, .int x3, .int x1]) [] b_1 m (mm_is (.inl (some (.int x_5))) m_4)) (h10 : Q (.inl (some (.int x_5))) m_4) (hn11 : narrow .boolean (.int x_5) = .int x_5) : mm_W l G k_R_examineEntries 54 [(0, .ref r0), (1, .int x1), (3, .int x3)] [] b m Q := by
  refine mm_aload_n 0 (i := 0) d_R_examineEntries_54 rfl rfl ?_
  refine mm_bipush d_R_examineEntries_55 (v := 8) (by decide) ?_
  refine mm_iload_n 2 (i := 3) d_R_examineEntries_57 rfl rfl ?_
  refine mm_iload_n 1 (i := 1) d_R_examineEntries_58 rfl rfl ?_
  refine mm_callV (as := [.int 8, .int x3, .int x1]) (st := []) (b2 := b_2) ca_R_note w_623 w_625 v_R_note cc_R.1 rfl d_R_examineEntries_59 rfl (Nat.le_of_ble_eq_true rfl) (Nat.le_of_ble_eq_true rfl) (Nat.le_of_ble_eq_true rfl) hb3 g7 z8 M9 (fun E _ ⟨c, _⟩ => nomatch c) (fun v _ ⟨c, e⟩ => ?_)
  cases c
  rw [e]
  show mm_W l G k_R_examineEntries 62 [(0, .ref r0), (1, .int x1), (3, .int x3)] [.int x_5] b_2 m_4 Q
  exact mm_zret d_R_examineEntries_62 rfl hn11 h10
theorem t_R_examineEntries_63 {l : Launch} {G : mm_G} {b : Nat} {m : mm_Mem} {Q : mm_O → mm_Mem → Prop} {r0 : Nat} {x1 : Int32} (h1 : mm_W l G k_R_examineEntries 2 [(0, .ref r0), (1, .int (x1 + 1))] [] b m Q) : mm_W l G k_R_examineEntries 63 [(0, .ref r0), (1, .int x1)] [] b m Q := by
  refine mm_iinc 1 (i := 1) d_R_examineEntries_63 rfl (v := x1 + 1) rfl (Nat.le_of_ble_eq_true rfl) (lv2 := [(1, .int (x1 + 1)), (0, .ref r0)]) rfl ?_
  refine mm_goto (tgt := 2) d_R_examineEntries_66 (by decide) ?_
  exact mm_sub [1, 0] rfl h1
theorem t_R_examineEntries_69 {l : Launch} {G : mm_G} {b : Nat} {m : mm_Mem} {Q : mm_O → mm_Mem → Prop}  (h1 : Q (.inl (some (.int 1))) m) (hn2 : narrow .boolean (.int 1) = .int 1) : mm_W l G k_R_examineEntries 69 [] [] b m Q := by
  refine mm_iconst d_R_examineEntries_69 (v := 1) (by decide) ?_
  exact mm_zret d_R_examineEntries_70 rfl hn2 h1
theorem t_R_isHeadSound_0 {l : Launch} {G : mm_G} {b : Nat} {m : mm_Mem} {Q : mm_O → mm_Mem → Prop} {r0 : Nat} {r1 : Nat} {fs_1 : List Value} {v_4 : Int64} {fs_6 : List Value} {u_9 : Int32} (g2 : m r1 = .inr (6, fs_1)) (z3 : r1 ≠ 0) (v5 : fs_1[3]? = some (.long v_4)) (g7 : m r0 = .inr (7, fs_6)) (z8 : r0 ≠ 0) (v10 : fs_6[9]? = some (.int u_9)) (h11 : ((lg_cmp v_4 ((u_9 - 30).toInt64)) ≤ 0) → mm_W l G k_R_isHeadSound 18 [(0, .ref r0), (1, .ref r1)] [] b m Q) (h12 : (¬ (lg_cmp v_4 ((u_9 - 30).toInt64)) ≤ 0) → mm_W l G k_R_isHeadSound 16 [] [] b m Q) : mm_W l G k_R_isHeadSound 0 [(0, .ref r0), (1, .ref r1)] [] b m Q := by
  refine mm_aload_n 1 (i := 1) d_R_isHeadSound_0 rfl rfl ?_
  refine mm_getN cc_G 3 (by decide) nw_173 d_R_isHeadSound_1 g2 z3 v5 ?_
  refine mm_aload_n 0 (i := 0) d_R_isHeadSound_4 rfl rfl ?_
  refine mm_get cc_R 9 (by decide) w_203 d_R_isHeadSound_5 g7 z8 v10 ?_
  refine mm_bipush d_R_isHeadSound_8 (v := 30) (by decide) ?_
  refine mm_isub d_R_isHeadSound_10 ?_
  refine mm_i2l d_R_isHeadSound_11 ?_
  refine mm_lcmp d_R_isHeadSound_12 ?_
  exact mm_if_le (tgt := 18) d_R_isHeadSound_13 (by decide) (fun c => mm_sub [0, 1] rfl (h11 c)) (fun c => mm_sub [] rfl (h12 c))
theorem t_R_isHeadSound_16 {l : Launch} {G : mm_G} {b : Nat} {m : mm_Mem} {Q : mm_O → mm_Mem → Prop}  (h1 : Q (.inl (some (.int 0))) m) (hn2 : narrow .boolean (.int 0) = .int 0) : mm_W l G k_R_isHeadSound 16 [] [] b m Q := by
  refine mm_iconst d_R_isHeadSound_16 (v := 0) (by decide) ?_
  exact mm_zret d_R_isHeadSound_17 rfl hn2 h1
theorem t_R_isHeadSound_18 {l : Launch} {G : mm_G} {b : Nat} {m : mm_Mem} {Q : mm_O → mm_Mem → Prop} {r0 : Nat} {r1 : Nat} {fs_1 : List Value} {v_4 : Int64} {q_6 : Nat} {fs_8 : List Value} {q_11 : Nat} {q_13 : Nat} {b_15 : Nat} {b_16 : Nat} {m_18 : mm_Mem} {fs_19 : List Value} {fs_23 : List Value} {q_25 : Nat} {fs_27 : List Value} {u_30 : Int32} {u_32 : Int32} {fs_34 : List Value} {b_37 : Nat} {b_38 : Nat} {m_40 : mm_Mem} {x_41 : Int32} {fs_42 : List Value} {fs_46 : List Value} {u_48 : Int32} {fs_50 : List Value} {u_52 : Int32} (g2 : m r1 = .inr (6, fs_1)) (z3 : r1 ≠ 0) (v5 : fs_1[3]? = some (.long v_4)) (v7 : fs_1[0]? = some (.ref q_6)) (g9 : m r0 = .inr (7, fs_8)) (z10 : r0 ≠ 0) (v12 : fs_8[3]? = some (.ref q_11)) (v14 : fs_8[0]? = some (.ref q_13)) (hb17 : b_15 + b_16 ≤ b) (g20 : m q_11 = .inr (5, fs_19)) (z21 : q_11 ≠ 0) (M22 : mm_W l G k_F_takeFrom 0 (lv_args 0 [.ref q_11, .ref q_13, .int (v_4.toInt32 + 4)]) [] b_15 m (mm_is (.inl none) m_18)) (g24 : m_18 r0 = .inr (7, fs_23)) (v26 : fs_23[3]? = some (.ref q_25)) (g28 : m_18 q_25 = .inr (5, fs_27)) (z29 : q_25 ≠ 0) (v31 : fs_27[5]? = some (.int u_30)) (v33 : fs_27[6]? = some (.int u_32)) (g35 : m_18 r1 = .inr (6, fs_34)) (l36 : 4 < fs_34.length) (hb39 : b_37 + b_38 ≤ b_16) (g43 : (va_up m_18 r1 (.inr (6, fs_34.set 4 (.int (((v_4.toInt32 + 30) + u_30) + u_32))))) q_6 = .inr (5, fs_42)) (z44 : q_6 ≠ 0) (M45 : mm_W l G k_F_hasTail 0 (lv_args 0 [.ref q_6]) [] b_37 (va_up m_18 r1 (.inr (6, fs_34.set 4 (.int (((v_4.toInt32 + 30) + u_30) + u_32))))) (mm_is (.inl (some (.int x_41))) m_40)) (g47 : m_40 r1 = .inr (6, fs_46)) (v49 : fs_46[4]? = some (.int u_48)) (g51 : m_40 r0 = .inr (7, fs_50)) (v53 : fs_50[9]? = some (.int u_52)) (h54 : (u_52 < u_48) → mm_W l G k_R_isHeadSound 221 [] [] b_38 m_40 Q) (h55 : (¬ u_52 < u_48) → mm_W l G k_R_isHeadSound 88 [(0, .ref r0), (1, .ref r1), (2, .int v_4.toInt32), (3, .ref q_6), (4, .int (v_4.toInt32 + 30)), (5, .int x_41)] [] b_38 m_40 Q) : mm_W l G k_R_isHeadSound 18 [(0, .ref r0), (1, .ref r1)] [] b m Q := by
  refine mm_aload_n 1 (i := 1) d_R_isHeadSound_18 rfl rfl ?_
  refine mm_getN cc_G 3 (by decide) nw_173 d_R_isHeadSound_19 g2 z3 v5 ?_
  refine mm_l2i d_R_isHeadSound_22 ?_
  refine mm_istore_n (i := 2) d_R_isHeadSound_23 rfl (Nat.le_of_ble_eq_true rfl) (lv2 := [(2, .int v_4.toInt32), (0, .ref r0), (1, .ref r1)]) rfl ?_
  refine mm_aload_n 2 (i := 1) d_R_isHeadSound_24 rfl rfl ?_
  refine mm_getN cc_G 0 (by decide) nw_167 d_R_isHeadSound_25 g2 z3 v7 ?_
  refine mm_astore_n (i := 3) d_R_isHeadSound_28 rfl (Nat.le_of_ble_eq_true rfl) (lv2 := [(3, .ref q_6), (2, .int v_4.toInt32), (0, .ref r0), (1, .ref r1)]) rfl ?_
  refine mm_aload_n 2 (i := 0) d_R_isHeadSound_29 rfl rfl ?_
  refine mm_get cc_R 3 (by decide) w_194 d_R_isHeadSound_30 g9 z10 v12 ?_
  refine mm_aload_n 2 (i := 0) d_R_isHeadSound_33 rfl rfl ?_
  refine mm_get cc_R 0 (by decide) w_191 d_R_isHeadSound_34 g9 z10 v14 ?_
  refine mm_iload_n 1 (i := 2) d_R_isHeadSound_37 rfl rfl ?_
  refine mm_iconst d_R_isHeadSound_38 (v := 4) (by decide) ?_
  refine mm_iadd d_R_isHeadSound_39 ?_
  refine mm_callV (as := [.ref q_13, .int (v_4.toInt32 + 4)]) (st := []) (b2 := b_16) ca_F_takeFrom w_685 w_662 w_663 cc_F.1 rfl d_R_isHeadSound_40 rfl (Nat.le_of_ble_eq_true rfl) (Nat.le_of_ble_eq_true rfl) (Nat.le_of_ble_eq_true rfl) hb17 g20 z21 M22 (fun E _ ⟨c, _⟩ => nomatch c) (fun v _ ⟨c, e⟩ => ?_)
  cases c
  rw [e]
  show mm_W l G k_R_isHeadSound 43 [(3, .ref q_6), (2, .int v_4.toInt32), (0, .ref r0), (1, .ref r1)] [] b_16 m_18 Q
  refine mm_iload_n 1 (i := 2) d_R_isHeadSound_43 rfl rfl ?_
  refine mm_bipush d_R_isHeadSound_44 (v := 30) (by decide) ?_
  refine mm_iadd d_R_isHeadSound_46 ?_
  refine mm_istore (i := 4) d_R_isHeadSound_47 (Nat.le_of_ble_eq_true rfl) (lv2 := [(4, .int (v_4.toInt32 + 30)), (3, .ref q_6), (2, .int v_4.toInt32), (0, .ref r0), (1, .ref r1)]) rfl ?_
  refine mm_aload_n 4 (i := 1) d_R_isHeadSound_49 rfl rfl ?_
  refine mm_iload 0 (i := 4) d_R_isHeadSound_50 rfl ?_
  refine mm_aload_n 3 (i := 0) d_R_isHeadSound_52 rfl rfl ?_
  refine mm_get cc_R 3 (by decide) w_194 d_R_isHeadSound_53 g24 z10 v26 ?_
  refine mm_getN cc_F 5 (by decide) nw_147 d_R_isHeadSound_56 g28 z29 v31 ?_
  refine mm_iadd d_R_isHeadSound_59 ?_
  refine mm_aload_n 3 (i := 0) d_R_isHeadSound_60 rfl rfl ?_
  refine mm_get cc_R 3 (by decide) w_194 d_R_isHeadSound_61 g24 z10 v26 ?_
  refine mm_getN cc_F 6 (by decide) nw_150 d_R_isHeadSound_64 g28 z29 v33 ?_
  refine mm_iadd d_R_isHeadSound_67 ?_
  refine mm_putN cc_G 4 (by decide) nw_174 d_R_isHeadSound_68 rfl (fun _ => rfl) (fun _ => rfl) g35 z3 l36 ?_
  refine mm_aload_n 1 (i := 3) d_R_isHeadSound_71 rfl rfl ?_
  refine mm_callV (as := []) (st := []) (b2 := b_38) ca_F_hasTail w_686 w_687 w_688 cc_F.1 rfl d_R_isHeadSound_72 rfl (Nat.le_of_ble_eq_true rfl) (Nat.le_of_ble_eq_true rfl) (Nat.le_of_ble_eq_true rfl) hb39 g43 z44 M45 (fun E _ ⟨c, _⟩ => nomatch c) (fun v _ ⟨c, e⟩ => ?_)
  cases c
  rw [e]
  show mm_W l G k_R_isHeadSound 75 [(4, .int (v_4.toInt32 + 30)), (3, .ref q_6), (2, .int v_4.toInt32), (0, .ref r0), (1, .ref r1)] [.int x_41] b_38 m_40 Q
  refine mm_istore (i := 5) d_R_isHeadSound_75 (Nat.le_of_ble_eq_true rfl) (lv2 := [(5, .int x_41), (4, .int (v_4.toInt32 + 30)), (3, .ref q_6), (2, .int v_4.toInt32), (0, .ref r0), (1, .ref r1)]) rfl ?_
  refine mm_aload_n 5 (i := 1) d_R_isHeadSound_77 rfl rfl ?_
  refine mm_getN cc_G 4 (by decide) nw_174 d_R_isHeadSound_78 g47 z3 v49 ?_
  refine mm_aload_n 4 (i := 0) d_R_isHeadSound_81 rfl rfl ?_
  refine mm_get cc_R 9 (by decide) w_203 d_R_isHeadSound_82 g51 z10 v53 ?_
  exact mm_icmp_gt (tgt := 221) d_R_isHeadSound_85 (by decide) (fun c => mm_sub [] rfl (h54 c)) (fun c => mm_sub [4, 5, 3, 2, 1, 0] rfl (h55 c))
theorem t_R_isHeadSound_88 {l : Launch} {G : mm_G} {b : Nat} {m : mm_Mem} {Q : mm_O → mm_Mem → Prop} {r0 : Nat} {r1 : Nat} {x2 : Int32} {r3 : Nat} {x4 : Int32} {x5 : Int32} {fs_1 : List Value} {q_4 : Nat} {b_6 : Nat} {b_7 : Nat} {m_9 : mm_Mem} {x_10 : Int32} {fs_11 : List Value} (g2 : m r0 = .inr (7, fs_1)) (z3 : r0 ≠ 0) (v5 : fs_1[0]? = some (.ref q_4)) (hb8 : b_6 + b_7 ≤ b) (g12 : m q_4 = .inr (2, fs_11)) (z13 : q_4 ≠ 0) (M14 : mm_W l G k_B_hasMark 0 (lv_args 0 [.ref q_4, .int x2, .int 67324752]) [] b_6 m (mm_is (.inl (some (.int x_10))) m_9)) (h15 : (x_10 = 0) → mm_W l G k_R_isHeadSound 221 [] [] b_7 m_9 Q) (h16 : (¬ x_10 = 0) → mm_W l G k_R_isHeadSound 101 [(0, .ref r0), (1, .ref r1), (3, .ref r3), (4, .int x4), (5, .int x5)] [] b_7 m_9 Q) : mm_W l G k_R_isHeadSound 88 [(0, .ref r0), (1, .ref r1), (2, .int x2), (3, .ref r3), (4, .int x4), (5, .int x5)] [] b m Q := by
  refine mm_aload_n 0 (i := 0) d_R_isHeadSound_88 rfl rfl ?_
  refine mm_get cc_R 0 (by decide) w_191 d_R_isHeadSound_89 g2 z3 v5 ?_
  refine mm_iload_n 2 (i := 2) d_R_isHeadSound_92 rfl rfl ?_
  refine mm_ldc (v := 67324752) w_690 d_R_isHeadSound_93 ?_
  refine mm_callV (as := [.int x2, .int 67324752]) (st := []) (b2 := b_7) ca_B_hasMark w_637 w_638 w_639 cc_B.1 rfl d_R_isHeadSound_95 rfl (Nat.le_of_ble_eq_true rfl) (Nat.le_of_ble_eq_true rfl) (Nat.le_of_ble_eq_true rfl) hb8 g12 z13 M14 (fun E _ ⟨c, _⟩ => nomatch c) (fun v _ ⟨c, e⟩ => ?_)
  cases c
  rw [e]
  show mm_W l G k_R_isHeadSound 98 [(0, .ref r0), (1, .ref r1), (2, .int x2), (3, .ref r3), (4, .int x4), (5, .int x5)] [.int x_10] b_7 m_9 Q
  exact mm_if_eq (tgt := 221) d_R_isHeadSound_98 (by decide) (fun c => mm_sub [] rfl (h15 c)) (fun c => mm_sub [0, 1, 3, 4, 5] rfl (h16 c))
theorem t_R_isHeadSound_101 {l : Launch} {G : mm_G} {b : Nat} {m : mm_Mem} {Q : mm_O → mm_Mem → Prop} {r0 : Nat} {r1 : Nat} {r3 : Nat} {x4 : Int32} {x5 : Int32} {fs_1 : List Value} {q_4 : Nat} {fs_6 : List Value} {u_9 : Int32} {fs_11 : List Value} {u_14 : Int32} (g2 : m r0 = .inr (7, fs_1)) (z3 : r0 ≠ 0) (v5 : fs_1[3]? = some (.ref q_4)) (g7 : m q_4 = .inr (5, fs_6)) (z8 : q_4 ≠ 0) (v10 : fs_6[1]? = some (.int u_9)) (g12 : m r3 = .inr (5, fs_11)) (z13 : r3 ≠ 0) (v15 : fs_11[1]? = some (.int u_14)) (h16 : (¬ u_9 = u_14) → mm_W l G k_R_isHeadSound 221 [] [] b m Q) (h17 : (u_9 = u_14) → mm_W l G k_R_isHeadSound 115 [(0, .ref r0), (1, .ref r1), (3, .ref r3), (4, .int x4), (5, .int x5)] [] b m Q) : mm_W l G k_R_isHeadSound 101 [(0, .ref r0), (1, .ref r1), (3, .ref r3), (4, .int x4), (5, .int x5)] [] b m Q := by
  refine mm_aload_n 0 (i := 0) d_R_isHeadSound_101 rfl rfl ?_
  refine mm_get cc_R 3 (by decide) w_194 d_R_isHeadSound_102 g2 z3 v5 ?_
  refine mm_getN cc_F 1 (by decide) nw_138 d_R_isHeadSound_105 g7 z8 v10 ?_
  refine mm_aload_n 2 (i := 3) d_R_isHeadSound_108 rfl rfl ?_
  refine mm_getN cc_F 1 (by decide) nw_138 d_R_isHeadSound_109 g12 z13 v15 ?_
  exact mm_icmp_ne (tgt := 221) d_R_isHeadSound_112 (by decide) (fun c => mm_sub [] rfl (h16 c)) (fun c => mm_sub [0, 1, 2, 3, 4] rfl (h17 c))
theorem t_R_isHeadSound_115 {l : Launch} {G : mm_G} {b : Nat} {m : mm_Mem} {Q : mm_O → mm_Mem → Prop} {r0 : Nat} {r1 : Nat} {r3 : Nat} {x4 : Int32} {x5 : Int32} {fs_1 : List Value} {q_4 : Nat} {fs_6 : List Value} {u_9 : Int32} {fs_11 : List Value} {u_14 : Int32} (g2 : m r0 = .inr (7, fs_1)) (z3 : r0 ≠ 0) (v5 : fs_1[3]? = some (.ref q_4)) (g7 : m q_4 = .inr (5, fs_6)) (z8 : q_4 ≠ 0) (v10 : fs_6[0]? = some (.int u_9)) (g12 : m r3 = .inr (5, fs_11)) (z13 : r3 ≠ 0) (v15 : fs_11[0]? = some (.int u_14)) (h16 : (¬ u_9 = u_14) → mm_W l G k_R_isHeadSound 221 [] [] b m Q) (h17 : (u_9 = u_14) → mm_W l G k_R_isHeadSound 129 [(0, .ref r0), (1, .ref r1), (3, .ref r3), (4, .int x4), (5, .int x5)] [] b m Q) : mm_W l G k_R_isHeadSound 115 [(0, .ref r0), (1, .ref r1), (3, .ref r3), (4, .int x4), (5, .int x5)] [] b m Q := by
  refine mm_aload_n 0 (i := 0) d_R_isHeadSound_115 rfl rfl ?_
  refine mm_get cc_R 3 (by decide) w_194 d_R_isHeadSound_116 g2 z3 v5 ?_
  refine mm_getN cc_F 0 (by decide) nw_136 d_R_isHeadSound_119 g7 z8 v10 ?_
  refine mm_aload_n 2 (i := 3) d_R_isHeadSound_122 rfl rfl ?_
  refine mm_getN cc_F 0 (by decide) nw_136 d_R_isHeadSound_123 g12 z13 v15 ?_
  exact mm_icmp_ne (tgt := 221) d_R_isHeadSound_126 (by decide) (fun c => mm_sub [] rfl (h16 c)) (fun c => mm_sub [0, 1, 2, 3, 4] rfl (h17 c))
theorem t_R_isHeadSound_129 {l : Launch} {G : mm_G} {b : Nat} {m : mm_Mem} {Q : mm_O → mm_Mem → Prop} {r0 : Nat} {r1 : Nat} {r3 : Nat} {x4 : Int32} {x5 : Int32} {fs_1 : List Value} {q_4 : Nat} {fs_6 : List Value} {u_9 : Int32} {fs_11 : List Value} {u_14 : Int32} (g2 : m r0 = .inr (7, fs_1)) (z3 : r0 ≠ 0) (v5 : fs_1[3]? = some (.ref q_4)) (g7 : m q_4 = .inr (5, fs_6)) (z8 : q_4 ≠ 0) (v10 : fs_6[5]? = some (.int u_9)) (g12 : m r3 = .inr (5, fs_11)) (z13 : r3 ≠ 0) (v15 : fs_11[5]? = some (.int u_14)) (h16 : (¬ u_9 = u_14) → mm_W l G k_R_isHeadSound 221 [] [] b m Q) (h17 : (u_9 = u_14) → mm_W l G k_R_isHeadSound 143 [(0, .ref r0), (1, .ref r1), (3, .ref r3), (4, .int x4), (5, .int x5)] [] b m Q) : mm_W l G k_R_isHeadSound 129 [(0, .ref r0), (1, .ref r1), (3, .ref r3), (4, .int x4), (5, .int x5)] [] b m Q := by
  refine mm_aload_n 0 (i := 0) d_R_isHeadSound_129 rfl rfl ?_
  refine mm_get cc_R 3 (by decide) w_194 d_R_isHeadSound_130 g2 z3 v5 ?_
  refine mm_getN cc_F 5 (by decide) nw_147 d_R_isHeadSound_133 g7 z8 v10 ?_
  refine mm_aload_n 2 (i := 3) d_R_isHeadSound_136 rfl rfl ?_
  refine mm_getN cc_F 5 (by decide) nw_147 d_R_isHeadSound_137 g12 z13 v15 ?_
  exact mm_icmp_ne (tgt := 221) d_R_isHeadSound_140 (by decide) (fun c => mm_sub [] rfl (h16 c)) (fun c => mm_sub [0, 1, 2, 3, 4] rfl (h17 c))
theorem t_R_isHeadSound_143 {l : Launch} {G : mm_G} {b : Nat} {m : mm_Mem} {Q : mm_O → mm_Mem → Prop} {r0 : Nat} {r1 : Nat} {r3 : Nat} {x4 : Int32} {x5 : Int32} {fs_1 : List Value} {u_4 : Int32} {fs_6 : List Value} {u_9 : Int32} {b_11 : Nat} {b_12 : Nat} {m_14 : mm_Mem} {x_15 : Int32} {fs_16 : List Value} (g2 : m r1 = .inr (6, fs_1)) (z3 : r1 ≠ 0) (v5 : fs_1[1]? = some (.int u_4)) (g7 : m r3 = .inr (5, fs_6)) (z8 : r3 ≠ 0) (v10 : fs_6[5]? = some (.int u_9)) (hb13 : b_11 + b_12 ≤ b) (g17 : m r0 = .inr (7, fs_16)) (z18 : r0 ≠ 0) (M19 : mm_W l G k_R_areSame 0 (lv_args 0 [.ref r0, .int x4, .int u_4, .int u_9]) [] b_11 m (mm_is (.inl (some (.int x_15))) m_14)) (h20 : (x_15 = 0) → mm_W l G k_R_isHeadSound 221 [] [] b_12 m_14 Q) (h21 : (¬ x_15 = 0) → mm_W l G k_R_isHeadSound 160 [(0, .ref r0), (3, .ref r3), (5, .int x5)] [] b_12 m_14 Q) : mm_W l G k_R_isHeadSound 143 [(0, .ref r0), (1, .ref r1), (3, .ref r3), (4, .int x4), (5, .int x5)] [] b m Q := by
  refine mm_aload_n 0 (i := 0) d_R_isHeadSound_143 rfl rfl ?_
  refine mm_iload 3 (i := 4) d_R_isHeadSound_144 rfl ?_
  refine mm_aload_n 1 (i := 1) d_R_isHeadSound_146 rfl rfl ?_
  refine mm_getN cc_G 1 (by decide) nw_169 d_R_isHeadSound_147 g2 z3 v5 ?_
  refine mm_aload_n 2 (i := 3) d_R_isHeadSound_150 rfl rfl ?_
  refine mm_getN cc_F 5 (by decide) nw_147 d_R_isHeadSound_151 g7 z8 v10 ?_
  refine mm_callV (as := [.int x4, .int u_4, .int u_9]) (st := []) (b2 := b_12) ca_R_areSame w_691 w_693 v_R_areSame cc_R.1 rfl d_R_isHeadSound_154 rfl (Nat.le_of_ble_eq_true rfl) (Nat.le_of_ble_eq_true rfl) (Nat.le_of_ble_eq_true rfl) hb13 g17 z18 M19 (fun E _ ⟨c, _⟩ => nomatch c) (fun v _ ⟨c, e⟩ => ?_)
  cases c
  rw [e]
  show mm_W l G k_R_isHeadSound 157 [(0, .ref r0), (1, .ref r1), (3, .ref r3), (4, .int x4), (5, .int x5)] [.int x_15] b_12 m_14 Q
  exact mm_if_eq (tgt := 221) d_R_isHeadSound_157 (by decide) (fun c => mm_sub [] rfl (h20 c)) (fun c => mm_sub [0, 2, 4] rfl (h21 c))
theorem t_R_isHeadSound_160 {l : Launch} {G : mm_G} {b : Nat} {m : mm_Mem} {Q : mm_O → mm_Mem → Prop} {r0 : Nat} {r3 : Nat} {x5 : Int32} {fs_1 : List Value} {q_4 : Nat} {fs_6 : List Value} {v_9 : Int64} {fs_11 : List Value} {v_14 : Int64} {b_16 : Nat} {b_17 : Nat} {m_19 : mm_Mem} {x_20 : Int32} (g2 : m r0 = .inr (7, fs_1)) (z3 : r0 ≠ 0) (v5 : fs_1[3]? = some (.ref q_4)) (g7 : m q_4 = .inr (5, fs_6)) (z8 : q_4 ≠ 0) (v10 : fs_6[2]? = some (.long v_9)) (g12 : m r3 = .inr (5, fs_11)) (z13 : r3 ≠ 0) (v15 : fs_11[2]? = some (.long v_14)) (hb18 : b_16 + b_17 ≤ b) (M21 : mm_W l G k_R_agrees 0 (lv_args 0 [.long v_9, .long v_14, .int x5]) [] b_16 m (mm_is (.inl (some (.int x_20))) m_19)) (h22 : (x_20 = 0) → mm_W l G k_R_isHeadSound 221 [] [] b_17 m_19 Q) (h23 : (¬ x_20 = 0) → mm_W l G k_R_isHeadSound 179 [(0, .ref r0), (3, .ref r3), (5, .int x5)] [] b_17 m_19 Q) : mm_W l G k_R_isHeadSound 160 [(0, .ref r0), (3, .ref r3), (5, .int x5)] [] b m Q := by
  refine mm_aload_n 0 (i := 0) d_R_isHeadSound_160 rfl rfl ?_
  refine mm_get cc_R 3 (by decide) w_194 d_R_isHeadSound_161 g2 z3 v5 ?_
  refine mm_getN cc_F 2 (by decide) nw_140 d_R_isHeadSound_164 g7 z8 v10 ?_
  refine mm_aload_n 1 (i := 3) d_R_isHeadSound_167 rfl rfl ?_
  refine mm_getN cc_F 2 (by decide) nw_140 d_R_isHeadSound_168 g12 z13 v15 ?_
  refine mm_iload 2 (i := 5) d_R_isHeadSound_171 rfl ?_
  refine mm_callS (as := [.long v_9, .long v_14, .int x5]) (st := []) (b2 := b_17) ca_R_agrees w_696 w_697 d_R_isHeadSound_173 rfl (Nat.le_of_ble_eq_true rfl) (Nat.le_of_ble_eq_true rfl) (Nat.le_of_ble_eq_true rfl) hb18 M21 (fun E _ ⟨c, _⟩ => nomatch c) (fun v _ ⟨c, e⟩ => ?_)
  cases c
  rw [e]
  show mm_W l G k_R_isHeadSound 176 [(0, .ref r0), (3, .ref r3), (5, .int x5)] [.int x_20] b_17 m_19 Q
  exact mm_if_eq (tgt := 221) d_R_isHeadSound_176 (by decide) (fun c => mm_sub [] rfl (h22 c)) (fun c => mm_sub [0, 1, 2] rfl (h23 c))
theorem t_R_isHeadSound_179 {l : Launch} {G : mm_G} {b : Nat} {m : mm_Mem} {Q : mm_O → mm_Mem → Prop} {r0 : Nat} {r3 : Nat} {x5 : Int32} {fs_1 : List Value} {q_4 : Nat} {fs_6 : List Value} {v_9 : Int64} {fs_11 : List Value} {v_14 : Int64} {b_16 : Nat} {b_17 : Nat} {m_19 : mm_Mem} {x_20 : Int32} (g2 : m r0 = .inr (7, fs_1)) (z3 : r0 ≠ 0) (v5 : fs_1[3]? = some (.ref q_4)) (g7 : m q_4 = .inr (5, fs_6)) (z8 : q_4 ≠ 0) (v10 : fs_6[3]? = some (.long v_9)) (g12 : m r3 = .inr (5, fs_11)) (z13 : r3 ≠ 0) (v15 : fs_11[3]? = some (.long v_14)) (hb18 : b_16 + b_17 ≤ b) (M21 : mm_W l G k_R_agrees 0 (lv_args 0 [.long v_9, .long v_14, .int x5]) [] b_16 m (mm_is (.inl (some (.int x_20))) m_19)) (h22 : (x_20 = 0) → mm_W l G k_R_isHeadSound 221 [] [] b_17 m_19 Q) (h23 : (¬ x_20 = 0) → mm_W l G k_R_isHeadSound 198 [(0, .ref r0), (3, .ref r3), (5, .int x5)] [] b_17 m_19 Q) : mm_W l G k_R_isHeadSound 179 [(0, .ref r0), (3, .ref r3), (5, .int x5)] [] b m Q := by
  refine mm_aload_n 0 (i := 0) d_R_isHeadSound_179 rfl rfl ?_
  refine mm_get cc_R 3 (by decide) w_194 d_R_isHeadSound_180 g2 z3 v5 ?_
  refine mm_getN cc_F 3 (by decide) nw_142 d_R_isHeadSound_183 g7 z8 v10 ?_
  refine mm_aload_n 1 (i := 3) d_R_isHeadSound_186 rfl rfl ?_
  refine mm_getN cc_F 3 (by decide) nw_142 d_R_isHeadSound_187 g12 z13 v15 ?_
  refine mm_iload 2 (i := 5) d_R_isHeadSound_190 rfl ?_
  refine mm_callS (as := [.long v_9, .long v_14, .int x5]) (st := []) (b2 := b_17) ca_R_agrees w_696 w_697 d_R_isHeadSound_192 rfl (Nat.le_of_ble_eq_true rfl) (Nat.le_of_ble_eq_true rfl) (Nat.le_of_ble_eq_true rfl) hb18 M21 (fun E _ ⟨c, _⟩ => nomatch c) (fun v _ ⟨c, e⟩ => ?_)
  cases c
  rw [e]
  show mm_W l G k_R_isHeadSound 195 [(0, .ref r0), (3, .ref r3), (5, .int x5)] [.int x_20] b_17 m_19 Q
  exact mm_if_eq (tgt := 221) d_R_isHeadSound_195 (by decide) (fun c => mm_sub [] rfl (h22 c)) (fun c => mm_sub [0, 1, 2] rfl (h23 c))
theorem t_R_isHeadSound_198 {l : Launch} {G : mm_G} {b : Nat} {m : mm_Mem} {Q : mm_O → mm_Mem → Prop} {r0 : Nat} {r3 : Nat} {x5 : Int32} {fs_1 : List Value} {q_4 : Nat} {fs_6 : List Value} {v_9 : Int64} {fs_11 : List Value} {v_14 : Int64} {b_16 : Nat} {b_17 : Nat} {m_19 : mm_Mem} {x_20 : Int32} (g2 : m r0 = .inr (7, fs_1)) (z3 : r0 ≠ 0) (v5 : fs_1[3]? = some (.ref q_4)) (g7 : m q_4 = .inr (5, fs_6)) (z8 : q_4 ≠ 0) (v10 : fs_6[4]? = some (.long v_9)) (g12 : m r3 = .inr (5, fs_11)) (z13 : r3 ≠ 0) (v15 : fs_11[4]? = some (.long v_14)) (hb18 : b_16 + b_17 ≤ b) (M21 : mm_W l G k_R_agrees 0 (lv_args 0 [.long v_9, .long v_14, .int x5]) [] b_16 m (mm_is (.inl (some (.int x_20))) m_19)) (h22 : (x_20 = 0) → mm_W l G k_R_isHeadSound 221 [] [] b_17 m_19 Q) (h23 : (¬ x_20 = 0) → mm_W l G k_R_isHeadSound 217 [] [] b_17 m_19 Q) : mm_W l G k_R_isHeadSound 198 [(0, .ref r0), (3, .ref r3), (5, .int x5)] [] b m Q := by
  refine mm_aload_n 0 (i := 0) d_R_isHeadSound_198 rfl rfl ?_
  refine mm_get cc_R 3 (by decide) w_194 d_R_isHeadSound_199 g2 z3 v5 ?_
  refine mm_getN cc_F 4 (by decide) nw_144 d_R_isHeadSound_202 g7 z8 v10 ?_
  refine mm_aload_n 1 (i := 3) d_R_isHeadSound_205 rfl rfl ?_
  refine mm_getN cc_F 4 (by decide) nw_144 d_R_isHeadSound_206 g12 z13 v15 ?_
  refine mm_iload 2 (i := 5) d_R_isHeadSound_209 rfl ?_
  refine mm_callS (as := [.long v_9, .long v_14, .int x5]) (st := []) (b2 := b_17) ca_R_agrees w_696 w_697 d_R_isHeadSound_211 rfl (Nat.le_of_ble_eq_true rfl) (Nat.le_of_ble_eq_true rfl) (Nat.le_of_ble_eq_true rfl) hb18 M21 (fun E _ ⟨c, _⟩ => nomatch c) (fun v _ ⟨c, e⟩ => ?_)
  cases c
  rw [e]
  show mm_W l G k_R_isHeadSound 214 [(0, .ref r0), (3, .ref r3), (5, .int x5)] [.int x_20] b_17 m_19 Q
  exact mm_if_eq (tgt := 221) d_R_isHeadSound_214 (by decide) (fun c => mm_sub [] rfl (h22 c)) (fun c => mm_sub [] rfl (h23 c))
theorem t_R_isHeadSound_217 {l : Launch} {G : mm_G} {b : Nat} {m : mm_Mem} {Q : mm_O → mm_Mem → Prop}  (h1 : mm_W l G k_R_isHeadSound 222 [] [.int 1] b m Q) : mm_W l G k_R_isHeadSound 217 [] [] b m Q := by
  refine mm_iconst d_R_isHeadSound_217 (v := 1) (by decide) ?_
  refine mm_goto (tgt := 222) d_R_isHeadSound_218 (by decide) ?_
  exact mm_sub [] rfl h1
theorem t_R_isHeadSound_221 {l : Launch} {G : mm_G} {b : Nat} {m : mm_Mem} {Q : mm_O → mm_Mem → Prop}  (h1 : mm_W l G k_R_isHeadSound 222 [] [.int 0] b m Q) : mm_W l G k_R_isHeadSound 221 [] [] b m Q := by
  refine mm_iconst d_R_isHeadSound_221 (v := 0) (by decide) ?_
  exact mm_sub [] rfl h1
theorem t_R_isHeadSound_222 {l : Launch} {G : mm_G} {b : Nat} {m : mm_Mem} {Q : mm_O → mm_Mem → Prop} {xs0 : Int32} (h1 : Q (.inl (some (.int xs0))) m) (hn2 : narrow .boolean (.int xs0) = .int xs0) : mm_W l G k_R_isHeadSound 222 [] [.int xs0] b m Q := by
  exact mm_zret d_R_isHeadSound_222 rfl hn2 h1
theorem t_R_agrees_0 {l : Launch} {G : mm_G} {b : Nat} {m : mm_Mem} {Q : mm_O → mm_Mem → Prop} {y0 : Int64} {y2 : Int64} {x4 : Int32} (h1 : ((lg_cmp y0 y2) = 0) → mm_W l G k_R_agrees 17 [] [] b m Q) (h2 : (¬ (lg_cmp y0 y2) = 0) → mm_W l G k_R_agrees 6 [(0, .long y0), (4, .int x4)] [] b m Q) : mm_W l G k_R_agrees 0 [(0, .long y0), (2, .long y2), (4, .int x4)] [] b m Q := by
  refine mm_lload_n 0 (i := 0) d_R_agrees_0 rfl rfl ?_
  refine mm_lload_n 1 (i := 2) d_R_agrees_1 rfl rfl ?_
  refine mm_lcmp d_R_agrees_2 ?_
  exact mm_if_eq (tgt := 17) d_R_agrees_3 (by decide) (fun c => mm_sub [] rfl (h1 c)) (fun c => mm_sub [0, 2] rfl (h2 c))
theorem t_R_agrees_6 {l : Launch} {G : mm_G} {b : Nat} {m : mm_Mem} {Q : mm_O → mm_Mem → Prop} {y0 : Int64} {x4 : Int32} (h1 : (x4 = 0) → mm_W l G k_R_agrees 21 [] [] b m Q) (h2 : (¬ x4 = 0) → mm_W l G k_R_agrees 11 [(0, .long y0)] [] b m Q) : mm_W l G k_R_agrees 6 [(0, .long y0), (4, .int x4)] [] b m Q := by
  refine mm_iload 1 (i := 4) d_R_agrees_6 rfl ?_
  exact mm_if_eq (tgt := 21) d_R_agrees_8 (by decide) (fun c => mm_sub [] rfl (h1 c)) (fun c => mm_sub [0] rfl (h2 c))
theorem t_R_agrees_11 {l : Launch} {G : mm_G} {b : Nat} {m : mm_Mem} {Q : mm_O → mm_Mem → Prop} {y0 : Int64} (h1 : (¬ (lg_cmp y0 0) = 0) → mm_W l G k_R_agrees 21 [] [] b m Q) (h2 : ((lg_cmp y0 0) = 0) → mm_W l G k_R_agrees 17 [] [] b m Q) : mm_W l G k_R_agrees 11 [(0, .long y0)] [] b m Q := by
  refine mm_lload_n 0 (i := 0) d_R_agrees_11 rfl rfl ?_
  refine mm_lconst d_R_agrees_12 (v := 0) (by decide) ?_
  refine mm_lcmp d_R_agrees_13 ?_
  exact mm_if_ne (tgt := 21) d_R_agrees_14 (by decide) (fun c => mm_sub [] rfl (h1 c)) (fun c => mm_sub [] rfl (h2 c))
theorem t_R_agrees_17 {l : Launch} {G : mm_G} {b : Nat} {m : mm_Mem} {Q : mm_O → mm_Mem → Prop}  (h1 : mm_W l G k_R_agrees 22 [] [.int 1] b m Q) : mm_W l G k_R_agrees 17 [] [] b m Q := by
  refine mm_iconst d_R_agrees_17 (v := 1) (by decide) ?_
  refine mm_goto (tgt := 22) d_R_agrees_18 (by decide) ?_
  exact mm_sub [] rfl h1
theorem t_R_agrees_21 {l : Launch} {G : mm_G} {b : Nat} {m : mm_Mem} {Q : mm_O → mm_Mem → Prop}  (h1 : mm_W l G k_R_agrees 22 [] [.int 0] b m Q) : mm_W l G k_R_agrees 21 [] [] b m Q := by
  refine mm_iconst d_R_agrees_21 (v := 0) (by decide) ?_
  exact mm_sub [] rfl h1
theorem t_R_agrees_22 {l : Launch} {G : mm_G} {b : Nat} {m : mm_Mem} {Q : mm_O → mm_Mem → Prop} {xs0 : Int32} (h1 : Q (.inl (some (.int xs0))) m) (hn2 : narrow .boolean (.int xs0) = .int xs0) : mm_W l G k_R_agrees 22 [] [.int xs0] b m Q := by
  exact mm_zret d_R_agrees_22 rfl hn2 h1
theorem t_R_areSame_0 {l : Launch} {G : mm_G} {b : Nat} {m : mm_Mem} {Q : mm_O → mm_Mem → Prop} {r0 : Nat} {x1 : Int32} {x2 : Int32} {x3 : Int32} (h1 : mm_W l G k_R_areSame 3 [(0, .ref r0), (1, .int x1), (2, .int x2), (3, .int x3), (4, .int 0)] [] b m Q) : mm_W l G k_R_areSame 0 [(0, .ref r0), (1, .int x1), (2, .int x2), (3, .int x3)] [] b m Q := by
  refine mm_iconst d_R_areSame_0 (v := 0) (by decide) ?_
  refine mm_istore (i := 4) d_R_areSame_1 (Nat.le_of_ble_eq_true rfl) (lv2 := [(4, .int 0), (0, .ref r0), (1, .int x1), (2, .int x2), (3, .int x3)]) rfl ?_
  exact mm_sub [1, 2, 3, 4, 0] rfl h1
theorem t_R_areSame_3 {l : Launch} {G : mm_G} {b : Nat} {m : mm_Mem} {Q : mm_O → mm_Mem → Prop} {r0 : Nat} {x1 : Int32} {x2 : Int32} {x3 : Int32} {x4 : Int32} (h1 : (x3 ≤ x4) → mm_W l G k_R_areSame 42 [] [] b m Q) (h2 : (¬ x3 ≤ x4) → mm_W l G k_R_areSame 9 [(0, .ref r0), (1, .int x1), (2, .int x2), (3, .int x3), (4, .int x4)] [] b m Q) : mm_W l G k_R_areSame 3 [(0, .ref r0), (1, .int x1), (2, .int x2), (3, .int x3), (4, .int x4)] [] b m Q := by
  refine mm_iload 4 (i := 4) d_R_areSame_3 rfl ?_
  refine mm_iload_n 3 (i := 3) d_R_areSame_5 rfl rfl ?_
  exact mm_icmp_ge (tgt := 42) d_R_areSame_6 (by decide) (fun c => mm_sub [] rfl (h1 c)) (fun c => mm_sub [0, 1, 2, 3, 4] rfl (h2 c))
theorem t_R_areSame_9 {l : Launch} {G : mm_G} {b : Nat} {m : mm_Mem} {Q : mm_O → mm_Mem → Prop} {r0 : Nat} {x1 : Int32} {x2 : Int32} {x3 : Int32} {x4 : Int32} {fs_1 : List Value} {q_4 : Nat} {b_6 : Nat} {b_7 : Nat} {m_9 : mm_Mem} {x_10 : Int32} {fs_11 : List Value} {fs_15 : List Value} {q_17 : Nat} {b_19 : Nat} {b_20 : Nat} {m_22 : mm_Mem} {x_23 : Int32} {fs_24 : List Value} (g2 : m r0 = .inr (7, fs_1)) (z3 : r0 ≠ 0) (v5 : fs_1[0]? = some (.ref q_4)) (hb8 : b_6 + b_7 ≤ b) (g12 : m q_4 = .inr (2, fs_11)) (z13 : q_4 ≠ 0) (M14 : mm_W l G k_B_get 0 (lv_args 0 [.ref q_4, .int (x1 + x4)]) [] b_6 m (mm_is (.inl (some (.int x_10))) m_9)) (g16 : m_9 r0 = .inr (7, fs_15)) (v18 : fs_15[0]? = some (.ref q_17)) (hb21 : b_19 + b_20 ≤ b_7) (g25 : m_9 q_17 = .inr (2, fs_24)) (z26 : q_17 ≠ 0) (M27 : mm_W l G k_B_get 0 (lv_args 0 [.ref q_17, .int (x2 + x4)]) [] b_19 m_9 (mm_is (.inl (some (.int x_23))) m_22)) (h28 : (x_10 = x_23) → mm_W l G k_R_areSame 36 [(0, .ref r0), (1, .int x1), (2, .int x2), (3, .int x3), (4, .int x4)] [] b_20 m_22 Q) (h29 : (¬ x_10 = x_23) → mm_W l G k_R_areSame 34 [] [] b_20 m_22 Q) : mm_W l G k_R_areSame 9 [(0, .ref r0), (1, .int x1), (2, .int x2), (3, .int x3), (4, .int x4)] [] b m Q := by
  refine mm_aload_n 0 (i := 0) d_R_areSame_9 rfl rfl ?_
  refine mm_get cc_R 0 (by decide) w_191 d_R_areSame_10 g2 z3 v5 ?_
  refine mm_iload_n 1 (i := 1) d_R_areSame_13 rfl rfl ?_
  refine mm_iload 4 (i := 4) d_R_areSame_14 rfl ?_
  refine mm_iadd d_R_areSame_16 ?_
  refine mm_callV (as := [.int (x1 + x4)]) (st := []) (b2 := b_7) ca_B_get w_695 w_279 w_280 cc_B.1 rfl d_R_areSame_17 rfl (Nat.le_of_ble_eq_true rfl) (Nat.le_of_ble_eq_true rfl) (Nat.le_of_ble_eq_true rfl) hb8 g12 z13 M14 (fun E _ ⟨c, _⟩ => nomatch c) (fun v _ ⟨c, e⟩ => ?_)
  cases c
  rw [e]
  show mm_W l G k_R_areSame 20 [(0, .ref r0), (1, .int x1), (2, .int x2), (3, .int x3), (4, .int x4)] [.int x_10] b_7 m_9 Q
  refine mm_aload_n 0 (i := 0) d_R_areSame_20 rfl rfl ?_
  refine mm_get cc_R 0 (by decide) w_191 d_R_areSame_21 g16 z3 v18 ?_
  refine mm_iload_n 2 (i := 2) d_R_areSame_24 rfl rfl ?_
  refine mm_iload 4 (i := 4) d_R_areSame_25 rfl ?_
  refine mm_iadd d_R_areSame_27 ?_
  refine mm_callV (as := [.int (x2 + x4)]) (st := [.int x_10]) (b2 := b_20) ca_B_get w_695 w_279 w_280 cc_B.1 rfl d_R_areSame_28 rfl (Nat.le_of_ble_eq_true rfl) (Nat.le_of_ble_eq_true rfl) (Nat.le_of_ble_eq_true rfl) hb21 g25 z26 M27 (fun E _ ⟨c, _⟩ => nomatch c) (fun v _ ⟨c, e⟩ => ?_)
  cases c
  rw [e]
  show mm_W l G k_R_areSame 31 [(0, .ref r0), (1, .int x1), (2, .int x2), (3, .int x3), (4, .int x4)] [.int x_23, .int x_10] b_20 m_22 Q
  exact mm_icmp_eq (tgt := 36) d_R_areSame_31 (by decide) (fun c => mm_sub [0, 1, 2, 3, 4] rfl (h28 c)) (fun c => mm_sub [] rfl (h29 c))
theorem t_R_areSame_34 {l : Launch} {G : mm_G} {b : Nat} {m : mm_Mem} {Q : mm_O → mm_Mem → Prop}  (h1 : Q (.inl (some (.int 0))) m) (hn2 : narrow .boolean (.int 0) = .int 0) : mm_W l G k_R_areSame 34 [] [] b m Q := by
  refine mm_iconst d_R_areSame_34 (v := 0) (by decide) ?_
  exact mm_zret d_R_areSame_35 rfl hn2 h1
theorem t_R_areSame_36 {l : Launch} {G : mm_G} {b : Nat} {m : mm_Mem} {Q : mm_O → mm_Mem → Prop} {r0 : Nat} {x1 : Int32} {x2 : Int32} {x3 : Int32} {x4 : Int32} (h1 : mm_W l G k_R_areSame 3 [(0, .ref r0), (1, .int x1), (2, .int x2), (3, .int x3), (4, .int (x4 + 1))] [] b m Q) : mm_W l G k_R_areSame 36 [(0, .ref r0), (1, .int x1), (2, .int x2), (3, .int x3), (4, .int x4)] [] b m Q := by
  refine mm_iinc 4 (i := 4) d_R_areSame_36 rfl (v := x4 + 1) rfl (Nat.le_of_ble_eq_true rfl) (lv2 := [(4, .int (x4 + 1)), (0, .ref r0), (1, .int x1), (2, .int x2), (3, .int x3)]) rfl ?_
  refine mm_goto (tgt := 3) d_R_areSame_39 (by decide) ?_
  exact mm_sub [1, 2, 3, 4, 0] rfl h1
theorem t_R_areSame_42 {l : Launch} {G : mm_G} {b : Nat} {m : mm_Mem} {Q : mm_O → mm_Mem → Prop}  (h1 : Q (.inl (some (.int 1))) m) (hn2 : narrow .boolean (.int 1) = .int 1) : mm_W l G k_R_areSame 42 [] [] b m Q := by
  refine mm_iconst d_R_areSame_42 (v := 1) (by decide) ?_
  exact mm_zret d_R_areSame_43 rfl hn2 h1
theorem t_R_areBytesSound_0 {l : Launch} {G : mm_G} {b : Nat} {m : mm_Mem} {Q : mm_O → mm_Mem → Prop} {r0 : Nat} {r1 : Nat} {fs_1 : List Value} {q_4 : Nat} {u_6 : Int32} {fs_8 : List Value} {v_11 : Int64} {b_14 : Nat} {b_15 : Nat} {m_17 : mm_Mem} {x_18 : Int32} {fs_19 : List Value} (g2 : m r1 = .inr (6, fs_1)) (z3 : r1 ≠ 0) (v5 : fs_1[0]? = some (.ref q_4)) (v7 : fs_1[4]? = some (.int u_6)) (g9 : m q_4 = .inr (5, fs_8)) (z10 : q_4 ≠ 0) (v12 : fs_8[3]? = some (.long v_11)) (l13 : 5 < fs_1.length) (hb16 : b_14 + b_15 ≤ b) (g20 : (va_up m r1 (.inr (6, fs_1.set 5 (.int (u_6 + v_11.toInt32))))) q_4 = .inr (5, fs_19)) (M21 : mm_W l G k_F_hasTail 0 (lv_args 0 [.ref q_4]) [] b_14 (va_up m r1 (.inr (6, fs_1.set 5 (.int (u_6 + v_11.toInt32))))) (mm_is (.inl (some (.int x_18))) m_17)) (h22 : (¬ x_18 = 0) → mm_W l G k_R_areBytesSound 42 [(0, .ref r0), (1, .ref r1), (2, .ref q_4), (3, .int (u_6 + v_11.toInt32))] [] b_15 m_17 Q) (h23 : (x_18 = 0) → mm_W l G k_R_areBytesSound 28 [(0, .ref r0), (3, .int (u_6 + v_11.toInt32))] [] b_15 m_17 Q) : mm_W l G k_R_areBytesSound 0 [(0, .ref r0), (1, .ref r1)] [] b m Q := by
  refine mm_aload_n 1 (i := 1) d_R_areBytesSound_0 rfl rfl ?_
  refine mm_getN cc_G 0 (by decide) nw_167 d_R_areBytesSound_1 g2 z3 v5 ?_
  refine mm_astore_n (i := 2) d_R_areBytesSound_4 rfl (Nat.le_of_ble_eq_true rfl) (lv2 := [(2, .ref q_4), (0, .ref r0), (1, .ref r1)]) rfl ?_
  refine mm_aload_n 2 (i := 1) d_R_areBytesSound_5 rfl rfl ?_
  refine mm_getN cc_G 4 (by decide) nw_174 d_R_areBytesSound_6 g2 z3 v7 ?_
  refine mm_aload_n 0 (i := 2) d_R_areBytesSound_9 rfl rfl ?_
  refine mm_getN cc_F 3 (by decide) nw_142 d_R_areBytesSound_10 g9 z10 v12 ?_
  refine mm_l2i d_R_areBytesSound_13 ?_
  refine mm_iadd d_R_areBytesSound_14 ?_
  refine mm_istore_n (i := 3) d_R_areBytesSound_15 rfl (Nat.le_of_ble_eq_true rfl) (lv2 := [(3, .int (u_6 + v_11.toInt32)), (2, .ref q_4), (0, .ref r0), (1, .ref r1)]) rfl ?_
  refine mm_aload_n 3 (i := 1) d_R_areBytesSound_16 rfl rfl ?_
  refine mm_iload_n 0 (i := 3) d_R_areBytesSound_17 rfl rfl ?_
  refine mm_putN cc_G 5 (by decide) nw_175 d_R_areBytesSound_18 rfl (fun _ => rfl) (fun _ => rfl) g2 z3 l13 ?_
  refine mm_aload_n 1 (i := 2) d_R_areBytesSound_21 rfl rfl ?_
  refine mm_callV (as := []) (st := []) (b2 := b_15) ca_F_hasTail w_686 w_687 w_688 cc_F.1 rfl d_R_areBytesSound_22 rfl (Nat.le_of_ble_eq_true rfl) (Nat.le_of_ble_eq_true rfl) (Nat.le_of_ble_eq_true rfl) hb16 g20 z10 M21 (fun E _ ⟨c, _⟩ => nomatch c) (fun v _ ⟨c, e⟩ => ?_)
  cases c
  rw [e]
  show mm_W l G k_R_areBytesSound 25 [(3, .int (u_6 + v_11.toInt32)), (2, .ref q_4), (0, .ref r0), (1, .ref r1)] [.int x_18] b_15 m_17 Q
  exact mm_if_ne (tgt := 42) d_R_areBytesSound_25 (by decide) (fun c => mm_sub [2, 3, 1, 0] rfl (h22 c)) (fun c => mm_sub [2, 0] rfl (h23 c))
theorem t_R_areBytesSound_28 {l : Launch} {G : mm_G} {b : Nat} {m : mm_Mem} {Q : mm_O → mm_Mem → Prop} {r0 : Nat} {x3 : Int32} {fs_1 : List Value} {u_4 : Int32} (g2 : m r0 = .inr (7, fs_1)) (z3 : r0 ≠ 0) (v5 : fs_1[9]? = some (.int u_4)) (h6 : (u_4 < x3) → mm_W l G k_R_areBytesSound 40 [] [] b m Q) (h7 : (¬ u_4 < x3) → mm_W l G k_R_areBytesSound 36 [] [] b m Q) : mm_W l G k_R_areBytesSound 28 [(0, .ref r0), (3, .int x3)] [] b m Q := by
  refine mm_iload_n 1 (i := 3) d_R_areBytesSound_28 rfl rfl ?_
  refine mm_aload_n 0 (i := 0) d_R_areBytesSound_29 rfl rfl ?_
  refine mm_get cc_R 9 (by decide) w_203 d_R_areBytesSound_30 g2 z3 v5 ?_
  exact mm_icmp_gt (tgt := 40) d_R_areBytesSound_33 (by decide) (fun c => mm_sub [] rfl (h6 c)) (fun c => mm_sub [] rfl (h7 c))
theorem t_R_areBytesSound_36 {l : Launch} {G : mm_G} {b : Nat} {m : mm_Mem} {Q : mm_O → mm_Mem → Prop}  (h1 : mm_W l G k_R_areBytesSound 41 [] [.int 1] b m Q) : mm_W l G k_R_areBytesSound 36 [] [] b m Q := by
  refine mm_iconst d_R_areBytesSound_36 (v := 1) (by decide) ?_
  refine mm_goto (tgt := 41) d_R_areBytesSound_37 (by decide) ?_
  exact mm_sub [] rfl h1
theorem t_R_areBytesSound_40 {l : Launch} {G : mm_G} {b : Nat} {m : mm_Mem} {Q : mm_O → mm_Mem → Prop}  (h1 : mm_W l G k_R_areBytesSound 41 [] [.int 0] b m Q) : mm_W l G k_R_areBytesSound 40 [] [] b m Q := by
  refine mm_iconst d_R_areBytesSound_40 (v := 0) (by decide) ?_
  exact mm_sub [] rfl h1
theorem t_R_areBytesSound_41 {l : Launch} {G : mm_G} {b : Nat} {m : mm_Mem} {Q : mm_O → mm_Mem → Prop} {xs0 : Int32} (h1 : Q (.inl (some (.int xs0))) m) (hn2 : narrow .boolean (.int xs0) = .int xs0) : mm_W l G k_R_areBytesSound 41 [] [.int xs0] b m Q := by
  exact mm_zret d_R_areBytesSound_41 rfl hn2 h1
theorem t_R_areBytesSound_42 {l : Launch} {G : mm_G} {b : Nat} {m : mm_Mem} {Q : mm_O → mm_Mem → Prop} {r0 : Nat} {r1 : Nat} {r2 : Nat} {x3 : Int32} {fs_1 : List Value} {q_4 : Nat} {b_6 : Nat} {b_7 : Nat} {m_9 : mm_Mem} {x_10 : Int32} {fs_11 : List Value} (g2 : m r0 = .inr (7, fs_1)) (z3 : r0 ≠ 0) (v5 : fs_1[0]? = some (.ref q_4)) (hb8 : b_6 + b_7 ≤ b) (g12 : m q_4 = .inr (2, fs_11)) (z13 : q_4 ≠ 0) (M14 : mm_W l G k_B_hasMark 0 (lv_args 0 [.ref q_4, .int x3, .int 134695760]) [] b_6 m (mm_is (.inl (some (.int x_10))) m_9)) (h15 : (x_10 = 0) → mm_W l G k_R_areBytesSound 61 [(0, .ref r0), (1, .ref r1), (2, .ref r2), (3, .int x3)] [] b_7 m_9 Q) (h16 : (¬ x_10 = 0) → mm_W l G k_R_areBytesSound 55 [(0, .ref r0), (1, .ref r1), (2, .ref r2), (3, .int x3)] [] b_7 m_9 Q) : mm_W l G k_R_areBytesSound 42 [(0, .ref r0), (1, .ref r1), (2, .ref r2), (3, .int x3)] [] b m Q := by
  refine mm_aload_n 0 (i := 0) d_R_areBytesSound_42 rfl rfl ?_
  refine mm_get cc_R 0 (by decide) w_191 d_R_areBytesSound_43 g2 z3 v5 ?_
  refine mm_iload_n 3 (i := 3) d_R_areBytesSound_46 rfl rfl ?_
  refine mm_ldc (v := 134695760) w_703 d_R_areBytesSound_47 ?_
  refine mm_callV (as := [.int x3, .int 134695760]) (st := []) (b2 := b_7) ca_B_hasMark w_637 w_638 w_639 cc_B.1 rfl d_R_areBytesSound_49 rfl (Nat.le_of_ble_eq_true rfl) (Nat.le_of_ble_eq_true rfl) (Nat.le_of_ble_eq_true rfl) hb8 g12 z13 M14 (fun E _ ⟨c, _⟩ => nomatch c) (fun v _ ⟨c, e⟩ => ?_)
  cases c
  rw [e]
  show mm_W l G k_R_areBytesSound 52 [(0, .ref r0), (1, .ref r1), (2, .ref r2), (3, .int x3)] [.int x_10] b_7 m_9 Q
  exact mm_if_eq (tgt := 61) d_R_areBytesSound_52 (by decide) (fun c => mm_sub [0, 1, 2, 3] rfl (h15 c)) (fun c => mm_sub [0, 1, 2, 3] rfl (h16 c))
theorem t_R_areBytesSound_55 {l : Launch} {G : mm_G} {b : Nat} {m : mm_Mem} {Q : mm_O → mm_Mem → Prop} {r0 : Nat} {r1 : Nat} {r2 : Nat} {x3 : Int32} (h1 : mm_W l G k_R_areBytesSound 62 [(0, .ref r0), (1, .ref r1), (2, .ref r2)] [.int (x3 + 4)] b m Q) : mm_W l G k_R_areBytesSound 55 [(0, .ref r0), (1, .ref r1), (2, .ref r2), (3, .int x3)] [] b m Q := by
  refine mm_iload_n 3 (i := 3) d_R_areBytesSound_55 rfl rfl ?_
  refine mm_iconst d_R_areBytesSound_56 (v := 4) (by decide) ?_
  refine mm_iadd d_R_areBytesSound_57 ?_
  refine mm_goto (tgt := 62) d_R_areBytesSound_58 (by decide) ?_
  exact mm_sub [0, 1, 2] rfl h1
theorem t_R_areBytesSound_61 {l : Launch} {G : mm_G} {b : Nat} {m : mm_Mem} {Q : mm_O → mm_Mem → Prop} {r0 : Nat} {r1 : Nat} {r2 : Nat} {x3 : Int32} (h1 : mm_W l G k_R_areBytesSound 62 [(0, .ref r0), (1, .ref r1), (2, .ref r2)] [.int x3] b m Q) : mm_W l G k_R_areBytesSound 61 [(0, .ref r0), (1, .ref r1), (2, .ref r2), (3, .int x3)] [] b m Q := by
  refine mm_iload_n 3 (i := 3) d_R_areBytesSound_61 rfl rfl ?_
  exact mm_sub [0, 1, 2] rfl h1
theorem t_R_areBytesSound_62 {l : Launch} {G : mm_G} {b : Nat} {m : mm_Mem} {Q : mm_O → mm_Mem → Prop} {r0 : Nat} {r1 : Nat} {r2 : Nat} {xs0 : Int32} {fs_1 : List Value} {fs_5 : List Value} {u_7 : Int32} {fs_9 : List Value} {u_12 : Int32} (g2 : m r1 = .inr (6, fs_1)) (z3 : r1 ≠ 0) (l4 : 5 < fs_1.length) (g6 : (va_up m r1 (.inr (6, fs_1.set 5 (.int (xs0 + 12))))) r1 = .inr (6, fs_5)) (v8 : fs_5[5]? = some (.int u_7)) (g10 : (va_up m r1 (.inr (6, fs_1.set 5 (.int (xs0 + 12))))) r0 = .inr (7, fs_9)) (z11 : r0 ≠ 0) (v13 : fs_9[9]? = some (.int u_12)) (h14 : (u_12 < u_7) → mm_W l G k_R_areBytesSound 147 [] [] b (va_up m r1 (.inr (6, fs_1.set 5 (.int (xs0 + 12))))) Q) (h15 : (¬ u_12 < u_7) → mm_W l G k_R_areBytesSound 84 [(0, .ref r0), (2, .ref r2), (4, .int xs0)] [] b (va_up m r1 (.inr (6, fs_1.set 5 (.int (xs0 + 12))))) Q) : mm_W l G k_R_areBytesSound 62 [(0, .ref r0), (1, .ref r1), (2, .ref r2)] [.int xs0] b m Q := by
  refine mm_istore (i := 4) d_R_areBytesSound_62 (Nat.le_of_ble_eq_true rfl) (lv2 := [(4, .int xs0), (0, .ref r0), (1, .ref r1), (2, .ref r2)]) rfl ?_
  refine mm_aload_n 2 (i := 1) d_R_areBytesSound_64 rfl rfl ?_
  refine mm_iload 0 (i := 4) d_R_areBytesSound_65 rfl ?_
  refine mm_bipush d_R_areBytesSound_67 (v := 12) (by decide) ?_
  refine mm_iadd d_R_areBytesSound_69 ?_
  refine mm_putN cc_G 5 (by decide) nw_175 d_R_areBytesSound_70 rfl (fun _ => rfl) (fun _ => rfl) g2 z3 l4 ?_
  refine mm_aload_n 2 (i := 1) d_R_areBytesSound_73 rfl rfl ?_
  refine mm_getN cc_G 5 (by decide) nw_175 d_R_areBytesSound_74 g6 z3 v8 ?_
  refine mm_aload_n 1 (i := 0) d_R_areBytesSound_77 rfl rfl ?_
  refine mm_get cc_R 9 (by decide) w_203 d_R_areBytesSound_78 g10 z11 v13 ?_
  exact mm_icmp_gt (tgt := 147) d_R_areBytesSound_81 (by decide) (fun c => mm_sub [] rfl (h14 c)) (fun c => mm_sub [1, 3, 0] rfl (h15 c))
theorem t_R_areBytesSound_84 {l : Launch} {G : mm_G} {b : Nat} {m : mm_Mem} {Q : mm_O → mm_Mem → Prop} {r0 : Nat} {r2 : Nat} {x4 : Int32} {fs_1 : List Value} {q_4 : Nat} {b_6 : Nat} {b_7 : Nat} {m_9 : mm_Mem} {y_10 : Int64} {fs_11 : List Value} {fs_15 : List Value} {v_18 : Int64} (g2 : m r0 = .inr (7, fs_1)) (z3 : r0 ≠ 0) (v5 : fs_1[0]? = some (.ref q_4)) (hb8 : b_6 + b_7 ≤ b) (g12 : m q_4 = .inr (2, fs_11)) (z13 : q_4 ≠ 0) (M14 : mm_W l G k_B_number 0 (lv_args 0 [.ref q_4, .int x4, .int 4]) [] b_6 m (mm_is (.inl (some (.long y_10))) m_9)) (g16 : m_9 r2 = .inr (5, fs_15)) (z17 : r2 ≠ 0) (v19 : fs_15[2]? = some (.long v_18)) (h20 : (¬ (lg_cmp y_10 v_18) = 0) → mm_W l G k_R_areBytesSound 147 [] [] b_7 m_9 Q) (h21 : ((lg_cmp y_10 v_18) = 0) → mm_W l G k_R_areBytesSound 102 [(0, .ref r0), (2, .ref r2), (4, .int x4)] [] b_7 m_9 Q) : mm_W l G k_R_areBytesSound 84 [(0, .ref r0), (2, .ref r2), (4, .int x4)] [] b m Q := by
  refine mm_aload_n 0 (i := 0) d_R_areBytesSound_84 rfl rfl ?_
  refine mm_get cc_R 0 (by decide) w_191 d_R_areBytesSound_85 g2 z3 v5 ?_
  refine mm_iload 2 (i := 4) d_R_areBytesSound_88 rfl ?_
  refine mm_iconst d_R_areBytesSound_90 (v := 4) (by decide) ?_
  refine mm_callV (as := [.int x4, .int 4]) (st := []) (b2 := b_7) ca_B_number w_642 w_643 w_644 cc_B.1 rfl d_R_areBytesSound_91 rfl (Nat.le_of_ble_eq_true rfl) (Nat.le_of_ble_eq_true rfl) (Nat.le_of_ble_eq_true rfl) hb8 g12 z13 M14 (fun E _ ⟨c, _⟩ => nomatch c) (fun v _ ⟨c, e⟩ => ?_)
  cases c
  rw [e]
  show mm_W l G k_R_areBytesSound 94 [(0, .ref r0), (2, .ref r2), (4, .int x4)] [.long y_10] b_7 m_9 Q
  refine mm_aload_n 1 (i := 2) d_R_areBytesSound_94 rfl rfl ?_
  refine mm_getN cc_F 2 (by decide) nw_140 d_R_areBytesSound_95 g16 z17 v19 ?_
  refine mm_lcmp d_R_areBytesSound_98 ?_
  exact mm_if_ne (tgt := 147) d_R_areBytesSound_99 (by decide) (fun c => mm_sub [] rfl (h20 c)) (fun c => mm_sub [0, 1, 2] rfl (h21 c))
theorem t_R_areBytesSound_102 {l : Launch} {G : mm_G} {b : Nat} {m : mm_Mem} {Q : mm_O → mm_Mem → Prop} {r0 : Nat} {r2 : Nat} {x4 : Int32} {fs_1 : List Value} {q_4 : Nat} {b_6 : Nat} {b_7 : Nat} {m_9 : mm_Mem} {y_10 : Int64} {fs_11 : List Value} {fs_15 : List Value} {v_18 : Int64} (g2 : m r0 = .inr (7, fs_1)) (z3 : r0 ≠ 0) (v5 : fs_1[0]? = some (.ref q_4)) (hb8 : b_6 + b_7 ≤ b) (g12 : m q_4 = .inr (2, fs_11)) (z13 : q_4 ≠ 0) (M14 : mm_W l G k_B_number 0 (lv_args 0 [.ref q_4, .int (x4 + 4), .int 4]) [] b_6 m (mm_is (.inl (some (.long y_10))) m_9)) (g16 : m_9 r2 = .inr (5, fs_15)) (z17 : r2 ≠ 0) (v19 : fs_15[3]? = some (.long v_18)) (h20 : (¬ (lg_cmp y_10 v_18) = 0) → mm_W l G k_R_areBytesSound 147 [] [] b_7 m_9 Q) (h21 : ((lg_cmp y_10 v_18) = 0) → mm_W l G k_R_areBytesSound 122 [(0, .ref r0), (2, .ref r2), (4, .int x4)] [] b_7 m_9 Q) : mm_W l G k_R_areBytesSound 102 [(0, .ref r0), (2, .ref r2), (4, .int x4)] [] b m Q := by
  refine mm_aload_n 0 (i := 0) d_R_areBytesSound_102 rfl rfl ?_
  refine mm_get cc_R 0 (by decide) w_191 d_R_areBytesSound_103 g2 z3 v5 ?_
  refine mm_iload 2 (i := 4) d_R_areBytesSound_106 rfl ?_
  refine mm_iconst d_R_areBytesSound_108 (v := 4) (by decide) ?_
  refine mm_iadd d_R_areBytesSound_109 ?_
  refine mm_iconst d_R_areBytesSound_110 (v := 4) (by decide) ?_
  refine mm_callV (as := [.int (x4 + 4), .int 4]) (st := []) (b2 := b_7) ca_B_number w_642 w_643 w_644 cc_B.1 rfl d_R_areBytesSound_111 rfl (Nat.le_of_ble_eq_true rfl) (Nat.le_of_ble_eq_true rfl) (Nat.le_of_ble_eq_true rfl) hb8 g12 z13 M14 (fun E _ ⟨c, _⟩ => nomatch c) (fun v _ ⟨c, e⟩ => ?_)
  cases c
  rw [e]
  show mm_W l G k_R_areBytesSound 114 [(0, .ref r0), (2, .ref r2), (4, .int x4)] [.long y_10] b_7 m_9 Q
  refine mm_aload_n 1 (i := 2) d_R_areBytesSound_114 rfl rfl ?_
  refine mm_getN cc_F 3 (by decide) nw_142 d_R_areBytesSound_115 g16 z17 v19 ?_
  refine mm_lcmp d_R_areBytesSound_118 ?_
  exact mm_if_ne (tgt := 147) d_R_areBytesSound_119 (by decide) (fun c => mm_sub [] rfl (h20 c)) (fun c => mm_sub [0, 1, 2] rfl (h21 c))
theorem t_R_areBytesSound_122 {l : Launch} {G : mm_G} {b : Nat} {m : mm_Mem} {Q : mm_O → mm_Mem → Prop} {r0 : Nat} {r2 : Nat} {x4 : Int32} {fs_1 : List Value} {q_4 : Nat} {b_6 : Nat} {b_7 : Nat} {m_9 : mm_Mem} {y_10 : Int64} {fs_11 : List Value} {fs_15 : List Value} {v_18 : Int64} (g2 : m r0 = .inr (7, fs_1)) (z3 : r0 ≠ 0) (v5 : fs_1[0]? = some (.ref q_4)) (hb8 : b_6 + b_7 ≤ b) (g12 : m q_4 = .inr (2, fs_11)) (z13 : q_4 ≠ 0) (M14 : mm_W l G k_B_number 0 (lv_args 0 [.ref q_4, .int (x4 + 8), .int 4]) [] b_6 m (mm_is (.inl (some (.long y_10))) m_9)) (g16 : m_9 r2 = .inr (5, fs_15)) (z17 : r2 ≠ 0) (v19 : fs_15[4]? = some (.long v_18)) (h20 : (¬ (lg_cmp y_10 v_18) = 0) → mm_W l G k_R_areBytesSound 147 [] [] b_7 m_9 Q) (h21 : ((lg_cmp y_10 v_18) = 0) → mm_W l G k_R_areBytesSound 143 [] [] b_7 m_9 Q) : mm_W l G k_R_areBytesSound 122 [(0, .ref r0), (2, .ref r2), (4, .int x4)] [] b m Q := by
  refine mm_aload_n 0 (i := 0) d_R_areBytesSound_122 rfl rfl ?_
  refine mm_get cc_R 0 (by decide) w_191 d_R_areBytesSound_123 g2 z3 v5 ?_
  refine mm_iload 2 (i := 4) d_R_areBytesSound_126 rfl ?_
  refine mm_bipush d_R_areBytesSound_128 (v := 8) (by decide) ?_
  refine mm_iadd d_R_areBytesSound_130 ?_
  refine mm_iconst d_R_areBytesSound_131 (v := 4) (by decide) ?_
  refine mm_callV (as := [.int (x4 + 8), .int 4]) (st := []) (b2 := b_7) ca_B_number w_642 w_643 w_644 cc_B.1 rfl d_R_areBytesSound_132 rfl (Nat.le_of_ble_eq_true rfl) (Nat.le_of_ble_eq_true rfl) (Nat.le_of_ble_eq_true rfl) hb8 g12 z13 M14 (fun E _ ⟨c, _⟩ => nomatch c) (fun v _ ⟨c, e⟩ => ?_)
  cases c
  rw [e]
  show mm_W l G k_R_areBytesSound 135 [(0, .ref r0), (2, .ref r2), (4, .int x4)] [.long y_10] b_7 m_9 Q
  refine mm_aload_n 1 (i := 2) d_R_areBytesSound_135 rfl rfl ?_
  refine mm_getN cc_F 4 (by decide) nw_144 d_R_areBytesSound_136 g16 z17 v19 ?_
  refine mm_lcmp d_R_areBytesSound_139 ?_
  exact mm_if_ne (tgt := 147) d_R_areBytesSound_140 (by decide) (fun c => mm_sub [] rfl (h20 c)) (fun c => mm_sub [] rfl (h21 c))
theorem t_R_areBytesSound_143 {l : Launch} {G : mm_G} {b : Nat} {m : mm_Mem} {Q : mm_O → mm_Mem → Prop}  (h1 : mm_W l G k_R_areBytesSound 148 [] [.int 1] b m Q) : mm_W l G k_R_areBytesSound 143 [] [] b m Q := by
  refine mm_iconst d_R_areBytesSound_143 (v := 1) (by decide) ?_
  refine mm_goto (tgt := 148) d_R_areBytesSound_144 (by decide) ?_
  exact mm_sub [] rfl h1
theorem t_R_areBytesSound_147 {l : Launch} {G : mm_G} {b : Nat} {m : mm_Mem} {Q : mm_O → mm_Mem → Prop}  (h1 : mm_W l G k_R_areBytesSound 148 [] [.int 0] b m Q) : mm_W l G k_R_areBytesSound 147 [] [] b m Q := by
  refine mm_iconst d_R_areBytesSound_147 (v := 0) (by decide) ?_
  exact mm_sub [] rfl h1
theorem t_R_areBytesSound_148 {l : Launch} {G : mm_G} {b : Nat} {m : mm_Mem} {Q : mm_O → mm_Mem → Prop} {xs0 : Int32} (h1 : Q (.inl (some (.int xs0))) m) (hn2 : narrow .boolean (.int xs0) = .int xs0) : mm_W l G k_R_areBytesSound 148 [] [.int xs0] b m Q := by
  exact mm_zret d_R_areBytesSound_148 rfl hn2 h1
theorem t_R_examinePlaces_0 {l : Launch} {G : mm_G} {b : Nat} {m : mm_Mem} {Q : mm_O → mm_Mem → Prop} {r0 : Nat} {b_1 : Nat} {b_2 : Nat} {P_4 : mm_O → mm_Mem → Prop} {fs_5 : List Value} (hb3 : b_1 + b_2 ≤ b) (g6 : m r0 = .inr (7, fs_5)) (z7 : r0 ≠ 0) (M8 : mm_W l G k_R_orderByHeads 0 (lv_args 0 [.ref r0]) [] b_1 m P_4) (hx9 : ∀ (E : String) (n_2 : mm_Mem), ¬ P_4 (.inr E) n_2) (h10 : ∀ (v : Option Value) (n_2 : mm_Mem), P_4 (.inl v) n_2 → v = none ∧ mm_W l G k_R_examinePlaces 4 [(0, .ref r0)] [] b_2 n_2 Q) : mm_W l G k_R_examinePlaces 0 [(0, .ref r0)] [] b m Q := by
  refine mm_aload_n 0 (i := 0) d_R_examinePlaces_0 rfl rfl ?_
  refine mm_callV (as := []) (st := []) (b2 := b_2) ca_R_orderByHeads w_708 w_710 v_R_orderByHeads cc_R.1 rfl d_R_examinePlaces_1 rfl (Nat.le_of_ble_eq_true rfl) (Nat.le_of_ble_eq_true rfl) (Nat.le_of_ble_eq_true rfl) hb3 g6 z7 M8 (fun E m2 q => absurd q (hx9 E m2)) (fun v m2 q => ?_)
  obtain ⟨rfl, z9⟩ := h10 v m2 q
  exact mm_sub [0] rfl z9
theorem t_R_examinePlaces_4 {l : Launch} {G : mm_G} {b : Nat} {m : mm_Mem} {Q : mm_O → mm_Mem → Prop} {r0 : Nat} (h1 : mm_W l G k_R_examinePlaces 8 [(0, .ref r0), (1, .int 0), (2, .int 0)] [] b m Q) : mm_W l G k_R_examinePlaces 4 [(0, .ref r0)] [] b m Q := by
  refine mm_iconst d_R_examinePlaces_4 (v := 0) (by decide) ?_
  refine mm_istore_n (i := 1) d_R_examinePlaces_5 rfl (Nat.le_of_ble_eq_true rfl) (lv2 := [(1, .int 0), (0, .ref r0)]) rfl ?_
  refine mm_iconst d_R_examinePlaces_6 (v := 0) (by decide) ?_
  refine mm_istore_n (i := 2) d_R_examinePlaces_7 rfl (Nat.le_of_ble_eq_true rfl) (lv2 := [(2, .int 0), (1, .int 0), (0, .ref r0)]) rfl ?_
  exact mm_sub [2, 1, 0] rfl h1
theorem t_R_examinePlaces_8 {l : Launch} {G : mm_G} {b : Nat} {m : mm_Mem} {Q : mm_O → mm_Mem → Prop} {r0 : Nat} {x1 : Int32} {x2 : Int32} {fs_1 : List Value} {u_4 : Int32} (g2 : m r0 = .inr (7, fs_1)) (z3 : r0 ≠ 0) (v5 : fs_1[10]? = some (.int u_4)) (h6 : (u_4 ≤ x2) → mm_W l G k_R_examinePlaces 63 [(0, .ref r0), (1, .int x1)] [] b m Q) (h7 : (¬ u_4 ≤ x2) → mm_W l G k_R_examinePlaces 16 [(0, .ref r0), (1, .int x1), (2, .int x2)] [] b m Q) : mm_W l G k_R_examinePlaces 8 [(0, .ref r0), (1, .int x1), (2, .int x2)] [] b m Q := by
  refine mm_iload_n 2 (i := 2) d_R_examinePlaces_8 rfl rfl ?_
  refine mm_aload_n 0 (i := 0) d_R_examinePlaces_9 rfl rfl ?_
  refine mm_get cc_R 10 (by decide) w_204 d_R_examinePlaces_10 g2 z3 v5 ?_
  exact mm_icmp_ge (tgt := 63) d_R_examinePlaces_13 (by decide) (fun c => mm_sub [0, 1] rfl (h6 c)) (fun c => mm_sub [0, 1, 2] rfl (h7 c))
theorem t_R_examinePlaces_16 {l : Launch} {G : mm_G} {b : Nat} {m : mm_Mem} {Q : mm_O → mm_Mem → Prop} {r0 : Nat} {x1 : Int32} {x2 : Int32} {fs_1 : List Value} {q_4 : Nat} {q_6 : Nat} {n_8 : Nat} {f_9 : Nat → Int32} {n_13 : Nat} {f_14 : Nat → Option Nat} {q_18 : Nat} {fs_20 : List Value} {v_23 : Int64} (g2 : m r0 = .inr (7, fs_1)) (z3 : r0 ≠ 0) (v5 : fs_1[2]? = some (.ref q_4)) (v7 : fs_1[4]? = some (.ref q_6)) (a10 : m q_6 = .inl (G.2 1, n_8, .inl f_9)) (z11 : q_6 ≠ 0) (i12 : vp_in x2 n_8) (a15 : m q_4 = .inl (G.2 5, n_13, .inr (.inr (.inr (.inr f_14))))) (z16 : q_4 ≠ 0) (i17 : vp_in (f_9 x2.toNatClampNeg) n_13) (e19 : f_14 (f_9 x2.toNatClampNeg).toNatClampNeg = some q_18) (g21 : m q_18 = .inr (6, fs_20)) (z22 : q_18 ≠ 0) (v24 : fs_20[3]? = some (.long v_23)) (h25 : ((lg_cmp v_23 x1.toInt64) = 0) → mm_W l G k_R_examinePlaces 52 [(0, .ref r0), (2, .int x2), (3, .ref q_18)] [] b m Q) (h26 : (¬ (lg_cmp v_23 x1.toInt64) = 0) → mm_W l G k_R_examinePlaces 38 [(0, .ref r0), (1, .int x1), (2, .int x2)] [] b m Q) : mm_W l G k_R_examinePlaces 16 [(0, .ref r0), (1, .int x1), (2, .int x2)] [] b m Q := by
  refine mm_aload_n 0 (i := 0) d_R_examinePlaces_16 rfl rfl ?_
  refine mm_get cc_R 2 (by decide) w_193 d_R_examinePlaces_17 g2 z3 v5 ?_
  refine mm_aload_n 0 (i := 0) d_R_examinePlaces_20 rfl rfl ?_
  refine mm_get cc_R 4 (by decide) w_195 d_R_examinePlaces_21 g2 z3 v7 ?_
  refine mm_iload_n 2 (i := 2) d_R_examinePlaces_24 rfl rfl ?_
  refine mm_iald d_R_examinePlaces_25 a10 z11 i12 ?_
  refine mm_aald (t := 5) rfl d_R_examinePlaces_26 a15 z16 i17 e19 ?_
  refine mm_astore_n (i := 3) d_R_examinePlaces_27 rfl (Nat.le_of_ble_eq_true rfl) (lv2 := [(3, .ref q_18), (0, .ref r0), (1, .int x1), (2, .int x2)]) rfl ?_
  refine mm_aload_n 0 (i := 3) d_R_examinePlaces_28 rfl rfl ?_
  refine mm_getN cc_G 3 (by decide) nw_173 d_R_examinePlaces_29 g21 z22 v24 ?_
  refine mm_iload_n 2 (i := 1) d_R_examinePlaces_32 rfl rfl ?_
  refine mm_i2l d_R_examinePlaces_33 ?_
  refine mm_lcmp d_R_examinePlaces_34 ?_
  exact mm_if_eq (tgt := 52) d_R_examinePlaces_35 (by decide) (fun c => mm_sub [1, 3, 0] rfl (h25 c)) (fun c => mm_sub [1, 2, 3] rfl (h26 c))
theorem t_R_examinePlaces_38 {l : Launch} {G : mm_G} {b : Nat} {m : mm_Mem} {Q : mm_O → mm_Mem → Prop} {r0 : Nat} {x1 : Int32} {x2 : Int32} {fs_1 : List Value} {q_4 : Nat} {n_6 : Nat} {f_7 : Nat → Int32} {b_11 : Nat} {b_12 : Nat} {m_14 : mm_Mem} {x_15 : Int32} (g2 : m r0 = .inr (7, fs_1)) (z3 : r0 ≠ 0) (v5 : fs_1[4]? = some (.ref q_4)) (a8 : m q_4 = .inl (G.2 1, n_6, .inl f_7)) (z9 : q_4 ≠ 0) (i10 : vp_in x2 n_6) (hb13 : b_11 + b_12 ≤ b) (M16 : mm_W l G k_R_note 0 (lv_args 0 [.ref r0, .int 10, .int x1, .int (f_7 x2.toNatClampNeg)]) [] b_11 m (mm_is (.inl (some (.int x_15))) m_14)) (h17 : Q (.inl (some (.int x_15))) m_14) (hn18 : narrow .boolean (.int x_15) = .int x_15) : mm_W l G k_R_examinePlaces 38 [(0, .ref r0), (1, .int x1), (2, .int x2)] [] b m Q := by
  refine mm_aload_n 0 (i := 0) d_R_examinePlaces_38 rfl rfl ?_
  refine mm_bipush d_R_examinePlaces_39 (v := 10) (by decide) ?_
  refine mm_iload_n 1 (i := 1) d_R_examinePlaces_41 rfl rfl ?_
  refine mm_aload_n 0 (i := 0) d_R_examinePlaces_42 rfl rfl ?_
  refine mm_get cc_R 4 (by decide) w_195 d_R_examinePlaces_43 g2 z3 v5 ?_
  refine mm_iload_n 2 (i := 2) d_R_examinePlaces_46 rfl rfl ?_
  refine mm_iald d_R_examinePlaces_47 a8 z9 i10 ?_
  refine mm_callV (as := [.int 10, .int x1, .int (f_7 x2.toNatClampNeg)]) (st := []) (b2 := b_12) ca_R_note w_623 w_625 v_R_note cc_R.1 rfl d_R_examinePlaces_48 rfl (Nat.le_of_ble_eq_true rfl) (Nat.le_of_ble_eq_true rfl) (Nat.le_of_ble_eq_true rfl) hb13 g2 z3 M16 (fun E _ ⟨c, _⟩ => nomatch c) (fun v _ ⟨c, e⟩ => ?_)
  cases c
  rw [e]
  show mm_W l G k_R_examinePlaces 51 [(0, .ref r0), (1, .int x1), (2, .int x2)] [.int x_15] b_12 m_14 Q
  exact mm_zret d_R_examinePlaces_51 rfl hn18 h17
theorem t_R_examinePlaces_52 {l : Launch} {G : mm_G} {b : Nat} {m : mm_Mem} {Q : mm_O → mm_Mem → Prop} {r0 : Nat} {x2 : Int32} {r3 : Nat} {fs_1 : List Value} {u_4 : Int32} (g2 : m r3 = .inr (6, fs_1)) (z3 : r3 ≠ 0) (v5 : fs_1[5]? = some (.int u_4)) (h6 : mm_W l G k_R_examinePlaces 8 [(0, .ref r0), (1, .int u_4), (2, .int (x2 + 1))] [] b m Q) : mm_W l G k_R_examinePlaces 52 [(0, .ref r0), (2, .int x2), (3, .ref r3)] [] b m Q := by
  refine mm_aload_n 2 (i := 3) d_R_examinePlaces_52 rfl rfl ?_
  refine mm_getN cc_G 5 (by decide) nw_175 d_R_examinePlaces_53 g2 z3 v5 ?_
  refine mm_istore_n (i := 1) d_R_examinePlaces_56 rfl (Nat.le_of_ble_eq_true rfl) (lv2 := [(1, .int u_4), (0, .ref r0), (2, .int x2), (3, .ref r3)]) rfl ?_
  refine mm_iinc 2 (i := 2) d_R_examinePlaces_57 rfl (v := x2 + 1) rfl (Nat.le_of_ble_eq_true rfl) (lv2 := [(2, .int (x2 + 1)), (1, .int u_4), (0, .ref r0), (3, .ref r3)]) rfl ?_
  refine mm_goto (tgt := 8) d_R_examinePlaces_60 (by decide) ?_
  exact mm_sub [2, 1, 0] rfl h6
theorem t_R_examinePlaces_63 {l : Launch} {G : mm_G} {b : Nat} {m : mm_Mem} {Q : mm_O → mm_Mem → Prop} {r0 : Nat} {x1 : Int32} {fs_1 : List Value} {u_4 : Int32} (g2 : m r0 = .inr (7, fs_1)) (z3 : r0 ≠ 0) (v5 : fs_1[9]? = some (.int u_4)) (h6 : (x1 = u_4) → mm_W l G k_R_examinePlaces 82 [] [] b m Q) (h7 : (¬ x1 = u_4) → mm_W l G k_R_examinePlaces 71 [(0, .ref r0), (1, .int x1)] [] b m Q) : mm_W l G k_R_examinePlaces 63 [(0, .ref r0), (1, .int x1)] [] b m Q := by
  refine mm_iload_n 1 (i := 1) d_R_examinePlaces_63 rfl rfl ?_
  refine mm_aload_n 0 (i := 0) d_R_examinePlaces_64 rfl rfl ?_
  refine mm_get cc_R 9 (by decide) w_203 d_R_examinePlaces_65 g2 z3 v5 ?_
  exact mm_icmp_eq (tgt := 82) d_R_examinePlaces_68 (by decide) (fun c => mm_sub [] rfl (h6 c)) (fun c => mm_sub [0, 1] rfl (h7 c))
theorem t_R_examinePlaces_71 {l : Launch} {G : mm_G} {b : Nat} {m : mm_Mem} {Q : mm_O → mm_Mem → Prop} {r0 : Nat} {x1 : Int32} {b_1 : Nat} {b_2 : Nat} {m_4 : mm_Mem} {x_5 : Int32} {fs_6 : List Value} (hb3 : b_1 + b_2 ≤ b) (g7 : m r0 = .inr (7, fs_6)) (z8 : r0 ≠ 0) (M9 : mm_W l G k_R_note 0 (lv_args 0 [.ref r0, .int 10, .int x1, .int ((-1))]) [] b_1 m (mm_is (.inl (some (.int x_5))) m_4)) (h10 : (x_5 = 0) → mm_W l G k_R_examinePlaces 86 [] [] b_2 m_4 Q) (h11 : (¬ x_5 = 0) → mm_W l G k_R_examinePlaces 82 [] [] b_2 m_4 Q) : mm_W l G k_R_examinePlaces 71 [(0, .ref r0), (1, .int x1)] [] b m Q := by
  refine mm_aload_n 0 (i := 0) d_R_examinePlaces_71 rfl rfl ?_
  refine mm_bipush d_R_examinePlaces_72 (v := 10) (by decide) ?_
  refine mm_iload_n 1 (i := 1) d_R_examinePlaces_74 rfl rfl ?_
  refine mm_iconst d_R_examinePlaces_75 (v := (-1)) (by decide) ?_
  refine mm_callV (as := [.int 10, .int x1, .int ((-1))]) (st := []) (b2 := b_2) ca_R_note w_623 w_625 v_R_note cc_R.1 rfl d_R_examinePlaces_76 rfl (Nat.le_of_ble_eq_true rfl) (Nat.le_of_ble_eq_true rfl) (Nat.le_of_ble_eq_true rfl) hb3 g7 z8 M9 (fun E _ ⟨c, _⟩ => nomatch c) (fun v _ ⟨c, e⟩ => ?_)
  cases c
  rw [e]
  show mm_W l G k_R_examinePlaces 79 [(0, .ref r0), (1, .int x1)] [.int x_5] b_2 m_4 Q
  exact mm_if_eq (tgt := 86) d_R_examinePlaces_79 (by decide) (fun c => mm_sub [] rfl (h10 c)) (fun c => mm_sub [] rfl (h11 c))
theorem t_R_examinePlaces_82 {l : Launch} {G : mm_G} {b : Nat} {m : mm_Mem} {Q : mm_O → mm_Mem → Prop}  (h1 : mm_W l G k_R_examinePlaces 87 [] [.int 1] b m Q) : mm_W l G k_R_examinePlaces 82 [] [] b m Q := by
  refine mm_iconst d_R_examinePlaces_82 (v := 1) (by decide) ?_
  refine mm_goto (tgt := 87) d_R_examinePlaces_83 (by decide) ?_
  exact mm_sub [] rfl h1
theorem t_R_examinePlaces_86 {l : Launch} {G : mm_G} {b : Nat} {m : mm_Mem} {Q : mm_O → mm_Mem → Prop}  (h1 : mm_W l G k_R_examinePlaces 87 [] [.int 0] b m Q) : mm_W l G k_R_examinePlaces 86 [] [] b m Q := by
  refine mm_iconst d_R_examinePlaces_86 (v := 0) (by decide) ?_
  exact mm_sub [] rfl h1
theorem t_R_examinePlaces_87 {l : Launch} {G : mm_G} {b : Nat} {m : mm_Mem} {Q : mm_O → mm_Mem → Prop} {xs0 : Int32} (h1 : Q (.inl (some (.int xs0))) m) (hn2 : narrow .boolean (.int xs0) = .int xs0) : mm_W l G k_R_examinePlaces 87 [] [.int xs0] b m Q := by
  exact mm_zret d_R_examinePlaces_87 rfl hn2 h1
theorem t_R_orderByHeads_0 {l : Launch} {G : mm_G} {b : Nat} {m : mm_Mem} {Q : mm_O → mm_Mem → Prop} {r0 : Nat} (h1 : mm_W l G k_R_orderByHeads 2 [(0, .ref r0), (1, .int 0)] [] b m Q) : mm_W l G k_R_orderByHeads 0 [(0, .ref r0)] [] b m Q := by
  refine mm_iconst d_R_orderByHeads_0 (v := 0) (by decide) ?_
  refine mm_istore_n (i := 1) d_R_orderByHeads_1 rfl (Nat.le_of_ble_eq_true rfl) (lv2 := [(1, .int 0), (0, .ref r0)]) rfl ?_
  exact mm_sub [1, 0] rfl h1
theorem t_R_orderByHeads_2 {l : Launch} {G : mm_G} {b : Nat} {m : mm_Mem} {Q : mm_O → mm_Mem → Prop} {r0 : Nat} {x1 : Int32} {fs_1 : List Value} {u_4 : Int32} (g2 : m r0 = .inr (7, fs_1)) (z3 : r0 ≠ 0) (v5 : fs_1[10]? = some (.int u_4)) (h6 : (u_4 ≤ x1) → mm_W l G k_R_orderByHeads 78 [] [] b m Q) (h7 : (¬ u_4 ≤ x1) → mm_W l G k_R_orderByHeads 10 [(0, .ref r0), (1, .int x1)] [] b m Q) : mm_W l G k_R_orderByHeads 2 [(0, .ref r0), (1, .int x1)] [] b m Q := by
  refine mm_iload_n 1 (i := 1) d_R_orderByHeads_2 rfl rfl ?_
  refine mm_aload_n 0 (i := 0) d_R_orderByHeads_3 rfl rfl ?_
  refine mm_get cc_R 10 (by decide) w_204 d_R_orderByHeads_4 g2 z3 v5 ?_
  exact mm_icmp_ge (tgt := 78) d_R_orderByHeads_7 (by decide) (fun c => mm_sub [] rfl (h6 c)) (fun c => mm_sub [0, 1] rfl (h7 c))
theorem t_R_orderByHeads_10 {l : Launch} {G : mm_G} {b : Nat} {m : mm_Mem} {Q : mm_O → mm_Mem → Prop} {r0 : Nat} {x1 : Int32} (h1 : mm_W l G k_R_orderByHeads 12 [(0, .ref r0), (1, .int x1), (2, .int x1)] [] b m Q) : mm_W l G k_R_orderByHeads 10 [(0, .ref r0), (1, .int x1)] [] b m Q := by
  refine mm_iload_n 1 (i := 1) d_R_orderByHeads_10 rfl rfl ?_
  refine mm_istore_n (i := 2) d_R_orderByHeads_11 rfl (Nat.le_of_ble_eq_true rfl) (lv2 := [(2, .int x1), (0, .ref r0), (1, .int x1)]) rfl ?_
  exact mm_sub [1, 2, 0] rfl h1
theorem t_R_orderByHeads_12 {l : Launch} {G : mm_G} {b : Nat} {m : mm_Mem} {Q : mm_O → mm_Mem → Prop} {r0 : Nat} {x1 : Int32} {x2 : Int32} (h1 : (x2 ≤ 0) → mm_W l G k_R_orderByHeads 65 [(0, .ref r0), (1, .int x1), (2, .int x2)] [] b m Q) (h2 : (¬ x2 ≤ 0) → mm_W l G k_R_orderByHeads 16 [(0, .ref r0), (1, .int x1), (2, .int x2)] [] b m Q) : mm_W l G k_R_orderByHeads 12 [(0, .ref r0), (1, .int x1), (2, .int x2)] [] b m Q := by
  refine mm_iload_n 2 (i := 2) d_R_orderByHeads_12 rfl rfl ?_
  exact mm_if_le (tgt := 65) d_R_orderByHeads_13 (by decide) (fun c => mm_sub [0, 1, 2] rfl (h1 c)) (fun c => mm_sub [0, 1, 2] rfl (h2 c))
theorem t_R_orderByHeads_16 {l : Launch} {G : mm_G} {b : Nat} {m : mm_Mem} {Q : mm_O → mm_Mem → Prop} {r0 : Nat} {x1 : Int32} {x2 : Int32} {fs_1 : List Value} {q_4 : Nat} {q_6 : Nat} {n_8 : Nat} {f_9 : Nat → Int32} {n_13 : Nat} {f_14 : Nat → Option Nat} {q_18 : Nat} {fs_20 : List Value} {v_23 : Int64} {q_26 : Nat} {fs_28 : List Value} {v_31 : Int64} (g2 : m r0 = .inr (7, fs_1)) (z3 : r0 ≠ 0) (v5 : fs_1[2]? = some (.ref q_4)) (v7 : fs_1[4]? = some (.ref q_6)) (a10 : m q_6 = .inl (G.2 1, n_8, .inl f_9)) (z11 : q_6 ≠ 0) (i12 : vp_in (x2 - 1) n_8) (a15 : m q_4 = .inl (G.2 5, n_13, .inr (.inr (.inr (.inr f_14))))) (z16 : q_4 ≠ 0) (i17 : vp_in (f_9 (x2 - 1).toNatClampNeg) n_13) (e19 : f_14 (f_9 (x2 - 1).toNatClampNeg).toNatClampNeg = some q_18) (g21 : m q_18 = .inr (6, fs_20)) (z22 : q_18 ≠ 0) (v24 : fs_20[3]? = some (.long v_23)) (i25 : vp_in x1 n_13) (e27 : f_14 x1.toNatClampNeg = some q_26) (g29 : m q_26 = .inr (6, fs_28)) (z30 : q_26 ≠ 0) (v32 : fs_28[3]? = some (.long v_31)) (h33 : ((lg_cmp v_23 v_31) ≤ 0) → mm_W l G k_R_orderByHeads 65 [(0, .ref r0), (1, .int x1), (2, .int x2)] [] b m Q) (h34 : (¬ (lg_cmp v_23 v_31) ≤ 0) → mm_W l G k_R_orderByHeads 45 [(0, .ref r0), (1, .int x1), (2, .int x2)] [] b m Q) : mm_W l G k_R_orderByHeads 16 [(0, .ref r0), (1, .int x1), (2, .int x2)] [] b m Q := by
  refine mm_aload_n 0 (i := 0) d_R_orderByHeads_16 rfl rfl ?_
  refine mm_get cc_R 2 (by decide) w_193 d_R_orderByHeads_17 g2 z3 v5 ?_
  refine mm_aload_n 0 (i := 0) d_R_orderByHeads_20 rfl rfl ?_
  refine mm_get cc_R 4 (by decide) w_195 d_R_orderByHeads_21 g2 z3 v7 ?_
  refine mm_iload_n 2 (i := 2) d_R_orderByHeads_24 rfl rfl ?_
  refine mm_iconst d_R_orderByHeads_25 (v := 1) (by decide) ?_
  refine mm_isub d_R_orderByHeads_26 ?_
  refine mm_iald d_R_orderByHeads_27 a10 z11 i12 ?_
  refine mm_aald (t := 5) rfl d_R_orderByHeads_28 a15 z16 i17 e19 ?_
  refine mm_getN cc_G 3 (by decide) nw_173 d_R_orderByHeads_29 g21 z22 v24 ?_
  refine mm_aload_n 0 (i := 0) d_R_orderByHeads_32 rfl rfl ?_
  refine mm_get cc_R 2 (by decide) w_193 d_R_orderByHeads_33 g2 z3 v5 ?_
  refine mm_iload_n 1 (i := 1) d_R_orderByHeads_36 rfl rfl ?_
  refine mm_aald (t := 5) rfl d_R_orderByHeads_37 a15 z16 i25 e27 ?_
  refine mm_getN cc_G 3 (by decide) nw_173 d_R_orderByHeads_38 g29 z30 v32 ?_
  refine mm_lcmp d_R_orderByHeads_41 ?_
  exact mm_if_le (tgt := 65) d_R_orderByHeads_42 (by decide) (fun c => mm_sub [0, 1, 2] rfl (h33 c)) (fun c => mm_sub [0, 1, 2] rfl (h34 c))
theorem t_R_orderByHeads_45 {l : Launch} {G : mm_G} {b : Nat} {m : mm_Mem} {Q : mm_O → mm_Mem → Prop} {r0 : Nat} {x1 : Int32} {x2 : Int32} {fs_1 : List Value} {q_4 : Nat} {n_6 : Nat} {f_7 : Nat → Int32} (g2 : m r0 = .inr (7, fs_1)) (z3 : r0 ≠ 0) (v5 : fs_1[4]? = some (.ref q_4)) (a8 : m q_4 = .inl (G.2 1, n_6, .inl f_7)) (z9 : q_4 ≠ 0) (i10 : vp_in (x2 - 1) n_6) (i11 : vp_in x2 n_6) (h12 : mm_W l G k_R_orderByHeads 12 [(0, .ref r0), (1, .int x1), (2, .int (x2 + (-1)))] [] b (va_up m q_4 (.inl (G.2 1, n_6, .inl (upd f_7 x2.toNatClampNeg (f_7 (x2 - 1).toNatClampNeg))))) Q) : mm_W l G k_R_orderByHeads 45 [(0, .ref r0), (1, .int x1), (2, .int x2)] [] b m Q := by
  refine mm_aload_n 0 (i := 0) d_R_orderByHeads_45 rfl rfl ?_
  refine mm_get cc_R 4 (by decide) w_195 d_R_orderByHeads_46 g2 z3 v5 ?_
  refine mm_iload_n 2 (i := 2) d_R_orderByHeads_49 rfl rfl ?_
  refine mm_aload_n 0 (i := 0) d_R_orderByHeads_50 rfl rfl ?_
  refine mm_get cc_R 4 (by decide) w_195 d_R_orderByHeads_51 g2 z3 v5 ?_
  refine mm_iload_n 2 (i := 2) d_R_orderByHeads_54 rfl rfl ?_
  refine mm_iconst d_R_orderByHeads_55 (v := 1) (by decide) ?_
  refine mm_isub d_R_orderByHeads_56 ?_
  refine mm_iald d_R_orderByHeads_57 a8 z9 i10 ?_
  refine mm_iast d_R_orderByHeads_58 a8 z9 i11 ?_
  refine mm_iinc 2 (i := 2) d_R_orderByHeads_59 rfl (v := x2 + (-1)) rfl (Nat.le_of_ble_eq_true rfl) (lv2 := [(2, .int (x2 + (-1))), (0, .ref r0), (1, .int x1)]) rfl ?_
  refine mm_goto (tgt := 12) d_R_orderByHeads_62 (by decide) ?_
  exact mm_sub [1, 2, 0] rfl h12
theorem t_R_orderByHeads_65 {l : Launch} {G : mm_G} {b : Nat} {m : mm_Mem} {Q : mm_O → mm_Mem → Prop} {r0 : Nat} {x1 : Int32} {x2 : Int32} {fs_1 : List Value} {q_4 : Nat} {n_6 : Nat} {f_7 : Nat → Int32} (g2 : m r0 = .inr (7, fs_1)) (z3 : r0 ≠ 0) (v5 : fs_1[4]? = some (.ref q_4)) (a8 : m q_4 = .inl (G.2 1, n_6, .inl f_7)) (z9 : q_4 ≠ 0) (i10 : vp_in x2 n_6) (h11 : mm_W l G k_R_orderByHeads 2 [(0, .ref r0), (1, .int (x1 + 1))] [] b (va_up m q_4 (.inl (G.2 1, n_6, .inl (upd f_7 x2.toNatClampNeg x1)))) Q) : mm_W l G k_R_orderByHeads 65 [(0, .ref r0), (1, .int x1), (2, .int x2)] [] b m Q := by
  refine mm_aload_n 0 (i := 0) d_R_orderByHeads_65 rfl rfl ?_
  refine mm_get cc_R 4 (by decide) w_195 d_R_orderByHeads_66 g2 z3 v5 ?_
  refine mm_iload_n 2 (i := 2) d_R_orderByHeads_69 rfl rfl ?_
  refine mm_iload_n 1 (i := 1) d_R_orderByHeads_70 rfl rfl ?_
  refine mm_iast d_R_orderByHeads_71 a8 z9 i10 ?_
  refine mm_iinc 1 (i := 1) d_R_orderByHeads_72 rfl (v := x1 + 1) rfl (Nat.le_of_ble_eq_true rfl) (lv2 := [(1, .int (x1 + 1)), (0, .ref r0), (2, .int x2)]) rfl ?_
  refine mm_goto (tgt := 2) d_R_orderByHeads_75 (by decide) ?_
  exact mm_sub [1, 0] rfl h11
theorem t_R_orderByHeads_78 {l : Launch} {G : mm_G} {b : Nat} {m : mm_Mem} {Q : mm_O → mm_Mem → Prop}  (h1 : Q (.inl none) m) : mm_W l G k_R_orderByHeads 78 [] [] b m Q := by
  exact mm_vret d_R_orderByHeads_78 rfl h1
theorem t_R_examineChecks_0 {l : Launch} {G : mm_G} {b : Nat} {m : mm_Mem} {Q : mm_O → mm_Mem → Prop} {r0 : Nat} (h1 : mm_W l G k_R_examineChecks 2 [(0, .ref r0), (1, .int 0)] [] b m Q) : mm_W l G k_R_examineChecks 0 [(0, .ref r0)] [] b m Q := by
  refine mm_iconst d_R_examineChecks_0 (v := 0) (by decide) ?_
  refine mm_istore_n (i := 1) d_R_examineChecks_1 rfl (Nat.le_of_ble_eq_true rfl) (lv2 := [(1, .int 0), (0, .ref r0)]) rfl ?_
  exact mm_sub [1, 0] rfl h1
theorem t_R_examineChecks_2 {l : Launch} {G : mm_G} {b : Nat} {m : mm_Mem} {Q : mm_O → mm_Mem → Prop} {r0 : Nat} {x1 : Int32} {fs_1 : List Value} {u_4 : Int32} (g2 : m r0 = .inr (7, fs_1)) (z3 : r0 ≠ 0) (v5 : fs_1[10]? = some (.int u_4)) (h6 : (u_4 ≤ x1) → mm_W l G k_R_examineChecks 79 [] [] b m Q) (h7 : (¬ u_4 ≤ x1) → mm_W l G k_R_examineChecks 10 [(0, .ref r0), (1, .int x1)] [] b m Q) : mm_W l G k_R_examineChecks 2 [(0, .ref r0), (1, .int x1)] [] b m Q := by
  refine mm_iload_n 1 (i := 1) d_R_examineChecks_2 rfl rfl ?_
  refine mm_aload_n 0 (i := 0) d_R_examineChecks_3 rfl rfl ?_
  refine mm_get cc_R 10 (by decide) w_204 d_R_examineChecks_4 g2 z3 v5 ?_
  exact mm_icmp_ge (tgt := 79) d_R_examineChecks_7 (by decide) (fun c => mm_sub [] rfl (h6 c)) (fun c => mm_sub [0, 1] rfl (h7 c))
theorem t_R_examineChecks_10 {l : Launch} {G : mm_G} {b : Nat} {m : mm_Mem} {Q : mm_O → mm_Mem → Prop} {r0 : Nat} {x1 : Int32} {fs_1 : List Value} {q_4 : Nat} {n_6 : Nat} {f_7 : Nat → Option Nat} {q_11 : Nat} {fs_13 : List Value} {q_16 : Nat} {fs_18 : List Value} {u_21 : Int32} (g2 : m r0 = .inr (7, fs_1)) (z3 : r0 ≠ 0) (v5 : fs_1[2]? = some (.ref q_4)) (a8 : m q_4 = .inl (G.2 5, n_6, .inr (.inr (.inr (.inr f_7))))) (z9 : q_4 ≠ 0) (i10 : vp_in x1 n_6) (e12 : f_7 x1.toNatClampNeg = some q_11) (g14 : m q_11 = .inr (6, fs_13)) (z15 : q_11 ≠ 0) (v17 : fs_13[0]? = some (.ref q_16)) (g19 : m q_16 = .inr (5, fs_18)) (z20 : q_16 ≠ 0) (v22 : fs_18[1]? = some (.int u_21)) (h23 : (¬ u_21 = 0) → mm_W l G k_R_examineChecks 73 [(0, .ref r0), (1, .int x1)] [] b m Q) (h24 : (u_21 = 0) → mm_W l G k_R_examineChecks 29 [(0, .ref r0), (1, .int x1), (2, .ref q_11), (3, .ref q_16)] [] b m Q) : mm_W l G k_R_examineChecks 10 [(0, .ref r0), (1, .int x1)] [] b m Q := by
  refine mm_aload_n 0 (i := 0) d_R_examineChecks_10 rfl rfl ?_
  refine mm_get cc_R 2 (by decide) w_193 d_R_examineChecks_11 g2 z3 v5 ?_
  refine mm_iload_n 1 (i := 1) d_R_examineChecks_14 rfl rfl ?_
  refine mm_aald (t := 5) rfl d_R_examineChecks_15 a8 z9 i10 e12 ?_
  refine mm_astore_n (i := 2) d_R_examineChecks_16 rfl (Nat.le_of_ble_eq_true rfl) (lv2 := [(2, .ref q_11), (0, .ref r0), (1, .int x1)]) rfl ?_
  refine mm_aload_n 0 (i := 2) d_R_examineChecks_17 rfl rfl ?_
  refine mm_getN cc_G 0 (by decide) nw_167 d_R_examineChecks_18 g14 z15 v17 ?_
  refine mm_astore_n (i := 3) d_R_examineChecks_21 rfl (Nat.le_of_ble_eq_true rfl) (lv2 := [(3, .ref q_16), (2, .ref q_11), (0, .ref r0), (1, .int x1)]) rfl ?_
  refine mm_aload_n 0 (i := 3) d_R_examineChecks_22 rfl rfl ?_
  refine mm_getN cc_F 1 (by decide) nw_138 d_R_examineChecks_23 g19 z20 v22 ?_
  exact mm_if_ne (tgt := 73) d_R_examineChecks_26 (by decide) (fun c => mm_sub [2, 3] rfl (h23 c)) (fun c => mm_sub [2, 3, 1, 0] rfl (h24 c))
theorem t_R_examineChecks_29 {l : Launch} {G : mm_G} {b : Nat} {m : mm_Mem} {Q : mm_O → mm_Mem → Prop} {r0 : Nat} {x1 : Int32} {r2 : Nat} {r3 : Nat} {fs_1 : List Value} {q_4 : Nat} {q_6 : Nat} {fs_8 : List Value} {u_11 : Int32} {fs_13 : List Value} {v_16 : Int64} {b_18 : Nat} {b_19 : Nat} {m_21 : mm_Mem} {x_22 : Int32} {fs_23 : List Value} {fs_27 : List Value} {v_29 : Int64} (g2 : m r0 = .inr (7, fs_1)) (z3 : r0 ≠ 0) (v5 : fs_1[1]? = some (.ref q_4)) (v7 : fs_1[0]? = some (.ref q_6)) (g9 : m r2 = .inr (6, fs_8)) (z10 : r2 ≠ 0) (v12 : fs_8[4]? = some (.int u_11)) (g14 : m r3 = .inr (5, fs_13)) (z15 : r3 ≠ 0) (v17 : fs_13[3]? = some (.long v_16)) (hb20 : b_18 + b_19 ≤ b) (g24 : m q_4 = .inr (3, fs_23)) (z25 : q_4 ≠ 0) (M26 : mm_W l G k_C_checkOf 0 (lv_args 0 [.ref q_4, .ref q_6, .int u_11, .int v_16.toInt32]) [] b_18 m (mm_is (.inl (some (.int x_22))) m_21)) (g28 : m_21 r3 = .inr (5, fs_27)) (v30 : fs_27[2]? = some (.long v_29)) (h31 : (x_22 = v_29.toInt32) → mm_W l G k_R_examineChecks 73 [(0, .ref r0), (1, .int x1)] [] b_19 m_21 Q) (h32 : (¬ x_22 = v_29.toInt32) → mm_W l G k_R_examineChecks 61 [(0, .ref r0), (1, .int x1), (2, .ref r2)] [] b_19 m_21 Q) : mm_W l G k_R_examineChecks 29 [(0, .ref r0), (1, .int x1), (2, .ref r2), (3, .ref r3)] [] b m Q := by
  refine mm_aload_n 0 (i := 0) d_R_examineChecks_29 rfl rfl ?_
  refine mm_get cc_R 1 (by decide) w_192 d_R_examineChecks_30 g2 z3 v5 ?_
  refine mm_aload_n 0 (i := 0) d_R_examineChecks_33 rfl rfl ?_
  refine mm_get cc_R 0 (by decide) w_191 d_R_examineChecks_34 g2 z3 v7 ?_
  refine mm_aload_n 2 (i := 2) d_R_examineChecks_37 rfl rfl ?_
  refine mm_getN cc_G 4 (by decide) nw_174 d_R_examineChecks_38 g9 z10 v12 ?_
  refine mm_aload_n 3 (i := 3) d_R_examineChecks_41 rfl rfl ?_
  refine mm_getN cc_F 3 (by decide) nw_142 d_R_examineChecks_42 g14 z15 v17 ?_
  refine mm_l2i d_R_examineChecks_45 ?_
  refine mm_callV (as := [.ref q_6, .int u_11, .int v_16.toInt32]) (st := []) (b2 := b_19) ca_C_checkOf w_716 w_470 w_471 cc_C.1 rfl d_R_examineChecks_46 rfl (Nat.le_of_ble_eq_true rfl) (Nat.le_of_ble_eq_true rfl) (Nat.le_of_ble_eq_true rfl) hb20 g24 z25 M26 (fun E _ ⟨c, _⟩ => nomatch c) (fun v _ ⟨c, e⟩ => ?_)
  cases c
  rw [e]
  show mm_W l G k_R_examineChecks 49 [(0, .ref r0), (1, .int x1), (2, .ref r2), (3, .ref r3)] [.int x_22] b_19 m_21 Q
  refine mm_istore (i := 4) d_R_examineChecks_49 (Nat.le_of_ble_eq_true rfl) (lv2 := [(4, .int x_22), (0, .ref r0), (1, .int x1), (2, .ref r2), (3, .ref r3)]) rfl ?_
  refine mm_iload 0 (i := 4) d_R_examineChecks_51 rfl ?_
  refine mm_aload_n 4 (i := 3) d_R_examineChecks_53 rfl rfl ?_
  refine mm_getN cc_F 2 (by decide) nw_140 d_R_examineChecks_54 g28 z15 v30 ?_
  refine mm_l2i d_R_examineChecks_57 ?_
  exact mm_icmp_eq (tgt := 73) d_R_examineChecks_58 (by decide) (fun c => mm_sub [1, 2] rfl (h31 c)) (fun c => mm_sub [1, 2, 3] rfl (h32 c))
theorem t_R_examineChecks_61 {l : Launch} {G : mm_G} {b : Nat} {m : mm_Mem} {Q : mm_O → mm_Mem → Prop} {r0 : Nat} {x1 : Int32} {r2 : Nat} {fs_1 : List Value} {u_4 : Int32} {b_6 : Nat} {b_7 : Nat} {m_9 : mm_Mem} {x_10 : Int32} {fs_11 : List Value} (g2 : m r2 = .inr (6, fs_1)) (z3 : r2 ≠ 0) (v5 : fs_1[4]? = some (.int u_4)) (hb8 : b_6 + b_7 ≤ b) (g12 : m r0 = .inr (7, fs_11)) (z13 : r0 ≠ 0) (M14 : mm_W l G k_R_note 0 (lv_args 0 [.ref r0, .int 11, .int u_4, .int x1]) [] b_6 m (mm_is (.inl (some (.int x_10))) m_9)) (h15 : Q (.inl (some (.int x_10))) m_9) (hn16 : narrow .boolean (.int x_10) = .int x_10) : mm_W l G k_R_examineChecks 61 [(0, .ref r0), (1, .int x1), (2, .ref r2)] [] b m Q := by
  refine mm_aload_n 0 (i := 0) d_R_examineChecks_61 rfl rfl ?_
  refine mm_bipush d_R_examineChecks_62 (v := 11) (by decide) ?_
  refine mm_aload_n 2 (i := 2) d_R_examineChecks_64 rfl rfl ?_
  refine mm_getN cc_G 4 (by decide) nw_174 d_R_examineChecks_65 g2 z3 v5 ?_
  refine mm_iload_n 1 (i := 1) d_R_examineChecks_68 rfl rfl ?_
  refine mm_callV (as := [.int 11, .int u_4, .int x1]) (st := []) (b2 := b_7) ca_R_note w_623 w_625 v_R_note cc_R.1 rfl d_R_examineChecks_69 rfl (Nat.le_of_ble_eq_true rfl) (Nat.le_of_ble_eq_true rfl) (Nat.le_of_ble_eq_true rfl) hb8 g12 z13 M14 (fun E _ ⟨c, _⟩ => nomatch c) (fun v _ ⟨c, e⟩ => ?_)
  cases c
  rw [e]
  show mm_W l G k_R_examineChecks 72 [(0, .ref r0), (1, .int x1), (2, .ref r2)] [.int x_10] b_7 m_9 Q
  exact mm_zret d_R_examineChecks_72 rfl hn16 h15
theorem t_R_examineChecks_73 {l : Launch} {G : mm_G} {b : Nat} {m : mm_Mem} {Q : mm_O → mm_Mem → Prop} {r0 : Nat} {x1 : Int32} (h1 : mm_W l G k_R_examineChecks 2 [(0, .ref r0), (1, .int (x1 + 1))] [] b m Q) : mm_W l G k_R_examineChecks 73 [(0, .ref r0), (1, .int x1)] [] b m Q := by
  refine mm_iinc 1 (i := 1) d_R_examineChecks_73 rfl (v := x1 + 1) rfl (Nat.le_of_ble_eq_true rfl) (lv2 := [(1, .int (x1 + 1)), (0, .ref r0)]) rfl ?_
  refine mm_goto (tgt := 2) d_R_examineChecks_76 (by decide) ?_
  exact mm_sub [1, 0] rfl h1
theorem t_R_examineChecks_79 {l : Launch} {G : mm_G} {b : Nat} {m : mm_Mem} {Q : mm_O → mm_Mem → Prop}  (h1 : Q (.inl (some (.int 1))) m) (hn2 : narrow .boolean (.int 1) = .int 1) : mm_W l G k_R_examineChecks 79 [] [] b m Q := by
  refine mm_iconst d_R_examineChecks_79 (v := 1) (by decide) ?_
  exact mm_zret d_R_examineChecks_80 rfl hn2 h1
