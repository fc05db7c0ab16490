theorem d_M_init_0 : decode prog_11_method_1_code 0 = .ok (.aload_n 0, 1) := by decide +kernel
theorem d_M_init_1 : decode prog_11_method_1_code 1 = .ok (.invokespecial 1, 3) := by decide +kernel
theorem d_M_init_4 : decode prog_11_method_1_code 4 = .ok (.aload_n 0, 1) := by decide +kernel
theorem d_M_init_5 : decode prog_11_method_1_code 5 = .ok (.ldc 7, 2) := by decide +kernel
theorem d_M_init_7 : decode prog_11_method_1_code 7 = .ok (.newarray .byte, 2) := by decide +kernel
theorem d_M_init_9 : decode prog_11_method_1_code 9 = .ok (.putfield 8, 3) := by decide +kernel
theorem d_M_init_12 : decode prog_11_method_1_code 12 = .ok (.aload_n 0, 1) := by decide +kernel
theorem d_M_init_13 : decode prog_11_method_1_code 13 = .ok (.bipush 64, 2) := by decide +kernel
theorem d_M_init_15 : decode prog_11_method_1_code 15 = .ok (.newarray .int, 2) := by decide +kernel
theorem d_M_init_17 : decode prog_11_method_1_code 17 = .ok (.putfield 14, 3) := by decide +kernel
theorem d_M_init_20 : decode prog_11_method_1_code 20 = .ok (.aload_n 0, 1) := by decide +kernel
theorem d_M_init_21 : decode prog_11_method_1_code 21 = .ok (.sipush 4096, 3) := by decide +kernel
theorem d_M_init_24 : decode prog_11_method_1_code 24 = .ok (.newarray .int, 2) := by decide +kernel
theorem d_M_init_26 : decode prog_11_method_1_code 26 = .ok (.putfield 18, 3) := by decide +kernel
theorem d_M_init_29 : decode prog_11_method_1_code 29 = .ok (.aload_n 0, 1) := by decide +kernel
theorem d_M_init_30 : decode prog_11_method_1_code 30 = .ok (.bipush 64, 2) := by decide +kernel
theorem d_M_init_32 : decode prog_11_method_1_code 32 = .ok (.newarray .int, 2) := by decide +kernel
theorem d_M_init_34 : decode prog_11_method_1_code 34 = .ok (.putfield 21, 3) := by decide +kernel
theorem d_M_init_37 : decode prog_11_method_1_code 37 = .ok (.aload_n 0, 1) := by decide +kernel
theorem d_M_init_38 : decode prog_11_method_1_code 38 = .ok (.bipush 64, 2) := by decide +kernel
theorem d_M_init_40 : decode prog_11_method_1_code 40 = .ok (.newarray .int, 2) := by decide +kernel
theorem d_M_init_42 : decode prog_11_method_1_code 42 = .ok (.putfield 24, 3) := by decide +kernel
theorem d_M_init_45 : decode prog_11_method_1_code 45 = .ok (.aload_n 0, 1) := by decide +kernel
theorem d_M_init_46 : decode prog_11_method_1_code 46 = .ok (.bipush 64, 2) := by decide +kernel
theorem d_M_init_48 : decode prog_11_method_1_code 48 = .ok (.newarray .int, 2) := by decide +kernel
theorem d_M_init_50 : decode prog_11_method_1_code 50 = .ok (.putfield 27, 3) := by decide +kernel
theorem d_M_init_53 : decode prog_11_method_1_code 53 = .ok (.aload_n 0, 1) := by decide +kernel
theorem d_M_init_54 : decode prog_11_method_1_code 54 = .ok (.bipush 64, 2) := by decide +kernel
theorem d_M_init_56 : decode prog_11_method_1_code 56 = .ok (.newarray .int, 2) := by decide +kernel
theorem d_M_init_58 : decode prog_11_method_1_code 58 = .ok (.putfield 30, 3) := by decide +kernel
theorem d_M_init_61 : decode prog_11_method_1_code 61 = .ok (.aload_n 0, 1) := by decide +kernel
theorem d_M_init_62 : decode prog_11_method_1_code 62 = .ok (.bipush 64, 2) := by decide +kernel
theorem d_M_init_64 : decode prog_11_method_1_code 64 = .ok (.newarray .int, 2) := by decide +kernel
theorem d_M_init_66 : decode prog_11_method_1_code 66 = .ok (.putfield 33, 3) := by decide +kernel
theorem d_M_init_69 : decode prog_11_method_1_code 69 = .ok (.aload_n 0, 1) := by decide +kernel
theorem d_M_init_70 : decode prog_11_method_1_code 70 = .ok (.bipush 64, 2) := by decide +kernel
theorem d_M_init_72 : decode prog_11_method_1_code 72 = .ok (.newarray .int, 2) := by decide +kernel
theorem d_M_init_74 : decode prog_11_method_1_code 74 = .ok (.putfield 36, 3) := by decide +kernel
theorem d_M_init_77 : decode prog_11_method_1_code 77 = .ok (.aload_n 0, 1) := by decide +kernel
theorem d_M_init_78 : decode prog_11_method_1_code 78 = .ok (.ldc 7, 2) := by decide +kernel
theorem d_M_init_80 : decode prog_11_method_1_code 80 = .ok (.newarray .byte, 2) := by decide +kernel
theorem d_M_init_82 : decode prog_11_method_1_code 82 = .ok (.putfield 39, 3) := by decide +kernel
theorem d_M_init_85 : decode prog_11_method_1_code 85 = .ok (.aload_n 0, 1) := by decide +kernel
theorem d_M_init_86 : decode prog_11_method_1_code 86 = .ok (.ldc 7, 2) := by decide +kernel
theorem d_M_init_88 : decode prog_11_method_1_code 88 = .ok (.newarray .byte, 2) := by decide +kernel
theorem d_M_init_90 : decode prog_11_method_1_code 90 = .ok (.putfield 42, 3) := by decide +kernel
theorem d_M_init_93 : decode prog_11_method_1_code 93 = .ok (.aload_n 0, 1) := by decide +kernel
theorem d_M_init_94 : decode prog_11_method_1_code 94 = .ok (.iconst (-1), 1) := by decide +kernel
theorem d_M_init_95 : decode prog_11_method_1_code 95 = .ok (.putfield 45, 3) := by decide +kernel
theorem d_M_init_98 : decode prog_11_method_1_code 98 = .ok (.aload_n 0, 1) := by decide +kernel
theorem d_M_init_99 : decode prog_11_method_1_code 99 = .ok (.iconst (-1), 1) := by decide +kernel
theorem d_M_init_100 : decode prog_11_method_1_code 100 = .ok (.putfield 49, 3) := by decide +kernel
theorem d_M_init_103 : decode prog_11_method_1_code 103 = .ok (.aload_n 0, 1) := by decide +kernel
theorem d_M_init_104 : decode prog_11_method_1_code 104 = .ok (.bipush 64, 2) := by decide +kernel
theorem d_M_init_106 : decode prog_11_method_1_code 106 = .ok (.newarray .int, 2) := by decide +kernel
theorem d_M_init_108 : decode prog_11_method_1_code 108 = .ok (.putfield 52, 3) := by decide +kernel
theorem d_M_init_111 : decode prog_11_method_1_code 111 = .ok (.aload_n 0, 1) := by decide +kernel
theorem d_M_init_112 : decode prog_11_method_1_code 112 = .ok (.bipush 64, 2) := by decide +kernel
theorem d_M_init_114 : decode prog_11_method_1_code 114 = .ok (.newarray .long, 2) := by decide +kernel
theorem d_M_init_116 : decode prog_11_method_1_code 116 = .ok (.putfield 55, 3) := by decide +kernel
theorem d_M_init_119 : decode prog_11_method_1_code 119 = .ok (.aload_n 0, 1) := by decide +kernel
theorem d_M_init_120 : decode prog_11_method_1_code 120 = .ok (.bipush 64, 2) := by decide +kernel
theorem d_M_init_122 : decode prog_11_method_1_code 122 = .ok (.newarray .long, 2) := by decide +kernel
theorem d_M_init_124 : decode prog_11_method_1_code 124 = .ok (.putfield 59, 3) := by decide +kernel
theorem d_M_init_127 : decode prog_11_method_1_code 127 = .ok (.aload_n 0, 1) := by decide +kernel
theorem d_M_init_128 : decode prog_11_method_1_code 128 = .ok (.bipush 64, 2) := by decide +kernel
theorem d_M_init_130 : decode prog_11_method_1_code 130 = .ok (.newarray .long, 2) := by decide +kernel
theorem d_M_init_132 : decode prog_11_method_1_code 132 = .ok (.putfield 62, 3) := by decide +kernel
theorem d_M_init_135 : decode prog_11_method_1_code 135 = .ok (.aload_n 0, 1) := by decide +kernel
theorem d_M_init_136 : decode prog_11_method_1_code 136 = .ok (.bipush 64, 2) := by decide +kernel
theorem d_M_init_138 : decode prog_11_method_1_code 138 = .ok (.newarray .boolean, 2) := by decide +kernel
theorem d_M_init_140 : decode prog_11_method_1_code 140 = .ok (.putfield 65, 3) := by decide +kernel
theorem d_M_init_143 : decode prog_11_method_1_code 143 = .ok (.return_, 1) := by decide +kernel
theorem d_M_thrown_0 : decode prog_11_method_2_code 0 = .ok (.aload_n 0, 1) := by decide +kernel
theorem d_M_thrown_1 : decode prog_11_method_2_code 1 = .ok (.getfield 69, 3) := by decide +kernel
theorem d_M_thrown_4 : decode prog_11_method_2_code 4 = .ok (.ireturn, 1) := by decide +kernel
theorem d_M_feed_0 : decode prog_11_method_3_code 0 = .ok (.aload_n 0, 1) := by decide +kernel
theorem d_M_feed_1 : decode prog_11_method_3_code 1 = .ok (.aload_n 0, 1) := by decide +kernel
theorem d_M_feed_2 : decode prog_11_method_3_code 2 = .ok (.getfield 72, 3) := by decide +kernel
theorem d_M_feed_5 : decode prog_11_method_3_code 5 = .ok (.bipush 20, 2) := by decide +kernel
theorem d_M_feed_7 : decode prog_11_method_3_code 7 = .ok (.iadd, 1) := by decide +kernel
theorem d_M_feed_8 : decode prog_11_method_3_code 8 = .ok (.ldc 7, 2) := by decide +kernel
theorem d_M_feed_10 : decode prog_11_method_3_code 10 = .ok (.if_icmp .le 7, 3) := by decide +kernel
theorem d_M_feed_13 : decode prog_11_method_3_code 13 = .ok (.iconst 1, 1) := by decide +kernel
theorem d_M_feed_14 : decode prog_11_method_3_code 14 = .ok (.goto 4, 3) := by decide +kernel
theorem d_M_feed_17 : decode prog_11_method_3_code 17 = .ok (.iconst 0, 1) := by decide +kernel
theorem d_M_feed_18 : decode prog_11_method_3_code 18 = .ok (.putfield 69, 3) := by decide +kernel
theorem d_M_feed_21 : decode prog_11_method_3_code 21 = .ok (.aload_n 0, 1) := by decide +kernel
theorem d_M_feed_22 : decode prog_11_method_3_code 22 = .ok (.getfield 69, 3) := by decide +kernel
theorem d_M_feed_25 : decode prog_11_method_3_code 25 = .ok (.ifCond .le 4, 3) := by decide +kernel
theorem d_M_feed_28 : decode prog_11_method_3_code 28 = .ok (.return_, 1) := by decide +kernel
theorem d_M_feed_29 : decode prog_11_method_3_code 29 = .ok (.iconst 0, 1) := by decide +kernel
theorem d_M_feed_30 : decode prog_11_method_3_code 30 = .ok (.istore 6, 2) := by decide +kernel
theorem d_M_feed_32 : decode prog_11_method_3_code 32 = .ok (.iload 6, 2) := by decide +kernel
theorem d_M_feed_34 : decode prog_11_method_3_code 34 = .ok (.bipush 20, 2) := by decide +kernel
theorem d_M_feed_36 : decode prog_11_method_3_code 36 = .ok (.if_icmp .ge 83, 3) := by decide +kernel
theorem d_M_feed_39 : decode prog_11_method_3_code 39 = .ok (.iload 6, 2) := by decide +kernel
theorem d_M_feed_41 : decode prog_11_method_3_code 41 = .ok (.iconst 4, 1) := by decide +kernel
theorem d_M_feed_42 : decode prog_11_method_3_code 42 = .ok (.if_icmp .ge 7, 3) := by decide +kernel
theorem d_M_feed_45 : decode prog_11_method_3_code 45 = .ok (.iload_n 1, 1) := by decide +kernel
theorem d_M_feed_46 : decode prog_11_method_3_code 46 = .ok (.goto 39, 3) := by decide +kernel
theorem d_M_feed_49 : decode prog_11_method_3_code 49 = .ok (.iload 6, 2) := by decide +kernel
theorem d_M_feed_51 : decode prog_11_method_3_code 51 = .ok (.bipush 8, 2) := by decide +kernel
theorem d_M_feed_53 : decode prog_11_method_3_code 53 = .ok (.if_icmp .ge 7, 3) := by decide +kernel
theorem d_M_feed_56 : decode prog_11_method_3_code 56 = .ok (.iload_n 2, 1) := by decide +kernel
theorem d_M_feed_57 : decode prog_11_method_3_code 57 = .ok (.goto 28, 3) := by decide +kernel
theorem d_M_feed_60 : decode prog_11_method_3_code 60 = .ok (.iload 6, 2) := by decide +kernel
theorem d_M_feed_62 : decode prog_11_method_3_code 62 = .ok (.bipush 12, 2) := by decide +kernel
theorem d_M_feed_64 : decode prog_11_method_3_code 64 = .ok (.if_icmp .ge 7, 3) := by decide +kernel
theorem d_M_feed_67 : decode prog_11_method_3_code 67 = .ok (.iload_n 3, 1) := by decide +kernel
theorem d_M_feed_68 : decode prog_11_method_3_code 68 = .ok (.goto 17, 3) := by decide +kernel
theorem d_M_feed_71 : decode prog_11_method_3_code 71 = .ok (.iload 6, 2) := by decide +kernel
theorem d_M_feed_73 : decode prog_11_method_3_code 73 = .ok (.bipush 16, 2) := by decide +kernel
theorem d_M_feed_75 : decode prog_11_method_3_code 75 = .ok (.if_icmp .ge 8, 3) := by decide +kernel
theorem d_M_feed_78 : decode prog_11_method_3_code 78 = .ok (.iload 4, 2) := by decide +kernel
theorem d_M_feed_80 : decode prog_11_method_3_code 80 = .ok (.goto 5, 3) := by decide +kernel
theorem d_M_feed_83 : decode prog_11_method_3_code 83 = .ok (.iload 5, 2) := by decide +kernel
theorem d_M_feed_85 : decode prog_11_method_3_code 85 = .ok (.istore 7, 2) := by decide +kernel
theorem d_M_feed_87 : decode prog_11_method_3_code 87 = .ok (.aload_n 0, 1) := by decide +kernel
theorem d_M_feed_88 : decode prog_11_method_3_code 88 = .ok (.getfield 8, 3) := by decide +kernel
theorem d_M_feed_91 : decode prog_11_method_3_code 91 = .ok (.aload_n 0, 1) := by decide +kernel
theorem d_M_feed_92 : decode prog_11_method_3_code 92 = .ok (.getfield 72, 3) := by decide +kernel
theorem d_M_feed_95 : decode prog_11_method_3_code 95 = .ok (.iload 6, 2) := by decide +kernel
theorem d_M_feed_97 : decode prog_11_method_3_code 97 = .ok (.iadd, 1) := by decide +kernel
theorem d_M_feed_98 : decode prog_11_method_3_code 98 = .ok (.iload 7, 2) := by decide +kernel
theorem d_M_feed_100 : decode prog_11_method_3_code 100 = .ok (.bipush 24, 2) := by decide +kernel
theorem d_M_feed_102 : decode prog_11_method_3_code 102 = .ok (.bipush 8, 2) := by decide +kernel
theorem d_M_feed_104 : decode prog_11_method_3_code 104 = .ok (.iload 6, 2) := by decide +kernel
theorem d_M_feed_106 : decode prog_11_method_3_code 106 = .ok (.iconst 4, 1) := by decide +kernel
theorem d_M_feed_107 : decode prog_11_method_3_code 107 = .ok (.irem, 1) := by decide +kernel
theorem d_M_feed_108 : decode prog_11_method_3_code 108 = .ok (.imul, 1) := by decide +kernel
theorem d_M_feed_109 : decode prog_11_method_3_code 109 = .ok (.isub, 1) := by decide +kernel
theorem d_M_feed_110 : decode prog_11_method_3_code 110 = .ok (.ishr, 1) := by decide +kernel
theorem d_M_feed_111 : decode prog_11_method_3_code 111 = .ok (.i2b, 1) := by decide +kernel
theorem d_M_feed_112 : decode prog_11_method_3_code 112 = .ok (.bastore, 1) := by decide +kernel
theorem d_M_feed_113 : decode prog_11_method_3_code 113 = .ok (.iinc 6 1, 3) := by decide +kernel
theorem d_M_feed_116 : decode prog_11_method_3_code 116 = .ok (.goto (-84), 3) := by decide +kernel
theorem d_M_feed_119 : decode prog_11_method_3_code 119 = .ok (.aload_n 0, 1) := by decide +kernel
theorem d_M_feed_120 : decode prog_11_method_3_code 120 = .ok (.dup, 1) := by decide +kernel
theorem d_M_feed_121 : decode prog_11_method_3_code 121 = .ok (.getfield 72, 3) := by decide +kernel
theorem d_M_feed_124 : decode prog_11_method_3_code 124 = .ok (.bipush 20, 2) := by decide +kernel
theorem d_M_feed_126 : decode prog_11_method_3_code 126 = .ok (.iadd, 1) := by decide +kernel
theorem d_M_feed_127 : decode prog_11_method_3_code 127 = .ok (.putfield 72, 3) := by decide +kernel
theorem d_M_feed_130 : decode prog_11_method_3_code 130 = .ok (.return_, 1) := by decide +kernel
theorem d_M_end_0 : decode prog_11_method_4_code 0 = .ok (.aload_n 0, 1) := by decide +kernel
theorem d_M_end_1 : decode prog_11_method_4_code 1 = .ok (.iload_n 1, 1) := by decide +kernel
theorem d_M_end_2 : decode prog_11_method_4_code 2 = .ok (.ifCond .lt 11, 3) := by decide +kernel
theorem d_M_end_5 : decode prog_11_method_4_code 5 = .ok (.iload_n 1, 1) := by decide +kernel
theorem d_M_end_6 : decode prog_11_method_4_code 6 = .ok (.aload_n 0, 1) := by decide +kernel
theorem d_M_end_7 : decode prog_11_method_4_code 7 = .ok (.getfield 72, 3) := by decide +kernel
theorem d_M_end_10 : decode prog_11_method_4_code 10 = .ok (.if_icmp .le 7, 3) := by decide +kernel
theorem d_M_end_13 : decode prog_11_method_4_code 13 = .ok (.iconst 1, 1) := by decide +kernel
theorem d_M_end_14 : decode prog_11_method_4_code 14 = .ok (.goto 4, 3) := by decide +kernel
theorem d_M_end_17 : decode prog_11_method_4_code 17 = .ok (.iconst 0, 1) := by decide +kernel
theorem d_M_end_18 : decode prog_11_method_4_code 18 = .ok (.putfield 69, 3) := by decide +kernel
theorem d_M_end_21 : decode prog_11_method_4_code 21 = .ok (.aload_n 0, 1) := by decide +kernel
theorem d_M_end_22 : decode prog_11_method_4_code 22 = .ok (.getfield 69, 3) := by decide +kernel
theorem d_M_end_25 : decode prog_11_method_4_code 25 = .ok (.ifCond .ne 8, 3) := by decide +kernel
theorem d_M_end_28 : decode prog_11_method_4_code 28 = .ok (.aload_n 0, 1) := by decide +kernel
theorem d_M_end_29 : decode prog_11_method_4_code 29 = .ok (.iload_n 1, 1) := by decide +kernel
theorem d_M_end_30 : decode prog_11_method_4_code 30 = .ok (.putfield 72, 3) := by decide +kernel
theorem d_M_end_33 : decode prog_11_method_4_code 33 = .ok (.return_, 1) := by decide +kernel
theorem d_M_alter_0 : decode prog_11_method_5_code 0 = .ok (.aload_n 0, 1) := by decide +kernel
theorem d_M_alter_1 : decode prog_11_method_5_code 1 = .ok (.iload_n 1, 1) := by decide +kernel
theorem d_M_alter_2 : decode prog_11_method_5_code 2 = .ok (.ifCond .lt 11, 3) := by decide +kernel
theorem d_M_alter_5 : decode prog_11_method_5_code 5 = .ok (.iload_n 1, 1) := by decide +kernel
theorem d_M_alter_6 : decode prog_11_method_5_code 6 = .ok (.aload_n 0, 1) := by decide +kernel
theorem d_M_alter_7 : decode prog_11_method_5_code 7 = .ok (.getfield 72, 3) := by decide +kernel
theorem d_M_alter_10 : decode prog_11_method_5_code 10 = .ok (.if_icmp .lt 7, 3) := by decide +kernel
theorem d_M_alter_13 : decode prog_11_method_5_code 13 = .ok (.iconst 1, 1) := by decide +kernel
theorem d_M_alter_14 : decode prog_11_method_5_code 14 = .ok (.goto 19, 3) := by decide +kernel
theorem d_M_alter_17 : decode prog_11_method_5_code 17 = .ok (.iload_n 2, 1) := by decide +kernel
theorem d_M_alter_18 : decode prog_11_method_5_code 18 = .ok (.ifCond .lt 10, 3) := by decide +kernel
theorem d_M_alter_21 : decode prog_11_method_5_code 21 = .ok (.iload_n 2, 1) := by decide +kernel
theorem d_M_alter_22 : decode prog_11_method_5_code 22 = .ok (.sipush 255, 3) := by decide +kernel
theorem d_M_alter_25 : decode prog_11_method_5_code 25 = .ok (.if_icmp .le 7, 3) := by decide +kernel
theorem d_M_alter_28 : decode prog_11_method_5_code 28 = .ok (.iconst 2, 1) := by decide +kernel
theorem d_M_alter_29 : decode prog_11_method_5_code 29 = .ok (.goto 4, 3) := by decide +kernel
theorem d_M_alter_32 : decode prog_11_method_5_code 32 = .ok (.iconst 0, 1) := by decide +kernel
theorem d_M_alter_33 : decode prog_11_method_5_code 33 = .ok (.putfield 69, 3) := by decide +kernel
theorem d_M_alter_36 : decode prog_11_method_5_code 36 = .ok (.aload_n 0, 1) := by decide +kernel
theorem d_M_alter_37 : decode prog_11_method_5_code 37 = .ok (.getfield 69, 3) := by decide +kernel
theorem d_M_alter_40 : decode prog_11_method_5_code 40 = .ok (.ifCond .ne 11, 3) := by decide +kernel
theorem d_M_alter_43 : decode prog_11_method_5_code 43 = .ok (.aload_n 0, 1) := by decide +kernel
theorem d_M_alter_44 : decode prog_11_method_5_code 44 = .ok (.getfield 8, 3) := by decide +kernel
theorem d_M_alter_47 : decode prog_11_method_5_code 47 = .ok (.iload_n 1, 1) := by decide +kernel
theorem d_M_alter_48 : decode prog_11_method_5_code 48 = .ok (.iload_n 2, 1) := by decide +kernel
theorem d_M_alter_49 : decode prog_11_method_5_code 49 = .ok (.i2b, 1) := by decide +kernel
theorem d_M_alter_50 : decode prog_11_method_5_code 50 = .ok (.bastore, 1) := by decide +kernel
theorem d_M_alter_51 : decode prog_11_method_5_code 51 = .ok (.return_, 1) := by decide +kernel
theorem d_M_length_0 : decode prog_11_method_6_code 0 = .ok (.aload_n 0, 1) := by decide +kernel
theorem d_M_length_1 : decode prog_11_method_6_code 1 = .ok (.iconst 0, 1) := by decide +kernel
theorem d_M_length_2 : decode prog_11_method_6_code 2 = .ok (.putfield 69, 3) := by decide +kernel
theorem d_M_length_5 : decode prog_11_method_6_code 5 = .ok (.aload_n 0, 1) := by decide +kernel
theorem d_M_length_6 : decode prog_11_method_6_code 6 = .ok (.getfield 72, 3) := by decide +kernel
theorem d_M_length_9 : decode prog_11_method_6_code 9 = .ok (.ireturn, 1) := by decide +kernel
theorem d_M_byteAt_0 : decode prog_11_method_7_code 0 = .ok (.aload_n 0, 1) := by decide +kernel
theorem d_M_byteAt_1 : decode prog_11_method_7_code 1 = .ok (.iload_n 1, 1) := by decide +kernel
theorem d_M_byteAt_2 : decode prog_11_method_7_code 2 = .ok (.ifCond .lt 11, 3) := by decide +kernel
theorem d_M_byteAt_5 : decode prog_11_method_7_code 5 = .ok (.iload_n 1, 1) := by decide +kernel
theorem d_M_byteAt_6 : decode prog_11_method_7_code 6 = .ok (.aload_n 0, 1) := by decide +kernel
theorem d_M_byteAt_7 : decode prog_11_method_7_code 7 = .ok (.getfield 72, 3) := by decide +kernel
theorem d_M_byteAt_10 : decode prog_11_method_7_code 10 = .ok (.if_icmp .lt 7, 3) := by decide +kernel
theorem d_M_byteAt_13 : decode prog_11_method_7_code 13 = .ok (.iconst 1, 1) := by decide +kernel
theorem d_M_byteAt_14 : decode prog_11_method_7_code 14 = .ok (.goto 4, 3) := by decide +kernel
theorem d_M_byteAt_17 : decode prog_11_method_7_code 17 = .ok (.iconst 0, 1) := by decide +kernel
theorem d_M_byteAt_18 : decode prog_11_method_7_code 18 = .ok (.putfield 69, 3) := by decide +kernel
theorem d_M_byteAt_21 : decode prog_11_method_7_code 21 = .ok (.aload_n 0, 1) := by decide +kernel
theorem d_M_byteAt_22 : decode prog_11_method_7_code 22 = .ok (.getfield 69, 3) := by decide +kernel
theorem d_M_byteAt_25 : decode prog_11_method_7_code 25 = .ok (.ifCond .le 7, 3) := by decide +kernel
theorem d_M_byteAt_28 : decode prog_11_method_7_code 28 = .ok (.iconst 0, 1) := by decide +kernel
theorem d_M_byteAt_29 : decode prog_11_method_7_code 29 = .ok (.goto 13, 3) := by decide +kernel
theorem d_M_byteAt_32 : decode prog_11_method_7_code 32 = .ok (.aload_n 0, 1) := by decide +kernel
theorem d_M_byteAt_33 : decode prog_11_method_7_code 33 = .ok (.getfield 8, 3) := by decide +kernel
theorem d_M_byteAt_36 : decode prog_11_method_7_code 36 = .ok (.iload_n 1, 1) := by decide +kernel
theorem d_M_byteAt_37 : decode prog_11_method_7_code 37 = .ok (.baload, 1) := by decide +kernel
theorem d_M_byteAt_38 : decode prog_11_method_7_code 38 = .ok (.sipush 255, 3) := by decide +kernel
theorem d_M_byteAt_41 : decode prog_11_method_7_code 41 = .ok (.iand, 1) := by decide +kernel
theorem d_M_byteAt_42 : decode prog_11_method_7_code 42 = .ok (.ireturn, 1) := by decide +kernel
theorem d_M_type_0 : decode prog_11_method_8_code 0 = .ok (.iconst 0, 1) := by decide +kernel
theorem d_M_type_1 : decode prog_11_method_8_code 1 = .ok (.istore_n 2, 1) := by decide +kernel
theorem d_M_type_2 : decode prog_11_method_8_code 2 = .ok (.iconst 0, 1) := by decide +kernel
theorem d_M_type_3 : decode prog_11_method_8_code 3 = .ok (.istore_n 3, 1) := by decide +kernel
theorem d_M_type_4 : decode prog_11_method_8_code 4 = .ok (.bipush 24, 2) := by decide +kernel
theorem d_M_type_6 : decode prog_11_method_8_code 6 = .ok (.istore 4, 2) := by decide +kernel
theorem d_M_type_8 : decode prog_11_method_8_code 8 = .ok (.iload 4, 2) := by decide +kernel
theorem d_M_type_10 : decode prog_11_method_8_code 10 = .ok (.ifCond .lt 61, 3) := by decide +kernel
theorem d_M_type_13 : decode prog_11_method_8_code 13 = .ok (.iload_n 1, 1) := by decide +kernel
theorem d_M_type_14 : decode prog_11_method_8_code 14 = .ok (.iload 4, 2) := by decide +kernel
theorem d_M_type_16 : decode prog_11_method_8_code 16 = .ok (.ishr, 1) := by decide +kernel
theorem d_M_type_17 : decode prog_11_method_8_code 17 = .ok (.sipush 255, 3) := by decide +kernel
theorem d_M_type_20 : decode prog_11_method_8_code 20 = .ok (.iand, 1) := by decide +kernel
theorem d_M_type_21 : decode prog_11_method_8_code 21 = .ok (.istore 5, 2) := by decide +kernel
theorem d_M_type_23 : decode prog_11_method_8_code 23 = .ok (.iload 5, 2) := by decide +kernel
theorem d_M_type_25 : decode prog_11_method_8_code 25 = .ok (.ifCond .le 9, 3) := by decide +kernel
theorem d_M_type_28 : decode prog_11_method_8_code 28 = .ok (.iload_n 2, 1) := by decide +kernel
theorem d_M_type_29 : decode prog_11_method_8_code 29 = .ok (.iconst 1, 1) := by decide +kernel
theorem d_M_type_30 : decode prog_11_method_8_code 30 = .ok (.iadd, 1) := by decide +kernel
theorem d_M_type_31 : decode prog_11_method_8_code 31 = .ok (.goto 4, 3) := by decide +kernel
theorem d_M_type_34 : decode prog_11_method_8_code 34 = .ok (.iload_n 2, 1) := by decide +kernel
theorem d_M_type_35 : decode prog_11_method_8_code 35 = .ok (.istore_n 2, 1) := by decide +kernel
theorem d_M_type_36 : decode prog_11_method_8_code 36 = .ok (.iload_n 3, 1) := by decide +kernel
theorem d_M_type_37 : decode prog_11_method_8_code 37 = .ok (.ifCond .ne 22, 3) := by decide +kernel
theorem d_M_type_40 : decode prog_11_method_8_code 40 = .ok (.iload 5, 2) := by decide +kernel
theorem d_M_type_42 : decode prog_11_method_8_code 42 = .ok (.ifCond .le 21, 3) := by decide +kernel
theorem d_M_type_45 : decode prog_11_method_8_code 45 = .ok (.iload 5, 2) := by decide +kernel
theorem d_M_type_47 : decode prog_11_method_8_code 47 = .ok (.bipush 33, 2) := by decide +kernel
theorem d_M_type_49 : decode prog_11_method_8_code 49 = .ok (.if_icmp .lt 10, 3) := by decide +kernel
theorem d_M_type_52 : decode prog_11_method_8_code 52 = .ok (.iload 5, 2) := by decide +kernel
theorem d_M_type_54 : decode prog_11_method_8_code 54 = .ok (.bipush 126, 2) := by decide +kernel
theorem d_M_type_56 : decode prog_11_method_8_code 56 = .ok (.if_icmp .le 7, 3) := by decide +kernel
theorem d_M_type_59 : decode prog_11_method_8_code 59 = .ok (.iconst 1, 1) := by decide +kernel
theorem d_M_type_60 : decode prog_11_method_8_code 60 = .ok (.goto 4, 3) := by decide +kernel
theorem d_M_type_63 : decode prog_11_method_8_code 63 = .ok (.iconst 0, 1) := by decide +kernel
theorem d_M_type_64 : decode prog_11_method_8_code 64 = .ok (.istore_n 3, 1) := by decide +kernel
theorem d_M_type_65 : decode prog_11_method_8_code 65 = .ok (.iinc 4 (-8), 3) := by decide +kernel
theorem d_M_type_68 : decode prog_11_method_8_code 68 = .ok (.goto (-60), 3) := by decide +kernel
theorem d_M_type_71 : decode prog_11_method_8_code 71 = .ok (.aload_n 0, 1) := by decide +kernel
theorem d_M_type_72 : decode prog_11_method_8_code 72 = .ok (.iload_n 3, 1) := by decide +kernel
theorem d_M_type_73 : decode prog_11_method_8_code 73 = .ok (.ifCond .eq 7, 3) := by decide +kernel
theorem d_M_type_76 : decode prog_11_method_8_code 76 = .ok (.iconst 1, 1) := by decide +kernel
theorem d_M_type_77 : decode prog_11_method_8_code 77 = .ok (.goto 19, 3) := by decide +kernel
theorem d_M_type_80 : decode prog_11_method_8_code 80 = .ok (.aload_n 0, 1) := by decide +kernel
theorem d_M_type_81 : decode prog_11_method_8_code 81 = .ok (.getfield 75, 3) := by decide +kernel
theorem d_M_type_84 : decode prog_11_method_8_code 84 = .ok (.iload_n 2, 1) := by decide +kernel
theorem d_M_type_85 : decode prog_11_method_8_code 85 = .ok (.iadd, 1) := by decide +kernel
theorem d_M_type_86 : decode prog_11_method_8_code 86 = .ok (.bipush 64, 2) := by decide +kernel
theorem d_M_type_88 : decode prog_11_method_8_code 88 = .ok (.if_icmp .le 7, 3) := by decide +kernel
theorem d_M_type_91 : decode prog_11_method_8_code 91 = .ok (.iconst 2, 1) := by decide +kernel
theorem d_M_type_92 : decode prog_11_method_8_code 92 = .ok (.goto 4, 3) := by decide +kernel
theorem d_M_type_95 : decode prog_11_method_8_code 95 = .ok (.iconst 0, 1) := by decide +kernel
theorem d_M_type_96 : decode prog_11_method_8_code 96 = .ok (.putfield 69, 3) := by decide +kernel
theorem d_M_type_99 : decode prog_11_method_8_code 99 = .ok (.aload_n 0, 1) := by decide +kernel
theorem d_M_type_100 : decode prog_11_method_8_code 100 = .ok (.getfield 69, 3) := by decide +kernel
theorem d_M_type_103 : decode prog_11_method_8_code 103 = .ok (.ifCond .le 5, 3) := by decide +kernel
theorem d_M_type_106 : decode prog_11_method_8_code 106 = .ok (.iconst 0, 1) := by decide +kernel
theorem d_M_type_107 : decode prog_11_method_8_code 107 = .ok (.ireturn, 1) := by decide +kernel
theorem d_M_type_108 : decode prog_11_method_8_code 108 = .ok (.bipush 24, 2) := by decide +kernel
theorem d_M_type_110 : decode prog_11_method_8_code 110 = .ok (.istore 4, 2) := by decide +kernel
theorem d_M_type_112 : decode prog_11_method_8_code 112 = .ok (.iload 4, 2) := by decide +kernel
theorem d_M_type_114 : decode prog_11_method_8_code 114 = .ok (.ifCond .lt 45, 3) := by decide +kernel
theorem d_M_type_117 : decode prog_11_method_8_code 117 = .ok (.iload_n 1, 1) := by decide +kernel
theorem d_M_type_118 : decode prog_11_method_8_code 118 = .ok (.iload 4, 2) := by decide +kernel
theorem d_M_type_120 : decode prog_11_method_8_code 120 = .ok (.ishr, 1) := by decide +kernel
theorem d_M_type_121 : decode prog_11_method_8_code 121 = .ok (.sipush 255, 3) := by decide +kernel
theorem d_M_type_124 : decode prog_11_method_8_code 124 = .ok (.iand, 1) := by decide +kernel
theorem d_M_type_125 : decode prog_11_method_8_code 125 = .ok (.istore 5, 2) := by decide +kernel
theorem d_M_type_127 : decode prog_11_method_8_code 127 = .ok (.iload 5, 2) := by decide +kernel
theorem d_M_type_129 : decode prog_11_method_8_code 129 = .ok (.ifCond .le 24, 3) := by decide +kernel
theorem d_M_type_132 : decode prog_11_method_8_code 132 = .ok (.aload_n 0, 1) := by decide +kernel
theorem d_M_type_133 : decode prog_11_method_8_code 133 = .ok (.getfield 14, 3) := by decide +kernel
theorem d_M_type_136 : decode prog_11_method_8_code 136 = .ok (.aload_n 0, 1) := by decide +kernel
theorem d_M_type_137 : decode prog_11_method_8_code 137 = .ok (.getfield 75, 3) := by decide +kernel
theorem d_M_type_140 : decode prog_11_method_8_code 140 = .ok (.iload 5, 2) := by decide +kernel
theorem d_M_type_142 : decode prog_11_method_8_code 142 = .ok (.iastore, 1) := by decide +kernel
theorem d_M_type_143 : decode prog_11_method_8_code 143 = .ok (.aload_n 0, 1) := by decide +kernel
theorem d_M_type_144 : decode prog_11_method_8_code 144 = .ok (.dup, 1) := by decide +kernel
theorem d_M_type_145 : decode prog_11_method_8_code 145 = .ok (.getfield 75, 3) := by decide +kernel
theorem d_M_type_148 : decode prog_11_method_8_code 148 = .ok (.iconst 1, 1) := by decide +kernel
theorem d_M_type_149 : decode prog_11_method_8_code 149 = .ok (.iadd, 1) := by decide +kernel
theorem d_M_type_150 : decode prog_11_method_8_code 150 = .ok (.putfield 75, 3) := by decide +kernel
theorem d_M_type_153 : decode prog_11_method_8_code 153 = .ok (.iinc 4 (-8), 3) := by decide +kernel
theorem d_M_type_156 : decode prog_11_method_8_code 156 = .ok (.goto (-44), 3) := by decide +kernel
theorem d_M_type_159 : decode prog_11_method_8_code 159 = .ok (.aload_n 0, 1) := by decide +kernel
theorem d_M_type_160 : decode prog_11_method_8_code 160 = .ok (.getfield 75, 3) := by decide +kernel
theorem d_M_type_163 : decode prog_11_method_8_code 163 = .ok (.ireturn, 1) := by decide +kernel
theorem d_M_erase_0 : decode prog_11_method_9_code 0 = .ok (.aload_n 0, 1) := by decide +kernel
theorem d_M_erase_1 : decode prog_11_method_9_code 1 = .ok (.iconst 0, 1) := by decide +kernel
theorem d_M_erase_2 : decode prog_11_method_9_code 2 = .ok (.putfield 69, 3) := by decide +kernel
theorem d_M_erase_5 : decode prog_11_method_9_code 5 = .ok (.aload_n 0, 1) := by decide +kernel
theorem d_M_erase_6 : decode prog_11_method_9_code 6 = .ok (.iconst 0, 1) := by decide +kernel
theorem d_M_erase_7 : decode prog_11_method_9_code 7 = .ok (.putfield 75, 3) := by decide +kernel
theorem d_M_erase_10 : decode prog_11_method_9_code 10 = .ok (.return_, 1) := by decide +kernel
theorem d_M_small_0 : decode prog_11_method_10_code 0 = .ok (.iload_n 0, 1) := by decide +kernel
theorem d_M_small_1 : decode prog_11_method_10_code 1 = .ok (.bipush 65, 2) := by decide +kernel
theorem d_M_small_3 : decode prog_11_method_10_code 3 = .ok (.if_icmp .lt 16, 3) := by decide +kernel
theorem d_M_small_6 : decode prog_11_method_10_code 6 = .ok (.iload_n 0, 1) := by decide +kernel
theorem d_M_small_7 : decode prog_11_method_10_code 7 = .ok (.bipush 90, 2) := by decide +kernel
theorem d_M_small_9 : decode prog_11_method_10_code 9 = .ok (.if_icmp .gt 10, 3) := by decide +kernel
theorem d_M_small_12 : decode prog_11_method_10_code 12 = .ok (.iload_n 0, 1) := by decide +kernel
theorem d_M_small_13 : decode prog_11_method_10_code 13 = .ok (.bipush 32, 2) := by decide +kernel
theorem d_M_small_15 : decode prog_11_method_10_code 15 = .ok (.iadd, 1) := by decide +kernel
theorem d_M_small_16 : decode prog_11_method_10_code 16 = .ok (.goto 4, 3) := by decide +kernel
theorem d_M_small_19 : decode prog_11_method_10_code 19 = .ok (.iload_n 0, 1) := by decide +kernel
theorem d_M_small_20 : decode prog_11_method_10_code 20 = .ok (.ireturn, 1) := by decide +kernel
theorem d_M_nameAt_0 : decode prog_11_method_11_code 0 = .ok (.iload_n 1, 1) := by decide +kernel
theorem d_M_nameAt_1 : decode prog_11_method_11_code 1 = .ok (.ifCond .ge 12, 3) := by decide +kernel
theorem d_M_nameAt_4 : decode prog_11_method_11_code 4 = .ok (.aload_n 0, 1) := by decide +kernel
theorem d_M_nameAt_5 : decode prog_11_method_11_code 5 = .ok (.getfield 14, 3) := by decide +kernel
theorem d_M_nameAt_8 : decode prog_11_method_11_code 8 = .ok (.iload_n 2, 1) := by decide +kernel
theorem d_M_nameAt_9 : decode prog_11_method_11_code 9 = .ok (.iaload, 1) := by decide +kernel
theorem d_M_nameAt_10 : decode prog_11_method_11_code 10 = .ok (.goto 15, 3) := by decide +kernel
theorem d_M_nameAt_13 : decode prog_11_method_11_code 13 = .ok (.aload_n 0, 1) := by decide +kernel
theorem d_M_nameAt_14 : decode prog_11_method_11_code 14 = .ok (.getfield 8, 3) := by decide +kernel
theorem d_M_nameAt_17 : decode prog_11_method_11_code 17 = .ok (.iload_n 1, 1) := by decide +kernel
theorem d_M_nameAt_18 : decode prog_11_method_11_code 18 = .ok (.iload_n 2, 1) := by decide +kernel
theorem d_M_nameAt_19 : decode prog_11_method_11_code 19 = .ok (.iadd, 1) := by decide +kernel
theorem d_M_nameAt_20 : decode prog_11_method_11_code 20 = .ok (.baload, 1) := by decide +kernel
theorem d_M_nameAt_21 : decode prog_11_method_11_code 21 = .ok (.sipush 255, 3) := by decide +kernel
theorem d_M_nameAt_24 : decode prog_11_method_11_code 24 = .ok (.iand, 1) := by decide +kernel
theorem d_M_nameAt_25 : decode prog_11_method_11_code 25 = .ok (.ireturn, 1) := by decide +kernel
theorem d_M_isName_0 : decode prog_11_method_12_code 0 = .ok (.iload_n 2, 1) := by decide +kernel
theorem d_M_isName_1 : decode prog_11_method_12_code 1 = .ok (.iconst 1, 1) := by decide +kernel
theorem d_M_isName_2 : decode prog_11_method_12_code 2 = .ok (.if_icmp .lt 9, 3) := by decide +kernel
theorem d_M_isName_5 : decode prog_11_method_12_code 5 = .ok (.iload_n 2, 1) := by decide +kernel
theorem d_M_isName_6 : decode prog_11_method_12_code 6 = .ok (.bipush 64, 2) := by decide +kernel
theorem d_M_isName_8 : decode prog_11_method_12_code 8 = .ok (.if_icmp .le 5, 3) := by decide +kernel
theorem d_M_isName_11 : decode prog_11_method_12_code 11 = .ok (.iconst 0, 1) := by decide +kernel
theorem d_M_isName_12 : decode prog_11_method_12_code 12 = .ok (.ireturn, 1) := by decide +kernel
theorem d_M_isName_13 : decode prog_11_method_12_code 13 = .ok (.iconst 1, 1) := by decide +kernel
theorem d_M_isName_14 : decode prog_11_method_12_code 14 = .ok (.istore_n 3, 1) := by decide +kernel
theorem d_M_isName_15 : decode prog_11_method_12_code 15 = .ok (.iconst 0, 1) := by decide +kernel
theorem d_M_isName_16 : decode prog_11_method_12_code 16 = .ok (.istore 4, 2) := by decide +kernel
theorem d_M_isName_18 : decode prog_11_method_12_code 18 = .ok (.iconst 0, 1) := by decide +kernel
theorem d_M_isName_19 : decode prog_11_method_12_code 19 = .ok (.istore 5, 2) := by decide +kernel
theorem d_M_isName_21 : decode prog_11_method_12_code 21 = .ok (.iconst 0, 1) := by decide +kernel
theorem d_M_isName_22 : decode prog_11_method_12_code 22 = .ok (.istore 6, 2) := by decide +kernel
theorem d_M_isName_24 : decode prog_11_method_12_code 24 = .ok (.iload 6, 2) := by decide +kernel
theorem d_M_isName_26 : decode prog_11_method_12_code 26 = .ok (.iload_n 2, 1) := by decide +kernel
theorem d_M_isName_27 : decode prog_11_method_12_code 27 = .ok (.if_icmp .gt 125, 3) := by decide +kernel
theorem d_M_isName_30 : decode prog_11_method_12_code 30 = .ok (.iload 6, 2) := by decide +kernel
theorem d_M_isName_32 : decode prog_11_method_12_code 32 = .ok (.iload_n 2, 1) := by decide +kernel
theorem d_M_isName_33 : decode prog_11_method_12_code 33 = .ok (.if_icmp .ge 13, 3) := by decide +kernel
theorem d_M_isName_36 : decode prog_11_method_12_code 36 = .ok (.aload_n 0, 1) := by decide +kernel
theorem d_M_isName_37 : decode prog_11_method_12_code 37 = .ok (.iload_n 1, 1) := by decide +kernel
theorem d_M_isName_38 : decode prog_11_method_12_code 38 = .ok (.iload 6, 2) := by decide +kernel
theorem d_M_isName_40 : decode prog_11_method_12_code 40 = .ok (.invokevirtual 78, 3) := by decide +kernel
theorem d_M_isName_43 : decode prog_11_method_12_code 43 = .ok (.goto 5, 3) := by decide +kernel
theorem d_M_isName_46 : decode prog_11_method_12_code 46 = .ok (.bipush 47, 2) := by decide +kernel
theorem d_M_isName_48 : decode prog_11_method_12_code 48 = .ok (.istore 7, 2) := by decide +kernel
theorem d_M_isName_50 : decode prog_11_method_12_code 50 = .ok (.iload_n 3, 1) := by decide +kernel
theorem d_M_isName_51 : decode prog_11_method_12_code 51 = .ok (.ifCond .eq 28, 3) := by decide +kernel
theorem d_M_isName_54 : decode prog_11_method_12_code 54 = .ok (.iload 7, 2) := by decide +kernel
theorem d_M_isName_56 : decode prog_11_method_12_code 56 = .ok (.bipush 33, 2) := by decide +kernel
theorem d_M_isName_58 : decode prog_11_method_12_code 58 = .ok (.if_icmp .lt 21, 3) := by decide +kernel
theorem d_M_isName_61 : decode prog_11_method_12_code 61 = .ok (.iload 7, 2) := by decide +kernel
theorem d_M_isName_63 : decode prog_11_method_12_code 63 = .ok (.bipush 126, 2) := by decide +kernel
theorem d_M_isName_65 : decode prog_11_method_12_code 65 = .ok (.if_icmp .gt 14, 3) := by decide +kernel
theorem d_M_isName_68 : decode prog_11_method_12_code 68 = .ok (.iload 7, 2) := by decide +kernel
theorem d_M_isName_70 : decode prog_11_method_12_code 70 = .ok (.bipush 92, 2) := by decide +kernel
theorem d_M_isName_72 : decode prog_11_method_12_code 72 = .ok (.if_icmp .eq 7, 3) := by decide +kernel
theorem d_M_isName_75 : decode prog_11_method_12_code 75 = .ok (.iconst 1, 1) := by decide +kernel
theorem d_M_isName_76 : decode prog_11_method_12_code 76 = .ok (.goto 4, 3) := by decide +kernel
theorem d_M_isName_79 : decode prog_11_method_12_code 79 = .ok (.iconst 0, 1) := by decide +kernel
theorem d_M_isName_80 : decode prog_11_method_12_code 80 = .ok (.istore_n 3, 1) := by decide +kernel
theorem d_M_isName_81 : decode prog_11_method_12_code 81 = .ok (.iload 7, 2) := by decide +kernel
theorem d_M_isName_83 : decode prog_11_method_12_code 83 = .ok (.bipush 47, 2) := by decide +kernel
theorem d_M_isName_85 : decode prog_11_method_12_code 85 = .ok (.if_icmp .ne 40, 3) := by decide +kernel
theorem d_M_isName_88 : decode prog_11_method_12_code 88 = .ok (.iload_n 3, 1) := by decide +kernel
theorem d_M_isName_89 : decode prog_11_method_12_code 89 = .ok (.ifCond .eq 25, 3) := by decide +kernel
theorem d_M_isName_92 : decode prog_11_method_12_code 92 = .ok (.iload 4, 2) := by decide +kernel
theorem d_M_isName_94 : decode prog_11_method_12_code 94 = .ok (.ifCond .le 20, 3) := by decide +kernel
theorem d_M_isName_97 : decode prog_11_method_12_code 97 = .ok (.iload 4, 2) := by decide +kernel
theorem d_M_isName_99 : decode prog_11_method_12_code 99 = .ok (.iconst 3, 1) := by decide +kernel
theorem d_M_isName_100 : decode prog_11_method_12_code 100 = .ok (.if_icmp .ge 10, 3) := by decide +kernel
theorem d_M_isName_103 : decode prog_11_method_12_code 103 = .ok (.iload 5, 2) := by decide +kernel
theorem d_M_isName_105 : decode prog_11_method_12_code 105 = .ok (.iload 4, 2) := by decide +kernel
theorem d_M_isName_107 : decode prog_11_method_12_code 107 = .ok (.if_icmp .eq 7, 3) := by decide +kernel
theorem d_M_isName_110 : decode prog_11_method_12_code 110 = .ok (.iconst 1, 1) := by decide +kernel
theorem d_M_isName_111 : decode prog_11_method_12_code 111 = .ok (.goto 4, 3) := by decide +kernel
theorem d_M_isName_114 : decode prog_11_method_12_code 114 = .ok (.iconst 0, 1) := by decide +kernel
theorem d_M_isName_115 : decode prog_11_method_12_code 115 = .ok (.istore_n 3, 1) := by decide +kernel
theorem d_M_isName_116 : decode prog_11_method_12_code 116 = .ok (.iconst 0, 1) := by decide +kernel
theorem d_M_isName_117 : decode prog_11_method_12_code 117 = .ok (.istore 4, 2) := by decide +kernel
theorem d_M_isName_119 : decode prog_11_method_12_code 119 = .ok (.iconst 0, 1) := by decide +kernel
theorem d_M_isName_120 : decode prog_11_method_12_code 120 = .ok (.istore 5, 2) := by decide +kernel
theorem d_M_isName_122 : decode prog_11_method_12_code 122 = .ok (.goto 24, 3) := by decide +kernel
theorem d_M_isName_125 : decode prog_11_method_12_code 125 = .ok (.iinc 4 1, 3) := by decide +kernel
theorem d_M_isName_128 : decode prog_11_method_12_code 128 = .ok (.iload 7, 2) := by decide +kernel
theorem d_M_isName_130 : decode prog_11_method_12_code 130 = .ok (.bipush 46, 2) := by decide +kernel
theorem d_M_isName_132 : decode prog_11_method_12_code 132 = .ok (.if_icmp .ne 10, 3) := by decide +kernel
theorem d_M_isName_135 : decode prog_11_method_12_code 135 = .ok (.iload 5, 2) := by decide +kernel
theorem d_M_isName_137 : decode prog_11_method_12_code 137 = .ok (.iconst 1, 1) := by decide +kernel
theorem d_M_isName_138 : decode prog_11_method_12_code 138 = .ok (.iadd, 1) := by decide +kernel
theorem d_M_isName_139 : decode prog_11_method_12_code 139 = .ok (.goto 5, 3) := by decide +kernel
theorem d_M_isName_142 : decode prog_11_method_12_code 142 = .ok (.iload 5, 2) := by decide +kernel
theorem d_M_isName_144 : decode prog_11_method_12_code 144 = .ok (.istore 5, 2) := by decide +kernel
theorem d_M_isName_146 : decode prog_11_method_12_code 146 = .ok (.iinc 6 1, 3) := by decide +kernel
theorem d_M_isName_149 : decode prog_11_method_12_code 149 = .ok (.goto (-125), 3) := by decide +kernel
theorem d_M_isName_152 : decode prog_11_method_12_code 152 = .ok (.iload_n 3, 1) := by decide +kernel
theorem d_M_isName_153 : decode prog_11_method_12_code 153 = .ok (.ireturn, 1) := by decide +kernel
theorem d_M_findName_0 : decode prog_11_method_13_code 0 = .ok (.iconst 0, 1) := by decide +kernel
theorem d_M_findName_1 : decode prog_11_method_13_code 1 = .ok (.istore_n 1, 1) := by decide +kernel
theorem d_M_findName_2 : decode prog_11_method_13_code 2 = .ok (.iload_n 1, 1) := by decide +kernel
theorem d_M_findName_3 : decode prog_11_method_13_code 3 = .ok (.aload_n 0, 1) := by decide +kernel
theorem d_M_findName_4 : decode prog_11_method_13_code 4 = .ok (.getfield 82, 3) := by decide +kernel
theorem d_M_findName_7 : decode prog_11_method_13_code 7 = .ok (.if_icmp .ge 86, 3) := by decide +kernel
theorem d_M_findName_10 : decode prog_11_method_13_code 10 = .ok (.aload_n 0, 1) := by decide +kernel
theorem d_M_findName_11 : decode prog_11_method_13_code 11 = .ok (.getfield 21, 3) := by decide +kernel
theorem d_M_findName_14 : decode prog_11_method_13_code 14 = .ok (.iload_n 1, 1) := by decide +kernel
theorem d_M_findName_15 : decode prog_11_method_13_code 15 = .ok (.iaload, 1) := by decide +kernel
theorem d_M_findName_16 : decode prog_11_method_13_code 16 = .ok (.aload_n 0, 1) := by decide +kernel
theorem d_M_findName_17 : decode prog_11_method_13_code 17 = .ok (.getfield 75, 3) := by decide +kernel
theorem d_M_findName_20 : decode prog_11_method_13_code 20 = .ok (.if_icmp .ne 7, 3) := by decide +kernel
theorem d_M_findName_23 : decode prog_11_method_13_code 23 = .ok (.iconst 1, 1) := by decide +kernel
theorem d_M_findName_24 : decode prog_11_method_13_code 24 = .ok (.goto 4, 3) := by decide +kernel
theorem d_M_findName_27 : decode prog_11_method_13_code 27 = .ok (.iconst 0, 1) := by decide +kernel
theorem d_M_findName_28 : decode prog_11_method_13_code 28 = .ok (.istore_n 2, 1) := by decide +kernel
theorem d_M_findName_29 : decode prog_11_method_13_code 29 = .ok (.iconst 0, 1) := by decide +kernel
theorem d_M_findName_30 : decode prog_11_method_13_code 30 = .ok (.istore_n 3, 1) := by decide +kernel
theorem d_M_findName_31 : decode prog_11_method_13_code 31 = .ok (.iload_n 3, 1) := by decide +kernel
theorem d_M_findName_32 : decode prog_11_method_13_code 32 = .ok (.aload_n 0, 1) := by decide +kernel
theorem d_M_findName_33 : decode prog_11_method_13_code 33 = .ok (.getfield 75, 3) := by decide +kernel
theorem d_M_findName_36 : decode prog_11_method_13_code 36 = .ok (.if_icmp .ge 45, 3) := by decide +kernel
theorem d_M_findName_39 : decode prog_11_method_13_code 39 = .ok (.iload_n 2, 1) := by decide +kernel
theorem d_M_findName_40 : decode prog_11_method_13_code 40 = .ok (.ifCond .eq 41, 3) := by decide +kernel
theorem d_M_findName_43 : decode prog_11_method_13_code 43 = .ok (.aload_n 0, 1) := by decide +kernel
theorem d_M_findName_44 : decode prog_11_method_13_code 44 = .ok (.getfield 18, 3) := by decide +kernel
theorem d_M_findName_47 : decode prog_11_method_13_code 47 = .ok (.bipush 64, 2) := by decide +kernel
theorem d_M_findName_49 : decode prog_11_method_13_code 49 = .ok (.iload_n 1, 1) := by decide +kernel
theorem d_M_findName_50 : decode prog_11_method_13_code 50 = .ok (.imul, 1) := by decide +kernel
theorem d_M_findName_51 : decode prog_11_method_13_code 51 = .ok (.iload_n 3, 1) := by decide +kernel
theorem d_M_findName_52 : decode prog_11_method_13_code 52 = .ok (.iadd, 1) := by decide +kernel
theorem d_M_findName_53 : decode prog_11_method_13_code 53 = .ok (.iaload, 1) := by decide +kernel
theorem d_M_findName_54 : decode prog_11_method_13_code 54 = .ok (.invokestatic 85, 3) := by decide +kernel
theorem d_M_findName_57 : decode prog_11_method_13_code 57 = .ok (.aload_n 0, 1) := by decide +kernel
theorem d_M_findName_58 : decode prog_11_method_13_code 58 = .ok (.getfield 14, 3) := by decide +kernel
theorem d_M_findName_61 : decode prog_11_method_13_code 61 = .ok (.iload_n 3, 1) := by decide +kernel
theorem d_M_findName_62 : decode prog_11_method_13_code 62 = .ok (.iaload, 1) := by decide +kernel
theorem d_M_findName_63 : decode prog_11_method_13_code 63 = .ok (.invokestatic 85, 3) := by decide +kernel
theorem d_M_findName_66 : decode prog_11_method_13_code 66 = .ok (.if_icmp .ne 7, 3) := by decide +kernel
theorem d_M_findName_69 : decode prog_11_method_13_code 69 = .ok (.iconst 1, 1) := by decide +kernel
theorem d_M_findName_70 : decode prog_11_method_13_code 70 = .ok (.goto 4, 3) := by decide +kernel
theorem d_M_findName_73 : decode prog_11_method_13_code 73 = .ok (.iconst 0, 1) := by decide +kernel
theorem d_M_findName_74 : decode prog_11_method_13_code 74 = .ok (.istore_n 2, 1) := by decide +kernel
theorem d_M_findName_75 : decode prog_11_method_13_code 75 = .ok (.iinc 3 1, 3) := by decide +kernel
theorem d_M_findName_78 : decode prog_11_method_13_code 78 = .ok (.goto (-47), 3) := by decide +kernel
theorem d_M_findName_81 : decode prog_11_method_13_code 81 = .ok (.iload_n 2, 1) := by decide +kernel
theorem d_M_findName_82 : decode prog_11_method_13_code 82 = .ok (.ifCond .eq 5, 3) := by decide +kernel
theorem d_M_findName_85 : decode prog_11_method_13_code 85 = .ok (.iload_n 1, 1) := by decide +kernel
theorem d_M_findName_86 : decode prog_11_method_13_code 86 = .ok (.ireturn, 1) := by decide +kernel
theorem d_M_findName_87 : decode prog_11_method_13_code 87 = .ok (.iinc 1 1, 3) := by decide +kernel
theorem d_M_findName_90 : decode prog_11_method_13_code 90 = .ok (.goto (-88), 3) := by decide +kernel
theorem d_M_findName_93 : decode prog_11_method_13_code 93 = .ok (.iconst (-1), 1) := by decide +kernel
theorem d_M_findName_94 : decode prog_11_method_13_code 94 = .ok (.ireturn, 1) := by decide +kernel
theorem d_M_checkOf_0 : decode prog_11_method_14_code 0 = .ok (.iconst (-1), 1) := by decide +kernel
theorem d_M_checkOf_1 : decode prog_11_method_14_code 1 = .ok (.istore_n 3, 1) := by decide +kernel
theorem d_M_checkOf_2 : decode prog_11_method_14_code 2 = .ok (.iload_n 1, 1) := by decide +kernel
theorem d_M_checkOf_3 : decode prog_11_method_14_code 3 = .ok (.istore 4, 2) := by decide +kernel
theorem d_M_checkOf_5 : decode prog_11_method_14_code 5 = .ok (.iload 4, 2) := by decide +kernel
theorem d_M_checkOf_7 : decode prog_11_method_14_code 7 = .ok (.iload_n 1, 1) := by decide +kernel
theorem d_M_checkOf_8 : decode prog_11_method_14_code 8 = .ok (.iload_n 2, 1) := by decide +kernel
theorem d_M_checkOf_9 : decode prog_11_method_14_code 9 = .ok (.iadd, 1) := by decide +kernel
theorem d_M_checkOf_10 : decode prog_11_method_14_code 10 = .ok (.if_icmp .ge 56, 3) := by decide +kernel
theorem d_M_checkOf_13 : decode prog_11_method_14_code 13 = .ok (.iload_n 3, 1) := by decide +kernel
theorem d_M_checkOf_14 : decode prog_11_method_14_code 14 = .ok (.aload_n 0, 1) := by decide +kernel
theorem d_M_checkOf_15 : decode prog_11_method_14_code 15 = .ok (.iload 4, 2) := by decide +kernel
theorem d_M_checkOf_17 : decode prog_11_method_14_code 17 = .ok (.baload, 1) := by decide +kernel
theorem d_M_checkOf_18 : decode prog_11_method_14_code 18 = .ok (.sipush 255, 3) := by decide +kernel
theorem d_M_checkOf_21 : decode prog_11_method_14_code 21 = .ok (.iand, 1) := by decide +kernel
theorem d_M_checkOf_22 : decode prog_11_method_14_code 22 = .ok (.ixor, 1) := by decide +kernel
theorem d_M_checkOf_23 : decode prog_11_method_14_code 23 = .ok (.istore_n 3, 1) := by decide +kernel
theorem d_M_checkOf_24 : decode prog_11_method_14_code 24 = .ok (.iconst 0, 1) := by decide +kernel
theorem d_M_checkOf_25 : decode prog_11_method_14_code 25 = .ok (.istore 5, 2) := by decide +kernel
theorem d_M_checkOf_27 : decode prog_11_method_14_code 27 = .ok (.iload 5, 2) := by decide +kernel
theorem d_M_checkOf_29 : decode prog_11_method_14_code 29 = .ok (.bipush 8, 2) := by decide +kernel
theorem d_M_checkOf_31 : decode prog_11_method_14_code 31 = .ok (.if_icmp .ge 29, 3) := by decide +kernel
theorem d_M_checkOf_34 : decode prog_11_method_14_code 34 = .ok (.iload_n 3, 1) := by decide +kernel
theorem d_M_checkOf_35 : decode prog_11_method_14_code 35 = .ok (.iconst 1, 1) := by decide +kernel
theorem d_M_checkOf_36 : decode prog_11_method_14_code 36 = .ok (.iand, 1) := by decide +kernel
theorem d_M_checkOf_37 : decode prog_11_method_14_code 37 = .ok (.iconst 1, 1) := by decide +kernel
theorem d_M_checkOf_38 : decode prog_11_method_14_code 38 = .ok (.if_icmp .ne 12, 3) := by decide +kernel
theorem d_M_checkOf_41 : decode prog_11_method_14_code 41 = .ok (.iload_n 3, 1) := by decide +kernel
theorem d_M_checkOf_42 : decode prog_11_method_14_code 42 = .ok (.iconst 1, 1) := by decide +kernel
theorem d_M_checkOf_43 : decode prog_11_method_14_code 43 = .ok (.iushr, 1) := by decide +kernel
theorem d_M_checkOf_44 : decode prog_11_method_14_code 44 = .ok (.ldc 89, 2) := by decide +kernel
theorem d_M_checkOf_46 : decode prog_11_method_14_code 46 = .ok (.ixor, 1) := by decide +kernel
theorem d_M_checkOf_47 : decode prog_11_method_14_code 47 = .ok (.goto 6, 3) := by decide +kernel
theorem d_M_checkOf_50 : decode prog_11_method_14_code 50 = .ok (.iload_n 3, 1) := by decide +kernel
theorem d_M_checkOf_51 : decode prog_11_method_14_code 51 = .ok (.iconst 1, 1) := by decide +kernel
theorem d_M_checkOf_52 : decode prog_11_method_14_code 52 = .ok (.iushr, 1) := by decide +kernel
theorem d_M_checkOf_53 : decode prog_11_method_14_code 53 = .ok (.istore_n 3, 1) := by decide +kernel
theorem d_M_checkOf_54 : decode prog_11_method_14_code 54 = .ok (.iinc 5 1, 3) := by decide +kernel
theorem d_M_checkOf_57 : decode prog_11_method_14_code 57 = .ok (.goto (-30), 3) := by decide +kernel
theorem d_M_checkOf_60 : decode prog_11_method_14_code 60 = .ok (.iinc 4 1, 3) := by decide +kernel
theorem d_M_checkOf_63 : decode prog_11_method_14_code 63 = .ok (.goto (-58), 3) := by decide +kernel
theorem d_M_checkOf_66 : decode prog_11_method_14_code 66 = .ok (.iload_n 3, 1) := by decide +kernel
theorem d_M_checkOf_67 : decode prog_11_method_14_code 67 = .ok (.iconst (-1), 1) := by decide +kernel
theorem d_M_checkOf_68 : decode prog_11_method_14_code 68 = .ok (.ixor, 1) := by decide +kernel
theorem d_M_checkOf_69 : decode prog_11_method_14_code 69 = .ok (.ireturn, 1) := by decide +kernel
theorem d_M_put_0 : decode prog_11_method_15_code 0 = .ok (.aload_n 0, 1) := by decide +kernel
theorem d_M_put_1 : decode prog_11_method_15_code 1 = .ok (.getfield 82, 3) := by decide +kernel
theorem d_M_put_4 : decode prog_11_method_15_code 4 = .ok (.istore 4, 2) := by decide +kernel
theorem d_M_put_6 : decode prog_11_method_15_code 6 = .ok (.iconst 0, 1) := by decide +kernel
theorem d_M_put_7 : decode prog_11_method_15_code 7 = .ok (.istore 5, 2) := by decide +kernel
theorem d_M_put_9 : decode prog_11_method_15_code 9 = .ok (.iload 5, 2) := by decide +kernel
theorem d_M_put_11 : decode prog_11_method_15_code 11 = .ok (.aload_n 0, 1) := by decide +kernel
theorem d_M_put_12 : decode prog_11_method_15_code 12 = .ok (.getfield 75, 3) := by decide +kernel
theorem d_M_put_15 : decode prog_11_method_15_code 15 = .ok (.if_icmp .ge 29, 3) := by decide +kernel
theorem d_M_put_18 : decode prog_11_method_15_code 18 = .ok (.aload_n 0, 1) := by decide +kernel
theorem d_M_put_19 : decode prog_11_method_15_code 19 = .ok (.getfield 18, 3) := by decide +kernel
theorem d_M_put_22 : decode prog_11_method_15_code 22 = .ok (.bipush 64, 2) := by decide +kernel
theorem d_M_put_24 : decode prog_11_method_15_code 24 = .ok (.iload 4, 2) := by decide +kernel
theorem d_M_put_26 : decode prog_11_method_15_code 26 = .ok (.imul, 1) := by decide +kernel
theorem d_M_put_27 : decode prog_11_method_15_code 27 = .ok (.iload 5, 2) := by decide +kernel
theorem d_M_put_29 : decode prog_11_method_15_code 29 = .ok (.iadd, 1) := by decide +kernel
theorem d_M_put_30 : decode prog_11_method_15_code 30 = .ok (.aload_n 0, 1) := by decide +kernel
theorem d_M_put_31 : decode prog_11_method_15_code 31 = .ok (.getfield 14, 3) := by decide +kernel
theorem d_M_put_34 : decode prog_11_method_15_code 34 = .ok (.iload 5, 2) := by decide +kernel
theorem d_M_put_36 : decode prog_11_method_15_code 36 = .ok (.iaload, 1) := by decide +kernel
theorem d_M_put_37 : decode prog_11_method_15_code 37 = .ok (.iastore, 1) := by decide +kernel
theorem d_M_put_38 : decode prog_11_method_15_code 38 = .ok (.iinc 5 1, 3) := by decide +kernel
theorem d_M_put_41 : decode prog_11_method_15_code 41 = .ok (.goto (-32), 3) := by decide +kernel
theorem d_M_put_44 : decode prog_11_method_15_code 44 = .ok (.aload_n 0, 1) := by decide +kernel
theorem d_M_put_45 : decode prog_11_method_15_code 45 = .ok (.getfield 21, 3) := by decide +kernel
theorem d_M_put_48 : decode prog_11_method_15_code 48 = .ok (.iload 4, 2) := by decide +kernel
theorem d_M_put_50 : decode prog_11_method_15_code 50 = .ok (.aload_n 0, 1) := by decide +kernel
theorem d_M_put_51 : decode prog_11_method_15_code 51 = .ok (.getfield 75, 3) := by decide +kernel
theorem d_M_put_54 : decode prog_11_method_15_code 54 = .ok (.iastore, 1) := by decide +kernel
theorem d_M_put_55 : decode prog_11_method_15_code 55 = .ok (.aload_n 0, 1) := by decide +kernel
theorem d_M_put_56 : decode prog_11_method_15_code 56 = .ok (.getfield 24, 3) := by decide +kernel
theorem d_M_put_59 : decode prog_11_method_15_code 59 = .ok (.iload 4, 2) := by decide +kernel
theorem d_M_put_61 : decode prog_11_method_15_code 61 = .ok (.iload_n 1, 1) := by decide +kernel
theorem d_M_put_62 : decode prog_11_method_15_code 62 = .ok (.iastore, 1) := by decide +kernel
theorem d_M_put_63 : decode prog_11_method_15_code 63 = .ok (.aload_n 0, 1) := by decide +kernel
theorem d_M_put_64 : decode prog_11_method_15_code 64 = .ok (.getfield 27, 3) := by decide +kernel
theorem d_M_put_67 : decode prog_11_method_15_code 67 = .ok (.iload 4, 2) := by decide +kernel
theorem d_M_put_69 : decode prog_11_method_15_code 69 = .ok (.aload_n 0, 1) := by decide +kernel
theorem d_M_put_70 : decode prog_11_method_15_code 70 = .ok (.getfield 90, 3) := by decide +kernel
theorem d_M_put_73 : decode prog_11_method_15_code 73 = .ok (.iastore, 1) := by decide +kernel
theorem d_M_put_74 : decode prog_11_method_15_code 74 = .ok (.aload_n 0, 1) := by decide +kernel
theorem d_M_put_75 : decode prog_11_method_15_code 75 = .ok (.getfield 30, 3) := by decide +kernel
theorem d_M_put_78 : decode prog_11_method_15_code 78 = .ok (.iload 4, 2) := by decide +kernel
theorem d_M_put_80 : decode prog_11_method_15_code 80 = .ok (.aload_n 0, 1) := by decide +kernel
theorem d_M_put_81 : decode prog_11_method_15_code 81 = .ok (.getfield 72, 3) := by decide +kernel
theorem d_M_put_84 : decode prog_11_method_15_code 84 = .ok (.iastore, 1) := by decide +kernel
theorem d_M_put_85 : decode prog_11_method_15_code 85 = .ok (.aload_n 0, 1) := by decide +kernel
theorem d_M_put_86 : decode prog_11_method_15_code 86 = .ok (.getfield 33, 3) := by decide +kernel
theorem d_M_put_89 : decode prog_11_method_15_code 89 = .ok (.iload 4, 2) := by decide +kernel
theorem d_M_put_91 : decode prog_11_method_15_code 91 = .ok (.iload_n 2, 1) := by decide +kernel
theorem d_M_put_92 : decode prog_11_method_15_code 92 = .ok (.iastore, 1) := by decide +kernel
theorem d_M_put_93 : decode prog_11_method_15_code 93 = .ok (.aload_n 0, 1) := by decide +kernel
theorem d_M_put_94 : decode prog_11_method_15_code 94 = .ok (.getfield 36, 3) := by decide +kernel
theorem d_M_put_97 : decode prog_11_method_15_code 97 = .ok (.iload 4, 2) := by decide +kernel
theorem d_M_put_99 : decode prog_11_method_15_code 99 = .ok (.iload_n 3, 1) := by decide +kernel
theorem d_M_put_100 : decode prog_11_method_15_code 100 = .ok (.iastore, 1) := by decide +kernel
theorem d_M_put_101 : decode prog_11_method_15_code 101 = .ok (.iconst 0, 1) := by decide +kernel
theorem d_M_put_102 : decode prog_11_method_15_code 102 = .ok (.istore 5, 2) := by decide +kernel
theorem d_M_put_104 : decode prog_11_method_15_code 104 = .ok (.iload 5, 2) := by decide +kernel
theorem d_M_put_106 : decode prog_11_method_15_code 106 = .ok (.aload_n 0, 1) := by decide +kernel
theorem d_M_put_107 : decode prog_11_method_15_code 107 = .ok (.getfield 72, 3) := by decide +kernel
theorem d_M_put_110 : decode prog_11_method_15_code 110 = .ok (.if_icmp .ge 28, 3) := by decide +kernel
theorem d_M_put_113 : decode prog_11_method_15_code 113 = .ok (.aload_n 0, 1) := by decide +kernel
theorem d_M_put_114 : decode prog_11_method_15_code 114 = .ok (.getfield 39, 3) := by decide +kernel
theorem d_M_put_117 : decode prog_11_method_15_code 117 = .ok (.aload_n 0, 1) := by decide +kernel
theorem d_M_put_118 : decode prog_11_method_15_code 118 = .ok (.getfield 90, 3) := by decide +kernel
theorem d_M_put_121 : decode prog_11_method_15_code 121 = .ok (.iload 5, 2) := by decide +kernel
theorem d_M_put_123 : decode prog_11_method_15_code 123 = .ok (.iadd, 1) := by decide +kernel
theorem d_M_put_124 : decode prog_11_method_15_code 124 = .ok (.aload_n 0, 1) := by decide +kernel
theorem d_M_put_125 : decode prog_11_method_15_code 125 = .ok (.getfield 8, 3) := by decide +kernel
theorem d_M_put_128 : decode prog_11_method_15_code 128 = .ok (.iload 5, 2) := by decide +kernel
theorem d_M_put_130 : decode prog_11_method_15_code 130 = .ok (.baload, 1) := by decide +kernel
theorem d_M_put_131 : decode prog_11_method_15_code 131 = .ok (.bastore, 1) := by decide +kernel
theorem d_M_put_132 : decode prog_11_method_15_code 132 = .ok (.iinc 5 1, 3) := by decide +kernel
theorem d_M_put_135 : decode prog_11_method_15_code 135 = .ok (.goto (-31), 3) := by decide +kernel
theorem d_M_put_138 : decode prog_11_method_15_code 138 = .ok (.aload_n 0, 1) := by decide +kernel
theorem d_M_put_139 : decode prog_11_method_15_code 139 = .ok (.dup, 1) := by decide +kernel
theorem d_M_put_140 : decode prog_11_method_15_code 140 = .ok (.getfield 90, 3) := by decide +kernel
theorem d_M_put_143 : decode prog_11_method_15_code 143 = .ok (.aload_n 0, 1) := by decide +kernel
theorem d_M_put_144 : decode prog_11_method_15_code 144 = .ok (.getfield 72, 3) := by decide +kernel
theorem d_M_put_147 : decode prog_11_method_15_code 147 = .ok (.iadd, 1) := by decide +kernel
theorem d_M_put_148 : decode prog_11_method_15_code 148 = .ok (.putfield 90, 3) := by decide +kernel
theorem d_M_put_151 : decode prog_11_method_15_code 151 = .ok (.aload_n 0, 1) := by decide +kernel
theorem d_M_put_152 : decode prog_11_method_15_code 152 = .ok (.dup, 1) := by decide +kernel
theorem d_M_put_153 : decode prog_11_method_15_code 153 = .ok (.getfield 82, 3) := by decide +kernel
theorem d_M_put_156 : decode prog_11_method_15_code 156 = .ok (.iconst 1, 1) := by decide +kernel
theorem d_M_put_157 : decode prog_11_method_15_code 157 = .ok (.iadd, 1) := by decide +kernel
theorem d_M_put_158 : decode prog_11_method_15_code 158 = .ok (.putfield 82, 3) := by decide +kernel
theorem d_M_put_161 : decode prog_11_method_15_code 161 = .ok (.iload 4, 2) := by decide +kernel
theorem d_M_put_163 : decode prog_11_method_15_code 163 = .ok (.ireturn, 1) := by decide +kernel
theorem d_M_refused_0 : decode prog_11_method_16_code 0 = .ok (.iload_n 1, 1) := by decide +kernel
theorem d_M_refused_1 : decode prog_11_method_16_code 1 = .ok (.ifCond .eq 22, 3) := by decide +kernel
theorem d_M_refused_4 : decode prog_11_method_16_code 4 = .ok (.aload_n 0, 1) := by decide +kernel
theorem d_M_refused_5 : decode prog_11_method_16_code 5 = .ok (.iconst (-1), 1) := by decide +kernel
theorem d_M_refused_6 : decode prog_11_method_16_code 6 = .ok (.aload_n 0, 1) := by decide +kernel
theorem d_M_refused_7 : decode prog_11_method_16_code 7 = .ok (.getfield 75, 3) := by decide +kernel
theorem d_M_refused_10 : decode prog_11_method_16_code 10 = .ok (.invokevirtual 93, 3) := by decide +kernel
theorem d_M_refused_13 : decode prog_11_method_16_code 13 = .ok (.ifCond .eq 10, 3) := by decide +kernel
theorem d_M_refused_16 : decode prog_11_method_16_code 16 = .ok (.aload_n 0, 1) := by decide +kernel
theorem d_M_refused_17 : decode prog_11_method_16_code 17 = .ok (.invokevirtual 97, 3) := by decide +kernel
theorem d_M_refused_20 : decode prog_11_method_16_code 20 = .ok (.ifCond .lt 7, 3) := by decide +kernel
theorem d_M_refused_23 : decode prog_11_method_16_code 23 = .ok (.iconst 1, 1) := by decide +kernel
theorem d_M_refused_24 : decode prog_11_method_16_code 24 = .ok (.goto 31, 3) := by decide +kernel
theorem d_M_refused_27 : decode prog_11_method_16_code 27 = .ok (.aload_n 0, 1) := by decide +kernel
theorem d_M_refused_28 : decode prog_11_method_16_code 28 = .ok (.getfield 82, 3) := by decide +kernel
theorem d_M_refused_31 : decode prog_11_method_16_code 31 = .ok (.bipush 64, 2) := by decide +kernel
theorem d_M_refused_33 : decode prog_11_method_16_code 33 = .ok (.if_icmp .eq 17, 3) := by decide +kernel
theorem d_M_refused_36 : decode prog_11_method_16_code 36 = .ok (.aload_n 0, 1) := by decide +kernel
theorem d_M_refused_37 : decode prog_11_method_16_code 37 = .ok (.getfield 90, 3) := by decide +kernel
theorem d_M_refused_40 : decode prog_11_method_16_code 40 = .ok (.aload_n 0, 1) := by decide +kernel
theorem d_M_refused_41 : decode prog_11_method_16_code 41 = .ok (.getfield 72, 3) := by decide +kernel
theorem d_M_refused_44 : decode prog_11_method_16_code 44 = .ok (.iadd, 1) := by decide +kernel
theorem d_M_refused_45 : decode prog_11_method_16_code 45 = .ok (.ldc 7, 2) := by decide +kernel
theorem d_M_refused_47 : decode prog_11_method_16_code 47 = .ok (.if_icmp .le 7, 3) := by decide +kernel
theorem d_M_refused_50 : decode prog_11_method_16_code 50 = .ok (.iconst 2, 1) := by decide +kernel
theorem d_M_refused_51 : decode prog_11_method_16_code 51 = .ok (.goto 4, 3) := by decide +kernel
theorem d_M_refused_54 : decode prog_11_method_16_code 54 = .ok (.iconst 0, 1) := by decide +kernel
theorem d_M_refused_55 : decode prog_11_method_16_code 55 = .ok (.ireturn, 1) := by decide +kernel
theorem d_M_add_0 : decode prog_11_method_17_code 0 = .ok (.aload_n 0, 1) := by decide +kernel
theorem d_M_add_1 : decode prog_11_method_17_code 1 = .ok (.aload_n 0, 1) := by decide +kernel
theorem d_M_add_2 : decode prog_11_method_17_code 2 = .ok (.iconst 1, 1) := by decide +kernel
theorem d_M_add_3 : decode prog_11_method_17_code 3 = .ok (.invokevirtual 101, 3) := by decide +kernel
theorem d_M_add_6 : decode prog_11_method_17_code 6 = .ok (.putfield 69, 3) := by decide +kernel
theorem d_M_add_9 : decode prog_11_method_17_code 9 = .ok (.aload_n 0, 1) := by decide +kernel
theorem d_M_add_10 : decode prog_11_method_17_code 10 = .ok (.getfield 69, 3) := by decide +kernel
theorem d_M_add_13 : decode prog_11_method_17_code 13 = .ok (.ifCond .le 7, 3) := by decide +kernel
theorem d_M_add_16 : decode prog_11_method_17_code 16 = .ok (.iconst 0, 1) := by decide +kernel
theorem d_M_add_17 : decode prog_11_method_17_code 17 = .ok (.goto 24, 3) := by decide +kernel
theorem d_M_add_20 : decode prog_11_method_17_code 20 = .ok (.aload_n 0, 1) := by decide +kernel
theorem d_M_add_21 : decode prog_11_method_17_code 21 = .ok (.iconst 0, 1) := by decide +kernel
theorem d_M_add_22 : decode prog_11_method_17_code 22 = .ok (.aload_n 0, 1) := by decide +kernel
theorem d_M_add_23 : decode prog_11_method_17_code 23 = .ok (.getfield 72, 3) := by decide +kernel
theorem d_M_add_26 : decode prog_11_method_17_code 26 = .ok (.aload_n 0, 1) := by decide +kernel
theorem d_M_add_27 : decode prog_11_method_17_code 27 = .ok (.getfield 8, 3) := by decide +kernel
theorem d_M_add_30 : decode prog_11_method_17_code 30 = .ok (.iconst 0, 1) := by decide +kernel
theorem d_M_add_31 : decode prog_11_method_17_code 31 = .ok (.aload_n 0, 1) := by decide +kernel
theorem d_M_add_32 : decode prog_11_method_17_code 32 = .ok (.getfield 72, 3) := by decide +kernel
theorem d_M_add_35 : decode prog_11_method_17_code 35 = .ok (.invokestatic 105, 3) := by decide +kernel
theorem d_M_add_38 : decode prog_11_method_17_code 38 = .ok (.invokevirtual 109, 3) := by decide +kernel
theorem d_M_add_41 : decode prog_11_method_17_code 41 = .ok (.ireturn, 1) := by decide +kernel
theorem d_M_addPacked_0 : decode prog_11_method_18_code 0 = .ok (.aload_n 0, 1) := by decide +kernel
theorem d_M_addPacked_1 : decode prog_11_method_18_code 1 = .ok (.aload_n 0, 1) := by decide +kernel
theorem d_M_addPacked_2 : decode prog_11_method_18_code 2 = .ok (.iload_n 1, 1) := by decide +kernel
theorem d_M_addPacked_3 : decode prog_11_method_18_code 3 = .ok (.ifCond .lt 7, 3) := by decide +kernel
theorem d_M_addPacked_6 : decode prog_11_method_18_code 6 = .ok (.iconst 1, 1) := by decide +kernel
theorem d_M_addPacked_7 : decode prog_11_method_18_code 7 = .ok (.goto 4, 3) := by decide +kernel
theorem d_M_addPacked_10 : decode prog_11_method_18_code 10 = .ok (.iconst 0, 1) := by decide +kernel
theorem d_M_addPacked_11 : decode prog_11_method_18_code 11 = .ok (.invokevirtual 101, 3) := by decide +kernel
theorem d_M_addPacked_14 : decode prog_11_method_18_code 14 = .ok (.putfield 69, 3) := by decide +kernel
theorem d_M_addPacked_17 : decode prog_11_method_18_code 17 = .ok (.aload_n 0, 1) := by decide +kernel
theorem d_M_addPacked_18 : decode prog_11_method_18_code 18 = .ok (.getfield 69, 3) := by decide +kernel
theorem d_M_addPacked_21 : decode prog_11_method_18_code 21 = .ok (.ifCond .le 7, 3) := by decide +kernel
theorem d_M_addPacked_24 : decode prog_11_method_18_code 24 = .ok (.iconst 0, 1) := by decide +kernel
theorem d_M_addPacked_25 : decode prog_11_method_18_code 25 = .ok (.goto 11, 3) := by decide +kernel
theorem d_M_addPacked_28 : decode prog_11_method_18_code 28 = .ok (.aload_n 0, 1) := by decide +kernel
theorem d_M_addPacked_29 : decode prog_11_method_18_code 29 = .ok (.bipush 8, 2) := by decide +kernel
theorem d_M_addPacked_31 : decode prog_11_method_18_code 31 = .ok (.iload_n 1, 1) := by decide +kernel
theorem d_M_addPacked_32 : decode prog_11_method_18_code 32 = .ok (.iload_n 2, 1) := by decide +kernel
theorem d_M_addPacked_33 : decode prog_11_method_18_code 33 = .ok (.invokevirtual 109, 3) := by decide +kernel
theorem d_M_addPacked_36 : decode prog_11_method_18_code 36 = .ok (.ireturn, 1) := by decide +kernel
theorem d_M_noEntry_0 : decode prog_11_method_19_code 0 = .ok (.iload_n 1, 1) := by decide +kernel
theorem d_M_noEntry_1 : decode prog_11_method_19_code 1 = .ok (.ifCond .lt 11, 3) := by decide +kernel
theorem d_M_noEntry_4 : decode prog_11_method_19_code 4 = .ok (.iload_n 1, 1) := by decide +kernel
theorem d_M_noEntry_5 : decode prog_11_method_19_code 5 = .ok (.aload_n 0, 1) := by decide +kernel
theorem d_M_noEntry_6 : decode prog_11_method_19_code 6 = .ok (.getfield 82, 3) := by decide +kernel
theorem d_M_noEntry_9 : decode prog_11_method_19_code 9 = .ok (.if_icmp .lt 7, 3) := by decide +kernel
theorem d_M_noEntry_12 : decode prog_11_method_19_code 12 = .ok (.iconst 1, 1) := by decide +kernel
theorem d_M_noEntry_13 : decode prog_11_method_19_code 13 = .ok (.goto 4, 3) := by decide +kernel
theorem d_M_noEntry_16 : decode prog_11_method_19_code 16 = .ok (.iconst 0, 1) := by decide +kernel
theorem d_M_noEntry_17 : decode prog_11_method_19_code 17 = .ok (.ireturn, 1) := by decide +kernel
theorem d_M_copy_0 : decode prog_11_method_20_code 0 = .ok (.iconst 0, 1) := by decide +kernel
theorem d_M_copy_1 : decode prog_11_method_20_code 1 = .ok (.istore_n 3, 1) := by decide +kernel
theorem d_M_copy_2 : decode prog_11_method_20_code 2 = .ok (.iload_n 3, 1) := by decide +kernel
theorem d_M_copy_3 : decode prog_11_method_20_code 3 = .ok (.bipush 64, 2) := by decide +kernel
theorem d_M_copy_5 : decode prog_11_method_20_code 5 = .ok (.if_icmp .ge 31, 3) := by decide +kernel
theorem d_M_copy_8 : decode prog_11_method_20_code 8 = .ok (.aload_n 0, 1) := by decide +kernel
theorem d_M_copy_9 : decode prog_11_method_20_code 9 = .ok (.getfield 18, 3) := by decide +kernel
theorem d_M_copy_12 : decode prog_11_method_20_code 12 = .ok (.bipush 64, 2) := by decide +kernel
theorem d_M_copy_14 : decode prog_11_method_20_code 14 = .ok (.iload_n 2, 1) := by decide +kernel
theorem d_M_copy_15 : decode prog_11_method_20_code 15 = .ok (.imul, 1) := by decide +kernel
theorem d_M_copy_16 : decode prog_11_method_20_code 16 = .ok (.iload_n 3, 1) := by decide +kernel
theorem d_M_copy_17 : decode prog_11_method_20_code 17 = .ok (.iadd, 1) := by decide +kernel
theorem d_M_copy_18 : decode prog_11_method_20_code 18 = .ok (.aload_n 0, 1) := by decide +kernel
theorem d_M_copy_19 : decode prog_11_method_20_code 19 = .ok (.getfield 18, 3) := by decide +kernel
theorem d_M_copy_22 : decode prog_11_method_20_code 22 = .ok (.bipush 64, 2) := by decide +kernel
theorem d_M_copy_24 : decode prog_11_method_20_code 24 = .ok (.iload_n 1, 1) := by decide +kernel
theorem d_M_copy_25 : decode prog_11_method_20_code 25 = .ok (.imul, 1) := by decide +kernel
theorem d_M_copy_26 : decode prog_11_method_20_code 26 = .ok (.iload_n 3, 1) := by decide +kernel
theorem d_M_copy_27 : decode prog_11_method_20_code 27 = .ok (.iadd, 1) := by decide +kernel
theorem d_M_copy_28 : decode prog_11_method_20_code 28 = .ok (.iaload, 1) := by decide +kernel
theorem d_M_copy_29 : decode prog_11_method_20_code 29 = .ok (.iastore, 1) := by decide +kernel
theorem d_M_copy_30 : decode prog_11_method_20_code 30 = .ok (.iinc 3 1, 3) := by decide +kernel
theorem d_M_copy_33 : decode prog_11_method_20_code 33 = .ok (.goto (-31), 3) := by decide +kernel
theorem d_M_copy_36 : decode prog_11_method_20_code 36 = .ok (.aload_n 0, 1) := by decide +kernel
theorem d_M_copy_37 : decode prog_11_method_20_code 37 = .ok (.getfield 21, 3) := by decide +kernel
theorem d_M_copy_40 : decode prog_11_method_20_code 40 = .ok (.iload_n 2, 1) := by decide +kernel
theorem d_M_copy_41 : decode prog_11_method_20_code 41 = .ok (.aload_n 0, 1) := by decide +kernel
theorem d_M_copy_42 : decode prog_11_method_20_code 42 = .ok (.getfield 21, 3) := by decide +kernel
theorem d_M_copy_45 : decode prog_11_method_20_code 45 = .ok (.iload_n 1, 1) := by decide +kernel
theorem d_M_copy_46 : decode prog_11_method_20_code 46 = .ok (.iaload, 1) := by decide +kernel
theorem d_M_copy_47 : decode prog_11_method_20_code 47 = .ok (.iastore, 1) := by decide +kernel
theorem d_M_copy_48 : decode prog_11_method_20_code 48 = .ok (.aload_n 0, 1) := by decide +kernel
theorem d_M_copy_49 : decode prog_11_method_20_code 49 = .ok (.getfield 24, 3) := by decide +kernel
theorem d_M_copy_52 : decode prog_11_method_20_code 52 = .ok (.iload_n 2, 1) := by decide +kernel
theorem d_M_copy_53 : decode prog_11_method_20_code 53 = .ok (.aload_n 0, 1) := by decide +kernel
theorem d_M_copy_54 : decode prog_11_method_20_code 54 = .ok (.getfield 24, 3) := by decide +kernel
theorem d_M_copy_57 : decode prog_11_method_20_code 57 = .ok (.iload_n 1, 1) := by decide +kernel
theorem d_M_copy_58 : decode prog_11_method_20_code 58 = .ok (.iaload, 1) := by decide +kernel
theorem d_M_copy_59 : decode prog_11_method_20_code 59 = .ok (.iastore, 1) := by decide +kernel
theorem d_M_copy_60 : decode prog_11_method_20_code 60 = .ok (.aload_n 0, 1) := by decide +kernel
theorem d_M_copy_61 : decode prog_11_method_20_code 61 = .ok (.getfield 27, 3) := by decide +kernel
theorem d_M_copy_64 : decode prog_11_method_20_code 64 = .ok (.iload_n 2, 1) := by decide +kernel
theorem d_M_copy_65 : decode prog_11_method_20_code 65 = .ok (.aload_n 0, 1) := by decide +kernel
theorem d_M_copy_66 : decode prog_11_method_20_code 66 = .ok (.getfield 27, 3) := by decide +kernel
theorem d_M_copy_69 : decode prog_11_method_20_code 69 = .ok (.iload_n 1, 1) := by decide +kernel
theorem d_M_copy_70 : decode prog_11_method_20_code 70 = .ok (.iaload, 1) := by decide +kernel
theorem d_M_copy_71 : decode prog_11_method_20_code 71 = .ok (.iastore, 1) := by decide +kernel
theorem d_M_copy_72 : decode prog_11_method_20_code 72 = .ok (.aload_n 0, 1) := by decide +kernel
theorem d_M_copy_73 : decode prog_11_method_20_code 73 = .ok (.getfield 30, 3) := by decide +kernel
theorem d_M_copy_76 : decode prog_11_method_20_code 76 = .ok (.iload_n 2, 1) := by decide +kernel
theorem d_M_copy_77 : decode prog_11_method_20_code 77 = .ok (.aload_n 0, 1) := by decide +kernel
theorem d_M_copy_78 : decode prog_11_method_20_code 78 = .ok (.getfield 30, 3) := by decide +kernel
theorem d_M_copy_81 : decode prog_11_method_20_code 81 = .ok (.iload_n 1, 1) := by decide +kernel
theorem d_M_copy_82 : decode prog_11_method_20_code 82 = .ok (.iaload, 1) := by decide +kernel
theorem d_M_copy_83 : decode prog_11_method_20_code 83 = .ok (.iastore, 1) := by decide +kernel
theorem d_M_copy_84 : decode prog_11_method_20_code 84 = .ok (.aload_n 0, 1) := by decide +kernel
theorem d_M_copy_85 : decode prog_11_method_20_code 85 = .ok (.getfield 33, 3) := by decide +kernel
theorem d_M_copy_88 : decode prog_11_method_20_code 88 = .ok (.iload_n 2, 1) := by decide +kernel
theorem d_M_copy_89 : decode prog_11_method_20_code 89 = .ok (.aload_n 0, 1) := by decide +kernel
theorem d_M_copy_90 : decode prog_11_method_20_code 90 = .ok (.getfield 33, 3) := by decide +kernel
theorem d_M_copy_93 : decode prog_11_method_20_code 93 = .ok (.iload_n 1, 1) := by decide +kernel
theorem d_M_copy_94 : decode prog_11_method_20_code 94 = .ok (.iaload, 1) := by decide +kernel
theorem d_M_copy_95 : decode prog_11_method_20_code 95 = .ok (.iastore, 1) := by decide +kernel
theorem d_M_copy_96 : decode prog_11_method_20_code 96 = .ok (.aload_n 0, 1) := by decide +kernel
theorem d_M_copy_97 : decode prog_11_method_20_code 97 = .ok (.getfield 36, 3) := by decide +kernel
theorem d_M_copy_100 : decode prog_11_method_20_code 100 = .ok (.iload_n 2, 1) := by decide +kernel
theorem d_M_copy_101 : decode prog_11_method_20_code 101 = .ok (.aload_n 0, 1) := by decide +kernel
theorem d_M_copy_102 : decode prog_11_method_20_code 102 = .ok (.getfield 36, 3) := by decide +kernel
theorem d_M_copy_105 : decode prog_11_method_20_code 105 = .ok (.iload_n 1, 1) := by decide +kernel
theorem d_M_copy_106 : decode prog_11_method_20_code 106 = .ok (.iaload, 1) := by decide +kernel
theorem d_M_copy_107 : decode prog_11_method_20_code 107 = .ok (.iastore, 1) := by decide +kernel
theorem d_M_copy_108 : decode prog_11_method_20_code 108 = .ok (.return_, 1) := by decide +kernel
theorem d_M_gather_0 : decode prog_11_method_21_code 0 = .ok (.iconst 0, 1) := by decide +kernel
theorem d_M_gather_1 : decode prog_11_method_21_code 1 = .ok (.istore_n 1, 1) := by decide +kernel
theorem d_M_gather_2 : decode prog_11_method_21_code 2 = .ok (.iconst 0, 1) := by decide +kernel
theorem d_M_gather_3 : decode prog_11_method_21_code 3 = .ok (.istore_n 2, 1) := by decide +kernel
theorem d_M_gather_4 : decode prog_11_method_21_code 4 = .ok (.iload_n 2, 1) := by decide +kernel
theorem d_M_gather_5 : decode prog_11_method_21_code 5 = .ok (.aload_n 0, 1) := by decide +kernel
theorem d_M_gather_6 : decode prog_11_method_21_code 6 = .ok (.getfield 82, 3) := by decide +kernel
theorem d_M_gather_9 : decode prog_11_method_21_code 9 = .ok (.if_icmp .ge 64, 3) := by decide +kernel
theorem d_M_gather_12 : decode prog_11_method_21_code 12 = .ok (.iconst 0, 1) := by decide +kernel
theorem d_M_gather_13 : decode prog_11_method_21_code 13 = .ok (.istore_n 3, 1) := by decide +kernel
theorem d_M_gather_14 : decode prog_11_method_21_code 14 = .ok (.iload_n 3, 1) := by decide +kernel
theorem d_M_gather_15 : decode prog_11_method_21_code 15 = .ok (.aload_n 0, 1) := by decide +kernel
theorem d_M_gather_16 : decode prog_11_method_21_code 16 = .ok (.getfield 30, 3) := by decide +kernel
theorem d_M_gather_19 : decode prog_11_method_21_code 19 = .ok (.iload_n 2, 1) := by decide +kernel
theorem d_M_gather_20 : decode prog_11_method_21_code 20 = .ok (.iaload, 1) := by decide +kernel
theorem d_M_gather_21 : decode prog_11_method_21_code 21 = .ok (.if_icmp .ge 30, 3) := by decide +kernel
theorem d_M_gather_24 : decode prog_11_method_21_code 24 = .ok (.aload_n 0, 1) := by decide +kernel
theorem d_M_gather_25 : decode prog_11_method_21_code 25 = .ok (.getfield 42, 3) := by decide +kernel
theorem d_M_gather_28 : decode prog_11_method_21_code 28 = .ok (.iload_n 1, 1) := by decide +kernel
theorem d_M_gather_29 : decode prog_11_method_21_code 29 = .ok (.iload_n 3, 1) := by decide +kernel
theorem d_M_gather_30 : decode prog_11_method_21_code 30 = .ok (.iadd, 1) := by decide +kernel
theorem d_M_gather_31 : decode prog_11_method_21_code 31 = .ok (.aload_n 0, 1) := by decide +kernel
theorem d_M_gather_32 : decode prog_11_method_21_code 32 = .ok (.getfield 39, 3) := by decide +kernel
theorem d_M_gather_35 : decode prog_11_method_21_code 35 = .ok (.aload_n 0, 1) := by decide +kernel
theorem d_M_gather_36 : decode prog_11_method_21_code 36 = .ok (.getfield 27, 3) := by decide +kernel
theorem d_M_gather_39 : decode prog_11_method_21_code 39 = .ok (.iload_n 2, 1) := by decide +kernel
theorem d_M_gather_40 : decode prog_11_method_21_code 40 = .ok (.iaload, 1) := by decide +kernel
theorem d_M_gather_41 : decode prog_11_method_21_code 41 = .ok (.iload_n 3, 1) := by decide +kernel
theorem d_M_gather_42 : decode prog_11_method_21_code 42 = .ok (.iadd, 1) := by decide +kernel
theorem d_M_gather_43 : decode prog_11_method_21_code 43 = .ok (.baload, 1) := by decide +kernel
theorem d_M_gather_44 : decode prog_11_method_21_code 44 = .ok (.bastore, 1) := by decide +kernel
theorem d_M_gather_45 : decode prog_11_method_21_code 45 = .ok (.iinc 3 1, 3) := by decide +kernel
theorem d_M_gather_48 : decode prog_11_method_21_code 48 = .ok (.goto (-34), 3) := by decide +kernel
theorem d_M_gather_51 : decode prog_11_method_21_code 51 = .ok (.aload_n 0, 1) := by decide +kernel
theorem d_M_gather_52 : decode prog_11_method_21_code 52 = .ok (.getfield 27, 3) := by decide +kernel
theorem d_M_gather_55 : decode prog_11_method_21_code 55 = .ok (.iload_n 2, 1) := by decide +kernel
theorem d_M_gather_56 : decode prog_11_method_21_code 56 = .ok (.iload_n 1, 1) := by decide +kernel
theorem d_M_gather_57 : decode prog_11_method_21_code 57 = .ok (.iastore, 1) := by decide +kernel
theorem d_M_gather_58 : decode prog_11_method_21_code 58 = .ok (.iload_n 1, 1) := by decide +kernel
theorem d_M_gather_59 : decode prog_11_method_21_code 59 = .ok (.aload_n 0, 1) := by decide +kernel
theorem d_M_gather_60 : decode prog_11_method_21_code 60 = .ok (.getfield 30, 3) := by decide +kernel
theorem d_M_gather_63 : decode prog_11_method_21_code 63 = .ok (.iload_n 2, 1) := by decide +kernel
theorem d_M_gather_64 : decode prog_11_method_21_code 64 = .ok (.iaload, 1) := by decide +kernel
theorem d_M_gather_65 : decode prog_11_method_21_code 65 = .ok (.iadd, 1) := by decide +kernel
theorem d_M_gather_66 : decode prog_11_method_21_code 66 = .ok (.istore_n 1, 1) := by decide +kernel
theorem d_M_gather_67 : decode prog_11_method_21_code 67 = .ok (.iinc 2 1, 3) := by decide +kernel
theorem d_M_gather_70 : decode prog_11_method_21_code 70 = .ok (.goto (-66), 3) := by decide +kernel
theorem d_M_gather_73 : decode prog_11_method_21_code 73 = .ok (.aload_n 0, 1) := by decide +kernel
theorem d_M_gather_74 : decode prog_11_method_21_code 74 = .ok (.getfield 39, 3) := by decide +kernel
theorem d_M_gather_77 : decode prog_11_method_21_code 77 = .ok (.astore_n 2, 1) := by decide +kernel
theorem d_M_gather_78 : decode prog_11_method_21_code 78 = .ok (.aload_n 0, 1) := by decide +kernel
theorem d_M_gather_79 : decode prog_11_method_21_code 79 = .ok (.aload_n 0, 1) := by decide +kernel
theorem d_M_gather_80 : decode prog_11_method_21_code 80 = .ok (.getfield 42, 3) := by decide +kernel
theorem d_M_gather_83 : decode prog_11_method_21_code 83 = .ok (.putfield 39, 3) := by decide +kernel
theorem d_M_gather_86 : decode prog_11_method_21_code 86 = .ok (.aload_n 0, 1) := by decide +kernel
theorem d_M_gather_87 : decode prog_11_method_21_code 87 = .ok (.aload_n 2, 1) := by decide +kernel
theorem d_M_gather_88 : decode prog_11_method_21_code 88 = .ok (.putfield 42, 3) := by decide +kernel
theorem d_M_gather_91 : decode prog_11_method_21_code 91 = .ok (.aload_n 0, 1) := by decide +kernel
theorem d_M_gather_92 : decode prog_11_method_21_code 92 = .ok (.iload_n 1, 1) := by decide +kernel
theorem d_M_gather_93 : decode prog_11_method_21_code 93 = .ok (.putfield 90, 3) := by decide +kernel
theorem d_M_gather_96 : decode prog_11_method_21_code 96 = .ok (.return_, 1) := by decide +kernel
theorem d_M_remove_0 : decode prog_11_method_22_code 0 = .ok (.aload_n 0, 1) := by decide +kernel
theorem d_M_remove_1 : decode prog_11_method_22_code 1 = .ok (.aload_n 0, 1) := by decide +kernel
theorem d_M_remove_2 : decode prog_11_method_22_code 2 = .ok (.iload_n 1, 1) := by decide +kernel
theorem d_M_remove_3 : decode prog_11_method_22_code 3 = .ok (.invokevirtual 113, 3) := by decide +kernel
theorem d_M_remove_6 : decode prog_11_method_22_code 6 = .ok (.ifCond .eq 7, 3) := by decide +kernel
theorem d_M_remove_9 : decode prog_11_method_22_code 9 = .ok (.iconst 1, 1) := by decide +kernel
theorem d_M_remove_10 : decode prog_11_method_22_code 10 = .ok (.goto 4, 3) := by decide +kernel
theorem d_M_remove_13 : decode prog_11_method_22_code 13 = .ok (.iconst 0, 1) := by decide +kernel
theorem d_M_remove_14 : decode prog_11_method_22_code 14 = .ok (.putfield 69, 3) := by decide +kernel
theorem d_M_remove_17 : decode prog_11_method_22_code 17 = .ok (.aload_n 0, 1) := by decide +kernel
theorem d_M_remove_18 : decode prog_11_method_22_code 18 = .ok (.getfield 69, 3) := by decide +kernel
theorem d_M_remove_21 : decode prog_11_method_22_code 21 = .ok (.ifCond .le 4, 3) := by decide +kernel
theorem d_M_remove_24 : decode prog_11_method_22_code 24 = .ok (.return_, 1) := by decide +kernel
theorem d_M_remove_25 : decode prog_11_method_22_code 25 = .ok (.iload_n 1, 1) := by decide +kernel
theorem d_M_remove_26 : decode prog_11_method_22_code 26 = .ok (.istore_n 2, 1) := by decide +kernel
theorem d_M_remove_27 : decode prog_11_method_22_code 27 = .ok (.iload_n 2, 1) := by decide +kernel
theorem d_M_remove_28 : decode prog_11_method_22_code 28 = .ok (.iconst 1, 1) := by decide +kernel
theorem d_M_remove_29 : decode prog_11_method_22_code 29 = .ok (.iadd, 1) := by decide +kernel
theorem d_M_remove_30 : decode prog_11_method_22_code 30 = .ok (.aload_n 0, 1) := by decide +kernel
theorem d_M_remove_31 : decode prog_11_method_22_code 31 = .ok (.getfield 82, 3) := by decide +kernel
theorem d_M_remove_34 : decode prog_11_method_22_code 34 = .ok (.if_icmp .ge 17, 3) := by decide +kernel
theorem d_M_remove_37 : decode prog_11_method_22_code 37 = .ok (.aload_n 0, 1) := by decide +kernel
theorem d_M_remove_38 : decode prog_11_method_22_code 38 = .ok (.iload_n 2, 1) := by decide +kernel
theorem d_M_remove_39 : decode prog_11_method_22_code 39 = .ok (.iconst 1, 1) := by decide +kernel
theorem d_M_remove_40 : decode prog_11_method_22_code 40 = .ok (.iadd, 1) := by decide +kernel
theorem d_M_remove_41 : decode prog_11_method_22_code 41 = .ok (.iload_n 2, 1) := by decide +kernel
theorem d_M_remove_42 : decode prog_11_method_22_code 42 = .ok (.invokevirtual 117, 3) := by decide +kernel
theorem d_M_remove_45 : decode prog_11_method_22_code 45 = .ok (.iinc 2 1, 3) := by decide +kernel
theorem d_M_remove_48 : decode prog_11_method_22_code 48 = .ok (.goto (-21), 3) := by decide +kernel
theorem d_M_remove_51 : decode prog_11_method_22_code 51 = .ok (.aload_n 0, 1) := by decide +kernel
theorem d_M_remove_52 : decode prog_11_method_22_code 52 = .ok (.dup, 1) := by decide +kernel
theorem d_M_remove_53 : decode prog_11_method_22_code 53 = .ok (.getfield 82, 3) := by decide +kernel
theorem d_M_remove_56 : decode prog_11_method_22_code 56 = .ok (.iconst 1, 1) := by decide +kernel
theorem d_M_remove_57 : decode prog_11_method_22_code 57 = .ok (.isub, 1) := by decide +kernel
theorem d_M_remove_58 : decode prog_11_method_22_code 58 = .ok (.putfield 82, 3) := by decide +kernel
theorem d_M_remove_61 : decode prog_11_method_22_code 61 = .ok (.aload_n 0, 1) := by decide +kernel
theorem d_M_remove_62 : decode prog_11_method_22_code 62 = .ok (.invokevirtual 121, 3) := by decide +kernel
theorem d_M_remove_65 : decode prog_11_method_22_code 65 = .ok (.return_, 1) := by decide +kernel
theorem d_M_swap_0 : decode prog_11_method_23_code 0 = .ok (.iconst 0, 1) := by decide +kernel
theorem d_M_swap_1 : decode prog_11_method_23_code 1 = .ok (.istore_n 3, 1) := by decide +kernel
theorem d_M_swap_2 : decode prog_11_method_23_code 2 = .ok (.iload_n 3, 1) := by decide +kernel
theorem d_M_swap_3 : decode prog_11_method_23_code 3 = .ok (.bipush 64, 2) := by decide +kernel
theorem d_M_swap_5 : decode prog_11_method_23_code 5 = .ok (.if_icmp .ge 57, 3) := by decide +kernel
theorem d_M_swap_8 : decode prog_11_method_23_code 8 = .ok (.aload_n 0, 1) := by decide +kernel
theorem d_M_swap_9 : decode prog_11_method_23_code 9 = .ok (.getfield 18, 3) := by decide +kernel
theorem d_M_swap_12 : decode prog_11_method_23_code 12 = .ok (.bipush 64, 2) := by decide +kernel
theorem d_M_swap_14 : decode prog_11_method_23_code 14 = .ok (.iload_n 1, 1) := by decide +kernel
theorem d_M_swap_15 : decode prog_11_method_23_code 15 = .ok (.imul, 1) := by decide +kernel
theorem d_M_swap_16 : decode prog_11_method_23_code 16 = .ok (.iload_n 3, 1) := by decide +kernel
theorem d_M_swap_17 : decode prog_11_method_23_code 17 = .ok (.iadd, 1) := by decide +kernel
theorem d_M_swap_18 : decode prog_11_method_23_code 18 = .ok (.iaload, 1) := by decide +kernel
theorem d_M_swap_19 : decode prog_11_method_23_code 19 = .ok (.istore 4, 2) := by decide +kernel
theorem d_M_swap_21 : decode prog_11_method_23_code 21 = .ok (.aload_n 0, 1) := by decide +kernel
theorem d_M_swap_22 : decode prog_11_method_23_code 22 = .ok (.getfield 18, 3) := by decide +kernel
theorem d_M_swap_25 : decode prog_11_method_23_code 25 = .ok (.bipush 64, 2) := by decide +kernel
theorem d_M_swap_27 : decode prog_11_method_23_code 27 = .ok (.iload_n 1, 1) := by decide +kernel
theorem d_M_swap_28 : decode prog_11_method_23_code 28 = .ok (.imul, 1) := by decide +kernel
theorem d_M_swap_29 : decode prog_11_method_23_code 29 = .ok (.iload_n 3, 1) := by decide +kernel
theorem d_M_swap_30 : decode prog_11_method_23_code 30 = .ok (.iadd, 1) := by decide +kernel
theorem d_M_swap_31 : decode prog_11_method_23_code 31 = .ok (.aload_n 0, 1) := by decide +kernel
theorem d_M_swap_32 : decode prog_11_method_23_code 32 = .ok (.getfield 18, 3) := by decide +kernel
theorem d_M_swap_35 : decode prog_11_method_23_code 35 = .ok (.bipush 64, 2) := by decide +kernel
theorem d_M_swap_37 : decode prog_11_method_23_code 37 = .ok (.iload_n 2, 1) := by decide +kernel
theorem d_M_swap_38 : decode prog_11_method_23_code 38 = .ok (.imul, 1) := by decide +kernel
theorem d_M_swap_39 : decode prog_11_method_23_code 39 = .ok (.iload_n 3, 1) := by decide +kernel
theorem d_M_swap_40 : decode prog_11_method_23_code 40 = .ok (.iadd, 1) := by decide +kernel
theorem d_M_swap_41 : decode prog_11_method_23_code 41 = .ok (.iaload, 1) := by decide +kernel
theorem d_M_swap_42 : decode prog_11_method_23_code 42 = .ok (.iastore, 1) := by decide +kernel
theorem d_M_swap_43 : decode prog_11_method_23_code 43 = .ok (.aload_n 0, 1) := by decide +kernel
theorem d_M_swap_44 : decode prog_11_method_23_code 44 = .ok (.getfield 18, 3) := by decide +kernel
theorem d_M_swap_47 : decode prog_11_method_23_code 47 = .ok (.bipush 64, 2) := by decide +kernel
theorem d_M_swap_49 : decode prog_11_method_23_code 49 = .ok (.iload_n 2, 1) := by decide +kernel
theorem d_M_swap_50 : decode prog_11_method_23_code 50 = .ok (.imul, 1) := by decide +kernel
theorem d_M_swap_51 : decode prog_11_method_23_code 51 = .ok (.iload_n 3, 1) := by decide +kernel
theorem d_M_swap_52 : decode prog_11_method_23_code 52 = .ok (.iadd, 1) := by decide +kernel
theorem d_M_swap_53 : decode prog_11_method_23_code 53 = .ok (.iload 4, 2) := by decide +kernel
theorem d_M_swap_55 : decode prog_11_method_23_code 55 = .ok (.iastore, 1) := by decide +kernel
theorem d_M_swap_56 : decode prog_11_method_23_code 56 = .ok (.iinc 3 1, 3) := by decide +kernel
theorem d_M_swap_59 : decode prog_11_method_23_code 59 = .ok (.goto (-57), 3) := by decide +kernel
theorem d_M_swap_62 : decode prog_11_method_23_code 62 = .ok (.aload_n 0, 1) := by decide +kernel
theorem d_M_swap_63 : decode prog_11_method_23_code 63 = .ok (.getfield 21, 3) := by decide +kernel
theorem d_M_swap_66 : decode prog_11_method_23_code 66 = .ok (.iload_n 1, 1) := by decide +kernel
theorem d_M_swap_67 : decode prog_11_method_23_code 67 = .ok (.iaload, 1) := by decide +kernel
theorem d_M_swap_68 : decode prog_11_method_23_code 68 = .ok (.istore_n 3, 1) := by decide +kernel
theorem d_M_swap_69 : decode prog_11_method_23_code 69 = .ok (.aload_n 0, 1) := by decide +kernel
theorem d_M_swap_70 : decode prog_11_method_23_code 70 = .ok (.getfield 21, 3) := by decide +kernel
theorem d_M_swap_73 : decode prog_11_method_23_code 73 = .ok (.iload_n 1, 1) := by decide +kernel
theorem d_M_swap_74 : decode prog_11_method_23_code 74 = .ok (.aload_n 0, 1) := by decide +kernel
theorem d_M_swap_75 : decode prog_11_method_23_code 75 = .ok (.getfield 21, 3) := by decide +kernel
theorem d_M_swap_78 : decode prog_11_method_23_code 78 = .ok (.iload_n 2, 1) := by decide +kernel
theorem d_M_swap_79 : decode prog_11_method_23_code 79 = .ok (.iaload, 1) := by decide +kernel
theorem d_M_swap_80 : decode prog_11_method_23_code 80 = .ok (.iastore, 1) := by decide +kernel
theorem d_M_swap_81 : decode prog_11_method_23_code 81 = .ok (.aload_n 0, 1) := by decide +kernel
theorem d_M_swap_82 : decode prog_11_method_23_code 82 = .ok (.getfield 21, 3) := by decide +kernel
theorem d_M_swap_85 : decode prog_11_method_23_code 85 = .ok (.iload_n 2, 1) := by decide +kernel
theorem d_M_swap_86 : decode prog_11_method_23_code 86 = .ok (.iload_n 3, 1) := by decide +kernel
theorem d_M_swap_87 : decode prog_11_method_23_code 87 = .ok (.iastore, 1) := by decide +kernel
theorem d_M_swap_88 : decode prog_11_method_23_code 88 = .ok (.aload_n 0, 1) := by decide +kernel
theorem d_M_swap_89 : decode prog_11_method_23_code 89 = .ok (.getfield 24, 3) := by decide +kernel
theorem d_M_swap_92 : decode prog_11_method_23_code 92 = .ok (.iload_n 1, 1) := by decide +kernel
theorem d_M_swap_93 : decode prog_11_method_23_code 93 = .ok (.iaload, 1) := by decide +kernel
theorem d_M_swap_94 : decode prog_11_method_23_code 94 = .ok (.istore_n 3, 1) := by decide +kernel
theorem d_M_swap_95 : decode prog_11_method_23_code 95 = .ok (.aload_n 0, 1) := by decide +kernel
theorem d_M_swap_96 : decode prog_11_method_23_code 96 = .ok (.getfield 24, 3) := by decide +kernel
theorem d_M_swap_99 : decode prog_11_method_23_code 99 = .ok (.iload_n 1, 1) := by decide +kernel
theorem d_M_swap_100 : decode prog_11_method_23_code 100 = .ok (.aload_n 0, 1) := by decide +kernel
theorem d_M_swap_101 : decode prog_11_method_23_code 101 = .ok (.getfield 24, 3) := by decide +kernel
theorem d_M_swap_104 : decode prog_11_method_23_code 104 = .ok (.iload_n 2, 1) := by decide +kernel
theorem d_M_swap_105 : decode prog_11_method_23_code 105 = .ok (.iaload, 1) := by decide +kernel
theorem d_M_swap_106 : decode prog_11_method_23_code 106 = .ok (.iastore, 1) := by decide +kernel
theorem d_M_swap_107 : decode prog_11_method_23_code 107 = .ok (.aload_n 0, 1) := by decide +kernel
theorem d_M_swap_108 : decode prog_11_method_23_code 108 = .ok (.getfield 24, 3) := by decide +kernel
theorem d_M_swap_111 : decode prog_11_method_23_code 111 = .ok (.iload_n 2, 1) := by decide +kernel
theorem d_M_swap_112 : decode prog_11_method_23_code 112 = .ok (.iload_n 3, 1) := by decide +kernel
theorem d_M_swap_113 : decode prog_11_method_23_code 113 = .ok (.iastore, 1) := by decide +kernel
theorem d_M_swap_114 : decode prog_11_method_23_code 114 = .ok (.aload_n 0, 1) := by decide +kernel
theorem d_M_swap_115 : decode prog_11_method_23_code 115 = .ok (.getfield 27, 3) := by decide +kernel
theorem d_M_swap_118 : decode prog_11_method_23_code 118 = .ok (.iload_n 1, 1) := by decide +kernel
theorem d_M_swap_119 : decode prog_11_method_23_code 119 = .ok (.iaload, 1) := by decide +kernel
theorem d_M_swap_120 : decode prog_11_method_23_code 120 = .ok (.istore_n 3, 1) := by decide +kernel
theorem d_M_swap_121 : decode prog_11_method_23_code 121 = .ok (.aload_n 0, 1) := by decide +kernel
theorem d_M_swap_122 : decode prog_11_method_23_code 122 = .ok (.getfield 27, 3) := by decide +kernel
theorem d_M_swap_125 : decode prog_11_method_23_code 125 = .ok (.iload_n 1, 1) := by decide +kernel
theorem d_M_swap_126 : decode prog_11_method_23_code 126 = .ok (.aload_n 0, 1) := by decide +kernel
theorem d_M_swap_127 : decode prog_11_method_23_code 127 = .ok (.getfield 27, 3) := by decide +kernel
theorem d_M_swap_130 : decode prog_11_method_23_code 130 = .ok (.iload_n 2, 1) := by decide +kernel
theorem d_M_swap_131 : decode prog_11_method_23_code 131 = .ok (.iaload, 1) := by decide +kernel
theorem d_M_swap_132 : decode prog_11_method_23_code 132 = .ok (.iastore, 1) := by decide +kernel
theorem d_M_swap_133 : decode prog_11_method_23_code 133 = .ok (.aload_n 0, 1) := by decide +kernel
theorem d_M_swap_134 : decode prog_11_method_23_code 134 = .ok (.getfield 27, 3) := by decide +kernel
theorem d_M_swap_137 : decode prog_11_method_23_code 137 = .ok (.iload_n 2, 1) := by decide +kernel
theorem d_M_swap_138 : decode prog_11_method_23_code 138 = .ok (.iload_n 3, 1) := by decide +kernel
theorem d_M_swap_139 : decode prog_11_method_23_code 139 = .ok (.iastore, 1) := by decide +kernel
theorem d_M_swap_140 : decode prog_11_method_23_code 140 = .ok (.aload_n 0, 1) := by decide +kernel
theorem d_M_swap_141 : decode prog_11_method_23_code 141 = .ok (.getfield 30, 3) := by decide +kernel
theorem d_M_swap_144 : decode prog_11_method_23_code 144 = .ok (.iload_n 1, 1) := by decide +kernel
theorem d_M_swap_145 : decode prog_11_method_23_code 145 = .ok (.iaload, 1) := by decide +kernel
theorem d_M_swap_146 : decode prog_11_method_23_code 146 = .ok (.istore_n 3, 1) := by decide +kernel
theorem d_M_swap_147 : decode prog_11_method_23_code 147 = .ok (.aload_n 0, 1) := by decide +kernel
theorem d_M_swap_148 : decode prog_11_method_23_code 148 = .ok (.getfield 30, 3) := by decide +kernel
theorem d_M_swap_151 : decode prog_11_method_23_code 151 = .ok (.iload_n 1, 1) := by decide +kernel
theorem d_M_swap_152 : decode prog_11_method_23_code 152 = .ok (.aload_n 0, 1) := by decide +kernel
theorem d_M_swap_153 : decode prog_11_method_23_code 153 = .ok (.getfield 30, 3) := by decide +kernel
theorem d_M_swap_156 : decode prog_11_method_23_code 156 = .ok (.iload_n 2, 1) := by decide +kernel
theorem d_M_swap_157 : decode prog_11_method_23_code 157 = .ok (.iaload, 1) := by decide +kernel
theorem d_M_swap_158 : decode prog_11_method_23_code 158 = .ok (.iastore, 1) := by decide +kernel
theorem d_M_swap_159 : decode prog_11_method_23_code 159 = .ok (.aload_n 0, 1) := by decide +kernel
theorem d_M_swap_160 : decode prog_11_method_23_code 160 = .ok (.getfield 30, 3) := by decide +kernel
theorem d_M_swap_163 : decode prog_11_method_23_code 163 = .ok (.iload_n 2, 1) := by decide +kernel
theorem d_M_swap_164 : decode prog_11_method_23_code 164 = .ok (.iload_n 3, 1) := by decide +kernel
theorem d_M_swap_165 : decode prog_11_method_23_code 165 = .ok (.iastore, 1) := by decide +kernel
theorem d_M_swap_166 : decode prog_11_method_23_code 166 = .ok (.aload_n 0, 1) := by decide +kernel
theorem d_M_swap_167 : decode prog_11_method_23_code 167 = .ok (.getfield 33, 3) := by decide +kernel
theorem d_M_swap_170 : decode prog_11_method_23_code 170 = .ok (.iload_n 1, 1) := by decide +kernel
theorem d_M_swap_171 : decode prog_11_method_23_code 171 = .ok (.iaload, 1) := by decide +kernel
theorem d_M_swap_172 : decode prog_11_method_23_code 172 = .ok (.istore_n 3, 1) := by decide +kernel
theorem d_M_swap_173 : decode prog_11_method_23_code 173 = .ok (.aload_n 0, 1) := by decide +kernel
theorem d_M_swap_174 : decode prog_11_method_23_code 174 = .ok (.getfield 33, 3) := by decide +kernel
theorem d_M_swap_177 : decode prog_11_method_23_code 177 = .ok (.iload_n 1, 1) := by decide +kernel
theorem d_M_swap_178 : decode prog_11_method_23_code 178 = .ok (.aload_n 0, 1) := by decide +kernel
theorem d_M_swap_179 : decode prog_11_method_23_code 179 = .ok (.getfield 33, 3) := by decide +kernel
theorem d_M_swap_182 : decode prog_11_method_23_code 182 = .ok (.iload_n 2, 1) := by decide +kernel
theorem d_M_swap_183 : decode prog_11_method_23_code 183 = .ok (.iaload, 1) := by decide +kernel
theorem d_M_swap_184 : decode prog_11_method_23_code 184 = .ok (.iastore, 1) := by decide +kernel
theorem d_M_swap_185 : decode prog_11_method_23_code 185 = .ok (.aload_n 0, 1) := by decide +kernel
theorem d_M_swap_186 : decode prog_11_method_23_code 186 = .ok (.getfield 33, 3) := by decide +kernel
theorem d_M_swap_189 : decode prog_11_method_23_code 189 = .ok (.iload_n 2, 1) := by decide +kernel
theorem d_M_swap_190 : decode prog_11_method_23_code 190 = .ok (.iload_n 3, 1) := by decide +kernel
theorem d_M_swap_191 : decode prog_11_method_23_code 191 = .ok (.iastore, 1) := by decide +kernel
theorem d_M_swap_192 : decode prog_11_method_23_code 192 = .ok (.aload_n 0, 1) := by decide +kernel
theorem d_M_swap_193 : decode prog_11_method_23_code 193 = .ok (.getfield 36, 3) := by decide +kernel
theorem d_M_swap_196 : decode prog_11_method_23_code 196 = .ok (.iload_n 1, 1) := by decide +kernel
theorem d_M_swap_197 : decode prog_11_method_23_code 197 = .ok (.iaload, 1) := by decide +kernel
theorem d_M_swap_198 : decode prog_11_method_23_code 198 = .ok (.istore_n 3, 1) := by decide +kernel
theorem d_M_swap_199 : decode prog_11_method_23_code 199 = .ok (.aload_n 0, 1) := by decide +kernel
theorem d_M_swap_200 : decode prog_11_method_23_code 200 = .ok (.getfield 36, 3) := by decide +kernel
theorem d_M_swap_203 : decode prog_11_method_23_code 203 = .ok (.iload_n 1, 1) := by decide +kernel
theorem d_M_swap_204 : decode prog_11_method_23_code 204 = .ok (.aload_n 0, 1) := by decide +kernel
theorem d_M_swap_205 : decode prog_11_method_23_code 205 = .ok (.getfield 36, 3) := by decide +kernel
theorem d_M_swap_208 : decode prog_11_method_23_code 208 = .ok (.iload_n 2, 1) := by decide +kernel
theorem d_M_swap_209 : decode prog_11_method_23_code 209 = .ok (.iaload, 1) := by decide +kernel
theorem d_M_swap_210 : decode prog_11_method_23_code 210 = .ok (.iastore, 1) := by decide +kernel
theorem d_M_swap_211 : decode prog_11_method_23_code 211 = .ok (.aload_n 0, 1) := by decide +kernel
theorem d_M_swap_212 : decode prog_11_method_23_code 212 = .ok (.getfield 36, 3) := by decide +kernel
theorem d_M_swap_215 : decode prog_11_method_23_code 215 = .ok (.iload_n 2, 1) := by decide +kernel
theorem d_M_swap_216 : decode prog_11_method_23_code 216 = .ok (.iload_n 3, 1) := by decide +kernel
theorem d_M_swap_217 : decode prog_11_method_23_code 217 = .ok (.iastore, 1) := by decide +kernel
theorem d_M_swap_218 : decode prog_11_method_23_code 218 = .ok (.return_, 1) := by decide +kernel
theorem d_M_move_0 : decode prog_11_method_24_code 0 = .ok (.aload_n 0, 1) := by decide +kernel
theorem d_M_move_1 : decode prog_11_method_24_code 1 = .ok (.aload_n 0, 1) := by decide +kernel
theorem d_M_move_2 : decode prog_11_method_24_code 2 = .ok (.iload_n 1, 1) := by decide +kernel
theorem d_M_move_3 : decode prog_11_method_24_code 3 = .ok (.invokevirtual 113, 3) := by decide +kernel
theorem d_M_move_6 : decode prog_11_method_24_code 6 = .ok (.ifCond .ne 11, 3) := by decide +kernel
theorem d_M_move_9 : decode prog_11_method_24_code 9 = .ok (.aload_n 0, 1) := by decide +kernel
theorem d_M_move_10 : decode prog_11_method_24_code 10 = .ok (.iload_n 2, 1) := by decide +kernel
theorem d_M_move_11 : decode prog_11_method_24_code 11 = .ok (.invokevirtual 113, 3) := by decide +kernel
theorem d_M_move_14 : decode prog_11_method_24_code 14 = .ok (.ifCond .eq 7, 3) := by decide +kernel
theorem d_M_move_17 : decode prog_11_method_24_code 17 = .ok (.iconst 1, 1) := by decide +kernel
theorem d_M_move_18 : decode prog_11_method_24_code 18 = .ok (.goto 4, 3) := by decide +kernel
theorem d_M_move_21 : decode prog_11_method_24_code 21 = .ok (.iconst 0, 1) := by decide +kernel
theorem d_M_move_22 : decode prog_11_method_24_code 22 = .ok (.putfield 69, 3) := by decide +kernel
theorem d_M_move_25 : decode prog_11_method_24_code 25 = .ok (.aload_n 0, 1) := by decide +kernel
theorem d_M_move_26 : decode prog_11_method_24_code 26 = .ok (.getfield 69, 3) := by decide +kernel
theorem d_M_move_29 : decode prog_11_method_24_code 29 = .ok (.ifCond .le 4, 3) := by decide +kernel
theorem d_M_move_32 : decode prog_11_method_24_code 32 = .ok (.return_, 1) := by decide +kernel
theorem d_M_move_33 : decode prog_11_method_24_code 33 = .ok (.iload_n 1, 1) := by decide +kernel
theorem d_M_move_34 : decode prog_11_method_24_code 34 = .ok (.istore_n 3, 1) := by decide +kernel
theorem d_M_move_35 : decode prog_11_method_24_code 35 = .ok (.iload_n 3, 1) := by decide +kernel
theorem d_M_move_36 : decode prog_11_method_24_code 36 = .ok (.iload_n 2, 1) := by decide +kernel
theorem d_M_move_37 : decode prog_11_method_24_code 37 = .ok (.if_icmp .eq 32, 3) := by decide +kernel
theorem d_M_move_40 : decode prog_11_method_24_code 40 = .ok (.iload_n 3, 1) := by decide +kernel
theorem d_M_move_41 : decode prog_11_method_24_code 41 = .ok (.iload_n 2, 1) := by decide +kernel
theorem d_M_move_42 : decode prog_11_method_24_code 42 = .ok (.if_icmp .ge 9, 3) := by decide +kernel
theorem d_M_move_45 : decode prog_11_method_24_code 45 = .ok (.iload_n 3, 1) := by decide +kernel
theorem d_M_move_46 : decode prog_11_method_24_code 46 = .ok (.iconst 1, 1) := by decide +kernel
theorem d_M_move_47 : decode prog_11_method_24_code 47 = .ok (.iadd, 1) := by decide +kernel
theorem d_M_move_48 : decode prog_11_method_24_code 48 = .ok (.goto 6, 3) := by decide +kernel
theorem d_M_move_51 : decode prog_11_method_24_code 51 = .ok (.iload_n 3, 1) := by decide +kernel
theorem d_M_move_52 : decode prog_11_method_24_code 52 = .ok (.iconst 1, 1) := by decide +kernel
theorem d_M_move_53 : decode prog_11_method_24_code 53 = .ok (.isub, 1) := by decide +kernel
theorem d_M_move_54 : decode prog_11_method_24_code 54 = .ok (.istore 4, 2) := by decide +kernel
theorem d_M_move_56 : decode prog_11_method_24_code 56 = .ok (.aload_n 0, 1) := by decide +kernel
theorem d_M_move_57 : decode prog_11_method_24_code 57 = .ok (.iload_n 3, 1) := by decide +kernel
theorem d_M_move_58 : decode prog_11_method_24_code 58 = .ok (.iload 4, 2) := by decide +kernel
theorem d_M_move_60 : decode prog_11_method_24_code 60 = .ok (.invokevirtual 124, 3) := by decide +kernel
theorem d_M_move_63 : decode prog_11_method_24_code 63 = .ok (.iload 4, 2) := by decide +kernel
theorem d_M_move_65 : decode prog_11_method_24_code 65 = .ok (.istore_n 3, 1) := by decide +kernel
theorem d_M_move_66 : decode prog_11_method_24_code 66 = .ok (.goto (-31), 3) := by decide +kernel
theorem d_M_move_69 : decode prog_11_method_24_code 69 = .ok (.return_, 1) := by decide +kernel
theorem d_M_find_0 : decode prog_11_method_25_code 0 = .ok (.aload_n 0, 1) := by decide +kernel
theorem d_M_find_1 : decode prog_11_method_25_code 1 = .ok (.iconst 0, 1) := by decide +kernel
theorem d_M_find_2 : decode prog_11_method_25_code 2 = .ok (.putfield 69, 3) := by decide +kernel
theorem d_M_find_5 : decode prog_11_method_25_code 5 = .ok (.aload_n 0, 1) := by decide +kernel
theorem d_M_find_6 : decode prog_11_method_25_code 6 = .ok (.invokevirtual 97, 3) := by decide +kernel
theorem d_M_find_9 : decode prog_11_method_25_code 9 = .ok (.ireturn, 1) := by decide +kernel
theorem d_M_about_0 : decode prog_11_method_26_code 0 = .ok (.aload_n 0, 1) := by decide +kernel
theorem d_M_about_1 : decode prog_11_method_26_code 1 = .ok (.aload_n 0, 1) := by decide +kernel
theorem d_M_about_2 : decode prog_11_method_26_code 2 = .ok (.iload_n 1, 1) := by decide +kernel
theorem d_M_about_3 : decode prog_11_method_26_code 3 = .ok (.invokevirtual 113, 3) := by decide +kernel
theorem d_M_about_6 : decode prog_11_method_26_code 6 = .ok (.ifCond .eq 7, 3) := by decide +kernel
theorem d_M_about_9 : decode prog_11_method_26_code 9 = .ok (.iconst 1, 1) := by decide +kernel
theorem d_M_about_10 : decode prog_11_method_26_code 10 = .ok (.goto 17, 3) := by decide +kernel
theorem d_M_about_13 : decode prog_11_method_26_code 13 = .ok (.iload_n 2, 1) := by decide +kernel
theorem d_M_about_14 : decode prog_11_method_26_code 14 = .ok (.ifCond .lt 8, 3) := by decide +kernel
theorem d_M_about_17 : decode prog_11_method_26_code 17 = .ok (.iload_n 2, 1) := by decide +kernel
theorem d_M_about_18 : decode prog_11_method_26_code 18 = .ok (.iconst 4, 1) := by decide +kernel
theorem d_M_about_19 : decode prog_11_method_26_code 19 = .ok (.if_icmp .le 7, 3) := by decide +kernel
theorem d_M_about_22 : decode prog_11_method_26_code 22 = .ok (.iconst 2, 1) := by decide +kernel
theorem d_M_about_23 : decode prog_11_method_26_code 23 = .ok (.goto 4, 3) := by decide +kernel
theorem d_M_about_26 : decode prog_11_method_26_code 26 = .ok (.iconst 0, 1) := by decide +kernel
theorem d_M_about_27 : decode prog_11_method_26_code 27 = .ok (.putfield 69, 3) := by decide +kernel
theorem d_M_about_30 : decode prog_11_method_26_code 30 = .ok (.aload_n 0, 1) := by decide +kernel
theorem d_M_about_31 : decode prog_11_method_26_code 31 = .ok (.getfield 69, 3) := by decide +kernel
theorem d_M_about_34 : decode prog_11_method_26_code 34 = .ok (.ifCond .le 5, 3) := by decide +kernel
theorem d_M_about_37 : decode prog_11_method_26_code 37 = .ok (.iconst 0, 1) := by decide +kernel
theorem d_M_about_38 : decode prog_11_method_26_code 38 = .ok (.ireturn, 1) := by decide +kernel
theorem d_M_about_39 : decode prog_11_method_26_code 39 = .ok (.iload_n 2, 1) := by decide +kernel
theorem d_M_about_40 : decode prog_11_method_26_code 40 = .ok (.ifCond .ne 12, 3) := by decide +kernel
theorem d_M_about_43 : decode prog_11_method_26_code 43 = .ok (.aload_n 0, 1) := by decide +kernel
theorem d_M_about_44 : decode prog_11_method_26_code 44 = .ok (.getfield 24, 3) := by decide +kernel
theorem d_M_about_47 : decode prog_11_method_26_code 47 = .ok (.iload_n 1, 1) := by decide +kernel
theorem d_M_about_48 : decode prog_11_method_26_code 48 = .ok (.iaload, 1) := by decide +kernel
theorem d_M_about_49 : decode prog_11_method_26_code 49 = .ok (.goto 51, 3) := by decide +kernel
theorem d_M_about_52 : decode prog_11_method_26_code 52 = .ok (.iload_n 2, 1) := by decide +kernel
theorem d_M_about_53 : decode prog_11_method_26_code 53 = .ok (.iconst 1, 1) := by decide +kernel
theorem d_M_about_54 : decode prog_11_method_26_code 54 = .ok (.if_icmp .ne 12, 3) := by decide +kernel
theorem d_M_about_57 : decode prog_11_method_26_code 57 = .ok (.aload_n 0, 1) := by decide +kernel
theorem d_M_about_58 : decode prog_11_method_26_code 58 = .ok (.getfield 30, 3) := by decide +kernel
theorem d_M_about_61 : decode prog_11_method_26_code 61 = .ok (.iload_n 1, 1) := by decide +kernel
theorem d_M_about_62 : decode prog_11_method_26_code 62 = .ok (.iaload, 1) := by decide +kernel
theorem d_M_about_63 : decode prog_11_method_26_code 63 = .ok (.goto 37, 3) := by decide +kernel
theorem d_M_about_66 : decode prog_11_method_26_code 66 = .ok (.iload_n 2, 1) := by decide +kernel
theorem d_M_about_67 : decode prog_11_method_26_code 67 = .ok (.iconst 2, 1) := by decide +kernel
theorem d_M_about_68 : decode prog_11_method_26_code 68 = .ok (.if_icmp .ne 12, 3) := by decide +kernel
theorem d_M_about_71 : decode prog_11_method_26_code 71 = .ok (.aload_n 0, 1) := by decide +kernel
theorem d_M_about_72 : decode prog_11_method_26_code 72 = .ok (.getfield 33, 3) := by decide +kernel
theorem d_M_about_75 : decode prog_11_method_26_code 75 = .ok (.iload_n 1, 1) := by decide +kernel
theorem d_M_about_76 : decode prog_11_method_26_code 76 = .ok (.iaload, 1) := by decide +kernel
theorem d_M_about_77 : decode prog_11_method_26_code 77 = .ok (.goto 23, 3) := by decide +kernel
theorem d_M_about_80 : decode prog_11_method_26_code 80 = .ok (.iload_n 2, 1) := by decide +kernel
theorem d_M_about_81 : decode prog_11_method_26_code 81 = .ok (.iconst 3, 1) := by decide +kernel
theorem d_M_about_82 : decode prog_11_method_26_code 82 = .ok (.if_icmp .ne 12, 3) := by decide +kernel
theorem d_M_about_85 : decode prog_11_method_26_code 85 = .ok (.aload_n 0, 1) := by decide +kernel
theorem d_M_about_86 : decode prog_11_method_26_code 86 = .ok (.getfield 36, 3) := by decide +kernel
theorem d_M_about_89 : decode prog_11_method_26_code 89 = .ok (.iload_n 1, 1) := by decide +kernel
theorem d_M_about_90 : decode prog_11_method_26_code 90 = .ok (.iaload, 1) := by decide +kernel
theorem d_M_about_91 : decode prog_11_method_26_code 91 = .ok (.goto 9, 3) := by decide +kernel
theorem d_M_about_94 : decode prog_11_method_26_code 94 = .ok (.aload_n 0, 1) := by decide +kernel
theorem d_M_about_95 : decode prog_11_method_26_code 95 = .ok (.getfield 21, 3) := by decide +kernel
theorem d_M_about_98 : decode prog_11_method_26_code 98 = .ok (.iload_n 1, 1) := by decide +kernel
theorem d_M_about_99 : decode prog_11_method_26_code 99 = .ok (.iaload, 1) := by decide +kernel
theorem d_M_about_100 : decode prog_11_method_26_code 100 = .ok (.ireturn, 1) := by decide +kernel
theorem d_M_name_0 : decode prog_11_method_27_code 0 = .ok (.aload_n 0, 1) := by decide +kernel
theorem d_M_name_1 : decode prog_11_method_27_code 1 = .ok (.aload_n 0, 1) := by decide +kernel
theorem d_M_name_2 : decode prog_11_method_27_code 2 = .ok (.iload_n 1, 1) := by decide +kernel
theorem d_M_name_3 : decode prog_11_method_27_code 3 = .ok (.invokevirtual 113, 3) := by decide +kernel
theorem d_M_name_6 : decode prog_11_method_27_code 6 = .ok (.ifCond .eq 7, 3) := by decide +kernel
theorem d_M_name_9 : decode prog_11_method_27_code 9 = .ok (.iconst 1, 1) := by decide +kernel
theorem d_M_name_10 : decode prog_11_method_27_code 10 = .ok (.goto 4, 3) := by decide +kernel
theorem d_M_name_13 : decode prog_11_method_27_code 13 = .ok (.iconst 0, 1) := by decide +kernel
theorem d_M_name_14 : decode prog_11_method_27_code 14 = .ok (.putfield 69, 3) := by decide +kernel
theorem d_M_name_17 : decode prog_11_method_27_code 17 = .ok (.aload_n 0, 1) := by decide +kernel
theorem d_M_name_18 : decode prog_11_method_27_code 18 = .ok (.getfield 69, 3) := by decide +kernel
theorem d_M_name_21 : decode prog_11_method_27_code 21 = .ok (.ifCond .le 7, 3) := by decide +kernel
theorem d_M_name_24 : decode prog_11_method_27_code 24 = .ok (.iconst 0, 1) := by decide +kernel
theorem d_M_name_25 : decode prog_11_method_27_code 25 = .ok (.goto 32, 3) := by decide +kernel
theorem d_M_name_28 : decode prog_11_method_27_code 28 = .ok (.iload_n 2, 1) := by decide +kernel
theorem d_M_name_29 : decode prog_11_method_27_code 29 = .ok (.ifCond .lt 13, 3) := by decide +kernel
theorem d_M_name_32 : decode prog_11_method_27_code 32 = .ok (.iload_n 2, 1) := by decide +kernel
theorem d_M_name_33 : decode prog_11_method_27_code 33 = .ok (.aload_n 0, 1) := by decide +kernel
theorem d_M_name_34 : decode prog_11_method_27_code 34 = .ok (.getfield 21, 3) := by decide +kernel
theorem d_M_name_37 : decode prog_11_method_27_code 37 = .ok (.iload_n 1, 1) := by decide +kernel
theorem d_M_name_38 : decode prog_11_method_27_code 38 = .ok (.iaload, 1) := by decide +kernel
theorem d_M_name_39 : decode prog_11_method_27_code 39 = .ok (.if_icmp .lt 7, 3) := by decide +kernel
theorem d_M_name_42 : decode prog_11_method_27_code 42 = .ok (.iconst (-1), 1) := by decide +kernel
theorem d_M_name_43 : decode prog_11_method_27_code 43 = .ok (.goto 14, 3) := by decide +kernel
theorem d_M_name_46 : decode prog_11_method_27_code 46 = .ok (.aload_n 0, 1) := by decide +kernel
theorem d_M_name_47 : decode prog_11_method_27_code 47 = .ok (.getfield 18, 3) := by decide +kernel
theorem d_M_name_50 : decode prog_11_method_27_code 50 = .ok (.bipush 64, 2) := by decide +kernel
theorem d_M_name_52 : decode prog_11_method_27_code 52 = .ok (.iload_n 1, 1) := by decide +kernel
theorem d_M_name_53 : decode prog_11_method_27_code 53 = .ok (.imul, 1) := by decide +kernel
theorem d_M_name_54 : decode prog_11_method_27_code 54 = .ok (.iload_n 2, 1) := by decide +kernel
theorem d_M_name_55 : decode prog_11_method_27_code 55 = .ok (.iadd, 1) := by decide +kernel
theorem d_M_name_56 : decode prog_11_method_27_code 56 = .ok (.iaload, 1) := by decide +kernel
theorem d_M_name_57 : decode prog_11_method_27_code 57 = .ok (.ireturn, 1) := by decide +kernel
theorem d_M_part_0 : decode prog_11_method_28_code 0 = .ok (.aload_n 0, 1) := by decide +kernel
theorem d_M_part_1 : decode prog_11_method_28_code 1 = .ok (.aload_n 0, 1) := by decide +kernel
theorem d_M_part_2 : decode prog_11_method_28_code 2 = .ok (.iload_n 1, 1) := by decide +kernel
theorem d_M_part_3 : decode prog_11_method_28_code 3 = .ok (.invokevirtual 113, 3) := by decide +kernel
theorem d_M_part_6 : decode prog_11_method_28_code 6 = .ok (.ifCond .ne 17, 3) := by decide +kernel
theorem d_M_part_9 : decode prog_11_method_28_code 9 = .ok (.iload_n 2, 1) := by decide +kernel
theorem d_M_part_10 : decode prog_11_method_28_code 10 = .ok (.ifCond .lt 13, 3) := by decide +kernel
theorem d_M_part_13 : decode prog_11_method_28_code 13 = .ok (.iload_n 2, 1) := by decide +kernel
theorem d_M_part_14 : decode prog_11_method_28_code 14 = .ok (.aload_n 0, 1) := by decide +kernel
theorem d_M_part_15 : decode prog_11_method_28_code 15 = .ok (.getfield 30, 3) := by decide +kernel
theorem d_M_part_18 : decode prog_11_method_28_code 18 = .ok (.iload_n 1, 1) := by decide +kernel
theorem d_M_part_19 : decode prog_11_method_28_code 19 = .ok (.iaload, 1) := by decide +kernel
theorem d_M_part_20 : decode prog_11_method_28_code 20 = .ok (.if_icmp .lt 7, 3) := by decide +kernel
theorem d_M_part_23 : decode prog_11_method_28_code 23 = .ok (.iconst 1, 1) := by decide +kernel
theorem d_M_part_24 : decode prog_11_method_28_code 24 = .ok (.goto 4, 3) := by decide +kernel
theorem d_M_part_27 : decode prog_11_method_28_code 27 = .ok (.iconst 0, 1) := by decide +kernel
theorem d_M_part_28 : decode prog_11_method_28_code 28 = .ok (.putfield 69, 3) := by decide +kernel
theorem d_M_part_31 : decode prog_11_method_28_code 31 = .ok (.aload_n 0, 1) := by decide +kernel
theorem d_M_part_32 : decode prog_11_method_28_code 32 = .ok (.getfield 69, 3) := by decide +kernel
theorem d_M_part_35 : decode prog_11_method_28_code 35 = .ok (.ifCond .le 7, 3) := by decide +kernel
theorem d_M_part_38 : decode prog_11_method_28_code 38 = .ok (.iconst 0, 1) := by decide +kernel
theorem d_M_part_39 : decode prog_11_method_28_code 39 = .ok (.goto 20, 3) := by decide +kernel
theorem d_M_part_42 : decode prog_11_method_28_code 42 = .ok (.aload_n 0, 1) := by decide +kernel
theorem d_M_part_43 : decode prog_11_method_28_code 43 = .ok (.getfield 39, 3) := by decide +kernel
theorem d_M_part_46 : decode prog_11_method_28_code 46 = .ok (.aload_n 0, 1) := by decide +kernel
theorem d_M_part_47 : decode prog_11_method_28_code 47 = .ok (.getfield 27, 3) := by decide +kernel
theorem d_M_part_50 : decode prog_11_method_28_code 50 = .ok (.iload_n 1, 1) := by decide +kernel
theorem d_M_part_51 : decode prog_11_method_28_code 51 = .ok (.iaload, 1) := by decide +kernel
theorem d_M_part_52 : decode prog_11_method_28_code 52 = .ok (.iload_n 2, 1) := by decide +kernel
theorem d_M_part_53 : decode prog_11_method_28_code 53 = .ok (.iadd, 1) := by decide +kernel
theorem d_M_part_54 : decode prog_11_method_28_code 54 = .ok (.baload, 1) := by decide +kernel
theorem d_M_part_55 : decode prog_11_method_28_code 55 = .ok (.sipush 255, 3) := by decide +kernel
theorem d_M_part_58 : decode prog_11_method_28_code 58 = .ok (.iand, 1) := by decide +kernel
theorem d_M_part_59 : decode prog_11_method_28_code 59 = .ok (.ireturn, 1) := by decide +kernel
theorem d_M_count_0 : decode prog_11_method_29_code 0 = .ok (.aload_n 0, 1) := by decide +kernel
theorem d_M_count_1 : decode prog_11_method_29_code 1 = .ok (.iconst 0, 1) := by decide +kernel
theorem d_M_count_2 : decode prog_11_method_29_code 2 = .ok (.putfield 69, 3) := by decide +kernel
theorem d_M_count_5 : decode prog_11_method_29_code 5 = .ok (.aload_n 0, 1) := by decide +kernel
theorem d_M_count_6 : decode prog_11_method_29_code 6 = .ok (.getfield 82, 3) := by decide +kernel
theorem d_M_count_9 : decode prog_11_method_29_code 9 = .ok (.ireturn, 1) := by decide +kernel
theorem d_M_low_0 : decode prog_11_method_30_code 0 = .ok (.iconst 0, 1) := by decide +kernel
theorem d_M_low_1 : decode prog_11_method_30_code 1 = .ok (.istore_n 3, 1) := by decide +kernel
theorem d_M_low_2 : decode prog_11_method_30_code 2 = .ok (.iload_n 3, 1) := by decide +kernel
theorem d_M_low_3 : decode prog_11_method_30_code 3 = .ok (.iload_n 2, 1) := by decide +kernel
theorem d_M_low_4 : decode prog_11_method_30_code 4 = .ok (.if_icmp .ge 44, 3) := by decide +kernel
theorem d_M_low_7 : decode prog_11_method_30_code 7 = .ok (.aload_n 0, 1) := by decide +kernel
theorem d_M_low_8 : decode prog_11_method_30_code 8 = .ok (.getfield 8, 3) := by decide +kernel
theorem d_M_low_11 : decode prog_11_method_30_code 11 = .ok (.aload_n 0, 1) := by decide +kernel
theorem d_M_low_12 : decode prog_11_method_30_code 12 = .ok (.getfield 127, 3) := by decide +kernel
theorem d_M_low_15 : decode prog_11_method_30_code 15 = .ok (.iload_n 3, 1) := by decide +kernel
theorem d_M_low_16 : decode prog_11_method_30_code 16 = .ok (.iconst 4, 1) := by decide +kernel
theorem d_M_low_17 : decode prog_11_method_30_code 17 = .ok (.if_icmp .ge 12, 3) := by decide +kernel
theorem d_M_low_20 : decode prog_11_method_30_code 20 = .ok (.iload_n 1, 1) := by decide +kernel
theorem d_M_low_21 : decode prog_11_method_30_code 21 = .ok (.bipush 8, 2) := by decide +kernel
theorem d_M_low_23 : decode prog_11_method_30_code 23 = .ok (.iload_n 3, 1) := by decide +kernel
theorem d_M_low_24 : decode prog_11_method_30_code 24 = .ok (.imul, 1) := by decide +kernel
theorem d_M_low_25 : decode prog_11_method_30_code 25 = .ok (.ishr, 1) := by decide +kernel
theorem d_M_low_26 : decode prog_11_method_30_code 26 = .ok (.goto 4, 3) := by decide +kernel
theorem d_M_low_29 : decode prog_11_method_30_code 29 = .ok (.iconst 0, 1) := by decide +kernel
theorem d_M_low_30 : decode prog_11_method_30_code 30 = .ok (.i2b, 1) := by decide +kernel
theorem d_M_low_31 : decode prog_11_method_30_code 31 = .ok (.bastore, 1) := by decide +kernel
theorem d_M_low_32 : decode prog_11_method_30_code 32 = .ok (.aload_n 0, 1) := by decide +kernel
theorem d_M_low_33 : decode prog_11_method_30_code 33 = .ok (.dup, 1) := by decide +kernel
theorem d_M_low_34 : decode prog_11_method_30_code 34 = .ok (.getfield 127, 3) := by decide +kernel
theorem d_M_low_37 : decode prog_11_method_30_code 37 = .ok (.iconst 1, 1) := by decide +kernel
theorem d_M_low_38 : decode prog_11_method_30_code 38 = .ok (.iadd, 1) := by decide +kernel
theorem d_M_low_39 : decode prog_11_method_30_code 39 = .ok (.putfield 127, 3) := by decide +kernel
theorem d_M_low_42 : decode prog_11_method_30_code 42 = .ok (.iinc 3 1, 3) := by decide +kernel
theorem d_M_low_45 : decode prog_11_method_30_code 45 = .ok (.goto (-43), 3) := by decide +kernel
theorem d_M_low_48 : decode prog_11_method_30_code 48 = .ok (.return_, 1) := by decide +kernel
theorem d_M_middle_0 : decode prog_11_method_31_code 0 = .ok (.aload_n 0, 1) := by decide +kernel
theorem d_M_middle_1 : decode prog_11_method_31_code 1 = .ok (.iconst 0, 1) := by decide +kernel
theorem d_M_middle_2 : decode prog_11_method_31_code 2 = .ok (.iconst 2, 1) := by decide +kernel
theorem d_M_middle_3 : decode prog_11_method_31_code 3 = .ok (.invokevirtual 130, 3) := by decide +kernel
theorem d_M_middle_6 : decode prog_11_method_31_code 6 = .ok (.aload_n 0, 1) := by decide +kernel
theorem d_M_middle_7 : decode prog_11_method_31_code 7 = .ok (.aload_n 0, 1) := by decide +kernel
theorem d_M_middle_8 : decode prog_11_method_31_code 8 = .ok (.getfield 24, 3) := by decide +kernel
theorem d_M_middle_11 : decode prog_11_method_31_code 11 = .ok (.iload_n 1, 1) := by decide +kernel
theorem d_M_middle_12 : decode prog_11_method_31_code 12 = .ok (.iaload, 1) := by decide +kernel
theorem d_M_middle_13 : decode prog_11_method_31_code 13 = .ok (.iconst 2, 1) := by decide +kernel
theorem d_M_middle_14 : decode prog_11_method_31_code 14 = .ok (.invokevirtual 130, 3) := by decide +kernel
theorem d_M_middle_17 : decode prog_11_method_31_code 17 = .ok (.aload_n 0, 1) := by decide +kernel
theorem d_M_middle_18 : decode prog_11_method_31_code 18 = .ok (.iconst 0, 1) := by decide +kernel
theorem d_M_middle_19 : decode prog_11_method_31_code 19 = .ok (.iconst 4, 1) := by decide +kernel
theorem d_M_middle_20 : decode prog_11_method_31_code 20 = .ok (.invokevirtual 130, 3) := by decide +kernel
theorem d_M_middle_23 : decode prog_11_method_31_code 23 = .ok (.aload_n 0, 1) := by decide +kernel
theorem d_M_middle_24 : decode prog_11_method_31_code 24 = .ok (.aload_n 0, 1) := by decide +kernel
theorem d_M_middle_25 : decode prog_11_method_31_code 25 = .ok (.getfield 36, 3) := by decide +kernel
theorem d_M_middle_28 : decode prog_11_method_31_code 28 = .ok (.iload_n 1, 1) := by decide +kernel
theorem d_M_middle_29 : decode prog_11_method_31_code 29 = .ok (.iaload, 1) := by decide +kernel
theorem d_M_middle_30 : decode prog_11_method_31_code 30 = .ok (.iconst 4, 1) := by decide +kernel
theorem d_M_middle_31 : decode prog_11_method_31_code 31 = .ok (.invokevirtual 130, 3) := by decide +kernel
theorem d_M_middle_34 : decode prog_11_method_31_code 34 = .ok (.aload_n 0, 1) := by decide +kernel
theorem d_M_middle_35 : decode prog_11_method_31_code 35 = .ok (.aload_n 0, 1) := by decide +kernel
theorem d_M_middle_36 : decode prog_11_method_31_code 36 = .ok (.getfield 30, 3) := by decide +kernel
theorem d_M_middle_39 : decode prog_11_method_31_code 39 = .ok (.iload_n 1, 1) := by decide +kernel
theorem d_M_middle_40 : decode prog_11_method_31_code 40 = .ok (.iaload, 1) := by decide +kernel
theorem d_M_middle_41 : decode prog_11_method_31_code 41 = .ok (.iconst 4, 1) := by decide +kernel
theorem d_M_middle_42 : decode prog_11_method_31_code 42 = .ok (.invokevirtual 130, 3) := by decide +kernel
theorem d_M_middle_45 : decode prog_11_method_31_code 45 = .ok (.aload_n 0, 1) := by decide +kernel
theorem d_M_middle_46 : decode prog_11_method_31_code 46 = .ok (.aload_n 0, 1) := by decide +kernel
theorem d_M_middle_47 : decode prog_11_method_31_code 47 = .ok (.getfield 33, 3) := by decide +kernel
theorem d_M_middle_50 : decode prog_11_method_31_code 50 = .ok (.iload_n 1, 1) := by decide +kernel
theorem d_M_middle_51 : decode prog_11_method_31_code 51 = .ok (.iaload, 1) := by decide +kernel
theorem d_M_middle_52 : decode prog_11_method_31_code 52 = .ok (.iconst 4, 1) := by decide +kernel
theorem d_M_middle_53 : decode prog_11_method_31_code 53 = .ok (.invokevirtual 130, 3) := by decide +kernel
theorem d_M_middle_56 : decode prog_11_method_31_code 56 = .ok (.aload_n 0, 1) := by decide +kernel
theorem d_M_middle_57 : decode prog_11_method_31_code 57 = .ok (.aload_n 0, 1) := by decide +kernel
theorem d_M_middle_58 : decode prog_11_method_31_code 58 = .ok (.getfield 21, 3) := by decide +kernel
theorem d_M_middle_61 : decode prog_11_method_31_code 61 = .ok (.iload_n 1, 1) := by decide +kernel
theorem d_M_middle_62 : decode prog_11_method_31_code 62 = .ok (.iaload, 1) := by decide +kernel
theorem d_M_middle_63 : decode prog_11_method_31_code 63 = .ok (.iconst 2, 1) := by decide +kernel
theorem d_M_middle_64 : decode prog_11_method_31_code 64 = .ok (.invokevirtual 130, 3) := by decide +kernel
theorem d_M_middle_67 : decode prog_11_method_31_code 67 = .ok (.aload_n 0, 1) := by decide +kernel
theorem d_M_middle_68 : decode prog_11_method_31_code 68 = .ok (.iconst 0, 1) := by decide +kernel
theorem d_M_middle_69 : decode prog_11_method_31_code 69 = .ok (.iconst 2, 1) := by decide +kernel
theorem d_M_middle_70 : decode prog_11_method_31_code 70 = .ok (.invokevirtual 130, 3) := by decide +kernel
theorem d_M_middle_73 : decode prog_11_method_31_code 73 = .ok (.return_, 1) := by decide +kernel
theorem d_M_writeName_0 : decode prog_11_method_32_code 0 = .ok (.iconst 0, 1) := by decide +kernel
theorem d_M_writeName_1 : decode prog_11_method_32_code 1 = .ok (.istore_n 2, 1) := by decide +kernel
theorem d_M_writeName_2 : decode prog_11_method_32_code 2 = .ok (.iload_n 2, 1) := by decide +kernel
theorem d_M_writeName_3 : decode prog_11_method_32_code 3 = .ok (.aload_n 0, 1) := by decide +kernel
theorem d_M_writeName_4 : decode prog_11_method_32_code 4 = .ok (.getfield 21, 3) := by decide +kernel
theorem d_M_writeName_7 : decode prog_11_method_32_code 7 = .ok (.iload_n 1, 1) := by decide +kernel
theorem d_M_writeName_8 : decode prog_11_method_32_code 8 = .ok (.iaload, 1) := by decide +kernel
theorem d_M_writeName_9 : decode prog_11_method_32_code 9 = .ok (.if_icmp .ge 25, 3) := by decide +kernel
theorem d_M_writeName_12 : decode prog_11_method_32_code 12 = .ok (.aload_n 0, 1) := by decide +kernel
theorem d_M_writeName_13 : decode prog_11_method_32_code 13 = .ok (.aload_n 0, 1) := by decide +kernel
theorem d_M_writeName_14 : decode prog_11_method_32_code 14 = .ok (.getfield 18, 3) := by decide +kernel
theorem d_M_writeName_17 : decode prog_11_method_32_code 17 = .ok (.bipush 64, 2) := by decide +kernel
theorem d_M_writeName_19 : decode prog_11_method_32_code 19 = .ok (.iload_n 1, 1) := by decide +kernel
theorem d_M_writeName_20 : decode prog_11_method_32_code 20 = .ok (.imul, 1) := by decide +kernel
theorem d_M_writeName_21 : decode prog_11_method_32_code 21 = .ok (.iload_n 2, 1) := by decide +kernel
theorem d_M_writeName_22 : decode prog_11_method_32_code 22 = .ok (.iadd, 1) := by decide +kernel
theorem d_M_writeName_23 : decode prog_11_method_32_code 23 = .ok (.iaload, 1) := by decide +kernel
theorem d_M_writeName_24 : decode prog_11_method_32_code 24 = .ok (.iconst 1, 1) := by decide +kernel
theorem d_M_writeName_25 : decode prog_11_method_32_code 25 = .ok (.invokevirtual 130, 3) := by decide +kernel
theorem d_M_writeName_28 : decode prog_11_method_32_code 28 = .ok (.iinc 2 1, 3) := by decide +kernel
theorem d_M_writeName_31 : decode prog_11_method_32_code 31 = .ok (.goto (-29), 3) := by decide +kernel
theorem d_M_writeName_34 : decode prog_11_method_32_code 34 = .ok (.return_, 1) := by decide +kernel
theorem d_M_write_0 : decode prog_11_method_33_code 0 = .ok (.bipush 22, 2) := by decide +kernel
theorem d_M_write_2 : decode prog_11_method_33_code 2 = .ok (.istore_n 1, 1) := by decide +kernel
theorem d_M_write_3 : decode prog_11_method_33_code 3 = .ok (.iconst 0, 1) := by decide +kernel
theorem d_M_write_4 : decode prog_11_method_33_code 4 = .ok (.istore_n 2, 1) := by decide +kernel
theorem d_M_write_5 : decode prog_11_method_33_code 5 = .ok (.iload_n 2, 1) := by decide +kernel
theorem d_M_write_6 : decode prog_11_method_33_code 6 = .ok (.aload_n 0, 1) := by decide +kernel
theorem d_M_write_7 : decode prog_11_method_33_code 7 = .ok (.getfield 82, 3) := by decide +kernel
theorem d_M_write_10 : decode prog_11_method_33_code 10 = .ok (.if_icmp .ge 30, 3) := by decide +kernel
theorem d_M_write_13 : decode prog_11_method_33_code 13 = .ok (.iload_n 1, 1) := by decide +kernel
theorem d_M_write_14 : decode prog_11_method_33_code 14 = .ok (.bipush 76, 2) := by decide +kernel
theorem d_M_write_16 : decode prog_11_method_33_code 16 = .ok (.iconst 2, 1) := by decide +kernel
theorem d_M_write_17 : decode prog_11_method_33_code 17 = .ok (.aload_n 0, 1) := by decide +kernel
theorem d_M_write_18 : decode prog_11_method_33_code 18 = .ok (.getfield 21, 3) := by decide +kernel
theorem d_M_write_21 : decode prog_11_method_33_code 21 = .ok (.iload_n 2, 1) := by decide +kernel
theorem d_M_write_22 : decode prog_11_method_33_code 22 = .ok (.iaload, 1) := by decide +kernel
theorem d_M_write_23 : decode prog_11_method_33_code 23 = .ok (.imul, 1) := by decide +kernel
theorem d_M_write_24 : decode prog_11_method_33_code 24 = .ok (.iadd, 1) := by decide +kernel
theorem d_M_write_25 : decode prog_11_method_33_code 25 = .ok (.aload_n 0, 1) := by decide +kernel
theorem d_M_write_26 : decode prog_11_method_33_code 26 = .ok (.getfield 30, 3) := by decide +kernel
theorem d_M_write_29 : decode prog_11_method_33_code 29 = .ok (.iload_n 2, 1) := by decide +kernel
theorem d_M_write_30 : decode prog_11_method_33_code 30 = .ok (.iaload, 1) := by decide +kernel
theorem d_M_write_31 : decode prog_11_method_33_code 31 = .ok (.iadd, 1) := by decide +kernel
theorem d_M_write_32 : decode prog_11_method_33_code 32 = .ok (.iadd, 1) := by decide +kernel
theorem d_M_write_33 : decode prog_11_method_33_code 33 = .ok (.istore_n 1, 1) := by decide +kernel
theorem d_M_write_34 : decode prog_11_method_33_code 34 = .ok (.iinc 2 1, 3) := by decide +kernel
theorem d_M_write_37 : decode prog_11_method_33_code 37 = .ok (.goto (-32), 3) := by decide +kernel
theorem d_M_write_40 : decode prog_11_method_33_code 40 = .ok (.aload_n 0, 1) := by decide +kernel
theorem d_M_write_41 : decode prog_11_method_33_code 41 = .ok (.iload_n 1, 1) := by decide +kernel
theorem d_M_write_42 : decode prog_11_method_33_code 42 = .ok (.ldc 7, 2) := by decide +kernel
theorem d_M_write_44 : decode prog_11_method_33_code 44 = .ok (.if_icmp .le 7, 3) := by decide +kernel
theorem d_M_write_47 : decode prog_11_method_33_code 47 = .ok (.iconst 1, 1) := by decide +kernel
theorem d_M_write_48 : decode prog_11_method_33_code 48 = .ok (.goto 4, 3) := by decide +kernel
theorem d_M_write_51 : decode prog_11_method_33_code 51 = .ok (.iconst 0, 1) := by decide +kernel
theorem d_M_write_52 : decode prog_11_method_33_code 52 = .ok (.putfield 69, 3) := by decide +kernel
theorem d_M_write_55 : decode prog_11_method_33_code 55 = .ok (.aload_n 0, 1) := by decide +kernel
theorem d_M_write_56 : decode prog_11_method_33_code 56 = .ok (.getfield 69, 3) := by decide +kernel
theorem d_M_write_59 : decode prog_11_method_33_code 59 = .ok (.ifCond .le 5, 3) := by decide +kernel
theorem d_M_write_62 : decode prog_11_method_33_code 62 = .ok (.iconst 0, 1) := by decide +kernel
theorem d_M_write_63 : decode prog_11_method_33_code 63 = .ok (.ireturn, 1) := by decide +kernel
theorem d_M_write_64 : decode prog_11_method_33_code 64 = .ok (.aload_n 0, 1) := by decide +kernel
theorem d_M_write_65 : decode prog_11_method_33_code 65 = .ok (.iconst 0, 1) := by decide +kernel
theorem d_M_write_66 : decode prog_11_method_33_code 66 = .ok (.putfield 127, 3) := by decide +kernel
theorem d_M_write_69 : decode prog_11_method_33_code 69 = .ok (.iconst 0, 1) := by decide +kernel
theorem d_M_write_70 : decode prog_11_method_33_code 70 = .ok (.istore_n 2, 1) := by decide +kernel
theorem d_M_write_71 : decode prog_11_method_33_code 71 = .ok (.iload_n 2, 1) := by decide +kernel
theorem d_M_write_72 : decode prog_11_method_33_code 72 = .ok (.aload_n 0, 1) := by decide +kernel
theorem d_M_write_73 : decode prog_11_method_33_code 73 = .ok (.getfield 82, 3) := by decide +kernel
theorem d_M_write_76 : decode prog_11_method_33_code 76 = .ok (.if_icmp .ge 80, 3) := by decide +kernel
theorem d_M_write_79 : decode prog_11_method_33_code 79 = .ok (.aload_n 0, 1) := by decide +kernel
theorem d_M_write_80 : decode prog_11_method_33_code 80 = .ok (.getfield 55, 3) := by decide +kernel
theorem d_M_write_83 : decode prog_11_method_33_code 83 = .ok (.iload_n 2, 1) := by decide +kernel
theorem d_M_write_84 : decode prog_11_method_33_code 84 = .ok (.aload_n 0, 1) := by decide +kernel
theorem d_M_write_85 : decode prog_11_method_33_code 85 = .ok (.getfield 127, 3) := by decide +kernel
theorem d_M_write_88 : decode prog_11_method_33_code 88 = .ok (.i2l, 1) := by decide +kernel
theorem d_M_write_89 : decode prog_11_method_33_code 89 = .ok (.lastore, 1) := by decide +kernel
theorem d_M_write_90 : decode prog_11_method_33_code 90 = .ok (.aload_n 0, 1) := by decide +kernel
theorem d_M_write_91 : decode prog_11_method_33_code 91 = .ok (.ldc 133, 2) := by decide +kernel
theorem d_M_write_93 : decode prog_11_method_33_code 93 = .ok (.iconst 4, 1) := by decide +kernel
theorem d_M_write_94 : decode prog_11_method_33_code 94 = .ok (.invokevirtual 130, 3) := by decide +kernel
theorem d_M_write_97 : decode prog_11_method_33_code 97 = .ok (.aload_n 0, 1) := by decide +kernel
theorem d_M_write_98 : decode prog_11_method_33_code 98 = .ok (.bipush 20, 2) := by decide +kernel
theorem d_M_write_100 : decode prog_11_method_33_code 100 = .ok (.iconst 2, 1) := by decide +kernel
theorem d_M_write_101 : decode prog_11_method_33_code 101 = .ok (.invokevirtual 130, 3) := by decide +kernel
theorem d_M_write_104 : decode prog_11_method_33_code 104 = .ok (.aload_n 0, 1) := by decide +kernel
theorem d_M_write_105 : decode prog_11_method_33_code 105 = .ok (.iload_n 2, 1) := by decide +kernel
theorem d_M_write_106 : decode prog_11_method_33_code 106 = .ok (.invokevirtual 134, 3) := by decide +kernel
theorem d_M_write_109 : decode prog_11_method_33_code 109 = .ok (.aload_n 0, 1) := by decide +kernel
theorem d_M_write_110 : decode prog_11_method_33_code 110 = .ok (.iload_n 2, 1) := by decide +kernel
theorem d_M_write_111 : decode prog_11_method_33_code 111 = .ok (.invokevirtual 138, 3) := by decide +kernel
theorem d_M_write_114 : decode prog_11_method_33_code 114 = .ok (.iconst 0, 1) := by decide +kernel
theorem d_M_write_115 : decode prog_11_method_33_code 115 = .ok (.istore_n 3, 1) := by decide +kernel
theorem d_M_write_116 : decode prog_11_method_33_code 116 = .ok (.iload_n 3, 1) := by decide +kernel
theorem d_M_write_117 : decode prog_11_method_33_code 117 = .ok (.aload_n 0, 1) := by decide +kernel
theorem d_M_write_118 : decode prog_11_method_33_code 118 = .ok (.getfield 30, 3) := by decide +kernel
theorem d_M_write_121 : decode prog_11_method_33_code 121 = .ok (.iload_n 2, 1) := by decide +kernel
theorem d_M_write_122 : decode prog_11_method_33_code 122 = .ok (.iaload, 1) := by decide +kernel
theorem d_M_write_123 : decode prog_11_method_33_code 123 = .ok (.if_icmp .ge 27, 3) := by decide +kernel
theorem d_M_write_126 : decode prog_11_method_33_code 126 = .ok (.aload_n 0, 1) := by decide +kernel
theorem d_M_write_127 : decode prog_11_method_33_code 127 = .ok (.aload_n 0, 1) := by decide +kernel
theorem d_M_write_128 : decode prog_11_method_33_code 128 = .ok (.getfield 39, 3) := by decide +kernel
theorem d_M_write_131 : decode prog_11_method_33_code 131 = .ok (.aload_n 0, 1) := by decide +kernel
theorem d_M_write_132 : decode prog_11_method_33_code 132 = .ok (.getfield 27, 3) := by decide +kernel
theorem d_M_write_135 : decode prog_11_method_33_code 135 = .ok (.iload_n 2, 1) := by decide +kernel
theorem d_M_write_136 : decode prog_11_method_33_code 136 = .ok (.iaload, 1) := by decide +kernel
theorem d_M_write_137 : decode prog_11_method_33_code 137 = .ok (.iload_n 3, 1) := by decide +kernel
theorem d_M_write_138 : decode prog_11_method_33_code 138 = .ok (.iadd, 1) := by decide +kernel
theorem d_M_write_139 : decode prog_11_method_33_code 139 = .ok (.baload, 1) := by decide +kernel
theorem d_M_write_140 : decode prog_11_method_33_code 140 = .ok (.iconst 1, 1) := by decide +kernel
theorem d_M_write_141 : decode prog_11_method_33_code 141 = .ok (.invokevirtual 130, 3) := by decide +kernel
theorem d_M_write_144 : decode prog_11_method_33_code 144 = .ok (.iinc 3 1, 3) := by decide +kernel
theorem d_M_write_147 : decode prog_11_method_33_code 147 = .ok (.goto (-31), 3) := by decide +kernel
theorem d_M_write_150 : decode prog_11_method_33_code 150 = .ok (.iinc 2 1, 3) := by decide +kernel
theorem d_M_write_153 : decode prog_11_method_33_code 153 = .ok (.goto (-82), 3) := by decide +kernel
theorem d_M_write_156 : decode prog_11_method_33_code 156 = .ok (.aload_n 0, 1) := by decide +kernel
theorem d_M_write_157 : decode prog_11_method_33_code 157 = .ok (.getfield 127, 3) := by decide +kernel
theorem d_M_write_160 : decode prog_11_method_33_code 160 = .ok (.istore_n 2, 1) := by decide +kernel
theorem d_M_write_161 : decode prog_11_method_33_code 161 = .ok (.iconst 0, 1) := by decide +kernel
theorem d_M_write_162 : decode prog_11_method_33_code 162 = .ok (.istore_n 3, 1) := by decide +kernel
theorem d_M_write_163 : decode prog_11_method_33_code 163 = .ok (.iload_n 3, 1) := by decide +kernel
theorem d_M_write_164 : decode prog_11_method_33_code 164 = .ok (.aload_n 0, 1) := by decide +kernel
theorem d_M_write_165 : decode prog_11_method_33_code 165 = .ok (.getfield 82, 3) := by decide +kernel
theorem d_M_write_168 : decode prog_11_method_33_code 168 = .ok (.if_icmp .ge 59, 3) := by decide +kernel
theorem d_M_write_171 : decode prog_11_method_33_code 171 = .ok (.aload_n 0, 1) := by decide +kernel
theorem d_M_write_172 : decode prog_11_method_33_code 172 = .ok (.ldc 141, 2) := by decide +kernel
theorem d_M_write_174 : decode prog_11_method_33_code 174 = .ok (.iconst 4, 1) := by decide +kernel
theorem d_M_write_175 : decode prog_11_method_33_code 175 = .ok (.invokevirtual 130, 3) := by decide +kernel
theorem d_M_write_178 : decode prog_11_method_33_code 178 = .ok (.aload_n 0, 1) := by decide +kernel
theorem d_M_write_179 : decode prog_11_method_33_code 179 = .ok (.bipush 20, 2) := by decide +kernel
theorem d_M_write_181 : decode prog_11_method_33_code 181 = .ok (.iconst 2, 1) := by decide +kernel
theorem d_M_write_182 : decode prog_11_method_33_code 182 = .ok (.invokevirtual 130, 3) := by decide +kernel
theorem d_M_write_185 : decode prog_11_method_33_code 185 = .ok (.aload_n 0, 1) := by decide +kernel
theorem d_M_write_186 : decode prog_11_method_33_code 186 = .ok (.bipush 20, 2) := by decide +kernel
theorem d_M_write_188 : decode prog_11_method_33_code 188 = .ok (.iconst 2, 1) := by decide +kernel
theorem d_M_write_189 : decode prog_11_method_33_code 189 = .ok (.invokevirtual 130, 3) := by decide +kernel
theorem d_M_write_192 : decode prog_11_method_33_code 192 = .ok (.aload_n 0, 1) := by decide +kernel
theorem d_M_write_193 : decode prog_11_method_33_code 193 = .ok (.iload_n 3, 1) := by decide +kernel
theorem d_M_write_194 : decode prog_11_method_33_code 194 = .ok (.invokevirtual 134, 3) := by decide +kernel
theorem d_M_write_197 : decode prog_11_method_33_code 197 = .ok (.aload_n 0, 1) := by decide +kernel
theorem d_M_write_198 : decode prog_11_method_33_code 198 = .ok (.iconst 0, 1) := by decide +kernel
theorem d_M_write_199 : decode prog_11_method_33_code 199 = .ok (.bipush 10, 2) := by decide +kernel
theorem d_M_write_201 : decode prog_11_method_33_code 201 = .ok (.invokevirtual 130, 3) := by decide +kernel
theorem d_M_write_204 : decode prog_11_method_33_code 204 = .ok (.aload_n 0, 1) := by decide +kernel
theorem d_M_write_205 : decode prog_11_method_33_code 205 = .ok (.aload_n 0, 1) := by decide +kernel
theorem d_M_write_206 : decode prog_11_method_33_code 206 = .ok (.getfield 55, 3) := by decide +kernel
theorem d_M_write_209 : decode prog_11_method_33_code 209 = .ok (.iload_n 3, 1) := by decide +kernel
theorem d_M_write_210 : decode prog_11_method_33_code 210 = .ok (.laload, 1) := by decide +kernel
theorem d_M_write_211 : decode prog_11_method_33_code 211 = .ok (.l2i, 1) := by decide +kernel
theorem d_M_write_212 : decode prog_11_method_33_code 212 = .ok (.iconst 4, 1) := by decide +kernel
theorem d_M_write_213 : decode prog_11_method_33_code 213 = .ok (.invokevirtual 130, 3) := by decide +kernel
theorem d_M_write_216 : decode prog_11_method_33_code 216 = .ok (.aload_n 0, 1) := by decide +kernel
theorem d_M_write_217 : decode prog_11_method_33_code 217 = .ok (.iload_n 3, 1) := by decide +kernel
theorem d_M_write_218 : decode prog_11_method_33_code 218 = .ok (.invokevirtual 138, 3) := by decide +kernel
theorem d_M_write_221 : decode prog_11_method_33_code 221 = .ok (.iinc 3 1, 3) := by decide +kernel
theorem d_M_write_224 : decode prog_11_method_33_code 224 = .ok (.goto (-61), 3) := by decide +kernel
theorem d_M_write_227 : decode prog_11_method_33_code 227 = .ok (.aload_n 0, 1) := by decide +kernel
theorem d_M_write_228 : decode prog_11_method_33_code 228 = .ok (.getfield 127, 3) := by decide +kernel
theorem d_M_write_231 : decode prog_11_method_33_code 231 = .ok (.istore_n 3, 1) := by decide +kernel
theorem d_M_write_232 : decode prog_11_method_33_code 232 = .ok (.aload_n 0, 1) := by decide +kernel
theorem d_M_write_233 : decode prog_11_method_33_code 233 = .ok (.ldc 142, 2) := by decide +kernel
theorem d_M_write_235 : decode prog_11_method_33_code 235 = .ok (.iconst 4, 1) := by decide +kernel
theorem d_M_write_236 : decode prog_11_method_33_code 236 = .ok (.invokevirtual 130, 3) := by decide +kernel
theorem d_M_write_239 : decode prog_11_method_33_code 239 = .ok (.aload_n 0, 1) := by decide +kernel
theorem d_M_write_240 : decode prog_11_method_33_code 240 = .ok (.iconst 0, 1) := by decide +kernel
theorem d_M_write_241 : decode prog_11_method_33_code 241 = .ok (.iconst 4, 1) := by decide +kernel
theorem d_M_write_242 : decode prog_11_method_33_code 242 = .ok (.invokevirtual 130, 3) := by decide +kernel
theorem d_M_write_245 : decode prog_11_method_33_code 245 = .ok (.aload_n 0, 1) := by decide +kernel
theorem d_M_write_246 : decode prog_11_method_33_code 246 = .ok (.aload_n 0, 1) := by decide +kernel
theorem d_M_write_247 : decode prog_11_method_33_code 247 = .ok (.getfield 82, 3) := by decide +kernel
theorem d_M_write_250 : decode prog_11_method_33_code 250 = .ok (.iconst 2, 1) := by decide +kernel
theorem d_M_write_251 : decode prog_11_method_33_code 251 = .ok (.invokevirtual 130, 3) := by decide +kernel
theorem d_M_write_254 : decode prog_11_method_33_code 254 = .ok (.aload_n 0, 1) := by decide +kernel
theorem d_M_write_255 : decode prog_11_method_33_code 255 = .ok (.aload_n 0, 1) := by decide +kernel
theorem d_M_write_256 : decode prog_11_method_33_code 256 = .ok (.getfield 82, 3) := by decide +kernel
theorem d_M_write_259 : decode prog_11_method_33_code 259 = .ok (.iconst 2, 1) := by decide +kernel
theorem d_M_write_260 : decode prog_11_method_33_code 260 = .ok (.invokevirtual 130, 3) := by decide +kernel
theorem d_M_write_263 : decode prog_11_method_33_code 263 = .ok (.aload_n 0, 1) := by decide +kernel
theorem d_M_write_264 : decode prog_11_method_33_code 264 = .ok (.iload_n 3, 1) := by decide +kernel
theorem d_M_write_265 : decode prog_11_method_33_code 265 = .ok (.iload_n 2, 1) := by decide +kernel
theorem d_M_write_266 : decode prog_11_method_33_code 266 = .ok (.isub, 1) := by decide +kernel
theorem d_M_write_267 : decode prog_11_method_33_code 267 = .ok (.iconst 4, 1) := by decide +kernel
theorem d_M_write_268 : decode prog_11_method_33_code 268 = .ok (.invokevirtual 130, 3) := by decide +kernel
theorem d_M_write_271 : decode prog_11_method_33_code 271 = .ok (.aload_n 0, 1) := by decide +kernel
theorem d_M_write_272 : decode prog_11_method_33_code 272 = .ok (.iload_n 2, 1) := by decide +kernel
theorem d_M_write_273 : decode prog_11_method_33_code 273 = .ok (.iconst 4, 1) := by decide +kernel
theorem d_M_write_274 : decode prog_11_method_33_code 274 = .ok (.invokevirtual 130, 3) := by decide +kernel
theorem d_M_write_277 : decode prog_11_method_33_code 277 = .ok (.aload_n 0, 1) := by decide +kernel
theorem d_M_write_278 : decode prog_11_method_33_code 278 = .ok (.iconst 0, 1) := by decide +kernel
theorem d_M_write_279 : decode prog_11_method_33_code 279 = .ok (.iconst 2, 1) := by decide +kernel
theorem d_M_write_280 : decode prog_11_method_33_code 280 = .ok (.invokevirtual 130, 3) := by decide +kernel
theorem d_M_write_283 : decode prog_11_method_33_code 283 = .ok (.aload_n 0, 1) := by decide +kernel
theorem d_M_write_284 : decode prog_11_method_33_code 284 = .ok (.aload_n 0, 1) := by decide +kernel
theorem d_M_write_285 : decode prog_11_method_33_code 285 = .ok (.getfield 127, 3) := by decide +kernel
theorem d_M_write_288 : decode prog_11_method_33_code 288 = .ok (.putfield 72, 3) := by decide +kernel
theorem d_M_write_291 : decode prog_11_method_33_code 291 = .ok (.aload_n 0, 1) := by decide +kernel
theorem d_M_write_292 : decode prog_11_method_33_code 292 = .ok (.getfield 72, 3) := by decide +kernel
theorem d_M_write_295 : decode prog_11_method_33_code 295 = .ok (.ireturn, 1) := by decide +kernel
theorem t_M_init_0 {l : Launch} {G : mm_G} {b : Nat} {m : mm_Mem} {Q : mm_O → mm_Mem → Prop} {r0 : Nat} {b_1 : Nat} {n_2 : Nat} {fs_7 : List Value} {b_11 : Nat} {n_12 : Nat} {m_17 : mm_Mem} {fs_19 : List Value} {m_22 : mm_Mem} {b_24 : Nat} {n_25 : Nat} {fs_30 : List Value} {b_33 : Nat} {n_34 : Nat} {m_39 : mm_Mem} {fs_41 : List Value} {m_44 : mm_Mem} {b_46 : Nat} {n_47 : Nat} {fs_52 : List Value} {b_55 : Nat} {n_56 : Nat} {m_61 : mm_Mem} {fs_63 : List Value} {m_66 : mm_Mem} {b_68 : Nat} {n_69 : Nat} {fs_74 : List Value} {b_77 : Nat} {n_78 : Nat} {m_83 : mm_Mem} {fs_85 : List Value} {m_88 : mm_Mem} {b_90 : Nat} {n_91 : Nat} {fs_96 : List Value} {b_99 : Nat} {n_100 : Nat} {m_105 : mm_Mem} {fs_107 : List Value} {m_110 : mm_Mem} {b_112 : Nat} {n_113 : Nat} {fs_118 : List Value} {fs_121 : List Value} {m_124 : mm_Mem} {fs_126 : List Value} {b_129 : Nat} {n_130 : Nat} {fs_135 : List Value} {m_138 : mm_Mem} {b_140 : Nat} {n_141 : Nat} {fs_146 : List Value} {b_149 : Nat} {n_150 : Nat} {m_155 : mm_Mem} {fs_157 : List Value} {m_160 : mm_Mem} {b_162 : Nat} {n_163 : Nat} {fs_168 : List Value} {b_171 : Nat} {n_172 : Nat} {m_177 : mm_Mem} {fs_179 : List Value} {m_182 : mm_Mem} (k3 : ¬ (65536 : Int32) < 0) (k4 : (65536 : Int32).toNatClampNeg = n_2) (k5 : n_2 * 8 ≤ 536870912) (hb6 : n_2 + 1 + b_1 ≤ b) (g8 : (mm_push m (.inl (G.2 0, n_2, .inl (fun _ => 0)))) r0 = .inr (8, fs_7)) (z9 : r0 ≠ 0) (l10 : 2 < fs_7.length) (k13 : ¬ (64 : Int32) < 0) (k14 : (64 : Int32).toNatClampNeg = n_12) (k15 : n_12 * 8 ≤ 536870912) (hb16 : n_12 + 1 + b_11 ≤ b_1) (q18 : m_17 = mm_push (va_up (mm_push m (.inl (G.2 0, n_2, .inl (fun _ => 0)))) r0 (.inr (8, fs_7.set 2 (.ref (mm_n m + 1))))) (.inl (G.2 1, n_12, .inl (fun _ => 0)))) (g20 : m_17 r0 = .inr (8, fs_19)) (l21 : 4 < fs_19.length) (q23 : m_22 = va_up m_17 r0 (.inr (8, fs_19.set 4 (.ref (mm_n (va_up (mm_push m (.inl (G.2 0, n_2, .inl (fun _ => 0)))) r0 (.inr (8, fs_7.set 2 (.ref (mm_n m + 1))))) + 1))))) (k26 : ¬ (4096 : Int32) < 0) (k27 : (4096 : Int32).toNatClampNeg = n_25) (k28 : n_25 * 8 ≤ 536870912) (hb29 : n_25 + 1 + b_24 ≤ b_11) (g31 : (mm_push m_22 (.inl (G.2 1, n_25, .inl (fun _ => 0)))) r0 = .inr (8, fs_30)) (l32 : 6 < fs_30.length) (k35 : ¬ (64 : Int32) < 0) (k36 : (64 : Int32).toNatClampNeg = n_34) (k37 : n_34 * 8 ≤ 536870912) (hb38 : n_34 + 1 + b_33 ≤ b_24) (q40 : m_39 = mm_push (va_up (mm_push m_22 (.inl (G.2 1, n_25, .inl (fun _ => 0)))) r0 (.inr (8, fs_30.set 6 (.ref (mm_n m_22 + 1))))) (.inl (G.2 1, n_34, .inl (fun _ => 0)))) (g42 : m_39 r0 = .inr (8, fs_41)) (l43 : 7 < fs_41.length) (q45 : m_44 = va_up m_39 r0 (.inr (8, fs_41.set 7 (.ref (mm_n (va_up (mm_push m_22 (.inl (G.2 1, n_25, .inl (fun _ => 0)))) r0 (.inr (8, fs_30.set 6 (.ref (mm_n m_22 + 1))))) + 1))))) (k48 : ¬ (64 : Int32) < 0) (k49 : (64 : Int32).toNatClampNeg = n_47) (k50 : n_47 * 8 ≤ 536870912) (hb51 : n_47 + 1 + b_46 ≤ b_33) (g53 : (mm_push m_44 (.inl (G.2 1, n_47, .inl (fun _ => 0)))) r0 = .inr (8, fs_52)) (l54 : 8 < fs_52.length) (k57 : ¬ (64 : Int32) < 0) (k58 : (64 : Int32).toNatClampNeg = n_56) (k59 : n_56 * 8 ≤ 536870912) (hb60 : n_56 + 1 + b_55 ≤ b_46) (q62 : m_61 = mm_push (va_up (mm_push m_44 (.inl (G.2 1, n_47, .inl (fun _ => 0)))) r0 (.inr (8, fs_52.set 8 (.ref (mm_n m_44 + 1))))) (.inl (G.2 1, n_56, .inl (fun _ => 0)))) (g64 : m_61 r0 = .inr (8, fs_63)) (l65 : 9 < fs_63.length) (q67 : m_66 = va_up m_61 r0 (.inr (8, fs_63.set 9 (.ref (mm_n (va_up (mm_push m_44 (.inl (G.2 1, n_47, .inl (fun _ => 0)))) r0 (.inr (8, fs_52.set 8 (.ref (mm_n m_44 + 1))))) + 1))))) (k70 : ¬ (64 : Int32) < 0) (k71 : (64 : Int32).toNatClampNeg = n_69) (k72 : n_69 * 8 ≤ 536870912) (hb73 : n_69 + 1 + b_68 ≤ b_55) (g75 : (mm_push m_66 (.inl (G.2 1, n_69, .inl (fun _ => 0)))) r0 = .inr (8, fs_74)) (l76 : 10 < fs_74.length) (k79 : ¬ (64 : Int32) < 0) (k80 : (64 : Int32).toNatClampNeg = n_78) (k81 : n_78 * 8 ≤ 536870912) (hb82 : n_78 + 1 + b_77 ≤ b_68) (q84 : m_83 = mm_push (va_up (mm_push m_66 (.inl (G.2 1, n_69, .inl (fun _ => 0)))) r0 (.inr (8, fs_74.set 10 (.ref (mm_n m_66 + 1))))) (.inl (G.2 1, n_78, .inl (fun _ => 0)))) (g86 : m_83 r0 = .inr (8, fs_85)) (l87 : 11 < fs_85.length) (q89 : m_88 = va_up m_83 r0 (.inr (8, fs_85.set 11 (.ref (mm_n (va_up (mm_push m_66 (.inl (G.2 1, n_69, .inl (fun _ => 0)))) r0 (.inr (8, fs_74.set 10 (.ref (mm_n m_66 + 1))))) + 1))))) (k92 : ¬ (64 : Int32) < 0) (k93 : (64 : Int32).toNatClampNeg = n_91) (k94 : n_91 * 8 ≤ 536870912) (hb95 : n_91 + 1 + b_90 ≤ b_77) (g97 : (mm_push m_88 (.inl (G.2 1, n_91, .inl (fun _ => 0)))) r0 = .inr (8, fs_96)) (l98 : 12 < fs_96.length) (k101 : ¬ (65536 : Int32) < 0) (k102 : (65536 : Int32).toNatClampNeg = n_100) (k103 : n_100 * 8 ≤ 536870912) (hb104 : n_100 + 1 + b_99 ≤ b_90) (q106 : m_105 = mm_push (va_up (mm_push m_88 (.inl (G.2 1, n_91, .inl (fun _ => 0)))) r0 (.inr (8, fs_96.set 12 (.ref (mm_n m_88 + 1))))) (.inl (G.2 0, n_100, .inl (fun _ => 0)))) (g108 : m_105 r0 = .inr (8, fs_107)) (l109 : 14 < fs_107.length) (q111 : m_110 = va_up m_105 r0 (.inr (8, fs_107.set 14 (.ref (mm_n (va_up (mm_push m_88 (.inl (G.2 1, n_91, .inl (fun _ => 0)))) r0 (.inr (8, fs_96.set 12 (.ref (mm_n m_88 + 1))))) + 1))))) (k114 : ¬ (65536 : Int32) < 0) (k115 : (65536 : Int32).toNatClampNeg = n_113) (k116 : n_113 * 8 ≤ 536870912) (hb117 : n_113 + 1 + b_112 ≤ b_99) (g119 : (mm_push m_110 (.inl (G.2 0, n_113, .inl (fun _ => 0)))) r0 = .inr (8, fs_118)) (l120 : 15 < fs_118.length) (g122 : (va_up (mm_push m_110 (.inl (G.2 0, n_113, .inl (fun _ => 0)))) r0 (.inr (8, fs_118.set 15 (.ref (mm_n m_110 + 1))))) r0 = .inr (8, fs_121)) (l123 : 17 < fs_121.length) (q125 : m_124 = va_up (va_up (mm_push m_110 (.inl (G.2 0, n_113, .inl (fun _ => 0)))) r0 (.inr (8, fs_118.set 15 (.ref (mm_n m_110 + 1))))) r0 (.inr (8, fs_121.set 17 (.int ((-1)))))) (g127 : m_124 r0 = .inr (8, fs_126)) (l128 : 18 < fs_126.length) (k131 : ¬ (64 : Int32) < 0) (k132 : (64 : Int32).toNatClampNeg = n_130) (k133 : n_130 * 8 ≤ 536870912) (hb134 : n_130 + 1 + b_129 ≤ b_112) (g136 : (mm_push (va_up m_124 r0 (.inr (8, fs_126.set 18 (.int ((-1)))))) (.inl (G.2 1, n_130, .inl (fun _ => 0)))) r0 = .inr (8, fs_135)) (l137 : 23 < fs_135.length) (q139 : m_138 = va_up (mm_push (va_up m_124 r0 (.inr (8, fs_126.set 18 (.int ((-1)))))) (.inl (G.2 1, n_130, .inl (fun _ => 0)))) r0 (.inr (8, fs_135.set 23 (.ref (mm_n (va_up m_124 r0 (.inr (8, fs_126.set 18 (.int ((-1)))))) + 1))))) (k142 : ¬ (64 : Int32) < 0) (k143 : (64 : Int32).toNatClampNeg = n_141) (k144 : n_141 * 8 ≤ 536870912) (hb145 : n_141 + 1 + b_140 ≤ b_129) (g147 : (mm_push m_138 (.inl (G.2 2, n_141, .inr (.inl (fun _ => 0))))) r0 = .inr (8, fs_146)) (l148 : 24 < fs_146.length) (k151 : ¬ (64 : Int32) < 0) (k152 : (64 : Int32).toNatClampNeg = n_150) (k153 : n_150 * 8 ≤ 536870912) (hb154 : n_150 + 1 + b_149 ≤ b_140) (q156 : m_155 = mm_push (va_up (mm_push m_138 (.inl (G.2 2, n_141, .inr (.inl (fun _ => 0))))) r0 (.inr (8, fs_146.set 24 (.ref (mm_n m_138 + 1))))) (.inl (G.2 2, n_150, .inr (.inl (fun _ => 0))))) (g158 : m_155 r0 = .inr (8, fs_157)) (l159 : 25 < fs_157.length) (q161 : m_160 = va_up m_155 r0 (.inr (8, fs_157.set 25 (.ref (mm_n (va_up (mm_push m_138 (.inl (G.2 2, n_141, .inr (.inl (fun _ => 0))))) r0 (.inr (8, fs_146.set 24 (.ref (mm_n m_138 + 1))))) + 1))))) (k164 : ¬ (64 : Int32) < 0) (k165 : (64 : Int32).toNatClampNeg = n_163) (k166 : n_163 * 8 ≤ 536870912) (hb167 : n_163 + 1 + b_162 ≤ b_149) (g169 : (mm_push m_160 (.inl (G.2 2, n_163, .inr (.inl (fun _ => 0))))) r0 = .inr (8, fs_168)) (l170 : 26 < fs_168.length) (k173 : ¬ (64 : Int32) < 0) (k174 : (64 : Int32).toNatClampNeg = n_172) (k175 : n_172 * 8 ≤ 536870912) (hb176 : n_172 + 1 + b_171 ≤ b_162) (q178 : m_177 = mm_push (va_up (mm_push m_160 (.inl (G.2 2, n_163, .inr (.inl (fun _ => 0))))) r0 (.inr (8, fs_168.set 26 (.ref (mm_n m_160 + 1))))) (.inl (G.2 3, n_172, .inl (fun _ => 0)))) (g180 : m_177 r0 = .inr (8, fs_179)) (l181 : 27 < fs_179.length) (q183 : m_182 = va_up m_177 r0 (.inr (8, fs_179.set 27 (.ref (mm_n (va_up (mm_push m_160 (.inl (G.2 2, n_163, .inr (.inl (fun _ => 0))))) r0 (.inr (8, fs_168.set 26 (.ref (mm_n m_160 + 1))))) + 1))))) (h184 : Q (.inl none) m_182) : mm_W l G k_M_init 0 [(0, .ref r0)] [] b m Q := by
  refine mm_aload_n 0 (i := 0) d_M_init_0 rfl rfl ?_
  refine mm_objInit w_741 w_25 w_26 d_M_init_1 (Nat.le_of_ble_eq_true rfl) (Nat.le_of_ble_eq_true rfl) ?_
  refine mm_aload_n 0 (i := 0) d_M_init_4 rfl rfl ?_
  refine mm_ldc (v := 65536) w_742 d_M_init_5 ?_
  refine mm_newa (t := 0) (ty := .byte) (a0 := .inl (fun _ => 0)) (atype := .byte) w_44 rfl rfl (fun _ => rfl) (fun _ => trivial) (fun _ => rfl) d_M_init_7 k3 k4 (Nat.le_trans (Nat.mul_le_mul_left _ (by decide)) k5) hb6 ?_
  refine mm_putF cc_M 2 (by decide) w_745 d_M_init_9 rfl rfl rfl (fun _ => rfl) (fun _ => rfl) g8 z9 l10 ?_
  refine mm_aload_n 0 (i := 0) d_M_init_12 rfl rfl ?_
  refine mm_bipush d_M_init_13 (v := 64) (by decide) ?_
  refine mm_newa (t := 1) (ty := .int) (a0 := .inl (fun _ => 0)) (atype := .int) w_56 rfl rfl (fun _ => rfl) (fun _ => trivial) (fun _ => rfl) d_M_init_15 k13 k14 (Nat.le_trans (Nat.mul_le_mul_left _ (by decide)) k15) hb16 ?_
  refine mm_eqm q18 ?_
  refine mm_putF cc_M 4 (by decide) w_747 d_M_init_17 rfl rfl rfl (fun _ => rfl) (fun _ => rfl) g20 z9 l21 ?_
  refine mm_eqm q23 ?_
  refine mm_aload_n 0 (i := 0) d_M_init_20 rfl rfl ?_
  refine mm_sipush d_M_init_21 (v := 4096) (by decide) ?_
  refine mm_newa (t := 1) (ty := .int) (a0 := .inl (fun _ => 0)) (atype := .int) w_56 rfl rfl (fun _ => rfl) (fun _ => trivial) (fun _ => rfl) d_M_init_24 k26 k27 (Nat.le_trans (Nat.mul_le_mul_left _ (by decide)) k28) hb29 ?_
  refine mm_putF cc_M 6 (by decide) w_749 d_M_init_26 rfl rfl rfl (fun _ => rfl) (fun _ => rfl) g31 z9 l32 ?_
  refine mm_aload_n 0 (i := 0) d_M_init_29 rfl rfl ?_
  refine mm_bipush d_M_init_30 (v := 64) (by decide) ?_
  refine mm_newa (t := 1) (ty := .int) (a0 := .inl (fun _ => 0)) (atype := .int) w_56 rfl rfl (fun _ => rfl) (fun _ => trivial) (fun _ => rfl) d_M_init_32 k35 k36 (Nat.le_trans (Nat.mul_le_mul_left _ (by decide)) k37) hb38 ?_
  refine mm_eqm q40 ?_
  refine mm_putF cc_M 7 (by decide) w_750 d_M_init_34 rfl rfl rfl (fun _ => rfl) (fun _ => rfl) g42 z9 l43 ?_
  refine mm_eqm q45 ?_
  refine mm_aload_n 0 (i := 0) d_M_init_37 rfl rfl ?_
  refine mm_bipush d_M_init_38 (v := 64) (by decide) ?_
  refine mm_newa (t := 1) (ty := .int) (a0 := .inl (fun _ => 0)) (atype := .int) w_56 rfl rfl (fun _ => rfl) (fun _ => trivial) (fun _ => rfl) d_M_init_40 k48 k49 (Nat.le_trans (Nat.mul_le_mul_left _ (by decide)) k50) hb51 ?_
  refine mm_putF cc_M 8 (by decide) w_751 d_M_init_42 rfl rfl rfl (fun _ => rfl) (fun _ => rfl) g53 z9 l54 ?_
  refine mm_aload_n 0 (i := 0) d_M_init_45 rfl rfl ?_
  refine mm_bipush d_M_init_46 (v := 64) (by decide) ?_
  refine mm_newa (t := 1) (ty := .int) (a0 := .inl (fun _ => 0)) (atype := .int) w_56 rfl rfl (fun _ => rfl) (fun _ => trivial) (fun _ => rfl) d_M_init_48 k57 k58 (Nat.le_trans (Nat.mul_le_mul_left _ (by decide)) k59) hb60 ?_
  refine mm_eqm q62 ?_
  refine mm_putF cc_M 9 (by decide) w_752 d_M_init_50 rfl rfl rfl (fun _ => rfl) (fun _ => rfl) g64 z9 l65 ?_
  refine mm_eqm q67 ?_
  refine mm_aload_n 0 (i := 0) d_M_init_53 rfl rfl ?_
  refine mm_bipush d_M_init_54 (v := 64) (by decide) ?_
  refine mm_newa (t := 1) (ty := .int) (a0 := .inl (fun _ => 0)) (atype := .int) w_56 rfl rfl (fun _ => rfl) (fun _ => trivial) (fun _ => rfl) d_M_init_56 k70 k71 (Nat.le_trans (Nat.mul_le_mul_left _ (by decide)) k72) hb73 ?_
  refine mm_putF cc_M 10 (by decide) w_753 d_M_init_58 rfl rfl rfl (fun _ => rfl) (fun _ => rfl) g75 z9 l76 ?_
  refine mm_aload_n 0 (i := 0) d_M_init_61 rfl rfl ?_
  refine mm_bipush d_M_init_62 (v := 64) (by decide) ?_
  refine mm_newa (t := 1) (ty := .int) (a0 := .inl (fun _ => 0)) (atype := .int) w_56 rfl rfl (fun _ => rfl) (fun _ => trivial) (fun _ => rfl) d_M_init_64 k79 k80 (Nat.le_trans (Nat.mul_le_mul_left _ (by decide)) k81) hb82 ?_
  refine mm_eqm q84 ?_
  refine mm_putF cc_M 11 (by decide) w_754 d_M_init_66 rfl rfl rfl (fun _ => rfl) (fun _ => rfl) g86 z9 l87 ?_
  refine mm_eqm q89 ?_
  refine mm_aload_n 0 (i := 0) d_M_init_69 rfl rfl ?_
  refine mm_bipush d_M_init_70 (v := 64) (by decide) ?_
  refine mm_newa (t := 1) (ty := .int) (a0 := .inl (fun _ => 0)) (atype := .int) w_56 rfl rfl (fun _ => rfl) (fun _ => trivial) (fun _ => rfl) d_M_init_72 k92 k93 (Nat.le_trans (Nat.mul_le_mul_left _ (by decide)) k94) hb95 ?_
  refine mm_putF cc_M 12 (by decide) w_755 d_M_init_74 rfl rfl rfl (fun _ => rfl) (fun _ => rfl) g97 z9 l98 ?_
  refine mm_aload_n 0 (i := 0) d_M_init_77 rfl rfl ?_
  refine mm_ldc (v := 65536) w_742 d_M_init_78 ?_
  refine mm_newa (t := 0) (ty := .byte) (a0 := .inl (fun _ => 0)) (atype := .byte) w_44 rfl rfl (fun _ => rfl) (fun _ => trivial) (fun _ => rfl) d_M_init_80 k101 k102 (Nat.le_trans (Nat.mul_le_mul_left _ (by decide)) k103) hb104 ?_
  refine mm_eqm q106 ?_
  refine mm_putf cc_M 14 (by decide) w_757 d_M_init_82 rfl (fun _ => rfl) (fun _ => rfl) g108 z9 l109 ?_
  refine mm_eqm q111 ?_
  refine mm_aload_n 0 (i := 0) d_M_init_85 rfl rfl ?_
  refine mm_ldc (v := 65536) w_742 d_M_init_86 ?_
  refine mm_newa (t := 0) (ty := .byte) (a0 := .inl (fun _ => 0)) (atype := .byte) w_44 rfl rfl (fun _ => rfl) (fun _ => trivial) (fun _ => rfl) d_M_init_88 k114 k115 (Nat.le_trans (Nat.mul_le_mul_left _ (by decide)) k116) hb117 ?_
  refine mm_putf cc_M 15 (by decide) w_758 d_M_init_90 rfl (fun _ => rfl) (fun _ => rfl) g119 z9 l120 ?_
  refine mm_aload_n 0 (i := 0) d_M_init_93 rfl rfl ?_
  refine mm_iconst d_M_init_94 (v := (-1)) (by decide) ?_
  refine mm_putf cc_M 17 (by decide) w_760 d_M_init_95 rfl (fun _ => rfl) (fun _ => rfl) g122 z9 l123 ?_
  refine mm_eqm q125 ?_
  refine mm_aload_n 0 (i := 0) d_M_init_98 rfl rfl ?_
  refine mm_iconst d_M_init_99 (v := (-1)) (by decide) ?_
  refine mm_putf cc_M 18 (by decide) w_761 d_M_init_100 rfl (fun _ => rfl) (fun _ => rfl) g127 z9 l128 ?_
  refine mm_aload_n 0 (i := 0) d_M_init_103 rfl rfl ?_
  refine mm_bipush d_M_init_104 (v := 64) (by decide) ?_
  refine mm_newa (t := 1) (ty := .int) (a0 := .inl (fun _ => 0)) (atype := .int) w_56 rfl rfl (fun _ => rfl) (fun _ => trivial) (fun _ => rfl) d_M_init_106 k131 k132 (Nat.le_trans (Nat.mul_le_mul_left _ (by decide)) k133) hb134 ?_
  refine mm_putF cc_M 23 (by decide) w_766 d_M_init_108 rfl rfl rfl (fun _ => rfl) (fun _ => rfl) g136 z9 l137 ?_
  refine mm_eqm q139 ?_
  refine mm_aload_n 0 (i := 0) d_M_init_111 rfl rfl ?_
  refine mm_bipush d_M_init_112 (v := 64) (by decide) ?_
  refine mm_newa (t := 2) (ty := .long) (a0 := .inr (.inl (fun _ => 0))) (atype := .long) w_831 rfl rfl (fun _ => rfl) (fun _ => trivial) (fun _ => rfl) d_M_init_114 k142 k143 (Nat.le_trans (Nat.mul_le_mul_left _ (by decide)) k144) hb145 ?_
  refine mm_putF cc_M 24 (by decide) w_767 d_M_init_116 rfl rfl rfl (fun _ => rfl) (fun _ => rfl) g147 z9 l148 ?_
  refine mm_aload_n 0 (i := 0) d_M_init_119 rfl rfl ?_
  refine mm_bipush d_M_init_120 (v := 64) (by decide) ?_
  refine mm_newa (t := 2) (ty := .long) (a0 := .inr (.inl (fun _ => 0))) (atype := .long) w_831 rfl rfl (fun _ => rfl) (fun _ => trivial) (fun _ => rfl) d_M_init_122 k151 k152 (Nat.le_trans (Nat.mul_le_mul_left _ (by decide)) k153) hb154 ?_
  refine mm_eqm q156 ?_
  refine mm_putF cc_M 25 (by decide) w_768 d_M_init_124 rfl rfl rfl (fun _ => rfl) (fun _ => rfl) g158 z9 l159 ?_
  refine mm_eqm q161 ?_
  refine mm_aload_n 0 (i := 0) d_M_init_127 rfl rfl ?_
  refine mm_bipush d_M_init_128 (v := 64) (by decide) ?_
  refine mm_newa (t := 2) (ty := .long) (a0 := .inr (.inl (fun _ => 0))) (atype := .long) w_831 rfl rfl (fun _ => rfl) (fun _ => trivial) (fun _ => rfl) d_M_init_130 k164 k165 (Nat.le_trans (Nat.mul_le_mul_left _ (by decide)) k166) hb167 ?_
  refine mm_putF cc_M 26 (by decide) w_769 d_M_init_132 rfl rfl rfl (fun _ => rfl) (fun _ => rfl) g169 z9 l170 ?_
  refine mm_aload_n 0 (i := 0) d_M_init_135 rfl rfl ?_
  refine mm_bipush d_M_init_136 (v := 64) (by decide) ?_
  refine mm_newa (t := 3) (ty := .boolean) (a0 := .inl (fun _ => 0)) (atype := .boolean) w_832 rfl rfl (fun _ => rfl) (fun _ => trivial) (fun _ => rfl) d_M_init_138 k173 k174 (Nat.le_trans (Nat.mul_le_mul_left _ (by decide)) k175) hb176 ?_
  refine mm_eqm q178 ?_
  refine mm_putF cc_M 27 (by decide) w_770 d_M_init_140 rfl rfl rfl (fun _ => rfl) (fun _ => rfl) g180 z9 l181 ?_
  refine mm_eqm q183 ?_
  exact mm_vret d_M_init_143 rfl h184
theorem t_M_thrown_0 {l : Launch} {G : mm_G} {b : Nat} {m : mm_Mem} {Q : mm_O → mm_Mem → Prop} {r0 : Nat} {fs_1 : List Value} {u_4 : Int32} (g2 : m r0 = .inr (8, fs_1)) (z3 : r0 ≠ 0) (v5 : fs_1[0]? = some (.int u_4)) (h6 : Q (.inl (some (.int u_4))) m) : mm_W l G k_M_thrown 0 [(0, .ref r0)] [] b m Q := by
  refine mm_aload_n 0 (i := 0) d_M_thrown_0 rfl rfl ?_
  refine mm_get cc_M 0 (by decide) w_743 d_M_thrown_1 g2 z3 v5 ?_
  exact mm_iret d_M_thrown_4 rfl h6
theorem t_M_feed_0 {l : Launch} {G : mm_G} {b : Nat} {m : mm_Mem} {Q : mm_O → mm_Mem → Prop} {r0 : Nat} {x1 : Int32} {x2 : Int32} {x3 : Int32} {x4 : Int32} {x5 : Int32} {fs_1 : List Value} {u_4 : Int32} (g2 : m r0 = .inr (8, fs_1)) (z3 : r0 ≠ 0) (v5 : fs_1[1]? = some (.int u_4)) (h6 : ((u_4 + 20) ≤ 65536) → mm_W l G k_M_feed 17 [(0, .ref r0), (1, .int x1), (2, .int x2), (3, .int x3), (4, .int x4), (5, .int x5)] [.ref r0] b m Q) (h7 : (¬ (u_4 + 20) ≤ 65536) → mm_W l G k_M_feed 13 [(0, .ref r0), (1, .int x1), (2, .int x2), (3, .int x3), (4, .int x4), (5, .int x5)] [.ref r0] b m Q) : mm_W l G k_M_feed 0 [(0, .ref r0), (1, .int x1), (2, .int x2), (3, .int x3), (4, .int x4), (5, .int x5)] [] b m Q := by
  refine mm_aload_n 0 (i := 0) d_M_feed_0 rfl rfl ?_
  refine mm_aload_n 0 (i := 0) d_M_feed_1 rfl rfl ?_
  refine mm_get cc_M 1 (by decide) w_744 d_M_feed_2 g2 z3 v5 ?_
  refine mm_bipush d_M_feed_5 (v := 20) (by decide) ?_
  refine mm_iadd d_M_feed_7 ?_
  refine mm_ldc (v := 65536) w_742 d_M_feed_8 ?_
  exact mm_icmp_le (tgt := 17) d_M_feed_10 (by decide) (fun c => mm_sub [0, 1, 2, 3, 4, 5] rfl (h6 c)) (fun c => mm_sub [0, 1, 2, 3, 4, 5] rfl (h7 c))
theorem t_M_feed_13 {l : Launch} {G : mm_G} {b : Nat} {m : mm_Mem} {Q : mm_O → mm_Mem → Prop} {r0 : Nat} {x1 : Int32} {x2 : Int32} {x3 : Int32} {x4 : Int32} {x5 : Int32} {rs0 : Nat} (h1 : mm_W l G k_M_feed 18 [(0, .ref r0), (1, .int x1), (2, .int x2), (3, .int x3), (4, .int x4), (5, .int x5)] [.int 1, .ref rs0] b m Q) : mm_W l G k_M_feed 13 [(0, .ref r0), (1, .int x1), (2, .int x2), (3, .int x3), (4, .int x4), (5, .int x5)] [.ref rs0] b m Q := by
  refine mm_iconst d_M_feed_13 (v := 1) (by decide) ?_
  refine mm_goto (tgt := 18) d_M_feed_14 (by decide) ?_
  exact mm_sub [0, 1, 2, 3, 4, 5] rfl h1
theorem t_M_feed_17 {l : Launch} {G : mm_G} {b : Nat} {m : mm_Mem} {Q : mm_O → mm_Mem → Prop} {r0 : Nat} {x1 : Int32} {x2 : Int32} {x3 : Int32} {x4 : Int32} {x5 : Int32} {rs0 : Nat} (h1 : mm_W l G k_M_feed 18 [(0, .ref r0), (1, .int x1), (2, .int x2), (3, .int x3), (4, .int x4), (5, .int x5)] [.int 0, .ref rs0] b m Q) : mm_W l G k_M_feed 17 [(0, .ref r0), (1, .int x1), (2, .int x2), (3, .int x3), (4, .int x4), (5, .int x5)] [.ref rs0] b m Q := by
  refine mm_iconst d_M_feed_17 (v := 0) (by decide) ?_
  exact mm_sub [0, 1, 2, 3, 4, 5] rfl h1
theorem t_M_feed_18 {l : Launch} {G : mm_G} {b : Nat} {m : mm_Mem} {Q : mm_O → mm_Mem → Prop} {r0 : Nat} {x1 : Int32} {x2 : Int32} {x3 : Int32} {x4 : Int32} {x5 : Int32} {xs0 : Int32} {rs1 : Nat} {fs_1 : List Value} {fs_5 : List Value} {u_8 : Int32} (g2 : m rs1 = .inr (8, fs_1)) (z3 : rs1 ≠ 0) (l4 : 0 < fs_1.length) (g6 : (va_up m rs1 (.inr (8, fs_1.set 0 (.int xs0)))) r0 = .inr (8, fs_5)) (z7 : r0 ≠ 0) (v9 : fs_5[0]? = some (.int u_8)) (h10 : (u_8 ≤ 0) → mm_W l G k_M_feed 29 [(0, .ref r0), (1, .int x1), (2, .int x2), (3, .int x3), (4, .int x4), (5, .int x5)] [] b (va_up m rs1 (.inr (8, fs_1.set 0 (.int xs0)))) Q) (h11 : (¬ u_8 ≤ 0) → mm_W l G k_M_feed 28 [] [] b (va_up m rs1 (.inr (8, fs_1.set 0 (.int xs0)))) Q) : mm_W l G k_M_feed 18 [(0, .ref r0), (1, .int x1), (2, .int x2), (3, .int x3), (4, .int x4), (5, .int x5)] [.int xs0, .ref rs1] b m Q := by
  refine mm_putf cc_M 0 (by decide) w_743 d_M_feed_18 rfl (fun _ => rfl) (fun _ => rfl) g2 z3 l4 ?_
  refine mm_aload_n 0 (i := 0) d_M_feed_21 rfl rfl ?_
  refine mm_get cc_M 0 (by decide) w_743 d_M_feed_22 g6 z7 v9 ?_
  exact mm_if_le (tgt := 29) d_M_feed_25 (by decide) (fun c => mm_sub [0, 1, 2, 3, 4, 5] rfl (h10 c)) (fun c => mm_sub [] rfl (h11 c))
theorem t_M_feed_28 {l : Launch} {G : mm_G} {b : Nat} {m : mm_Mem} {Q : mm_O → mm_Mem → Prop}  (h1 : Q (.inl none) m) : mm_W l G k_M_feed 28 [] [] b m Q := by
  exact mm_vret d_M_feed_28 rfl h1
theorem t_M_feed_29 {l : Launch} {G : mm_G} {b : Nat} {m : mm_Mem} {Q : mm_O → mm_Mem → Prop} {r0 : Nat} {x1 : Int32} {x2 : Int32} {x3 : Int32} {x4 : Int32} {x5 : Int32} (h1 : mm_W l G k_M_feed 32 [(0, .ref r0), (1, .int x1), (2, .int x2), (3, .int x3), (4, .int x4), (5, .int x5), (6, .int 0)] [] b m Q) : mm_W l G k_M_feed 29 [(0, .ref r0), (1, .int x1), (2, .int x2), (3, .int x3), (4, .int x4), (5, .int x5)] [] b m Q := by
  refine mm_iconst d_M_feed_29 (v := 0) (by decide) ?_
  refine mm_istore (i := 6) d_M_feed_30 (Nat.le_of_ble_eq_true rfl) (lv2 := [(6, .int 0), (0, .ref r0), (1, .int x1), (2, .int x2), (3, .int x3), (4, .int x4), (5, .int x5)]) rfl ?_
  exact mm_sub [1, 2, 3, 4, 5, 6, 0] rfl h1
theorem t_M_feed_32 {l : Launch} {G : mm_G} {b : Nat} {m : mm_Mem} {Q : mm_O → mm_Mem → Prop} {r0 : Nat} {x1 : Int32} {x2 : Int32} {x3 : Int32} {x4 : Int32} {x5 : Int32} {x6 : Int32} (h1 : (20 ≤ x6) → mm_W l G k_M_feed 119 [(0, .ref r0)] [] b m Q) (h2 : (¬ 20 ≤ x6) → mm_W l G k_M_feed 39 [(0, .ref r0), (1, .int x1), (2, .int x2), (3, .int x3), (4, .int x4), (5, .int x5), (6, .int x6)] [] b m Q) : mm_W l G k_M_feed 32 [(0, .ref r0), (1, .int x1), (2, .int x2), (3, .int x3), (4, .int x4), (5, .int x5), (6, .int x6)] [] b m Q := by
  refine mm_iload 6 (i := 6) d_M_feed_32 rfl ?_
  refine mm_bipush d_M_feed_34 (v := 20) (by decide) ?_
  exact mm_icmp_ge (tgt := 119) d_M_feed_36 (by decide) (fun c => mm_sub [0] rfl (h1 c)) (fun c => mm_sub [0, 1, 2, 3, 4, 5, 6] rfl (h2 c))
theorem t_M_feed_39 {l : Launch} {G : mm_G} {b : Nat} {m : mm_Mem} {Q : mm_O → mm_Mem → Prop} {r0 : Nat} {x1 : Int32} {x2 : Int32} {x3 : Int32} {x4 : Int32} {x5 : Int32} {x6 : Int32} (h1 : (4 ≤ x6) → mm_W l G k_M_feed 49 [(0, .ref r0), (1, .int x1), (2, .int x2), (3, .int x3), (4, .int x4), (5, .int x5), (6, .int x6)] [] b m Q) (h2 : (¬ 4 ≤ x6) → mm_W l G k_M_feed 45 [(0, .ref r0), (1, .int x1), (2, .int x2), (3, .int x3), (4, .int x4), (5, .int x5), (6, .int x6)] [] b m Q) : mm_W l G k_M_feed 39 [(0, .ref r0), (1, .int x1), (2, .int x2), (3, .int x3), (4, .int x4), (5, .int x5), (6, .int x6)] [] b m Q := by
  refine mm_iload 6 (i := 6) d_M_feed_39 rfl ?_
  refine mm_iconst d_M_feed_41 (v := 4) (by decide) ?_
  exact mm_icmp_ge (tgt := 49) d_M_feed_42 (by decide) (fun c => mm_sub [0, 1, 2, 3, 4, 5, 6] rfl (h1 c)) (fun c => mm_sub [0, 1, 2, 3, 4, 5, 6] rfl (h2 c))
theorem t_M_feed_45 {l : Launch} {G : mm_G} {b : Nat} {m : mm_Mem} {Q : mm_O → mm_Mem → Prop} {r0 : Nat} {x1 : Int32} {x2 : Int32} {x3 : Int32} {x4 : Int32} {x5 : Int32} {x6 : Int32} (h1 : mm_W l G k_M_feed 85 [(0, .ref r0), (1, .int x1), (2, .int x2), (3, .int x3), (4, .int x4), (5, .int x5), (6, .int x6)] [.int x1] b m Q) : mm_W l G k_M_feed 45 [(0, .ref r0), (1, .int x1), (2, .int x2), (3, .int x3), (4, .int x4), (5, .int x5), (6, .int x6)] [] b m Q := by
  refine mm_iload_n 1 (i := 1) d_M_feed_45 rfl rfl ?_
  refine mm_goto (tgt := 85) d_M_feed_46 (by decide) ?_
  exact mm_sub [0, 1, 2, 3, 4, 5, 6] rfl h1
theorem t_M_feed_49 {l : Launch} {G : mm_G} {b : Nat} {m : mm_Mem} {Q : mm_O → mm_Mem → Prop} {r0 : Nat} {x1 : Int32} {x2 : Int32} {x3 : Int32} {x4 : Int32} {x5 : Int32} {x6 : Int32} (h1 : (8 ≤ x6) → mm_W l G k_M_feed 60 [(0, .ref r0), (1, .int x1), (2, .int x2), (3, .int x3), (4, .int x4), (5, .int x5), (6, .int x6)] [] b m Q) (h2 : (¬ 8 ≤ x6) → mm_W l G k_M_feed 56 [(0, .ref r0), (1, .int x1), (2, .int x2), (3, .int x3), (4, .int x4), (5, .int x5), (6, .int x6)] [] b m Q) : mm_W l G k_M_feed 49 [(0, .ref r0), (1, .int x1), (2, .int x2), (3, .int x3), (4, .int x4), (5, .int x5), (6, .int x6)] [] b m Q := by
  refine mm_iload 6 (i := 6) d_M_feed_49 rfl ?_
  refine mm_bipush d_M_feed_51 (v := 8) (by decide) ?_
  exact mm_icmp_ge (tgt := 60) d_M_feed_53 (by decide) (fun c => mm_sub [0, 1, 2, 3, 4, 5, 6] rfl (h1 c)) (fun c => mm_sub [0, 1, 2, 3, 4, 5, 6] rfl (h2 c))
theorem t_M_feed_56 {l : Launch} {G : mm_G} {b : Nat} {m : mm_Mem} {Q : mm_O → mm_Mem → Prop} {r0 : Nat} {x1 : Int32} {x2 : Int32} {x3 : Int32} {x4 : Int32} {x5 : Int32} {x6 : Int32} (h1 : mm_W l G k_M_feed 85 [(0, .ref r0), (1, .int x1), (2, .int x2), (3, .int x3), (4, .int x4), (5, .int x5), (6, .int x6)] [.int x2] b m Q) : mm_W l G k_M_feed 56 [(0, .ref r0), (1, .int x1), (2, .int x2), (3, .int x3), (4, .int x4), (5, .int x5), (6, .int x6)] [] b m Q := by
  refine mm_iload_n 2 (i := 2) d_M_feed_56 rfl rfl ?_
  refine mm_goto (tgt := 85) d_M_feed_57 (by decide) ?_
  exact mm_sub [0, 1, 2, 3, 4, 5, 6] rfl h1
theorem t_M_feed_60 {l : Launch} {G : mm_G} {b : Nat} {m : mm_Mem} {Q : mm_O → mm_Mem → Prop} {r0 : Nat} {x1 : Int32} {x2 : Int32} {x3 : Int32} {x4 : Int32} {x5 : Int32} {x6 : Int32} (h1 : (12 ≤ x6) → mm_W l G k_M_feed 71 [(0, .ref r0), (1, .int x1), (2, .int x2), (3, .int x3), (4, .int x4), (5, .int x5), (6, .int x6)] [] b m Q) (h2 : (¬ 12 ≤ x6) → mm_W l G k_M_feed 67 [(0, .ref r0), (1, .int x1), (2, .int x2), (3, .int x3), (4, .int x4), (5, .int x5), (6, .int x6)] [] b m Q) : mm_W l G k_M_feed 60 [(0, .ref r0), (1, .int x1), (2, .int x2), (3, .int x3), (4, .int x4), (5, .int x5), (6, .int x6)] [] b m Q := by
  refine mm_iload 6 (i := 6) d_M_feed_60 rfl ?_
  refine mm_bipush d_M_feed_62 (v := 12) (by decide) ?_
  exact mm_icmp_ge (tgt := 71) d_M_feed_64 (by decide) (fun c => mm_sub [0, 1, 2, 3, 4, 5, 6] rfl (h1 c)) (fun c => mm_sub [0, 1, 2, 3, 4, 5, 6] rfl (h2 c))
theorem t_M_feed_67 {l : Launch} {G : mm_G} {b : Nat} {m : mm_Mem} {Q : mm_O → mm_Mem → Prop} {r0 : Nat} {x1 : Int32} {x2 : Int32} {x3 : Int32} {x4 : Int32} {x5 : Int32} {x6 : Int32} (h1 : mm_W l G k_M_feed 85 [(0, .ref r0), (1, .int x1), (2, .int x2), (3, .int x3), (4, .int x4), (5, .int x5), (6, .int x6)] [.int x3] b m Q) : mm_W l G k_M_feed 67 [(0, .ref r0), (1, .int x1), (2, .int x2), (3, .int x3), (4, .int x4), (5, .int x5), (6, .int x6)] [] b m Q := by
  refine mm_iload_n 3 (i := 3) d_M_feed_67 rfl rfl ?_
  refine mm_goto (tgt := 85) d_M_feed_68 (by decide) ?_
  exact mm_sub [0, 1, 2, 3, 4, 5, 6] rfl h1
theorem t_M_feed_71 {l : Launch} {G : mm_G} {b : Nat} {m : mm_Mem} {Q : mm_O → mm_Mem → Prop} {r0 : Nat} {x1 : Int32} {x2 : Int32} {x3 : Int32} {x4 : Int32} {x5 : Int32} {x6 : Int32} (h1 : (16 ≤ x6) → mm_W l G k_M_feed 83 [(0, .ref r0), (1, .int x1), (2, .int x2), (3, .int x3), (4, .int x4), (5, .int x5), (6, .int x6)] [] b m Q) (h2 : (¬ 16 ≤ x6) → mm_W l G k_M_feed 78 [(0, .ref r0), (1, .int x1), (2, .int x2), (3, .int x3), (4, .int x4), (5, .int x5), (6, .int x6)] [] b m Q) : mm_W l G k_M_feed 71 [(0, .ref r0), (1, .int x1), (2, .int x2), (3, .int x3), (4, .int x4), (5, .int x5), (6, .int x6)] [] b m Q := by
  refine mm_iload 6 (i := 6) d_M_feed_71 rfl ?_
  refine mm_bipush d_M_feed_73 (v := 16) (by decide) ?_
  exact mm_icmp_ge (tgt := 83) d_M_feed_75 (by decide) (fun c => mm_sub [0, 1, 2, 3, 4, 5, 6] rfl (h1 c)) (fun c => mm_sub [0, 1, 2, 3, 4, 5, 6] rfl (h2 c))
theorem t_M_feed_78 {l : Launch} {G : mm_G} {b : Nat} {m : mm_Mem} {Q : mm_O → mm_Mem → Prop} {r0 : Nat} {x1 : Int32} {x2 : Int32} {x3 : Int32} {x4 : Int32} {x5 : Int32} {x6 : Int32} (h1 : mm_W l G k_M_feed 85 [(0, .ref r0), (1, .int x1), (2, .int x2), (3, .int x3), (4, .int x4), (5, .int x5), (6, .int x6)] [.int x4] b m Q) : mm_W l G k_M_feed 78 [(0, .ref r0), (1, .int x1), (2, .int x2), (3, .int x3), (4, .int x4), (5, .int x5), (6, .int x6)] [] b m Q := by
  refine mm_iload 4 (i := 4) d_M_feed_78 rfl ?_
  refine mm_goto (tgt := 85) d_M_feed_80 (by decide) ?_
  exact mm_sub [0, 1, 2, 3, 4, 5, 6] rfl h1
theorem t_M_feed_83 {l : Launch} {G : mm_G} {b : Nat} {m : mm_Mem} {Q : mm_O → mm_Mem → Prop} {r0 : Nat} {x1 : Int32} {x2 : Int32} {x3 : Int32} {x4 : Int32} {x5 : Int32} {x6 : Int32} (h1 : mm_W l G k_M_feed 85 [(0, .ref r0), (1, .int x1), (2, .int x2), (3, .int x3), (4, .int x4), (5, .int x5), (6, .int x6)] [.int x5] b m Q) : mm_W l G k_M_feed 83 [(0, .ref r0), (1, .int x1), (2, .int x2), (3, .int x3), (4, .int x4), (5, .int x5), (6, .int x6)] [] b m Q := by
  refine mm_iload 5 (i := 5) d_M_feed_83 rfl ?_
  exact mm_sub [0, 1, 2, 3, 4, 5, 6] rfl h1
theorem t_M_feed_85 {l : Launch} {G : mm_G} {b : Nat} {m : mm_Mem} {Q : mm_O → mm_Mem → Prop} {r0 : Nat} {x1 : Int32} {x2 : Int32} {x3 : Int32} {x4 : Int32} {x5 : Int32} {x6 : Int32} {xs0 : Int32} {fs_1 : List Value} {q_4 : Nat} {u_6 : Int32} {n_8 : Nat} {f_9 : Nat → Int32} {m_13 : mm_Mem} (g2 : m r0 = .inr (8, fs_1)) (z3 : r0 ≠ 0) (v5 : fs_1[2]? = some (.ref q_4)) (v7 : fs_1[1]? = some (.int u_6)) (a10 : m q_4 = .inl (G.2 0, n_8, .inl f_9)) (z11 : q_4 ≠ 0) (i12 : vp_in (u_6 + x6) n_8) (q14 : m_13 = va_up m q_4 (.inl (G.2 0, n_8, .inl (upd f_9 (u_6 + x6).toNatClampNeg (vp_nar .byte ((xs0 >>> ((24 - (8 * (x6 - x6 / 4 * 4))) &&& 31)).toInt8.toInt32)))))) (h15 : mm_W l G k_M_feed 32 [(0, .ref r0), (1, .int x1), (2, .int x2), (3, .int x3), (4, .int x4), (5, .int x5), (6, .int (x6 + 1))] [] b m_13 Q) : mm_W l G k_M_feed 85 [(0, .ref r0), (1, .int x1), (2, .int x2), (3, .int x3), (4, .int x4), (5, .int x5), (6, .int x6)] [.int xs0] b m Q := by
  refine mm_istore (i := 7) d_M_feed_85 (Nat.le_of_ble_eq_true rfl) (lv2 := [(7, .int xs0), (0, .ref r0), (1, .int x1), (2, .int x2), (3, .int x3), (4, .int x4), (5, .int x5), (6, .int x6)]) rfl ?_
  refine mm_aload_n 1 (i := 0) d_M_feed_87 rfl rfl ?_
  refine mm_get cc_M 2 (by decide) w_745 d_M_feed_88 g2 z3 v5 ?_
  refine mm_aload_n 1 (i := 0) d_M_feed_91 rfl rfl ?_
  refine mm_get cc_M 1 (by decide) w_744 d_M_feed_92 g2 z3 v7 ?_
  refine mm_iload 7 (i := 6) d_M_feed_95 rfl ?_
  refine mm_iadd d_M_feed_97 ?_
  refine mm_iload 0 (i := 7) d_M_feed_98 rfl ?_
  refine mm_bipush d_M_feed_100 (v := 24) (by decide) ?_
  refine mm_bipush d_M_feed_102 (v := 8) (by decide) ?_
  refine mm_iload 7 (i := 6) d_M_feed_104 rfl ?_
  refine mm_iconst d_M_feed_106 (v := 4) (by decide) ?_
  refine mm_irem d_M_feed_107 (by decide) ?_
  refine mm_imul d_M_feed_108 ?_
  refine mm_isub d_M_feed_109 ?_
  refine mm_ishr d_M_feed_110 ?_
  refine mm_i2b d_M_feed_111 ?_
  refine mm_bast d_M_feed_112 a10 z11 i12 ?_
  refine mm_eqm q14 ?_
  refine mm_iinc 7 (i := 6) d_M_feed_113 rfl (v := x6 + 1) rfl (Nat.le_of_ble_eq_true rfl) (lv2 := [(6, .int (x6 + 1)), (7, .int xs0), (0, .ref r0), (1, .int x1), (2, .int x2), (3, .int x3), (4, .int x4), (5, .int x5)]) rfl ?_
  refine mm_goto (tgt := 32) d_M_feed_116 (by decide) ?_
  exact mm_sub [2, 3, 4, 5, 6, 7, 0] rfl h15
theorem t_M_feed_119 {l : Launch} {G : mm_G} {b : Nat} {m : mm_Mem} {Q : mm_O → mm_Mem → Prop} {r0 : Nat} {fs_1 : List Value} {u_4 : Int32} (g2 : m r0 = .inr (8, fs_1)) (z3 : r0 ≠ 0) (v5 : fs_1[1]? = some (.int u_4)) (l6 : 1 < fs_1.length) (h7 : Q (.inl none) (va_up m r0 (.inr (8, fs_1.set 1 (.int (u_4 + 20)))))) : mm_W l G k_M_feed 119 [(0, .ref r0)] [] b m Q := by
  refine mm_aload_n 0 (i := 0) d_M_feed_119 rfl rfl ?_
  refine mm_dup d_M_feed_120 rfl ?_
  refine mm_get cc_M 1 (by decide) w_744 d_M_feed_121 g2 z3 v5 ?_
  refine mm_bipush d_M_feed_124 (v := 20) (by decide) ?_
  refine mm_iadd d_M_feed_126 ?_
  refine mm_putf cc_M 1 (by decide) w_744 d_M_feed_127 rfl (fun _ => rfl) (fun _ => rfl) g2 z3 l6 ?_
  exact mm_vret d_M_feed_130 rfl h7
theorem t_M_end_0 {l : Launch} {G : mm_G} {b : Nat} {m : mm_Mem} {Q : mm_O → mm_Mem → Prop} {r0 : Nat} {x1 : Int32} (h1 : (x1 < 0) → mm_W l G k_M_end 13 [(0, .ref r0), (1, .int x1)] [.ref r0] b m Q) (h2 : (¬ x1 < 0) → mm_W l G k_M_end 5 [(0, .ref r0), (1, .int x1)] [.ref r0] b m Q) : mm_W l G k_M_end 0 [(0, .ref r0), (1, .int x1)] [] b m Q := by
  refine mm_aload_n 0 (i := 0) d_M_end_0 rfl rfl ?_
  refine mm_iload_n 1 (i := 1) d_M_end_1 rfl rfl ?_
  exact mm_if_lt (tgt := 13) d_M_end_2 (by decide) (fun c => mm_sub [0, 1] rfl (h1 c)) (fun c => mm_sub [0, 1] rfl (h2 c))
theorem t_M_end_5 {l : Launch} {G : mm_G} {b : Nat} {m : mm_Mem} {Q : mm_O → mm_Mem → Prop} {r0 : Nat} {x1 : Int32} {rs0 : Nat} {fs_1 : List Value} {u_4 : Int32} (g2 : m r0 = .inr (8, fs_1)) (z3 : r0 ≠ 0) (v5 : fs_1[1]? = some (.int u_4)) (h6 : (x1 ≤ u_4) → mm_W l G k_M_end 17 [(0, .ref r0), (1, .int x1)] [.ref rs0] b m Q) (h7 : (¬ x1 ≤ u_4) → mm_W l G k_M_end 13 [(0, .ref r0), (1, .int x1)] [.ref rs0] b m Q) : mm_W l G k_M_end 5 [(0, .ref r0), (1, .int x1)] [.ref rs0] b m Q := by
  refine mm_iload_n 1 (i := 1) d_M_end_5 rfl rfl ?_
  refine mm_aload_n 0 (i := 0) d_M_end_6 rfl rfl ?_
  refine mm_get cc_M 1 (by decide) w_744 d_M_end_7 g2 z3 v5 ?_
  exact mm_icmp_le (tgt := 17) d_M_end_10 (by decide) (fun c => mm_sub [0, 1] rfl (h6 c)) (fun c => mm_sub [0, 1] rfl (h7 c))
theorem t_M_end_13 {l : Launch} {G : mm_G} {b : Nat} {m : mm_Mem} {Q : mm_O → mm_Mem → Prop} {r0 : Nat} {x1 : Int32} {rs0 : Nat} (h1 : mm_W l G k_M_end 18 [(0, .ref r0), (1, .int x1)] [.int 1, .ref rs0] b m Q) : mm_W l G k_M_end 13 [(0, .ref r0), (1, .int x1)] [.ref rs0] b m Q := by
  refine mm_iconst d_M_end_13 (v := 1) (by decide) ?_
  refine mm_goto (tgt := 18) d_M_end_14 (by decide) ?_
  exact mm_sub [0, 1] rfl h1
theorem t_M_end_17 {l : Launch} {G : mm_G} {b : Nat} {m : mm_Mem} {Q : mm_O → mm_Mem → Prop} {r0 : Nat} {x1 : Int32} {rs0 : Nat} (h1 : mm_W l G k_M_end 18 [(0, .ref r0), (1, .int x1)] [.int 0, .ref rs0] b m Q) : mm_W l G k_M_end 17 [(0, .ref r0), (1, .int x1)] [.ref rs0] b m Q := by
  refine mm_iconst d_M_end_17 (v := 0) (by decide) ?_
  exact mm_sub [0, 1] rfl h1
theorem t_M_end_18 {l : Launch} {G : mm_G} {b : Nat} {m : mm_Mem} {Q : mm_O → mm_Mem → Prop} {r0 : Nat} {x1 : Int32} {xs0 : Int32} {rs1 : Nat} {fs_1 : List Value} {fs_5 : List Value} {u_8 : Int32} (g2 : m rs1 = .inr (8, fs_1)) (z3 : rs1 ≠ 0) (l4 : 0 < fs_1.length) (g6 : (va_up m rs1 (.inr (8, fs_1.set 0 (.int xs0)))) r0 = .inr (8, fs_5)) (z7 : r0 ≠ 0) (v9 : fs_5[0]? = some (.int u_8)) (h10 : (¬ u_8 = 0) → mm_W l G k_M_end 33 [] [] b (va_up m rs1 (.inr (8, fs_1.set 0 (.int xs0)))) Q) (h11 : (u_8 = 0) → mm_W l G k_M_end 28 [(0, .ref r0), (1, .int x1)] [] b (va_up m rs1 (.inr (8, fs_1.set 0 (.int xs0)))) Q) : mm_W l G k_M_end 18 [(0, .ref r0), (1, .int x1)] [.int xs0, .ref rs1] b m Q := by
  refine mm_putf cc_M 0 (by decide) w_743 d_M_end_18 rfl (fun _ => rfl) (fun _ => rfl) g2 z3 l4 ?_
  refine mm_aload_n 0 (i := 0) d_M_end_21 rfl rfl ?_
  refine mm_get cc_M 0 (by decide) w_743 d_M_end_22 g6 z7 v9 ?_
  exact mm_if_ne (tgt := 33) d_M_end_25 (by decide) (fun c => mm_sub [] rfl (h10 c)) (fun c => mm_sub [0, 1] rfl (h11 c))
theorem t_M_end_28 {l : Launch} {G : mm_G} {b : Nat} {m : mm_Mem} {Q : mm_O → mm_Mem → Prop} {r0 : Nat} {x1 : Int32} {fs_1 : List Value} (g2 : m r0 = .inr (8, fs_1)) (z3 : r0 ≠ 0) (l4 : 1 < fs_1.length) (h5 : mm_W l G k_M_end 33 [] [] b (va_up m r0 (.inr (8, fs_1.set 1 (.int x1)))) Q) : mm_W l G k_M_end 28 [(0, .ref r0), (1, .int x1)] [] b m Q := by
  refine mm_aload_n 0 (i := 0) d_M_end_28 rfl rfl ?_
  refine mm_iload_n 1 (i := 1) d_M_end_29 rfl rfl ?_
  refine mm_putf cc_M 1 (by decide) w_744 d_M_end_30 rfl (fun _ => rfl) (fun _ => rfl) g2 z3 l4 ?_
  exact mm_sub [] rfl h5
theorem t_M_end_33 {l : Launch} {G : mm_G} {b : Nat} {m : mm_Mem} {Q : mm_O → mm_Mem → Prop}  (h1 : Q (.inl none) m) : mm_W l G k_M_end 33 [] [] b m Q := by
  exact mm_vret d_M_end_33 rfl h1
theorem t_M_alter_0 {l : Launch} {G : mm_G} {b : Nat} {m : mm_Mem} {Q : mm_O → mm_Mem → Prop} {r0 : Nat} {x1 : Int32} {x2 : Int32} (h1 : (x1 < 0) → mm_W l G k_M_alter 13 [(0, .ref r0), (1, .int x1), (2, .int x2)] [.ref r0] b m Q) (h2 : (¬ x1 < 0) → mm_W l G k_M_alter 5 [(0, .ref r0), (1, .int x1), (2, .int x2)] [.ref r0] b m Q) : mm_W l G k_M_alter 0 [(0, .ref r0), (1, .int x1), (2, .int x2)] [] b m Q := by
  refine mm_aload_n 0 (i := 0) d_M_alter_0 rfl rfl ?_
  refine mm_iload_n 1 (i := 1) d_M_alter_1 rfl rfl ?_
  exact mm_if_lt (tgt := 13) d_M_alter_2 (by decide) (fun c => mm_sub [0, 1, 2] rfl (h1 c)) (fun c => mm_sub [0, 1, 2] rfl (h2 c))
theorem t_M_alter_5 {l : Launch} {G : mm_G} {b : Nat} {m : mm_Mem} {Q : mm_O → mm_Mem → Prop} {r0 : Nat} {x1 : Int32} {x2 : Int32} {rs0 : Nat} {fs_1 : List Value} {u_4 : Int32} (g2 : m r0 = .inr (8, fs_1)) (z3 : r0 ≠ 0) (v5 : fs_1[1]? = some (.int u_4)) (h6 : (x1 < u_4) → mm_W l G k_M_alter 17 [(0, .ref r0), (1, .int x1), (2, .int x2)] [.ref rs0] b m Q) (h7 : (¬ x1 < u_4) → mm_W l G k_M_alter 13 [(0, .ref r0), (1, .int x1), (2, .int x2)] [.ref rs0] b m Q) : mm_W l G k_M_alter 5 [(0, .ref r0), (1, .int x1), (2, .int x2)] [.ref rs0] b m Q := by
  refine mm_iload_n 1 (i := 1) d_M_alter_5 rfl rfl ?_
  refine mm_aload_n 0 (i := 0) d_M_alter_6 rfl rfl ?_
  refine mm_get cc_M 1 (by decide) w_744 d_M_alter_7 g2 z3 v5 ?_
  exact mm_icmp_lt (tgt := 17) d_M_alter_10 (by decide) (fun c => mm_sub [0, 1, 2] rfl (h6 c)) (fun c => mm_sub [0, 1, 2] rfl (h7 c))
theorem t_M_alter_13 {l : Launch} {G : mm_G} {b : Nat} {m : mm_Mem} {Q : mm_O → mm_Mem → Prop} {r0 : Nat} {x1 : Int32} {x2 : Int32} {rs0 : Nat} (h1 : mm_W l G k_M_alter 33 [(0, .ref r0), (1, .int x1), (2, .int x2)] [.int 1, .ref rs0] b m Q) : mm_W l G k_M_alter 13 [(0, .ref r0), (1, .int x1), (2, .int x2)] [.ref rs0] b m Q := by
  refine mm_iconst d_M_alter_13 (v := 1) (by decide) ?_
  refine mm_goto (tgt := 33) d_M_alter_14 (by decide) ?_
  exact mm_sub [0, 1, 2] rfl h1
theorem t_M_alter_17 {l : Launch} {G : mm_G} {b : Nat} {m : mm_Mem} {Q : mm_O → mm_Mem → Prop} {r0 : Nat} {x1 : Int32} {x2 : Int32} {rs0 : Nat} (h1 : (x2 < 0) → mm_W l G k_M_alter 28 [(0, .ref r0), (1, .int x1), (2, .int x2)] [.ref rs0] b m Q) (h2 : (¬ x2 < 0) → mm_W l G k_M_alter 21 [(0, .ref r0), (1, .int x1), (2, .int x2)] [.ref rs0] b m Q) : mm_W l G k_M_alter 17 [(0, .ref r0), (1, .int x1), (2, .int x2)] [.ref rs0] b m Q := by
  refine mm_iload_n 2 (i := 2) d_M_alter_17 rfl rfl ?_
  exact mm_if_lt (tgt := 28) d_M_alter_18 (by decide) (fun c => mm_sub [0, 1, 2] rfl (h1 c)) (fun c => mm_sub [0, 1, 2] rfl (h2 c))
theorem t_M_alter_21 {l : Launch} {G : mm_G} {b : Nat} {m : mm_Mem} {Q : mm_O → mm_Mem → Prop} {r0 : Nat} {x1 : Int32} {x2 : Int32} {rs0 : Nat} (h1 : (x2 ≤ 255) → mm_W l G k_M_alter 32 [(0, .ref r0), (1, .int x1), (2, .int x2)] [.ref rs0] b m Q) (h2 : (¬ x2 ≤ 255) → mm_W l G k_M_alter 28 [(0, .ref r0), (1, .int x1), (2, .int x2)] [.ref rs0] b m Q) : mm_W l G k_M_alter 21 [(0, .ref r0), (1, .int x1), (2, .int x2)] [.ref rs0] b m Q := by
  refine mm_iload_n 2 (i := 2) d_M_alter_21 rfl rfl ?_
  refine mm_sipush d_M_alter_22 (v := 255) (by decide) ?_
  exact mm_icmp_le (tgt := 32) d_M_alter_25 (by decide) (fun c => mm_sub [0, 1, 2] rfl (h1 c)) (fun c => mm_sub [0, 1, 2] rfl (h2 c))
theorem t_M_alter_28 {l : Launch} {G : mm_G} {b : Nat} {m : mm_Mem} {Q : mm_O → mm_Mem → Prop} {r0 : Nat} {x1 : Int32} {x2 : Int32} {rs0 : Nat} (h1 : mm_W l G k_M_alter 33 [(0, .ref r0), (1, .int x1), (2, .int x2)] [.int 2, .ref rs0] b m Q) : mm_W l G k_M_alter 28 [(0, .ref r0), (1, .int x1), (2, .int x2)] [.ref rs0] b m Q := by
  refine mm_iconst d_M_alter_28 (v := 2) (by decide) ?_
  refine mm_goto (tgt := 33) d_M_alter_29 (by decide) ?_
  exact mm_sub [0, 1, 2] rfl h1
theorem t_M_alter_32 {l : Launch} {G : mm_G} {b : Nat} {m : mm_Mem} {Q : mm_O → mm_Mem → Prop} {r0 : Nat} {x1 : Int32} {x2 : Int32} {rs0 : Nat} (h1 : mm_W l G k_M_alter 33 [(0, .ref r0), (1, .int x1), (2, .int x2)] [.int 0, .ref rs0] b m Q) : mm_W l G k_M_alter 32 [(0, .ref r0), (1, .int x1), (2, .int x2)] [.ref rs0] b m Q := by
  refine mm_iconst d_M_alter_32 (v := 0) (by decide) ?_
  exact mm_sub [0, 1, 2] rfl h1
theorem t_M_alter_33 {l : Launch} {G : mm_G} {b : Nat} {m : mm_Mem} {Q : mm_O → mm_Mem → Prop} {r0 : Nat} {x1 : Int32} {x2 : Int32} {xs0 : Int32} {rs1 : Nat} {fs_1 : List Value} {fs_5 : List Value} {u_8 : Int32} (g2 : m rs1 = .inr (8, fs_1)) (z3 : rs1 ≠ 0) (l4 : 0 < fs_1.length) (g6 : (va_up m rs1 (.inr (8, fs_1.set 0 (.int xs0)))) r0 = .inr (8, fs_5)) (z7 : r0 ≠ 0) (v9 : fs_5[0]? = some (.int u_8)) (h10 : (¬ u_8 = 0) → mm_W l G k_M_alter 51 [] [] b (va_up m rs1 (.inr (8, fs_1.set 0 (.int xs0)))) Q) (h11 : (u_8 = 0) → mm_W l G k_M_alter 43 [(0, .ref r0), (1, .int x1), (2, .int x2)] [] b (va_up m rs1 (.inr (8, fs_1.set 0 (.int xs0)))) Q) : mm_W l G k_M_alter 33 [(0, .ref r0), (1, .int x1), (2, .int x2)] [.int xs0, .ref rs1] b m Q := by
  refine mm_putf cc_M 0 (by decide) w_743 d_M_alter_33 rfl (fun _ => rfl) (fun _ => rfl) g2 z3 l4 ?_
  refine mm_aload_n 0 (i := 0) d_M_alter_36 rfl rfl ?_
  refine mm_get cc_M 0 (by decide) w_743 d_M_alter_37 g6 z7 v9 ?_
  exact mm_if_ne (tgt := 51) d_M_alter_40 (by decide) (fun c => mm_sub [] rfl (h10 c)) (fun c => mm_sub [0, 1, 2] rfl (h11 c))
theorem t_M_alter_43 {l : Launch} {G : mm_G} {b : Nat} {m : mm_Mem} {Q : mm_O → mm_Mem → Prop} {r0 : Nat} {x1 : Int32} {x2 : Int32} {fs_1 : List Value} {q_4 : Nat} {n_6 : Nat} {f_7 : Nat → Int32} (g2 : m r0 = .inr (8, fs_1)) (z3 : r0 ≠ 0) (v5 : fs_1[2]? = some (.ref q_4)) (a8 : m q_4 = .inl (G.2 0, n_6, .inl f_7)) (z9 : q_4 ≠ 0) (i10 : vp_in x1 n_6) (h11 : mm_W l G k_M_alter 51 [] [] b (va_up m q_4 (.inl (G.2 0, n_6, .inl (upd f_7 x1.toNatClampNeg (vp_nar .byte x2.toInt8.toInt32))))) Q) : mm_W l G k_M_alter 43 [(0, .ref r0), (1, .int x1), (2, .int x2)] [] b m Q := by
  refine mm_aload_n 0 (i := 0) d_M_alter_43 rfl rfl ?_
  refine mm_get cc_M 2 (by decide) w_745 d_M_alter_44 g2 z3 v5 ?_
  refine mm_iload_n 1 (i := 1) d_M_alter_47 rfl rfl ?_
  refine mm_iload_n 2 (i := 2) d_M_alter_48 rfl rfl ?_
  refine mm_i2b d_M_alter_49 ?_
  refine mm_bast d_M_alter_50 a8 z9 i10 ?_
  exact mm_sub [] rfl h11
theorem t_M_alter_51 {l : Launch} {G : mm_G} {b : Nat} {m : mm_Mem} {Q : mm_O → mm_Mem → Prop}  (h1 : Q (.inl none) m) : mm_W l G k_M_alter 51 [] [] b m Q := by
  exact mm_vret d_M_alter_51 rfl h1
theorem t_M_length_0 {l : Launch} {G : mm_G} {b : Nat} {m : mm_Mem} {Q : mm_O → mm_Mem → Prop} {r0 : Nat} {fs_1 : List Value} {fs_5 : List Value} {u_7 : Int32} (g2 : m r0 = .inr (8, fs_1)) (z3 : r0 ≠ 0) (l4 : 0 < fs_1.length) (g6 : (va_up m r0 (.inr (8, fs_1.set 0 (.int 0)))) r0 = .inr (8, fs_5)) (v8 : fs_5[1]? = some (.int u_7)) (h9 : Q (.inl (some (.int u_7))) (va_up m r0 (.inr (8, fs_1.set 0 (.int 0))))) : mm_W l G k_M_length 0 [(0, .ref r0)] [] b m Q := by
  refine mm_aload_n 0 (i := 0) d_M_length_0 rfl rfl ?_
  refine mm_iconst d_M_length_1 (v := 0) (by decide) ?_
  refine mm_putf cc_M 0 (by decide) w_743 d_M_length_2 rfl (fun _ => rfl) (fun _ => rfl) g2 z3 l4 ?_
  refine mm_aload_n 0 (i := 0) d_M_length_5 rfl rfl ?_
  refine mm_get cc_M 1 (by decide) w_744 d_M_length_6 g6 z3 v8 ?_
  exact mm_iret d_M_length_9 rfl h9
theorem t_M_byteAt_0 {l : Launch} {G : mm_G} {b : Nat} {m : mm_Mem} {Q : mm_O → mm_Mem → Prop} {r0 : Nat} {x1 : Int32} (h1 : (x1 < 0) → mm_W l G k_M_byteAt 13 [(0, .ref r0), (1, .int x1)] [.ref r0] b m Q) (h2 : (¬ x1 < 0) → mm_W l G k_M_byteAt 5 [(0, .ref r0), (1, .int x1)] [.ref r0] b m Q) : mm_W l G k_M_byteAt 0 [(0, .ref r0), (1, .int x1)] [] b m Q := by
  refine mm_aload_n 0 (i := 0) d_M_byteAt_0 rfl rfl ?_
  refine mm_iload_n 1 (i := 1) d_M_byteAt_1 rfl rfl ?_
  exact mm_if_lt (tgt := 13) d_M_byteAt_2 (by decide) (fun c => mm_sub [0, 1] rfl (h1 c)) (fun c => mm_sub [0, 1] rfl (h2 c))
theorem t_M_byteAt_5 {l : Launch} {G : mm_G} {b : Nat} {m : mm_Mem} {Q : mm_O → mm_Mem → Prop} {r0 : Nat} {x1 : Int32} {rs0 : Nat} {fs_1 : List Value} {u_4 : Int32} (g2 : m r0 = .inr (8, fs_1)) (z3 : r0 ≠ 0) (v5 : fs_1[1]? = some (.int u_4)) (h6 : (x1 < u_4) → mm_W l G k_M_byteAt 17 [(0, .ref r0), (1, .int x1)] [.ref rs0] b m Q) (h7 : (¬ x1 < u_4) → mm_W l G k_M_byteAt 13 [(0, .ref r0), (1, .int x1)] [.ref rs0] b m Q) : mm_W l G k_M_byteAt 5 [(0, .ref r0), (1, .int x1)] [.ref rs0] b m Q := by
  refine mm_iload_n 1 (i := 1) d_M_byteAt_5 rfl rfl ?_
  refine mm_aload_n 0 (i := 0) d_M_byteAt_6 rfl rfl ?_
  refine mm_get cc_M 1 (by decide) w_744 d_M_byteAt_7 g2 z3 v5 ?_
  exact mm_icmp_lt (tgt := 17) d_M_byteAt_10 (by decide) (fun c => mm_sub [0, 1] rfl (h6 c)) (fun c => mm_sub [0, 1] rfl (h7 c))
theorem t_M_byteAt_13 {l : Launch} {G : mm_G} {b : Nat} {m : mm_Mem} {Q : mm_O → mm_Mem → Prop} {r0 : Nat} {x1 : Int32} {rs0 : Nat} (h1 : mm_W l G k_M_byteAt 18 [(0, .ref r0), (1, .int x1)] [.int 1, .ref rs0] b m Q) : mm_W l G k_M_byteAt 13 [(0, .ref r0), (1, .int x1)] [.ref rs0] b m Q := by
  refine mm_iconst d_M_byteAt_13 (v := 1) (by decide) ?_
  refine mm_goto (tgt := 18) d_M_byteAt_14 (by decide) ?_
  exact mm_sub [0, 1] rfl h1
theorem t_M_byteAt_17 {l : Launch} {G : mm_G} {b : Nat} {m : mm_Mem} {Q : mm_O → mm_Mem → Prop} {r0 : Nat} {x1 : Int32} {rs0 : Nat} (h1 : mm_W l G k_M_byteAt 18 [(0, .ref r0), (1, .int x1)] [.int 0, .ref rs0] b m Q) : mm_W l G k_M_byteAt 17 [(0, .ref r0), (1, .int x1)] [.ref rs0] b m Q := by
  refine mm_iconst d_M_byteAt_17 (v := 0) (by decide) ?_
  exact mm_sub [0, 1] rfl h1
theorem t_M_byteAt_18 {l : Launch} {G : mm_G} {b : Nat} {m : mm_Mem} {Q : mm_O → mm_Mem → Prop} {r0 : Nat} {x1 : Int32} {xs0 : Int32} {rs1 : Nat} {fs_1 : List Value} {fs_5 : List Value} {u_8 : Int32} (g2 : m rs1 = .inr (8, fs_1)) (z3 : rs1 ≠ 0) (l4 : 0 < fs_1.length) (g6 : (va_up m rs1 (.inr (8, fs_1.set 0 (.int xs0)))) r0 = .inr (8, fs_5)) (z7 : r0 ≠ 0) (v9 : fs_5[0]? = some (.int u_8)) (h10 : (u_8 ≤ 0) → mm_W l G k_M_byteAt 32 [(0, .ref r0), (1, .int x1)] [] b (va_up m rs1 (.inr (8, fs_1.set 0 (.int xs0)))) Q) (h11 : (¬ u_8 ≤ 0) → mm_W l G k_M_byteAt 28 [] [] b (va_up m rs1 (.inr (8, fs_1.set 0 (.int xs0)))) Q) : mm_W l G k_M_byteAt 18 [(0, .ref r0), (1, .int x1)] [.int xs0, .ref rs1] b m Q := by
  refine mm_putf cc_M 0 (by decide) w_743 d_M_byteAt_18 rfl (fun _ => rfl) (fun _ => rfl) g2 z3 l4 ?_
  refine mm_aload_n 0 (i := 0) d_M_byteAt_21 rfl rfl ?_
  refine mm_get cc_M 0 (by decide) w_743 d_M_byteAt_22 g6 z7 v9 ?_
  exact mm_if_le (tgt := 32) d_M_byteAt_25 (by decide) (fun c => mm_sub [0, 1] rfl (h10 c)) (fun c => mm_sub [] rfl (h11 c))
theorem t_M_byteAt_28 {l : Launch} {G : mm_G} {b : Nat} {m : mm_Mem} {Q : mm_O → mm_Mem → Prop}  (h1 : mm_W l G k_M_byteAt 42 [] [.int 0] b m Q) : mm_W l G k_M_byteAt 28 [] [] b m Q := by
  refine mm_iconst d_M_byteAt_28 (v := 0) (by decide) ?_
  refine mm_goto (tgt := 42) d_M_byteAt_29 (by decide) ?_
  exact mm_sub [] rfl h1
theorem t_M_byteAt_32 {l : Launch} {G : mm_G} {b : Nat} {m : mm_Mem} {Q : mm_O → mm_Mem → Prop} {r0 : Nat} {x1 : Int32} {fs_1 : List Value} {q_4 : Nat} {n_6 : Nat} {f_7 : Nat → Int32} (g2 : m r0 = .inr (8, fs_1)) (z3 : r0 ≠ 0) (v5 : fs_1[2]? = some (.ref q_4)) (a8 : m q_4 = .inl (G.2 0, n_6, .inl f_7)) (z9 : q_4 ≠ 0) (i10 : vp_in x1 n_6) (h11 : mm_W l G k_M_byteAt 42 [] [.int ((f_7 x1.toNatClampNeg) &&& 255)] b m Q) : mm_W l G k_M_byteAt 32 [(0, .ref r0), (1, .int x1)] [] b m Q := by
  refine mm_aload_n 0 (i := 0) d_M_byteAt_32 rfl rfl ?_
  refine mm_get cc_M 2 (by decide) w_745 d_M_byteAt_33 g2 z3 v5 ?_
  refine mm_iload_n 1 (i := 1) d_M_byteAt_36 rfl rfl ?_
  refine mm_bald d_M_byteAt_37 a8 z9 i10 ?_
  refine mm_sipush d_M_byteAt_38 (v := 255) (by decide) ?_
  refine mm_iand d_M_byteAt_41 ?_
  exact mm_sub [] rfl h11
theorem t_M_byteAt_42 {l : Launch} {G : mm_G} {b : Nat} {m : mm_Mem} {Q : mm_O → mm_Mem → Prop} {xs0 : Int32} (h1 : Q (.inl (some (.int xs0))) m) : mm_W l G k_M_byteAt 42 [] [.int xs0] b m Q := by
  exact mm_iret d_M_byteAt_42 rfl h1
theorem t_M_type_0 {l : Launch} {G : mm_G} {b : Nat} {m : mm_Mem} {Q : mm_O → mm_Mem → Prop} {r0 : Nat} {x1 : Int32} (h1 : mm_W l G k_M_type 8 [(0, .ref r0), (1, .int x1), (2, .int 0), (3, .int 0), (4, .int 24)] [] b m Q) : mm_W l G k_M_type 0 [(0, .ref r0), (1, .int x1)] [] b m Q := by
  refine mm_iconst d_M_type_0 (v := 0) (by decide) ?_
  refine mm_istore_n (i := 2) d_M_type_1 rfl (Nat.le_of_ble_eq_true rfl) (lv2 := [(2, .int 0), (0, .ref r0), (1, .int x1)]) rfl ?_
  refine mm_iconst d_M_type_2 (v := 0) (by decide) ?_
  refine mm_istore_n (i := 3) d_M_type_3 rfl (Nat.le_of_ble_eq_true rfl) (lv2 := [(3, .int 0), (2, .int 0), (0, .ref r0), (1, .int x1)]) rfl ?_
  refine mm_bipush d_M_type_4 (v := 24) (by decide) ?_
  refine mm_istore (i := 4) d_M_type_6 (Nat.le_of_ble_eq_true rfl) (lv2 := [(4, .int 24), (3, .int 0), (2, .int 0), (0, .ref r0), (1, .int x1)]) rfl ?_
  exact mm_sub [3, 4, 2, 1, 0] rfl h1
theorem t_M_type_8 {l : Launch} {G : mm_G} {b : Nat} {m : mm_Mem} {Q : mm_O → mm_Mem → Prop} {r0 : Nat} {x1 : Int32} {x2 : Int32} {x3 : Int32} {x4 : Int32} (h1 : (x4 < 0) → mm_W l G k_M_type 71 [(0, .ref r0), (1, .int x1), (2, .int x2), (3, .int x3)] [] b m Q) (h2 : (¬ x4 < 0) → mm_W l G k_M_type 13 [(0, .ref r0), (1, .int x1), (2, .int x2), (3, .int x3), (4, .int x4)] [] b m Q) : mm_W l G k_M_type 8 [(0, .ref r0), (1, .int x1), (2, .int x2), (3, .int x3), (4, .int x4)] [] b m Q := by
  refine mm_iload 4 (i := 4) d_M_type_8 rfl ?_
  exact mm_if_lt (tgt := 71) d_M_type_10 (by decide) (fun c => mm_sub [0, 1, 2, 3] rfl (h1 c)) (fun c => mm_sub [0, 1, 2, 3, 4] rfl (h2 c))
theorem t_M_type_13 {l : Launch} {G : mm_G} {b : Nat} {m : mm_Mem} {Q : mm_O → mm_Mem → Prop} {r0 : Nat} {x1 : Int32} {x2 : Int32} {x3 : Int32} {x4 : Int32} (h1 : (((x1 >>> (x4 &&& 31)) &&& 255) ≤ 0) → mm_W l G k_M_type 34 [(0, .ref r0), (1, .int x1), (2, .int x2), (3, .int x3), (4, .int x4), (5, .int ((x1 >>> (x4 &&& 31)) &&& 255))] [] b m Q) (h2 : (¬ ((x1 >>> (x4 &&& 31)) &&& 255) ≤ 0) → mm_W l G k_M_type 28 [(0, .ref r0), (1, .int x1), (2, .int x2), (3, .int x3), (4, .int x4), (5, .int ((x1 >>> (x4 &&& 31)) &&& 255))] [] b m Q) : mm_W l G k_M_type 13 [(0, .ref r0), (1, .int x1), (2, .int x2), (3, .int x3), (4, .int x4)] [] b m Q := by
  refine mm_iload_n 1 (i := 1) d_M_type_13 rfl rfl ?_
  refine mm_iload 4 (i := 4) d_M_type_14 rfl ?_
  refine mm_ishr d_M_type_16 ?_
  refine mm_sipush d_M_type_17 (v := 255) (by decide) ?_
  refine mm_iand d_M_type_20 ?_
  refine mm_istore (i := 5) d_M_type_21 (Nat.le_of_ble_eq_true rfl) (lv2 := [(5, .int ((x1 >>> (x4 &&& 31)) &&& 255)), (0, .ref r0), (1, .int x1), (2, .int x2), (3, .int x3), (4, .int x4)]) rfl ?_
  refine mm_iload 0 (i := 5) d_M_type_23 rfl ?_
  exact mm_if_le (tgt := 34) d_M_type_25 (by decide) (fun c => mm_sub [1, 2, 3, 4, 5, 0] rfl (h1 c)) (fun c => mm_sub [1, 2, 3, 4, 5, 0] rfl (h2 c))
theorem t_M_type_28 {l : Launch} {G : mm_G} {b : Nat} {m : mm_Mem} {Q : mm_O → mm_Mem → Prop} {r0 : Nat} {x1 : Int32} {x2 : Int32} {x3 : Int32} {x4 : Int32} {x5 : Int32} (h1 : mm_W l G k_M_type 35 [(0, .ref r0), (1, .int x1), (3, .int x3), (4, .int x4), (5, .int x5)] [.int (x2 + 1)] b m Q) : mm_W l G k_M_type 28 [(0, .ref r0), (1, .int x1), (2, .int x2), (3, .int x3), (4, .int x4), (5, .int x5)] [] b m Q := by
  refine mm_iload_n 2 (i := 2) d_M_type_28 rfl rfl ?_
  refine mm_iconst d_M_type_29 (v := 1) (by decide) ?_
  refine mm_iadd d_M_type_30 ?_
  refine mm_goto (tgt := 35) d_M_type_31 (by decide) ?_
  exact mm_sub [0, 1, 3, 4, 5] rfl h1
theorem t_M_type_34 {l : Launch} {G : mm_G} {b : Nat} {m : mm_Mem} {Q : mm_O → mm_Mem → Prop} {r0 : Nat} {x1 : Int32} {x2 : Int32} {x3 : Int32} {x4 : Int32} {x5 : Int32} (h1 : mm_W l G k_M_type 35 [(0, .ref r0), (1, .int x1), (3, .int x3), (4, .int x4), (5, .int x5)] [.int x2] b m Q) : mm_W l G k_M_type 34 [(0, .ref r0), (1, .int x1), (2, .int x2), (3, .int x3), (4, .int x4), (5, .int x5)] [] b m Q := by
  refine mm_iload_n 2 (i := 2) d_M_type_34 rfl rfl ?_
  exact mm_sub [0, 1, 3, 4, 5] rfl h1
theorem t_M_type_35 {l : Launch} {G : mm_G} {b : Nat} {m : mm_Mem} {Q : mm_O → mm_Mem → Prop} {r0 : Nat} {x1 : Int32} {x3 : Int32} {x4 : Int32} {x5 : Int32} {xs0 : Int32} (h1 : (¬ x3 = 0) → mm_W l G k_M_type 59 [(0, .ref r0), (1, .int x1), (2, .int xs0), (4, .int x4)] [] b m Q) (h2 : (x3 = 0) → mm_W l G k_M_type 40 [(0, .ref r0), (1, .int x1), (2, .int xs0), (4, .int x4), (5, .int x5)] [] b m Q) : mm_W l G k_M_type 35 [(0, .ref r0), (1, .int x1), (3, .int x3), (4, .int x4), (5, .int x5)] [.int xs0] b m Q := by
  refine mm_istore_n (i := 2) d_M_type_35 rfl (Nat.le_of_ble_eq_true rfl) (lv2 := [(2, .int xs0), (0, .ref r0), (1, .int x1), (3, .int x3), (4, .int x4), (5, .int x5)]) rfl ?_
  refine mm_iload_n 3 (i := 3) d_M_type_36 rfl rfl ?_
  exact mm_if_ne (tgt := 59) d_M_type_37 (by decide) (fun c => mm_sub [1, 2, 0, 4] rfl (h1 c)) (fun c => mm_sub [1, 2, 0, 4, 5] rfl (h2 c))
theorem t_M_type_40 {l : Launch} {G : mm_G} {b : Nat} {m : mm_Mem} {Q : mm_O → mm_Mem → Prop} {r0 : Nat} {x1 : Int32} {x2 : Int32} {x4 : Int32} {x5 : Int32} (h1 : (x5 ≤ 0) → mm_W l G k_M_type 63 [(0, .ref r0), (1, .int x1), (2, .int x2), (4, .int x4)] [] b m Q) (h2 : (¬ x5 ≤ 0) → mm_W l G k_M_type 45 [(0, .ref r0), (1, .int x1), (2, .int x2), (4, .int x4), (5, .int x5)] [] b m Q) : mm_W l G k_M_type 40 [(0, .ref r0), (1, .int x1), (2, .int x2), (4, .int x4), (5, .int x5)] [] b m Q := by
  refine mm_iload 4 (i := 5) d_M_type_40 rfl ?_
  exact mm_if_le (tgt := 63) d_M_type_42 (by decide) (fun c => mm_sub [0, 1, 2, 3] rfl (h1 c)) (fun c => mm_sub [0, 1, 2, 3, 4] rfl (h2 c))
theorem t_M_type_45 {l : Launch} {G : mm_G} {b : Nat} {m : mm_Mem} {Q : mm_O → mm_Mem → Prop} {r0 : Nat} {x1 : Int32} {x2 : Int32} {x4 : Int32} {x5 : Int32} (h1 : (x5 < 33) → mm_W l G k_M_type 59 [(0, .ref r0), (1, .int x1), (2, .int x2), (4, .int x4)] [] b m Q) (h2 : (¬ x5 < 33) → mm_W l G k_M_type 52 [(0, .ref r0), (1, .int x1), (2, .int x2), (4, .int x4), (5, .int x5)] [] b m Q) : mm_W l G k_M_type 45 [(0, .ref r0), (1, .int x1), (2, .int x2), (4, .int x4), (5, .int x5)] [] b m Q := by
  refine mm_iload 4 (i := 5) d_M_type_45 rfl ?_
  refine mm_bipush d_M_type_47 (v := 33) (by decide) ?_
  exact mm_icmp_lt (tgt := 59) d_M_type_49 (by decide) (fun c => mm_sub [0, 1, 2, 3] rfl (h1 c)) (fun c => mm_sub [0, 1, 2, 3, 4] rfl (h2 c))
theorem t_M_type_52 {l : Launch} {G : mm_G} {b : Nat} {m : mm_Mem} {Q : mm_O → mm_Mem → Prop} {r0 : Nat} {x1 : Int32} {x2 : Int32} {x4 : Int32} {x5 : Int32} (h1 : (x5 ≤ 126) → mm_W l G k_M_type 63 [(0, .ref r0), (1, .int x1), (2, .int x2), (4, .int x4)] [] b m Q) (h2 : (¬ x5 ≤ 126) → mm_W l G k_M_type 59 [(0, .ref r0), (1, .int x1), (2, .int x2), (4, .int x4)] [] b m Q) : mm_W l G k_M_type 52 [(0, .ref r0), (1, .int x1), (2, .int x2), (4, .int x4), (5, .int x5)] [] b m Q := by
  refine mm_iload 4 (i := 5) d_M_type_52 rfl ?_
  refine mm_bipush d_M_type_54 (v := 126) (by decide) ?_
  exact mm_icmp_le (tgt := 63) d_M_type_56 (by decide) (fun c => mm_sub [0, 1, 2, 3] rfl (h1 c)) (fun c => mm_sub [0, 1, 2, 3] rfl (h2 c))
theorem t_M_type_59 {l : Launch} {G : mm_G} {b : Nat} {m : mm_Mem} {Q : mm_O → mm_Mem → Prop} {r0 : Nat} {x1 : Int32} {x2 : Int32} {x4 : Int32} (h1 : mm_W l G k_M_type 64 [(0, .ref r0), (1, .int x1), (2, .int x2), (4, .int x4)] [.int 1] b m Q) : mm_W l G k_M_type 59 [(0, .ref r0), (1, .int x1), (2, .int x2), (4, .int x4)] [] b m Q := by
  refine mm_iconst d_M_type_59 (v := 1) (by decide) ?_
  refine mm_goto (tgt := 64) d_M_type_60 (by decide) ?_
  exact mm_sub [0, 1, 2, 3] rfl h1
theorem t_M_type_63 {l : Launch} {G : mm_G} {b : Nat} {m : mm_Mem} {Q : mm_O → mm_Mem → Prop} {r0 : Nat} {x1 : Int32} {x2 : Int32} {x4 : Int32} (h1 : mm_W l G k_M_type 64 [(0, .ref r0), (1, .int x1), (2, .int x2), (4, .int x4)] [.int 0] b m Q) : mm_W l G k_M_type 63 [(0, .ref r0), (1, .int x1), (2, .int x2), (4, .int x4)] [] b m Q := by
  refine mm_iconst d_M_type_63 (v := 0) (by decide) ?_
  exact mm_sub [0, 1, 2, 3] rfl h1
theorem t_M_type_64 {l : Launch} {G : mm_G} {b : Nat} {m : mm_Mem} {Q : mm_O → mm_Mem → Prop} {r0 : Nat} {x1 : Int32} {x2 : Int32} {x4 : Int32} {xs0 : Int32} (h1 : mm_W l G k_M_type 8 [(0, .ref r0), (1, .int x1), (2, .int x2), (3, .int xs0), (4, .int (x4 + (-8)))] [] b m Q) : mm_W l G k_M_type 64 [(0, .ref r0), (1, .int x1), (2, .int x2), (4, .int x4)] [.int xs0] b m Q := by
  refine mm_istore_n (i := 3) d_M_type_64 rfl (Nat.le_of_ble_eq_true rfl) (lv2 := [(3, .int xs0), (0, .ref r0), (1, .int x1), (2, .int x2), (4, .int x4)]) rfl ?_
  refine mm_iinc 4 (i := 4) d_M_type_65 rfl (v := x4 + (-8)) rfl (Nat.le_of_ble_eq_true rfl) (lv2 := [(4, .int (x4 + (-8))), (3, .int xs0), (0, .ref r0), (1, .int x1), (2, .int x2)]) rfl ?_
  refine mm_goto (tgt := 8) d_M_type_68 (by decide) ?_
  exact mm_sub [2, 3, 4, 1, 0] rfl h1
theorem t_M_type_71 {l : Launch} {G : mm_G} {b : Nat} {m : mm_Mem} {Q : mm_O → mm_Mem → Prop} {r0 : Nat} {x1 : Int32} {x2 : Int32} {x3 : Int32} (h1 : (x3 = 0) → mm_W l G k_M_type 80 [(0, .ref r0), (1, .int x1), (2, .int x2)] [.ref r0] b m Q) (h2 : (¬ x3 = 0) → mm_W l G k_M_type 76 [(0, .ref r0), (1, .int x1)] [.ref r0] b m Q) : mm_W l G k_M_type 71 [(0, .ref r0), (1, .int x1), (2, .int x2), (3, .int x3)] [] b m Q := by
  refine mm_aload_n 0 (i := 0) d_M_type_71 rfl rfl ?_
  refine mm_iload_n 3 (i := 3) d_M_type_72 rfl rfl ?_
  exact mm_if_eq (tgt := 80) d_M_type_73 (by decide) (fun c => mm_sub [0, 1, 2] rfl (h1 c)) (fun c => mm_sub [0, 1] rfl (h2 c))
theorem t_M_type_76 {l : Launch} {G : mm_G} {b : Nat} {m : mm_Mem} {Q : mm_O → mm_Mem → Prop} {r0 : Nat} {x1 : Int32} {rs0 : Nat} (h1 : mm_W l G k_M_type 96 [(0, .ref r0), (1, .int x1)] [.int 1, .ref rs0] b m Q) : mm_W l G k_M_type 76 [(0, .ref r0), (1, .int x1)] [.ref rs0] b m Q := by
  refine mm_iconst d_M_type_76 (v := 1) (by decide) ?_
  refine mm_goto (tgt := 96) d_M_type_77 (by decide) ?_
  exact mm_sub [0, 1] rfl h1
theorem t_M_type_80 {l : Launch} {G : mm_G} {b : Nat} {m : mm_Mem} {Q : mm_O → mm_Mem → Prop} {r0 : Nat} {x1 : Int32} {x2 : Int32} {rs0 : Nat} {fs_1 : List Value} {u_4 : Int32} (g2 : m r0 = .inr (8, fs_1)) (z3 : r0 ≠ 0) (v5 : fs_1[3]? = some (.int u_4)) (h6 : ((u_4 + x2) ≤ 64) → mm_W l G k_M_type 95 [(0, .ref r0), (1, .int x1)] [.ref rs0] b m Q) (h7 : (¬ (u_4 + x2) ≤ 64) → mm_W l G k_M_type 91 [(0, .ref r0), (1, .int x1)] [.ref rs0] b m Q) : mm_W l G k_M_type 80 [(0, .ref r0), (1, .int x1), (2, .int x2)] [.ref rs0] b m Q := by
  refine mm_aload_n 0 (i := 0) d_M_type_80 rfl rfl ?_
  refine mm_get cc_M 3 (by decide) w_746 d_M_type_81 g2 z3 v5 ?_
  refine mm_iload_n 2 (i := 2) d_M_type_84 rfl rfl ?_
  refine mm_iadd d_M_type_85 ?_
  refine mm_bipush d_M_type_86 (v := 64) (by decide) ?_
  exact mm_icmp_le (tgt := 95) d_M_type_88 (by decide) (fun c => mm_sub [0, 1] rfl (h6 c)) (fun c => mm_sub [0, 1] rfl (h7 c))
theorem t_M_type_91 {l : Launch} {G : mm_G} {b : Nat} {m : mm_Mem} {Q : mm_O → mm_Mem → Prop} {r0 : Nat} {x1 : Int32} {rs0 : Nat} (h1 : mm_W l G k_M_type 96 [(0, .ref r0), (1, .int x1)] [.int 2, .ref rs0] b m Q) : mm_W l G k_M_type 91 [(0, .ref r0), (1, .int x1)] [.ref rs0] b m Q := by
  refine mm_iconst d_M_type_91 (v := 2) (by decide) ?_
  refine mm_goto (tgt := 96) d_M_type_92 (by decide) ?_
  exact mm_sub [0, 1] rfl h1
theorem t_M_type_95 {l : Launch} {G : mm_G} {b : Nat} {m : mm_Mem} {Q : mm_O → mm_Mem → Prop} {r0 : Nat} {x1 : Int32} {rs0 : Nat} (h1 : mm_W l G k_M_type 96 [(0, .ref r0), (1, .int x1)] [.int 0, .ref rs0] b m Q) : mm_W l G k_M_type 95 [(0, .ref r0), (1, .int x1)] [.ref rs0] b m Q := by
  refine mm_iconst d_M_type_95 (v := 0) (by decide) ?_
  exact mm_sub [0, 1] rfl h1
theorem t_M_type_96 {l : Launch} {G : mm_G} {b : Nat} {m : mm_Mem} {Q : mm_O → mm_Mem → Prop} {r0 : Nat} {x1 : Int32} {xs0 : Int32} {rs1 : Nat} {fs_1 : List Value} {fs_5 : List Value} {u_8 : Int32} (g2 : m rs1 = .inr (8, fs_1)) (z3 : rs1 ≠ 0) (l4 : 0 < fs_1.length) (g6 : (va_up m rs1 (.inr (8, fs_1.set 0 (.int xs0)))) r0 = .inr (8, fs_5)) (z7 : r0 ≠ 0) (v9 : fs_5[0]? = some (.int u_8)) (h10 : (u_8 ≤ 0) → mm_W l G k_M_type 108 [(0, .ref r0), (1, .int x1)] [] b (va_up m rs1 (.inr (8, fs_1.set 0 (.int xs0)))) Q) (h11 : (¬ u_8 ≤ 0) → mm_W l G k_M_type 106 [] [] b (va_up m rs1 (.inr (8, fs_1.set 0 (.int xs0)))) Q) : mm_W l G k_M_type 96 [(0, .ref r0), (1, .int x1)] [.int xs0, .ref rs1] b m Q := by
  refine mm_putf cc_M 0 (by decide) w_743 d_M_type_96 rfl (fun _ => rfl) (fun _ => rfl) g2 z3 l4 ?_
  refine mm_aload_n 0 (i := 0) d_M_type_99 rfl rfl ?_
  refine mm_get cc_M 0 (by decide) w_743 d_M_type_100 g6 z7 v9 ?_
  exact mm_if_le (tgt := 108) d_M_type_103 (by decide) (fun c => mm_sub [0, 1] rfl (h10 c)) (fun c => mm_sub [] rfl (h11 c))
theorem t_M_type_106 {l : Launch} {G : mm_G} {b : Nat} {m : mm_Mem} {Q : mm_O → mm_Mem → Prop}  (h1 : Q (.inl (some (.int 0))) m) : mm_W l G k_M_type 106 [] [] b m Q := by
  refine mm_iconst d_M_type_106 (v := 0) (by decide) ?_
  exact mm_iret d_M_type_107 rfl h1
theorem t_M_type_108 {l : Launch} {G : mm_G} {b : Nat} {m : mm_Mem} {Q : mm_O → mm_Mem → Prop} {r0 : Nat} {x1 : Int32} (h1 : mm_W l G k_M_type 112 [(0, .ref r0), (1, .int x1), (4, .int 24)] [] b m Q) : mm_W l G k_M_type 108 [(0, .ref r0), (1, .int x1)] [] b m Q := by
  refine mm_bipush d_M_type_108 (v := 24) (by decide) ?_
  refine mm_istore (i := 4) d_M_type_110 (Nat.le_of_ble_eq_true rfl) (lv2 := [(4, .int 24), (0, .ref r0), (1, .int x1)]) rfl ?_
  exact mm_sub [1, 2, 0] rfl h1
theorem t_M_type_112 {l : Launch} {G : mm_G} {b : Nat} {m : mm_Mem} {Q : mm_O → mm_Mem → Prop} {r0 : Nat} {x1 : Int32} {x4 : Int32} (h1 : (x4 < 0) → mm_W l G k_M_type 159 [(0, .ref r0)] [] b m Q) (h2 : (¬ x4 < 0) → mm_W l G k_M_type 117 [(0, .ref r0), (1, .int x1), (4, .int x4)] [] b m Q) : mm_W l G k_M_type 112 [(0, .ref r0), (1, .int x1), (4, .int x4)] [] b m Q := by
  refine mm_iload 2 (i := 4) d_M_type_112 rfl ?_
  exact mm_if_lt (tgt := 159) d_M_type_114 (by decide) (fun c => mm_sub [0] rfl (h1 c)) (fun c => mm_sub [0, 1, 2] rfl (h2 c))
theorem t_M_type_117 {l : Launch} {G : mm_G} {b : Nat} {m : mm_Mem} {Q : mm_O → mm_Mem → Prop} {r0 : Nat} {x1 : Int32} {x4 : Int32} (h1 : (((x1 >>> (x4 &&& 31)) &&& 255) ≤ 0) → mm_W l G k_M_type 153 [(0, .ref r0), (1, .int x1), (4, .int x4)] [] b m Q) (h2 : (¬ ((x1 >>> (x4 &&& 31)) &&& 255) ≤ 0) → mm_W l G k_M_type 132 [(0, .ref r0), (1, .int x1), (4, .int x4), (5, .int ((x1 >>> (x4 &&& 31)) &&& 255))] [] b m Q) : mm_W l G k_M_type 117 [(0, .ref r0), (1, .int x1), (4, .int x4)] [] b m Q := by
  refine mm_iload_n 1 (i := 1) d_M_type_117 rfl rfl ?_
  refine mm_iload 2 (i := 4) d_M_type_118 rfl ?_
  refine mm_ishr d_M_type_120 ?_
  refine mm_sipush d_M_type_121 (v := 255) (by decide) ?_
  refine mm_iand d_M_type_124 ?_
  refine mm_istore (i := 5) d_M_type_125 (Nat.le_of_ble_eq_true rfl) (lv2 := [(5, .int ((x1 >>> (x4 &&& 31)) &&& 255)), (0, .ref r0), (1, .int x1), (4, .int x4)]) rfl ?_
  refine mm_iload 0 (i := 5) d_M_type_127 rfl ?_
  exact mm_if_le (tgt := 153) d_M_type_129 (by decide) (fun c => mm_sub [1, 2, 3] rfl (h1 c)) (fun c => mm_sub [1, 2, 3, 0] rfl (h2 c))
theorem t_M_type_132 {l : Launch} {G : mm_G} {b : Nat} {m : mm_Mem} {Q : mm_O → mm_Mem → Prop} {r0 : Nat} {x1 : Int32} {x4 : Int32} {x5 : Int32} {fs_1 : List Value} {q_4 : Nat} {u_6 : Int32} {n_8 : Nat} {f_9 : Nat → Int32} {fs_13 : List Value} {u_15 : Int32} (g2 : m r0 = .inr (8, fs_1)) (z3 : r0 ≠ 0) (v5 : fs_1[4]? = some (.ref q_4)) (v7 : fs_1[3]? = some (.int u_6)) (a10 : m q_4 = .inl (G.2 1, n_8, .inl f_9)) (z11 : q_4 ≠ 0) (i12 : vp_in u_6 n_8) (g14 : (va_up m q_4 (.inl (G.2 1, n_8, .inl (upd f_9 u_6.toNatClampNeg x5)))) r0 = .inr (8, fs_13)) (v16 : fs_13[3]? = some (.int u_15)) (l17 : 3 < fs_13.length) (h18 : mm_W l G k_M_type 153 [(0, .ref r0), (1, .int x1), (4, .int x4)] [] b (va_up (va_up m q_4 (.inl (G.2 1, n_8, .inl (upd f_9 u_6.toNatClampNeg x5)))) r0 (.inr (8, fs_13.set 3 (.int (u_15 + 1))))) Q) : mm_W l G k_M_type 132 [(0, .ref r0), (1, .int x1), (4, .int x4), (5, .int x5)] [] b m Q := by
  refine mm_aload_n 0 (i := 0) d_M_type_132 rfl rfl ?_
  refine mm_get cc_M 4 (by decide) w_747 d_M_type_133 g2 z3 v5 ?_
  refine mm_aload_n 0 (i := 0) d_M_type_136 rfl rfl ?_
  refine mm_get cc_M 3 (by decide) w_746 d_M_type_137 g2 z3 v7 ?_
  refine mm_iload 3 (i := 5) d_M_type_140 rfl ?_
  refine mm_iast d_M_type_142 a10 z11 i12 ?_
  refine mm_aload_n 0 (i := 0) d_M_type_143 rfl rfl ?_
  refine mm_dup d_M_type_144 rfl ?_
  refine mm_get cc_M 3 (by decide) w_746 d_M_type_145 g14 z3 v16 ?_
  refine mm_iconst d_M_type_148 (v := 1) (by decide) ?_
  refine mm_iadd d_M_type_149 ?_
  refine mm_putf cc_M 3 (by decide) w_746 d_M_type_150 rfl (fun _ => rfl) (fun _ => rfl) g14 z3 l17 ?_
  exact mm_sub [0, 1, 2] rfl h18
theorem t_M_type_153 {l : Launch} {G : mm_G} {b : Nat} {m : mm_Mem} {Q : mm_O → mm_Mem → Prop} {r0 : Nat} {x1 : Int32} {x4 : Int32} (h1 : mm_W l G k_M_type 112 [(0, .ref r0), (1, .int x1), (4, .int (x4 + (-8)))] [] b m Q) : mm_W l G k_M_type 153 [(0, .ref r0), (1, .int x1), (4, .int x4)] [] b m Q := by
  refine mm_iinc 2 (i := 4) d_M_type_153 rfl (v := x4 + (-8)) rfl (Nat.le_of_ble_eq_true rfl) (lv2 := [(4, .int (x4 + (-8))), (0, .ref r0), (1, .int x1)]) rfl ?_
  refine mm_goto (tgt := 112) d_M_type_156 (by decide) ?_
  exact mm_sub [1, 2, 0] rfl h1
theorem t_M_type_159 {l : Launch} {G : mm_G} {b : Nat} {m : mm_Mem} {Q : mm_O → mm_Mem → Prop} {r0 : Nat} {fs_1 : List Value} {u_4 : Int32} (g2 : m r0 = .inr (8, fs_1)) (z3 : r0 ≠ 0) (v5 : fs_1[3]? = some (.int u_4)) (h6 : Q (.inl (some (.int u_4))) m) : mm_W l G k_M_type 159 [(0, .ref r0)] [] b m Q := by
  refine mm_aload_n 0 (i := 0) d_M_type_159 rfl rfl ?_
  refine mm_get cc_M 3 (by decide) w_746 d_M_type_160 g2 z3 v5 ?_
  exact mm_iret d_M_type_163 rfl h6
theorem t_M_erase_0 {l : Launch} {G : mm_G} {b : Nat} {m : mm_Mem} {Q : mm_O → mm_Mem → Prop} {r0 : Nat} {fs_1 : List Value} {fs_5 : List Value} (g2 : m r0 = .inr (8, fs_1)) (z3 : r0 ≠ 0) (l4 : 0 < fs_1.length) (g6 : (va_up m r0 (.inr (8, fs_1.set 0 (.int 0)))) r0 = .inr (8, fs_5)) (l7 : 3 < fs_5.length) (h8 : Q (.inl none) (va_up (va_up m r0 (.inr (8, fs_1.set 0 (.int 0)))) r0 (.inr (8, fs_5.set 3 (.int 0))))) : mm_W l G k_M_erase 0 [(0, .ref r0)] [] b m Q := by
  refine mm_aload_n 0 (i := 0) d_M_erase_0 rfl rfl ?_
  refine mm_iconst d_M_erase_1 (v := 0) (by decide) ?_
  refine mm_putf cc_M 0 (by decide) w_743 d_M_erase_2 rfl (fun _ => rfl) (fun _ => rfl) g2 z3 l4 ?_
  refine mm_aload_n 0 (i := 0) d_M_erase_5 rfl rfl ?_
  refine mm_iconst d_M_erase_6 (v := 0) (by decide) ?_
  refine mm_putf cc_M 3 (by decide) w_746 d_M_erase_7 rfl (fun _ => rfl) (fun _ => rfl) g6 z3 l7 ?_
  exact mm_vret d_M_erase_10 rfl h8
theorem t_M_small_0 {l : Launch} {G : mm_G} {b : Nat} {m : mm_Mem} {Q : mm_O → mm_Mem → Prop} {x0 : Int32} (h1 : (x0 < 65) → mm_W l G k_M_small 19 [(0, .int x0)] [] b m Q) (h2 : (¬ x0 < 65) → mm_W l G k_M_small 6 [(0, .int x0)] [] b m Q) : mm_W l G k_M_small 0 [(0, .int x0)] [] b m Q := by
  refine mm_iload_n 0 (i := 0) d_M_small_0 rfl rfl ?_
  refine mm_bipush d_M_small_1 (v := 65) (by decide) ?_
  exact mm_icmp_lt (tgt := 19) d_M_small_3 (by decide) (fun c => mm_sub [0] rfl (h1 c)) (fun c => mm_sub [0] rfl (h2 c))
theorem t_M_small_6 {l : Launch} {G : mm_G} {b : Nat} {m : mm_Mem} {Q : mm_O → mm_Mem → Prop} {x0 : Int32} (h1 : (90 < x0) → mm_W l G k_M_small 19 [(0, .int x0)] [] b m Q) (h2 : (¬ 90 < x0) → mm_W l G k_M_small 12 [(0, .int x0)] [] b m Q) : mm_W l G k_M_small 6 [(0, .int x0)] [] b m Q := by
  refine mm_iload_n 0 (i := 0) d_M_small_6 rfl rfl ?_
  refine mm_bipush d_M_small_7 (v := 90) (by decide) ?_
  exact mm_icmp_gt (tgt := 19) d_M_small_9 (by decide) (fun c => mm_sub [0] rfl (h1 c)) (fun c => mm_sub [0] rfl (h2 c))
theorem t_M_small_12 {l : Launch} {G : mm_G} {b : Nat} {m : mm_Mem} {Q : mm_O → mm_Mem → Prop} {x0 : Int32} (h1 : mm_W l G k_M_small 20 [] [.int (x0 + 32)] b m Q) : mm_W l G k_M_small 12 [(0, .int x0)] [] b m Q := by
  refine mm_iload_n 0 (i := 0) d_M_small_12 rfl rfl ?_
  refine mm_bipush d_M_small_13 (v := 32) (by decide) ?_
  refine mm_iadd d_M_small_15 ?_
  refine mm_goto (tgt := 20) d_M_small_16 (by decide) ?_
  exact mm_sub [] rfl h1
theorem t_M_small_19 {l : Launch} {G : mm_G} {b : Nat} {m : mm_Mem} {Q : mm_O → mm_Mem → Prop} {x0 : Int32} (h1 : mm_W l G k_M_small 20 [] [.int x0] b m Q) : mm_W l G k_M_small 19 [(0, .int x0)] [] b m Q := by
  refine mm_iload_n 0 (i := 0) d_M_small_19 rfl rfl ?_
  exact mm_sub [] rfl h1
theorem t_M_small_20 {l : Launch} {G : mm_G} {b : Nat} {m : mm_Mem} {Q : mm_O → mm_Mem → Prop} {xs0 : Int32} (h1 : Q (.inl (some (.int xs0))) m) : mm_W l G k_M_small 20 [] [.int xs0] b m Q := by
  exact mm_iret d_M_small_20 rfl h1
theorem t_M_nameAt_0 {l : Launch} {G : mm_G} {b : Nat} {m : mm_Mem} {Q : mm_O → mm_Mem → Prop} {r0 : Nat} {x1 : Int32} {x2 : Int32} (h1 : (0 ≤ x1) → mm_W l G k_M_nameAt 13 [(0, .ref r0), (1, .int x1), (2, .int x2)] [] b m Q) (h2 : (¬ 0 ≤ x1) → mm_W l G k_M_nameAt 4 [(0, .ref r0), (2, .int x2)] [] b m Q) : mm_W l G k_M_nameAt 0 [(0, .ref r0), (1, .int x1), (2, .int x2)] [] b m Q := by
  refine mm_iload_n 1 (i := 1) d_M_nameAt_0 rfl rfl ?_
  exact mm_if_ge (tgt := 13) d_M_nameAt_1 (by decide) (fun c => mm_sub [0, 1, 2] rfl (h1 c)) (fun c => mm_sub [0, 2] rfl (h2 c))
theorem t_M_nameAt_4 {l : Launch} {G : mm_G} {b : Nat} {m : mm_Mem} {Q : mm_O → mm_Mem → Prop} {r0 : Nat} {x2 : Int32} {fs_1 : List Value} {q_4 : Nat} {n_6 : Nat} {f_7 : Nat → Int32} (g2 : m r0 = .inr (8, fs_1)) (z3 : r0 ≠ 0) (v5 : fs_1[4]? = some (.ref q_4)) (a8 : m q_4 = .inl (G.2 1, n_6, .inl f_7)) (z9 : q_4 ≠ 0) (i10 : vp_in x2 n_6) (h11 : mm_W l G k_M_nameAt 25 [] [.int (f_7 x2.toNatClampNeg)] b m Q) : mm_W l G k_M_nameAt 4 [(0, .ref r0), (2, .int x2)] [] b m Q := by
  refine mm_aload_n 0 (i := 0) d_M_nameAt_4 rfl rfl ?_
  refine mm_get cc_M 4 (by decide) w_747 d_M_nameAt_5 g2 z3 v5 ?_
  refine mm_iload_n 1 (i := 2) d_M_nameAt_8 rfl rfl ?_
  refine mm_iald d_M_nameAt_9 a8 z9 i10 ?_
  refine mm_goto (tgt := 25) d_M_nameAt_10 (by decide) ?_
  exact mm_sub [] rfl h11
theorem t_M_nameAt_13 {l : Launch} {G : mm_G} {b : Nat} {m : mm_Mem} {Q : mm_O → mm_Mem → Prop} {r0 : Nat} {x1 : Int32} {x2 : Int32} {fs_1 : List Value} {q_4 : Nat} {n_6 : Nat} {f_7 : Nat → Int32} (g2 : m r0 = .inr (8, fs_1)) (z3 : r0 ≠ 0) (v5 : fs_1[2]? = some (.ref q_4)) (a8 : m q_4 = .inl (G.2 0, n_6, .inl f_7)) (z9 : q_4 ≠ 0) (i10 : vp_in (x1 + x2) n_6) (h11 : mm_W l G k_M_nameAt 25 [] [.int ((f_7 (x1 + x2).toNatClampNeg) &&& 255)] b m Q) : mm_W l G k_M_nameAt 13 [(0, .ref r0), (1, .int x1), (2, .int x2)] [] b m Q := by
  refine mm_aload_n 0 (i := 0) d_M_nameAt_13 rfl rfl ?_
  refine mm_get cc_M 2 (by decide) w_745 d_M_nameAt_14 g2 z3 v5 ?_
  refine mm_iload_n 1 (i := 1) d_M_nameAt_17 rfl rfl ?_
  refine mm_iload_n 2 (i := 2) d_M_nameAt_18 rfl rfl ?_
  refine mm_iadd d_M_nameAt_19 ?_
  refine mm_bald d_M_nameAt_20 a8 z9 i10 ?_
  refine mm_sipush d_M_nameAt_21 (v := 255) (by decide) ?_
  refine mm_iand d_M_nameAt_24 ?_
  exact mm_sub [] rfl h11
theorem t_M_nameAt_25 {l : Launch} {G : mm_G} {b : Nat} {m : mm_Mem} {Q : mm_O → mm_Mem → Prop} {xs0 : Int32} (h1 : Q (.inl (some (.int xs0))) m) : mm_W l G k_M_nameAt 25 [] [.int xs0] b m Q := by
  exact mm_iret d_M_nameAt_25 rfl h1
theorem t_M_isName_0 {l : Launch} {G : mm_G} {b : Nat} {m : mm_Mem} {Q : mm_O → mm_Mem → Prop} {r0 : Nat} {x1 : Int32} {x2 : Int32} (h1 : (x2 < 1) → mm_W l G k_M_isName 11 [] [] b m Q) (h2 : (¬ x2 < 1) → mm_W l G k_M_isName 5 [(0, .ref r0), (1, .int x1), (2, .int x2)] [] b m Q) : mm_W l G k_M_isName 0 [(0, .ref r0), (1, .int x1), (2, .int x2)] [] b m Q := by
  refine mm_iload_n 2 (i := 2) d_M_isName_0 rfl rfl ?_
  refine mm_iconst d_M_isName_1 (v := 1) (by decide) ?_
  exact mm_icmp_lt (tgt := 11) d_M_isName_2 (by decide) (fun c => mm_sub [] rfl (h1 c)) (fun c => mm_sub [0, 1, 2] rfl (h2 c))
theorem t_M_isName_5 {l : Launch} {G : mm_G} {b : Nat} {m : mm_Mem} {Q : mm_O → mm_Mem → Prop} {r0 : Nat} {x1 : Int32} {x2 : Int32} (h1 : (x2 ≤ 64) → mm_W l G k_M_isName 13 [(0, .ref r0), (1, .int x1), (2, .int x2)] [] b m Q) (h2 : (¬ x2 ≤ 64) → mm_W l G k_M_isName 11 [] [] b m Q) : mm_W l G k_M_isName 5 [(0, .ref r0), (1, .int x1), (2, .int x2)] [] b m Q := by
  refine mm_iload_n 2 (i := 2) d_M_isName_5 rfl rfl ?_
  refine mm_bipush d_M_isName_6 (v := 64) (by decide) ?_
  exact mm_icmp_le (tgt := 13) d_M_isName_8 (by decide) (fun c => mm_sub [0, 1, 2] rfl (h1 c)) (fun c => mm_sub [] rfl (h2 c))
theorem t_M_isName_11 {l : Launch} {G : mm_G} {b : Nat} {m : mm_Mem} {Q : mm_O → mm_Mem → Prop}  (h1 : Q (.inl (some (.int 0))) m) (hn2 : narrow .boolean (.int 0) = .int 0) : mm_W l G k_M_isName 11 [] [] b m Q := by
  refine mm_iconst d_M_isName_11 (v := 0) (by decide) ?_
  exact mm_zret d_M_isName_12 rfl hn2 h1
theorem t_M_isName_13 {l : Launch} {G : mm_G} {b : Nat} {m : mm_Mem} {Q : mm_O → mm_Mem → Prop} {r0 : Nat} {x1 : Int32} {x2 : Int32} (h1 : mm_W l G k_M_isName 24 [(0, .ref r0), (1, .int x1), (2, .int x2), (3, .int 1), (4, .int 0), (5, .int 0), (6, .int 0)] [] b m Q) : mm_W l G k_M_isName 13 [(0, .ref r0), (1, .int x1), (2, .int x2)] [] b m Q := by
  refine mm_iconst d_M_isName_13 (v := 1) (by decide) ?_
  refine mm_istore_n (i := 3) d_M_isName_14 rfl (Nat.le_of_ble_eq_true rfl) (lv2 := [(3, .int 1), (0, .ref r0), (1, .int x1), (2, .int x2)]) rfl ?_
  refine mm_iconst d_M_isName_15 (v := 0) (by decide) ?_
  refine mm_istore (i := 4) d_M_isName_16 (Nat.le_of_ble_eq_true rfl) (lv2 := [(4, .int 0), (3, .int 1), (0, .ref r0), (1, .int x1), (2, .int x2)]) rfl ?_
  refine mm_iconst d_M_isName_18 (v := 0) (by decide) ?_
  refine mm_istore (i := 5) d_M_isName_19 (Nat.le_of_ble_eq_true rfl) (lv2 := [(5, .int 0), (4, .int 0), (3, .int 1), (0, .ref r0), (1, .int x1), (2, .int x2)]) rfl ?_
  refine mm_iconst d_M_isName_21 (v := 0) (by decide) ?_
  refine mm_istore (i := 6) d_M_isName_22 (Nat.le_of_ble_eq_true rfl) (lv2 := [(6, .int 0), (5, .int 0), (4, .int 0), (3, .int 1), (0, .ref r0), (1, .int x1), (2, .int x2)]) rfl ?_
  exact mm_sub [4, 5, 6, 3, 2, 1, 0] rfl h1
theorem t_M_isName_24 {l : Launch} {G : mm_G} {b : Nat} {m : mm_Mem} {Q : mm_O → mm_Mem → Prop} {r0 : Nat} {x1 : Int32} {x2 : Int32} {x3 : Int32} {x4 : Int32} {x5 : Int32} {x6 : Int32} (h1 : (x2 < x6) → mm_W l G k_M_isName 152 [(3, .int x3)] [] b m Q) (h2 : (¬ x2 < x6) → mm_W l G k_M_isName 30 [(0, .ref r0), (1, .int x1), (2, .int x2), (3, .int x3), (4, .int x4), (5, .int x5), (6, .int x6)] [] b m Q) : mm_W l G k_M_isName 24 [(0, .ref r0), (1, .int x1), (2, .int x2), (3, .int x3), (4, .int x4), (5, .int x5), (6, .int x6)] [] b m Q := by
  refine mm_iload 6 (i := 6) d_M_isName_24 rfl ?_
  refine mm_iload_n 2 (i := 2) d_M_isName_26 rfl rfl ?_
  exact mm_icmp_gt (tgt := 152) d_M_isName_27 (by decide) (fun c => mm_sub [3] rfl (h1 c)) (fun c => mm_sub [0, 1, 2, 3, 4, 5, 6] rfl (h2 c))
theorem t_M_isName_30 {l : Launch} {G : mm_G} {b : Nat} {m : mm_Mem} {Q : mm_O → mm_Mem → Prop} {r0 : Nat} {x1 : Int32} {x2 : Int32} {x3 : Int32} {x4 : Int32} {x5 : Int32} {x6 : Int32} (h1 : (x2 ≤ x6) → mm_W l G k_M_isName 46 [(0, .ref r0), (1, .int x1), (2, .int x2), (3, .int x3), (4, .int x4), (5, .int x5), (6, .int x6)] [] b m Q) (h2 : (¬ x2 ≤ x6) → mm_W l G k_M_isName 36 [(0, .ref r0), (1, .int x1), (2, .int x2), (3, .int x3), (4, .int x4), (5, .int x5), (6, .int x6)] [] b m Q) : mm_W l G k_M_isName 30 [(0, .ref r0), (1, .int x1), (2, .int x2), (3, .int x3), (4, .int x4), (5, .int x5), (6, .int x6)] [] b m Q := by
  refine mm_iload 6 (i := 6) d_M_isName_30 rfl ?_
  refine mm_iload_n 2 (i := 2) d_M_isName_32 rfl rfl ?_
  exact mm_icmp_ge (tgt := 46) d_M_isName_33 (by decide) (fun c => mm_sub [0, 1, 2, 3, 4, 5, 6] rfl (h1 c)) (fun c => mm_sub [0, 1, 2, 3, 4, 5, 6] rfl (h2 c))
theorem t_M_isName_36 {l : Launch} {G : mm_G} {b : Nat} {m : mm_Mem} {Q : mm_O → mm_Mem → Prop} {r0 : Nat} {x1 : Int32} {x2 : Int32} {x3 : Int32} {x4 : Int32} {x5 : Int32} {x6 : Int32} {b_1 : Nat} {b_2 : Nat} {m_4 : mm_Mem} {x_5 : Int32} {fs_6 : List Value} (hb3 : b_1 + b_2 ≤ b) (g7 : m r0 = .inr (8, fs_6)) (z8 : r0 ≠ 0) (M9 : mm_W l G k_M_nameAt 0 (lv_args 0 [.ref r0, .int x1, .int x6]) [] b_1 m (mm_is (.inl (some (.int x_5))) m_4)) (h10 : mm_W l G k_M_isName 48 [(0, .ref r0), (1, .int x1), (2, .int x2), (3, .int x3), (4, .int x4), (5, .int x5), (6, .int x6)] [.int x_5] b_2 m_4 Q) : mm_W l G k_M_isName 36 [(0, .ref r0), (1, .int x1), (2, .int x2), (3, .int x3), (4, .int x4), (5, .int x5), (6, .int x6)] [] b m Q := by
  refine mm_aload_n 0 (i := 0) d_M_isName_36 rfl rfl ?_
  refine mm_iload_n 1 (i := 1) d_M_isName_37 rfl rfl ?_
  refine mm_iload 6 (i := 6) d_M_isName_38 rfl ?_
  refine mm_callV (as := [.int x1, .int x6]) (st := []) (b2 := b_2) ca_M_nameAt w_877 w_879 v_M_nameAt cc_M.1 rfl d_M_isName_40 rfl (Nat.le_of_ble_eq_true rfl) (Nat.le_of_ble_eq_true rfl) (Nat.le_of_ble_eq_true rfl) hb3 g7 z8 M9 (fun E _ ⟨c, _⟩ => nomatch c) (fun v _ ⟨c, e⟩ => ?_)
  cases c
  rw [e]
  show mm_W l G k_M_isName 43 [(0, .ref r0), (1, .int x1), (2, .int x2), (3, .int x3), (4, .int x4), (5, .int x5), (6, .int x6)] [.int x_5] b_2 m_4 Q
  refine mm_goto (tgt := 48) d_M_isName_43 (by decide) ?_
  exact mm_sub [0, 1, 2, 3, 4, 5, 6] rfl h10
theorem t_M_isName_46 {l : Launch} {G : mm_G} {b : Nat} {m : mm_Mem} {Q : mm_O → mm_Mem → Prop} {r0 : Nat} {x1 : Int32} {x2 : Int32} {x3 : Int32} {x4 : Int32} {x5 : Int32} {x6 : Int32} (h1 : mm_W l G k_M_isName 48 [(0, .ref r0), (1, .int x1), (2, .int x2), (3, .int x3), (4, .int x4), (5, .int x5), (6, .int x6)] [.int 47] b m Q) : mm_W l G k_M_isName 46 [(0, .ref r0), (1, .int x1), (2, .int x2), (3, .int x3), (4, .int x4), (5, .int x5), (6, .int x6)] [] b m Q := by
  refine mm_bipush d_M_isName_46 (v := 47) (by decide) ?_
  exact mm_sub [0, 1, 2, 3, 4, 5, 6] rfl h1
theorem t_M_isName_48 {l : Launch} {G : mm_G} {b : Nat} {m : mm_Mem} {Q : mm_O → mm_Mem → Prop} {r0 : Nat} {x1 : Int32} {x2 : Int32} {x3 : Int32} {x4 : Int32} {x5 : Int32} {x6 : Int32} {xs0 : Int32} (h1 : (x3 = 0) → mm_W l G k_M_isName 79 [(0, .ref r0), (1, .int x1), (2, .int x2), (4, .int x4), (5, .int x5), (6, .int x6), (7, .int xs0)] [] b m Q) (h2 : (¬ x3 = 0) → mm_W l G k_M_isName 54 [(0, .ref r0), (1, .int x1), (2, .int x2), (4, .int x4), (5, .int x5), (6, .int x6), (7, .int xs0)] [] b m Q) : mm_W l G k_M_isName 48 [(0, .ref r0), (1, .int x1), (2, .int x2), (3, .int x3), (4, .int x4), (5, .int x5), (6, .int x6)] [.int xs0] b m Q := by
  refine mm_istore (i := 7) d_M_isName_48 (Nat.le_of_ble_eq_true rfl) (lv2 := [(7, .int xs0), (0, .ref r0), (1, .int x1), (2, .int x2), (3, .int x3), (4, .int x4), (5, .int x5), (6, .int x6)]) rfl ?_
  refine mm_iload_n 4 (i := 3) d_M_isName_50 rfl rfl ?_
  exact mm_if_eq (tgt := 79) d_M_isName_51 (by decide) (fun c => mm_sub [1, 2, 3, 5, 6, 7, 0] rfl (h1 c)) (fun c => mm_sub [1, 2, 3, 5, 6, 7, 0] rfl (h2 c))
theorem t_M_isName_54 {l : Launch} {G : mm_G} {b : Nat} {m : mm_Mem} {Q : mm_O → mm_Mem → Prop} {r0 : Nat} {x1 : Int32} {x2 : Int32} {x4 : Int32} {x5 : Int32} {x6 : Int32} {x7 : Int32} (h1 : (x7 < 33) → mm_W l G k_M_isName 79 [(0, .ref r0), (1, .int x1), (2, .int x2), (4, .int x4), (5, .int x5), (6, .int x6), (7, .int x7)] [] b m Q) (h2 : (¬ x7 < 33) → mm_W l G k_M_isName 61 [(0, .ref r0), (1, .int x1), (2, .int x2), (4, .int x4), (5, .int x5), (6, .int x6), (7, .int x7)] [] b m Q) : mm_W l G k_M_isName 54 [(0, .ref r0), (1, .int x1), (2, .int x2), (4, .int x4), (5, .int x5), (6, .int x6), (7, .int x7)] [] b m Q := by
  refine mm_iload 6 (i := 7) d_M_isName_54 rfl ?_
  refine mm_bipush d_M_isName_56 (v := 33) (by decide) ?_
  exact mm_icmp_lt (tgt := 79) d_M_isName_58 (by decide) (fun c => mm_sub [0, 1, 2, 3, 4, 5, 6] rfl (h1 c)) (fun c => mm_sub [0, 1, 2, 3, 4, 5, 6] rfl (h2 c))
theorem t_M_isName_61 {l : Launch} {G : mm_G} {b : Nat} {m : mm_Mem} {Q : mm_O → mm_Mem → Prop} {r0 : Nat} {x1 : Int32} {x2 : Int32} {x4 : Int32} {x5 : Int32} {x6 : Int32} {x7 : Int32} (h1 : (126 < x7) → mm_W l G k_M_isName 79 [(0, .ref r0), (1, .int x1), (2, .int x2), (4, .int x4), (5, .int x5), (6, .int x6), (7, .int x7)] [] b m Q) (h2 : (¬ 126 < x7) → mm_W l G k_M_isName 68 [(0, .ref r0), (1, .int x1), (2, .int x2), (4, .int x4), (5, .int x5), (6, .int x6), (7, .int x7)] [] b m Q) : mm_W l G k_M_isName 61 [(0, .ref r0), (1, .int x1), (2, .int x2), (4, .int x4), (5, .int x5), (6, .int x6), (7, .int x7)] [] b m Q := by
  refine mm_iload 6 (i := 7) d_M_isName_61 rfl ?_
  refine mm_bipush d_M_isName_63 (v := 126) (by decide) ?_
  exact mm_icmp_gt (tgt := 79) d_M_isName_65 (by decide) (fun c => mm_sub [0, 1, 2, 3, 4, 5, 6] rfl (h1 c)) (fun c => mm_sub [0, 1, 2, 3, 4, 5, 6] rfl (h2 c))
theorem t_M_isName_68 {l : Launch} {G : mm_G} {b : Nat} {m : mm_Mem} {Q : mm_O → mm_Mem → Prop} {r0 : Nat} {x1 : Int32} {x2 : Int32} {x4 : Int32} {x5 : Int32} {x6 : Int32} {x7 : Int32} (h1 : (x7 = 92) → mm_W l G k_M_isName 79 [(0, .ref r0), (1, .int x1), (2, .int x2), (4, .int x4), (5, .int x5), (6, .int x6), (7, .int x7)] [] b m Q) (h2 : (¬ x7 = 92) → mm_W l G k_M_isName 75 [(0, .ref r0), (1, .int x1), (2, .int x2), (4, .int x4), (5, .int x5), (6, .int x6), (7, .int x7)] [] b m Q) : mm_W l G k_M_isName 68 [(0, .ref r0), (1, .int x1), (2, .int x2), (4, .int x4), (5, .int x5), (6, .int x6), (7, .int x7)] [] b m Q := by
  refine mm_iload 6 (i := 7) d_M_isName_68 rfl ?_
  refine mm_bipush d_M_isName_70 (v := 92) (by decide) ?_
  exact mm_icmp_eq (tgt := 79) d_M_isName_72 (by decide) (fun c => mm_sub [0, 1, 2, 3, 4, 5, 6] rfl (h1 c)) (fun c => mm_sub [0, 1, 2, 3, 4, 5, 6] rfl (h2 c))
theorem t_M_isName_75 {l : Launch} {G : mm_G} {b : Nat} {m : mm_Mem} {Q : mm_O → mm_Mem → Prop} {r0 : Nat} {x1 : Int32} {x2 : Int32} {x4 : Int32} {x5 : Int32} {x6 : Int32} {x7 : Int32} (h1 : mm_W l G k_M_isName 80 [(0, .ref r0), (1, .int x1), (2, .int x2), (4, .int x4), (5, .int x5), (6, .int x6), (7, .int x7)] [.int 1] b m Q) : mm_W l G k_M_isName 75 [(0, .ref r0), (1, .int x1), (2, .int x2), (4, .int x4), (5, .int x5), (6, .int x6), (7, .int x7)] [] b m Q := by
  refine mm_iconst d_M_isName_75 (v := 1) (by decide) ?_
  refine mm_goto (tgt := 80) d_M_isName_76 (by decide) ?_
  exact mm_sub [0, 1, 2, 3, 4, 5, 6] rfl h1
theorem t_M_isName_79 {l : Launch} {G : mm_G} {b : Nat} {m : mm_Mem} {Q : mm_O → mm_Mem → Prop} {r0 : Nat} {x1 : Int32} {x2 : Int32} {x4 : Int32} {x5 : Int32} {x6 : Int32} {x7 : Int32} (h1 : mm_W l G k_M_isName 80 [(0, .ref r0), (1, .int x1), (2, .int x2), (4, .int x4), (5, .int x5), (6, .int x6), (7, .int x7)] [.int 0] b m Q) : mm_W l G k_M_isName 79 [(0, .ref r0), (1, .int x1), (2, .int x2), (4, .int x4), (5, .int x5), (6, .int x6), (7, .int x7)] [] b m Q := by
  refine mm_iconst d_M_isName_79 (v := 0) (by decide) ?_
  exact mm_sub [0, 1, 2, 3, 4, 5, 6] rfl h1
theorem t_M_isName_80 {l : Launch} {G : mm_G} {b : Nat} {m : mm_Mem} {Q : mm_O → mm_Mem → Prop} {r0 : Nat} {x1 : Int32} {x2 : Int32} {x4 : Int32} {x5 : Int32} {x6 : Int32} {x7 : Int32} {xs0 : Int32} (h1 : (¬ x7 = 47) → mm_W l G k_M_isName 125 [(0, .ref r0), (1, .int x1), (2, .int x2), (3, .int xs0), (4, .int x4), (5, .int x5), (6, .int x6), (7, .int x7)] [] b m Q) (h2 : (x7 = 47) → mm_W l G k_M_isName 88 [(0, .ref r0), (1, .int x1), (2, .int x2), (3, .int xs0), (4, .int x4), (5, .int x5), (6, .int x6)] [] b m Q) : mm_W l G k_M_isName 80 [(0, .ref r0), (1, .int x1), (2, .int x2), (4, .int x4), (5, .int x5), (6, .int x6), (7, .int x7)] [.int xs0] b m Q := by
  refine mm_istore_n (i := 3) d_M_isName_80 rfl (Nat.le_of_ble_eq_true rfl) (lv2 := [(3, .int xs0), (0, .ref r0), (1, .int x1), (2, .int x2), (4, .int x4), (5, .int x5), (6, .int x6), (7, .int x7)]) rfl ?_
  refine mm_iload 7 (i := 7) d_M_isName_81 rfl ?_
  refine mm_bipush d_M_isName_83 (v := 47) (by decide) ?_
  exact mm_icmp_ne (tgt := 125) d_M_isName_85 (by decide) (fun c => mm_sub [1, 2, 3, 0, 4, 5, 6, 7] rfl (h1 c)) (fun c => mm_sub [1, 2, 3, 0, 4, 5, 6] rfl (h2 c))
theorem t_M_isName_88 {l : Launch} {G : mm_G} {b : Nat} {m : mm_Mem} {Q : mm_O → mm_Mem → Prop} {r0 : Nat} {x1 : Int32} {x2 : Int32} {x3 : Int32} {x4 : Int32} {x5 : Int32} {x6 : Int32} (h1 : (x3 = 0) → mm_W l G k_M_isName 114 [(0, .ref r0), (1, .int x1), (2, .int x2), (6, .int x6)] [] b m Q) (h2 : (¬ x3 = 0) → mm_W l G k_M_isName 92 [(0, .ref r0), (1, .int x1), (2, .int x2), (4, .int x4), (5, .int x5), (6, .int x6)] [] b m Q) : mm_W l G k_M_isName 88 [(0, .ref r0), (1, .int x1), (2, .int x2), (3, .int x3), (4, .int x4), (5, .int x5), (6, .int x6)] [] b m Q := by
  refine mm_iload_n 3 (i := 3) d_M_isName_88 rfl rfl ?_
  exact mm_if_eq (tgt := 114) d_M_isName_89 (by decide) (fun c => mm_sub [0, 1, 2, 6] rfl (h1 c)) (fun c => mm_sub [0, 1, 2, 4, 5, 6] rfl (h2 c))
theorem t_M_isName_92 {l : Launch} {G : mm_G} {b : Nat} {m : mm_Mem} {Q : mm_O → mm_Mem → Prop} {r0 : Nat} {x1 : Int32} {x2 : Int32} {x4 : Int32} {x5 : Int32} {x6 : Int32} (h1 : (x4 ≤ 0) → mm_W l G k_M_isName 114 [(0, .ref r0), (1, .int x1), (2, .int x2), (6, .int x6)] [] b m Q) (h2 : (¬ x4 ≤ 0) → mm_W l G k_M_isName 97 [(0, .ref r0), (1, .int x1), (2, .int x2), (4, .int x4), (5, .int x5), (6, .int x6)] [] b m Q) : mm_W l G k_M_isName 92 [(0, .ref r0), (1, .int x1), (2, .int x2), (4, .int x4), (5, .int x5), (6, .int x6)] [] b m Q := by
  refine mm_iload 3 (i := 4) d_M_isName_92 rfl ?_
  exact mm_if_le (tgt := 114) d_M_isName_94 (by decide) (fun c => mm_sub [0, 1, 2, 5] rfl (h1 c)) (fun c => mm_sub [0, 1, 2, 3, 4, 5] rfl (h2 c))
theorem t_M_isName_97 {l : Launch} {G : mm_G} {b : Nat} {m : mm_Mem} {Q : mm_O → mm_Mem → Prop} {r0 : Nat} {x1 : Int32} {x2 : Int32} {x4 : Int32} {x5 : Int32} {x6 : Int32} (h1 : (3 ≤ x4) → mm_W l G k_M_isName 110 [(0, .ref r0), (1, .int x1), (2, .int x2), (6, .int x6)] [] b m Q) (h2 : (¬ 3 ≤ x4) → mm_W l G k_M_isName 103 [(0, .ref r0), (1, .int x1), (2, .int x2), (4, .int x4), (5, .int x5), (6, .int x6)] [] b m Q) : mm_W l G k_M_isName 97 [(0, .ref r0), (1, .int x1), (2, .int x2), (4, .int x4), (5, .int x5), (6, .int x6)] [] b m Q := by
  refine mm_iload 3 (i := 4) d_M_isName_97 rfl ?_
  refine mm_iconst d_M_isName_99 (v := 3) (by decide) ?_
  exact mm_icmp_ge (tgt := 110) d_M_isName_100 (by decide) (fun c => mm_sub [0, 1, 2, 5] rfl (h1 c)) (fun c => mm_sub [0, 1, 2, 3, 4, 5] rfl (h2 c))
theorem t_M_isName_103 {l : Launch} {G : mm_G} {b : Nat} {m : mm_Mem} {Q : mm_O → mm_Mem → Prop} {r0 : Nat} {x1 : Int32} {x2 : Int32} {x4 : Int32} {x5 : Int32} {x6 : Int32} (h1 : (x5 = x4) → mm_W l G k_M_isName 114 [(0, .ref r0), (1, .int x1), (2, .int x2), (6, .int x6)] [] b m Q) (h2 : (¬ x5 = x4) → mm_W l G k_M_isName 110 [(0, .ref r0), (1, .int x1), (2, .int x2), (6, .int x6)] [] b m Q) : mm_W l G k_M_isName 103 [(0, .ref r0), (1, .int x1), (2, .int x2), (4, .int x4), (5, .int x5), (6, .int x6)] [] b m Q := by
  refine mm_iload 4 (i := 5) d_M_isName_103 rfl ?_
  refine mm_iload 3 (i := 4) d_M_isName_105 rfl ?_
  exact mm_icmp_eq (tgt := 114) d_M_isName_107 (by decide) (fun c => mm_sub [0, 1, 2, 5] rfl (h1 c)) (fun c => mm_sub [0, 1, 2, 5] rfl (h2 c))
theorem t_M_isName_110 {l : Launch} {G : mm_G} {b : Nat} {m : mm_Mem} {Q : mm_O → mm_Mem → Prop} {r0 : Nat} {x1 : Int32} {x2 : Int32} {x6 : Int32} (h1 : mm_W l G k_M_isName 115 [(0, .ref r0), (1, .int x1), (2, .int x2), (6, .int x6)] [.int 1] b m Q) : mm_W l G k_M_isName 110 [(0, .ref r0), (1, .int x1), (2, .int x2), (6, .int x6)] [] b m Q := by
  refine mm_iconst d_M_isName_110 (v := 1) (by decide) ?_
  refine mm_goto (tgt := 115) d_M_isName_111 (by decide) ?_
  exact mm_sub [0, 1, 2, 3] rfl h1
theorem t_M_isName_114 {l : Launch} {G : mm_G} {b : Nat} {m : mm_Mem} {Q : mm_O → mm_Mem → Prop} {r0 : Nat} {x1 : Int32} {x2 : Int32} {x6 : Int32} (h1 : mm_W l G k_M_isName 115 [(0, .ref r0), (1, .int x1), (2, .int x2), (6, .int x6)] [.int 0] b m Q) : mm_W l G k_M_isName 114 [(0, .ref r0), (1, .int x1), (2, .int x2), (6, .int x6)] [] b m Q := by
  refine mm_iconst d_M_isName_114 (v := 0) (by decide) ?_
  exact mm_sub [0, 1, 2, 3] rfl h1
theorem t_M_isName_115 {l : Launch} {G : mm_G} {b : Nat} {m : mm_Mem} {Q : mm_O → mm_Mem → Prop} {r0 : Nat} {x1 : Int32} {x2 : Int32} {x6 : Int32} {xs0 : Int32} (h1 : mm_W l G k_M_isName 146 [(0, .ref r0), (1, .int x1), (2, .int x2), (3, .int xs0), (4, .int 0), (5, .int 0), (6, .int x6)] [] b m Q) : mm_W l G k_M_isName 115 [(0, .ref r0), (1, .int x1), (2, .int x2), (6, .int x6)] [.int xs0] b m Q := by
  refine mm_istore_n (i := 3) d_M_isName_115 rfl (Nat.le_of_ble_eq_true rfl) (lv2 := [(3, .int xs0), (0, .ref r0), (1, .int x1), (2, .int x2), (6, .int x6)]) rfl ?_
  refine mm_iconst d_M_isName_116 (v := 0) (by decide) ?_
  refine mm_istore (i := 4) d_M_isName_117 (Nat.le_of_ble_eq_true rfl) (lv2 := [(4, .int 0), (3, .int xs0), (0, .ref r0), (1, .int x1), (2, .int x2), (6, .int x6)]) rfl ?_
  refine mm_iconst d_M_isName_119 (v := 0) (by decide) ?_
  refine mm_istore (i := 5) d_M_isName_120 (Nat.le_of_ble_eq_true rfl) (lv2 := [(5, .int 0), (4, .int 0), (3, .int xs0), (0, .ref r0), (1, .int x1), (2, .int x2), (6, .int x6)]) rfl ?_
  refine mm_goto (tgt := 146) d_M_isName_122 (by decide) ?_
  exact mm_sub [3, 4, 5, 2, 1, 0, 6] rfl h1
theorem t_M_isName_125 {l : Launch} {G : mm_G} {b : Nat} {m : mm_Mem} {Q : mm_O → mm_Mem → Prop} {r0 : Nat} {x1 : Int32} {x2 : Int32} {x3 : Int32} {x4 : Int32} {x5 : Int32} {x6 : Int32} {x7 : Int32} (h1 : (¬ x7 = 46) → mm_W l G k_M_isName 142 [(0, .ref r0), (1, .int x1), (2, .int x2), (3, .int x3), (4, .int (x4 + 1)), (5, .int x5), (6, .int x6)] [] b m Q) (h2 : (x7 = 46) → mm_W l G k_M_isName 135 [(0, .ref r0), (1, .int x1), (2, .int x2), (3, .int x3), (4, .int (x4 + 1)), (5, .int x5), (6, .int x6)] [] b m Q) : mm_W l G k_M_isName 125 [(0, .ref r0), (1, .int x1), (2, .int x2), (3, .int x3), (4, .int x4), (5, .int x5), (6, .int x6), (7, .int x7)] [] b m Q := by
  refine mm_iinc 4 (i := 4) d_M_isName_125 rfl (v := x4 + 1) rfl (Nat.le_of_ble_eq_true rfl) (lv2 := [(4, .int (x4 + 1)), (0, .ref r0), (1, .int x1), (2, .int x2), (3, .int x3), (5, .int x5), (6, .int x6), (7, .int x7)]) rfl ?_
  refine mm_iload 7 (i := 7) d_M_isName_128 rfl ?_
  refine mm_bipush d_M_isName_130 (v := 46) (by decide) ?_
  exact mm_icmp_ne (tgt := 142) d_M_isName_132 (by decide) (fun c => mm_sub [1, 2, 3, 4, 0, 5, 6] rfl (h1 c)) (fun c => mm_sub [1, 2, 3, 4, 0, 5, 6] rfl (h2 c))
theorem t_M_isName_135 {l : Launch} {G : mm_G} {b : Nat} {m : mm_Mem} {Q : mm_O → mm_Mem → Prop} {r0 : Nat} {x1 : Int32} {x2 : Int32} {x3 : Int32} {x4 : Int32} {x5 : Int32} {x6 : Int32} (h1 : mm_W l G k_M_isName 144 [(0, .ref r0), (1, .int x1), (2, .int x2), (3, .int x3), (4, .int x4), (6, .int x6)] [.int (x5 + 1)] b m Q) : mm_W l G k_M_isName 135 [(0, .ref r0), (1, .int x1), (2, .int x2), (3, .int x3), (4, .int x4), (5, .int x5), (6, .int x6)] [] b m Q := by
  refine mm_iload 5 (i := 5) d_M_isName_135 rfl ?_
  refine mm_iconst d_M_isName_137 (v := 1) (by decide) ?_
  refine mm_iadd d_M_isName_138 ?_
  refine mm_goto (tgt := 144) d_M_isName_139 (by decide) ?_
  exact mm_sub [0, 1, 2, 3, 4, 6] rfl h1
theorem t_M_isName_142 {l : Launch} {G : mm_G} {b : Nat} {m : mm_Mem} {Q : mm_O → mm_Mem → Prop} {r0 : Nat} {x1 : Int32} {x2 : Int32} {x3 : Int32} {x4 : Int32} {x5 : Int32} {x6 : Int32} (h1 : mm_W l G k_M_isName 144 [(0, .ref r0), (1, .int x1), (2, .int x2), (3, .int x3), (4, .int x4), (6, .int x6)] [.int x5] b m Q) : mm_W l G k_M_isName 142 [(0, .ref r0), (1, .int x1), (2, .int x2), (3, .int x3), (4, .int x4), (5, .int x5), (6, .int x6)] [] b m Q := by
  refine mm_iload 5 (i := 5) d_M_isName_142 rfl ?_
  exact mm_sub [0, 1, 2, 3, 4, 6] rfl h1
theorem t_M_isName_144 {l : Launch} {G : mm_G} {b : Nat} {m : mm_Mem} {Q : mm_O → mm_Mem → Prop} {r0 : Nat} {x1 : Int32} {x2 : Int32} {x3 : Int32} {x4 : Int32} {x6 : Int32} {xs0 : Int32} (h1 : mm_W l G k_M_isName 146 [(0, .ref r0), (1, .int x1), (2, .int x2), (3, .int x3), (4, .int x4), (5, .int xs0), (6, .int x6)] [] b m Q) : mm_W l G k_M_isName 144 [(0, .ref r0), (1, .int x1), (2, .int x2), (3, .int x3), (4, .int x4), (6, .int x6)] [.int xs0] b m Q := by
  refine mm_istore (i := 5) d_M_isName_144 (Nat.le_of_ble_eq_true rfl) (lv2 := [(5, .int xs0), (0, .ref r0), (1, .int x1), (2, .int x2), (3, .int x3), (4, .int x4), (6, .int x6)]) rfl ?_
  exact mm_sub [1, 2, 3, 4, 5, 0, 6] rfl h1
theorem t_M_isName_146 {l : Launch} {G : mm_G} {b : Nat} {m : mm_Mem} {Q : mm_O → mm_Mem → Prop} {r0 : Nat} {x1 : Int32} {x2 : Int32} {x3 : Int32} {x4 : Int32} {x5 : Int32} {x6 : Int32} (h1 : mm_W l G k_M_isName 24 [(0, .ref r0), (1, .int x1), (2, .int x2), (3, .int x3), (4, .int x4), (5, .int x5), (6, .int (x6 + 1))] [] b m Q) : mm_W l G k_M_isName 146 [(0, .ref r0), (1, .int x1), (2, .int x2), (3, .int x3), (4, .int x4), (5, .int x5), (6, .int x6)] [] b m Q := by
  refine mm_iinc 6 (i := 6) d_M_isName_146 rfl (v := x6 + 1) rfl (Nat.le_of_ble_eq_true rfl) (lv2 := [(6, .int (x6 + 1)), (0, .ref r0), (1, .int x1), (2, .int x2), (3, .int x3), (4, .int x4), (5, .int x5)]) rfl ?_
  refine mm_goto (tgt := 24) d_M_isName_149 (by decide) ?_
  exact mm_sub [1, 2, 3, 4, 5, 6, 0] rfl h1
theorem t_M_isName_152 {l : Launch} {G : mm_G} {b : Nat} {m : mm_Mem} {Q : mm_O → mm_Mem → Prop} {x3 : Int32} (h1 : Q (.inl (some (.int x3))) m) (hn2 : narrow .boolean (.int x3) = .int x3) : mm_W l G k_M_isName 152 [(3, .int x3)] [] b m Q := by
  refine mm_iload_n 0 (i := 3) d_M_isName_152 rfl rfl ?_
  exact mm_zret d_M_isName_153 rfl hn2 h1
theorem t_M_findName_0 {l : Launch} {G : mm_G} {b : Nat} {m : mm_Mem} {Q : mm_O → mm_Mem → Prop} {r0 : Nat} (h1 : mm_W l G k_M_findName 2 [(0, .ref r0), (1, .int 0)] [] b m Q) : mm_W l G k_M_findName 0 [(0, .ref r0)] [] b m Q := by
  refine mm_iconst d_M_findName_0 (v := 0) (by decide) ?_
  refine mm_istore_n (i := 1) d_M_findName_1 rfl (Nat.le_of_ble_eq_true rfl) (lv2 := [(1, .int 0), (0, .ref r0)]) rfl ?_
  exact mm_sub [1, 0] rfl h1
theorem t_M_findName_2 {l : Launch} {G : mm_G} {b : Nat} {m : mm_Mem} {Q : mm_O → mm_Mem → Prop} {r0 : Nat} {x1 : Int32} {fs_1 : List Value} {u_4 : Int32} (g2 : m r0 = .inr (8, fs_1)) (z3 : r0 ≠ 0) (v5 : fs_1[5]? = some (.int u_4)) (h6 : (u_4 ≤ x1) → mm_W l G k_M_findName 93 [] [] b m Q) (h7 : (¬ u_4 ≤ x1) → mm_W l G k_M_findName 10 [(0, .ref r0), (1, .int x1)] [] b m Q) : mm_W l G k_M_findName 2 [(0, .ref r0), (1, .int x1)] [] b m Q := by
  refine mm_iload_n 1 (i := 1) d_M_findName_2 rfl rfl ?_
  refine mm_aload_n 0 (i := 0) d_M_findName_3 rfl rfl ?_
  refine mm_get cc_M 5 (by decide) w_748 d_M_findName_4 g2 z3 v5 ?_
  exact mm_icmp_ge (tgt := 93) d_M_findName_7 (by decide) (fun c => mm_sub [] rfl (h6 c)) (fun c => mm_sub [0, 1] rfl (h7 c))
theorem t_M_findName_10 {l : Launch} {G : mm_G} {b : Nat} {m : mm_Mem} {Q : mm_O → mm_Mem → Prop} {r0 : Nat} {x1 : Int32} {fs_1 : List Value} {q_4 : Nat} {n_6 : Nat} {f_7 : Nat → Int32} {u_11 : Int32} (g2 : m r0 = .inr (8, fs_1)) (z3 : r0 ≠ 0) (v5 : fs_1[7]? = some (.ref q_4)) (a8 : m q_4 = .inl (G.2 1, n_6, .inl f_7)) (z9 : q_4 ≠ 0) (i10 : vp_in x1 n_6) (v12 : fs_1[3]? = some (.int u_11)) (h13 : (¬ (f_7 x1.toNatClampNeg) = u_11) → mm_W l G k_M_findName 27 [(0, .ref r0), (1, .int x1)] [] b m Q) (h14 : ((f_7 x1.toNatClampNeg) = u_11) → mm_W l G k_M_findName 23 [(0, .ref r0), (1, .int x1)] [] b m Q) : mm_W l G k_M_findName 10 [(0, .ref r0), (1, .int x1)] [] b m Q := by
  refine mm_aload_n 0 (i := 0) d_M_findName_10 rfl rfl ?_
  refine mm_get cc_M 7 (by decide) w_750 d_M_findName_11 g2 z3 v5 ?_
  refine mm_iload_n 1 (i := 1) d_M_findName_14 rfl rfl ?_
  refine mm_iald d_M_findName_15 a8 z9 i10 ?_
  refine mm_aload_n 0 (i := 0) d_M_findName_16 rfl rfl ?_
  refine mm_get cc_M 3 (by decide) w_746 d_M_findName_17 g2 z3 v12 ?_
  exact mm_icmp_ne (tgt := 27) d_M_findName_20 (by decide) (fun c => mm_sub [0, 1] rfl (h13 c)) (fun c => mm_sub [0, 1] rfl (h14 c))
theorem t_M_findName_23 {l : Launch} {G : mm_G} {b : Nat} {m : mm_Mem} {Q : mm_O → mm_Mem → Prop} {r0 : Nat} {x1 : Int32} (h1 : mm_W l G k_M_findName 28 [(0, .ref r0), (1, .int x1)] [.int 1] b m Q) : mm_W l G k_M_findName 23 [(0, .ref r0), (1, .int x1)] [] b m Q := by
  refine mm_iconst d_M_findName_23 (v := 1) (by decide) ?_
  refine mm_goto (tgt := 28) d_M_findName_24 (by decide) ?_
  exact mm_sub [0, 1] rfl h1
theorem t_M_findName_27 {l : Launch} {G : mm_G} {b : Nat} {m : mm_Mem} {Q : mm_O → mm_Mem → Prop} {r0 : Nat} {x1 : Int32} (h1 : mm_W l G k_M_findName 28 [(0, .ref r0), (1, .int x1)] [.int 0] b m Q) : mm_W l G k_M_findName 27 [(0, .ref r0), (1, .int x1)] [] b m Q := by
  refine mm_iconst d_M_findName_27 (v := 0) (by decide) ?_
  exact mm_sub [0, 1] rfl h1
theorem t_M_findName_28 {l : Launch} {G : mm_G} {b : Nat} {m : mm_Mem} {Q : mm_O → mm_Mem → Prop} {r0 : Nat} {x1 : Int32} {xs0 : Int32} (h1 : mm_W l G k_M_findName 31 [(0, .ref r0), (1, .int x1), (2, .int xs0), (3, .int 0)] [] b m Q) : mm_W l G k_M_findName 28 [(0, .ref r0), (1, .int x1)] [.int xs0] b m Q := by
  refine mm_istore_n (i := 2) d_M_findName_28 rfl (Nat.le_of_ble_eq_true rfl) (lv2 := [(2, .int xs0), (0, .ref r0), (1, .int x1)]) rfl ?_
  refine mm_iconst d_M_findName_29 (v := 0) (by decide) ?_
  refine mm_istore_n (i := 3) d_M_findName_30 rfl (Nat.le_of_ble_eq_true rfl) (lv2 := [(3, .int 0), (2, .int xs0), (0, .ref r0), (1, .int x1)]) rfl ?_
  exact mm_sub [2, 3, 1, 0] rfl h1
theorem t_M_findName_31 {l : Launch} {G : mm_G} {b : Nat} {m : mm_Mem} {Q : mm_O → mm_Mem → Prop} {r0 : Nat} {x1 : Int32} {x2 : Int32} {x3 : Int32} {fs_1 : List Value} {u_4 : Int32} (g2 : m r0 = .inr (8, fs_1)) (z3 : r0 ≠ 0) (v5 : fs_1[3]? = some (.int u_4)) (h6 : (u_4 ≤ x3) → mm_W l G k_M_findName 81 [(0, .ref r0), (1, .int x1), (2, .int x2)] [] b m Q) (h7 : (¬ u_4 ≤ x3) → mm_W l G k_M_findName 39 [(0, .ref r0), (1, .int x1), (2, .int x2), (3, .int x3)] [] b m Q) : mm_W l G k_M_findName 31 [(0, .ref r0), (1, .int x1), (2, .int x2), (3, .int x3)] [] b m Q := by
  refine mm_iload_n 3 (i := 3) d_M_findName_31 rfl rfl ?_
  refine mm_aload_n 0 (i := 0) d_M_findName_32 rfl rfl ?_
  refine mm_get cc_M 3 (by decide) w_746 d_M_findName_33 g2 z3 v5 ?_
  exact mm_icmp_ge (tgt := 81) d_M_findName_36 (by decide) (fun c => mm_sub [0, 1, 2] rfl (h6 c)) (fun c => mm_sub [0, 1, 2, 3] rfl (h7 c))
theorem t_M_findName_39 {l : Launch} {G : mm_G} {b : Nat} {m : mm_Mem} {Q : mm_O → mm_Mem → Prop} {r0 : Nat} {x1 : Int32} {x2 : Int32} {x3 : Int32} (h1 : (x2 = 0) → mm_W l G k_M_findName 81 [(0, .ref r0), (1, .int x1), (2, .int x2)] [] b m Q) (h2 : (¬ x2 = 0) → mm_W l G k_M_findName 43 [(0, .ref r0), (1, .int x1), (3, .int x3)] [] b m Q) : mm_W l G k_M_findName 39 [(0, .ref r0), (1, .int x1), (2, .int x2), (3, .int x3)] [] b m Q := by
  refine mm_iload_n 2 (i := 2) d_M_findName_39 rfl rfl ?_
  exact mm_if_eq (tgt := 81) d_M_findName_40 (by decide) (fun c => mm_sub [0, 1, 2] rfl (h1 c)) (fun c => mm_sub [0, 1, 3] rfl (h2 c))
theorem t_M_findName_43 {l : Launch} {G : mm_G} {b : Nat} {m : mm_Mem} {Q : mm_O → mm_Mem → Prop} {r0 : Nat} {x1 : Int32} {x3 : Int32} {fs_1 : List Value} {q_4 : Nat} {n_6 : Nat} {f_7 : Nat → Int32} {b_11 : Nat} {b_12 : Nat} {m_14 : mm_Mem} {x_15 : Int32} {fs_17 : List Value} {q_19 : Nat} {n_21 : Nat} {f_22 : Nat → Int32} {b_26 : Nat} {b_27 : Nat} {m_29 : mm_Mem} {x_30 : Int32} (g2 : m r0 = .inr (8, fs_1)) (z3 : r0 ≠ 0) (v5 : fs_1[6]? = some (.ref q_4)) (a8 : m q_4 = .inl (G.2 1, n_6, .inl f_7)) (z9 : q_4 ≠ 0) (i10 : vp_in ((64 * x1) + x3) n_6) (hb13 : b_11 + b_12 ≤ b) (M16 : mm_W l G k_M_small 0 (lv_args 0 [.int (f_7 ((64 * x1) + x3).toNatClampNeg)]) [] b_11 m (mm_is (.inl (some (.int x_15))) m_14)) (g18 : m_14 r0 = .inr (8, fs_17)) (v20 : fs_17[4]? = some (.ref q_19)) (a23 : m_14 q_19 = .inl (G.2 1, n_21, .inl f_22)) (z24 : q_19 ≠ 0) (i25 : vp_in x3 n_21) (hb28 : b_26 + b_27 ≤ b_12) (M31 : mm_W l G k_M_small 0 (lv_args 0 [.int (f_22 x3.toNatClampNeg)]) [] b_26 m_14 (mm_is (.inl (some (.int x_30))) m_29)) (h32 : (¬ x_15 = x_30) → mm_W l G k_M_findName 73 [(0, .ref r0), (1, .int x1), (3, .int x3)] [] b_27 m_29 Q) (h33 : (x_15 = x_30) → mm_W l G k_M_findName 69 [(0, .ref r0), (1, .int x1), (3, .int x3)] [] b_27 m_29 Q) : mm_W l G k_M_findName 43 [(0, .ref r0), (1, .int x1), (3, .int x3)] [] b m Q := by
  refine mm_aload_n 0 (i := 0) d_M_findName_43 rfl rfl ?_
  refine mm_get cc_M 6 (by decide) w_749 d_M_findName_44 g2 z3 v5 ?_
  refine mm_bipush d_M_findName_47 (v := 64) (by decide) ?_
  refine mm_iload_n 1 (i := 1) d_M_findName_49 rfl rfl ?_
  refine mm_imul d_M_findName_50 ?_
  refine mm_iload_n 2 (i := 3) d_M_findName_51 rfl rfl ?_
  refine mm_iadd d_M_findName_52 ?_
  refine mm_iald d_M_findName_53 a8 z9 i10 ?_
  refine mm_callS (as := [.int (f_7 ((64 * x1) + x3).toNatClampNeg)]) (st := []) (b2 := b_12) ca_M_small w_885 w_886 d_M_findName_54 rfl (Nat.le_of_ble_eq_true rfl) (Nat.le_of_ble_eq_true rfl) (Nat.le_of_ble_eq_true rfl) hb13 M16 (fun E _ ⟨c, _⟩ => nomatch c) (fun v _ ⟨c, e⟩ => ?_)
  cases c
  rw [e]
  show mm_W l G k_M_findName 57 [(0, .ref r0), (1, .int x1), (3, .int x3)] [.int x_15] b_12 m_14 Q
  refine mm_aload_n 0 (i := 0) d_M_findName_57 rfl rfl ?_
  refine mm_get cc_M 4 (by decide) w_747 d_M_findName_58 g18 z3 v20 ?_
  refine mm_iload_n 2 (i := 3) d_M_findName_61 rfl rfl ?_
  refine mm_iald d_M_findName_62 a23 z24 i25 ?_
  refine mm_callS (as := [.int (f_22 x3.toNatClampNeg)]) (st := [.int x_15]) (b2 := b_27) ca_M_small w_885 w_886 d_M_findName_63 rfl (Nat.le_of_ble_eq_true rfl) (Nat.le_of_ble_eq_true rfl) (Nat.le_of_ble_eq_true rfl) hb28 M31 (fun E _ ⟨c, _⟩ => nomatch c) (fun v _ ⟨c, e⟩ => ?_)
  cases c
  rw [e]
  show mm_W l G k_M_findName 66 [(0, .ref r0), (1, .int x1), (3, .int x3)] [.int x_30, .int x_15] b_27 m_29 Q
  exact mm_icmp_ne (tgt := 73) d_M_findName_66 (by decide) (fun c => mm_sub [0, 1, 2] rfl (h32 c)) (fun c => mm_sub [0, 1, 2] rfl (h33 c))
theorem t_M_findName_69 {l : Launch} {G : mm_G} {b : Nat} {m : mm_Mem} {Q : mm_O → mm_Mem → Prop} {r0 : Nat} {x1 : Int32} {x3 : Int32} (h1 : mm_W l G k_M_findName 74 [(0, .ref r0), (1, .int x1), (3, .int x3)] [.int 1] b m Q) : mm_W l G k_M_findName 69 [(0, .ref r0), (1, .int x1), (3, .int x3)] [] b m Q := by
  refine mm_iconst d_M_findName_69 (v := 1) (by decide) ?_
  refine mm_goto (tgt := 74) d_M_findName_70 (by decide) ?_
  exact mm_sub [0, 1, 2] rfl h1
theorem t_M_findName_73 {l : Launch} {G : mm_G} {b : Nat} {m : mm_Mem} {Q : mm_O → mm_Mem → Prop} {r0 : Nat} {x1 : Int32} {x3 : Int32} (h1 : mm_W l G k_M_findName 74 [(0, .ref r0), (1, .int x1), (3, .int x3)] [.int 0] b m Q) : mm_W l G k_M_findName 73 [(0, .ref r0), (1, .int x1), (3, .int x3)] [] b m Q := by
  refine mm_iconst d_M_findName_73 (v := 0) (by decide) ?_
  exact mm_sub [0, 1, 2] rfl h1
theorem t_M_findName_74 {l : Launch} {G : mm_G} {b : Nat} {m : mm_Mem} {Q : mm_O → mm_Mem → Prop} {r0 : Nat} {x1 : Int32} {x3 : Int32} {xs0 : Int32} (h1 : mm_W l G k_M_findName 31 [(0, .ref r0), (1, .int x1), (2, .int xs0), (3, .int (x3 + 1))] [] b m Q) : mm_W l G k_M_findName 74 [(0, .ref r0), (1, .int x1), (3, .int x3)] [.int xs0] b m Q := by
  refine mm_istore_n (i := 2) d_M_findName_74 rfl (Nat.le_of_ble_eq_true rfl) (lv2 := [(2, .int xs0), (0, .ref r0), (1, .int x1), (3, .int x3)]) rfl ?_
  refine mm_iinc 3 (i := 3) d_M_findName_75 rfl (v := x3 + 1) rfl (Nat.le_of_ble_eq_true rfl) (lv2 := [(3, .int (x3 + 1)), (2, .int xs0), (0, .ref r0), (1, .int x1)]) rfl ?_
  refine mm_goto (tgt := 31) d_M_findName_78 (by decide) ?_
  exact mm_sub [2, 3, 1, 0] rfl h1
theorem t_M_findName_81 {l : Launch} {G : mm_G} {b : Nat} {m : mm_Mem} {Q : mm_O → mm_Mem → Prop} {r0 : Nat} {x1 : Int32} {x2 : Int32} (h1 : (x2 = 0) → mm_W l G k_M_findName 87 [(0, .ref r0), (1, .int x1)] [] b m Q) (h2 : (¬ x2 = 0) → mm_W l G k_M_findName 85 [(1, .int x1)] [] b m Q) : mm_W l G k_M_findName 81 [(0, .ref r0), (1, .int x1), (2, .int x2)] [] b m Q := by
  refine mm_iload_n 2 (i := 2) d_M_findName_81 rfl rfl ?_
  exact mm_if_eq (tgt := 87) d_M_findName_82 (by decide) (fun c => mm_sub [0, 1] rfl (h1 c)) (fun c => mm_sub [1] rfl (h2 c))
theorem t_M_findName_85 {l : Launch} {G : mm_G} {b : Nat} {m : mm_Mem} {Q : mm_O → mm_Mem → Prop} {x1 : Int32} (h1 : Q (.inl (some (.int x1))) m) : mm_W l G k_M_findName 85 [(1, .int x1)] [] b m Q := by
  refine mm_iload_n 0 (i := 1) d_M_findName_85 rfl rfl ?_
  exact mm_iret d_M_findName_86 rfl h1
theorem t_M_findName_87 {l : Launch} {G : mm_G} {b : Nat} {m : mm_Mem} {Q : mm_O → mm_Mem → Prop} {r0 : Nat} {x1 : Int32} (h1 : mm_W l G k_M_findName 2 [(0, .ref r0), (1, .int (x1 + 1))] [] b m Q) : mm_W l G k_M_findName 87 [(0, .ref r0), (1, .int x1)] [] b m Q := by
  refine mm_iinc 1 (i := 1) d_M_findName_87 rfl (v := x1 + 1) rfl (Nat.le_of_ble_eq_true rfl) (lv2 := [(1, .int (x1 + 1)), (0, .ref r0)]) rfl ?_
  refine mm_goto (tgt := 2) d_M_findName_90 (by decide) ?_
  exact mm_sub [1, 0] rfl h1
theorem t_M_findName_93 {l : Launch} {G : mm_G} {b : Nat} {m : mm_Mem} {Q : mm_O → mm_Mem → Prop}  (h1 : Q (.inl (some (.int ((-1))))) m) : mm_W l G k_M_findName 93 [] [] b m Q := by
  refine mm_iconst d_M_findName_93 (v := (-1)) (by decide) ?_
  exact mm_iret d_M_findName_94 rfl h1
theorem t_M_checkOf_0 {l : Launch} {G : mm_G} {b : Nat} {m : mm_Mem} {Q : mm_O → mm_Mem → Prop} {r0 : Nat} {x1 : Int32} {x2 : Int32} (h1 : mm_W l G k_M_checkOf 5 [(0, .ref r0), (1, .int x1), (2, .int x2), (3, .int ((-1))), (4, .int x1)] [] b m Q) : mm_W l G k_M_checkOf 0 [(0, .ref r0), (1, .int x1), (2, .int x2)] [] b m Q := by
  refine mm_iconst d_M_checkOf_0 (v := (-1)) (by decide) ?_
  refine mm_istore_n (i := 3) d_M_checkOf_1 rfl (Nat.le_of_ble_eq_true rfl) (lv2 := [(3, .int ((-1))), (0, .ref r0), (1, .int x1), (2, .int x2)]) rfl ?_
  refine mm_iload_n 2 (i := 1) d_M_checkOf_2 rfl rfl ?_
  refine mm_istore (i := 4) d_M_checkOf_3 (Nat.le_of_ble_eq_true rfl) (lv2 := [(4, .int x1), (3, .int ((-1))), (0, .ref r0), (1, .int x1), (2, .int x2)]) rfl ?_
  exact mm_sub [2, 3, 4, 1, 0] rfl h1
theorem t_M_checkOf_5 {l : Launch} {G : mm_G} {b : Nat} {m : mm_Mem} {Q : mm_O → mm_Mem → Prop} {r0 : Nat} {x1 : Int32} {x2 : Int32} {x3 : Int32} {x4 : Int32} (h1 : ((x1 + x2) ≤ x4) → mm_W l G k_M_checkOf 66 [(3, .int x3)] [] b m Q) (h2 : (¬ (x1 + x2) ≤ x4) → mm_W l G k_M_checkOf 13 [(0, .ref r0), (1, .int x1), (2, .int x2), (3, .int x3), (4, .int x4)] [] b m Q) : mm_W l G k_M_checkOf 5 [(0, .ref r0), (1, .int x1), (2, .int x2), (3, .int x3), (4, .int x4)] [] b m Q := by
  refine mm_iload 4 (i := 4) d_M_checkOf_5 rfl ?_
  refine mm_iload_n 1 (i := 1) d_M_checkOf_7 rfl rfl ?_
  refine mm_iload_n 2 (i := 2) d_M_checkOf_8 rfl rfl ?_
  refine mm_iadd d_M_checkOf_9 ?_
  exact mm_icmp_ge (tgt := 66) d_M_checkOf_10 (by decide) (fun c => mm_sub [3] rfl (h1 c)) (fun c => mm_sub [0, 1, 2, 3, 4] rfl (h2 c))
theorem t_M_checkOf_13 {l : Launch} {G : mm_G} {b : Nat} {m : mm_Mem} {Q : mm_O → mm_Mem → Prop} {r0 : Nat} {x1 : Int32} {x2 : Int32} {x3 : Int32} {x4 : Int32} {n_1 : Nat} {f_2 : Nat → Int32} (a3 : m r0 = .inl (G.2 0, n_1, .inl f_2)) (z4 : r0 ≠ 0) (i5 : vp_in x4 n_1) (h6 : mm_W l G k_M_checkOf 27 [(0, .ref r0), (1, .int x1), (2, .int x2), (3, .int (x3 ^^^ ((f_2 x4.toNatClampNeg) &&& 255))), (4, .int x4), (5, .int 0)] [] b m Q) : mm_W l G k_M_checkOf 13 [(0, .ref r0), (1, .int x1), (2, .int x2), (3, .int x3), (4, .int x4)] [] b m Q := by
  refine mm_iload_n 3 (i := 3) d_M_checkOf_13 rfl rfl ?_
  refine mm_aload_n 0 (i := 0) d_M_checkOf_14 rfl rfl ?_
  refine mm_iload 4 (i := 4) d_M_checkOf_15 rfl ?_
  refine mm_bald d_M_checkOf_17 a3 z4 i5 ?_
  refine mm_sipush d_M_checkOf_18 (v := 255) (by decide) ?_
  refine mm_iand d_M_checkOf_21 ?_
  refine mm_ixor d_M_checkOf_22 ?_
  refine mm_istore_n (i := 3) d_M_checkOf_23 rfl (Nat.le_of_ble_eq_true rfl) (lv2 := [(3, .int (x3 ^^^ ((f_2 x4.toNatClampNeg) &&& 255))), (0, .ref r0), (1, .int x1), (2, .int x2), (4, .int x4)]) rfl ?_
  refine mm_iconst d_M_checkOf_24 (v := 0) (by decide) ?_
  refine mm_istore (i := 5) d_M_checkOf_25 (Nat.le_of_ble_eq_true rfl) (lv2 := [(5, .int 0), (3, .int (x3 ^^^ ((f_2 x4.toNatClampNeg) &&& 255))), (0, .ref r0), (1, .int x1), (2, .int x2), (4, .int x4)]) rfl ?_
  exact mm_sub [2, 3, 4, 1, 5, 0] rfl h6
theorem t_M_checkOf_27 {l : Launch} {G : mm_G} {b : Nat} {m : mm_Mem} {Q : mm_O → mm_Mem → Prop} {r0 : Nat} {x1 : Int32} {x2 : Int32} {x3 : Int32} {x4 : Int32} {x5 : Int32} (h1 : (8 ≤ x5) → mm_W l G k_M_checkOf 60 [(0, .ref r0), (1, .int x1), (2, .int x2), (3, .int x3), (4, .int x4)] [] b m Q) (h2 : (¬ 8 ≤ x5) → mm_W l G k_M_checkOf 34 [(0, .ref r0), (1, .int x1), (2, .int x2), (3, .int x3), (4, .int x4), (5, .int x5)] [] b m Q) : mm_W l G k_M_checkOf 27 [(0, .ref r0), (1, .int x1), (2, .int x2), (3, .int x3), (4, .int x4), (5, .int x5)] [] b m Q := by
  refine mm_iload 5 (i := 5) d_M_checkOf_27 rfl ?_
  refine mm_bipush d_M_checkOf_29 (v := 8) (by decide) ?_
  exact mm_icmp_ge (tgt := 60) d_M_checkOf_31 (by decide) (fun c => mm_sub [0, 1, 2, 3, 4] rfl (h1 c)) (fun c => mm_sub [0, 1, 2, 3, 4, 5] rfl (h2 c))
theorem t_M_checkOf_34 {l : Launch} {G : mm_G} {b : Nat} {m : mm_Mem} {Q : mm_O → mm_Mem → Prop} {r0 : Nat} {x1 : Int32} {x2 : Int32} {x3 : Int32} {x4 : Int32} {x5 : Int32} (h1 : (¬ (x3 &&& 1) = 1) → mm_W l G k_M_checkOf 50 [(0, .ref r0), (1, .int x1), (2, .int x2), (3, .int x3), (4, .int x4), (5, .int x5)] [] b m Q) (h2 : ((x3 &&& 1) = 1) → mm_W l G k_M_checkOf 41 [(0, .ref r0), (1, .int x1), (2, .int x2), (3, .int x3), (4, .int x4), (5, .int x5)] [] b m Q) : mm_W l G k_M_checkOf 34 [(0, .ref r0), (1, .int x1), (2, .int x2), (3, .int x3), (4, .int x4), (5, .int x5)] [] b m Q := by
  refine mm_iload_n 3 (i := 3) d_M_checkOf_34 rfl rfl ?_
  refine mm_iconst d_M_checkOf_35 (v := 1) (by decide) ?_
  refine mm_iand d_M_checkOf_36 ?_
  refine mm_iconst d_M_checkOf_37 (v := 1) (by decide) ?_
  exact mm_icmp_ne (tgt := 50) d_M_checkOf_38 (by decide) (fun c => mm_sub [0, 1, 2, 3, 4, 5] rfl (h1 c)) (fun c => mm_sub [0, 1, 2, 3, 4, 5] rfl (h2 c))
theorem t_M_checkOf_41 {l : Launch} {G : mm_G} {b : Nat} {m : mm_Mem} {Q : mm_O → mm_Mem → Prop} {r0 : Nat} {x1 : Int32} {x2 : Int32} {x3 : Int32} {x4 : Int32} {x5 : Int32} (h1 : mm_W l G k_M_checkOf 53 [(0, .ref r0), (1, .int x1), (2, .int x2), (4, .int x4), (5, .int x5)] [.int (((x3.toUInt32 >>> ((1 : Int32).toUInt32 &&& Int32.toUInt32 31)).toInt32) ^^^ ((-306674912)))] b m Q) : mm_W l G k_M_checkOf 41 [(0, .ref r0), (1, .int x1), (2, .int x2), (3, .int x3), (4, .int x4), (5, .int x5)] [] b m Q := by
  refine mm_iload_n 3 (i := 3) d_M_checkOf_41 rfl rfl ?_
  refine mm_iconst d_M_checkOf_42 (v := 1) (by decide) ?_
  refine mm_iushr d_M_checkOf_43 ?_
  refine mm_ldc (v := (-306674912)) w_891 d_M_checkOf_44 ?_
  refine mm_ixor d_M_checkOf_46 ?_
  refine mm_goto (tgt := 53) d_M_checkOf_47 (by decide) ?_
  exact mm_sub [0, 1, 2, 4, 5] rfl h1
theorem t_M_checkOf_50 {l : Launch} {G : mm_G} {b : Nat} {m : mm_Mem} {Q : mm_O → mm_Mem → Prop} {r0 : Nat} {x1 : Int32} {x2 : Int32} {x3 : Int32} {x4 : Int32} {x5 : Int32} (h1 : mm_W l G k_M_checkOf 53 [(0, .ref r0), (1, .int x1), (2, .int x2), (4, .int x4), (5, .int x5)] [.int ((x3.toUInt32 >>> ((1 : Int32).toUInt32 &&& Int32.toUInt32 31)).toInt32)] b m Q) : mm_W l G k_M_checkOf 50 [(0, .ref r0), (1, .int x1), (2, .int x2), (3, .int x3), (4, .int x4), (5, .int x5)] [] b m Q := by
  refine mm_iload_n 3 (i := 3) d_M_checkOf_50 rfl rfl ?_
  refine mm_iconst d_M_checkOf_51 (v := 1) (by decide) ?_
  refine mm_iushr d_M_checkOf_52 ?_
  exact mm_sub [0, 1, 2, 4, 5] rfl h1
theorem t_M_checkOf_53 {l : Launch} {G : mm_G} {b : Nat} {m : mm_Mem} {Q : mm_O → mm_Mem → Prop} {r0 : Nat} {x1 : Int32} {x2 : Int32} {x4 : Int32} {x5 : Int32} {xs0 : Int32} (h1 : mm_W l G k_M_checkOf 27 [(0, .ref r0), (1, .int x1), (2, .int x2), (3, .int xs0), (4, .int x4), (5, .int (x5 + 1))] [] b m Q) : mm_W l G k_M_checkOf 53 [(0, .ref r0), (1, .int x1), (2, .int x2), (4, .int x4), (5, .int x5)] [.int xs0] b m Q := by
  refine mm_istore_n (i := 3) d_M_checkOf_53 rfl (Nat.le_of_ble_eq_true rfl) (lv2 := [(3, .int xs0), (0, .ref r0), (1, .int x1), (2, .int x2), (4, .int x4), (5, .int x5)]) rfl ?_
  refine mm_iinc 5 (i := 5) d_M_checkOf_54 rfl (v := x5 + 1) rfl (Nat.le_of_ble_eq_true rfl) (lv2 := [(5, .int (x5 + 1)), (3, .int xs0), (0, .ref r0), (1, .int x1), (2, .int x2), (4, .int x4)]) rfl ?_
  refine mm_goto (tgt := 27) d_M_checkOf_57 (by decide) ?_
  exact mm_sub [2, 3, 4, 1, 5, 0] rfl h1
theorem t_M_checkOf_60 {l : Launch} {G : mm_G} {b : Nat} {m : mm_Mem} {Q : mm_O → mm_Mem → Prop} {r0 : Nat} {x1 : Int32} {x2 : Int32} {x3 : Int32} {x4 : Int32} (h1 : mm_W l G k_M_checkOf 5 [(0, .ref r0), (1, .int x1), (2, .int x2), (3, .int x3), (4, .int (x4 + 1))] [] b m Q) : mm_W l G k_M_checkOf 60 [(0, .ref r0), (1, .int x1), (2, .int x2), (3, .int x3), (4, .int x4)] [] b m Q := by
  refine mm_iinc 4 (i := 4) d_M_checkOf_60 rfl (v := x4 + 1) rfl (Nat.le_of_ble_eq_true rfl) (lv2 := [(4, .int (x4 + 1)), (0, .ref r0), (1, .int x1), (2, .int x2), (3, .int x3)]) rfl ?_
  refine mm_goto (tgt := 5) d_M_checkOf_63 (by decide) ?_
  exact mm_sub [1, 2, 3, 4, 0] rfl h1
theorem t_M_checkOf_66 {l : Launch} {G : mm_G} {b : Nat} {m : mm_Mem} {Q : mm_O → mm_Mem → Prop} {x3 : Int32} (h1 : Q (.inl (some (.int (x3 ^^^ ((-1)))))) m) : mm_W l G k_M_checkOf 66 [(3, .int x3)] [] b m Q := by
  refine mm_iload_n 0 (i := 3) d_M_checkOf_66 rfl rfl ?_
  refine mm_iconst d_M_checkOf_67 (v := (-1)) (by decide) ?_
  refine mm_ixor d_M_checkOf_68 ?_
  exact mm_iret d_M_checkOf_69 rfl h1
theorem t_M_put_0 {l : Launch} {G : mm_G} {b : Nat} {m : mm_Mem} {Q : mm_O → mm_Mem → Prop} {r0 : Nat} {x1 : Int32} {x2 : Int32} {x3 : Int32} {fs_1 : List Value} {u_4 : Int32} (g2 : m r0 = .inr (8, fs_1)) (z3 : r0 ≠ 0) (v5 : fs_1[5]? = some (.int u_4)) (h6 : mm_W l G k_M_put 9 [(0, .ref r0), (1, .int x1), (2, .int x2), (3, .int x3), (4, .int u_4), (5, .int 0)] [] b m Q) : mm_W l G k_M_put 0 [(0, .ref r0), (1, .int x1), (2, .int x2), (3, .int x3)] [] b m Q := by
  refine mm_aload_n 0 (i := 0) d_M_put_0 rfl rfl ?_
  refine mm_get cc_M 5 (by decide) w_748 d_M_put_1 g2 z3 v5 ?_
  refine mm_istore (i := 4) d_M_put_4 (Nat.le_of_ble_eq_true rfl) (lv2 := [(4, .int u_4), (0, .ref r0), (1, .int x1), (2, .int x2), (3, .int x3)]) rfl ?_
  refine mm_iconst d_M_put_6 (v := 0) (by decide) ?_
  refine mm_istore (i := 5) d_M_put_7 (Nat.le_of_ble_eq_true rfl) (lv2 := [(5, .int 0), (4, .int u_4), (0, .ref r0), (1, .int x1), (2, .int x2), (3, .int x3)]) rfl ?_
  exact mm_sub [2, 3, 4, 5, 1, 0] rfl h6
theorem t_M_put_9 {l : Launch} {G : mm_G} {b : Nat} {m : mm_Mem} {Q : mm_O → mm_Mem → Prop} {r0 : Nat} {x1 : Int32} {x2 : Int32} {x3 : Int32} {x4 : Int32} {x5 : Int32} {fs_1 : List Value} {u_4 : Int32} (g2 : m r0 = .inr (8, fs_1)) (z3 : r0 ≠ 0) (v5 : fs_1[3]? = some (.int u_4)) (h6 : (u_4 ≤ x5) → mm_W l G k_M_put 44 [(0, .ref r0), (1, .int x1), (2, .int x2), (3, .int x3), (4, .int x4)] [] b m Q) (h7 : (¬ u_4 ≤ x5) → mm_W l G k_M_put 18 [(0, .ref r0), (1, .int x1), (2, .int x2), (3, .int x3), (4, .int x4), (5, .int x5)] [] b m Q) : mm_W l G k_M_put 9 [(0, .ref r0), (1, .int x1), (2, .int x2), (3, .int x3), (4, .int x4), (5, .int x5)] [] b m Q := by
  refine mm_iload 5 (i := 5) d_M_put_9 rfl ?_
  refine mm_aload_n 0 (i := 0) d_M_put_11 rfl rfl ?_
  refine mm_get cc_M 3 (by decide) w_746 d_M_put_12 g2 z3 v5 ?_
  exact mm_icmp_ge (tgt := 44) d_M_put_15 (by decide) (fun c => mm_sub [0, 1, 2, 3, 4] rfl (h6 c)) (fun c => mm_sub [0, 1, 2, 3, 4, 5] rfl (h7 c))
theorem t_M_put_18 {l : Launch} {G : mm_G} {b : Nat} {m : mm_Mem} {Q : mm_O → mm_Mem → Prop} {r0 : Nat} {x1 : Int32} {x2 : Int32} {x3 : Int32} {x4 : Int32} {x5 : Int32} {fs_1 : List Value} {q_4 : Nat} {q_6 : Nat} {n_8 : Nat} {f_9 : Nat → Int32} {n_13 : Nat} {f_14 : Nat → Int32} (g2 : m r0 = .inr (8, fs_1)) (z3 : r0 ≠ 0) (v5 : fs_1[6]? = some (.ref q_4)) (v7 : fs_1[4]? = some (.ref q_6)) (a10 : m q_6 = .inl (G.2 1, n_8, .inl f_9)) (z11 : q_6 ≠ 0) (i12 : vp_in x5 n_8) (a15 : m q_4 = .inl (G.2 1, n_13, .inl f_14)) (z16 : q_4 ≠ 0) (i17 : vp_in ((64 * x4) + x5) n_13) (h18 : mm_W l G k_M_put 9 [(0, .ref r0), (1, .int x1), (2, .int x2), (3, .int x3), (4, .int x4), (5, .int (x5 + 1))] [] b (va_up m q_4 (.inl (G.2 1, n_13, .inl (upd f_14 ((64 * x4) + x5).toNatClampNeg (f_9 x5.toNatClampNeg))))) Q) : mm_W l G k_M_put 18 [(0, .ref r0), (1, .int x1), (2, .int x2), (3, .int x3), (4, .int x4), (5, .int x5)] [] b m Q := by
  refine mm_aload_n 0 (i := 0) d_M_put_18 rfl rfl ?_
  refine mm_get cc_M 6 (by decide) w_749 d_M_put_19 g2 z3 v5 ?_
  refine mm_bipush d_M_put_22 (v := 64) (by decide) ?_
  refine mm_iload 4 (i := 4) d_M_put_24 rfl ?_
  refine mm_imul d_M_put_26 ?_
  refine mm_iload 5 (i := 5) d_M_put_27 rfl ?_
  refine mm_iadd d_M_put_29 ?_
  refine mm_aload_n 0 (i := 0) d_M_put_30 rfl rfl ?_
  refine mm_get cc_M 4 (by decide) w_747 d_M_put_31 g2 z3 v7 ?_
  refine mm_iload 5 (i := 5) d_M_put_34 rfl ?_
  refine mm_iald d_M_put_36 a10 z11 i12 ?_
  refine mm_iast d_M_put_37 a15 z16 i17 ?_
  refine mm_iinc 5 (i := 5) d_M_put_38 rfl (v := x5 + 1) rfl (Nat.le_of_ble_eq_true rfl) (lv2 := [(5, .int (x5 + 1)), (0, .ref r0), (1, .int x1), (2, .int x2), (3, .int x3), (4, .int x4)]) rfl ?_
  refine mm_goto (tgt := 9) d_M_put_41 (by decide) ?_
  exact mm_sub [1, 2, 3, 4, 5, 0] rfl h18
theorem t_M_put_44 {l : Launch} {G : mm_G} {b : Nat} {m : mm_Mem} {Q : mm_O → mm_Mem → Prop} {r0 : Nat} {x1 : Int32} {x2 : Int32} {x3 : Int32} {x4 : Int32} {fs_1 : List Value} {q_4 : Nat} {u_6 : Int32} {n_8 : Nat} {f_9 : Nat → Int32} {fs_13 : List Value} {q_15 : Nat} {n_17 : Nat} {f_18 : Nat → Int32} {fs_22 : List Value} {q_24 : Nat} {u_26 : Int32} {n_28 : Nat} {f_29 : Nat → Int32} {m_33 : mm_Mem} {fs_35 : List Value} {q_37 : Nat} {u_39 : Int32} {n_41 : Nat} {f_42 : Nat → Int32} {fs_46 : List Value} {q_48 : Nat} {n_50 : Nat} {f_51 : Nat → Int32} {fs_55 : List Value} {q_57 : Nat} {n_59 : Nat} {f_60 : Nat → Int32} {m_64 : mm_Mem} (g2 : m r0 = .inr (8, fs_1)) (z3 : r0 ≠ 0) (v5 : fs_1[7]? = some (.ref q_4)) (v7 : fs_1[3]? = some (.int u_6)) (a10 : m q_4 = .inl (G.2 1, n_8, .inl f_9)) (z11 : q_4 ≠ 0) (i12 : vp_in x4 n_8) (g14 : (va_up m q_4 (.inl (G.2 1, n_8, .inl (upd f_9 x4.toNatClampNeg u_6)))) r0 = .inr (8, fs_13)) (v16 : fs_13[8]? = some (.ref q_15)) (a19 : (va_up m q_4 (.inl (G.2 1, n_8, .inl (upd f_9 x4.toNatClampNeg u_6)))) q_15 = .inl (G.2 1, n_17, .inl f_18)) (z20 : q_15 ≠ 0) (i21 : vp_in x4 n_17) (g23 : (va_up (va_up m q_4 (.inl (G.2 1, n_8, .inl (upd f_9 x4.toNatClampNeg u_6)))) q_15 (.inl (G.2 1, n_17, .inl (upd f_18 x4.toNatClampNeg x1)))) r0 = .inr (8, fs_22)) (v25 : fs_22[9]? = some (.ref q_24)) (v27 : fs_22[13]? = some (.int u_26)) (a30 : (va_up (va_up m q_4 (.inl (G.2 1, n_8, .inl (upd f_9 x4.toNatClampNeg u_6)))) q_15 (.inl (G.2 1, n_17, .inl (upd f_18 x4.toNatClampNeg x1)))) q_24 = .inl (G.2 1, n_28, .inl f_29)) (z31 : q_24 ≠ 0) (i32 : vp_in x4 n_28) (q34 : m_33 = va_up (va_up (va_up m q_4 (.inl (G.2 1, n_8, .inl (upd f_9 x4.toNatClampNeg u_6)))) q_15 (.inl (G.2 1, n_17, .inl (upd f_18 x4.toNatClampNeg x1)))) q_24 (.inl (G.2 1, n_28, .inl (upd f_29 x4.toNatClampNeg u_26)))) (g36 : m_33 r0 = .inr (8, fs_35)) (v38 : fs_35[10]? = some (.ref q_37)) (v40 : fs_35[1]? = some (.int u_39)) (a43 : m_33 q_37 = .inl (G.2 1, n_41, .inl f_42)) (z44 : q_37 ≠ 0) (i45 : vp_in x4 n_41) (g47 : (va_up m_33 q_37 (.inl (G.2 1, n_41, .inl (upd f_42 x4.toNatClampNeg u_39)))) r0 = .inr (8, fs_46)) (v49 : fs_46[11]? = some (.ref q_48)) (a52 : (va_up m_33 q_37 (.inl (G.2 1, n_41, .inl (upd f_42 x4.toNatClampNeg u_39)))) q_48 = .inl (G.2 1, n_50, .inl f_51)) (z53 : q_48 ≠ 0) (i54 : vp_in x4 n_50) (g56 : (va_up (va_up m_33 q_37 (.inl (G.2 1, n_41, .inl (upd f_42 x4.toNatClampNeg u_39)))) q_48 (.inl (G.2 1, n_50, .inl (upd f_51 x4.toNatClampNeg x2)))) r0 = .inr (8, fs_55)) (v58 : fs_55[12]? = some (.ref q_57)) (a61 : (va_up (va_up m_33 q_37 (.inl (G.2 1, n_41, .inl (upd f_42 x4.toNatClampNeg u_39)))) q_48 (.inl (G.2 1, n_50, .inl (upd f_51 x4.toNatClampNeg x2)))) q_57 = .inl (G.2 1, n_59, .inl f_60)) (z62 : q_57 ≠ 0) (i63 : vp_in x4 n_59) (q65 : m_64 = va_up (va_up (va_up m_33 q_37 (.inl (G.2 1, n_41, .inl (upd f_42 x4.toNatClampNeg u_39)))) q_48 (.inl (G.2 1, n_50, .inl (upd f_51 x4.toNatClampNeg x2)))) q_57 (.inl (G.2 1, n_59, .inl (upd f_60 x4.toNatClampNeg x3)))) (h66 : mm_W l G k_M_put 104 [(0, .ref r0), (4, .int x4), (5, .int 0)] [] b m_64 Q) : mm_W l G k_M_put 44 [(0, .ref r0), (1, .int x1), (2, .int x2), (3, .int x3), (4, .int x4)] [] b m Q := by
  refine mm_aload_n 0 (i := 0) d_M_put_44 rfl rfl ?_
  refine mm_get cc_M 7 (by decide) w_750 d_M_put_45 g2 z3 v5 ?_
  refine mm_iload 4 (i := 4) d_M_put_48 rfl ?_
  refine mm_aload_n 0 (i := 0) d_M_put_50 rfl rfl ?_
  refine mm_get cc_M 3 (by decide) w_746 d_M_put_51 g2 z3 v7 ?_
  refine mm_iast d_M_put_54 a10 z11 i12 ?_
  refine mm_aload_n 0 (i := 0) d_M_put_55 rfl rfl ?_
  refine mm_get cc_M 8 (by decide) w_751 d_M_put_56 g14 z3 v16 ?_
  refine mm_iload 4 (i := 4) d_M_put_59 rfl ?_
  refine mm_iload_n 1 (i := 1) d_M_put_61 rfl rfl ?_
  refine mm_iast d_M_put_62 a19 z20 i21 ?_
  refine mm_aload_n 0 (i := 0) d_M_put_63 rfl rfl ?_
  refine mm_get cc_M 9 (by decide) w_752 d_M_put_64 g23 z3 v25 ?_
  refine mm_iload 4 (i := 4) d_M_put_67 rfl ?_
  refine mm_aload_n 0 (i := 0) d_M_put_69 rfl rfl ?_
  refine mm_get cc_M 13 (by decide) w_756 d_M_put_70 g23 z3 v27 ?_
  refine mm_iast d_M_put_73 a30 z31 i32 ?_
  refine mm_eqm q34 ?_
  refine mm_aload_n 0 (i := 0) d_M_put_74 rfl rfl ?_
  refine mm_get cc_M 10 (by decide) w_753 d_M_put_75 g36 z3 v38 ?_
  refine mm_iload 4 (i := 4) d_M_put_78 rfl ?_
  refine mm_aload_n 0 (i := 0) d_M_put_80 rfl rfl ?_
  refine mm_get cc_M 1 (by decide) w_744 d_M_put_81 g36 z3 v40 ?_
  refine mm_iast d_M_put_84 a43 z44 i45 ?_
  refine mm_aload_n 0 (i := 0) d_M_put_85 rfl rfl ?_
  refine mm_get cc_M 11 (by decide) w_754 d_M_put_86 g47 z3 v49 ?_
  refine mm_iload 4 (i := 4) d_M_put_89 rfl ?_
  refine mm_iload_n 2 (i := 2) d_M_put_91 rfl rfl ?_
  refine mm_iast d_M_put_92 a52 z53 i54 ?_
  refine mm_aload_n 0 (i := 0) d_M_put_93 rfl rfl ?_
  refine mm_get cc_M 12 (by decide) w_755 d_M_put_94 g56 z3 v58 ?_
  refine mm_iload 4 (i := 4) d_M_put_97 rfl ?_
  refine mm_iload_n 3 (i := 3) d_M_put_99 rfl rfl ?_
  refine mm_iast d_M_put_100 a61 z62 i63 ?_
  refine mm_eqm q65 ?_
  refine mm_iconst d_M_put_101 (v := 0) (by decide) ?_
  refine mm_istore (i := 5) d_M_put_102 (Nat.le_of_ble_eq_true rfl) (lv2 := [(5, .int 0), (0, .ref r0), (1, .int x1), (2, .int x2), (3, .int x3), (4, .int x4)]) rfl ?_
  exact mm_sub [1, 5, 0] rfl h66
theorem t_M_put_104 {l : Launch} {G : mm_G} {b : Nat} {m : mm_Mem} {Q : mm_O → mm_Mem → Prop} {r0 : Nat} {x4 : Int32} {x5 : Int32} {fs_1 : List Value} {u_4 : Int32} (g2 : m r0 = .inr (8, fs_1)) (z3 : r0 ≠ 0) (v5 : fs_1[1]? = some (.int u_4)) (h6 : (u_4 ≤ x5) → mm_W l G k_M_put 138 [(0, .ref r0), (4, .int x4)] [] b m Q) (h7 : (¬ u_4 ≤ x5) → mm_W l G k_M_put 113 [(0, .ref r0), (4, .int x4), (5, .int x5)] [] b m Q) : mm_W l G k_M_put 104 [(0, .ref r0), (4, .int x4), (5, .int x5)] [] b m Q := by
  refine mm_iload 2 (i := 5) d_M_put_104 rfl ?_
  refine mm_aload_n 0 (i := 0) d_M_put_106 rfl rfl ?_
  refine mm_get cc_M 1 (by decide) w_744 d_M_put_107 g2 z3 v5 ?_
  exact mm_icmp_ge (tgt := 138) d_M_put_110 (by decide) (fun c => mm_sub [0, 1] rfl (h6 c)) (fun c => mm_sub [0, 1, 2] rfl (h7 c))
theorem t_M_put_113 {l : Launch} {G : mm_G} {b : Nat} {m : mm_Mem} {Q : mm_O → mm_Mem → Prop} {r0 : Nat} {x4 : Int32} {x5 : Int32} {fs_1 : List Value} {q_4 : Nat} {u_6 : Int32} {q_8 : Nat} {n_10 : Nat} {f_11 : Nat → Int32} {n_15 : Nat} {f_16 : Nat → Int32} (g2 : m r0 = .inr (8, fs_1)) (z3 : r0 ≠ 0) (v5 : fs_1[14]? = some (.ref q_4)) (v7 : fs_1[13]? = some (.int u_6)) (v9 : fs_1[2]? = some (.ref q_8)) (a12 : m q_8 = .inl (G.2 0, n_10, .inl f_11)) (z13 : q_8 ≠ 0) (i14 : vp_in x5 n_10) (a17 : m q_4 = .inl (G.2 0, n_15, .inl f_16)) (z18 : q_4 ≠ 0) (i19 : vp_in (u_6 + x5) n_15) (h20 : mm_W l G k_M_put 104 [(0, .ref r0), (4, .int x4), (5, .int (x5 + 1))] [] b (va_up m q_4 (.inl (G.2 0, n_15, .inl (upd f_16 (u_6 + x5).toNatClampNeg (vp_nar .byte (f_11 x5.toNatClampNeg)))))) Q) : mm_W l G k_M_put 113 [(0, .ref r0), (4, .int x4), (5, .int x5)] [] b m Q := by
  refine mm_aload_n 0 (i := 0) d_M_put_113 rfl rfl ?_
  refine mm_get cc_M 14 (by decide) w_757 d_M_put_114 g2 z3 v5 ?_
  refine mm_aload_n 0 (i := 0) d_M_put_117 rfl rfl ?_
  refine mm_get cc_M 13 (by decide) w_756 d_M_put_118 g2 z3 v7 ?_
  refine mm_iload 2 (i := 5) d_M_put_121 rfl ?_
  refine mm_iadd d_M_put_123 ?_
  refine mm_aload_n 0 (i := 0) d_M_put_124 rfl rfl ?_
  refine mm_get cc_M 2 (by decide) w_745 d_M_put_125 g2 z3 v9 ?_
  refine mm_iload 2 (i := 5) d_M_put_128 rfl ?_
  refine mm_bald d_M_put_130 a12 z13 i14 ?_
  refine mm_bast d_M_put_131 a17 z18 i19 ?_
  refine mm_iinc 2 (i := 5) d_M_put_132 rfl (v := x5 + 1) rfl (Nat.le_of_ble_eq_true rfl) (lv2 := [(5, .int (x5 + 1)), (0, .ref r0), (4, .int x4)]) rfl ?_
  refine mm_goto (tgt := 104) d_M_put_135 (by decide) ?_
  exact mm_sub [1, 2, 0] rfl h20
theorem t_M_put_138 {l : Launch} {G : mm_G} {b : Nat} {m : mm_Mem} {Q : mm_O → mm_Mem → Prop} {r0 : Nat} {x4 : Int32} {fs_1 : List Value} {u_4 : Int32} {u_6 : Int32} {fs_9 : List Value} {u_11 : Int32} (g2 : m r0 = .inr (8, fs_1)) (z3 : r0 ≠ 0) (v5 : fs_1[13]? = some (.int u_4)) (v7 : fs_1[1]? = some (.int u_6)) (l8 : 13 < fs_1.length) (g10 : (va_up m r0 (.inr (8, fs_1.set 13 (.int (u_4 + u_6))))) r0 = .inr (8, fs_9)) (v12 : fs_9[5]? = some (.int u_11)) (l13 : 5 < fs_9.length) (h14 : Q (.inl (some (.int x4))) (va_up (va_up m r0 (.inr (8, fs_1.set 13 (.int (u_4 + u_6))))) r0 (.inr (8, fs_9.set 5 (.int (u_11 + 1)))))) : mm_W l G k_M_put 138 [(0, .ref r0), (4, .int x4)] [] b m Q := by
  refine mm_aload_n 0 (i := 0) d_M_put_138 rfl rfl ?_
  refine mm_dup d_M_put_139 rfl ?_
  refine mm_get cc_M 13 (by decide) w_756 d_M_put_140 g2 z3 v5 ?_
  refine mm_aload_n 0 (i := 0) d_M_put_143 rfl rfl ?_
  refine mm_get cc_M 1 (by decide) w_744 d_M_put_144 g2 z3 v7 ?_
  refine mm_iadd d_M_put_147 ?_
  refine mm_putf cc_M 13 (by decide) w_756 d_M_put_148 rfl (fun _ => rfl) (fun _ => rfl) g2 z3 l8 ?_
  refine mm_aload_n 0 (i := 0) d_M_put_151 rfl rfl ?_
  refine mm_dup d_M_put_152 rfl ?_
  refine mm_get cc_M 5 (by decide) w_748 d_M_put_153 g10 z3 v12 ?_
  refine mm_iconst d_M_put_156 (v := 1) (by decide) ?_
  refine mm_iadd d_M_put_157 ?_
  refine mm_putf cc_M 5 (by decide) w_748 d_M_put_158 rfl (fun _ => rfl) (fun _ => rfl) g10 z3 l13 ?_
  refine mm_iload 1 (i := 4) d_M_put_161 rfl ?_
  exact mm_iret d_M_put_163 rfl h14
theorem t_M_refused_0 {l : Launch} {G : mm_G} {b : Nat} {m : mm_Mem} {Q : mm_O → mm_Mem → Prop} {r0 : Nat} {x1 : Int32} (h1 : (x1 = 0) → mm_W l G k_M_refused 23 [] [] b m Q) (h2 : (¬ x1 = 0) → mm_W l G k_M_refused 4 [(0, .ref r0)] [] b m Q) : mm_W l G k_M_refused 0 [(0, .ref r0), (1, .int x1)] [] b m Q := by
  refine mm_iload_n 1 (i := 1) d_M_refused_0 rfl rfl ?_
  exact mm_if_eq (tgt := 23) d_M_refused_1 (by decide) (fun c => mm_sub [] rfl (h1 c)) (fun c => mm_sub [0] rfl (h2 c))
theorem t_M_refused_4 {l : Launch} {G : mm_G} {b : Nat} {m : mm_Mem} {Q : mm_O → mm_Mem → Prop} {r0 : Nat} {fs_1 : List Value} {u_4 : Int32} {b_6 : Nat} {b_7 : Nat} {m_9 : mm_Mem} {x_10 : Int32} (g2 : m r0 = .inr (8, fs_1)) (z3 : r0 ≠ 0) (v5 : fs_1[3]? = some (.int u_4)) (hb8 : b_6 + b_7 ≤ b) (M11 : mm_W l G k_M_isName 0 (lv_args 0 [.ref r0, .int ((-1)), .int u_4]) [] b_6 m (mm_is (.inl (some (.int x_10))) m_9)) (h12 : (x_10 = 0) → mm_W l G k_M_refused 23 [] [] b_7 m_9 Q) (h13 : (¬ x_10 = 0) → mm_W l G k_M_refused 16 [(0, .ref r0)] [] b_7 m_9 Q) : mm_W l G k_M_refused 4 [(0, .ref r0)] [] b m Q := by
  refine mm_aload_n 0 (i := 0) d_M_refused_4 rfl rfl ?_
  refine mm_iconst d_M_refused_5 (v := (-1)) (by decide) ?_
  refine mm_aload_n 0 (i := 0) d_M_refused_6 rfl rfl ?_
  refine mm_get cc_M 3 (by decide) w_746 d_M_refused_7 g2 z3 v5 ?_
  refine mm_callV (as := [.int ((-1)), .int u_4]) (st := []) (b2 := b_7) ca_M_isName w_873 w_875 v_M_isName cc_M.1 rfl d_M_refused_10 rfl (Nat.le_of_ble_eq_true rfl) (Nat.le_of_ble_eq_true rfl) (Nat.le_of_ble_eq_true rfl) hb8 g2 z3 M11 (fun E _ ⟨c, _⟩ => nomatch c) (fun v _ ⟨c, e⟩ => ?_)
  cases c
  rw [e]
  show mm_W l G k_M_refused 13 [(0, .ref r0)] [.int x_10] b_7 m_9 Q
  exact mm_if_eq (tgt := 23) d_M_refused_13 (by decide) (fun c => mm_sub [] rfl (h12 c)) (fun c => mm_sub [0] rfl (h13 c))
theorem t_M_refused_16 {l : Launch} {G : mm_G} {b : Nat} {m : mm_Mem} {Q : mm_O → mm_Mem → Prop} {r0 : Nat} {b_1 : Nat} {b_2 : Nat} {m_4 : mm_Mem} {x_5 : Int32} {fs_6 : List Value} (hb3 : b_1 + b_2 ≤ b) (g7 : m r0 = .inr (8, fs_6)) (z8 : r0 ≠ 0) (M9 : mm_W l G k_M_findName 0 (lv_args 0 [.ref r0]) [] b_1 m (mm_is (.inl (some (.int x_5))) m_4)) (h10 : (x_5 < 0) → mm_W l G k_M_refused 27 [(0, .ref r0)] [] b_2 m_4 Q) (h11 : (¬ x_5 < 0) → mm_W l G k_M_refused 23 [] [] b_2 m_4 Q) : mm_W l G k_M_refused 16 [(0, .ref r0)] [] b m Q := by
  refine mm_aload_n 0 (i := 0) d_M_refused_16 rfl rfl ?_
  refine mm_callV (as := []) (st := []) (b2 := b_2) ca_M_findName w_881 w_883 v_M_findName cc_M.1 rfl d_M_refused_17 rfl (Nat.le_of_ble_eq_true rfl) (Nat.le_of_ble_eq_true rfl) (Nat.le_of_ble_eq_true rfl) hb3 g7 z8 M9 (fun E _ ⟨c, _⟩ => nomatch c) (fun v _ ⟨c, e⟩ => ?_)
  cases c
  rw [e]
  show mm_W l G k_M_refused 20 [(0, .ref r0)] [.int x_5] b_2 m_4 Q
  exact mm_if_lt (tgt := 27) d_M_refused_20 (by decide) (fun c => mm_sub [0] rfl (h10 c)) (fun c => mm_sub [] rfl (h11 c))
theorem t_M_refused_23 {l : Launch} {G : mm_G} {b : Nat} {m : mm_Mem} {Q : mm_O → mm_Mem → Prop}  (h1 : mm_W l G k_M_refused 55 [] [.int 1] b m Q) : mm_W l G k_M_refused 23 [] [] b m Q := by
  refine mm_iconst d_M_refused_23 (v := 1) (by decide) ?_
  refine mm_goto (tgt := 55) d_M_refused_24 (by decide) ?_
  exact mm_sub [] rfl h1
theorem t_M_refused_27 {l : Launch} {G : mm_G} {b : Nat} {m : mm_Mem} {Q : mm_O → mm_Mem → Prop} {r0 : Nat} {fs_1 : List Value} {u_4 : Int32} (g2 : m r0 = .inr (8, fs_1)) (z3 : r0 ≠ 0) (v5 : fs_1[5]? = some (.int u_4)) (h6 : (u_4 = 64) → mm_W l G k_M_refused 50 [] [] b m Q) (h7 : (¬ u_4 = 64) → mm_W l G k_M_refused 36 [(0, .ref r0)] [] b m Q) : mm_W l G k_M_refused 27 [(0, .ref r0)] [] b m Q := by
  refine mm_aload_n 0 (i := 0) d_M_refused_27 rfl rfl ?_
  refine mm_get cc_M 5 (by decide) w_748 d_M_refused_28 g2 z3 v5 ?_
  refine mm_bipush d_M_refused_31 (v := 64) (by decide) ?_
  exact mm_icmp_eq (tgt := 50) d_M_refused_33 (by decide) (fun c => mm_sub [] rfl (h6 c)) (fun c => mm_sub [0] rfl (h7 c))
theorem t_M_refused_36 {l : Launch} {G : mm_G} {b : Nat} {m : mm_Mem} {Q : mm_O → mm_Mem → Prop} {r0 : Nat} {fs_1 : List Value} {u_4 : Int32} {u_6 : Int32} (g2 : m r0 = .inr (8, fs_1)) (z3 : r0 ≠ 0) (v5 : fs_1[13]? = some (.int u_4)) (v7 : fs_1[1]? = some (.int u_6)) (h8 : ((u_4 + u_6) ≤ 65536) → mm_W l G k_M_refused 54 [] [] b m Q) (h9 : (¬ (u_4 + u_6) ≤ 65536) → mm_W l G k_M_refused 50 [] [] b m Q) : mm_W l G k_M_refused 36 [(0, .ref r0)] [] b m Q := by
  refine mm_aload_n 0 (i := 0) d_M_refused_36 rfl rfl ?_
  refine mm_get cc_M 13 (by decide) w_756 d_M_refused_37 g2 z3 v5 ?_
  refine mm_aload_n 0 (i := 0) d_M_refused_40 rfl rfl ?_
  refine mm_get cc_M 1 (by decide) w_744 d_M_refused_41 g2 z3 v7 ?_
  refine mm_iadd d_M_refused_44 ?_
  refine mm_ldc (v := 65536) w_742 d_M_refused_45 ?_
  exact mm_icmp_le (tgt := 54) d_M_refused_47 (by decide) (fun c => mm_sub [] rfl (h8 c)) (fun c => mm_sub [] rfl (h9 c))
theorem t_M_refused_50 {l : Launch} {G : mm_G} {b : Nat} {m : mm_Mem} {Q : mm_O → mm_Mem → Prop}  (h1 : mm_W l G k_M_refused 55 [] [.int 2] b m Q) : mm_W l G k_M_refused 50 [] [] b m Q := by
  refine mm_iconst d_M_refused_50 (v := 2) (by decide) ?_
  refine mm_goto (tgt := 55) d_M_refused_51 (by decide) ?_
  exact mm_sub [] rfl h1
theorem t_M_refused_54 {l : Launch} {G : mm_G} {b : Nat} {m : mm_Mem} {Q : mm_O → mm_Mem → Prop}  (h1 : mm_W l G k_M_refused 55 [] [.int 0] b m Q) : mm_W l G k_M_refused 54 [] [] b m Q := by
  refine mm_iconst d_M_refused_54 (v := 0) (by decide) ?_
  exact mm_sub [] rfl h1
theorem t_M_refused_55 {l : Launch} {G : mm_G} {b : Nat} {m : mm_Mem} {Q : mm_O → mm_Mem → Prop} {xs0 : Int32} (h1 : Q (.inl (some (.int xs0))) m) : mm_W l G k_M_refused 55 [] [.int xs0] b m Q := by
  exact mm_iret d_M_refused_55 rfl h1
theorem t_M_add_0 {l : Launch} {G : mm_G} {b : Nat} {m : mm_Mem} {Q : mm_O → mm_Mem → Prop} {r0 : Nat} {b_1 : Nat} {b_2 : Nat} {m_4 : mm_Mem} {x_5 : Int32} {fs_6 : List Value} {fs_10 : List Value} {fs_13 : List Value} {u_15 : Int32} (hb3 : b_1 + b_2 ≤ b) (g7 : m r0 = .inr (8, fs_6)) (z8 : r0 ≠ 0) (M9 : mm_W l G k_M_refused 0 (lv_args 0 [.ref r0, .int 1]) [] b_1 m (mm_is (.inl (some (.int x_5))) m_4)) (g11 : m_4 r0 = .inr (8, fs_10)) (l12 : 0 < fs_10.length) (g14 : (va_up m_4 r0 (.inr (8, fs_10.set 0 (.int x_5)))) r0 = .inr (8, fs_13)) (v16 : fs_13[0]? = some (.int u_15)) (h17 : (u_15 ≤ 0) → mm_W l G k_M_add 20 [(0, .ref r0)] [] b_2 (va_up m_4 r0 (.inr (8, fs_10.set 0 (.int x_5)))) Q) (h18 : (¬ u_15 ≤ 0) → mm_W l G k_M_add 16 [] [] b_2 (va_up m_4 r0 (.inr (8, fs_10.set 0 (.int x_5)))) Q) : mm_W l G k_M_add 0 [(0, .ref r0)] [] b m Q := by
  refine mm_aload_n 0 (i := 0) d_M_add_0 rfl rfl ?_
  refine mm_aload_n 0 (i := 0) d_M_add_1 rfl rfl ?_
  refine mm_iconst d_M_add_2 (v := 1) (by decide) ?_
  refine mm_callV (as := [.int 1]) (st := [.ref r0]) (b2 := b_2) ca_M_refused w_869 w_871 v_M_refused cc_M.1 rfl d_M_add_3 rfl (Nat.le_of_ble_eq_true rfl) (Nat.le_of_ble_eq_true rfl) (Nat.le_of_ble_eq_true rfl) hb3 g7 z8 M9 (fun E _ ⟨c, _⟩ => nomatch c) (fun v _ ⟨c, e⟩ => ?_)
  cases c
  rw [e]
  show mm_W l G k_M_add 6 [(0, .ref r0)] [.int x_5, .ref r0] b_2 m_4 Q
  refine mm_putf cc_M 0 (by decide) w_743 d_M_add_6 rfl (fun _ => rfl) (fun _ => rfl) g11 z8 l12 ?_
  refine mm_aload_n 0 (i := 0) d_M_add_9 rfl rfl ?_
  refine mm_get cc_M 0 (by decide) w_743 d_M_add_10 g14 z8 v16 ?_
  exact mm_if_le (tgt := 20) d_M_add_13 (by decide) (fun c => mm_sub [0] rfl (h17 c)) (fun c => mm_sub [] rfl (h18 c))
theorem t_M_add_16 {l : Launch} {G : mm_G} {b : Nat} {m : mm_Mem} {Q : mm_O → mm_Mem → Prop}  (h1 : mm_W l G k_M_add 41 [] [.int 0] b m Q) : mm_W l G k_M_add 16 [] [] b m Q := by
  refine mm_iconst d_M_add_16 (v := 0) (by decide) ?_
  refine mm_goto (tgt := 41) d_M_add_17 (by decide) ?_
  exact mm_sub [] rfl h1
theorem t_M_add_20 {l : Launch} {G : mm_G} {b : Nat} {m : mm_Mem} {Q : mm_O → mm_Mem → Prop} {r0 : Nat} {fs_1 : List Value} {u_4 : Int32} {q_6 : Nat} {b_8 : Nat} {b_9 : Nat} {m_11 : mm_Mem} {x_12 : Int32} {b_14 : Nat} {b_15 : Nat} {P_17 : mm_O → mm_Mem → Prop} {fs_18 : List Value} (g2 : m r0 = .inr (8, fs_1)) (z3 : r0 ≠ 0) (v5 : fs_1[1]? = some (.int u_4)) (v7 : fs_1[2]? = some (.ref q_6)) (hb10 : b_8 + b_9 ≤ b) (M13 : mm_W l G k_M_checkOf 0 (lv_args 0 [.ref q_6, .int 0, .int u_4]) [] b_8 m (mm_is (.inl (some (.int x_12))) m_11)) (hb16 : b_14 + b_15 ≤ b_9) (g19 : m_11 r0 = .inr (8, fs_18)) (M20 : mm_W l G k_M_put 0 (lv_args 0 [.ref r0, .int 0, .int u_4, .int x_12]) [] b_14 m_11 P_17) (hx21 : ∀ (E : String) (n_2 : mm_Mem), ¬ P_17 (.inr E) n_2) (h22 : ∀ (v : Option Value) (n_2 : mm_Mem), P_17 (.inl v) n_2 → ∃ x9 : Int32, v = some (.int x9) ∧ mm_W l G k_M_add 41 [] [.int x9] b_15 n_2 Q) : mm_W l G k_M_add 20 [(0, .ref r0)] [] b m Q := by
  refine mm_aload_n 0 (i := 0) d_M_add_20 rfl rfl ?_
  refine mm_iconst d_M_add_21 (v := 0) (by decide) ?_
  refine mm_aload_n 0 (i := 0) d_M_add_22 rfl rfl ?_
  refine mm_get cc_M 1 (by decide) w_744 d_M_add_23 g2 z3 v5 ?_
  refine mm_aload_n 0 (i := 0) d_M_add_26 rfl rfl ?_
  refine mm_get cc_M 2 (by decide) w_745 d_M_add_27 g2 z3 v7 ?_
  refine mm_iconst d_M_add_30 (v := 0) (by decide) ?_
  refine mm_aload_n 0 (i := 0) d_M_add_31 rfl rfl ?_
  refine mm_get cc_M 1 (by decide) w_744 d_M_add_32 g2 z3 v5 ?_
  refine mm_callS (as := [.ref q_6, .int 0, .int u_4]) (st := [.int u_4, .int 0, .ref r0]) (b2 := b_9) ca_M_checkOf w_888 w_889 d_M_add_35 rfl (Nat.le_of_ble_eq_true rfl) (Nat.le_of_ble_eq_true rfl) (Nat.le_of_ble_eq_true rfl) hb10 M13 (fun E _ ⟨c, _⟩ => nomatch c) (fun v _ ⟨c, e⟩ => ?_)
  cases c
  rw [e]
  show mm_W l G k_M_add 38 [(0, .ref r0)] [.int x_12, .int u_4, .int 0, .ref r0] b_9 m_11 Q
  refine mm_callV (as := [.int 0, .int u_4, .int x_12]) (st := []) (b2 := b_15) ca_M_put w_892 w_894 v_M_put cc_M.1 rfl d_M_add_38 rfl (Nat.le_of_ble_eq_true rfl) (Nat.le_of_ble_eq_true rfl) (Nat.le_of_ble_eq_true rfl) hb16 g19 z3 M20 (fun E m2 q => absurd q (hx21 E m2)) (fun v m2 q => ?_)
  obtain ⟨x9, rfl, z9⟩ := h22 v m2 q
  exact mm_sub [] rfl z9
theorem t_M_add_41 {l : Launch} {G : mm_G} {b : Nat} {m : mm_Mem} {Q : mm_O → mm_Mem → Prop} {xs0 : Int32} (h1 : Q (.inl (some (.int xs0))) m) : mm_W l G k_M_add 41 [] [.int xs0] b m Q := by
  exact mm_iret d_M_add_41 rfl h1
theorem t_M_addPacked_0 {l : Launch} {G : mm_G} {b : Nat} {m : mm_Mem} {Q : mm_O → mm_Mem → Prop} {r0 : Nat} {x1 : Int32} {x2 : Int32} (h1 : (x1 < 0) → mm_W l G k_M_addPacked 10 [(0, .ref r0), (1, .int x1), (2, .int x2)] [.ref r0, .ref r0] b m Q) (h2 : (¬ x1 < 0) → mm_W l G k_M_addPacked 6 [(0, .ref r0), (1, .int x1), (2, .int x2)] [.ref r0, .ref r0] b m Q) : mm_W l G k_M_addPacked 0 [(0, .ref r0), (1, .int x1), (2, .int x2)] [] b m Q := by
  refine mm_aload_n 0 (i := 0) d_M_addPacked_0 rfl rfl ?_
  refine mm_aload_n 0 (i := 0) d_M_addPacked_1 rfl rfl ?_
  refine mm_iload_n 1 (i := 1) d_M_addPacked_2 rfl rfl ?_
  exact mm_if_lt (tgt := 10) d_M_addPacked_3 (by decide) (fun c => mm_sub [0, 1, 2] rfl (h1 c)) (fun c => mm_sub [0, 1, 2] rfl (h2 c))
theorem t_M_addPacked_6 {l : Launch} {G : mm_G} {b : Nat} {m : mm_Mem} {Q : mm_O → mm_Mem → Prop} {r0 : Nat} {x1 : Int32} {x2 : Int32} {rs0 : Nat} {rs1 : Nat} (h1 : mm_W l G k_M_addPacked 11 [(0, .ref r0), (1, .int x1), (2, .int x2)] [.int 1, .ref rs0, .ref rs1] b m Q) : mm_W l G k_M_addPacked 6 [(0, .ref r0), (1, .int x1), (2, .int x2)] [.ref rs0, .ref rs1] b m Q := by
  refine mm_iconst d_M_addPacked_6 (v := 1) (by decide) ?_
  refine mm_goto (tgt := 11) d_M_addPacked_7 (by decide) ?_
  exact mm_sub [0, 1, 2] rfl h1
theorem t_M_addPacked_10 {l : Launch} {G : mm_G} {b : Nat} {m : mm_Mem} {Q : mm_O → mm_Mem → Prop} {r0 : Nat} {x1 : Int32} {x2 : Int32} {rs0 : Nat} {rs1 : Nat} (h1 : mm_W l G k_M_addPacked 11 [(0, .ref r0), (1, .int x1), (2, .int x2)] [.int 0, .ref rs0, .ref rs1] b m Q) : mm_W l G k_M_addPacked 10 [(0, .ref r0), (1, .int x1), (2, .int x2)] [.ref rs0, .ref rs1] b m Q := by
  refine mm_iconst d_M_addPacked_10 (v := 0) (by decide) ?_
  exact mm_sub [0, 1, 2] rfl h1
theorem t_M_addPacked_11 {l : Launch} {G : mm_G} {b : Nat} {m : mm_Mem} {Q : mm_O → mm_Mem → Prop} {r0 : Nat} {x1 : Int32} {x2 : Int32} {xs0 : Int32} {rs1 : Nat} {rs2 : Nat} {b_1 : Nat} {b_2 : Nat} {m_4 : mm_Mem} {x_5 : Int32} {fs_6 : List Value} {fs_10 : List Value} {fs_14 : List Value} {u_17 : Int32} (hb3 : b_1 + b_2 ≤ b) (g7 : m rs1 = .inr (8, fs_6)) (z8 : rs1 ≠ 0) (M9 : mm_W l G k_M_refused 0 (lv_args 0 [.ref rs1, .int xs0]) [] b_1 m (mm_is (.inl (some (.int x_5))) m_4)) (g11 : m_4 rs2 = .inr (8, fs_10)) (z12 : rs2 ≠ 0) (l13 : 0 < fs_10.length) (g15 : (va_up m_4 rs2 (.inr (8, fs_10.set 0 (.int x_5)))) r0 = .inr (8, fs_14)) (z16 : r0 ≠ 0) (v18 : fs_14[0]? = some (.int u_17)) (h19 : (u_17 ≤ 0) → mm_W l G k_M_addPacked 28 [(0, .ref r0), (1, .int x1), (2, .int x2)] [] b_2 (va_up m_4 rs2 (.inr (8, fs_10.set 0 (.int x_5)))) Q) (h20 : (¬ u_17 ≤ 0) → mm_W l G k_M_addPacked 24 [] [] b_2 (va_up m_4 rs2 (.inr (8, fs_10.set 0 (.int x_5)))) Q) : mm_W l G k_M_addPacked 11 [(0, .ref r0), (1, .int x1), (2, .int x2)] [.int xs0, .ref rs1, .ref rs2] b m Q := by
  refine mm_callV (as := [.int xs0]) (st := [.ref rs2]) (b2 := b_2) ca_M_refused w_869 w_871 v_M_refused cc_M.1 rfl d_M_addPacked_11 rfl (Nat.le_of_ble_eq_true rfl) (Nat.le_of_ble_eq_true rfl) (Nat.le_of_ble_eq_true rfl) hb3 g7 z8 M9 (fun E _ ⟨c, _⟩ => nomatch c) (fun v _ ⟨c, e⟩ => ?_)
  cases c
  rw [e]
  show mm_W l G k_M_addPacked 14 [(0, .ref r0), (1, .int x1), (2, .int x2)] [.int x_5, .ref rs2] b_2 m_4 Q
  refine mm_putf cc_M 0 (by decide) w_743 d_M_addPacked_14 rfl (fun _ => rfl) (fun _ => rfl) g11 z12 l13 ?_
  refine mm_aload_n 0 (i := 0) d_M_addPacked_17 rfl rfl ?_
  refine mm_get cc_M 0 (by decide) w_743 d_M_addPacked_18 g15 z16 v18 ?_
  exact mm_if_le (tgt := 28) d_M_addPacked_21 (by decide) (fun c => mm_sub [0, 1, 2] rfl (h19 c)) (fun c => mm_sub [] rfl (h20 c))
theorem t_M_addPacked_24 {l : Launch} {G : mm_G} {b : Nat} {m : mm_Mem} {Q : mm_O → mm_Mem → Prop}  (h1 : mm_W l G k_M_addPacked 36 [] [.int 0] b m Q) : mm_W l G k_M_addPacked 24 [] [] b m Q := by
  refine mm_iconst d_M_addPacked_24 (v := 0) (by decide) ?_
  refine mm_goto (tgt := 36) d_M_addPacked_25 (by decide) ?_
  exact mm_sub [] rfl h1
theorem t_M_addPacked_28 {l : Launch} {G : mm_G} {b : Nat} {m : mm_Mem} {Q : mm_O → mm_Mem → Prop} {r0 : Nat} {x1 : Int32} {x2 : Int32} {b_1 : Nat} {b_2 : Nat} {P_4 : mm_O → mm_Mem → Prop} {fs_5 : List Value} (hb3 : b_1 + b_2 ≤ b) (g6 : m r0 = .inr (8, fs_5)) (z7 : r0 ≠ 0) (M8 : mm_W l G k_M_put 0 (lv_args 0 [.ref r0, .int 8, .int x1, .int x2]) [] b_1 m P_4) (hx9 : ∀ (E : String) (n_2 : mm_Mem), ¬ P_4 (.inr E) n_2) (h10 : ∀ (v : Option Value) (n_2 : mm_Mem), P_4 (.inl v) n_2 → ∃ x9 : Int32, v = some (.int x9) ∧ mm_W l G k_M_addPacked 36 [] [.int x9] b_2 n_2 Q) : mm_W l G k_M_addPacked 28 [(0, .ref r0), (1, .int x1), (2, .int x2)] [] b m Q := by
  refine mm_aload_n 0 (i := 0) d_M_addPacked_28 rfl rfl ?_
  refine mm_bipush d_M_addPacked_29 (v := 8) (by decide) ?_
  refine mm_iload_n 1 (i := 1) d_M_addPacked_31 rfl rfl ?_
  refine mm_iload_n 2 (i := 2) d_M_addPacked_32 rfl rfl ?_
  refine mm_callV (as := [.int 8, .int x1, .int x2]) (st := []) (b2 := b_2) ca_M_put w_892 w_894 v_M_put cc_M.1 rfl d_M_addPacked_33 rfl (Nat.le_of_ble_eq_true rfl) (Nat.le_of_ble_eq_true rfl) (Nat.le_of_ble_eq_true rfl) hb3 g6 z7 M8 (fun E m2 q => absurd q (hx9 E m2)) (fun v m2 q => ?_)
  obtain ⟨x9, rfl, z9⟩ := h10 v m2 q
  exact mm_sub [] rfl z9
theorem t_M_addPacked_36 {l : Launch} {G : mm_G} {b : Nat} {m : mm_Mem} {Q : mm_O → mm_Mem → Prop} {xs0 : Int32} (h1 : Q (.inl (some (.int xs0))) m) : mm_W l G k_M_addPacked 36 [] [.int xs0] b m Q := by
  exact mm_iret d_M_addPacked_36 rfl h1
theorem t_M_noEntry_0 {l : Launch} {G : mm_G} {b : Nat} {m : mm_Mem} {Q : mm_O → mm_Mem → Prop} {r0 : Nat} {x1 : Int32} (h1 : (x1 < 0) → mm_W l G k_M_noEntry 12 [] [] b m Q) (h2 : (¬ x1 < 0) → mm_W l G k_M_noEntry 4 [(0, .ref r0), (1, .int x1)] [] b m Q) : mm_W l G k_M_noEntry 0 [(0, .ref r0), (1, .int x1)] [] b m Q := by
  refine mm_iload_n 1 (i := 1) d_M_noEntry_0 rfl rfl ?_
  exact mm_if_lt (tgt := 12) d_M_noEntry_1 (by decide) (fun c => mm_sub [] rfl (h1 c)) (fun c => mm_sub [0, 1] rfl (h2 c))
theorem t_M_noEntry_4 {l : Launch} {G : mm_G} {b : Nat} {m : mm_Mem} {Q : mm_O → mm_Mem → Prop} {r0 : Nat} {x1 : Int32} {fs_1 : List Value} {u_4 : Int32} (g2 : m r0 = .inr (8, fs_1)) (z3 : r0 ≠ 0) (v5 : fs_1[5]? = some (.int u_4)) (h6 : (x1 < u_4) → mm_W l G k_M_noEntry 16 [] [] b m Q) (h7 : (¬ x1 < u_4) → mm_W l G k_M_noEntry 12 [] [] b m Q) : mm_W l G k_M_noEntry 4 [(0, .ref r0), (1, .int x1)] [] b m Q := by
  refine mm_iload_n 1 (i := 1) d_M_noEntry_4 rfl rfl ?_
  refine mm_aload_n 0 (i := 0) d_M_noEntry_5 rfl rfl ?_
  refine mm_get cc_M 5 (by decide) w_748 d_M_noEntry_6 g2 z3 v5 ?_
  exact mm_icmp_lt (tgt := 16) d_M_noEntry_9 (by decide) (fun c => mm_sub [] rfl (h6 c)) (fun c => mm_sub [] rfl (h7 c))
theorem t_M_noEntry_12 {l : Launch} {G : mm_G} {b : Nat} {m : mm_Mem} {Q : mm_O → mm_Mem → Prop}  (h1 : mm_W l G k_M_noEntry 17 [] [.int 1] b m Q) : mm_W l G k_M_noEntry 12 [] [] b m Q := by
  refine mm_iconst d_M_noEntry_12 (v := 1) (by decide) ?_
  refine mm_goto (tgt := 17) d_M_noEntry_13 (by decide) ?_
  exact mm_sub [] rfl h1
theorem t_M_noEntry_16 {l : Launch} {G : mm_G} {b : Nat} {m : mm_Mem} {Q : mm_O → mm_Mem → Prop}  (h1 : mm_W l G k_M_noEntry 17 [] [.int 0] b m Q) : mm_W l G k_M_noEntry 16 [] [] b m Q := by
  refine mm_iconst d_M_noEntry_16 (v := 0) (by decide) ?_
  exact mm_sub [] rfl h1
theorem t_M_noEntry_17 {l : Launch} {G : mm_G} {b : Nat} {m : mm_Mem} {Q : mm_O → mm_Mem → Prop} {xs0 : Int32} (h1 : Q (.inl (some (.int xs0))) m) (hn2 : narrow .boolean (.int xs0) = .int xs0) : mm_W l G k_M_noEntry 17 [] [.int xs0] b m Q := by
  exact mm_zret d_M_noEntry_17 rfl hn2 h1
theorem t_M_copy_0 {l : Launch} {G : mm_G} {b : Nat} {m : mm_Mem} {Q : mm_O → mm_Mem → Prop} {r0 : Nat} {x1 : Int32} {x2 : Int32} (h1 : mm_W l G k_M_copy 2 [(0, .ref r0), (1, .int x1), (2, .int x2), (3, .int 0)] [] b m Q) : mm_W l G k_M_copy 0 [(0, .ref r0), (1, .int x1), (2, .int x2)] [] b m Q := by
  refine mm_iconst d_M_copy_0 (v := 0) (by decide) ?_
  refine mm_istore_n (i := 3) d_M_copy_1 rfl (Nat.le_of_ble_eq_true rfl) (lv2 := [(3, .int 0), (0, .ref r0), (1, .int x1), (2, .int x2)]) rfl ?_
  exact mm_sub [1, 2, 3, 0] rfl h1
theorem t_M_copy_2 {l : Launch} {G : mm_G} {b : Nat} {m : mm_Mem} {Q : mm_O → mm_Mem → Prop} {r0 : Nat} {x1 : Int32} {x2 : Int32} {x3 : Int32} (h1 : (64 ≤ x3) → mm_W l G k_M_copy 36 [(0, .ref r0), (1, .int x1), (2, .int x2)] [] b m Q) (h2 : (¬ 64 ≤ x3) → mm_W l G k_M_copy 8 [(0, .ref r0), (1, .int x1), (2, .int x2), (3, .int x3)] [] b m Q) : mm_W l G k_M_copy 2 [(0, .ref r0), (1, .int x1), (2, .int x2), (3, .int x3)] [] b m Q := by
  refine mm_iload_n 3 (i := 3) d_M_copy_2 rfl rfl ?_
  refine mm_bipush d_M_copy_3 (v := 64) (by decide) ?_
  exact mm_icmp_ge (tgt := 36) d_M_copy_5 (by decide) (fun c => mm_sub [0, 1, 2] rfl (h1 c)) (fun c => mm_sub [0, 1, 2, 3] rfl (h2 c))
theorem t_M_copy_8 {l : Launch} {G : mm_G} {b : Nat} {m : mm_Mem} {Q : mm_O → mm_Mem → Prop} {r0 : Nat} {x1 : Int32} {x2 : Int32} {x3 : Int32} {fs_1 : List Value} {q_4 : Nat} {n_6 : Nat} {f_7 : Nat → Int32} (g2 : m r0 = .inr (8, fs_1)) (z3 : r0 ≠ 0) (v5 : fs_1[6]? = some (.ref q_4)) (a8 : m q_4 = .inl (G.2 1, n_6, .inl f_7)) (z9 : q_4 ≠ 0) (i10 : vp_in ((64 * x1) + x3) n_6) (i11 : vp_in ((64 * x2) + x3) n_6) (h12 : mm_W l G k_M_copy 2 [(0, .ref r0), (1, .int x1), (2, .int x2), (3, .int (x3 + 1))] [] b (va_up m q_4 (.inl (G.2 1, n_6, .inl (upd f_7 ((64 * x2) + x3).toNatClampNeg (f_7 ((64 * x1) + x3).toNatClampNeg))))) Q) : mm_W l G k_M_copy 8 [(0, .ref r0), (1, .int x1), (2, .int x2), (3, .int x3)] [] b m Q := by
  refine mm_aload_n 0 (i := 0) d_M_copy_8 rfl rfl ?_
  refine mm_get cc_M 6 (by decide) w_749 d_M_copy_9 g2 z3 v5 ?_
  refine mm_bipush d_M_copy_12 (v := 64) (by decide) ?_
  refine mm_iload_n 2 (i := 2) d_M_copy_14 rfl rfl ?_
  refine mm_imul d_M_copy_15 ?_
  refine mm_iload_n 3 (i := 3) d_M_copy_16 rfl rfl ?_
  refine mm_iadd d_M_copy_17 ?_
  refine mm_aload_n 0 (i := 0) d_M_copy_18 rfl rfl ?_
  refine mm_get cc_M 6 (by decide) w_749 d_M_copy_19 g2 z3 v5 ?_
  refine mm_bipush d_M_copy_22 (v := 64) (by decide) ?_
  refine mm_iload_n 1 (i := 1) d_M_copy_24 rfl rfl ?_
  refine mm_imul d_M_copy_25 ?_
  refine mm_iload_n 3 (i := 3) d_M_copy_26 rfl rfl ?_
  refine mm_iadd d_M_copy_27 ?_
  refine mm_iald d_M_copy_28 a8 z9 i10 ?_
  refine mm_iast d_M_copy_29 a8 z9 i11 ?_
  refine mm_iinc 3 (i := 3) d_M_copy_30 rfl (v := x3 + 1) rfl (Nat.le_of_ble_eq_true rfl) (lv2 := [(3, .int (x3 + 1)), (0, .ref r0), (1, .int x1), (2, .int x2)]) rfl ?_
  refine mm_goto (tgt := 2) d_M_copy_33 (by decide) ?_
  exact mm_sub [1, 2, 3, 0] rfl h12
theorem t_M_copy_36 {l : Launch} {G : mm_G} {b : Nat} {m : mm_Mem} {Q : mm_O → mm_Mem → Prop} {r0 : Nat} {x1 : Int32} {x2 : Int32} {fs_1 : List Value} {q_4 : Nat} {n_6 : Nat} {f_7 : Nat → Int32} {fs_12 : List Value} {q_14 : Nat} {n_16 : Nat} {f_17 : Nat → Int32} {m_22 : mm_Mem} {fs_24 : List Value} {q_26 : Nat} {n_28 : Nat} {f_29 : Nat → Int32} {fs_34 : List Value} {q_36 : Nat} {n_38 : Nat} {f_39 : Nat → Int32} {m_44 : mm_Mem} {fs_46 : List Value} {q_48 : Nat} {n_50 : Nat} {f_51 : Nat → Int32} {fs_56 : List Value} {q_58 : Nat} {n_60 : Nat} {f_61 : Nat → Int32} {m_66 : mm_Mem} (g2 : m r0 = .inr (8, fs_1)) (z3 : r0 ≠ 0) (v5 : fs_1[7]? = some (.ref q_4)) (a8 : m q_4 = .inl (G.2 1, n_6, .inl f_7)) (z9 : q_4 ≠ 0) (i10 : vp_in x1 n_6) (i11 : vp_in x2 n_6) (g13 : (va_up m q_4 (.inl (G.2 1, n_6, .inl (upd f_7 x2.toNatClampNeg (f_7 x1.toNatClampNeg))))) r0 = .inr (8, fs_12)) (v15 : fs_12[8]? = some (.ref q_14)) (a18 : (va_up m q_4 (.inl (G.2 1, n_6, .inl (upd f_7 x2.toNatClampNeg (f_7 x1.toNatClampNeg))))) q_14 = .inl (G.2 1, n_16, .inl f_17)) (z19 : q_14 ≠ 0) (i20 : vp_in x1 n_16) (i21 : vp_in x2 n_16) (q23 : m_22 = va_up (va_up m q_4 (.inl (G.2 1, n_6, .inl (upd f_7 x2.toNatClampNeg (f_7 x1.toNatClampNeg))))) q_14 (.inl (G.2 1, n_16, .inl (upd f_17 x2.toNatClampNeg (f_17 x1.toNatClampNeg))))) (g25 : m_22 r0 = .inr (8, fs_24)) (v27 : fs_24[9]? = some (.ref q_26)) (a30 : m_22 q_26 = .inl (G.2 1, n_28, .inl f_29)) (z31 : q_26 ≠ 0) (i32 : vp_in x1 n_28) (i33 : vp_in x2 n_28) (g35 : (va_up m_22 q_26 (.inl (G.2 1, n_28, .inl (upd f_29 x2.toNatClampNeg (f_29 x1.toNatClampNeg))))) r0 = .inr (8, fs_34)) (v37 : fs_34[10]? = some (.ref q_36)) (a40 : (va_up m_22 q_26 (.inl (G.2 1, n_28, .inl (upd f_29 x2.toNatClampNeg (f_29 x1.toNatClampNeg))))) q_36 = .inl (G.2 1, n_38, .inl f_39)) (z41 : q_36 ≠ 0) (i42 : vp_in x1 n_38) (i43 : vp_in x2 n_38) (q45 : m_44 = va_up (va_up m_22 q_26 (.inl (G.2 1, n_28, .inl (upd f_29 x2.toNatClampNeg (f_29 x1.toNatClampNeg))))) q_36 (.inl (G.2 1, n_38, .inl (upd f_39 x2.toNatClampNeg (f_39 x1.toNatClampNeg))))) (g47 : m_44 r0 = .inr (8, fs_46)) (v49 : fs_46[11]? = some (.ref q_48)) (a52 : m_44 q_48 = .inl (G.2 1, n_50, .inl f_51)) (z53 : q_48 ≠ 0) (i54 : vp_in x1 n_50) (i55 : vp_in x2 n_50) (g57 : (va_up m_44 q_48 (.inl (G.2 1, n_50, .inl (upd f_51 x2.toNatClampNeg (f_51 x1.toNatClampNeg))))) r0 = .inr (8, fs_56)) (v59 : fs_56[12]? = some (.ref q_58)) (a62 : (va_up m_44 q_48 (.inl (G.2 1, n_50, .inl (upd f_51 x2.toNatClampNeg (f_51 x1.toNatClampNeg))))) q_58 = .inl (G.2 1, n_60, .inl f_61)) (z63 : q_58 ≠ 0) (i64 : vp_in x1 n_60) (i65 : vp_in x2 n_60) (q67 : m_66 = va_up (va_up m_44 q_48 (.inl (G.2 1, n_50, .inl (upd f_51 x2.toNatClampNeg (f_51 x1.toNatClampNeg))))) q_58 (.inl (G.2 1, n_60, .inl (upd f_61 x2.toNatClampNeg (f_61 x1.toNatClampNeg))))) (h68 : Q (.inl none) m_66) : mm_W l G k_M_copy 36 [(0, .ref r0), (1, .int x1), (2, .int x2)] [] b m Q := by
  refine mm_aload_n 0 (i := 0) d_M_copy_36 rfl rfl ?_
  refine mm_get cc_M 7 (by decide) w_750 d_M_copy_37 g2 z3 v5 ?_
  refine mm_iload_n 2 (i := 2) d_M_copy_40 rfl rfl ?_
  refine mm_aload_n 0 (i := 0) d_M_copy_41 rfl rfl ?_
  refine mm_get cc_M 7 (by decide) w_750 d_M_copy_42 g2 z3 v5 ?_
  refine mm_iload_n 1 (i := 1) d_M_copy_45 rfl rfl ?_
  refine mm_iald d_M_copy_46 a8 z9 i10 ?_
  refine mm_iast d_M_copy_47 a8 z9 i11 ?_
  refine mm_aload_n 0 (i := 0) d_M_copy_48 rfl rfl ?_
  refine mm_get cc_M 8 (by decide) w_751 d_M_copy_49 g13 z3 v15 ?_
  refine mm_iload_n 2 (i := 2) d_M_copy_52 rfl rfl ?_
  refine mm_aload_n 0 (i := 0) d_M_copy_53 rfl rfl ?_
  refine mm_get cc_M 8 (by decide) w_751 d_M_copy_54 g13 z3 v15 ?_
  refine mm_iload_n 1 (i := 1) d_M_copy_57 rfl rfl ?_
  refine mm_iald d_M_copy_58 a18 z19 i20 ?_
  refine mm_iast d_M_copy_59 a18 z19 i21 ?_
  refine mm_eqm q23 ?_
  refine mm_aload_n 0 (i := 0) d_M_copy_60 rfl rfl ?_
  refine mm_get cc_M 9 (by decide) w_752 d_M_copy_61 g25 z3 v27 ?_
  refine mm_iload_n 2 (i := 2) d_M_copy_64 rfl rfl ?_
  refine mm_aload_n 0 (i := 0) d_M_copy_65 rfl rfl ?_
  refine mm_get cc_M 9 (by decide) w_752 d_M_copy_66 g25 z3 v27 ?_
  refine mm_iload_n 1 (i := 1) d_M_copy_69 rfl rfl ?_
  refine mm_iald d_M_copy_70 a30 z31 i32 ?_
  refine mm_iast d_M_copy_71 a30 z31 i33 ?_
  refine mm_aload_n 0 (i := 0) d_M_copy_72 rfl rfl ?_
  refine mm_get cc_M 10 (by decide) w_753 d_M_copy_73 g35 z3 v37 ?_
  refine mm_iload_n 2 (i := 2) d_M_copy_76 rfl rfl ?_
  refine mm_aload_n 0 (i := 0) d_M_copy_77 rfl rfl ?_
  refine mm_get cc_M 10 (by decide) w_753 d_M_copy_78 g35 z3 v37 ?_
  refine mm_iload_n 1 (i := 1) d_M_copy_81 rfl rfl ?_
  refine mm_iald d_M_copy_82 a40 z41 i42 ?_
  refine mm_iast d_M_copy_83 a40 z41 i43 ?_
  refine mm_eqm q45 ?_
  refine mm_aload_n 0 (i := 0) d_M_copy_84 rfl rfl ?_
  refine mm_get cc_M 11 (by decide) w_754 d_M_copy_85 g47 z3 v49 ?_
  refine mm_iload_n 2 (i := 2) d_M_copy_88 rfl rfl ?_
  refine mm_aload_n 0 (i := 0) d_M_copy_89 rfl rfl ?_
  refine mm_get cc_M 11 (by decide) w_754 d_M_copy_90 g47 z3 v49 ?_
  refine mm_iload_n 1 (i := 1) d_M_copy_93 rfl rfl ?_
  refine mm_iald d_M_copy_94 a52 z53 i54 ?_
  refine mm_iast d_M_copy_95 a52 z53 i55 ?_
  refine mm_aload_n 0 (i := 0) d_M_copy_96 rfl rfl ?_
  refine mm_get cc_M 12 (by decide) w_755 d_M_copy_97 g57 z3 v59 ?_
  refine mm_iload_n 2 (i := 2) d_M_copy_100 rfl rfl ?_
  refine mm_aload_n 0 (i := 0) d_M_copy_101 rfl rfl ?_
  refine mm_get cc_M 12 (by decide) w_755 d_M_copy_102 g57 z3 v59 ?_
  refine mm_iload_n 1 (i := 1) d_M_copy_105 rfl rfl ?_
  refine mm_iald d_M_copy_106 a62 z63 i64 ?_
  refine mm_iast d_M_copy_107 a62 z63 i65 ?_
  refine mm_eqm q67 ?_
  exact mm_vret d_M_copy_108 rfl h68
theorem t_M_gather_0 {l : Launch} {G : mm_G} {b : Nat} {m : mm_Mem} {Q : mm_O → mm_Mem → Prop} {r0 : Nat} (h1 : mm_W l G k_M_gather 4 [(0, .ref r0), (1, .int 0), (2, .int 0)] [] b m Q) : mm_W l G k_M_gather 0 [(0, .ref r0)] [] b m Q := by
  refine mm_iconst d_M_gather_0 (v := 0) (by decide) ?_
  refine mm_istore_n (i := 1) d_M_gather_1 rfl (Nat.le_of_ble_eq_true rfl) (lv2 := [(1, .int 0), (0, .ref r0)]) rfl ?_
  refine mm_iconst d_M_gather_2 (v := 0) (by decide) ?_
  refine mm_istore_n (i := 2) d_M_gather_3 rfl (Nat.le_of_ble_eq_true rfl) (lv2 := [(2, .int 0), (1, .int 0), (0, .ref r0)]) rfl ?_
  exact mm_sub [2, 1, 0] rfl h1
theorem t_M_gather_4 {l : Launch} {G : mm_G} {b : Nat} {m : mm_Mem} {Q : mm_O → mm_Mem → Prop} {r0 : Nat} {x1 : Int32} {x2 : Int32} {fs_1 : List Value} {u_4 : Int32} (g2 : m r0 = .inr (8, fs_1)) (z3 : r0 ≠ 0) (v5 : fs_1[5]? = some (.int u_4)) (h6 : (u_4 ≤ x2) → mm_W l G k_M_gather 73 [(0, .ref r0), (1, .int x1)] [] b m Q) (h7 : (¬ u_4 ≤ x2) → mm_W l G k_M_gather 12 [(0, .ref r0), (1, .int x1), (2, .int x2)] [] b m Q) : mm_W l G k_M_gather 4 [(0, .ref r0), (1, .int x1), (2, .int x2)] [] b m Q := by
  refine mm_iload_n 2 (i := 2) d_M_gather_4 rfl rfl ?_
  refine mm_aload_n 0 (i := 0) d_M_gather_5 rfl rfl ?_
  refine mm_get cc_M 5 (by decide) w_748 d_M_gather_6 g2 z3 v5 ?_
  exact mm_icmp_ge (tgt := 73) d_M_gather_9 (by decide) (fun c => mm_sub [0, 1] rfl (h6 c)) (fun c => mm_sub [0, 1, 2] rfl (h7 c))
theorem t_M_gather_12 {l : Launch} {G : mm_G} {b : Nat} {m : mm_Mem} {Q : mm_O → mm_Mem → Prop} {r0 : Nat} {x1 : Int32} {x2 : Int32} (h1 : mm_W l G k_M_gather 14 [(0, .ref r0), (1, .int x1), (2, .int x2), (3, .int 0)] [] b m Q) : mm_W l G k_M_gather 12 [(0, .ref r0), (1, .int x1), (2, .int x2)] [] b m Q := by
  refine mm_iconst d_M_gather_12 (v := 0) (by decide) ?_
  refine mm_istore_n (i := 3) d_M_gather_13 rfl (Nat.le_of_ble_eq_true rfl) (lv2 := [(3, .int 0), (0, .ref r0), (1, .int x1), (2, .int x2)]) rfl ?_
  exact mm_sub [1, 2, 3, 0] rfl h1
theorem t_M_gather_14 {l : Launch} {G : mm_G} {b : Nat} {m : mm_Mem} {Q : mm_O → mm_Mem → Prop} {r0 : Nat} {x1 : Int32} {x2 : Int32} {x3 : Int32} {fs_1 : List Value} {q_4 : Nat} {n_6 : Nat} {f_7 : Nat → Int32} (g2 : m r0 = .inr (8, fs_1)) (z3 : r0 ≠ 0) (v5 : fs_1[10]? = some (.ref q_4)) (a8 : m q_4 = .inl (G.2 1, n_6, .inl f_7)) (z9 : q_4 ≠ 0) (i10 : vp_in x2 n_6) (h11 : ((f_7 x2.toNatClampNeg) ≤ x3) → mm_W l G k_M_gather 51 [(0, .ref r0), (1, .int x1), (2, .int x2)] [] b m Q) (h12 : (¬ (f_7 x2.toNatClampNeg) ≤ x3) → mm_W l G k_M_gather 24 [(0, .ref r0), (1, .int x1), (2, .int x2), (3, .int x3)] [] b m Q) : mm_W l G k_M_gather 14 [(0, .ref r0), (1, .int x1), (2, .int x2), (3, .int x3)] [] b m Q := by
  refine mm_iload_n 3 (i := 3) d_M_gather_14 rfl rfl ?_
  refine mm_aload_n 0 (i := 0) d_M_gather_15 rfl rfl ?_
  refine mm_get cc_M 10 (by decide) w_753 d_M_gather_16 g2 z3 v5 ?_
  refine mm_iload_n 2 (i := 2) d_M_gather_19 rfl rfl ?_
  refine mm_iald d_M_gather_20 a8 z9 i10 ?_
  exact mm_icmp_ge (tgt := 51) d_M_gather_21 (by decide) (fun c => mm_sub [0, 1, 2] rfl (h11 c)) (fun c => mm_sub [0, 1, 2, 3] rfl (h12 c))
theorem t_M_gather_24 {l : Launch} {G : mm_G} {b : Nat} {m : mm_Mem} {Q : mm_O → mm_Mem → Prop} {r0 : Nat} {x1 : Int32} {x2 : Int32} {x3 : Int32} {fs_1 : List Value} {q_4 : Nat} {q_6 : Nat} {q_8 : Nat} {n_10 : Nat} {f_11 : Nat → Int32} {n_15 : Nat} {f_16 : Nat → Int32} {n_20 : Nat} {f_21 : Nat → Int32} (g2 : m r0 = .inr (8, fs_1)) (z3 : r0 ≠ 0) (v5 : fs_1[15]? = some (.ref q_4)) (v7 : fs_1[14]? = some (.ref q_6)) (v9 : fs_1[9]? = some (.ref q_8)) (a12 : m q_8 = .inl (G.2 1, n_10, .inl f_11)) (z13 : q_8 ≠ 0) (i14 : vp_in x2 n_10) (a17 : m q_6 = .inl (G.2 0, n_15, .inl f_16)) (z18 : q_6 ≠ 0) (i19 : vp_in ((f_11 x2.toNatClampNeg) + x3) n_15) (a22 : m q_4 = .inl (G.2 0, n_20, .inl f_21)) (z23 : q_4 ≠ 0) (i24 : vp_in (x1 + x3) n_20) (h25 : mm_W l G k_M_gather 14 [(0, .ref r0), (1, .int x1), (2, .int x2), (3, .int (x3 + 1))] [] b (va_up m q_4 (.inl (G.2 0, n_20, .inl (upd f_21 (x1 + x3).toNatClampNeg (vp_nar .byte (f_16 ((f_11 x2.toNatClampNeg) + x3).toNatClampNeg)))))) Q) : mm_W l G k_M_gather 24 [(0, .ref r0), (1, .int x1), (2, .int x2), (3, .int x3)] [] b m Q := by
  refine mm_aload_n 0 (i := 0) d_M_gather_24 rfl rfl ?_
  refine mm_get cc_M 15 (by decide) w_758 d_M_gather_25 g2 z3 v5 ?_
  refine mm_iload_n 1 (i := 1) d_M_gather_28 rfl rfl ?_
  refine mm_iload_n 3 (i := 3) d_M_gather_29 rfl rfl ?_
  refine mm_iadd d_M_gather_30 ?_
  refine mm_aload_n 0 (i := 0) d_M_gather_31 rfl rfl ?_
  refine mm_get cc_M 14 (by decide) w_757 d_M_gather_32 g2 z3 v7 ?_
  refine mm_aload_n 0 (i := 0) d_M_gather_35 rfl rfl ?_
  refine mm_get cc_M 9 (by decide) w_752 d_M_gather_36 g2 z3 v9 ?_
  refine mm_iload_n 2 (i := 2) d_M_gather_39 rfl rfl ?_
  refine mm_iald d_M_gather_40 a12 z13 i14 ?_
  refine mm_iload_n 3 (i := 3) d_M_gather_41 rfl rfl ?_
  refine mm_iadd d_M_gather_42 ?_
  refine mm_bald d_M_gather_43 a17 z18 i19 ?_
  refine mm_bast d_M_gather_44 a22 z23 i24 ?_
  refine mm_iinc 3 (i := 3) d_M_gather_45 rfl (v := x3 + 1) rfl (Nat.le_of_ble_eq_true rfl) (lv2 := [(3, .int (x3 + 1)), (0, .ref r0), (1, .int x1), (2, .int x2)]) rfl ?_
  refine mm_goto (tgt := 14) d_M_gather_48 (by decide) ?_
  exact mm_sub [1, 2, 3, 0] rfl h25
theorem t_M_gather_51 {l : Launch} {G : mm_G} {b : Nat} {m : mm_Mem} {Q : mm_O → mm_Mem → Prop} {r0 : Nat} {x1 : Int32} {x2 : Int32} {fs_1 : List Value} {q_4 : Nat} {n_6 : Nat} {f_7 : Nat → Int32} {fs_11 : List Value} {q_13 : Nat} {n_15 : Nat} {f_16 : Nat → Int32} (g2 : m r0 = .inr (8, fs_1)) (z3 : r0 ≠ 0) (v5 : fs_1[9]? = some (.ref q_4)) (a8 : m q_4 = .inl (G.2 1, n_6, .inl f_7)) (z9 : q_4 ≠ 0) (i10 : vp_in x2 n_6) (g12 : (va_up m q_4 (.inl (G.2 1, n_6, .inl (upd f_7 x2.toNatClampNeg x1)))) r0 = .inr (8, fs_11)) (v14 : fs_11[10]? = some (.ref q_13)) (a17 : (va_up m q_4 (.inl (G.2 1, n_6, .inl (upd f_7 x2.toNatClampNeg x1)))) q_13 = .inl (G.2 1, n_15, .inl f_16)) (z18 : q_13 ≠ 0) (i19 : vp_in x2 n_15) (h20 : mm_W l G k_M_gather 4 [(0, .ref r0), (1, .int (x1 + (f_16 x2.toNatClampNeg))), (2, .int (x2 + 1))] [] b (va_up m q_4 (.inl (G.2 1, n_6, .inl (upd f_7 x2.toNatClampNeg x1)))) Q) : mm_W l G k_M_gather 51 [(0, .ref r0), (1, .int x1), (2, .int x2)] [] b m Q := by
  refine mm_aload_n 0 (i := 0) d_M_gather_51 rfl rfl ?_
  refine mm_get cc_M 9 (by decide) w_752 d_M_gather_52 g2 z3 v5 ?_
  refine mm_iload_n 2 (i := 2) d_M_gather_55 rfl rfl ?_
  refine mm_iload_n 1 (i := 1) d_M_gather_56 rfl rfl ?_
  refine mm_iast d_M_gather_57 a8 z9 i10 ?_
  refine mm_iload_n 1 (i := 1) d_M_gather_58 rfl rfl ?_
  refine mm_aload_n 0 (i := 0) d_M_gather_59 rfl rfl ?_
  refine mm_get cc_M 10 (by decide) w_753 d_M_gather_60 g12 z3 v14 ?_
  refine mm_iload_n 2 (i := 2) d_M_gather_63 rfl rfl ?_
  refine mm_iald d_M_gather_64 a17 z18 i19 ?_
  refine mm_iadd d_M_gather_65 ?_
  refine mm_istore_n (i := 1) d_M_gather_66 rfl (Nat.le_of_ble_eq_true rfl) (lv2 := [(1, .int (x1 + (f_16 x2.toNatClampNeg))), (0, .ref r0), (2, .int x2)]) rfl ?_
  refine mm_iinc 2 (i := 2) d_M_gather_67 rfl (v := x2 + 1) rfl (Nat.le_of_ble_eq_true rfl) (lv2 := [(2, .int (x2 + 1)), (1, .int (x1 + (f_16 x2.toNatClampNeg))), (0, .ref r0)]) rfl ?_
  refine mm_goto (tgt := 4) d_M_gather_70 (by decide) ?_
  exact mm_sub [2, 1, 0] rfl h20
theorem t_M_gather_73 {l : Launch} {G : mm_G} {b : Nat} {m : mm_Mem} {Q : mm_O → mm_Mem → Prop} {r0 : Nat} {x1 : Int32} {fs_1 : List Value} {q_4 : Nat} {q_6 : Nat} {fs_9 : List Value} {fs_12 : List Value} (g2 : m r0 = .inr (8, fs_1)) (z3 : r0 ≠ 0) (v5 : fs_1[14]? = some (.ref q_4)) (v7 : fs_1[15]? = some (.ref q_6)) (l8 : 14 < fs_1.length) (g10 : (va_up m r0 (.inr (8, fs_1.set 14 (.ref q_6)))) r0 = .inr (8, fs_9)) (l11 : 15 < fs_9.length) (g13 : (va_up (va_up m r0 (.inr (8, fs_1.set 14 (.ref q_6)))) r0 (.inr (8, fs_9.set 15 (.ref q_4)))) r0 = .inr (8, fs_12)) (l14 : 13 < fs_12.length) (h15 : Q (.inl none) (va_up (va_up (va_up m r0 (.inr (8, fs_1.set 14 (.ref q_6)))) r0 (.inr (8, fs_9.set 15 (.ref q_4)))) r0 (.inr (8, fs_12.set 13 (.int x1))))) : mm_W l G k_M_gather 73 [(0, .ref r0), (1, .int x1)] [] b m Q := by
  refine mm_aload_n 0 (i := 0) d_M_gather_73 rfl rfl ?_
  refine mm_get cc_M 14 (by decide) w_757 d_M_gather_74 g2 z3 v5 ?_
  refine mm_astore_n (i := 2) d_M_gather_77 rfl (Nat.le_of_ble_eq_true rfl) (lv2 := [(2, .ref q_4), (0, .ref r0), (1, .int x1)]) rfl ?_
  refine mm_aload_n 1 (i := 0) d_M_gather_78 rfl rfl ?_
  refine mm_aload_n 1 (i := 0) d_M_gather_79 rfl rfl ?_
  refine mm_get cc_M 15 (by decide) w_758 d_M_gather_80 g2 z3 v7 ?_
  refine mm_putf cc_M 14 (by decide) w_757 d_M_gather_83 rfl (fun _ => rfl) (fun _ => rfl) g2 z3 l8 ?_
  refine mm_aload_n 1 (i := 0) d_M_gather_86 rfl rfl ?_
  refine mm_aload_n 0 (i := 2) d_M_gather_87 rfl rfl ?_
  refine mm_putf cc_M 15 (by decide) w_758 d_M_gather_88 rfl (fun _ => rfl) (fun _ => rfl) g10 z3 l11 ?_
  refine mm_aload_n 1 (i := 0) d_M_gather_91 rfl rfl ?_
  refine mm_iload_n 2 (i := 1) d_M_gather_92 rfl rfl ?_
  refine mm_putf cc_M 13 (by decide) w_756 d_M_gather_93 rfl (fun _ => rfl) (fun _ => rfl) g13 z3 l14 ?_
  exact mm_vret d_M_gather_96 rfl h15
theorem t_M_remove_0 {l : Launch} {G : mm_G} {b : Nat} {m : mm_Mem} {Q : mm_O → mm_Mem → Prop} {r0 : Nat} {x1 : Int32} {b_1 : Nat} {b_2 : Nat} {m_4 : mm_Mem} {x_5 : Int32} {fs_6 : List Value} (hb3 : b_1 + b_2 ≤ b) (g7 : m r0 = .inr (8, fs_6)) (z8 : r0 ≠ 0) (M9 : mm_W l G k_M_noEntry 0 (lv_args 0 [.ref r0, .int x1]) [] b_1 m (mm_is (.inl (some (.int x_5))) m_4)) (h10 : (x_5 = 0) → mm_W l G k_M_remove 13 [(0, .ref r0), (1, .int x1)] [.ref r0] b_2 m_4 Q) (h11 : (¬ x_5 = 0) → mm_W l G k_M_remove 9 [(0, .ref r0), (1, .int x1)] [.ref r0] b_2 m_4 Q) : mm_W l G k_M_remove 0 [(0, .ref r0), (1, .int x1)] [] b m Q := by
  refine mm_aload_n 0 (i := 0) d_M_remove_0 rfl rfl ?_
  refine mm_aload_n 0 (i := 0) d_M_remove_1 rfl rfl ?_
  refine mm_iload_n 1 (i := 1) d_M_remove_2 rfl rfl ?_
  refine mm_callV (as := [.int x1]) (st := [.ref r0]) (b2 := b_2) ca_M_noEntry w_904 w_906 v_M_noEntry cc_M.1 rfl d_M_remove_3 rfl (Nat.le_of_ble_eq_true rfl) (Nat.le_of_ble_eq_true rfl) (Nat.le_of_ble_eq_true rfl) hb3 g7 z8 M9 (fun E _ ⟨c, _⟩ => nomatch c) (fun v _ ⟨c, e⟩ => ?_)
  cases c
  rw [e]
  show mm_W l G k_M_remove 6 [(0, .ref r0), (1, .int x1)] [.int x_5, .ref r0] b_2 m_4 Q
  exact mm_if_eq (tgt := 13) d_M_remove_6 (by decide) (fun c => mm_sub [0, 1] rfl (h10 c)) (fun c => mm_sub [0, 1] rfl (h11 c))
theorem t_M_remove_9 {l : Launch} {G : mm_G} {b : Nat} {m : mm_Mem} {Q : mm_O → mm_Mem → Prop} {r0 : Nat} {x1 : Int32} {rs0 : Nat} (h1 : mm_W l G k_M_remove 14 [(0, .ref r0), (1, .int x1)] [.int 1, .ref rs0] b m Q) : mm_W l G k_M_remove 9 [(0, .ref r0), (1, .int x1)] [.ref rs0] b m Q := by
  refine mm_iconst d_M_remove_9 (v := 1) (by decide) ?_
  refine mm_goto (tgt := 14) d_M_remove_10 (by decide) ?_
  exact mm_sub [0, 1] rfl h1
theorem t_M_remove_13 {l : Launch} {G : mm_G} {b : Nat} {m : mm_Mem} {Q : mm_O → mm_Mem → Prop} {r0 : Nat} {x1 : Int32} {rs0 : Nat} (h1 : mm_W l G k_M_remove 14 [(0, .ref r0), (1, .int x1)] [.int 0, .ref rs0] b m Q) : mm_W l G k_M_remove 13 [(0, .ref r0), (1, .int x1)] [.ref rs0] b m Q := by
  refine mm_iconst d_M_remove_13 (v := 0) (by decide) ?_
  exact mm_sub [0, 1] rfl h1
theorem t_M_remove_14 {l : Launch} {G : mm_G} {b : Nat} {m : mm_Mem} {Q : mm_O → mm_Mem → Prop} {r0 : Nat} {x1 : Int32} {xs0 : Int32} {rs1 : Nat} {fs_1 : List Value} {fs_5 : List Value} {u_8 : Int32} (g2 : m rs1 = .inr (8, fs_1)) (z3 : rs1 ≠ 0) (l4 : 0 < fs_1.length) (g6 : (va_up m rs1 (.inr (8, fs_1.set 0 (.int xs0)))) r0 = .inr (8, fs_5)) (z7 : r0 ≠ 0) (v9 : fs_5[0]? = some (.int u_8)) (h10 : (u_8 ≤ 0) → mm_W l G k_M_remove 25 [(0, .ref r0), (1, .int x1)] [] b (va_up m rs1 (.inr (8, fs_1.set 0 (.int xs0)))) Q) (h11 : (¬ u_8 ≤ 0) → mm_W l G k_M_remove 24 [] [] b (va_up m rs1 (.inr (8, fs_1.set 0 (.int xs0)))) Q) : mm_W l G k_M_remove 14 [(0, .ref r0), (1, .int x1)] [.int xs0, .ref rs1] b m Q := by
  refine mm_putf cc_M 0 (by decide) w_743 d_M_remove_14 rfl (fun _ => rfl) (fun _ => rfl) g2 z3 l4 ?_
  refine mm_aload_n 0 (i := 0) d_M_remove_17 rfl rfl ?_
  refine mm_get cc_M 0 (by decide) w_743 d_M_remove_18 g6 z7 v9 ?_
  exact mm_if_le (tgt := 25) d_M_remove_21 (by decide) (fun c => mm_sub [0, 1] rfl (h10 c)) (fun c => mm_sub [] rfl (h11 c))
theorem t_M_remove_24 {l : Launch} {G : mm_G} {b : Nat} {m : mm_Mem} {Q : mm_O → mm_Mem → Prop}  (h1 : Q (.inl none) m) : mm_W l G k_M_remove 24 [] [] b m Q := by
  exact mm_vret d_M_remove_24 rfl h1
theorem t_M_remove_25 {l : Launch} {G : mm_G} {b : Nat} {m : mm_Mem} {Q : mm_O → mm_Mem → Prop} {r0 : Nat} {x1 : Int32} (h1 : mm_W l G k_M_remove 27 [(0, .ref r0), (2, .int x1)] [] b m Q) : mm_W l G k_M_remove 25 [(0, .ref r0), (1, .int x1)] [] b m Q := by
  refine mm_iload_n 1 (i := 1) d_M_remove_25 rfl rfl ?_
  refine mm_istore_n (i := 2) d_M_remove_26 rfl (Nat.le_of_ble_eq_true rfl) (lv2 := [(2, .int x1), (0, .ref r0), (1, .int x1)]) rfl ?_
  exact mm_sub [1, 0] rfl h1
theorem t_M_remove_27 {l : Launch} {G : mm_G} {b : Nat} {m : mm_Mem} {Q : mm_O → mm_Mem → Prop} {r0 : Nat} {x2 : Int32} {fs_1 : List Value} {u_4 : Int32} (g2 : m r0 = .inr (8, fs_1)) (z3 : r0 ≠ 0) (v5 : fs_1[5]? = some (.int u_4)) (h6 : (u_4 ≤ (x2 + 1)) → mm_W l G k_M_remove 51 [(0, .ref r0)] [] b m Q) (h7 : (¬ u_4 ≤ (x2 + 1)) → mm_W l G k_M_remove 37 [(0, .ref r0), (2, .int x2)] [] b m Q) : mm_W l G k_M_remove 27 [(0, .ref r0), (2, .int x2)] [] b m Q := by
  refine mm_iload_n 1 (i := 2) d_M_remove_27 rfl rfl ?_
  refine mm_iconst d_M_remove_28 (v := 1) (by decide) ?_
  refine mm_iadd d_M_remove_29 ?_
  refine mm_aload_n 0 (i := 0) d_M_remove_30 rfl rfl ?_
  refine mm_get cc_M 5 (by decide) w_748 d_M_remove_31 g2 z3 v5 ?_
  exact mm_icmp_ge (tgt := 51) d_M_remove_34 (by decide) (fun c => mm_sub [0] rfl (h6 c)) (fun c => mm_sub [0, 1] rfl (h7 c))
theorem t_M_remove_37 {l : Launch} {G : mm_G} {b : Nat} {m : mm_Mem} {Q : mm_O → mm_Mem → Prop} {r0 : Nat} {x2 : Int32} {b_1 : Nat} {b_2 : Nat} {P_4 : mm_O → mm_Mem → Prop} {fs_5 : List Value} (hb3 : b_1 + b_2 ≤ b) (g6 : m r0 = .inr (8, fs_5)) (z7 : r0 ≠ 0) (M8 : mm_W l G k_M_copy 0 (lv_args 0 [.ref r0, .int (x2 + 1), .int x2]) [] b_1 m P_4) (hx9 : ∀ (E : String) (n_2 : mm_Mem), ¬ P_4 (.inr E) n_2) (h10 : ∀ (v : Option Value) (n_2 : mm_Mem), P_4 (.inl v) n_2 → v = none ∧ mm_W l G k_M_remove 45 [(0, .ref r0), (2, .int x2)] [] b_2 n_2 Q) : mm_W l G k_M_remove 37 [(0, .ref r0), (2, .int x2)] [] b m Q := by
  refine mm_aload_n 0 (i := 0) d_M_remove_37 rfl rfl ?_
  refine mm_iload_n 1 (i := 2) d_M_remove_38 rfl rfl ?_
  refine mm_iconst d_M_remove_39 (v := 1) (by decide) ?_
  refine mm_iadd d_M_remove_40 ?_
  refine mm_iload_n 1 (i := 2) d_M_remove_41 rfl rfl ?_
  refine mm_callV (as := [.int (x2 + 1), .int x2]) (st := []) (b2 := b_2) ca_M_copy w_908 w_910 v_M_copy cc_M.1 rfl d_M_remove_42 rfl (Nat.le_of_ble_eq_true rfl) (Nat.le_of_ble_eq_true rfl) (Nat.le_of_ble_eq_true rfl) hb3 g6 z7 M8 (fun E m2 q => absurd q (hx9 E m2)) (fun v m2 q => ?_)
  obtain ⟨rfl, z9⟩ := h10 v m2 q
  exact mm_sub [0, 1] rfl z9
theorem t_M_remove_45 {l : Launch} {G : mm_G} {b : Nat} {m : mm_Mem} {Q : mm_O → mm_Mem → Prop} {r0 : Nat} {x2 : Int32} (h1 : mm_W l G k_M_remove 27 [(0, .ref r0), (2, .int (x2 + 1))] [] b m Q) : mm_W l G k_M_remove 45 [(0, .ref r0), (2, .int x2)] [] b m Q := by
  refine mm_iinc 1 (i := 2) d_M_remove_45 rfl (v := x2 + 1) rfl (Nat.le_of_ble_eq_true rfl) (lv2 := [(2, .int (x2 + 1)), (0, .ref r0)]) rfl ?_
  refine mm_goto (tgt := 27) d_M_remove_48 (by decide) ?_
  exact mm_sub [1, 0] rfl h1
theorem t_M_remove_51 {l : Launch} {G : mm_G} {b : Nat} {m : mm_Mem} {Q : mm_O → mm_Mem → Prop} {r0 : Nat} {fs_1 : List Value} {u_4 : Int32} {b_7 : Nat} {b_8 : Nat} {P_10 : mm_O → mm_Mem → Prop} {fs_11 : List Value} (g2 : m r0 = .inr (8, fs_1)) (z3 : r0 ≠ 0) (v5 : fs_1[5]? = some (.int u_4)) (l6 : 5 < fs_1.length) (hb9 : b_7 + b_8 ≤ b) (g12 : (va_up m r0 (.inr (8, fs_1.set 5 (.int (u_4 - 1))))) r0 = .inr (8, fs_11)) (M13 : mm_W l G k_M_gather 0 (lv_args 0 [.ref r0]) [] b_7 (va_up m r0 (.inr (8, fs_1.set 5 (.int (u_4 - 1))))) P_10) (hx14 : ∀ (E : String) (n_2 : mm_Mem), ¬ P_10 (.inr E) n_2) (h15 : ∀ (v : Option Value) (n_2 : mm_Mem), P_10 (.inl v) n_2 → v = none ∧ mm_W l G k_M_remove 65 [] [] b_8 n_2 Q) : mm_W l G k_M_remove 51 [(0, .ref r0)] [] b m Q := by
  refine mm_aload_n 0 (i := 0) d_M_remove_51 rfl rfl ?_
  refine mm_dup d_M_remove_52 rfl ?_
  refine mm_get cc_M 5 (by decide) w_748 d_M_remove_53 g2 z3 v5 ?_
  refine mm_iconst d_M_remove_56 (v := 1) (by decide) ?_
  refine mm_isub d_M_remove_57 ?_
  refine mm_putf cc_M 5 (by decide) w_748 d_M_remove_58 rfl (fun _ => rfl) (fun _ => rfl) g2 z3 l6 ?_
  refine mm_aload_n 0 (i := 0) d_M_remove_61 rfl rfl ?_
  refine mm_callV (as := []) (st := []) (b2 := b_8) ca_M_gather w_912 w_914 v_M_gather cc_M.1 rfl d_M_remove_62 rfl (Nat.le_of_ble_eq_true rfl) (Nat.le_of_ble_eq_true rfl) (Nat.le_of_ble_eq_true rfl) hb9 g12 z3 M13 (fun E m2 q => absurd q (hx14 E m2)) (fun v m2 q => ?_)
  obtain ⟨rfl, z9⟩ := h15 v m2 q
  exact mm_sub [] rfl z9
theorem t_M_remove_65 {l : Launch} {G : mm_G} {b : Nat} {m : mm_Mem} {Q : mm_O → mm_Mem → Prop}  (h1 : Q (.inl none) m) : mm_W l G k_M_remove 65 [] [] b m Q := by
  exact mm_vret d_M_remove_65 rfl h1
theorem t_M_swap_0 {l : Launch} {G : mm_G} {b : Nat} {m : mm_Mem} {Q : mm_O → mm_Mem → Prop} {r0 : Nat} {x1 : Int32} {x2 : Int32} (h1 : mm_W l G k_M_swap 2 [(0, .ref r0), (1, .int x1), (2, .int x2), (3, .int 0)] [] b m Q) : mm_W l G k_M_swap 0 [(0, .ref r0), (1, .int x1), (2, .int x2)] [] b m Q := by
  refine mm_iconst d_M_swap_0 (v := 0) (by decide) ?_
  refine mm_istore_n (i := 3) d_M_swap_1 rfl (Nat.le_of_ble_eq_true rfl) (lv2 := [(3, .int 0), (0, .ref r0), (1, .int x1), (2, .int x2)]) rfl ?_
  exact mm_sub [1, 2, 3, 0] rfl h1
theorem t_M_swap_2 {l : Launch} {G : mm_G} {b : Nat} {m : mm_Mem} {Q : mm_O → mm_Mem → Prop} {r0 : Nat} {x1 : Int32} {x2 : Int32} {x3 : Int32} (h1 : (64 ≤ x3) → mm_W l G k_M_swap 62 [(0, .ref r0), (1, .int x1), (2, .int x2)] [] b m Q) (h2 : (¬ 64 ≤ x3) → mm_W l G k_M_swap 8 [(0, .ref r0), (1, .int x1), (2, .int x2), (3, .int x3)] [] b m Q) : mm_W l G k_M_swap 2 [(0, .ref r0), (1, .int x1), (2, .int x2), (3, .int x3)] [] b m Q := by
  refine mm_iload_n 3 (i := 3) d_M_swap_2 rfl rfl ?_
  refine mm_bipush d_M_swap_3 (v := 64) (by decide) ?_
  exact mm_icmp_ge (tgt := 62) d_M_swap_5 (by decide) (fun c => mm_sub [0, 1, 2] rfl (h1 c)) (fun c => mm_sub [0, 1, 2, 3] rfl (h2 c))
theorem t_M_swap_8 {l : Launch} {G : mm_G} {b : Nat} {m : mm_Mem} {Q : mm_O → mm_Mem → Prop} {r0 : Nat} {x1 : Int32} {x2 : Int32} {x3 : Int32} {fs_1 : List Value} {q_4 : Nat} {n_6 : Nat} {f_7 : Nat → Int32} {fs_13 : List Value} {q_15 : Nat} {n_17 : Nat} {f_18 : Nat → Int32} {m_22 : mm_Mem} (g2 : m r0 = .inr (8, fs_1)) (z3 : r0 ≠ 0) (v5 : fs_1[6]? = some (.ref q_4)) (a8 : m q_4 = .inl (G.2 1, n_6, .inl f_7)) (z9 : q_4 ≠ 0) (i10 : vp_in ((64 * x1) + x3) n_6) (i11 : vp_in ((64 * x2) + x3) n_6) (i12 : vp_in ((64 * x1) + x3) n_6) (g14 : (va_up m q_4 (.inl (G.2 1, n_6, .inl (upd f_7 ((64 * x1) + x3).toNatClampNeg (f_7 ((64 * x2) + x3).toNatClampNeg))))) r0 = .inr (8, fs_13)) (v16 : fs_13[6]? = some (.ref q_15)) (a19 : (va_up m q_4 (.inl (G.2 1, n_6, .inl (upd f_7 ((64 * x1) + x3).toNatClampNeg (f_7 ((64 * x2) + x3).toNatClampNeg))))) q_15 = .inl (G.2 1, n_17, .inl f_18)) (z20 : q_15 ≠ 0) (i21 : vp_in ((64 * x2) + x3) n_17) (q23 : m_22 = va_up (va_up m q_4 (.inl (G.2 1, n_6, .inl (upd f_7 ((64 * x1) + x3).toNatClampNeg (f_7 ((64 * x2) + x3).toNatClampNeg))))) q_15 (.inl (G.2 1, n_17, .inl (upd f_18 ((64 * x2) + x3).toNatClampNeg (f_7 ((64 * x1) + x3).toNatClampNeg))))) (h24 : mm_W l G k_M_swap 2 [(0, .ref r0), (1, .int x1), (2, .int x2), (3, .int (x3 + 1))] [] b m_22 Q) : mm_W l G k_M_swap 8 [(0, .ref r0), (1, .int x1), (2, .int x2), (3, .int x3)] [] b m Q := by
  refine mm_aload_n 0 (i := 0) d_M_swap_8 rfl rfl ?_
  refine mm_get cc_M 6 (by decide) w_749 d_M_swap_9 g2 z3 v5 ?_
  refine mm_bipush d_M_swap_12 (v := 64) (by decide) ?_
  refine mm_iload_n 1 (i := 1) d_M_swap_14 rfl rfl ?_
  refine mm_imul d_M_swap_15 ?_
  refine mm_iload_n 3 (i := 3) d_M_swap_16 rfl rfl ?_
  refine mm_iadd d_M_swap_17 ?_
  refine mm_iald d_M_swap_18 a8 z9 i10 ?_
  refine mm_istore (i := 4) d_M_swap_19 (Nat.le_of_ble_eq_true rfl) (lv2 := [(4, .int (f_7 ((64 * x1) + x3).toNatClampNeg)), (0, .ref r0), (1, .int x1), (2, .int x2), (3, .int x3)]) rfl ?_
  refine mm_aload_n 1 (i := 0) d_M_swap_21 rfl rfl ?_
  refine mm_get cc_M 6 (by decide) w_749 d_M_swap_22 g2 z3 v5 ?_
  refine mm_bipush d_M_swap_25 (v := 64) (by decide) ?_
  refine mm_iload_n 2 (i := 1) d_M_swap_27 rfl rfl ?_
  refine mm_imul d_M_swap_28 ?_
  refine mm_iload_n 4 (i := 3) d_M_swap_29 rfl rfl ?_
  refine mm_iadd d_M_swap_30 ?_
  refine mm_aload_n 1 (i := 0) d_M_swap_31 rfl rfl ?_
  refine mm_get cc_M 6 (by decide) w_749 d_M_swap_32 g2 z3 v5 ?_
  refine mm_bipush d_M_swap_35 (v := 64) (by decide) ?_
  refine mm_iload_n 3 (i := 2) d_M_swap_37 rfl rfl ?_
  refine mm_imul d_M_swap_38 ?_
  refine mm_iload_n 4 (i := 3) d_M_swap_39 rfl rfl ?_
  refine mm_iadd d_M_swap_40 ?_
  refine mm_iald d_M_swap_41 a8 z9 i11 ?_
  refine mm_iast d_M_swap_42 a8 z9 i12 ?_
  refine mm_aload_n 1 (i := 0) d_M_swap_43 rfl rfl ?_
  refine mm_get cc_M 6 (by decide) w_749 d_M_swap_44 g14 z3 v16 ?_
  refine mm_bipush d_M_swap_47 (v := 64) (by decide) ?_
  refine mm_iload_n 3 (i := 2) d_M_swap_49 rfl rfl ?_
  refine mm_imul d_M_swap_50 ?_
  refine mm_iload_n 4 (i := 3) d_M_swap_51 rfl rfl ?_
  refine mm_iadd d_M_swap_52 ?_
  refine mm_iload 0 (i := 4) d_M_swap_53 rfl ?_
  refine mm_iast d_M_swap_55 a19 z20 i21 ?_
  refine mm_eqm q23 ?_
  refine mm_iinc 4 (i := 3) d_M_swap_56 rfl (v := x3 + 1) rfl (Nat.le_of_ble_eq_true rfl) (lv2 := [(3, .int (x3 + 1)), (4, .int (f_7 ((64 * x1) + x3).toNatClampNeg)), (0, .ref r0), (1, .int x1), (2, .int x2)]) rfl ?_
  refine mm_goto (tgt := 2) d_M_swap_59 (by decide) ?_
  exact mm_sub [2, 3, 4, 0] rfl h24
theorem t_M_swap_62 {l : Launch} {G : mm_G} {b : Nat} {m : mm_Mem} {Q : mm_O → mm_Mem → Prop} {r0 : Nat} {x1 : Int32} {x2 : Int32} {fs_1 : List Value} {q_4 : Nat} {n_6 : Nat} {f_7 : Nat → Int32} {fs_13 : List Value} {q_15 : Nat} {n_17 : Nat} {f_18 : Nat → Int32} {m_22 : mm_Mem} {fs_24 : List Value} {q_26 : Nat} {n_28 : Nat} {f_29 : Nat → Int32} {fs_35 : List Value} {q_37 : Nat} {n_39 : Nat} {f_40 : Nat → Int32} {m_44 : mm_Mem} {fs_46 : List Value} {q_48 : Nat} {n_50 : Nat} {f_51 : Nat → Int32} {fs_57 : List Value} {q_59 : Nat} {n_61 : Nat} {f_62 : Nat → Int32} {m_66 : mm_Mem} {fs_68 : List Value} {q_70 : Nat} {n_72 : Nat} {f_73 : Nat → Int32} {fs_79 : List Value} {q_81 : Nat} {n_83 : Nat} {f_84 : Nat → Int32} {m_88 : mm_Mem} {fs_90 : List Value} {q_92 : Nat} {n_94 : Nat} {f_95 : Nat → Int32} {fs_101 : List Value} {q_103 : Nat} {n_105 : Nat} {f_106 : Nat → Int32} {m_110 : mm_Mem} {fs_112 : List Value} {q_114 : Nat} {n_116 : Nat} {f_117 : Nat → Int32} {fs_123 : List Value} {q_125 : Nat} {n_127 : Nat} {f_128 : Nat → Int32} {m_132 : mm_Mem} (g2 : m r0 = .inr (8, fs_1)) (z3 : r0 ≠ 0) (v5 : fs_1[7]? = some (.ref q_4)) (a8 : m q_4 = .inl (G.2 1, n_6, .inl f_7)) (z9 : q_4 ≠ 0) (i10 : vp_in x1 n_6) (i11 : vp_in x2 n_6) (i12 : vp_in x1 n_6) (g14 : (va_up m q_4 (.inl (G.2 1, n_6, .inl (upd f_7 x1.toNatClampNeg (f_7 x2.toNatClampNeg))))) r0 = .inr (8, fs_13)) (v16 : fs_13[7]? = some (.ref q_15)) (a19 : (va_up m q_4 (.inl (G.2 1, n_6, .inl (upd f_7 x1.toNatClampNeg (f_7 x2.toNatClampNeg))))) q_15 = .inl (G.2 1, n_17, .inl f_18)) (z20 : q_15 ≠ 0) (i21 : vp_in x2 n_17) (q23 : m_22 = va_up (va_up m q_4 (.inl (G.2 1, n_6, .inl (upd f_7 x1.toNatClampNeg (f_7 x2.toNatClampNeg))))) q_15 (.inl (G.2 1, n_17, .inl (upd f_18 x2.toNatClampNeg (f_7 x1.toNatClampNeg))))) (g25 : m_22 r0 = .inr (8, fs_24)) (v27 : fs_24[8]? = some (.ref q_26)) (a30 : m_22 q_26 = .inl (G.2 1, n_28, .inl f_29)) (z31 : q_26 ≠ 0) (i32 : vp_in x1 n_28) (i33 : vp_in x2 n_28) (i34 : vp_in x1 n_28) (g36 : (va_up m_22 q_26 (.inl (G.2 1, n_28, .inl (upd f_29 x1.toNatClampNeg (f_29 x2.toNatClampNeg))))) r0 = .inr (8, fs_35)) (v38 : fs_35[8]? = some (.ref q_37)) (a41 : (va_up m_22 q_26 (.inl (G.2 1, n_28, .inl (upd f_29 x1.toNatClampNeg (f_29 x2.toNatClampNeg))))) q_37 = .inl (G.2 1, n_39, .inl f_40)) (z42 : q_37 ≠ 0) (i43 : vp_in x2 n_39) (q45 : m_44 = va_up (va_up m_22 q_26 (.inl (G.2 1, n_28, .inl (upd f_29 x1.toNatClampNeg (f_29 x2.toNatClampNeg))))) q_37 (.inl (G.2 1, n_39, .inl (upd f_40 x2.toNatClampNeg (f_29 x1.toNatClampNeg))))) (g47 : m_44 r0 = .inr (8, fs_46)) (v49 : fs_46[9]? = some (.ref q_48)) (a52 : m_44 q_48 = .inl (G.2 1, n_50, .inl f_51)) (z53 : q_48 ≠ 0) (i54 : vp_in x1 n_50) (i55 : vp_in x2 n_50) (i56 : vp_in x1 n_50) (g58 : (va_up m_44 q_48 (.inl (G.2 1, n_50, .inl (upd f_51 x1.toNatClampNeg (f_51 x2.toNatClampNeg))))) r0 = .inr (8, fs_57)) (v60 : fs_57[9]? = some (.ref q_59)) (a63 : (va_up m_44 q_48 (.inl (G.2 1, n_50, .inl (upd f_51 x1.toNatClampNeg (f_51 x2.toNatClampNeg))))) q_59 = .inl (G.2 1, n_61, .inl f_62)) (z64 : q_59 ≠ 0) (i65 : vp_in x2 n_61) (q67 : m_66 = va_up (va_up m_44 q_48 (.inl (G.2 1, n_50, .inl (upd f_51 x1.toNatClampNeg (f_51 x2.toNatClampNeg))))) q_59 (.inl (G.2 1, n_61, .inl (upd f_62 x2.toNatClampNeg (f_51 x1.toNatClampNeg))))) (g69 : m_66 r0 = .inr (8, fs_68)) (v71 : fs_68[10]? = some (.ref q_70)) (a74 : m_66 q_70 = .inl (G.2 1, n_72, .inl f_73)) (z75 : q_70 ≠ 0) (i76 : vp_in x1 n_72) (i77 : vp_in x2 n_72) (i78 : vp_in x1 n_72) (g80 : (va_up m_66 q_70 (.inl (G.2 1, n_72, .inl (upd f_73 x1.toNatClampNeg (f_73 x2.toNatClampNeg))))) r0 = .inr (8, fs_79)) (v82 : fs_79[10]? = some (.ref q_81)) (a85 : (va_up m_66 q_70 (.inl (G.2 1, n_72, .inl (upd f_73 x1.toNatClampNeg (f_73 x2.toNatClampNeg))))) q_81 = .inl (G.2 1, n_83, .inl f_84)) (z86 : q_81 ≠ 0) (i87 : vp_in x2 n_83) (q89 : m_88 = va_up (va_up m_66 q_70 (.inl (G.2 1, n_72, .inl (upd f_73 x1.toNatClampNeg (f_73 x2.toNatClampNeg))))) q_81 (.inl (G.2 1, n_83, .inl (upd f_84 x2.toNatClampNeg (f_73 x1.toNatClampNeg))))) (g91 : m_88 r0 = .inr (8, fs_90)) (v93 : fs_90[11]? = some (.ref q_92)) (a96 : m_88 q_92 = .inl (G.2 1, n_94, .inl f_95)) (z97 : q_92 ≠ 0) (i98 : vp_in x1 n_94) (i99 : vp_in x2 n_94) (i100 : vp_in x1 n_94) (g102 : (va_up m_88 q_92 (.inl (G.2 1, n_94, .inl (upd f_95 x1.toNatClampNeg (f_95 x2.toNatClampNeg))))) r0 = .inr (8, fs_101)) (v104 : fs_101[11]? = some (.ref q_103)) (a107 : (va_up m_88 q_92 (.inl (G.2 1, n_94, .inl (upd f_95 x1.toNatClampNeg (f_95 x2.toNatClampNeg))))) q_103 = .inl (G.2 1, n_105, .inl f_106)) (z108 : q_103 ≠ 0) (i109 : vp_in x2 n_105) (q111 : m_110 = va_up (va_up m_88 q_92 (.inl (G.2 1, n_94, .inl (upd f_95 x1.toNatClampNeg (f_95 x2.toNatClampNeg))))) q_103 (.inl (G.2 1, n_105, .inl (upd f_106 x2.toNatClampNeg (f_95 x1.toNatClampNeg))))) (g113 : m_110 r0 = .inr (8, fs_112)) (v115 : fs_112[12]? = some (.ref q_114)) (a118 : m_110 q_114 = .inl (G.2 1, n_116, .inl f_117)) (z119 : q_114 ≠ 0) (i120 : vp_in x1 n_116) (i121 : vp_in x2 n_116) (i122 : vp_in x1 n_116) (g124 : (va_up m_110 q_114 (.inl (G.2 1, n_116, .inl (upd f_117 x1.toNatClampNeg (f_117 x2.toNatClampNeg))))) r0 = .inr (8, fs_123)) (v126 : fs_123[12]? = some (.ref q_125)) (a129 : (va_up m_110 q_114 (.inl (G.2 1, n_116, .inl (upd f_117 x1.toNatClampNeg (f_117 x2.toNatClampNeg))))) q_125 = .inl (G.2 1, n_127, .inl f_128)) (z130 : q_125 ≠ 0) (i131 : vp_in x2 n_127) (q133 : m_132 = va_up (va_up m_110 q_114 (.inl (G.2 1, n_116, .inl (upd f_117 x1.toNatClampNeg (f_117 x2.toNatClampNeg))))) q_125 (.inl (G.2 1, n_127, .inl (upd f_128 x2.toNatClampNeg (f_117 x1.toNatClampNeg))))) (h134 : Q (.inl none) m_132) : mm_W l G k_M_swap 62 [(0, .ref r0), (1, .int x1), (2, .int x2)] [] b m Q := by
  refine mm_aload_n 0 (i := 0) d_M_swap_62 rfl rfl ?_
  refine mm_get cc_M 7 (by decide) w_750 d_M_swap_63 g2 z3 v5 ?_
  refine mm_iload_n 1 (i := 1) d_M_swap_66 rfl rfl ?_
  refine mm_iald d_M_swap_67 a8 z9 i10 ?_
  refine mm_istore_n (i := 3) d_M_swap_68 rfl (Nat.le_of_ble_eq_true rfl) (lv2 := [(3, .int (f_7 x1.toNatClampNeg)), (0, .ref r0), (1, .int x1), (2, .int x2)]) rfl ?_
  refine mm_aload_n 1 (i := 0) d_M_swap_69 rfl rfl ?_
  refine mm_get cc_M 7 (by decide) w_750 d_M_swap_70 g2 z3 v5 ?_
  refine mm_iload_n 2 (i := 1) d_M_swap_73 rfl rfl ?_
  refine mm_aload_n 1 (i := 0) d_M_swap_74 rfl rfl ?_
  refine mm_get cc_M 7 (by decide) w_750 d_M_swap_75 g2 z3 v5 ?_
  refine mm_iload_n 3 (i := 2) d_M_swap_78 rfl rfl ?_
  refine mm_iald d_M_swap_79 a8 z9 i11 ?_
  refine mm_iast d_M_swap_80 a8 z9 i12 ?_
  refine mm_aload_n 1 (i := 0) d_M_swap_81 rfl rfl ?_
  refine mm_get cc_M 7 (by decide) w_750 d_M_swap_82 g14 z3 v16 ?_
  refine mm_iload_n 3 (i := 2) d_M_swap_85 rfl rfl ?_
  refine mm_iload_n 0 (i := 3) d_M_swap_86 rfl rfl ?_
  refine mm_iast d_M_swap_87 a19 z20 i21 ?_
  refine mm_eqm q23 ?_
  refine mm_aload_n 1 (i := 0) d_M_swap_88 rfl rfl ?_
  refine mm_get cc_M 8 (by decide) w_751 d_M_swap_89 g25 z3 v27 ?_
  refine mm_iload_n 2 (i := 1) d_M_swap_92 rfl rfl ?_
  refine mm_iald d_M_swap_93 a30 z31 i32 ?_
  refine mm_istore_n (i := 3) d_M_swap_94 rfl (Nat.le_of_ble_eq_true rfl) (lv2 := [(3, .int (f_29 x1.toNatClampNeg)), (0, .ref r0), (1, .int x1), (2, .int x2)]) rfl ?_
  refine mm_aload_n 1 (i := 0) d_M_swap_95 rfl rfl ?_
  refine mm_get cc_M 8 (by decide) w_751 d_M_swap_96 g25 z3 v27 ?_
  refine mm_iload_n 2 (i := 1) d_M_swap_99 rfl rfl ?_
  refine mm_aload_n 1 (i := 0) d_M_swap_100 rfl rfl ?_
  refine mm_get cc_M 8 (by decide) w_751 d_M_swap_101 g25 z3 v27 ?_
  refine mm_iload_n 3 (i := 2) d_M_swap_104 rfl rfl ?_
  refine mm_iald d_M_swap_105 a30 z31 i33 ?_
  refine mm_iast d_M_swap_106 a30 z31 i34 ?_
  refine mm_aload_n 1 (i := 0) d_M_swap_107 rfl rfl ?_
  refine mm_get cc_M 8 (by decide) w_751 d_M_swap_108 g36 z3 v38 ?_
  refine mm_iload_n 3 (i := 2) d_M_swap_111 rfl rfl ?_
  refine mm_iload_n 0 (i := 3) d_M_swap_112 rfl rfl ?_
  refine mm_iast d_M_swap_113 a41 z42 i43 ?_
  refine mm_eqm q45 ?_
  refine mm_aload_n 1 (i := 0) d_M_swap_114 rfl rfl ?_
  refine mm_get cc_M 9 (by decide) w_752 d_M_swap_115 g47 z3 v49 ?_
  refine mm_iload_n 2 (i := 1) d_M_swap_118 rfl rfl ?_
  refine mm_iald d_M_swap_119 a52 z53 i54 ?_
  refine mm_istore_n (i := 3) d_M_swap_120 rfl (Nat.le_of_ble_eq_true rfl) (lv2 := [(3, .int (f_51 x1.toNatClampNeg)), (0, .ref r0), (1, .int x1), (2, .int x2)]) rfl ?_
  refine mm_aload_n 1 (i := 0) d_M_swap_121 rfl rfl ?_
  refine mm_get cc_M 9 (by decide) w_752 d_M_swap_122 g47 z3 v49 ?_
  refine mm_iload_n 2 (i := 1) d_M_swap_125 rfl rfl ?_
  refine mm_aload_n 1 (i := 0) d_M_swap_126 rfl rfl ?_
  refine mm_get cc_M 9 (by decide) w_752 d_M_swap_127 g47 z3 v49 ?_
  refine mm_iload_n 3 (i := 2) d_M_swap_130 rfl rfl ?_
  refine mm_iald d_M_swap_131 a52 z53 i55 ?_
  refine mm_iast d_M_swap_132 a52 z53 i56 ?_
  refine mm_aload_n 1 (i := 0) d_M_swap_133 rfl rfl ?_
  refine mm_get cc_M 9 (by decide) w_752 d_M_swap_134 g58 z3 v60 ?_
  refine mm_iload_n 3 (i := 2) d_M_swap_137 rfl rfl ?_
  refine mm_iload_n 0 (i := 3) d_M_swap_138 rfl rfl ?_
  refine mm_iast d_M_swap_139 a63 z64 i65 ?_
  refine mm_eqm q67 ?_
  refine mm_aload_n 1 (i := 0) d_M_swap_140 rfl rfl ?_
  refine mm_get cc_M 10 (by decide) w_753 d_M_swap_141 g69 z3 v71 ?_
  refine mm_iload_n 2 (i := 1) d_M_swap_144 rfl rfl ?_
  refine mm_iald d_M_swap_145 a74 z75 i76 ?_
  refine mm_istore_n (i := 3) d_M_swap_146 rfl (Nat.le_of_ble_eq_true rfl) (lv2 := [(3, .int (f_73 x1.toNatClampNeg)), (0, .ref r0), (1, .int x1), (2, .int x2)]) rfl ?_
  refine mm_aload_n 1 (i := 0) d_M_swap_147 rfl rfl ?_
  refine mm_get cc_M 10 (by decide) w_753 d_M_swap_148 g69 z3 v71 ?_
  refine mm_iload_n 2 (i := 1) d_M_swap_151 rfl rfl ?_
  refine mm_aload_n 1 (i := 0) d_M_swap_152 rfl rfl ?_
  refine mm_get cc_M 10 (by decide) w_753 d_M_swap_153 g69 z3 v71 ?_
  refine mm_iload_n 3 (i := 2) d_M_swap_156 rfl rfl ?_
  refine mm_iald d_M_swap_157 a74 z75 i77 ?_
  refine mm_iast d_M_swap_158 a74 z75 i78 ?_
  refine mm_aload_n 1 (i := 0) d_M_swap_159 rfl rfl ?_
  refine mm_get cc_M 10 (by decide) w_753 d_M_swap_160 g80 z3 v82 ?_
  refine mm_iload_n 3 (i := 2) d_M_swap_163 rfl rfl ?_
  refine mm_iload_n 0 (i := 3) d_M_swap_164 rfl rfl ?_
  refine mm_iast d_M_swap_165 a85 z86 i87 ?_
  refine mm_eqm q89 ?_
  refine mm_aload_n 1 (i := 0) d_M_swap_166 rfl rfl ?_
  refine mm_get cc_M 11 (by decide) w_754 d_M_swap_167 g91 z3 v93 ?_
  refine mm_iload_n 2 (i := 1) d_M_swap_170 rfl rfl ?_
  refine mm_iald d_M_swap_171 a96 z97 i98 ?_
  refine mm_istore_n (i := 3) d_M_swap_172 rfl (Nat.le_of_ble_eq_true rfl) (lv2 := [(3, .int (f_95 x1.toNatClampNeg)), (0, .ref r0), (1, .int x1), (2, .int x2)]) rfl ?_
  refine mm_aload_n 1 (i := 0) d_M_swap_173 rfl rfl ?_
  refine mm_get cc_M 11 (by decide) w_754 d_M_swap_174 g91 z3 v93 ?_
  refine mm_iload_n 2 (i := 1) d_M_swap_177 rfl rfl ?_
  refine mm_aload_n 1 (i := 0) d_M_swap_178 rfl rfl ?_
  refine mm_get cc_M 11 (by decide) w_754 d_M_swap_179 g91 z3 v93 ?_
  refine mm_iload_n 3 (i := 2) d_M_swap_182 rfl rfl ?_
  refine mm_iald d_M_swap_183 a96 z97 i99 ?_
  refine mm_iast d_M_swap_184 a96 z97 i100 ?_
  refine mm_aload_n 1 (i := 0) d_M_swap_185 rfl rfl ?_
  refine mm_get cc_M 11 (by decide) w_754 d_M_swap_186 g102 z3 v104 ?_
  refine mm_iload_n 3 (i := 2) d_M_swap_189 rfl rfl ?_
  refine mm_iload_n 0 (i := 3) d_M_swap_190 rfl rfl ?_
  refine mm_iast d_M_swap_191 a107 z108 i109 ?_
  refine mm_eqm q111 ?_
  refine mm_aload_n 1 (i := 0) d_M_swap_192 rfl rfl ?_
  refine mm_get cc_M 12 (by decide) w_755 d_M_swap_193 g113 z3 v115 ?_
  refine mm_iload_n 2 (i := 1) d_M_swap_196 rfl rfl ?_
  refine mm_iald d_M_swap_197 a118 z119 i120 ?_
  refine mm_istore_n (i := 3) d_M_swap_198 rfl (Nat.le_of_ble_eq_true rfl) (lv2 := [(3, .int (f_117 x1.toNatClampNeg)), (0, .ref r0), (1, .int x1), (2, .int x2)]) rfl ?_
  refine mm_aload_n 1 (i := 0) d_M_swap_199 rfl rfl ?_
  refine mm_get cc_M 12 (by decide) w_755 d_M_swap_200 g113 z3 v115 ?_
  refine mm_iload_n 2 (i := 1) d_M_swap_203 rfl rfl ?_
  refine mm_aload_n 1 (i := 0) d_M_swap_204 rfl rfl ?_
  refine mm_get cc_M 12 (by decide) w_755 d_M_swap_205 g113 z3 v115 ?_
  refine mm_iload_n 3 (i := 2) d_M_swap_208 rfl rfl ?_
  refine mm_iald d_M_swap_209 a118 z119 i121 ?_
  refine mm_iast d_M_swap_210 a118 z119 i122 ?_
  refine mm_aload_n 1 (i := 0) d_M_swap_211 rfl rfl ?_
  refine mm_get cc_M 12 (by decide) w_755 d_M_swap_212 g124 z3 v126 ?_
  refine mm_iload_n 3 (i := 2) d_M_swap_215 rfl rfl ?_
  refine mm_iload_n 0 (i := 3) d_M_swap_216 rfl rfl ?_
  refine mm_iast d_M_swap_217 a129 z130 i131 ?_
  refine mm_eqm q133 ?_
  exact mm_vret d_M_swap_218 rfl h134
theorem t_M_move_0 {l : Launch} {G : mm_G} {b : Nat} {m : mm_Mem} {Q : mm_O → mm_Mem → Prop} {r0 : Nat} {x1 : Int32} {x2 : Int32} {b_1 : Nat} {b_2 : Nat} {m_4 : mm_Mem} {x_5 : Int32} {fs_6 : List Value} (hb3 : b_1 + b_2 ≤ b) (g7 : m r0 = .inr (8, fs_6)) (z8 : r0 ≠ 0) (M9 : mm_W l G k_M_noEntry 0 (lv_args 0 [.ref r0, .int x1]) [] b_1 m (mm_is (.inl (some (.int x_5))) m_4)) (h10 : (¬ x_5 = 0) → mm_W l G k_M_move 17 [(0, .ref r0), (1, .int x1), (2, .int x2)] [.ref r0] b_2 m_4 Q) (h11 : (x_5 = 0) → mm_W l G k_M_move 9 [(0, .ref r0), (1, .int x1), (2, .int x2)] [.ref r0] b_2 m_4 Q) : mm_W l G k_M_move 0 [(0, .ref r0), (1, .int x1), (2, .int x2)] [] b m Q := by
  refine mm_aload_n 0 (i := 0) d_M_move_0 rfl rfl ?_
  refine mm_aload_n 0 (i := 0) d_M_move_1 rfl rfl ?_
  refine mm_iload_n 1 (i := 1) d_M_move_2 rfl rfl ?_
  refine mm_callV (as := [.int x1]) (st := [.ref r0]) (b2 := b_2) ca_M_noEntry w_904 w_906 v_M_noEntry cc_M.1 rfl d_M_move_3 rfl (Nat.le_of_ble_eq_true rfl) (Nat.le_of_ble_eq_true rfl) (Nat.le_of_ble_eq_true rfl) hb3 g7 z8 M9 (fun E _ ⟨c, _⟩ => nomatch c) (fun v _ ⟨c, e⟩ => ?_)
  cases c
  rw [e]
  show mm_W l G k_M_move 6 [(0, .ref r0), (1, .int x1), (2, .int x2)] [.int x_5, .ref r0] b_2 m_4 Q
  exact mm_if_ne (tgt := 17) d_M_move_6 (by decide) (fun c => mm_sub [0, 1, 2] rfl (h10 c)) (fun c => mm_sub [0, 1, 2] rfl (h11 c))
theorem t_M_move_9 {l : Launch} {G : mm_G} {b : Nat} {m : mm_Mem} {Q : mm_O → mm_Mem → Prop} {r0 : Nat} {x1 : Int32} {x2 : Int32} {rs0 : Nat} {b_1 : Nat} {b_2 : Nat} {m_4 : mm_Mem} {x_5 : Int32} {fs_6 : List Value} (hb3 : b_1 + b_2 ≤ b) (g7 : m r0 = .inr (8, fs_6)) (z8 : r0 ≠ 0) (M9 : mm_W l G k_M_noEntry 0 (lv_args 0 [.ref r0, .int x2]) [] b_1 m (mm_is (.inl (some (.int x_5))) m_4)) (h10 : (x_5 = 0) → mm_W l G k_M_move 21 [(0, .ref r0), (1, .int x1), (2, .int x2)] [.ref rs0] b_2 m_4 Q) (h11 : (¬ x_5 = 0) → mm_W l G k_M_move 17 [(0, .ref r0), (1, .int x1), (2, .int x2)] [.ref rs0] b_2 m_4 Q) : mm_W l G k_M_move 9 [(0, .ref r0), (1, .int x1), (2, .int x2)] [.ref rs0] b m Q := by
  refine mm_aload_n 0 (i := 0) d_M_move_9 rfl rfl ?_
  refine mm_iload_n 2 (i := 2) d_M_move_10 rfl rfl ?_
  refine mm_callV (as := [.int x2]) (st := [.ref rs0]) (b2 := b_2) ca_M_noEntry w_904 w_906 v_M_noEntry cc_M.1 rfl d_M_move_11 rfl (Nat.le_of_ble_eq_true rfl) (Nat.le_of_ble_eq_true rfl) (Nat.le_of_ble_eq_true rfl) hb3 g7 z8 M9 (fun E _ ⟨c, _⟩ => nomatch c) (fun v _ ⟨c, e⟩ => ?_)
  cases c
  rw [e]
  show mm_W l G k_M_move 14 [(0, .ref r0), (1, .int x1), (2, .int x2)] [.int x_5, .ref rs0] b_2 m_4 Q
  exact mm_if_eq (tgt := 21) d_M_move_14 (by decide) (fun c => mm_sub [0, 1, 2] rfl (h10 c)) (fun c => mm_sub [0, 1, 2] rfl (h11 c))
theorem t_M_move_17 {l : Launch} {G : mm_G} {b : Nat} {m : mm_Mem} {Q : mm_O → mm_Mem → Prop} {r0 : Nat} {x1 : Int32} {x2 : Int32} {rs0 : Nat} (h1 : mm_W l G k_M_move 22 [(0, .ref r0), (1, .int x1), (2, .int x2)] [.int 1, .ref rs0] b m Q) : mm_W l G k_M_move 17 [(0, .ref r0), (1, .int x1), (2, .int x2)] [.ref rs0] b m Q := by
  refine mm_iconst d_M_move_17 (v := 1) (by decide) ?_
  refine mm_goto (tgt := 22) d_M_move_18 (by decide) ?_
  exact mm_sub [0, 1, 2] rfl h1
theorem t_M_move_21 {l : Launch} {G : mm_G} {b : Nat} {m : mm_Mem} {Q : mm_O → mm_Mem → Prop} {r0 : Nat} {x1 : Int32} {x2 : Int32} {rs0 : Nat} (h1 : mm_W l G k_M_move 22 [(0, .ref r0), (1, .int x1), (2, .int x2)] [.int 0, .ref rs0] b m Q) : mm_W l G k_M_move 21 [(0, .ref r0), (1, .int x1), (2, .int x2)] [.ref rs0] b m Q := by
  refine mm_iconst d_M_move_21 (v := 0) (by decide) ?_
  exact mm_sub [0, 1, 2] rfl h1
theorem t_M_move_22 {l : Launch} {G : mm_G} {b : Nat} {m : mm_Mem} {Q : mm_O → mm_Mem → Prop} {r0 : Nat} {x1 : Int32} {x2 : Int32} {xs0 : Int32} {rs1 : Nat} {fs_1 : List Value} {fs_5 : List Value} {u_8 : Int32} (g2 : m rs1 = .inr (8, fs_1)) (z3 : rs1 ≠ 0) (l4 : 0 < fs_1.length) (g6 : (va_up m rs1 (.inr (8, fs_1.set 0 (.int xs0)))) r0 = .inr (8, fs_5)) (z7 : r0 ≠ 0) (v9 : fs_5[0]? = some (.int u_8)) (h10 : (u_8 ≤ 0) → mm_W l G k_M_move 33 [(0, .ref r0), (1, .int x1), (2, .int x2)] [] b (va_up m rs1 (.inr (8, fs_1.set 0 (.int xs0)))) Q) (h11 : (¬ u_8 ≤ 0) → mm_W l G k_M_move 32 [] [] b (va_up m rs1 (.inr (8, fs_1.set 0 (.int xs0)))) Q) : mm_W l G k_M_move 22 [(0, .ref r0), (1, .int x1), (2, .int x2)] [.int xs0, .ref rs1] b m Q := by
  refine mm_putf cc_M 0 (by decide) w_743 d_M_move_22 rfl (fun _ => rfl) (fun _ => rfl) g2 z3 l4 ?_
  refine mm_aload_n 0 (i := 0) d_M_move_25 rfl rfl ?_
  refine mm_get cc_M 0 (by decide) w_743 d_M_move_26 g6 z7 v9 ?_
  exact mm_if_le (tgt := 33) d_M_move_29 (by decide) (fun c => mm_sub [0, 1, 2] rfl (h10 c)) (fun c => mm_sub [] rfl (h11 c))
theorem t_M_move_32 {l : Launch} {G : mm_G} {b : Nat} {m : mm_Mem} {Q : mm_O → mm_Mem → Prop}  (h1 : Q (.inl none) m) : mm_W l G k_M_move 32 [] [] b m Q := by
  exact mm_vret d_M_move_32 rfl h1
theorem t_M_move_33 {l : Launch} {G : mm_G} {b : Nat} {m : mm_Mem} {Q : mm_O → mm_Mem → Prop} {r0 : Nat} {x1 : Int32} {x2 : Int32} (h1 : mm_W l G k_M_move 35 [(0, .ref r0), (2, .int x2), (3, .int x1)] [] b m Q) : mm_W l G k_M_move 33 [(0, .ref r0), (1, .int x1), (2, .int x2)] [] b m Q := by
  refine mm_iload_n 1 (i := 1) d_M_move_33 rfl rfl ?_
  refine mm_istore_n (i := 3) d_M_move_34 rfl (Nat.le_of_ble_eq_true rfl) (lv2 := [(3, .int x1), (0, .ref r0), (1, .int x1), (2, .int x2)]) rfl ?_
  exact mm_sub [1, 3, 0] rfl h1
theorem t_M_move_35 {l : Launch} {G : mm_G} {b : Nat} {m : mm_Mem} {Q : mm_O → mm_Mem → Prop} {r0 : Nat} {x2 : Int32} {x3 : Int32} (h1 : (x3 = x2) → mm_W l G k_M_move 69 [] [] b m Q) (h2 : (¬ x3 = x2) → mm_W l G k_M_move 40 [(0, .ref r0), (2, .int x2), (3, .int x3)] [] b m Q) : mm_W l G k_M_move 35 [(0, .ref r0), (2, .int x2), (3, .int x3)] [] b m Q := by
  refine mm_iload_n 2 (i := 3) d_M_move_35 rfl rfl ?_
  refine mm_iload_n 1 (i := 2) d_M_move_36 rfl rfl ?_
  exact mm_icmp_eq (tgt := 69) d_M_move_37 (by decide) (fun c => mm_sub [] rfl (h1 c)) (fun c => mm_sub [0, 1, 2] rfl (h2 c))
theorem t_M_move_40 {l : Launch} {G : mm_G} {b : Nat} {m : mm_Mem} {Q : mm_O → mm_Mem → Prop} {r0 : Nat} {x2 : Int32} {x3 : Int32} (h1 : (x2 ≤ x3) → mm_W l G k_M_move 51 [(0, .ref r0), (2, .int x2), (3, .int x3)] [] b m Q) (h2 : (¬ x2 ≤ x3) → mm_W l G k_M_move 45 [(0, .ref r0), (2, .int x2), (3, .int x3)] [] b m Q) : mm_W l G k_M_move 40 [(0, .ref r0), (2, .int x2), (3, .int x3)] [] b m Q := by
  refine mm_iload_n 2 (i := 3) d_M_move_40 rfl rfl ?_
  refine mm_iload_n 1 (i := 2) d_M_move_41 rfl rfl ?_
  exact mm_icmp_ge (tgt := 51) d_M_move_42 (by decide) (fun c => mm_sub [0, 1, 2] rfl (h1 c)) (fun c => mm_sub [0, 1, 2] rfl (h2 c))
theorem t_M_move_45 {l : Launch} {G : mm_G} {b : Nat} {m : mm_Mem} {Q : mm_O → mm_Mem → Prop} {r0 : Nat} {x2 : Int32} {x3 : Int32} (h1 : mm_W l G k_M_move 54 [(0, .ref r0), (2, .int x2), (3, .int x3)] [.int (x3 + 1)] b m Q) : mm_W l G k_M_move 45 [(0, .ref r0), (2, .int x2), (3, .int x3)] [] b m Q := by
  refine mm_iload_n 2 (i := 3) d_M_move_45 rfl rfl ?_
  refine mm_iconst d_M_move_46 (v := 1) (by decide) ?_
  refine mm_iadd d_M_move_47 ?_
  refine mm_goto (tgt := 54) d_M_move_48 (by decide) ?_
  exact mm_sub [0, 1, 2] rfl h1
theorem t_M_move_51 {l : Launch} {G : mm_G} {b : Nat} {m : mm_Mem} {Q : mm_O → mm_Mem → Prop} {r0 : Nat} {x2 : Int32} {x3 : Int32} (h1 : mm_W l G k_M_move 54 [(0, .ref r0), (2, .int x2), (3, .int x3)] [.int (x3 - 1)] b m Q) : mm_W l G k_M_move 51 [(0, .ref r0), (2, .int x2), (3, .int x3)] [] b m Q := by
  refine mm_iload_n 2 (i := 3) d_M_move_51 rfl rfl ?_
  refine mm_iconst d_M_move_52 (v := 1) (by decide) ?_
  refine mm_isub d_M_move_53 ?_
  exact mm_sub [0, 1, 2] rfl h1
theorem t_M_move_54 {l : Launch} {G : mm_G} {b : Nat} {m : mm_Mem} {Q : mm_O → mm_Mem → Prop} {r0 : Nat} {x2 : Int32} {x3 : Int32} {xs0 : Int32} {b_1 : Nat} {b_2 : Nat} {P_4 : mm_O → mm_Mem → Prop} {fs_5 : List Value} (hb3 : b_1 + b_2 ≤ b) (g6 : m r0 = .inr (8, fs_5)) (z7 : r0 ≠ 0) (M8 : mm_W l G k_M_swap 0 (lv_args 0 [.ref r0, .int x3, .int xs0]) [] b_1 m P_4) (hx9 : ∀ (E : String) (n_2 : mm_Mem), ¬ P_4 (.inr E) n_2) (h10 : ∀ (v : Option Value) (n_2 : mm_Mem), P_4 (.inl v) n_2 → v = none ∧ mm_W l G k_M_move 63 [(0, .ref r0), (2, .int x2), (4, .int xs0)] [] b_2 n_2 Q) : mm_W l G k_M_move 54 [(0, .ref r0), (2, .int x2), (3, .int x3)] [.int xs0] b m Q := by
  refine mm_istore (i := 4) d_M_move_54 (Nat.le_of_ble_eq_true rfl) (lv2 := [(4, .int xs0), (0, .ref r0), (2, .int x2), (3, .int x3)]) rfl ?_
  refine mm_aload_n 1 (i := 0) d_M_move_56 rfl rfl ?_
  refine mm_iload_n 3 (i := 3) d_M_move_57 rfl rfl ?_
  refine mm_iload 0 (i := 4) d_M_move_58 rfl ?_
  refine mm_callV (as := [.int x3, .int xs0]) (st := []) (b2 := b_2) ca_M_swap w_920 w_922 v_M_swap cc_M.1 rfl d_M_move_60 rfl (Nat.le_of_ble_eq_true rfl) (Nat.le_of_ble_eq_true rfl) (Nat.le_of_ble_eq_true rfl) hb3 g6 z7 M8 (fun E m2 q => absurd q (hx9 E m2)) (fun v m2 q => ?_)
  obtain ⟨rfl, z9⟩ := h10 v m2 q
  exact mm_sub [1, 2, 0] rfl z9
theorem t_M_move_63 {l : Launch} {G : mm_G} {b : Nat} {m : mm_Mem} {Q : mm_O → mm_Mem → Prop} {r0 : Nat} {x2 : Int32} {x4 : Int32} (h1 : mm_W l G k_M_move 35 [(0, .ref r0), (2, .int x2), (3, .int x4)] [] b m Q) : mm_W l G k_M_move 63 [(0, .ref r0), (2, .int x2), (4, .int x4)] [] b m Q := by
  refine mm_iload 2 (i := 4) d_M_move_63 rfl ?_
  refine mm_istore_n (i := 3) d_M_move_65 rfl (Nat.le_of_ble_eq_true rfl) (lv2 := [(3, .int x4), (0, .ref r0), (2, .int x2), (4, .int x4)]) rfl ?_
  refine mm_goto (tgt := 35) d_M_move_66 (by decide) ?_
  exact mm_sub [1, 2, 0] rfl h1
theorem t_M_move_69 {l : Launch} {G : mm_G} {b : Nat} {m : mm_Mem} {Q : mm_O → mm_Mem → Prop}  (h1 : Q (.inl none) m) : mm_W l G k_M_move 69 [] [] b m Q := by
  exact mm_vret d_M_move_69 rfl h1
theorem t_M_find_0 {l : Launch} {G : mm_G} {b : Nat} {m : mm_Mem} {Q : mm_O → mm_Mem → Prop} {r0 : Nat} {fs_1 : List Value} {b_5 : Nat} {b_6 : Nat} {m_8 : mm_Mem} {x_9 : Int32} {fs_10 : List Value} (g2 : m r0 = .inr (8, fs_1)) (z3 : r0 ≠ 0) (l4 : 0 < fs_1.length) (hb7 : b_5 + b_6 ≤ b) (g11 : (va_up m r0 (.inr (8, fs_1.set 0 (.int 0)))) r0 = .inr (8, fs_10)) (M12 : mm_W l G k_M_findName 0 (lv_args 0 [.ref r0]) [] b_5 (va_up m r0 (.inr (8, fs_1.set 0 (.int 0)))) (mm_is (.inl (some (.int x_9))) m_8)) (h13 : Q (.inl (some (.int x_9))) m_8) : mm_W l G k_M_find 0 [(0, .ref r0)] [] b m Q := by
  refine mm_aload_n 0 (i := 0) d_M_find_0 rfl rfl ?_
  refine mm_iconst d_M_find_1 (v := 0) (by decide) ?_
  refine mm_putf cc_M 0 (by decide) w_743 d_M_find_2 rfl (fun _ => rfl) (fun _ => rfl) g2 z3 l4 ?_
  refine mm_aload_n 0 (i := 0) d_M_find_5 rfl rfl ?_
  refine mm_callV (as := []) (st := []) (b2 := b_6) ca_M_findName w_881 w_883 v_M_findName cc_M.1 rfl d_M_find_6 rfl (Nat.le_of_ble_eq_true rfl) (Nat.le_of_ble_eq_true rfl) (Nat.le_of_ble_eq_true rfl) hb7 g11 z3 M12 (fun E _ ⟨c, _⟩ => nomatch c) (fun v _ ⟨c, e⟩ => ?_)
  cases c
  rw [e]
  show mm_W l G k_M_find 9 [(0, .ref r0)] [.int x_9] b_6 m_8 Q
  exact mm_iret d_M_find_9 rfl h13
theorem t_M_about_0 {l : Launch} {G : mm_G} {b : Nat} {m : mm_Mem} {Q : mm_O → mm_Mem → Prop} {r0 : Nat} {x1 : Int32} {x2 : Int32} {b_1 : Nat} {b_2 : Nat} {m_4 : mm_Mem} {x_5 : Int32} {fs_6 : List Value} (hb3 : b_1 + b_2 ≤ b) (g7 : m r0 = .inr (8, fs_6)) (z8 : r0 ≠ 0) (M9 : mm_W l G k_M_noEntry 0 (lv_args 0 [.ref r0, .int x1]) [] b_1 m (mm_is (.inl (some (.int x_5))) m_4)) (h10 : (x_5 = 0) → mm_W l G k_M_about 13 [(0, .ref r0), (1, .int x1), (2, .int x2)] [.ref r0] b_2 m_4 Q) (h11 : (¬ x_5 = 0) → mm_W l G k_M_about 9 [(0, .ref r0), (1, .int x1), (2, .int x2)] [.ref r0] b_2 m_4 Q) : mm_W l G k_M_about 0 [(0, .ref r0), (1, .int x1), (2, .int x2)] [] b m Q := by
  refine mm_aload_n 0 (i := 0) d_M_about_0 rfl rfl ?_
  refine mm_aload_n 0 (i := 0) d_M_about_1 rfl rfl ?_
  refine mm_iload_n 1 (i := 1) d_M_about_2 rfl rfl ?_
  refine mm_callV (as := [.int x1]) (st := [.ref r0]) (b2 := b_2) ca_M_noEntry w_904 w_906 v_M_noEntry cc_M.1 rfl d_M_about_3 rfl (Nat.le_of_ble_eq_true rfl) (Nat.le_of_ble_eq_true rfl) (Nat.le_of_ble_eq_true rfl) hb3 g7 z8 M9 (fun E _ ⟨c, _⟩ => nomatch c) (fun v _ ⟨c, e⟩ => ?_)
  cases c
  rw [e]
  show mm_W l G k_M_about 6 [(0, .ref r0), (1, .int x1), (2, .int x2)] [.int x_5, .ref r0] b_2 m_4 Q
  exact mm_if_eq (tgt := 13) d_M_about_6 (by decide) (fun c => mm_sub [0, 1, 2] rfl (h10 c)) (fun c => mm_sub [0, 1, 2] rfl (h11 c))
theorem t_M_about_9 {l : Launch} {G : mm_G} {b : Nat} {m : mm_Mem} {Q : mm_O → mm_Mem → Prop} {r0 : Nat} {x1 : Int32} {x2 : Int32} {rs0 : Nat} (h1 : mm_W l G k_M_about 27 [(0, .ref r0), (1, .int x1), (2, .int x2)] [.int 1, .ref rs0] b m Q) : mm_W l G k_M_about 9 [(0, .ref r0), (1, .int x1), (2, .int x2)] [.ref rs0] b m Q := by
  refine mm_iconst d_M_about_9 (v := 1) (by decide) ?_
  refine mm_goto (tgt := 27) d_M_about_10 (by decide) ?_
  exact mm_sub [0, 1, 2] rfl h1
theorem t_M_about_13 {l : Launch} {G : mm_G} {b : Nat} {m : mm_Mem} {Q : mm_O → mm_Mem → Prop} {r0 : Nat} {x1 : Int32} {x2 : Int32} {rs0 : Nat} (h1 : (x2 < 0) → mm_W l G k_M_about 22 [(0, .ref r0), (1, .int x1), (2, .int x2)] [.ref rs0] b m Q) (h2 : (¬ x2 < 0) → mm_W l G k_M_about 17 [(0, .ref r0), (1, .int x1), (2, .int x2)] [.ref rs0] b m Q) : mm_W l G k_M_about 13 [(0, .ref r0), (1, .int x1), (2, .int x2)] [.ref rs0] b m Q := by
  refine mm_iload_n 2 (i := 2) d_M_about_13 rfl rfl ?_
  exact mm_if_lt (tgt := 22) d_M_about_14 (by decide) (fun c => mm_sub [0, 1, 2] rfl (h1 c)) (fun c => mm_sub [0, 1, 2] rfl (h2 c))
theorem t_M_about_17 {l : Launch} {G : mm_G} {b : Nat} {m : mm_Mem} {Q : mm_O → mm_Mem → Prop} {r0 : Nat} {x1 : Int32} {x2 : Int32} {rs0 : Nat} (h1 : (x2 ≤ 4) → mm_W l G k_M_about 26 [(0, .ref r0), (1, .int x1), (2, .int x2)] [.ref rs0] b m Q) (h2 : (¬ x2 ≤ 4) → mm_W l G k_M_about 22 [(0, .ref r0), (1, .int x1), (2, .int x2)] [.ref rs0] b m Q) : mm_W l G k_M_about 17 [(0, .ref r0), (1, .int x1), (2, .int x2)] [.ref rs0] b m Q := by
  refine mm_iload_n 2 (i := 2) d_M_about_17 rfl rfl ?_
  refine mm_iconst d_M_about_18 (v := 4) (by decide) ?_
  exact mm_icmp_le (tgt := 26) d_M_about_19 (by decide) (fun c => mm_sub [0, 1, 2] rfl (h1 c)) (fun c => mm_sub [0, 1, 2] rfl (h2 c))
theorem t_M_about_22 {l : Launch} {G : mm_G} {b : Nat} {m : mm_Mem} {Q : mm_O → mm_Mem → Prop} {r0 : Nat} {x1 : Int32} {x2 : Int32} {rs0 : Nat} (h1 : mm_W l G k_M_about 27 [(0, .ref r0), (1, .int x1), (2, .int x2)] [.int 2, .ref rs0] b m Q) : mm_W l G k_M_about 22 [(0, .ref r0), (1, .int x1), (2, .int x2)] [.ref rs0] b m Q := by
  refine mm_iconst d_M_about_22 (v := 2) (by decide) ?_
  refine mm_goto (tgt := 27) d_M_about_23 (by decide) ?_
  exact mm_sub [0, 1, 2] rfl h1
theorem t_M_about_26 {l : Launch} {G : mm_G} {b : Nat} {m : mm_Mem} {Q : mm_O → mm_Mem → Prop} {r0 : Nat} {x1 : Int32} {x2 : Int32} {rs0 : Nat} (h1 : mm_W l G k_M_about 27 [(0, .ref r0), (1, .int x1), (2, .int x2)] [.int 0, .ref rs0] b m Q) : mm_W l G k_M_about 26 [(0, .ref r0), (1, .int x1), (2, .int x2)] [.ref rs0] b m Q := by
  refine mm_iconst d_M_about_26 (v := 0) (by decide) ?_
  exact mm_sub [0, 1, 2] rfl h1
theorem t_M_about_27 {l : Launch} {G : mm_G} {b : Nat} {m : mm_Mem} {Q : mm_O → mm_Mem → Prop} {r0 : Nat} {x1 : Int32} {x2 : Int32} {xs0 : Int32} {rs1 : Nat} {fs_1 : List Value} {fs_5 : List Value} {u_8 : Int32} (g2 : m rs1 = .inr (8, fs_1)) (z3 : rs1 ≠ 0) (l4 : 0 < fs_1.length) (g6 : (va_up m rs1 (.inr (8, fs_1.set 0 (.int xs0)))) r0 = .inr (8, fs_5)) (z7 : r0 ≠ 0) (v9 : fs_5[0]? = some (.int u_8)) (h10 : (u_8 ≤ 0) → mm_W l G k_M_about 39 [(0, .ref r0), (1, .int x1), (2, .int x2)] [] b (va_up m rs1 (.inr (8, fs_1.set 0 (.int xs0)))) Q) (h11 : (¬ u_8 ≤ 0) → mm_W l G k_M_about 37 [] [] b (va_up m rs1 (.inr (8, fs_1.set 0 (.int xs0)))) Q) : mm_W l G k_M_about 27 [(0, .ref r0), (1, .int x1), (2, .int x2)] [.int xs0, .ref rs1] b m Q := by
  refine mm_putf cc_M 0 (by decide) w_743 d_M_about_27 rfl (fun _ => rfl) (fun _ => rfl) g2 z3 l4 ?_
  refine mm_aload_n 0 (i := 0) d_M_about_30 rfl rfl ?_
  refine mm_get cc_M 0 (by decide) w_743 d_M_about_31 g6 z7 v9 ?_
  exact mm_if_le (tgt := 39) d_M_about_34 (by decide) (fun c => mm_sub [0, 1, 2] rfl (h10 c)) (fun c => mm_sub [] rfl (h11 c))
theorem t_M_about_37 {l : Launch} {G : mm_G} {b : Nat} {m : mm_Mem} {Q : mm_O → mm_Mem → Prop}  (h1 : Q (.inl (some (.int 0))) m) : mm_W l G k_M_about 37 [] [] b m Q := by
  refine mm_iconst d_M_about_37 (v := 0) (by decide) ?_
  exact mm_iret d_M_about_38 rfl h1
theorem t_M_about_39 {l : Launch} {G : mm_G} {b : Nat} {m : mm_Mem} {Q : mm_O → mm_Mem → Prop} {r0 : Nat} {x1 : Int32} {x2 : Int32} (h1 : (¬ x2 = 0) → mm_W l G k_M_about 52 [(0, .ref r0), (1, .int x1), (2, .int x2)] [] b m Q) (h2 : (x2 = 0) → mm_W l G k_M_about 43 [(0, .ref r0), (1, .int x1)] [] b m Q) : mm_W l G k_M_about 39 [(0, .ref r0), (1, .int x1), (2, .int x2)] [] b m Q := by
  refine mm_iload_n 2 (i := 2) d_M_about_39 rfl rfl ?_
  exact mm_if_ne (tgt := 52) d_M_about_40 (by decide) (fun c => mm_sub [0, 1, 2] rfl (h1 c)) (fun c => mm_sub [0, 1] rfl (h2 c))
theorem t_M_about_43 {l : Launch} {G : mm_G} {b : Nat} {m : mm_Mem} {Q : mm_O → mm_Mem → Prop} {r0 : Nat} {x1 : Int32} {fs_1 : List Value} {q_4 : Nat} {n_6 : Nat} {f_7 : Nat → Int32} (g2 : m r0 = .inr (8, fs_1)) (z3 : r0 ≠ 0) (v5 : fs_1[8]? = some (.ref q_4)) (a8 : m q_4 = .inl (G.2 1, n_6, .inl f_7)) (z9 : q_4 ≠ 0) (i10 : vp_in x1 n_6) (h11 : mm_W l G k_M_about 100 [] [.int (f_7 x1.toNatClampNeg)] b m Q) : mm_W l G k_M_about 43 [(0, .ref r0), (1, .int x1)] [] b m Q := by
  refine mm_aload_n 0 (i := 0) d_M_about_43 rfl rfl ?_
  refine mm_get cc_M 8 (by decide) w_751 d_M_about_44 g2 z3 v5 ?_
  refine mm_iload_n 1 (i := 1) d_M_about_47 rfl rfl ?_
  refine mm_iald d_M_about_48 a8 z9 i10 ?_
  refine mm_goto (tgt := 100) d_M_about_49 (by decide) ?_
  exact mm_sub [] rfl h11
theorem t_M_about_52 {l : Launch} {G : mm_G} {b : Nat} {m : mm_Mem} {Q : mm_O → mm_Mem → Prop} {r0 : Nat} {x1 : Int32} {x2 : Int32} (h1 : (¬ x2 = 1) → mm_W l G k_M_about 66 [(0, .ref r0), (1, .int x1), (2, .int x2)] [] b m Q) (h2 : (x2 = 1) → mm_W l G k_M_about 57 [(0, .ref r0), (1, .int x1)] [] b m Q) : mm_W l G k_M_about 52 [(0, .ref r0), (1, .int x1), (2, .int x2)] [] b m Q := by
  refine mm_iload_n 2 (i := 2) d_M_about_52 rfl rfl ?_
  refine mm_iconst d_M_about_53 (v := 1) (by decide) ?_
  exact mm_icmp_ne (tgt := 66) d_M_about_54 (by decide) (fun c => mm_sub [0, 1, 2] rfl (h1 c)) (fun c => mm_sub [0, 1] rfl (h2 c))
theorem t_M_about_57 {l : Launch} {G : mm_G} {b : Nat} {m : mm_Mem} {Q : mm_O → mm_Mem → Prop} {r0 : Nat} {x1 : Int32} {fs_1 : List Value} {q_4 : Nat} {n_6 : Nat} {f_7 : Nat → Int32} (g2 : m r0 = .inr (8, fs_1)) (z3 : r0 ≠ 0) (v5 : fs_1[10]? = some (.ref q_4)) (a8 : m q_4 = .inl (G.2 1, n_6, .inl f_7)) (z9 : q_4 ≠ 0) (i10 : vp_in x1 n_6) (h11 : mm_W l G k_M_about 100 [] [.int (f_7 x1.toNatClampNeg)] b m Q) : mm_W l G k_M_about 57 [(0, .ref r0), (1, .int x1)] [] b m Q := by
  refine mm_aload_n 0 (i := 0) d_M_about_57 rfl rfl ?_
  refine mm_get cc_M 10 (by decide) w_753 d_M_about_58 g2 z3 v5 ?_
  refine mm_iload_n 1 (i := 1) d_M_about_61 rfl rfl ?_
  refine mm_iald d_M_about_62 a8 z9 i10 ?_
  refine mm_goto (tgt := 100) d_M_about_63 (by decide) ?_
  exact mm_sub [] rfl h11
theorem t_M_about_66 {l : Launch} {G : mm_G} {b : Nat} {m : mm_Mem} {Q : mm_O → mm_Mem → Prop} {r0 : Nat} {x1 : Int32} {x2 : Int32} (h1 : (¬ x2 = 2) → mm_W l G k_M_about 80 [(0, .ref r0), (1, .int x1), (2, .int x2)] [] b m Q) (h2 : (x2 = 2) → mm_W l G k_M_about 71 [(0, .ref r0), (1, .int x1)] [] b m Q) : mm_W l G k_M_about 66 [(0, .ref r0), (1, .int x1), (2, .int x2)] [] b m Q := by
  refine mm_iload_n 2 (i := 2) d_M_about_66 rfl rfl ?_
  refine mm_iconst d_M_about_67 (v := 2) (by decide) ?_
  exact mm_icmp_ne (tgt := 80) d_M_about_68 (by decide) (fun c => mm_sub [0, 1, 2] rfl (h1 c)) (fun c => mm_sub [0, 1] rfl (h2 c))
theorem t_M_about_71 {l : Launch} {G : mm_G} {b : Nat} {m : mm_Mem} {Q : mm_O → mm_Mem → Prop} {r0 : Nat} {x1 : Int32} {fs_1 : List Value} {q_4 : Nat} {n_6 : Nat} {f_7 : Nat → Int32} (g2 : m r0 = .inr (8, fs_1)) (z3 : r0 ≠ 0) (v5 : fs_1[11]? = some (.ref q_4)) (a8 : m q_4 = .inl (G.2 1, n_6, .inl f_7)) (z9 : q_4 ≠ 0) (i10 : vp_in x1 n_6) (h11 : mm_W l G k_M_about 100 [] [.int (f_7 x1.toNatClampNeg)] b m Q) : mm_W l G k_M_about 71 [(0, .ref r0), (1, .int x1)] [] b m Q := by
  refine mm_aload_n 0 (i := 0) d_M_about_71 rfl rfl ?_
  refine mm_get cc_M 11 (by decide) w_754 d_M_about_72 g2 z3 v5 ?_
  refine mm_iload_n 1 (i := 1) d_M_about_75 rfl rfl ?_
  refine mm_iald d_M_about_76 a8 z9 i10 ?_
  refine mm_goto (tgt := 100) d_M_about_77 (by decide) ?_
  exact mm_sub [] rfl h11
theorem t_M_about_80 {l : Launch} {G : mm_G} {b : Nat} {m : mm_Mem} {Q : mm_O → mm_Mem → Prop} {r0 : Nat} {x1 : Int32} {x2 : Int32} (h1 : (¬ x2 = 3) → mm_W l G k_M_about 94 [(0, .ref r0), (1, .int x1)] [] b m Q) (h2 : (x2 = 3) → mm_W l G k_M_about 85 [(0, .ref r0), (1, .int x1)] [] b m Q) : mm_W l G k_M_about 80 [(0, .ref r0), (1, .int x1), (2, .int x2)] [] b m Q := by
  refine mm_iload_n 2 (i := 2) d_M_about_80 rfl rfl ?_
  refine mm_iconst d_M_about_81 (v := 3) (by decide) ?_
  exact mm_icmp_ne (tgt := 94) d_M_about_82 (by decide) (fun c => mm_sub [0, 1] rfl (h1 c)) (fun c => mm_sub [0, 1] rfl (h2 c))
theorem t_M_about_85 {l : Launch} {G : mm_G} {b : Nat} {m : mm_Mem} {Q : mm_O → mm_Mem → Prop} {r0 : Nat} {x1 : Int32} {fs_1 : List Value} {q_4 : Nat} {n_6 : Nat} {f_7 : Nat → Int32} (g2 : m r0 = .inr (8, fs_1)) (z3 : r0 ≠ 0) (v5 : fs_1[12]? = some (.ref q_4)) (a8 : m q_4 = .inl (G.2 1, n_6, .inl f_7)) (z9 : q_4 ≠ 0) (i10 : vp_in x1 n_6) (h11 : mm_W l G k_M_about 100 [] [.int (f_7 x1.toNatClampNeg)] b m Q) : mm_W l G k_M_about 85 [(0, .ref r0), (1, .int x1)] [] b m Q := by
  refine mm_aload_n 0 (i := 0) d_M_about_85 rfl rfl ?_
  refine mm_get cc_M 12 (by decide) w_755 d_M_about_86 g2 z3 v5 ?_
  refine mm_iload_n 1 (i := 1) d_M_about_89 rfl rfl ?_
  refine mm_iald d_M_about_90 a8 z9 i10 ?_
  refine mm_goto (tgt := 100) d_M_about_91 (by decide) ?_
  exact mm_sub [] rfl h11
theorem t_M_about_94 {l : Launch} {G : mm_G} {b : Nat} {m : mm_Mem} {Q : mm_O → mm_Mem → Prop} {r0 : Nat} {x1 : Int32} {fs_1 : List Value} {q_4 : Nat} {n_6 : Nat} {f_7 : Nat → Int32} (g2 : m r0 = .inr (8, fs_1)) (z3 : r0 ≠ 0) (v5 : fs_1[7]? = some (.ref q_4)) (a8 : m q_4 = .inl (G.2 1, n_6, .inl f_7)) (z9 : q_4 ≠ 0) (i10 : vp_in x1 n_6) (h11 : mm_W l G k_M_about 100 [] [.int (f_7 x1.toNatClampNeg)] b m Q) : mm_W l G k_M_about 94 [(0, .ref r0), (1, .int x1)] [] b m Q := by
  refine mm_aload_n 0 (i := 0) d_M_about_94 rfl rfl ?_
  refine mm_get cc_M 7 (by decide) w_750 d_M_about_95 g2 z3 v5 ?_
  refine mm_iload_n 1 (i := 1) d_M_about_98 rfl rfl ?_
  refine mm_iald d_M_about_99 a8 z9 i10 ?_
  exact mm_sub [] rfl h11
theorem t_M_about_100 {l : Launch} {G : mm_G} {b : Nat} {m : mm_Mem} {Q : mm_O → mm_Mem → Prop} {xs0 : Int32} (h1 : Q (.inl (some (.int xs0))) m) : mm_W l G k_M_about 100 [] [.int xs0] b m Q := by
  exact mm_iret d_M_about_100 rfl h1
theorem t_M_name_0 {l : Launch} {G : mm_G} {b : Nat} {m : mm_Mem} {Q : mm_O → mm_Mem → Prop} {r0 : Nat} {x1 : Int32} {x2 : Int32} {b_1 : Nat} {b_2 : Nat} {m_4 : mm_Mem} {x_5 : Int32} {fs_6 : List Value} (hb3 : b_1 + b_2 ≤ b) (g7 : m r0 = .inr (8, fs_6)) (z8 : r0 ≠ 0) (M9 : mm_W l G k_M_noEntry 0 (lv_args 0 [.ref r0, .int x1]) [] b_1 m (mm_is (.inl (some (.int x_5))) m_4)) (h10 : (x_5 = 0) → mm_W l G k_M_name 13 [(0, .ref r0), (1, .int x1), (2, .int x2)] [.ref r0] b_2 m_4 Q) (h11 : (¬ x_5 = 0) → mm_W l G k_M_name 9 [(0, .ref r0), (1, .int x1), (2, .int x2)] [.ref r0] b_2 m_4 Q) : mm_W l G k_M_name 0 [(0, .ref r0), (1, .int x1), (2, .int x2)] [] b m Q := by
  refine mm_aload_n 0 (i := 0) d_M_name_0 rfl rfl ?_
  refine mm_aload_n 0 (i := 0) d_M_name_1 rfl rfl ?_
  refine mm_iload_n 1 (i := 1) d_M_name_2 rfl rfl ?_
  refine mm_callV (as := [.int x1]) (st := [.ref r0]) (b2 := b_2) ca_M_noEntry w_904 w_906 v_M_noEntry cc_M.1 rfl d_M_name_3 rfl (Nat.le_of_ble_eq_true rfl) (Nat.le_of_ble_eq_true rfl) (Nat.le_of_ble_eq_true rfl) hb3 g7 z8 M9 (fun E _ ⟨c, _⟩ => nomatch c) (fun v _ ⟨c, e⟩ => ?_)
  cases c
  rw [e]
  show mm_W l G k_M_name 6 [(0, .ref r0), (1, .int x1), (2, .int x2)] [.int x_5, .ref r0] b_2 m_4 Q
  exact mm_if_eq (tgt := 13) d_M_name_6 (by decide) (fun c => mm_sub [0, 1, 2] rfl (h10 c)) (fun c => mm_sub [0, 1, 2] rfl (h11 c))
theorem t_M_name_9 {l : Launch} {G : mm_G} {b : Nat} {m : mm_Mem} {Q : mm_O → mm_Mem → Prop} {r0 : Nat} {x1 : Int32} {x2 : Int32} {rs0 : Nat} (h1 : mm_W l G k_M_name 14 [(0, .ref r0), (1, .int x1), (2, .int x2)] [.int 1, .ref rs0] b m Q) : mm_W l G k_M_name 9 [(0, .ref r0), (1, .int x1), (2, .int x2)] [.ref rs0] b m Q := by
  refine mm_iconst d_M_name_9 (v := 1) (by decide) ?_
  refine mm_goto (tgt := 14) d_M_name_10 (by decide) ?_
  exact mm_sub [0, 1, 2] rfl h1
theorem t_M_name_13 {l : Launch} {G : mm_G} {b : Nat} {m : mm_Mem} {Q : mm_O → mm_Mem → Prop} {r0 : Nat} {x1 : Int32} {x2 : Int32} {rs0 : Nat} (h1 : mm_W l G k_M_name 14 [(0, .ref r0), (1, .int x1), (2, .int x2)] [.int 0, .ref rs0] b m Q) : mm_W l G k_M_name 13 [(0, .ref r0), (1, .int x1), (2, .int x2)] [.ref rs0] b m Q := by
  refine mm_iconst d_M_name_13 (v := 0) (by decide) ?_
  exact mm_sub [0, 1, 2] rfl h1
theorem t_M_name_14 {l : Launch} {G : mm_G} {b : Nat} {m : mm_Mem} {Q : mm_O → mm_Mem → Prop} {r0 : Nat} {x1 : Int32} {x2 : Int32} {xs0 : Int32} {rs1 : Nat} {fs_1 : List Value} {fs_5 : List Value} {u_8 : Int32} (g2 : m rs1 = .inr (8, fs_1)) (z3 : rs1 ≠ 0) (l4 : 0 < fs_1.length) (g6 : (va_up m rs1 (.inr (8, fs_1.set 0 (.int xs0)))) r0 = .inr (8, fs_5)) (z7 : r0 ≠ 0) (v9 : fs_5[0]? = some (.int u_8)) (h10 : (u_8 ≤ 0) → mm_W l G k_M_name 28 [(0, .ref r0), (1, .int x1), (2, .int x2)] [] b (va_up m rs1 (.inr (8, fs_1.set 0 (.int xs0)))) Q) (h11 : (¬ u_8 ≤ 0) → mm_W l G k_M_name 24 [] [] b (va_up m rs1 (.inr (8, fs_1.set 0 (.int xs0)))) Q) : mm_W l G k_M_name 14 [(0, .ref r0), (1, .int x1), (2, .int x2)] [.int xs0, .ref rs1] b m Q := by
  refine mm_putf cc_M 0 (by decide) w_743 d_M_name_14 rfl (fun _ => rfl) (fun _ => rfl) g2 z3 l4 ?_
  refine mm_aload_n 0 (i := 0) d_M_name_17 rfl rfl ?_
  refine mm_get cc_M 0 (by decide) w_743 d_M_name_18 g6 z7 v9 ?_
  exact mm_if_le (tgt := 28) d_M_name_21 (by decide) (fun c => mm_sub [0, 1, 2] rfl (h10 c)) (fun c => mm_sub [] rfl (h11 c))
theorem t_M_name_24 {l : Launch} {G : mm_G} {b : Nat} {m : mm_Mem} {Q : mm_O → mm_Mem → Prop}  (h1 : mm_W l G k_M_name 57 [] [.int 0] b m Q) : mm_W l G k_M_name 24 [] [] b m Q := by
  refine mm_iconst d_M_name_24 (v := 0) (by decide) ?_
  refine mm_goto (tgt := 57) d_M_name_25 (by decide) ?_
  exact mm_sub [] rfl h1
theorem t_M_name_28 {l : Launch} {G : mm_G} {b : Nat} {m : mm_Mem} {Q : mm_O → mm_Mem → Prop} {r0 : Nat} {x1 : Int32} {x2 : Int32} (h1 : (x2 < 0) → mm_W l G k_M_name 42 [] [] b m Q) (h2 : (¬ x2 < 0) → mm_W l G k_M_name 32 [(0, .ref r0), (1, .int x1), (2, .int x2)] [] b m Q) : mm_W l G k_M_name 28 [(0, .ref r0), (1, .int x1), (2, .int x2)] [] b m Q := by
  refine mm_iload_n 2 (i := 2) d_M_name_28 rfl rfl ?_
  exact mm_if_lt (tgt := 42) d_M_name_29 (by decide) (fun c => mm_sub [] rfl (h1 c)) (fun c => mm_sub [0, 1, 2] rfl (h2 c))
theorem t_M_name_32 {l : Launch} {G : mm_G} {b : Nat} {m : mm_Mem} {Q : mm_O → mm_Mem → Prop} {r0 : Nat} {x1 : Int32} {x2 : Int32} {fs_1 : List Value} {q_4 : Nat} {n_6 : Nat} {f_7 : Nat → Int32} (g2 : m r0 = .inr (8, fs_1)) (z3 : r0 ≠ 0) (v5 : fs_1[7]? = some (.ref q_4)) (a8 : m q_4 = .inl (G.2 1, n_6, .inl f_7)) (z9 : q_4 ≠ 0) (i10 : vp_in x1 n_6) (h11 : (x2 < (f_7 x1.toNatClampNeg)) → mm_W l G k_M_name 46 [(0, .ref r0), (1, .int x1), (2, .int x2)] [] b m Q) (h12 : (¬ x2 < (f_7 x1.toNatClampNeg)) → mm_W l G k_M_name 42 [] [] b m Q) : mm_W l G k_M_name 32 [(0, .ref r0), (1, .int x1), (2, .int x2)] [] b m Q := by
  refine mm_iload_n 2 (i := 2) d_M_name_32 rfl rfl ?_
  refine mm_aload_n 0 (i := 0) d_M_name_33 rfl rfl ?_
  refine mm_get cc_M 7 (by decide) w_750 d_M_name_34 g2 z3 v5 ?_
  refine mm_iload_n 1 (i := 1) d_M_name_37 rfl rfl ?_
  refine mm_iald d_M_name_38 a8 z9 i10 ?_
  exact mm_icmp_lt (tgt := 46) d_M_name_39 (by decide) (fun c => mm_sub [0, 1, 2] rfl (h11 c)) (fun c => mm_sub [] rfl (h12 c))
theorem t_M_name_42 {l : Launch} {G : mm_G} {b : Nat} {m : mm_Mem} {Q : mm_O → mm_Mem → Prop}  (h1 : mm_W l G k_M_name 57 [] [.int ((-1))] b m Q) : mm_W l G k_M_name 42 [] [] b m Q := by
  refine mm_iconst d_M_name_42 (v := (-1)) (by decide) ?_
  refine mm_goto (tgt := 57) d_M_name_43 (by decide) ?_
  exact mm_sub [] rfl h1
theorem t_M_name_46 {l : Launch} {G : mm_G} {b : Nat} {m : mm_Mem} {Q : mm_O → mm_Mem → Prop} {r0 : Nat} {x1 : Int32} {x2 : Int32} {fs_1 : List Value} {q_4 : Nat} {n_6 : Nat} {f_7 : Nat → Int32} (g2 : m r0 = .inr (8, fs_1)) (z3 : r0 ≠ 0) (v5 : fs_1[6]? = some (.ref q_4)) (a8 : m q_4 = .inl (G.2 1, n_6, .inl f_7)) (z9 : q_4 ≠ 0) (i10 : vp_in ((64 * x1) + x2) n_6) (h11 : mm_W l G k_M_name 57 [] [.int (f_7 ((64 * x1) + x2).toNatClampNeg)] b m Q) : mm_W l G k_M_name 46 [(0, .ref r0), (1, .int x1), (2, .int x2)] [] b m Q := by
  refine mm_aload_n 0 (i := 0) d_M_name_46 rfl rfl ?_
  refine mm_get cc_M 6 (by decide) w_749 d_M_name_47 g2 z3 v5 ?_
  refine mm_bipush d_M_name_50 (v := 64) (by decide) ?_
  refine mm_iload_n 1 (i := 1) d_M_name_52 rfl rfl ?_
  refine mm_imul d_M_name_53 ?_
  refine mm_iload_n 2 (i := 2) d_M_name_54 rfl rfl ?_
  refine mm_iadd d_M_name_55 ?_
  refine mm_iald d_M_name_56 a8 z9 i10 ?_
  exact mm_sub [] rfl h11
theorem t_M_name_57 {l : Launch} {G : mm_G} {b : Nat} {m : mm_Mem} {Q : mm_O → mm_Mem → Prop} {xs0 : Int32} (h1 : Q (.inl (some (.int xs0))) m) : mm_W l G k_M_name 57 [] [.int xs0] b m Q := by
  exact mm_iret d_M_name_57 rfl h1
theorem t_M_part_0 {l : Launch} {G : mm_G} {b : Nat} {m : mm_Mem} {Q : mm_O → mm_Mem → Prop} {r0 : Nat} {x1 : Int32} {x2 : Int32} {b_1 : Nat} {b_2 : Nat} {m_4 : mm_Mem} {x_5 : Int32} {fs_6 : List Value} (hb3 : b_1 + b_2 ≤ b) (g7 : m r0 = .inr (8, fs_6)) (z8 : r0 ≠ 0) (M9 : mm_W l G k_M_noEntry 0 (lv_args 0 [.ref r0, .int x1]) [] b_1 m (mm_is (.inl (some (.int x_5))) m_4)) (h10 : (¬ x_5 = 0) → mm_W l G k_M_part 23 [(0, .ref r0), (1, .int x1), (2, .int x2)] [.ref r0] b_2 m_4 Q) (h11 : (x_5 = 0) → mm_W l G k_M_part 9 [(0, .ref r0), (1, .int x1), (2, .int x2)] [.ref r0] b_2 m_4 Q) : mm_W l G k_M_part 0 [(0, .ref r0), (1, .int x1), (2, .int x2)] [] b m Q := by
  refine mm_aload_n 0 (i := 0) d_M_part_0 rfl rfl ?_
  refine mm_aload_n 0 (i := 0) d_M_part_1 rfl rfl ?_
  refine mm_iload_n 1 (i := 1) d_M_part_2 rfl rfl ?_
  refine mm_callV (as := [.int x1]) (st := [.ref r0]) (b2 := b_2) ca_M_noEntry w_904 w_906 v_M_noEntry cc_M.1 rfl d_M_part_3 rfl (Nat.le_of_ble_eq_true rfl) (Nat.le_of_ble_eq_true rfl) (Nat.le_of_ble_eq_true rfl) hb3 g7 z8 M9 (fun E _ ⟨c, _⟩ => nomatch c) (fun v _ ⟨c, e⟩ => ?_)
  cases c
  rw [e]
  show mm_W l G k_M_part 6 [(0, .ref r0), (1, .int x1), (2, .int x2)] [.int x_5, .ref r0] b_2 m_4 Q
  exact mm_if_ne (tgt := 23) d_M_part_6 (by decide) (fun c => mm_sub [0, 1, 2] rfl (h10 c)) (fun c => mm_sub [0, 1, 2] rfl (h11 c))
theorem t_M_part_9 {l : Launch} {G : mm_G} {b : Nat} {m : mm_Mem} {Q : mm_O → mm_Mem → Prop} {r0 : Nat} {x1 : Int32} {x2 : Int32} {rs0 : Nat} (h1 : (x2 < 0) → mm_W l G k_M_part 23 [(0, .ref r0), (1, .int x1), (2, .int x2)] [.ref rs0] b m Q) (h2 : (¬ x2 < 0) → mm_W l G k_M_part 13 [(0, .ref r0), (1, .int x1), (2, .int x2)] [.ref rs0] b m Q) : mm_W l G k_M_part 9 [(0, .ref r0), (1, .int x1), (2, .int x2)] [.ref rs0] b m Q := by
  refine mm_iload_n 2 (i := 2) d_M_part_9 rfl rfl ?_
  exact mm_if_lt (tgt := 23) d_M_part_10 (by decide) (fun c => mm_sub [0, 1, 2] rfl (h1 c)) (fun c => mm_sub [0, 1, 2] rfl (h2 c))
theorem t_M_part_13 {l : Launch} {G : mm_G} {b : Nat} {m : mm_Mem} {Q : mm_O → mm_Mem → Prop} {r0 : Nat} {x1 : Int32} {x2 : Int32} {rs0 : Nat} {fs_1 : List Value} {q_4 : Nat} {n_6 : Nat} {f_7 : Nat → Int32} (g2 : m r0 = .inr (8, fs_1)) (z3 : r0 ≠ 0) (v5 : fs_1[10]? = some (.ref q_4)) (a8 : m q_4 = .inl (G.2 1, n_6, .inl f_7)) (z9 : q_4 ≠ 0) (i10 : vp_in x1 n_6) (h11 : (x2 < (f_7 x1.toNatClampNeg)) → mm_W l G k_M_part 27 [(0, .ref r0), (1, .int x1), (2, .int x2)] [.ref rs0] b m Q) (h12 : (¬ x2 < (f_7 x1.toNatClampNeg)) → mm_W l G k_M_part 23 [(0, .ref r0), (1, .int x1), (2, .int x2)] [.ref rs0] b m Q) : mm_W l G k_M_part 13 [(0, .ref r0), (1, .int x1), (2, .int x2)] [.ref rs0] b m Q := by
  refine mm_iload_n 2 (i := 2) d_M_part_13 rfl rfl ?_
  refine mm_aload_n 0 (i := 0) d_M_part_14 rfl rfl ?_
  refine mm_get cc_M 10 (by decide) w_753 d_M_part_15 g2 z3 v5 ?_
  refine mm_iload_n 1 (i := 1) d_M_part_18 rfl rfl ?_
  refine mm_iald d_M_part_19 a8 z9 i10 ?_
  exact mm_icmp_lt (tgt := 27) d_M_part_20 (by decide) (fun c => mm_sub [0, 1, 2] rfl (h11 c)) (fun c => mm_sub [0, 1, 2] rfl (h12 c))
theorem t_M_part_23 {l : Launch} {G : mm_G} {b : Nat} {m : mm_Mem} {Q : mm_O → mm_Mem → Prop} {r0 : Nat} {x1 : Int32} {x2 : Int32} {rs0 : Nat} (h1 : mm_W l G k_M_part 28 [(0, .ref r0), (1, .int x1), (2, .int x2)] [.int 1, .ref rs0] b m Q) : mm_W l G k_M_part 23 [(0, .ref r0), (1, .int x1), (2, .int x2)] [.ref rs0] b m Q := by
  refine mm_iconst d_M_part_23 (v := 1) (by decide) ?_
  refine mm_goto (tgt := 28) d_M_part_24 (by decide) ?_
  exact mm_sub [0, 1, 2] rfl h1
theorem t_M_part_27 {l : Launch} {G : mm_G} {b : Nat} {m : mm_Mem} {Q : mm_O → mm_Mem → Prop} {r0 : Nat} {x1 : Int32} {x2 : Int32} {rs0 : Nat} (h1 : mm_W l G k_M_part 28 [(0, .ref r0), (1, .int x1), (2, .int x2)] [.int 0, .ref rs0] b m Q) : mm_W l G k_M_part 27 [(0, .ref r0), (1, .int x1), (2, .int x2)] [.ref rs0] b m Q := by
  refine mm_iconst d_M_part_27 (v := 0) (by decide) ?_
  exact mm_sub [0, 1, 2] rfl h1
theorem t_M_part_28 {l : Launch} {G : mm_G} {b : Nat} {m : mm_Mem} {Q : mm_O → mm_Mem → Prop} {r0 : Nat} {x1 : Int32} {x2 : Int32} {xs0 : Int32} {rs1 : Nat} {fs_1 : List Value} {fs_5 : List Value} {u_8 : Int32} (g2 : m rs1 = .inr (8, fs_1)) (z3 : rs1 ≠ 0) (l4 : 0 < fs_1.length) (g6 : (va_up m rs1 (.inr (8, fs_1.set 0 (.int xs0)))) r0 = .inr (8, fs_5)) (z7 : r0 ≠ 0) (v9 : fs_5[0]? = some (.int u_8)) (h10 : (u_8 ≤ 0) → mm_W l G k_M_part 42 [(0, .ref r0), (1, .int x1), (2, .int x2)] [] b (va_up m rs1 (.inr (8, fs_1.set 0 (.int xs0)))) Q) (h11 : (¬ u_8 ≤ 0) → mm_W l G k_M_part 38 [] [] b (va_up m rs1 (.inr (8, fs_1.set 0 (.int xs0)))) Q) : mm_W l G k_M_part 28 [(0, .ref r0), (1, .int x1), (2, .int x2)] [.int xs0, .ref rs1] b m Q := by
  refine mm_putf cc_M 0 (by decide) w_743 d_M_part_28 rfl (fun _ => rfl) (fun _ => rfl) g2 z3 l4 ?_
  refine mm_aload_n 0 (i := 0) d_M_part_31 rfl rfl ?_
  refine mm_get cc_M 0 (by decide) w_743 d_M_part_32 g6 z7 v9 ?_
  exact mm_if_le (tgt := 42) d_M_part_35 (by decide) (fun c => mm_sub [0, 1, 2] rfl (h10 c)) (fun c => mm_sub [] rfl (h11 c))
theorem t_M_part_38 {l : Launch} {G : mm_G} {b : Nat} {m : mm_Mem} {Q : mm_O → mm_Mem → Prop}  (h1 : mm_W l G k_M_part 59 [] [.int 0] b m Q) : mm_W l G k_M_part 38 [] [] b m Q := by
  refine mm_iconst d_M_part_38 (v := 0) (by decide) ?_
  refine mm_goto (tgt := 59) d_M_part_39 (by decide) ?_
  exact mm_sub [] rfl h1
theorem t_M_part_42 {l : Launch} {G : mm_G} {b : Nat} {m : mm_Mem} {Q : mm_O → mm_Mem → Prop} {r0 : Nat} {x1 : Int32} {x2 : Int32} {fs_1 : List Value} {q_4 : Nat} {q_6 : Nat} {n_8 : Nat} {f_9 : Nat → Int32} {n_13 : Nat} {f_14 : Nat → Int32} (g2 : m r0 = .inr (8, fs_1)) (z3 : r0 ≠ 0) (v5 : fs_1[14]? = some (.ref q_4)) (v7 : fs_1[9]? = some (.ref q_6)) (a10 : m q_6 = .inl (G.2 1, n_8, .inl f_9)) (z11 : q_6 ≠ 0) (i12 : vp_in x1 n_8) (a15 : m q_4 = .inl (G.2 0, n_13, .inl f_14)) (z16 : q_4 ≠ 0) (i17 : vp_in ((f_9 x1.toNatClampNeg) + x2) n_13) (h18 : mm_W l G k_M_part 59 [] [.int ((f_14 ((f_9 x1.toNatClampNeg) + x2).toNatClampNeg) &&& 255)] b m Q) : mm_W l G k_M_part 42 [(0, .ref r0), (1, .int x1), (2, .int x2)] [] b m Q := by
  refine mm_aload_n 0 (i := 0) d_M_part_42 rfl rfl ?_
  refine mm_get cc_M 14 (by decide) w_757 d_M_part_43 g2 z3 v5 ?_
  refine mm_aload_n 0 (i := 0) d_M_part_46 rfl rfl ?_
  refine mm_get cc_M 9 (by decide) w_752 d_M_part_47 g2 z3 v7 ?_
  refine mm_iload_n 1 (i := 1) d_M_part_50 rfl rfl ?_
  refine mm_iald d_M_part_51 a10 z11 i12 ?_
  refine mm_iload_n 2 (i := 2) d_M_part_52 rfl rfl ?_
  refine mm_iadd d_M_part_53 ?_
  refine mm_bald d_M_part_54 a15 z16 i17 ?_
  refine mm_sipush d_M_part_55 (v := 255) (by decide) ?_
  refine mm_iand d_M_part_58 ?_
  exact mm_sub [] rfl h18
theorem t_M_part_59 {l : Launch} {G : mm_G} {b : Nat} {m : mm_Mem} {Q : mm_O → mm_Mem → Prop} {xs0 : Int32} (h1 : Q (.inl (some (.int xs0))) m) : mm_W l G k_M_part 59 [] [.int xs0] b m Q := by
  exact mm_iret d_M_part_59 rfl h1
theorem t_M_count_0 {l : Launch} {G : mm_G} {b : Nat} {m : mm_Mem} {Q : mm_O → mm_Mem → Prop} {r0 : Nat} {fs_1 : List Value} {fs_5 : List Value} {u_7 : Int32} (g2 : m r0 = .inr (8, fs_1)) (z3 : r0 ≠ 0) (l4 : 0 < fs_1.length) (g6 : (va_up m r0 (.inr (8, fs_1.set 0 (.int 0)))) r0 = .inr (8, fs_5)) (v8 : fs_5[5]? = some (.int u_7)) (h9 : Q (.inl (some (.int u_7))) (va_up m r0 (.inr (8, fs_1.set 0 (.int 0))))) : mm_W l G k_M_count 0 [(0, .ref r0)] [] b m Q := by
  refine mm_aload_n 0 (i := 0) d_M_count_0 rfl rfl ?_
  refine mm_iconst d_M_count_1 (v := 0) (by decide) ?_
  refine mm_putf cc_M 0 (by decide) w_743 d_M_count_2 rfl (fun _ => rfl) (fun _ => rfl) g2 z3 l4 ?_
  refine mm_aload_n 0 (i := 0) d_M_count_5 rfl rfl ?_
  refine mm_get cc_M 5 (by decide) w_748 d_M_count_6 g6 z3 v8 ?_
  exact mm_iret d_M_count_9 rfl h9
theorem t_M_low_0 {l : Launch} {G : mm_G} {b : Nat} {m : mm_Mem} {Q : mm_O → mm_Mem → Prop} {r0 : Nat} {x1 : Int32} {x2 : Int32} (h1 : mm_W l G k_M_low 2 [(0, .ref r0), (1, .int x1), (2, .int x2), (3, .int 0)] [] b m Q) : mm_W l G k_M_low 0 [(0, .ref r0), (1, .int x1), (2, .int x2)] [] b m Q := by
  refine mm_iconst d_M_low_0 (v := 0) (by decide) ?_
  refine mm_istore_n (i := 3) d_M_low_1 rfl (Nat.le_of_ble_eq_true rfl) (lv2 := [(3, .int 0), (0, .ref r0), (1, .int x1), (2, .int x2)]) rfl ?_
  exact mm_sub [1, 2, 3, 0] rfl h1
theorem t_M_low_2 {l : Launch} {G : mm_G} {b : Nat} {m : mm_Mem} {Q : mm_O → mm_Mem → Prop} {r0 : Nat} {x1 : Int32} {x2 : Int32} {x3 : Int32} (h1 : (x2 ≤ x3) → mm_W l G k_M_low 48 [] [] b m Q) (h2 : (¬ x2 ≤ x3) → mm_W l G k_M_low 7 [(0, .ref r0), (1, .int x1), (2, .int x2), (3, .int x3)] [] b m Q) : mm_W l G k_M_low 2 [(0, .ref r0), (1, .int x1), (2, .int x2), (3, .int x3)] [] b m Q := by
  refine mm_iload_n 3 (i := 3) d_M_low_2 rfl rfl ?_
  refine mm_iload_n 2 (i := 2) d_M_low_3 rfl rfl ?_
  exact mm_icmp_ge (tgt := 48) d_M_low_4 (by decide) (fun c => mm_sub [] rfl (h1 c)) (fun c => mm_sub [0, 1, 2, 3] rfl (h2 c))
theorem t_M_low_7 {l : Launch} {G : mm_G} {b : Nat} {m : mm_Mem} {Q : mm_O → mm_Mem → Prop} {r0 : Nat} {x1 : Int32} {x2 : Int32} {x3 : Int32} {fs_1 : List Value} {q_4 : Nat} {u_6 : Int32} (g2 : m r0 = .inr (8, fs_1)) (z3 : r0 ≠ 0) (v5 : fs_1[2]? = some (.ref q_4)) (v7 : fs_1[28]? = some (.int u_6)) (h8 : (4 ≤ x3) → mm_W l G k_M_low 29 [(0, .ref r0), (1, .int x1), (2, .int x2), (3, .int x3)] [.int u_6, .ref q_4] b m Q) (h9 : (¬ 4 ≤ x3) → mm_W l G k_M_low 20 [(0, .ref r0), (1, .int x1), (2, .int x2), (3, .int x3)] [.int u_6, .ref q_4] b m Q) : mm_W l G k_M_low 7 [(0, .ref r0), (1, .int x1), (2, .int x2), (3, .int x3)] [] b m Q := by
  refine mm_aload_n 0 (i := 0) d_M_low_7 rfl rfl ?_
  refine mm_get cc_M 2 (by decide) w_745 d_M_low_8 g2 z3 v5 ?_
  refine mm_aload_n 0 (i := 0) d_M_low_11 rfl rfl ?_
  refine mm_get cc_M 28 (by decide) w_771 d_M_low_12 g2 z3 v7 ?_
  refine mm_iload_n 3 (i := 3) d_M_low_15 rfl rfl ?_
  refine mm_iconst d_M_low_16 (v := 4) (by decide) ?_
  exact mm_icmp_ge (tgt := 29) d_M_low_17 (by decide) (fun c => mm_sub [0, 1, 2, 3] rfl (h8 c)) (fun c => mm_sub [0, 1, 2, 3] rfl (h9 c))
theorem t_M_low_20 {l : Launch} {G : mm_G} {b : Nat} {m : mm_Mem} {Q : mm_O → mm_Mem → Prop} {r0 : Nat} {x1 : Int32} {x2 : Int32} {x3 : Int32} {xs0 : Int32} {rs1 : Nat} (h1 : mm_W l G k_M_low 30 [(0, .ref r0), (1, .int x1), (2, .int x2), (3, .int x3)] [.int (x1 >>> ((8 * x3) &&& 31)), .int xs0, .ref rs1] b m Q) : mm_W l G k_M_low 20 [(0, .ref r0), (1, .int x1), (2, .int x2), (3, .int x3)] [.int xs0, .ref rs1] b m Q := by
  refine mm_iload_n 1 (i := 1) d_M_low_20 rfl rfl ?_
  refine mm_bipush d_M_low_21 (v := 8) (by decide) ?_
  refine mm_iload_n 3 (i := 3) d_M_low_23 rfl rfl ?_
  refine mm_imul d_M_low_24 ?_
  refine mm_ishr d_M_low_25 ?_
  refine mm_goto (tgt := 30) d_M_low_26 (by decide) ?_
  exact mm_sub [0, 1, 2, 3] rfl h1
theorem t_M_low_29 {l : Launch} {G : mm_G} {b : Nat} {m : mm_Mem} {Q : mm_O → mm_Mem → Prop} {r0 : Nat} {x1 : Int32} {x2 : Int32} {x3 : Int32} {xs0 : Int32} {rs1 : Nat} (h1 : mm_W l G k_M_low 30 [(0, .ref r0), (1, .int x1), (2, .int x2), (3, .int x3)] [.int 0, .int xs0, .ref rs1] b m Q) : mm_W l G k_M_low 29 [(0, .ref r0), (1, .int x1), (2, .int x2), (3, .int x3)] [.int xs0, .ref rs1] b m Q := by
  refine mm_iconst d_M_low_29 (v := 0) (by decide) ?_
  exact mm_sub [0, 1, 2, 3] rfl h1
theorem t_M_low_30 {l : Launch} {G : mm_G} {b : Nat} {m : mm_Mem} {Q : mm_O → mm_Mem → Prop} {r0 : Nat} {x1 : Int32} {x2 : Int32} {x3 : Int32} {xs0 : Int32} {xs1 : Int32} {rs2 : Nat} {n_1 : Nat} {f_2 : Nat → Int32} {fs_6 : List Value} {u_9 : Int32} {m_12 : mm_Mem} (a3 : m rs2 = .inl (G.2 0, n_1, .inl f_2)) (z4 : rs2 ≠ 0) (i5 : vp_in xs1 n_1) (g7 : (va_up m rs2 (.inl (G.2 0, n_1, .inl (upd f_2 xs1.toNatClampNeg (vp_nar .byte xs0.toInt8.toInt32))))) r0 = .inr (8, fs_6)) (z8 : r0 ≠ 0) (v10 : fs_6[28]? = some (.int u_9)) (l11 : 28 < fs_6.length) (q13 : m_12 = va_up (va_up m rs2 (.inl (G.2 0, n_1, .inl (upd f_2 xs1.toNatClampNeg (vp_nar .byte xs0.toInt8.toInt32))))) r0 (.inr (8, fs_6.set 28 (.int (u_9 + 1))))) (h14 : mm_W l G k_M_low 2 [(0, .ref r0), (1, .int x1), (2, .int x2), (3, .int (x3 + 1))] [] b m_12 Q) : mm_W l G k_M_low 30 [(0, .ref r0), (1, .int x1), (2, .int x2), (3, .int x3)] [.int xs0, .int xs1, .ref rs2] b m Q := by
  refine mm_i2b d_M_low_30 ?_
  refine mm_bast d_M_low_31 a3 z4 i5 ?_
  refine mm_aload_n 0 (i := 0) d_M_low_32 rfl rfl ?_
  refine mm_dup d_M_low_33 rfl ?_
  refine mm_get cc_M 28 (by decide) w_771 d_M_low_34 g7 z8 v10 ?_
  refine mm_iconst d_M_low_37 (v := 1) (by decide) ?_
  refine mm_iadd d_M_low_38 ?_
  refine mm_putf cc_M 28 (by decide) w_771 d_M_low_39 rfl (fun _ => rfl) (fun _ => rfl) g7 z8 l11 ?_
  refine mm_eqm q13 ?_
  refine mm_iinc 3 (i := 3) d_M_low_42 rfl (v := x3 + 1) rfl (Nat.le_of_ble_eq_true rfl) (lv2 := [(3, .int (x3 + 1)), (0, .ref r0), (1, .int x1), (2, .int x2)]) rfl ?_
  refine mm_goto (tgt := 2) d_M_low_45 (by decide) ?_
  exact mm_sub [1, 2, 3, 0] rfl h14
theorem t_M_low_48 {l : Launch} {G : mm_G} {b : Nat} {m : mm_Mem} {Q : mm_O → mm_Mem → Prop}  (h1 : Q (.inl none) m) : mm_W l G k_M_low 48 [] [] b m Q := by
  exact mm_vret d_M_low_48 rfl h1
theorem t_M_middle_0 {l : Launch} {G : mm_G} {b : Nat} {m : mm_Mem} {Q : mm_O → mm_Mem → Prop} {r0 : Nat} {x1 : Int32} {b_1 : Nat} {b_2 : Nat} {m_4 : mm_Mem} {fs_5 : List Value} {fs_9 : List Value} {q_11 : Nat} {n_13 : Nat} {f_14 : Nat → Int32} {b_18 : Nat} {b_19 : Nat} {m_21 : mm_Mem} {b_23 : Nat} {b_24 : Nat} {m_26 : mm_Mem} {fs_27 : List Value} {fs_30 : List Value} {q_32 : Nat} {n_34 : Nat} {f_35 : Nat → Int32} {b_39 : Nat} {b_40 : Nat} {m_42 : mm_Mem} {fs_44 : List Value} {q_46 : Nat} {n_48 : Nat} {f_49 : Nat → Int32} {b_53 : Nat} {b_54 : Nat} {m_56 : mm_Mem} {fs_58 : List Value} {q_60 : Nat} {n_62 : Nat} {f_63 : Nat → Int32} {b_67 : Nat} {b_68 : Nat} {m_70 : mm_Mem} {fs_72 : List Value} {q_74 : Nat} {n_76 : Nat} {f_77 : Nat → Int32} {b_81 : Nat} {b_82 : Nat} {m_84 : mm_Mem} {b_86 : Nat} {b_87 : Nat} {m_89 : mm_Mem} {fs_90 : List Value} (hb3 : b_1 + b_2 ≤ b) (g6 : m r0 = .inr (8, fs_5)) (z7 : r0 ≠ 0) (M8 : mm_W l G k_M_low 0 (lv_args 0 [.ref r0, .int 0, .int 2]) [] b_1 m (mm_is (.inl none) m_4)) (g10 : m_4 r0 = .inr (8, fs_9)) (v12 : fs_9[8]? = some (.ref q_11)) (a15 : m_4 q_11 = .inl (G.2 1, n_13, .inl f_14)) (z16 : q_11 ≠ 0) (i17 : vp_in x1 n_13) (hb20 : b_18 + b_19 ≤ b_2) (M22 : mm_W l G k_M_low 0 (lv_args 0 [.ref r0, .int (f_14 x1.toNatClampNeg), .int 2]) [] b_18 m_4 (mm_is (.inl none) m_21)) (hb25 : b_23 + b_24 ≤ b_19) (g28 : m_21 r0 = .inr (8, fs_27)) (M29 : mm_W l G k_M_low 0 (lv_args 0 [.ref r0, .int 0, .int 4]) [] b_23 m_21 (mm_is (.inl none) m_26)) (g31 : m_26 r0 = .inr (8, fs_30)) (v33 : fs_30[12]? = some (.ref q_32)) (a36 : m_26 q_32 = .inl (G.2 1, n_34, .inl f_35)) (z37 : q_32 ≠ 0) (i38 : vp_in x1 n_34) (hb41 : b_39 + b_40 ≤ b_24) (M43 : mm_W l G k_M_low 0 (lv_args 0 [.ref r0, .int (f_35 x1.toNatClampNeg), .int 4]) [] b_39 m_26 (mm_is (.inl none) m_42)) (g45 : m_42 r0 = .inr (8, fs_44)) (v47 : fs_44[10]? = some (.ref q_46)) (a50 : m_42 q_46 = .inl (G.2 1, n_48, .inl f_49)) (z51 : q_46 ≠ 0) (i52 : vp_in x1 n_48) (hb55 : b_53 + b_54 ≤ b_40) (M57 : mm_W l G k_M_low 0 (lv_args 0 [.ref r0, .int (f_49 x1.toNatClampNeg), .int 4]) [] b_53 m_42 (mm_is (.inl none) m_56)) (g59 : m_56 r0 = .inr (8, fs_58)) (v61 : fs_58[11]? = some (.ref q_60)) (a64 : m_56 q_60 = .inl (G.2 1, n_62, .inl f_63)) (z65 : q_60 ≠ 0) (i66 : vp_in x1 n_62) (hb69 : b_67 + b_68 ≤ b_54) (M71 : mm_W l G k_M_low 0 (lv_args 0 [.ref r0, .int (f_63 x1.toNatClampNeg), .int 4]) [] b_67 m_56 (mm_is (.inl none) m_70)) (g73 : m_70 r0 = .inr (8, fs_72)) (v75 : fs_72[7]? = some (.ref q_74)) (a78 : m_70 q_74 = .inl (G.2 1, n_76, .inl f_77)) (z79 : q_74 ≠ 0) (i80 : vp_in x1 n_76) (hb83 : b_81 + b_82 ≤ b_68) (M85 : mm_W l G k_M_low 0 (lv_args 0 [.ref r0, .int (f_77 x1.toNatClampNeg), .int 2]) [] b_81 m_70 (mm_is (.inl none) m_84)) (hb88 : b_86 + b_87 ≤ b_82) (g91 : m_84 r0 = .inr (8, fs_90)) (M92 : mm_W l G k_M_low 0 (lv_args 0 [.ref r0, .int 0, .int 2]) [] b_86 m_84 (mm_is (.inl none) m_89)) (h93 : Q (.inl none) m_89) : mm_W l G k_M_middle 0 [(0, .ref r0), (1, .int x1)] [] b m Q := by
  refine mm_aload_n 0 (i := 0) d_M_middle_0 rfl rfl ?_
  refine mm_iconst d_M_middle_1 (v := 0) (by decide) ?_
  refine mm_iconst d_M_middle_2 (v := 2) (by decide) ?_
  refine mm_callV (as := [.int 0, .int 2]) (st := []) (b2 := b_2) ca_M_low w_949 w_951 v_M_low cc_M.1 rfl d_M_middle_3 rfl (Nat.le_of_ble_eq_true rfl) (Nat.le_of_ble_eq_true rfl) (Nat.le_of_ble_eq_true rfl) hb3 g6 z7 M8 (fun E _ ⟨c, _⟩ => nomatch c) (fun v _ ⟨c, e⟩ => ?_)
  cases c
  rw [e]
  show mm_W l G k_M_middle 6 [(0, .ref r0), (1, .int x1)] [] b_2 m_4 Q
  refine mm_aload_n 0 (i := 0) d_M_middle_6 rfl rfl ?_
  refine mm_aload_n 0 (i := 0) d_M_middle_7 rfl rfl ?_
  refine mm_get cc_M 8 (by decide) w_751 d_M_middle_8 g10 z7 v12 ?_
  refine mm_iload_n 1 (i := 1) d_M_middle_11 rfl rfl ?_
  refine mm_iald d_M_middle_12 a15 z16 i17 ?_
  refine mm_iconst d_M_middle_13 (v := 2) (by decide) ?_
  refine mm_callV (as := [.int (f_14 x1.toNatClampNeg), .int 2]) (st := []) (b2 := b_19) ca_M_low w_949 w_951 v_M_low cc_M.1 rfl d_M_middle_14 rfl (Nat.le_of_ble_eq_true rfl) (Nat.le_of_ble_eq_true rfl) (Nat.le_of_ble_eq_true rfl) hb20 g10 z7 M22 (fun E _ ⟨c, _⟩ => nomatch c) (fun v _ ⟨c, e⟩ => ?_)
  cases c
  rw [e]
  show mm_W l G k_M_middle 17 [(0, .ref r0), (1, .int x1)] [] b_19 m_21 Q
  refine mm_aload_n 0 (i := 0) d_M_middle_17 rfl rfl ?_
  refine mm_iconst d_M_middle_18 (v := 0) (by decide) ?_
  refine mm_iconst d_M_middle_19 (v := 4) (by decide) ?_
  refine mm_callV (as := [.int 0, .int 4]) (st := []) (b2 := b_24) ca_M_low w_949 w_951 v_M_low cc_M.1 rfl d_M_middle_20 rfl (Nat.le_of_ble_eq_true rfl) (Nat.le_of_ble_eq_true rfl) (Nat.le_of_ble_eq_true rfl) hb25 g28 z7 M29 (fun E _ ⟨c, _⟩ => nomatch c) (fun v _ ⟨c, e⟩ => ?_)
  cases c
  rw [e]
  show mm_W l G k_M_middle 23 [(0, .ref r0), (1, .int x1)] [] b_24 m_26 Q
  refine mm_aload_n 0 (i := 0) d_M_middle_23 rfl rfl ?_
  refine mm_aload_n 0 (i := 0) d_M_middle_24 rfl rfl ?_
  refine mm_get cc_M 12 (by decide) w_755 d_M_middle_25 g31 z7 v33 ?_
  refine mm_iload_n 1 (i := 1) d_M_middle_28 rfl rfl ?_
  refine mm_iald d_M_middle_29 a36 z37 i38 ?_
  refine mm_iconst d_M_middle_30 (v := 4) (by decide) ?_
  refine mm_callV (as := [.int (f_35 x1.toNatClampNeg), .int 4]) (st := []) (b2 := b_40) ca_M_low w_949 w_951 v_M_low cc_M.1 rfl d_M_middle_31 rfl (Nat.le_of_ble_eq_true rfl) (Nat.le_of_ble_eq_true rfl) (Nat.le_of_ble_eq_true rfl) hb41 g31 z7 M43 (fun E _ ⟨c, _⟩ => nomatch c) (fun v _ ⟨c, e⟩ => ?_)
  cases c
  rw [e]
  show mm_W l G k_M_middle 34 [(0, .ref r0), (1, .int x1)] [] b_40 m_42 Q
  refine mm_aload_n 0 (i := 0) d_M_middle_34 rfl rfl ?_
  refine mm_aload_n 0 (i := 0) d_M_middle_35 rfl rfl ?_
  refine mm_get cc_M 10 (by decide) w_753 d_M_middle_36 g45 z7 v47 ?_
  refine mm_iload_n 1 (i := 1) d_M_middle_39 rfl rfl ?_
  refine mm_iald d_M_middle_40 a50 z51 i52 ?_
  refine mm_iconst d_M_middle_41 (v := 4) (by decide) ?_
  refine mm_callV (as := [.int (f_49 x1.toNatClampNeg), .int 4]) (st := []) (b2 := b_54) ca_M_low w_949 w_951 v_M_low cc_M.1 rfl d_M_middle_42 rfl (Nat.le_of_ble_eq_true rfl) (Nat.le_of_ble_eq_true rfl) (Nat.le_of_ble_eq_true rfl) hb55 g45 z7 M57 (fun E _ ⟨c, _⟩ => nomatch c) (fun v _ ⟨c, e⟩ => ?_)
  cases c
  rw [e]
  show mm_W l G k_M_middle 45 [(0, .ref r0), (1, .int x1)] [] b_54 m_56 Q
  refine mm_aload_n 0 (i := 0) d_M_middle_45 rfl rfl ?_
  refine mm_aload_n 0 (i := 0) d_M_middle_46 rfl rfl ?_
  refine mm_get cc_M 11 (by decide) w_754 d_M_middle_47 g59 z7 v61 ?_
  refine mm_iload_n 1 (i := 1) d_M_middle_50 rfl rfl ?_
  refine mm_iald d_M_middle_51 a64 z65 i66 ?_
  refine mm_iconst d_M_middle_52 (v := 4) (by decide) ?_
  refine mm_callV (as := [.int (f_63 x1.toNatClampNeg), .int 4]) (st := []) (b2 := b_68) ca_M_low w_949 w_951 v_M_low cc_M.1 rfl d_M_middle_53 rfl (Nat.le_of_ble_eq_true rfl) (Nat.le_of_ble_eq_true rfl) (Nat.le_of_ble_eq_true rfl) hb69 g59 z7 M71 (fun E _ ⟨c, _⟩ => nomatch c) (fun v _ ⟨c, e⟩ => ?_)
  cases c
  rw [e]
  show mm_W l G k_M_middle 56 [(0, .ref r0), (1, .int x1)] [] b_68 m_70 Q
  refine mm_aload_n 0 (i := 0) d_M_middle_56 rfl rfl ?_
  refine mm_aload_n 0 (i := 0) d_M_middle_57 rfl rfl ?_
  refine mm_get cc_M 7 (by decide) w_750 d_M_middle_58 g73 z7 v75 ?_
  refine mm_iload_n 1 (i := 1) d_M_middle_61 rfl rfl ?_
  refine mm_iald d_M_middle_62 a78 z79 i80 ?_
  refine mm_iconst d_M_middle_63 (v := 2) (by decide) ?_
  refine mm_callV (as := [.int (f_77 x1.toNatClampNeg), .int 2]) (st := []) (b2 := b_82) ca_M_low w_949 w_951 v_M_low cc_M.1 rfl d_M_middle_64 rfl (Nat.le_of_ble_eq_true rfl) (Nat.le_of_ble_eq_true rfl) (Nat.le_of_ble_eq_true rfl) hb83 g73 z7 M85 (fun E _ ⟨c, _⟩ => nomatch c) (fun v _ ⟨c, e⟩ => ?_)
  cases c
  rw [e]
  show mm_W l G k_M_middle 67 [(0, .ref r0), (1, .int x1)] [] b_82 m_84 Q
  refine mm_aload_n 0 (i := 0) d_M_middle_67 rfl rfl ?_
  refine mm_iconst d_M_middle_68 (v := 0) (by decide) ?_
  refine mm_iconst d_M_middle_69 (v := 2) (by decide) ?_
  refine mm_callV (as := [.int 0, .int 2]) (st := []) (b2 := b_87) ca_M_low w_949 w_951 v_M_low cc_M.1 rfl d_M_middle_70 rfl (Nat.le_of_ble_eq_true rfl) (Nat.le_of_ble_eq_true rfl) (Nat.le_of_ble_eq_true rfl) hb88 g91 z7 M92 (fun E _ ⟨c, _⟩ => nomatch c) (fun v _ ⟨c, e⟩ => ?_)
  cases c
  rw [e]
  show mm_W l G k_M_middle 73 [(0, .ref r0), (1, .int x1)] [] b_87 m_89 Q
  exact mm_vret d_M_middle_73 rfl h93
theorem t_M_writeName_0 {l : Launch} {G : mm_G} {b : Nat} {m : mm_Mem} {Q : mm_O → mm_Mem → Prop} {r0 : Nat} {x1 : Int32} (h1 : mm_W l G k_M_writeName 2 [(0, .ref r0), (1, .int x1), (2, .int 0)] [] b m Q) : mm_W l G k_M_writeName 0 [(0, .ref r0), (1, .int x1)] [] b m Q := by
  refine mm_iconst d_M_writeName_0 (v := 0) (by decide) ?_
  refine mm_istore_n (i := 2) d_M_writeName_1 rfl (Nat.le_of_ble_eq_true rfl) (lv2 := [(2, .int 0), (0, .ref r0), (1, .int x1)]) rfl ?_
  exact mm_sub [1, 2, 0] rfl h1
theorem t_M_writeName_2 {l : Launch} {G : mm_G} {b : Nat} {m : mm_Mem} {Q : mm_O → mm_Mem → Prop} {r0 : Nat} {x1 : Int32} {x2 : Int32} {fs_1 : List Value} {q_4 : Nat} {n_6 : Nat} {f_7 : Nat → Int32} (g2 : m r0 = .inr (8, fs_1)) (z3 : r0 ≠ 0) (v5 : fs_1[7]? = some (.ref q_4)) (a8 : m q_4 = .inl (G.2 1, n_6, .inl f_7)) (z9 : q_4 ≠ 0) (i10 : vp_in x1 n_6) (h11 : ((f_7 x1.toNatClampNeg) ≤ x2) → mm_W l G k_M_writeName 34 [] [] b m Q) (h12 : (¬ (f_7 x1.toNatClampNeg) ≤ x2) → mm_W l G k_M_writeName 12 [(0, .ref r0), (1, .int x1), (2, .int x2)] [] b m Q) : mm_W l G k_M_writeName 2 [(0, .ref r0), (1, .int x1), (2, .int x2)] [] b m Q := by
  refine mm_iload_n 2 (i := 2) d_M_writeName_2 rfl rfl ?_
  refine mm_aload_n 0 (i := 0) d_M_writeName_3 rfl rfl ?_
  refine mm_get cc_M 7 (by decide) w_750 d_M_writeName_4 g2 z3 v5 ?_
  refine mm_iload_n 1 (i := 1) d_M_writeName_7 rfl rfl ?_
  refine mm_iald d_M_writeName_8 a8 z9 i10 ?_
  exact mm_icmp_ge (tgt := 34) d_M_writeName_9 (by decide) (fun c => mm_sub [] rfl (h11 c)) (fun c => mm_sub [0, 1, 2] rfl (h12 c))
theorem t_M_writeName_12 {l : Launch} {G : mm_G} {b : Nat} {m : mm_Mem} {Q : mm_O → mm_Mem → Prop} {r0 : Nat} {x1 : Int32} {x2 : Int32} {fs_1 : List Value} {q_4 : Nat} {n_6 : Nat} {f_7 : Nat → Int32} {b_11 : Nat} {b_12 : Nat} {m_14 : mm_Mem} (g2 : m r0 = .inr (8, fs_1)) (z3 : r0 ≠ 0) (v5 : fs_1[6]? = some (.ref q_4)) (a8 : m q_4 = .inl (G.2 1, n_6, .inl f_7)) (z9 : q_4 ≠ 0) (i10 : vp_in ((64 * x1) + x2) n_6) (hb13 : b_11 + b_12 ≤ b) (M15 : mm_W l G k_M_low 0 (lv_args 0 [.ref r0, .int (f_7 ((64 * x1) + x2).toNatClampNeg), .int 1]) [] b_11 m (mm_is (.inl none) m_14)) (h16 : mm_W l G k_M_writeName 2 [(0, .ref r0), (1, .int x1), (2, .int (x2 + 1))] [] b_12 m_14 Q) : mm_W l G k_M_writeName 12 [(0, .ref r0), (1, .int x1), (2, .int x2)] [] b m Q := by
  refine mm_aload_n 0 (i := 0) d_M_writeName_12 rfl rfl ?_
  refine mm_aload_n 0 (i := 0) d_M_writeName_13 rfl rfl ?_
  refine mm_get cc_M 6 (by decide) w_749 d_M_writeName_14 g2 z3 v5 ?_
  refine mm_bipush d_M_writeName_17 (v := 64) (by decide) ?_
  refine mm_iload_n 1 (i := 1) d_M_writeName_19 rfl rfl ?_
  refine mm_imul d_M_writeName_20 ?_
  refine mm_iload_n 2 (i := 2) d_M_writeName_21 rfl rfl ?_
  refine mm_iadd d_M_writeName_22 ?_
  refine mm_iald d_M_writeName_23 a8 z9 i10 ?_
  refine mm_iconst d_M_writeName_24 (v := 1) (by decide) ?_
  refine mm_callV (as := [.int (f_7 ((64 * x1) + x2).toNatClampNeg), .int 1]) (st := []) (b2 := b_12) ca_M_low w_949 w_951 v_M_low cc_M.1 rfl d_M_writeName_25 rfl (Nat.le_of_ble_eq_true rfl) (Nat.le_of_ble_eq_true rfl) (Nat.le_of_ble_eq_true rfl) hb13 g2 z3 M15 (fun E _ ⟨c, _⟩ => nomatch c) (fun v _ ⟨c, e⟩ => ?_)
  cases c
  rw [e]
  show mm_W l G k_M_writeName 28 [(0, .ref r0), (1, .int x1), (2, .int x2)] [] b_12 m_14 Q
  refine mm_iinc 2 (i := 2) d_M_writeName_28 rfl (v := x2 + 1) rfl (Nat.le_of_ble_eq_true rfl) (lv2 := [(2, .int (x2 + 1)), (0, .ref r0), (1, .int x1)]) rfl ?_
  refine mm_goto (tgt := 2) d_M_writeName_31 (by decide) ?_
  exact mm_sub [1, 2, 0] rfl h16
theorem t_M_writeName_34 {l : Launch} {G : mm_G} {b : Nat} {m : mm_Mem} {Q : mm_O → mm_Mem → Prop}  (h1 : Q (.inl none) m) : mm_W l G k_M_writeName 34 [] [] b m Q := by
  exact mm_vret d_M_writeName_34 rfl h1
theorem t_M_write_0 {l : Launch} {G : mm_G} {b : Nat} {m : mm_Mem} {Q : mm_O → mm_Mem → Prop} {r0 : Nat} (h1 : mm_W l G k_M_write 5 [(0, .ref r0), (1, .int 22), (2, .int 0)] [] b m Q) : mm_W l G k_M_write 0 [(0, .ref r0)] [] b m Q := by
  refine mm_bipush d_M_write_0 (v := 22) (by decide) ?_
  refine mm_istore_n (i := 1) d_M_write_2 rfl (Nat.le_of_ble_eq_true rfl) (lv2 := [(1, .int 22), (0, .ref r0)]) rfl ?_
  refine mm_iconst d_M_write_3 (v := 0) (by decide) ?_
  refine mm_istore_n (i := 2) d_M_write_4 rfl (Nat.le_of_ble_eq_true rfl) (lv2 := [(2, .int 0), (1, .int 22), (0, .ref r0)]) rfl ?_
  exact mm_sub [2, 1, 0] rfl h1
theorem t_M_write_5 {l : Launch} {G : mm_G} {b : Nat} {m : mm_Mem} {Q : mm_O → mm_Mem → Prop} {r0 : Nat} {x1 : Int32} {x2 : Int32} {fs_1 : List Value} {u_4 : Int32} (g2 : m r0 = .inr (8, fs_1)) (z3 : r0 ≠ 0) (v5 : fs_1[5]? = some (.int u_4)) (h6 : (u_4 ≤ x2) → mm_W l G k_M_write 40 [(0, .ref r0), (1, .int x1)] [] b m Q) (h7 : (¬ u_4 ≤ x2) → mm_W l G k_M_write 13 [(0, .ref r0), (1, .int x1), (2, .int x2)] [] b m Q) : mm_W l G k_M_write 5 [(0, .ref r0), (1, .int x1), (2, .int x2)] [] b m Q := by
  refine mm_iload_n 2 (i := 2) d_M_write_5 rfl rfl ?_
  refine mm_aload_n 0 (i := 0) d_M_write_6 rfl rfl ?_
  refine mm_get cc_M 5 (by decide) w_748 d_M_write_7 g2 z3 v5 ?_
  exact mm_icmp_ge (tgt := 40) d_M_write_10 (by decide) (fun c => mm_sub [0, 1] rfl (h6 c)) (fun c => mm_sub [0, 1, 2] rfl (h7 c))
theorem t_M_write_13 {l : Launch} {G : mm_G} {b : Nat} {m : mm_Mem} {Q : mm_O → mm_Mem → Prop} {r0 : Nat} {x1 : Int32} {x2 : Int32} {fs_1 : List Value} {q_4 : Nat} {n_6 : Nat} {f_7 : Nat → Int32} {q_11 : Nat} {n_13 : Nat} {f_14 : Nat → Int32} (g2 : m r0 = .inr (8, fs_1)) (z3 : r0 ≠ 0) (v5 : fs_1[7]? = some (.ref q_4)) (a8 : m q_4 = .inl (G.2 1, n_6, .inl f_7)) (z9 : q_4 ≠ 0) (i10 : vp_in x2 n_6) (v12 : fs_1[10]? = some (.ref q_11)) (a15 : m q_11 = .inl (G.2 1, n_13, .inl f_14)) (z16 : q_11 ≠ 0) (i17 : vp_in x2 n_13) (h18 : mm_W l G k_M_write 5 [(0, .ref r0), (1, .int (x1 + ((76 + (2 * (f_7 x2.toNatClampNeg))) + (f_14 x2.toNatClampNeg)))), (2, .int (x2 + 1))] [] b m Q) : mm_W l G k_M_write 13 [(0, .ref r0), (1, .int x1), (2, .int x2)] [] b m Q := by
  refine mm_iload_n 1 (i := 1) d_M_write_13 rfl rfl ?_
  refine mm_bipush d_M_write_14 (v := 76) (by decide) ?_
  refine mm_iconst d_M_write_16 (v := 2) (by decide) ?_
  refine mm_aload_n 0 (i := 0) d_M_write_17 rfl rfl ?_
  refine mm_get cc_M 7 (by decide) w_750 d_M_write_18 g2 z3 v5 ?_
  refine mm_iload_n 2 (i := 2) d_M_write_21 rfl rfl ?_
  refine mm_iald d_M_write_22 a8 z9 i10 ?_
  refine mm_imul d_M_write_23 ?_
  refine mm_iadd d_M_write_24 ?_
  refine mm_aload_n 0 (i := 0) d_M_write_25 rfl rfl ?_
  refine mm_get cc_M 10 (by decide) w_753 d_M_write_26 g2 z3 v12 ?_
  refine mm_iload_n 2 (i := 2) d_M_write_29 rfl rfl ?_
  refine mm_iald d_M_write_30 a15 z16 i17 ?_
  refine mm_iadd d_M_write_31 ?_
  refine mm_iadd d_M_write_32 ?_
  refine mm_istore_n (i := 1) d_M_write_33 rfl (Nat.le_of_ble_eq_true rfl) (lv2 := [(1, .int (x1 + ((76 + (2 * (f_7 x2.toNatClampNeg))) + (f_14 x2.toNatClampNeg)))), (0, .ref r0), (2, .int x2)]) rfl ?_
  refine mm_iinc 2 (i := 2) d_M_write_34 rfl (v := x2 + 1) rfl (Nat.le_of_ble_eq_true rfl) (lv2 := [(2, .int (x2 + 1)), (1, .int (x1 + ((76 + (2 * (f_7 x2.toNatClampNeg))) + (f_14 x2.toNatClampNeg)))), (0, .ref r0)]) rfl ?_
  refine mm_goto (tgt := 5) d_M_write_37 (by decide) ?_
  exact mm_sub [2, 1, 0] rfl h18
theorem t_M_write_40 {l : Launch} {G : mm_G} {b : Nat} {m : mm_Mem} {Q : mm_O → mm_Mem → Prop} {r0 : Nat} {x1 : Int32} (h1 : (x1 ≤ 65536) → mm_W l G k_M_write 51 [(0, .ref r0)] [.ref r0] b m Q) (h2 : (¬ x1 ≤ 65536) → mm_W l G k_M_write 47 [(0, .ref r0)] [.ref r0] b m Q) : mm_W l G k_M_write 40 [(0, .ref r0), (1, .int x1)] [] b m Q := by
  refine mm_aload_n 0 (i := 0) d_M_write_40 rfl rfl ?_
  refine mm_iload_n 1 (i := 1) d_M_write_41 rfl rfl ?_
  refine mm_ldc (v := 65536) w_742 d_M_write_42 ?_
  exact mm_icmp_le (tgt := 51) d_M_write_44 (by decide) (fun c => mm_sub [0] rfl (h1 c)) (fun c => mm_sub [0] rfl (h2 c))
theorem t_M_write_47 {l : Launch} {G : mm_G} {b : Nat} {m : mm_Mem} {Q : mm_O → mm_Mem → Prop} {r0 : Nat} {rs0 : Nat} (h1 : mm_W l G k_M_write 52 [(0, .ref r0)] [.int 1, .ref rs0] b m Q) : mm_W l G k_M_write 47 [(0, .ref r0)] [.ref rs0] b m Q := by
  refine mm_iconst d_M_write_47 (v := 1) (by decide) ?_
  refine mm_goto (tgt := 52) d_M_write_48 (by decide) ?_
  exact mm_sub [0] rfl h1
theorem t_M_write_51 {l : Launch} {G : mm_G} {b : Nat} {m : mm_Mem} {Q : mm_O → mm_Mem → Prop} {r0 : Nat} {rs0 : Nat} (h1 : mm_W l G k_M_write 52 [(0, .ref r0)] [.int 0, .ref rs0] b m Q) : mm_W l G k_M_write 51 [(0, .ref r0)] [.ref rs0] b m Q := by
  refine mm_iconst d_M_write_51 (v := 0) (by decide) ?_
  exact mm_sub [0] rfl h1
theorem t_M_write_52 {l : Launch} {G : mm_G} {b : Nat} {m : mm_Mem} {Q : mm_O → mm_Mem → Prop} {r0 : Nat} {xs0 : Int32} {rs1 : Nat} {fs_1 : List Value} {fs_5 : List Value} {u_8 : Int32} (g2 : m rs1 = .inr (8, fs_1)) (z3 : rs1 ≠ 0) (l4 : 0 < fs_1.length) (g6 : (va_up m rs1 (.inr (8, fs_1.set 0 (.int xs0)))) r0 = .inr (8, fs_5)) (z7 : r0 ≠ 0) (v9 : fs_5[0]? = some (.int u_8)) (h10 : (u_8 ≤ 0) → mm_W l G k_M_write 64 [(0, .ref r0)] [] b (va_up m rs1 (.inr (8, fs_1.set 0 (.int xs0)))) Q) (h11 : (¬ u_8 ≤ 0) → mm_W l G k_M_write 62 [] [] b (va_up m rs1 (.inr (8, fs_1.set 0 (.int xs0)))) Q) : mm_W l G k_M_write 52 [(0, .ref r0)] [.int xs0, .ref rs1] b m Q := by
  refine mm_putf cc_M 0 (by decide) w_743 d_M_write_52 rfl (fun _ => rfl) (fun _ => rfl) g2 z3 l4 ?_
  refine mm_aload_n 0 (i := 0) d_M_write_55 rfl rfl ?_
  refine mm_get cc_M 0 (by decide) w_743 d_M_write_56 g6 z7 v9 ?_
  exact mm_if_le (tgt := 64) d_M_write_59 (by decide) (fun c => mm_sub [0] rfl (h10 c)) (fun c => mm_sub [] rfl (h11 c))
theorem t_M_write_62 {l : Launch} {G : mm_G} {b : Nat} {m : mm_Mem} {Q : mm_O → mm_Mem → Prop}  (h1 : Q (.inl (some (.int 0))) m) : mm_W l G k_M_write 62 [] [] b m Q := by
  refine mm_iconst d_M_write_62 (v := 0) (by decide) ?_
  exact mm_iret d_M_write_63 rfl h1
theorem t_M_write_64 {l : Launch} {G : mm_G} {b : Nat} {m : mm_Mem} {Q : mm_O → mm_Mem → Prop} {r0 : Nat} {fs_1 : List Value} (g2 : m r0 = .inr (8, fs_1)) (z3 : r0 ≠ 0) (l4 : 28 < fs_1.length) (h5 : mm_W l G k_M_write 71 [(0, .ref r0), (2, .int 0)] [] b (va_up m r0 (.inr (8, fs_1.set 28 (.int 0)))) Q) : mm_W l G k_M_write 64 [(0, .ref r0)] [] b m Q := by
  refine mm_aload_n 0 (i := 0) d_M_write_64 rfl rfl ?_
  refine mm_iconst d_M_write_65 (v := 0) (by decide) ?_
  refine mm_putf cc_M 28 (by decide) w_771 d_M_write_66 rfl (fun _ => rfl) (fun _ => rfl) g2 z3 l4 ?_
  refine mm_iconst d_M_write_69 (v := 0) (by decide) ?_
  refine mm_istore_n (i := 2) d_M_write_70 rfl (Nat.le_of_ble_eq_true rfl) (lv2 := [(2, .int 0), (0, .ref r0)]) rfl ?_
  exact mm_sub [1, 0] rfl h5
theorem t_M_write_71 {l : Launch} {G : mm_G} {b : Nat} {m : mm_Mem} {Q : mm_O → mm_Mem → Prop} {r0 : Nat} {x2 : Int32} {fs_1 : List Value} {u_4 : Int32} (g2 : m r0 = .inr (8, fs_1)) (z3 : r0 ≠ 0) (v5 : fs_1[5]? = some (.int u_4)) (h6 : (u_4 ≤ x2) → mm_W l G k_M_write 156 [(0, .ref r0)] [] b m Q) (h7 : (¬ u_4 ≤ x2) → mm_W l G k_M_write 79 [(0, .ref r0), (2, .int x2)] [] b m Q) : mm_W l G k_M_write 71 [(0, .ref r0), (2, .int x2)] [] b m Q := by
  refine mm_iload_n 1 (i := 2) d_M_write_71 rfl rfl ?_
  refine mm_aload_n 0 (i := 0) d_M_write_72 rfl rfl ?_
  refine mm_get cc_M 5 (by decide) w_748 d_M_write_73 g2 z3 v5 ?_
  exact mm_icmp_ge (tgt := 156) d_M_write_76 (by decide) (fun c => mm_sub [0] rfl (h6 c)) (fun c => mm_sub [0, 1] rfl (h7 c))
theorem t_M_write_79 {l : Launch} {G : mm_G} {b : Nat} {m : mm_Mem} {Q : mm_O → mm_Mem → Prop} {r0 : Nat} {x2 : Int32} {fs_1 : List Value} {q_4 : Nat} {u_6 : Int32} {n_8 : Nat} {f_9 : Nat → Int64} {b_13 : Nat} {b_14 : Nat} {m_16 : mm_Mem} {fs_17 : List Value} {b_20 : Nat} {b_21 : Nat} {m_23 : mm_Mem} {fs_24 : List Value} {b_27 : Nat} {b_28 : Nat} {m_30 : mm_Mem} {fs_31 : List Value} {b_34 : Nat} {b_35 : Nat} {m_37 : mm_Mem} {fs_38 : List Value} (g2 : m r0 = .inr (8, fs_1)) (z3 : r0 ≠ 0) (v5 : fs_1[24]? = some (.ref q_4)) (v7 : fs_1[28]? = some (.int u_6)) (a10 : m q_4 = .inl (G.2 2, n_8, .inr (.inl f_9))) (z11 : q_4 ≠ 0) (i12 : vp_in x2 n_8) (hb15 : b_13 + b_14 ≤ b) (g18 : (va_up m q_4 (.inl (G.2 2, n_8, .inr (.inl (vp_updL f_9 x2.toNatClampNeg u_6.toInt64))))) r0 = .inr (8, fs_17)) (M19 : mm_W l G k_M_low 0 (lv_args 0 [.ref r0, .int 67324752, .int 4]) [] b_13 (va_up m q_4 (.inl (G.2 2, n_8, .inr (.inl (vp_updL f_9 x2.toNatClampNeg u_6.toInt64))))) (mm_is (.inl none) m_16)) (hb22 : b_20 + b_21 ≤ b_14) (g25 : m_16 r0 = .inr (8, fs_24)) (M26 : mm_W l G k_M_low 0 (lv_args 0 [.ref r0, .int 20, .int 2]) [] b_20 m_16 (mm_is (.inl none) m_23)) (hb29 : b_27 + b_28 ≤ b_21) (g32 : m_23 r0 = .inr (8, fs_31)) (M33 : mm_W l G k_M_middle 0 (lv_args 0 [.ref r0, .int x2]) [] b_27 m_23 (mm_is (.inl none) m_30)) (hb36 : b_34 + b_35 ≤ b_28) (g39 : m_30 r0 = .inr (8, fs_38)) (M40 : mm_W l G k_M_writeName 0 (lv_args 0 [.ref r0, .int x2]) [] b_34 m_30 (mm_is (.inl none) m_37)) (h41 : mm_W l G k_M_write 116 [(0, .ref r0), (2, .int x2), (3, .int 0)] [] b_35 m_37 Q) : mm_W l G k_M_write 79 [(0, .ref r0), (2, .int x2)] [] b m Q := by
  refine mm_aload_n 0 (i := 0) d_M_write_79 rfl rfl ?_
  refine mm_get cc_M 24 (by decide) w_767 d_M_write_80 g2 z3 v5 ?_
  refine mm_iload_n 1 (i := 2) d_M_write_83 rfl rfl ?_
  refine mm_aload_n 0 (i := 0) d_M_write_84 rfl rfl ?_
  refine mm_get cc_M 28 (by decide) w_771 d_M_write_85 g2 z3 v7 ?_
  refine mm_i2l d_M_write_88 ?_
  refine mm_last d_M_write_89 a10 z11 i12 ?_
  refine mm_aload_n 0 (i := 0) d_M_write_90 rfl rfl ?_
  refine mm_ldc (v := 67324752) w_948 d_M_write_91 ?_
  refine mm_iconst d_M_write_93 (v := 4) (by decide) ?_
  refine mm_callV (as := [.int 67324752, .int 4]) (st := []) (b2 := b_14) ca_M_low w_949 w_951 v_M_low cc_M.1 rfl d_M_write_94 rfl (Nat.le_of_ble_eq_true rfl) (Nat.le_of_ble_eq_true rfl) (Nat.le_of_ble_eq_true rfl) hb15 g18 z3 M19 (fun E _ ⟨c, _⟩ => nomatch c) (fun v _ ⟨c, e⟩ => ?_)
  cases c
  rw [e]
  show mm_W l G k_M_write 97 [(0, .ref r0), (2, .int x2)] [] b_14 m_16 Q
  refine mm_aload_n 0 (i := 0) d_M_write_97 rfl rfl ?_
  refine mm_bipush d_M_write_98 (v := 20) (by decide) ?_
  refine mm_iconst d_M_write_100 (v := 2) (by decide) ?_
  refine mm_callV (as := [.int 20, .int 2]) (st := []) (b2 := b_21) ca_M_low w_949 w_951 v_M_low cc_M.1 rfl d_M_write_101 rfl (Nat.le_of_ble_eq_true rfl) (Nat.le_of_ble_eq_true rfl) (Nat.le_of_ble_eq_true rfl) hb22 g25 z3 M26 (fun E _ ⟨c, _⟩ => nomatch c) (fun v _ ⟨c, e⟩ => ?_)
  cases c
  rw [e]
  show mm_W l G k_M_write 104 [(0, .ref r0), (2, .int x2)] [] b_21 m_23 Q
  refine mm_aload_n 0 (i := 0) d_M_write_104 rfl rfl ?_
  refine mm_iload_n 1 (i := 2) d_M_write_105 rfl rfl ?_
  refine mm_callV (as := [.int x2]) (st := []) (b2 := b_28) ca_M_middle w_953 w_955 v_M_middle cc_M.1 rfl d_M_write_106 rfl (Nat.le_of_ble_eq_true rfl) (Nat.le_of_ble_eq_true rfl) (Nat.le_of_ble_eq_true rfl) hb29 g32 z3 M33 (fun E _ ⟨c, _⟩ => nomatch c) (fun v _ ⟨c, e⟩ => ?_)
  cases c
  rw [e]
  show mm_W l G k_M_write 109 [(0, .ref r0), (2, .int x2)] [] b_28 m_30 Q
  refine mm_aload_n 0 (i := 0) d_M_write_109 rfl rfl ?_
  refine mm_iload_n 1 (i := 2) d_M_write_110 rfl rfl ?_
  refine mm_callV (as := [.int x2]) (st := []) (b2 := b_35) ca_M_writeName w_957 w_959 v_M_writeName cc_M.1 rfl d_M_write_111 rfl (Nat.le_of_ble_eq_true rfl) (Nat.le_of_ble_eq_true rfl) (Nat.le_of_ble_eq_true rfl) hb36 g39 z3 M40 (fun E _ ⟨c, _⟩ => nomatch c) (fun v _ ⟨c, e⟩ => ?_)
  cases c
  rw [e]
  show mm_W l G k_M_write 114 [(0, .ref r0), (2, .int x2)] [] b_35 m_37 Q
  refine mm_iconst d_M_write_114 (v := 0) (by decide) ?_
  refine mm_istore_n (i := 3) d_M_write_115 rfl (Nat.le_of_ble_eq_true rfl) (lv2 := [(3, .int 0), (0, .ref r0), (2, .int x2)]) rfl ?_
  exact mm_sub [1, 2, 0] rfl h41
theorem t_M_write_116 {l : Launch} {G : mm_G} {b : Nat} {m : mm_Mem} {Q : mm_O → mm_Mem → Prop} {r0 : Nat} {x2 : Int32} {x3 : Int32} {fs_1 : List Value} {q_4 : Nat} {n_6 : Nat} {f_7 : Nat → Int32} (g2 : m r0 = .inr (8, fs_1)) (z3 : r0 ≠ 0) (v5 : fs_1[10]? = some (.ref q_4)) (a8 : m q_4 = .inl (G.2 1, n_6, .inl f_7)) (z9 : q_4 ≠ 0) (i10 : vp_in x2 n_6) (h11 : ((f_7 x2.toNatClampNeg) ≤ x3) → mm_W l G k_M_write 150 [(0, .ref r0), (2, .int x2)] [] b m Q) (h12 : (¬ (f_7 x2.toNatClampNeg) ≤ x3) → mm_W l G k_M_write 126 [(0, .ref r0), (2, .int x2), (3, .int x3)] [] b m Q) : mm_W l G k_M_write 116 [(0, .ref r0), (2, .int x2), (3, .int x3)] [] b m Q := by
  refine mm_iload_n 2 (i := 3) d_M_write_116 rfl rfl ?_
  refine mm_aload_n 0 (i := 0) d_M_write_117 rfl rfl ?_
  refine mm_get cc_M 10 (by decide) w_753 d_M_write_118 g2 z3 v5 ?_
  refine mm_iload_n 1 (i := 2) d_M_write_121 rfl rfl ?_
  refine mm_iald d_M_write_122 a8 z9 i10 ?_
  exact mm_icmp_ge (tgt := 150) d_M_write_123 (by decide) (fun c => mm_sub [0, 1] rfl (h11 c)) (fun c => mm_sub [0, 1, 2] rfl (h12 c))
theorem t_M_write_126 {l : Launch} {G : mm_G} {b : Nat} {m : mm_Mem} {Q : mm_O → mm_Mem → Prop} {r0 : Nat} {x2 : Int32} {x3 : Int32} {fs_1 : List Value} {q_4 : Nat} {q_6 : Nat} {n_8 : Nat} {f_9 : Nat → Int32} {n_13 : Nat} {f_14 : Nat → Int32} {b_18 : Nat} {b_19 : Nat} {m_21 : mm_Mem} (g2 : m r0 = .inr (8, fs_1)) (z3 : r0 ≠ 0) (v5 : fs_1[14]? = some (.ref q_4)) (v7 : fs_1[9]? = some (.ref q_6)) (a10 : m q_6 = .inl (G.2 1, n_8, .inl f_9)) (z11 : q_6 ≠ 0) (i12 : vp_in x2 n_8) (a15 : m q_4 = .inl (G.2 0, n_13, .inl f_14)) (z16 : q_4 ≠ 0) (i17 : vp_in ((f_9 x2.toNatClampNeg) + x3) n_13) (hb20 : b_18 + b_19 ≤ b) (M22 : mm_W l G k_M_low 0 (lv_args 0 [.ref r0, .int (f_14 ((f_9 x2.toNatClampNeg) + x3).toNatClampNeg), .int 1]) [] b_18 m (mm_is (.inl none) m_21)) (h23 : mm_W l G k_M_write 116 [(0, .ref r0), (2, .int x2), (3, .int (x3 + 1))] [] b_19 m_21 Q) : mm_W l G k_M_write 126 [(0, .ref r0), (2, .int x2), (3, .int x3)] [] b m Q := by
  refine mm_aload_n 0 (i := 0) d_M_write_126 rfl rfl ?_
  refine mm_aload_n 0 (i := 0) d_M_write_127 rfl rfl ?_
  refine mm_get cc_M 14 (by decide) w_757 d_M_write_128 g2 z3 v5 ?_
  refine mm_aload_n 0 (i := 0) d_M_write_131 rfl rfl ?_
  refine mm_get cc_M 9 (by decide) w_752 d_M_write_132 g2 z3 v7 ?_
  refine mm_iload_n 1 (i := 2) d_M_write_135 rfl rfl ?_
  refine mm_iald d_M_write_136 a10 z11 i12 ?_
  refine mm_iload_n 2 (i := 3) d_M_write_137 rfl rfl ?_
  refine mm_iadd d_M_write_138 ?_
  refine mm_bald d_M_write_139 a15 z16 i17 ?_
  refine mm_iconst d_M_write_140 (v := 1) (by decide) ?_
  refine mm_callV (as := [.int (f_14 ((f_9 x2.toNatClampNeg) + x3).toNatClampNeg), .int 1]) (st := []) (b2 := b_19) ca_M_low w_949 w_951 v_M_low cc_M.1 rfl d_M_write_141 rfl (Nat.le_of_ble_eq_true rfl) (Nat.le_of_ble_eq_true rfl) (Nat.le_of_ble_eq_true rfl) hb20 g2 z3 M22 (fun E _ ⟨c, _⟩ => nomatch c) (fun v _ ⟨c, e⟩ => ?_)
  cases c
  rw [e]
  show mm_W l G k_M_write 144 [(0, .ref r0), (2, .int x2), (3, .int x3)] [] b_19 m_21 Q
  refine mm_iinc 2 (i := 3) d_M_write_144 rfl (v := x3 + 1) rfl (Nat.le_of_ble_eq_true rfl) (lv2 := [(3, .int (x3 + 1)), (0, .ref r0), (2, .int x2)]) rfl ?_
  refine mm_goto (tgt := 116) d_M_write_147 (by decide) ?_
  exact mm_sub [1, 2, 0] rfl h23
theorem t_M_write_150 {l : Launch} {G : mm_G} {b : Nat} {m : mm_Mem} {Q : mm_O → mm_Mem → Prop} {r0 : Nat} {x2 : Int32} (h1 : mm_W l G k_M_write 71 [(0, .ref r0), (2, .int (x2 + 1))] [] b m Q) : mm_W l G k_M_write 150 [(0, .ref r0), (2, .int x2)] [] b m Q := by
  refine mm_iinc 1 (i := 2) d_M_write_150 rfl (v := x2 + 1) rfl (Nat.le_of_ble_eq_true rfl) (lv2 := [(2, .int (x2 + 1)), (0, .ref r0)]) rfl ?_
  refine mm_goto (tgt := 71) d_M_write_153 (by decide) ?_
  exact mm_sub [1, 0] rfl h1
theorem t_M_write_156 {l : Launch} {G : mm_G} {b : Nat} {m : mm_Mem} {Q : mm_O → mm_Mem → Prop} {r0 : Nat} {fs_1 : List Value} {u_4 : Int32} (g2 : m r0 = .inr (8, fs_1)) (z3 : r0 ≠ 0) (v5 : fs_1[28]? = some (.int u_4)) (h6 : mm_W l G k_M_write 163 [(0, .ref r0), (2, .int u_4), (3, .int 0)] [] b m Q) : mm_W l G k_M_write 156 [(0, .ref r0)] [] b m Q := by
  refine mm_aload_n 0 (i := 0) d_M_write_156 rfl rfl ?_
  refine mm_get cc_M 28 (by decide) w_771 d_M_write_157 g2 z3 v5 ?_
  refine mm_istore_n (i := 2) d_M_write_160 rfl (Nat.le_of_ble_eq_true rfl) (lv2 := [(2, .int u_4), (0, .ref r0)]) rfl ?_
  refine mm_iconst d_M_write_161 (v := 0) (by decide) ?_
  refine mm_istore_n (i := 3) d_M_write_162 rfl (Nat.le_of_ble_eq_true rfl) (lv2 := [(3, .int 0), (2, .int u_4), (0, .ref r0)]) rfl ?_
  exact mm_sub [2, 1, 0] rfl h6
theorem t_M_write_163 {l : Launch} {G : mm_G} {b : Nat} {m : mm_Mem} {Q : mm_O → mm_Mem → Prop} {r0 : Nat} {x2 : Int32} {x3 : Int32} {fs_1 : List Value} {u_4 : Int32} (g2 : m r0 = .inr (8, fs_1)) (z3 : r0 ≠ 0) (v5 : fs_1[5]? = some (.int u_4)) (h6 : (u_4 ≤ x3) → mm_W l G k_M_write 227 [(0, .ref r0), (2, .int x2)] [] b m Q) (h7 : (¬ u_4 ≤ x3) → mm_W l G k_M_write 171 [(0, .ref r0), (2, .int x2), (3, .int x3)] [] b m Q) : mm_W l G k_M_write 163 [(0, .ref r0), (2, .int x2), (3, .int x3)] [] b m Q := by
  refine mm_iload_n 2 (i := 3) d_M_write_163 rfl rfl ?_
  refine mm_aload_n 0 (i := 0) d_M_write_164 rfl rfl ?_
  refine mm_get cc_M 5 (by decide) w_748 d_M_write_165 g2 z3 v5 ?_
  exact mm_icmp_ge (tgt := 227) d_M_write_168 (by decide) (fun c => mm_sub [0, 1] rfl (h6 c)) (fun c => mm_sub [0, 1, 2] rfl (h7 c))
theorem t_M_write_171 {l : Launch} {G : mm_G} {b : Nat} {m : mm_Mem} {Q : mm_O → mm_Mem → Prop} {r0 : Nat} {x2 : Int32} {x3 : Int32} {b_1 : Nat} {b_2 : Nat} {m_4 : mm_Mem} {fs_5 : List Value} {b_9 : Nat} {b_10 : Nat} {m_12 : mm_Mem} {fs_13 : List Value} {b_16 : Nat} {b_17 : Nat} {m_19 : mm_Mem} {fs_20 : List Value} {b_23 : Nat} {b_24 : Nat} {m_26 : mm_Mem} {fs_27 : List Value} {b_30 : Nat} {b_31 : Nat} {m_33 : mm_Mem} {fs_34 : List Value} {fs_37 : List Value} {q_39 : Nat} {n_41 : Nat} {f_42 : Nat → Int64} {b_46 : Nat} {b_47 : Nat} {m_49 : mm_Mem} {b_51 : Nat} {b_52 : Nat} {m_54 : mm_Mem} {fs_55 : List Value} (hb3 : b_1 + b_2 ≤ b) (g6 : m r0 = .inr (8, fs_5)) (z7 : r0 ≠ 0) (M8 : mm_W l G k_M_low 0 (lv_args 0 [.ref r0, .int 33639248, .int 4]) [] b_1 m (mm_is (.inl none) m_4)) (hb11 : b_9 + b_10 ≤ b_2) (g14 : m_4 r0 = .inr (8, fs_13)) (M15 : mm_W l G k_M_low 0 (lv_args 0 [.ref r0, .int 20, .int 2]) [] b_9 m_4 (mm_is (.inl none) m_12)) (hb18 : b_16 + b_17 ≤ b_10) (g21 : m_12 r0 = .inr (8, fs_20)) (M22 : mm_W l G k_M_low 0 (lv_args 0 [.ref r0, .int 20, .int 2]) [] b_16 m_12 (mm_is (.inl none) m_19)) (hb25 : b_23 + b_24 ≤ b_17) (g28 : m_19 r0 = .inr (8, fs_27)) (M29 : mm_W l G k_M_middle 0 (lv_args 0 [.ref r0, .int x3]) [] b_23 m_19 (mm_is (.inl none) m_26)) (hb32 : b_30 + b_31 ≤ b_24) (g35 : m_26 r0 = .inr (8, fs_34)) (M36 : mm_W l G k_M_low 0 (lv_args 0 [.ref r0, .int 0, .int 10]) [] b_30 m_26 (mm_is (.inl none) m_33)) (g38 : m_33 r0 = .inr (8, fs_37)) (v40 : fs_37[24]? = some (.ref q_39)) (a43 : m_33 q_39 = .inl (G.2 2, n_41, .inr (.inl f_42))) (z44 : q_39 ≠ 0) (i45 : vp_in x3 n_41) (hb48 : b_46 + b_47 ≤ b_31) (M50 : mm_W l G k_M_low 0 (lv_args 0 [.ref r0, .int ((f_42 x3.toNatClampNeg).toInt32), .int 4]) [] b_46 m_33 (mm_is (.inl none) m_49)) (hb53 : b_51 + b_52 ≤ b_47) (g56 : m_49 r0 = .inr (8, fs_55)) (M57 : mm_W l G k_M_writeName 0 (lv_args 0 [.ref r0, .int x3]) [] b_51 m_49 (mm_is (.inl none) m_54)) (h58 : mm_W l G k_M_write 163 [(0, .ref r0), (2, .int x2), (3, .int (x3 + 1))] [] b_52 m_54 Q) : mm_W l G k_M_write 171 [(0, .ref r0), (2, .int x2), (3, .int x3)] [] b m Q := by
  refine mm_aload_n 0 (i := 0) d_M_write_171 rfl rfl ?_
  refine mm_ldc (v := 33639248) w_961 d_M_write_172 ?_
  refine mm_iconst d_M_write_174 (v := 4) (by decide) ?_
  refine mm_callV (as := [.int 33639248, .int 4]) (st := []) (b2 := b_2) ca_M_low w_949 w_951 v_M_low cc_M.1 rfl d_M_write_175 rfl (Nat.le_of_ble_eq_true rfl) (Nat.le_of_ble_eq_true rfl) (Nat.le_of_ble_eq_true rfl) hb3 g6 z7 M8 (fun E _ ⟨c, _⟩ => nomatch c) (fun v _ ⟨c, e⟩ => ?_)
  cases c
  rw [e]
  show mm_W l G k_M_write 178 [(0, .ref r0), (2, .int x2), (3, .int x3)] [] b_2 m_4 Q
  refine mm_aload_n 0 (i := 0) d_M_write_178 rfl rfl ?_
  refine mm_bipush d_M_write_179 (v := 20) (by decide) ?_
  refine mm_iconst d_M_write_181 (v := 2) (by decide) ?_
  refine mm_callV (as := [.int 20, .int 2]) (st := []) (b2 := b_10) ca_M_low w_949 w_951 v_M_low cc_M.1 rfl d_M_write_182 rfl (Nat.le_of_ble_eq_true rfl) (Nat.le_of_ble_eq_true rfl) (Nat.le_of_ble_eq_true rfl) hb11 g14 z7 M15 (fun E _ ⟨c, _⟩ => nomatch c) (fun v _ ⟨c, e⟩ => ?_)
  cases c
  rw [e]
  show mm_W l G k_M_write 185 [(0, .ref r0), (2, .int x2), (3, .int x3)] [] b_10 m_12 Q
  refine mm_aload_n 0 (i := 0) d_M_write_185 rfl rfl ?_
  refine mm_bipush d_M_write_186 (v := 20) (by decide) ?_
  refine mm_iconst d_M_write_188 (v := 2) (by decide) ?_
  refine mm_callV (as := [.int 20, .int 2]) (st := []) (b2 := b_17) ca_M_low w_949 w_951 v_M_low cc_M.1 rfl d_M_write_189 rfl (Nat.le_of_ble_eq_true rfl) (Nat.le_of_ble_eq_true rfl) (Nat.le_of_ble_eq_true rfl) hb18 g21 z7 M22 (fun E _ ⟨c, _⟩ => nomatch c) (fun v _ ⟨c, e⟩ => ?_)
  cases c
  rw [e]
  show mm_W l G k_M_write 192 [(0, .ref r0), (2, .int x2), (3, .int x3)] [] b_17 m_19 Q
  refine mm_aload_n 0 (i := 0) d_M_write_192 rfl rfl ?_
  refine mm_iload_n 2 (i := 3) d_M_write_193 rfl rfl ?_
  refine mm_callV (as := [.int x3]) (st := []) (b2 := b_24) ca_M_middle w_953 w_955 v_M_middle cc_M.1 rfl d_M_write_194 rfl (Nat.le_of_ble_eq_true rfl) (Nat.le_of_ble_eq_true rfl) (Nat.le_of_ble_eq_true rfl) hb25 g28 z7 M29 (fun E _ ⟨c, _⟩ => nomatch c) (fun v _ ⟨c, e⟩ => ?_)
  cases c
  rw [e]
  show mm_W l G k_M_write 197 [(0, .ref r0), (2, .int x2), (3, .int x3)] [] b_24 m_26 Q
  refine mm_aload_n 0 (i := 0) d_M_write_197 rfl rfl ?_
  refine mm_iconst d_M_write_198 (v := 0) (by decide) ?_
  refine mm_bipush d_M_write_199 (v := 10) (by decide) ?_
  refine mm_callV (as := [.int 0, .int 10]) (st := []) (b2 := b_31) ca_M_low w_949 w_951 v_M_low cc_M.1 rfl d_M_write_201 rfl (Nat.le_of_ble_eq_true rfl) (Nat.le_of_ble_eq_true rfl) (Nat.le_of_ble_eq_true rfl) hb32 g35 z7 M36 (fun E _ ⟨c, _⟩ => nomatch c) (fun v _ ⟨c, e⟩ => ?_)
  cases c
  rw [e]
  show mm_W l G k_M_write 204 [(0, .ref r0), (2, .int x2), (3, .int x3)] [] b_31 m_33 Q
  refine mm_aload_n 0 (i := 0) d_M_write_204 rfl rfl ?_
  refine mm_aload_n 0 (i := 0) d_M_write_205 rfl rfl ?_
  refine mm_get cc_M 24 (by decide) w_767 d_M_write_206 g38 z7 v40 ?_
  refine mm_iload_n 2 (i := 3) d_M_write_209 rfl rfl ?_
  refine mm_lald d_M_write_210 a43 z44 i45 ?_
  refine mm_l2i d_M_write_211 ?_
  refine mm_iconst d_M_write_212 (v := 4) (by decide) ?_
  refine mm_callV (as := [.int ((f_42 x3.toNatClampNeg).toInt32), .int 4]) (st := []) (b2 := b_47) ca_M_low w_949 w_951 v_M_low cc_M.1 rfl d_M_write_213 rfl (Nat.le_of_ble_eq_true rfl) (Nat.le_of_ble_eq_true rfl) (Nat.le_of_ble_eq_true rfl) hb48 g38 z7 M50 (fun E _ ⟨c, _⟩ => nomatch c) (fun v _ ⟨c, e⟩ => ?_)
  cases c
  rw [e]
  show mm_W l G k_M_write 216 [(0, .ref r0), (2, .int x2), (3, .int x3)] [] b_47 m_49 Q
  refine mm_aload_n 0 (i := 0) d_M_write_216 rfl rfl ?_
  refine mm_iload_n 2 (i := 3) d_M_write_217 rfl rfl ?_
  refine mm_callV (as := [.int x3]) (st := []) (b2 := b_52) ca_M_writeName w_957 w_959 v_M_writeName cc_M.1 rfl d_M_write_218 rfl (Nat.le_of_ble_eq_true rfl) (Nat.le_of_ble_eq_true rfl) (Nat.le_of_ble_eq_true rfl) hb53 g56 z7 M57 (fun E _ ⟨c, _⟩ => nomatch c) (fun v _ ⟨c, e⟩ => ?_)
  cases c
  rw [e]
  show mm_W l G k_M_write 221 [(0, .ref r0), (2, .int x2), (3, .int x3)] [] b_52 m_54 Q
  refine mm_iinc 2 (i := 3) d_M_write_221 rfl (v := x3 + 1) rfl (Nat.le_of_ble_eq_true rfl) (lv2 := [(3, .int (x3 + 1)), (0, .ref r0), (2, .int x2)]) rfl ?_
  refine mm_goto (tgt := 163) d_M_write_224 (by decide) ?_
  exact mm_sub [1, 2, 0] rfl h58
theorem t_M_write_227 {l : Launch} {G : mm_G} {b : Nat} {m : mm_Mem} {Q : mm_O → mm_Mem → Prop} {r0 : Nat} {x2 : Int32} {fs_1 : List Value} {u_4 : Int32} {b_6 : Nat} {b_7 : Nat} {m_9 : mm_Mem} {b_11 : Nat} {b_12 : Nat} {m_14 : mm_Mem} {fs_15 : List Value} {fs_18 : List Value} {u_20 : Int32} {b_22 : Nat} {b_23 : Nat} {m_25 : mm_Mem} {fs_27 : List Value} {u_29 : Int32} {b_31 : Nat} {b_32 : Nat} {m_34 : mm_Mem} {b_36 : Nat} {b_37 : Nat} {m_39 : mm_Mem} {fs_40 : List Value} {b_43 : Nat} {b_44 : Nat} {m_46 : mm_Mem} {fs_47 : List Value} {b_50 : Nat} {b_51 : Nat} {m_53 : mm_Mem} {fs_54 : List Value} {fs_57 : List Value} {u_59 : Int32} {fs_62 : List Value} {u_64 : Int32} (g2 : m r0 = .inr (8, fs_1)) (z3 : r0 ≠ 0) (v5 : fs_1[28]? = some (.int u_4)) (hb8 : b_6 + b_7 ≤ b) (M10 : mm_W l G k_M_low 0 (lv_args 0 [.ref r0, .int 101010256, .int 4]) [] b_6 m (mm_is (.inl none) m_9)) (hb13 : b_11 + b_12 ≤ b_7) (g16 : m_9 r0 = .inr (8, fs_15)) (M17 : mm_W l G k_M_low 0 (lv_args 0 [.ref r0, .int 0, .int 4]) [] b_11 m_9 (mm_is (.inl none) m_14)) (g19 : m_14 r0 = .inr (8, fs_18)) (v21 : fs_18[5]? = some (.int u_20)) (hb24 : b_22 + b_23 ≤ b_12) (M26 : mm_W l G k_M_low 0 (lv_args 0 [.ref r0, .int u_20, .int 2]) [] b_22 m_14 (mm_is (.inl none) m_25)) (g28 : m_25 r0 = .inr (8, fs_27)) (v30 : fs_27[5]? = some (.int u_29)) (hb33 : b_31 + b_32 ≤ b_23) (M35 : mm_W l G k_M_low 0 (lv_args 0 [.ref r0, .int u_29, .int 2]) [] b_31 m_25 (mm_is (.inl none) m_34)) (hb38 : b_36 + b_37 ≤ b_32) (g41 : m_34 r0 = .inr (8, fs_40)) (M42 : mm_W l G k_M_low 0 (lv_args 0 [.ref r0, .int (u_4 - x2), .int 4]) [] b_36 m_34 (mm_is (.inl none) m_39)) (hb45 : b_43 + b_44 ≤ b_37) (g48 : m_39 r0 = .inr (8, fs_47)) (M49 : mm_W l G k_M_low 0 (lv_args 0 [.ref r0, .int x2, .int 4]) [] b_43 m_39 (mm_is (.inl none) m_46)) (hb52 : b_50 + b_51 ≤ b_44) (g55 : m_46 r0 = .inr (8, fs_54)) (M56 : mm_W l G k_M_low 0 (lv_args 0 [.ref r0, .int 0, .int 2]) [] b_50 m_46 (mm_is (.inl none) m_53)) (g58 : m_53 r0 = .inr (8, fs_57)) (v60 : fs_57[28]? = some (.int u_59)) (l61 : 1 < fs_57.length) (g63 : (va_up m_53 r0 (.inr (8, fs_57.set 1 (.int u_59)))) r0 = .inr (8, fs_62)) (v65 : fs_62[1]? = some (.int u_64)) (h66 : Q (.inl (some (.int u_64))) (va_up m_53 r0 (.inr (8, fs_57.set 1 (.int u_59))))) : mm_W l G k_M_write 227 [(0, .ref r0), (2, .int x2)] [] b m Q := by
  refine mm_aload_n 0 (i := 0) d_M_write_227 rfl rfl ?_
  refine mm_get cc_M 28 (by decide) w_771 d_M_write_228 g2 z3 v5 ?_
  refine mm_istore_n (i := 3) d_M_write_231 rfl (Nat.le_of_ble_eq_true rfl) (lv2 := [(3, .int u_4), (0, .ref r0), (2, .int x2)]) rfl ?_
  refine mm_aload_n 1 (i := 0) d_M_write_232 rfl rfl ?_
  refine mm_ldc (v := 101010256) w_962 d_M_write_233 ?_
  refine mm_iconst d_M_write_235 (v := 4) (by decide) ?_
  refine mm_callV (as := [.int 101010256, .int 4]) (st := []) (b2 := b_7) ca_M_low w_949 w_951 v_M_low cc_M.1 rfl d_M_write_236 rfl (Nat.le_of_ble_eq_true rfl) (Nat.le_of_ble_eq_true rfl) (Nat.le_of_ble_eq_true rfl) hb8 g2 z3 M10 (fun E _ ⟨c, _⟩ => nomatch c) (fun v _ ⟨c, e⟩ => ?_)
  cases c
  rw [e]
  show mm_W l G k_M_write 239 [(3, .int u_4), (0, .ref r0), (2, .int x2)] [] b_7 m_9 Q
  refine mm_aload_n 1 (i := 0) d_M_write_239 rfl rfl ?_
  refine mm_iconst d_M_write_240 (v := 0) (by decide) ?_
  refine mm_iconst d_M_write_241 (v := 4) (by decide) ?_
  refine mm_callV (as := [.int 0, .int 4]) (st := []) (b2 := b_12) ca_M_low w_949 w_951 v_M_low cc_M.1 rfl d_M_write_242 rfl (Nat.le_of_ble_eq_true rfl) (Nat.le_of_ble_eq_true rfl) (Nat.le_of_ble_eq_true rfl) hb13 g16 z3 M17 (fun E _ ⟨c, _⟩ => nomatch c) (fun v _ ⟨c, e⟩ => ?_)
  cases c
  rw [e]
  show mm_W l G k_M_write 245 [(3, .int u_4), (0, .ref r0), (2, .int x2)] [] b_12 m_14 Q
  refine mm_aload_n 1 (i := 0) d_M_write_245 rfl rfl ?_
  refine mm_aload_n 1 (i := 0) d_M_write_246 rfl rfl ?_
  refine mm_get cc_M 5 (by decide) w_748 d_M_write_247 g19 z3 v21 ?_
  refine mm_iconst d_M_write_250 (v := 2) (by decide) ?_
  refine mm_callV (as := [.int u_20, .int 2]) (st := []) (b2 := b_23) ca_M_low w_949 w_951 v_M_low cc_M.1 rfl d_M_write_251 rfl (Nat.le_of_ble_eq_true rfl) (Nat.le_of_ble_eq_true rfl) (Nat.le_of_ble_eq_true rfl) hb24 g19 z3 M26 (fun E _ ⟨c, _⟩ => nomatch c) (fun v _ ⟨c, e⟩ => ?_)
  cases c
  rw [e]
  show mm_W l G k_M_write 254 [(3, .int u_4), (0, .ref r0), (2, .int x2)] [] b_23 m_25 Q
  refine mm_aload_n 1 (i := 0) d_M_write_254 rfl rfl ?_
  refine mm_aload_n 1 (i := 0) d_M_write_255 rfl rfl ?_
  refine mm_get cc_M 5 (by decide) w_748 d_M_write_256 g28 z3 v30 ?_
  refine mm_iconst d_M_write_259 (v := 2) (by decide) ?_
  refine mm_callV (as := [.int u_29, .int 2]) (st := []) (b2 := b_32) ca_M_low w_949 w_951 v_M_low cc_M.1 rfl d_M_write_260 rfl (Nat.le_of_ble_eq_true rfl) (Nat.le_of_ble_eq_true rfl) (Nat.le_of_ble_eq_true rfl) hb33 g28 z3 M35 (fun E _ ⟨c, _⟩ => nomatch c) (fun v _ ⟨c, e⟩ => ?_)
  cases c
  rw [e]
  show mm_W l G k_M_write 263 [(3, .int u_4), (0, .ref r0), (2, .int x2)] [] b_32 m_34 Q
  refine mm_aload_n 1 (i := 0) d_M_write_263 rfl rfl ?_
  refine mm_iload_n 0 (i := 3) d_M_write_264 rfl rfl ?_
  refine mm_iload_n 2 (i := 2) d_M_write_265 rfl rfl ?_
  refine mm_isub d_M_write_266 ?_
  refine mm_iconst d_M_write_267 (v := 4) (by decide) ?_
  refine mm_callV (as := [.int (u_4 - x2), .int 4]) (st := []) (b2 := b_37) ca_M_low w_949 w_951 v_M_low cc_M.1 rfl d_M_write_268 rfl (Nat.le_of_ble_eq_true rfl) (Nat.le_of_ble_eq_true rfl) (Nat.le_of_ble_eq_true rfl) hb38 g41 z3 M42 (fun E _ ⟨c, _⟩ => nomatch c) (fun v _ ⟨c, e⟩ => ?_)
  cases c
  rw [e]
  show mm_W l G k_M_write 271 [(3, .int u_4), (0, .ref r0), (2, .int x2)] [] b_37 m_39 Q
  refine mm_aload_n 1 (i := 0) d_M_write_271 rfl rfl ?_
  refine mm_iload_n 2 (i := 2) d_M_write_272 rfl rfl ?_
  refine mm_iconst d_M_write_273 (v := 4) (by decide) ?_
  refine mm_callV (as := [.int x2, .int 4]) (st := []) (b2 := b_44) ca_M_low w_949 w_951 v_M_low cc_M.1 rfl d_M_write_274 rfl (Nat.le_of_ble_eq_true rfl) (Nat.le_of_ble_eq_true rfl) (Nat.le_of_ble_eq_true rfl) hb45 g48 z3 M49 (fun E _ ⟨c, _⟩ => nomatch c) (fun v _ ⟨c, e⟩ => ?_)
  cases c
  rw [e]
  show mm_W l G k_M_write 277 [(3, .int u_4), (0, .ref r0), (2, .int x2)] [] b_44 m_46 Q
  refine mm_aload_n 1 (i := 0) d_M_write_277 rfl rfl ?_
  refine mm_iconst d_M_write_278 (v := 0) (by decide) ?_
  refine mm_iconst d_M_write_279 (v := 2) (by decide) ?_
  refine mm_callV (as := [.int 0, .int 2]) (st := []) (b2 := b_51) ca_M_low w_949 w_951 v_M_low cc_M.1 rfl d_M_write_280 rfl (Nat.le_of_ble_eq_true rfl) (Nat.le_of_ble_eq_true rfl) (Nat.le_of_ble_eq_true rfl) hb52 g55 z3 M56 (fun E _ ⟨c, _⟩ => nomatch c) (fun v _ ⟨c, e⟩ => ?_)
  cases c
  rw [e]
  show mm_W l G k_M_write 283 [(3, .int u_4), (0, .ref r0), (2, .int x2)] [] b_51 m_53 Q
  refine mm_aload_n 1 (i := 0) d_M_write_283 rfl rfl ?_
  refine mm_aload_n 1 (i := 0) d_M_write_284 rfl rfl ?_
  refine mm_get cc_M 28 (by decide) w_771 d_M_write_285 g58 z3 v60 ?_
  refine mm_putf cc_M 1 (by decide) w_744 d_M_write_288 rfl (fun _ => rfl) (fun _ => rfl) g58 z3 l61 ?_
  refine mm_aload_n 1 (i := 0) d_M_write_291 rfl rfl ?_
  refine mm_get cc_M 1 (by decide) w_744 d_M_write_292 g63 z3 v65 ?_
  exact mm_iret d_M_write_295 rfl h66
