theorem d_M_two_0 : decode prog_11_method_34_code 0 = .ok (.aload_n 0, 1) := by decide +kernel
theorem d_M_two_1 : decode prog_11_method_34_code 1 = .ok (.getfield 8, 3) := by decide +kernel
theorem d_M_two_4 : decode prog_11_method_34_code 4 = .ok (.lload_n 1, 1) := by decide +kernel
theorem d_M_two_5 : decode prog_11_method_34_code 5 = .ok (.l2i, 1) := by decide +kernel
theorem d_M_two_6 : decode prog_11_method_34_code 6 = .ok (.baload, 1) := by decide +kernel
theorem d_M_two_7 : decode prog_11_method_34_code 7 = .ok (.sipush 255, 3) := by decide +kernel
theorem d_M_two_10 : decode prog_11_method_34_code 10 = .ok (.iand, 1) := by decide +kernel
theorem d_M_two_11 : decode prog_11_method_34_code 11 = .ok (.sipush 256, 3) := by decide +kernel
theorem d_M_two_14 : decode prog_11_method_34_code 14 = .ok (.aload_n 0, 1) := by decide +kernel
theorem d_M_two_15 : decode prog_11_method_34_code 15 = .ok (.getfield 8, 3) := by decide +kernel
theorem d_M_two_18 : decode prog_11_method_34_code 18 = .ok (.lload_n 1, 1) := by decide +kernel
theorem d_M_two_19 : decode prog_11_method_34_code 19 = .ok (.l2i, 1) := by decide +kernel
theorem d_M_two_20 : decode prog_11_method_34_code 20 = .ok (.iconst 1, 1) := by decide +kernel
theorem d_M_two_21 : decode prog_11_method_34_code 21 = .ok (.iadd, 1) := by decide +kernel
theorem d_M_two_22 : decode prog_11_method_34_code 22 = .ok (.baload, 1) := by decide +kernel
theorem d_M_two_23 : decode prog_11_method_34_code 23 = .ok (.sipush 255, 3) := by decide +kernel
theorem d_M_two_26 : decode prog_11_method_34_code 26 = .ok (.iand, 1) := by decide +kernel
theorem d_M_two_27 : decode prog_11_method_34_code 27 = .ok (.imul, 1) := by decide +kernel
theorem d_M_two_28 : decode prog_11_method_34_code 28 = .ok (.iadd, 1) := by decide +kernel
theorem d_M_two_29 : decode prog_11_method_34_code 29 = .ok (.ireturn, 1) := by decide +kernel
theorem d_M_four_0 : decode prog_11_method_35_code 0 = .ok (.aload_n 0, 1) := by decide +kernel
theorem d_M_four_1 : decode prog_11_method_35_code 1 = .ok (.lload_n 1, 1) := by decide +kernel
theorem d_M_four_2 : decode prog_11_method_35_code 2 = .ok (.invokevirtual 143, 3) := by decide +kernel
theorem d_M_four_5 : decode prog_11_method_35_code 5 = .ok (.i2l, 1) := by decide +kernel
theorem d_M_four_6 : decode prog_11_method_35_code 6 = .ok (.ldc2_w 147, 3) := by decide +kernel
theorem d_M_four_9 : decode prog_11_method_35_code 9 = .ok (.aload_n 0, 1) := by decide +kernel
theorem d_M_four_10 : decode prog_11_method_35_code 10 = .ok (.lload_n 1, 1) := by decide +kernel
theorem d_M_four_11 : decode prog_11_method_35_code 11 = .ok (.ldc2_w 149, 3) := by decide +kernel
theorem d_M_four_14 : decode prog_11_method_35_code 14 = .ok (.ladd, 1) := by decide +kernel
theorem d_M_four_15 : decode prog_11_method_35_code 15 = .ok (.invokevirtual 143, 3) := by decide +kernel
theorem d_M_four_18 : decode prog_11_method_35_code 18 = .ok (.i2l, 1) := by decide +kernel
theorem d_M_four_19 : decode prog_11_method_35_code 19 = .ok (.lmul, 1) := by decide +kernel
theorem d_M_four_20 : decode prog_11_method_35_code 20 = .ok (.ladd, 1) := by decide +kernel
theorem d_M_four_21 : decode prog_11_method_35_code 21 = .ok (.lreturn, 1) := by decide +kernel
theorem d_M_wrong_0 : decode prog_11_method_36_code 0 = .ok (.aload_n 0, 1) := by decide +kernel
theorem d_M_wrong_1 : decode prog_11_method_36_code 1 = .ok (.iload_n 1, 1) := by decide +kernel
theorem d_M_wrong_2 : decode prog_11_method_36_code 2 = .ok (.putfield 151, 3) := by decide +kernel
theorem d_M_wrong_5 : decode prog_11_method_36_code 5 = .ok (.aload_n 0, 1) := by decide +kernel
theorem d_M_wrong_6 : decode prog_11_method_36_code 6 = .ok (.lload_n 2, 1) := by decide +kernel
theorem d_M_wrong_7 : decode prog_11_method_36_code 7 = .ok (.ldc2_w 147, 3) := by decide +kernel
theorem d_M_wrong_10 : decode prog_11_method_36_code 10 = .ok (.lcmp, 1) := by decide +kernel
theorem d_M_wrong_11 : decode prog_11_method_36_code 11 = .ok (.ifCond .le 9, 3) := by decide +kernel
theorem d_M_wrong_14 : decode prog_11_method_36_code 14 = .ok (.ldc2_w 147, 3) := by decide +kernel
theorem d_M_wrong_17 : decode prog_11_method_36_code 17 = .ok (.goto 4, 3) := by decide +kernel
theorem d_M_wrong_20 : decode prog_11_method_36_code 20 = .ok (.lload_n 2, 1) := by decide +kernel
theorem d_M_wrong_21 : decode prog_11_method_36_code 21 = .ok (.l2i, 1) := by decide +kernel
theorem d_M_wrong_22 : decode prog_11_method_36_code 22 = .ok (.putfield 45, 3) := by decide +kernel
theorem d_M_wrong_25 : decode prog_11_method_36_code 25 = .ok (.aload_n 0, 1) := by decide +kernel
theorem d_M_wrong_26 : decode prog_11_method_36_code 26 = .ok (.iload 4, 2) := by decide +kernel
theorem d_M_wrong_28 : decode prog_11_method_36_code 28 = .ok (.putfield 49, 3) := by decide +kernel
theorem d_M_wrong_31 : decode prog_11_method_36_code 31 = .ok (.iconst 1, 1) := by decide +kernel
theorem d_M_wrong_32 : decode prog_11_method_36_code 32 = .ok (.ireturn, 1) := by decide +kernel
theorem d_M_findEnd_0 : decode prog_11_method_37_code 0 = .ok (.aload_n 0, 1) := by decide +kernel
theorem d_M_findEnd_1 : decode prog_11_method_37_code 1 = .ok (.aload_n 0, 1) := by decide +kernel
theorem d_M_findEnd_2 : decode prog_11_method_37_code 2 = .ok (.getfield 72, 3) := by decide +kernel
theorem d_M_findEnd_5 : decode prog_11_method_37_code 5 = .ok (.bipush 22, 2) := by decide +kernel
theorem d_M_findEnd_7 : decode prog_11_method_37_code 7 = .ok (.isub, 1) := by decide +kernel
theorem d_M_findEnd_8 : decode prog_11_method_37_code 8 = .ok (.putfield 154, 3) := by decide +kernel
theorem d_M_findEnd_11 : decode prog_11_method_37_code 11 = .ok (.aload_n 0, 1) := by decide +kernel
theorem d_M_findEnd_12 : decode prog_11_method_37_code 12 = .ok (.getfield 154, 3) := by decide +kernel
theorem d_M_findEnd_15 : decode prog_11_method_37_code 15 = .ok (.ifCond .lt 59, 3) := by decide +kernel
theorem d_M_findEnd_18 : decode prog_11_method_37_code 18 = .ok (.aload_n 0, 1) := by decide +kernel
theorem d_M_findEnd_19 : decode prog_11_method_37_code 19 = .ok (.aload_n 0, 1) := by decide +kernel
theorem d_M_findEnd_20 : decode prog_11_method_37_code 20 = .ok (.getfield 154, 3) := by decide +kernel
theorem d_M_findEnd_23 : decode prog_11_method_37_code 23 = .ok (.i2l, 1) := by decide +kernel
theorem d_M_findEnd_24 : decode prog_11_method_37_code 24 = .ok (.invokevirtual 157, 3) := by decide +kernel
theorem d_M_findEnd_27 : decode prog_11_method_37_code 27 = .ok (.ldc2_w 161, 3) := by decide +kernel
theorem d_M_findEnd_30 : decode prog_11_method_37_code 30 = .ok (.lcmp, 1) := by decide +kernel
theorem d_M_findEnd_31 : decode prog_11_method_37_code 31 = .ok (.ifCond .ne 30, 3) := by decide +kernel
theorem d_M_findEnd_34 : decode prog_11_method_37_code 34 = .ok (.aload_n 0, 1) := by decide +kernel
theorem d_M_findEnd_35 : decode prog_11_method_37_code 35 = .ok (.getfield 154, 3) := by decide +kernel
theorem d_M_findEnd_38 : decode prog_11_method_37_code 38 = .ok (.bipush 22, 2) := by decide +kernel
theorem d_M_findEnd_40 : decode prog_11_method_37_code 40 = .ok (.iadd, 1) := by decide +kernel
theorem d_M_findEnd_41 : decode prog_11_method_37_code 41 = .ok (.aload_n 0, 1) := by decide +kernel
theorem d_M_findEnd_42 : decode prog_11_method_37_code 42 = .ok (.aload_n 0, 1) := by decide +kernel
theorem d_M_findEnd_43 : decode prog_11_method_37_code 43 = .ok (.getfield 154, 3) := by decide +kernel
theorem d_M_findEnd_46 : decode prog_11_method_37_code 46 = .ok (.bipush 20, 2) := by decide +kernel
theorem d_M_findEnd_48 : decode prog_11_method_37_code 48 = .ok (.iadd, 1) := by decide +kernel
theorem d_M_findEnd_49 : decode prog_11_method_37_code 49 = .ok (.i2l, 1) := by decide +kernel
theorem d_M_findEnd_50 : decode prog_11_method_37_code 50 = .ok (.invokevirtual 143, 3) := by decide +kernel
theorem d_M_findEnd_53 : decode prog_11_method_37_code 53 = .ok (.iadd, 1) := by decide +kernel
theorem d_M_findEnd_54 : decode prog_11_method_37_code 54 = .ok (.aload_n 0, 1) := by decide +kernel
theorem d_M_findEnd_55 : decode prog_11_method_37_code 55 = .ok (.getfield 72, 3) := by decide +kernel
theorem d_M_findEnd_58 : decode prog_11_method_37_code 58 = .ok (.if_icmp .eq 16, 3) := by decide +kernel
theorem d_M_findEnd_61 : decode prog_11_method_37_code 61 = .ok (.aload_n 0, 1) := by decide +kernel
theorem d_M_findEnd_62 : decode prog_11_method_37_code 62 = .ok (.dup, 1) := by decide +kernel
theorem d_M_findEnd_63 : decode prog_11_method_37_code 63 = .ok (.getfield 154, 3) := by decide +kernel
theorem d_M_findEnd_66 : decode prog_11_method_37_code 66 = .ok (.iconst 1, 1) := by decide +kernel
theorem d_M_findEnd_67 : decode prog_11_method_37_code 67 = .ok (.isub, 1) := by decide +kernel
theorem d_M_findEnd_68 : decode prog_11_method_37_code 68 = .ok (.putfield 154, 3) := by decide +kernel
theorem d_M_findEnd_71 : decode prog_11_method_37_code 71 = .ok (.goto (-60), 3) := by decide +kernel
theorem d_M_findEnd_74 : decode prog_11_method_37_code 74 = .ok (.aload_n 0, 1) := by decide +kernel
theorem d_M_findEnd_75 : decode prog_11_method_37_code 75 = .ok (.getfield 154, 3) := by decide +kernel
theorem d_M_findEnd_78 : decode prog_11_method_37_code 78 = .ok (.ifCond .ge 15, 3) := by decide +kernel
theorem d_M_findEnd_81 : decode prog_11_method_37_code 81 = .ok (.aload_n 0, 1) := by decide +kernel
theorem d_M_findEnd_82 : decode prog_11_method_37_code 82 = .ok (.iconst 1, 1) := by decide +kernel
theorem d_M_findEnd_83 : decode prog_11_method_37_code 83 = .ok (.aload_n 0, 1) := by decide +kernel
theorem d_M_findEnd_84 : decode prog_11_method_37_code 84 = .ok (.getfield 72, 3) := by decide +kernel
theorem d_M_findEnd_87 : decode prog_11_method_37_code 87 = .ok (.i2l, 1) := by decide +kernel
theorem d_M_findEnd_88 : decode prog_11_method_37_code 88 = .ok (.iconst (-1), 1) := by decide +kernel
theorem d_M_findEnd_89 : decode prog_11_method_37_code 89 = .ok (.invokevirtual 163, 3) := by decide +kernel
theorem d_M_findEnd_92 : decode prog_11_method_37_code 92 = .ok (.ireturn, 1) := by decide +kernel
theorem d_M_findEnd_93 : decode prog_11_method_37_code 93 = .ok (.aload_n 0, 1) := by decide +kernel
theorem d_M_findEnd_94 : decode prog_11_method_37_code 94 = .ok (.aload_n 0, 1) := by decide +kernel
theorem d_M_findEnd_95 : decode prog_11_method_37_code 95 = .ok (.aload_n 0, 1) := by decide +kernel
theorem d_M_findEnd_96 : decode prog_11_method_37_code 96 = .ok (.getfield 154, 3) := by decide +kernel
theorem d_M_findEnd_99 : decode prog_11_method_37_code 99 = .ok (.bipush 8, 2) := by decide +kernel
theorem d_M_findEnd_101 : decode prog_11_method_37_code 101 = .ok (.iadd, 1) := by decide +kernel
theorem d_M_findEnd_102 : decode prog_11_method_37_code 102 = .ok (.i2l, 1) := by decide +kernel
theorem d_M_findEnd_103 : decode prog_11_method_37_code 103 = .ok (.invokevirtual 143, 3) := by decide +kernel
theorem d_M_findEnd_106 : decode prog_11_method_37_code 106 = .ok (.putfield 167, 3) := by decide +kernel
theorem d_M_findEnd_109 : decode prog_11_method_37_code 109 = .ok (.aload_n 0, 1) := by decide +kernel
theorem d_M_findEnd_110 : decode prog_11_method_37_code 110 = .ok (.aload_n 0, 1) := by decide +kernel
theorem d_M_findEnd_111 : decode prog_11_method_37_code 111 = .ok (.aload_n 0, 1) := by decide +kernel
theorem d_M_findEnd_112 : decode prog_11_method_37_code 112 = .ok (.getfield 154, 3) := by decide +kernel
theorem d_M_findEnd_115 : decode prog_11_method_37_code 115 = .ok (.bipush 16, 2) := by decide +kernel
theorem d_M_findEnd_117 : decode prog_11_method_37_code 117 = .ok (.iadd, 1) := by decide +kernel
theorem d_M_findEnd_118 : decode prog_11_method_37_code 118 = .ok (.i2l, 1) := by decide +kernel
theorem d_M_findEnd_119 : decode prog_11_method_37_code 119 = .ok (.invokevirtual 157, 3) := by decide +kernel
theorem d_M_findEnd_122 : decode prog_11_method_37_code 122 = .ok (.putfield 170, 3) := by decide +kernel
theorem d_M_findEnd_125 : decode prog_11_method_37_code 125 = .ok (.aload_n 0, 1) := by decide +kernel
theorem d_M_findEnd_126 : decode prog_11_method_37_code 126 = .ok (.aload_n 0, 1) := by decide +kernel
theorem d_M_findEnd_127 : decode prog_11_method_37_code 127 = .ok (.getfield 154, 3) := by decide +kernel
theorem d_M_findEnd_130 : decode prog_11_method_37_code 130 = .ok (.iconst 4, 1) := by decide +kernel
theorem d_M_findEnd_131 : decode prog_11_method_37_code 131 = .ok (.iadd, 1) := by decide +kernel
theorem d_M_findEnd_132 : decode prog_11_method_37_code 132 = .ok (.i2l, 1) := by decide +kernel
theorem d_M_findEnd_133 : decode prog_11_method_37_code 133 = .ok (.invokevirtual 143, 3) := by decide +kernel
theorem d_M_findEnd_136 : decode prog_11_method_37_code 136 = .ok (.ifCond .ne 72, 3) := by decide +kernel
theorem d_M_findEnd_139 : decode prog_11_method_37_code 139 = .ok (.aload_n 0, 1) := by decide +kernel
theorem d_M_findEnd_140 : decode prog_11_method_37_code 140 = .ok (.aload_n 0, 1) := by decide +kernel
theorem d_M_findEnd_141 : decode prog_11_method_37_code 141 = .ok (.getfield 154, 3) := by decide +kernel
theorem d_M_findEnd_144 : decode prog_11_method_37_code 144 = .ok (.bipush 6, 2) := by decide +kernel
theorem d_M_findEnd_146 : decode prog_11_method_37_code 146 = .ok (.iadd, 1) := by decide +kernel
theorem d_M_findEnd_147 : decode prog_11_method_37_code 147 = .ok (.i2l, 1) := by decide +kernel
theorem d_M_findEnd_148 : decode prog_11_method_37_code 148 = .ok (.invokevirtual 143, 3) := by decide +kernel
theorem d_M_findEnd_151 : decode prog_11_method_37_code 151 = .ok (.ifCond .ne 57, 3) := by decide +kernel
theorem d_M_findEnd_154 : decode prog_11_method_37_code 154 = .ok (.aload_n 0, 1) := by decide +kernel
theorem d_M_findEnd_155 : decode prog_11_method_37_code 155 = .ok (.aload_n 0, 1) := by decide +kernel
theorem d_M_findEnd_156 : decode prog_11_method_37_code 156 = .ok (.getfield 154, 3) := by decide +kernel
theorem d_M_findEnd_159 : decode prog_11_method_37_code 159 = .ok (.bipush 10, 2) := by decide +kernel
theorem d_M_findEnd_161 : decode prog_11_method_37_code 161 = .ok (.iadd, 1) := by decide +kernel
theorem d_M_findEnd_162 : decode prog_11_method_37_code 162 = .ok (.i2l, 1) := by decide +kernel
theorem d_M_findEnd_163 : decode prog_11_method_37_code 163 = .ok (.invokevirtual 143, 3) := by decide +kernel
theorem d_M_findEnd_166 : decode prog_11_method_37_code 166 = .ok (.aload_n 0, 1) := by decide +kernel
theorem d_M_findEnd_167 : decode prog_11_method_37_code 167 = .ok (.getfield 167, 3) := by decide +kernel
theorem d_M_findEnd_170 : decode prog_11_method_37_code 170 = .ok (.if_icmp .ne 38, 3) := by decide +kernel
theorem d_M_findEnd_173 : decode prog_11_method_37_code 173 = .ok (.aload_n 0, 1) := by decide +kernel
theorem d_M_findEnd_174 : decode prog_11_method_37_code 174 = .ok (.getfield 167, 3) := by decide +kernel
theorem d_M_findEnd_177 : decode prog_11_method_37_code 177 = .ok (.bipush 64, 2) := by decide +kernel
theorem d_M_findEnd_179 : decode prog_11_method_37_code 179 = .ok (.if_icmp .gt 29, 3) := by decide +kernel
theorem d_M_findEnd_182 : decode prog_11_method_37_code 182 = .ok (.aload_n 0, 1) := by decide +kernel
theorem d_M_findEnd_183 : decode prog_11_method_37_code 183 = .ok (.getfield 170, 3) := by decide +kernel
theorem d_M_findEnd_186 : decode prog_11_method_37_code 186 = .ok (.aload_n 0, 1) := by decide +kernel
theorem d_M_findEnd_187 : decode prog_11_method_37_code 187 = .ok (.aload_n 0, 1) := by decide +kernel
theorem d_M_findEnd_188 : decode prog_11_method_37_code 188 = .ok (.getfield 154, 3) := by decide +kernel
theorem d_M_findEnd_191 : decode prog_11_method_37_code 191 = .ok (.bipush 12, 2) := by decide +kernel
theorem d_M_findEnd_193 : decode prog_11_method_37_code 193 = .ok (.iadd, 1) := by decide +kernel
theorem d_M_findEnd_194 : decode prog_11_method_37_code 194 = .ok (.i2l, 1) := by decide +kernel
theorem d_M_findEnd_195 : decode prog_11_method_37_code 195 = .ok (.invokevirtual 157, 3) := by decide +kernel
theorem d_M_findEnd_198 : decode prog_11_method_37_code 198 = .ok (.ladd, 1) := by decide +kernel
theorem d_M_findEnd_199 : decode prog_11_method_37_code 199 = .ok (.aload_n 0, 1) := by decide +kernel
theorem d_M_findEnd_200 : decode prog_11_method_37_code 200 = .ok (.getfield 154, 3) := by decide +kernel
theorem d_M_findEnd_203 : decode prog_11_method_37_code 203 = .ok (.i2l, 1) := by decide +kernel
theorem d_M_findEnd_204 : decode prog_11_method_37_code 204 = .ok (.lcmp, 1) := by decide +kernel
theorem d_M_findEnd_205 : decode prog_11_method_37_code 205 = .ok (.ifCond .eq 7, 3) := by decide +kernel
theorem d_M_findEnd_208 : decode prog_11_method_37_code 208 = .ok (.iconst 1, 1) := by decide +kernel
theorem d_M_findEnd_209 : decode prog_11_method_37_code 209 = .ok (.goto 4, 3) := by decide +kernel
theorem d_M_findEnd_212 : decode prog_11_method_37_code 212 = .ok (.iconst 0, 1) := by decide +kernel
theorem d_M_findEnd_213 : decode prog_11_method_37_code 213 = .ok (.istore_n 1, 1) := by decide +kernel
theorem d_M_findEnd_214 : decode prog_11_method_37_code 214 = .ok (.iload_n 1, 1) := by decide +kernel
theorem d_M_findEnd_215 : decode prog_11_method_37_code 215 = .ok (.ifCond .eq 21, 3) := by decide +kernel
theorem d_M_findEnd_218 : decode prog_11_method_37_code 218 = .ok (.aload_n 0, 1) := by decide +kernel
theorem d_M_findEnd_219 : decode prog_11_method_37_code 219 = .ok (.iconst 2, 1) := by decide +kernel
theorem d_M_findEnd_220 : decode prog_11_method_37_code 220 = .ok (.aload_n 0, 1) := by decide +kernel
theorem d_M_findEnd_221 : decode prog_11_method_37_code 221 = .ok (.getfield 154, 3) := by decide +kernel
theorem d_M_findEnd_224 : decode prog_11_method_37_code 224 = .ok (.i2l, 1) := by decide +kernel
theorem d_M_findEnd_225 : decode prog_11_method_37_code 225 = .ok (.iconst (-1), 1) := by decide +kernel
theorem d_M_findEnd_226 : decode prog_11_method_37_code 226 = .ok (.invokevirtual 163, 3) := by decide +kernel
theorem d_M_findEnd_229 : decode prog_11_method_37_code 229 = .ok (.ifCond .eq 7, 3) := by decide +kernel
theorem d_M_findEnd_232 : decode prog_11_method_37_code 232 = .ok (.iconst 1, 1) := by decide +kernel
theorem d_M_findEnd_233 : decode prog_11_method_37_code 233 = .ok (.goto 4, 3) := by decide +kernel
theorem d_M_findEnd_236 : decode prog_11_method_37_code 236 = .ok (.iconst 0, 1) := by decide +kernel
theorem d_M_findEnd_237 : decode prog_11_method_37_code 237 = .ok (.ireturn, 1) := by decide +kernel
theorem d_M_flags_0 : decode prog_11_method_38_code 0 = .ok (.aload_n 0, 1) := by decide +kernel
theorem d_M_flags_1 : decode prog_11_method_38_code 1 = .ok (.aload_n 0, 1) := by decide +kernel
theorem d_M_flags_2 : decode prog_11_method_38_code 2 = .ok (.getfield 52, 3) := by decide +kernel
theorem d_M_flags_5 : decode prog_11_method_38_code 5 = .ok (.iload_n 1, 1) := by decide +kernel
theorem d_M_flags_6 : decode prog_11_method_38_code 6 = .ok (.iaload, 1) := by decide +kernel
theorem d_M_flags_7 : decode prog_11_method_38_code 7 = .ok (.bipush 8, 2) := by decide +kernel
theorem d_M_flags_9 : decode prog_11_method_38_code 9 = .ok (.iadd, 1) := by decide +kernel
theorem d_M_flags_10 : decode prog_11_method_38_code 10 = .ok (.i2l, 1) := by decide +kernel
theorem d_M_flags_11 : decode prog_11_method_38_code 11 = .ok (.invokevirtual 143, 3) := by decide +kernel
theorem d_M_flags_14 : decode prog_11_method_38_code 14 = .ok (.ireturn, 1) := by decide +kernel
theorem d_M_method_0 : decode prog_11_method_39_code 0 = .ok (.aload_n 0, 1) := by decide +kernel
theorem d_M_method_1 : decode prog_11_method_39_code 1 = .ok (.aload_n 0, 1) := by decide +kernel
theorem d_M_method_2 : decode prog_11_method_39_code 2 = .ok (.getfield 52, 3) := by decide +kernel
theorem d_M_method_5 : decode prog_11_method_39_code 5 = .ok (.iload_n 1, 1) := by decide +kernel
theorem d_M_method_6 : decode prog_11_method_39_code 6 = .ok (.iaload, 1) := by decide +kernel
theorem d_M_method_7 : decode prog_11_method_39_code 7 = .ok (.bipush 10, 2) := by decide +kernel
theorem d_M_method_9 : decode prog_11_method_39_code 9 = .ok (.iadd, 1) := by decide +kernel
theorem d_M_method_10 : decode prog_11_method_39_code 10 = .ok (.i2l, 1) := by decide +kernel
theorem d_M_method_11 : decode prog_11_method_39_code 11 = .ok (.invokevirtual 143, 3) := by decide +kernel
theorem d_M_method_14 : decode prog_11_method_39_code 14 = .ok (.ireturn, 1) := by decide +kernel
theorem d_M_many_0 : decode prog_11_method_40_code 0 = .ok (.aload_n 0, 1) := by decide +kernel
theorem d_M_many_1 : decode prog_11_method_40_code 1 = .ok (.aload_n 0, 1) := by decide +kernel
theorem d_M_many_2 : decode prog_11_method_40_code 2 = .ok (.getfield 52, 3) := by decide +kernel
theorem d_M_many_5 : decode prog_11_method_40_code 5 = .ok (.iload_n 1, 1) := by decide +kernel
theorem d_M_many_6 : decode prog_11_method_40_code 6 = .ok (.iaload, 1) := by decide +kernel
theorem d_M_many_7 : decode prog_11_method_40_code 7 = .ok (.bipush 20, 2) := by decide +kernel
theorem d_M_many_9 : decode prog_11_method_40_code 9 = .ok (.iadd, 1) := by decide +kernel
theorem d_M_many_10 : decode prog_11_method_40_code 10 = .ok (.i2l, 1) := by decide +kernel
theorem d_M_many_11 : decode prog_11_method_40_code 11 = .ok (.invokevirtual 157, 3) := by decide +kernel
theorem d_M_many_14 : decode prog_11_method_40_code 14 = .ok (.lreturn, 1) := by decide +kernel
theorem d_M_size_0 : decode prog_11_method_41_code 0 = .ok (.aload_n 0, 1) := by decide +kernel
theorem d_M_size_1 : decode prog_11_method_41_code 1 = .ok (.aload_n 0, 1) := by decide +kernel
theorem d_M_size_2 : decode prog_11_method_41_code 2 = .ok (.getfield 52, 3) := by decide +kernel
theorem d_M_size_5 : decode prog_11_method_41_code 5 = .ok (.iload_n 1, 1) := by decide +kernel
theorem d_M_size_6 : decode prog_11_method_41_code 6 = .ok (.iaload, 1) := by decide +kernel
theorem d_M_size_7 : decode prog_11_method_41_code 7 = .ok (.bipush 24, 2) := by decide +kernel
theorem d_M_size_9 : decode prog_11_method_41_code 9 = .ok (.iadd, 1) := by decide +kernel
theorem d_M_size_10 : decode prog_11_method_41_code 10 = .ok (.i2l, 1) := by decide +kernel
theorem d_M_size_11 : decode prog_11_method_41_code 11 = .ok (.invokevirtual 157, 3) := by decide +kernel
theorem d_M_size_14 : decode prog_11_method_41_code 14 = .ok (.lreturn, 1) := by decide +kernel
theorem d_M_nameSize_0 : decode prog_11_method_42_code 0 = .ok (.aload_n 0, 1) := by decide +kernel
theorem d_M_nameSize_1 : decode prog_11_method_42_code 1 = .ok (.aload_n 0, 1) := by decide +kernel
theorem d_M_nameSize_2 : decode prog_11_method_42_code 2 = .ok (.getfield 52, 3) := by decide +kernel
theorem d_M_nameSize_5 : decode prog_11_method_42_code 5 = .ok (.iload_n 1, 1) := by decide +kernel
theorem d_M_nameSize_6 : decode prog_11_method_42_code 6 = .ok (.iaload, 1) := by decide +kernel
theorem d_M_nameSize_7 : decode prog_11_method_42_code 7 = .ok (.bipush 28, 2) := by decide +kernel
theorem d_M_nameSize_9 : decode prog_11_method_42_code 9 = .ok (.iadd, 1) := by decide +kernel
theorem d_M_nameSize_10 : decode prog_11_method_42_code 10 = .ok (.i2l, 1) := by decide +kernel
theorem d_M_nameSize_11 : decode prog_11_method_42_code 11 = .ok (.invokevirtual 143, 3) := by decide +kernel
theorem d_M_nameSize_14 : decode prog_11_method_42_code 14 = .ok (.ireturn, 1) := by decide +kernel
theorem d_M_sameName_0 : decode prog_11_method_43_code 0 = .ok (.aload_n 0, 1) := by decide +kernel
theorem d_M_sameName_1 : decode prog_11_method_43_code 1 = .ok (.iload_n 1, 1) := by decide +kernel
theorem d_M_sameName_2 : decode prog_11_method_43_code 2 = .ok (.invokevirtual 174, 3) := by decide +kernel
theorem d_M_sameName_5 : decode prog_11_method_43_code 5 = .ok (.aload_n 0, 1) := by decide +kernel
theorem d_M_sameName_6 : decode prog_11_method_43_code 6 = .ok (.iload_n 2, 1) := by decide +kernel
theorem d_M_sameName_7 : decode prog_11_method_43_code 7 = .ok (.invokevirtual 174, 3) := by decide +kernel
theorem d_M_sameName_10 : decode prog_11_method_43_code 10 = .ok (.if_icmp .ne 7, 3) := by decide +kernel
theorem d_M_sameName_13 : decode prog_11_method_43_code 13 = .ok (.iconst 1, 1) := by decide +kernel
theorem d_M_sameName_14 : decode prog_11_method_43_code 14 = .ok (.goto 4, 3) := by decide +kernel
theorem d_M_sameName_17 : decode prog_11_method_43_code 17 = .ok (.iconst 0, 1) := by decide +kernel
theorem d_M_sameName_18 : decode prog_11_method_43_code 18 = .ok (.istore_n 3, 1) := by decide +kernel
theorem d_M_sameName_19 : decode prog_11_method_43_code 19 = .ok (.iconst 0, 1) := by decide +kernel
theorem d_M_sameName_20 : decode prog_11_method_43_code 20 = .ok (.istore 4, 2) := by decide +kernel
theorem d_M_sameName_22 : decode prog_11_method_43_code 22 = .ok (.iload 4, 2) := by decide +kernel
theorem d_M_sameName_24 : decode prog_11_method_43_code 24 = .ok (.aload_n 0, 1) := by decide +kernel
theorem d_M_sameName_25 : decode prog_11_method_43_code 25 = .ok (.iload_n 1, 1) := by decide +kernel
theorem d_M_sameName_26 : decode prog_11_method_43_code 26 = .ok (.invokevirtual 174, 3) := by decide +kernel
theorem d_M_sameName_29 : decode prog_11_method_43_code 29 = .ok (.if_icmp .ge 58, 3) := by decide +kernel
theorem d_M_sameName_32 : decode prog_11_method_43_code 32 = .ok (.iload_n 3, 1) := by decide +kernel
theorem d_M_sameName_33 : decode prog_11_method_43_code 33 = .ok (.ifCond .eq 54, 3) := by decide +kernel
theorem d_M_sameName_36 : decode prog_11_method_43_code 36 = .ok (.aload_n 0, 1) := by decide +kernel
theorem d_M_sameName_37 : decode prog_11_method_43_code 37 = .ok (.aload_n 0, 1) := by decide +kernel
theorem d_M_sameName_38 : decode prog_11_method_43_code 38 = .ok (.getfield 52, 3) := by decide +kernel
theorem d_M_sameName_41 : decode prog_11_method_43_code 41 = .ok (.iload_n 1, 1) := by decide +kernel
theorem d_M_sameName_42 : decode prog_11_method_43_code 42 = .ok (.iaload, 1) := by decide +kernel
theorem d_M_sameName_43 : decode prog_11_method_43_code 43 = .ok (.bipush 46, 2) := by decide +kernel
theorem d_M_sameName_45 : decode prog_11_method_43_code 45 = .ok (.iadd, 1) := by decide +kernel
theorem d_M_sameName_46 : decode prog_11_method_43_code 46 = .ok (.iload 4, 2) := by decide +kernel
theorem d_M_sameName_48 : decode prog_11_method_43_code 48 = .ok (.invokevirtual 78, 3) := by decide +kernel
theorem d_M_sameName_51 : decode prog_11_method_43_code 51 = .ok (.invokestatic 85, 3) := by decide +kernel
theorem d_M_sameName_54 : decode prog_11_method_43_code 54 = .ok (.aload_n 0, 1) := by decide +kernel
theorem d_M_sameName_55 : decode prog_11_method_43_code 55 = .ok (.aload_n 0, 1) := by decide +kernel
theorem d_M_sameName_56 : decode prog_11_method_43_code 56 = .ok (.getfield 52, 3) := by decide +kernel
theorem d_M_sameName_59 : decode prog_11_method_43_code 59 = .ok (.iload_n 2, 1) := by decide +kernel
theorem d_M_sameName_60 : decode prog_11_method_43_code 60 = .ok (.iaload, 1) := by decide +kernel
theorem d_M_sameName_61 : decode prog_11_method_43_code 61 = .ok (.bipush 46, 2) := by decide +kernel
theorem d_M_sameName_63 : decode prog_11_method_43_code 63 = .ok (.iadd, 1) := by decide +kernel
theorem d_M_sameName_64 : decode prog_11_method_43_code 64 = .ok (.iload 4, 2) := by decide +kernel
theorem d_M_sameName_66 : decode prog_11_method_43_code 66 = .ok (.invokevirtual 78, 3) := by decide +kernel
theorem d_M_sameName_69 : decode prog_11_method_43_code 69 = .ok (.invokestatic 85, 3) := by decide +kernel
theorem d_M_sameName_72 : decode prog_11_method_43_code 72 = .ok (.if_icmp .ne 7, 3) := by decide +kernel
theorem d_M_sameName_75 : decode prog_11_method_43_code 75 = .ok (.iconst 1, 1) := by decide +kernel
theorem d_M_sameName_76 : decode prog_11_method_43_code 76 = .ok (.goto 4, 3) := by decide +kernel
theorem d_M_sameName_79 : decode prog_11_method_43_code 79 = .ok (.iconst 0, 1) := by decide +kernel
theorem d_M_sameName_80 : decode prog_11_method_43_code 80 = .ok (.istore_n 3, 1) := by decide +kernel
theorem d_M_sameName_81 : decode prog_11_method_43_code 81 = .ok (.iinc 4 1, 3) := by decide +kernel
theorem d_M_sameName_84 : decode prog_11_method_43_code 84 = .ok (.goto (-62), 3) := by decide +kernel
theorem d_M_sameName_87 : decode prog_11_method_43_code 87 = .ok (.iload_n 3, 1) := by decide +kernel
theorem d_M_sameName_88 : decode prog_11_method_43_code 88 = .ok (.ireturn, 1) := by decide +kernel
theorem d_M_readDirectory_0 : decode prog_11_method_44_code 0 = .ok (.aload_n 0, 1) := by decide +kernel
theorem d_M_readDirectory_1 : decode prog_11_method_44_code 1 = .ok (.getfield 170, 3) := by decide +kernel
theorem d_M_readDirectory_4 : decode prog_11_method_44_code 4 = .ok (.lstore_n 1, 1) := by decide +kernel
theorem d_M_readDirectory_5 : decode prog_11_method_44_code 5 = .ok (.lconst 0, 1) := by decide +kernel
theorem d_M_readDirectory_6 : decode prog_11_method_44_code 6 = .ok (.lstore_n 3, 1) := by decide +kernel
theorem d_M_readDirectory_7 : decode prog_11_method_44_code 7 = .ok (.lconst 0, 1) := by decide +kernel
theorem d_M_readDirectory_8 : decode prog_11_method_44_code 8 = .ok (.lstore 5, 2) := by decide +kernel
theorem d_M_readDirectory_10 : decode prog_11_method_44_code 10 = .ok (.iconst 0, 1) := by decide +kernel
theorem d_M_readDirectory_11 : decode prog_11_method_44_code 11 = .ok (.istore 7, 2) := by decide +kernel
theorem d_M_readDirectory_13 : decode prog_11_method_44_code 13 = .ok (.iload 7, 2) := by decide +kernel
theorem d_M_readDirectory_15 : decode prog_11_method_44_code 15 = .ok (.aload_n 0, 1) := by decide +kernel
theorem d_M_readDirectory_16 : decode prog_11_method_44_code 16 = .ok (.getfield 167, 3) := by decide +kernel
theorem d_M_readDirectory_19 : decode prog_11_method_44_code 19 = .ok (.if_icmp .ge 348, 3) := by decide +kernel
theorem d_M_readDirectory_22 : decode prog_11_method_44_code 22 = .ok (.lload_n 1, 1) := by decide +kernel
theorem d_M_readDirectory_23 : decode prog_11_method_44_code 23 = .ok (.ldc2_w 177, 3) := by decide +kernel
theorem d_M_readDirectory_26 : decode prog_11_method_44_code 26 = .ok (.ladd, 1) := by decide +kernel
theorem d_M_readDirectory_27 : decode prog_11_method_44_code 27 = .ok (.aload_n 0, 1) := by decide +kernel
theorem d_M_readDirectory_28 : decode prog_11_method_44_code 28 = .ok (.getfield 154, 3) := by decide +kernel
theorem d_M_readDirectory_31 : decode prog_11_method_44_code 31 = .ok (.i2l, 1) := by decide +kernel
theorem d_M_readDirectory_32 : decode prog_11_method_44_code 32 = .ok (.lcmp, 1) := by decide +kernel
theorem d_M_readDirectory_33 : decode prog_11_method_44_code 33 = .ok (.ifCond .gt 15, 3) := by decide +kernel
theorem d_M_readDirectory_36 : decode prog_11_method_44_code 36 = .ok (.aload_n 0, 1) := by decide +kernel
theorem d_M_readDirectory_37 : decode prog_11_method_44_code 37 = .ok (.lload_n 1, 1) := by decide +kernel
theorem d_M_readDirectory_38 : decode prog_11_method_44_code 38 = .ok (.invokevirtual 157, 3) := by decide +kernel
theorem d_M_readDirectory_41 : decode prog_11_method_44_code 41 = .ok (.ldc2_w 179, 3) := by decide +kernel
theorem d_M_readDirectory_44 : decode prog_11_method_44_code 44 = .ok (.lcmp, 1) := by decide +kernel
theorem d_M_readDirectory_45 : decode prog_11_method_44_code 45 = .ok (.ifCond .eq 12, 3) := by decide +kernel
theorem d_M_readDirectory_48 : decode prog_11_method_44_code 48 = .ok (.aload_n 0, 1) := by decide +kernel
theorem d_M_readDirectory_49 : decode prog_11_method_44_code 49 = .ok (.iconst 3, 1) := by decide +kernel
theorem d_M_readDirectory_50 : decode prog_11_method_44_code 50 = .ok (.lload_n 1, 1) := by decide +kernel
theorem d_M_readDirectory_51 : decode prog_11_method_44_code 51 = .ok (.iload 7, 2) := by decide +kernel
theorem d_M_readDirectory_53 : decode prog_11_method_44_code 53 = .ok (.invokevirtual 163, 3) := by decide +kernel
theorem d_M_readDirectory_56 : decode prog_11_method_44_code 56 = .ok (.ireturn, 1) := by decide +kernel
theorem d_M_readDirectory_57 : decode prog_11_method_44_code 57 = .ok (.aload_n 0, 1) := by decide +kernel
theorem d_M_readDirectory_58 : decode prog_11_method_44_code 58 = .ok (.getfield 52, 3) := by decide +kernel
theorem d_M_readDirectory_61 : decode prog_11_method_44_code 61 = .ok (.iload 7, 2) := by decide +kernel
theorem d_M_readDirectory_63 : decode prog_11_method_44_code 63 = .ok (.lload_n 1, 1) := by decide +kernel
theorem d_M_readDirectory_64 : decode prog_11_method_44_code 64 = .ok (.l2i, 1) := by decide +kernel
theorem d_M_readDirectory_65 : decode prog_11_method_44_code 65 = .ok (.iastore, 1) := by decide +kernel
theorem d_M_readDirectory_66 : decode prog_11_method_44_code 66 = .ok (.lload_n 1, 1) := by decide +kernel
theorem d_M_readDirectory_67 : decode prog_11_method_44_code 67 = .ok (.ldc2_w 177, 3) := by decide +kernel
theorem d_M_readDirectory_70 : decode prog_11_method_44_code 70 = .ok (.ladd, 1) := by decide +kernel
theorem d_M_readDirectory_71 : decode prog_11_method_44_code 71 = .ok (.aload_n 0, 1) := by decide +kernel
theorem d_M_readDirectory_72 : decode prog_11_method_44_code 72 = .ok (.iload 7, 2) := by decide +kernel
theorem d_M_readDirectory_74 : decode prog_11_method_44_code 74 = .ok (.invokevirtual 174, 3) := by decide +kernel
theorem d_M_readDirectory_77 : decode prog_11_method_44_code 77 = .ok (.i2l, 1) := by decide +kernel
theorem d_M_readDirectory_78 : decode prog_11_method_44_code 78 = .ok (.ladd, 1) := by decide +kernel
theorem d_M_readDirectory_79 : decode prog_11_method_44_code 79 = .ok (.aload_n 0, 1) := by decide +kernel
theorem d_M_readDirectory_80 : decode prog_11_method_44_code 80 = .ok (.lload_n 1, 1) := by decide +kernel
theorem d_M_readDirectory_81 : decode prog_11_method_44_code 81 = .ok (.ldc2_w 181, 3) := by decide +kernel
theorem d_M_readDirectory_84 : decode prog_11_method_44_code 84 = .ok (.ladd, 1) := by decide +kernel
theorem d_M_readDirectory_85 : decode prog_11_method_44_code 85 = .ok (.invokevirtual 143, 3) := by decide +kernel
theorem d_M_readDirectory_88 : decode prog_11_method_44_code 88 = .ok (.i2l, 1) := by decide +kernel
theorem d_M_readDirectory_89 : decode prog_11_method_44_code 89 = .ok (.ladd, 1) := by decide +kernel
theorem d_M_readDirectory_90 : decode prog_11_method_44_code 90 = .ok (.aload_n 0, 1) := by decide +kernel
theorem d_M_readDirectory_91 : decode prog_11_method_44_code 91 = .ok (.lload_n 1, 1) := by decide +kernel
theorem d_M_readDirectory_92 : decode prog_11_method_44_code 92 = .ok (.ldc2_w 183, 3) := by decide +kernel
theorem d_M_readDirectory_95 : decode prog_11_method_44_code 95 = .ok (.ladd, 1) := by decide +kernel
theorem d_M_readDirectory_96 : decode prog_11_method_44_code 96 = .ok (.invokevirtual 143, 3) := by decide +kernel
theorem d_M_readDirectory_99 : decode prog_11_method_44_code 99 = .ok (.i2l, 1) := by decide +kernel
theorem d_M_readDirectory_100 : decode prog_11_method_44_code 100 = .ok (.ladd, 1) := by decide +kernel
theorem d_M_readDirectory_101 : decode prog_11_method_44_code 101 = .ok (.lstore 8, 2) := by decide +kernel
theorem d_M_readDirectory_103 : decode prog_11_method_44_code 103 = .ok (.lload 8, 2) := by decide +kernel
theorem d_M_readDirectory_105 : decode prog_11_method_44_code 105 = .ok (.aload_n 0, 1) := by decide +kernel
theorem d_M_readDirectory_106 : decode prog_11_method_44_code 106 = .ok (.getfield 154, 3) := by decide +kernel
theorem d_M_readDirectory_109 : decode prog_11_method_44_code 109 = .ok (.i2l, 1) := by decide +kernel
theorem d_M_readDirectory_110 : decode prog_11_method_44_code 110 = .ok (.lcmp, 1) := by decide +kernel
theorem d_M_readDirectory_111 : decode prog_11_method_44_code 111 = .ok (.ifCond .le 12, 3) := by decide +kernel
theorem d_M_readDirectory_114 : decode prog_11_method_44_code 114 = .ok (.aload_n 0, 1) := by decide +kernel
theorem d_M_readDirectory_115 : decode prog_11_method_44_code 115 = .ok (.iconst 3, 1) := by decide +kernel
theorem d_M_readDirectory_116 : decode prog_11_method_44_code 116 = .ok (.lload_n 1, 1) := by decide +kernel
theorem d_M_readDirectory_117 : decode prog_11_method_44_code 117 = .ok (.iload 7, 2) := by decide +kernel
theorem d_M_readDirectory_119 : decode prog_11_method_44_code 119 = .ok (.invokevirtual 163, 3) := by decide +kernel
theorem d_M_readDirectory_122 : decode prog_11_method_44_code 122 = .ok (.ireturn, 1) := by decide +kernel
theorem d_M_readDirectory_123 : decode prog_11_method_44_code 123 = .ok (.aload_n 0, 1) := by decide +kernel
theorem d_M_readDirectory_124 : decode prog_11_method_44_code 124 = .ok (.iload 7, 2) := by decide +kernel
theorem d_M_readDirectory_126 : decode prog_11_method_44_code 126 = .ok (.invokevirtual 185, 3) := by decide +kernel
theorem d_M_readDirectory_129 : decode prog_11_method_44_code 129 = .ok (.sipush (-2057), 3) := by decide +kernel
theorem d_M_readDirectory_132 : decode prog_11_method_44_code 132 = .ok (.iand, 1) := by decide +kernel
theorem d_M_readDirectory_133 : decode prog_11_method_44_code 133 = .ok (.ifCond .ne 35, 3) := by decide +kernel
theorem d_M_readDirectory_136 : decode prog_11_method_44_code 136 = .ok (.aload_n 0, 1) := by decide +kernel
theorem d_M_readDirectory_137 : decode prog_11_method_44_code 137 = .ok (.iload 7, 2) := by decide +kernel
theorem d_M_readDirectory_139 : decode prog_11_method_44_code 139 = .ok (.invokevirtual 188, 3) := by decide +kernel
theorem d_M_readDirectory_142 : decode prog_11_method_44_code 142 = .ok (.ifCond .eq 14, 3) := by decide +kernel
theorem d_M_readDirectory_145 : decode prog_11_method_44_code 145 = .ok (.aload_n 0, 1) := by decide +kernel
theorem d_M_readDirectory_146 : decode prog_11_method_44_code 146 = .ok (.iload 7, 2) := by decide +kernel
theorem d_M_readDirectory_148 : decode prog_11_method_44_code 148 = .ok (.invokevirtual 188, 3) := by decide +kernel
theorem d_M_readDirectory_151 : decode prog_11_method_44_code 151 = .ok (.bipush 8, 2) := by decide +kernel
theorem d_M_readDirectory_153 : decode prog_11_method_44_code 153 = .ok (.if_icmp .ne 15, 3) := by decide +kernel
theorem d_M_readDirectory_156 : decode prog_11_method_44_code 156 = .ok (.aload_n 0, 1) := by decide +kernel
theorem d_M_readDirectory_157 : decode prog_11_method_44_code 157 = .ok (.lload_n 1, 1) := by decide +kernel
theorem d_M_readDirectory_158 : decode prog_11_method_44_code 158 = .ok (.ldc2_w 191, 3) := by decide +kernel
theorem d_M_readDirectory_161 : decode prog_11_method_44_code 161 = .ok (.ladd, 1) := by decide +kernel
theorem d_M_readDirectory_162 : decode prog_11_method_44_code 162 = .ok (.invokevirtual 143, 3) := by decide +kernel
theorem d_M_readDirectory_165 : decode prog_11_method_44_code 165 = .ok (.ifCond .eq 12, 3) := by decide +kernel
theorem d_M_readDirectory_168 : decode prog_11_method_44_code 168 = .ok (.aload_n 0, 1) := by decide +kernel
theorem d_M_readDirectory_169 : decode prog_11_method_44_code 169 = .ok (.iconst 4, 1) := by decide +kernel
theorem d_M_readDirectory_170 : decode prog_11_method_44_code 170 = .ok (.lload_n 1, 1) := by decide +kernel
theorem d_M_readDirectory_171 : decode prog_11_method_44_code 171 = .ok (.iload 7, 2) := by decide +kernel
theorem d_M_readDirectory_173 : decode prog_11_method_44_code 173 = .ok (.invokevirtual 163, 3) := by decide +kernel
theorem d_M_readDirectory_176 : decode prog_11_method_44_code 176 = .ok (.ireturn, 1) := by decide +kernel
theorem d_M_readDirectory_177 : decode prog_11_method_44_code 177 = .ok (.iconst 0, 1) := by decide +kernel
theorem d_M_readDirectory_178 : decode prog_11_method_44_code 178 = .ok (.istore 10, 2) := by decide +kernel
theorem d_M_readDirectory_180 : decode prog_11_method_44_code 180 = .ok (.iconst 0, 1) := by decide +kernel
theorem d_M_readDirectory_181 : decode prog_11_method_44_code 181 = .ok (.istore 11, 2) := by decide +kernel
theorem d_M_readDirectory_183 : decode prog_11_method_44_code 183 = .ok (.iload 11, 2) := by decide +kernel
theorem d_M_readDirectory_185 : decode prog_11_method_44_code 185 = .ok (.iload 7, 2) := by decide +kernel
theorem d_M_readDirectory_187 : decode prog_11_method_44_code 187 = .ok (.if_icmp .ge 32, 3) := by decide +kernel
theorem d_M_readDirectory_190 : decode prog_11_method_44_code 190 = .ok (.iload 10, 2) := by decide +kernel
theorem d_M_readDirectory_192 : decode prog_11_method_44_code 192 = .ok (.ifCond .ne 14, 3) := by decide +kernel
theorem d_M_readDirectory_195 : decode prog_11_method_44_code 195 = .ok (.aload_n 0, 1) := by decide +kernel
theorem d_M_readDirectory_196 : decode prog_11_method_44_code 196 = .ok (.iload 7, 2) := by decide +kernel
theorem d_M_readDirectory_198 : decode prog_11_method_44_code 198 = .ok (.iload 11, 2) := by decide +kernel
theorem d_M_readDirectory_200 : decode prog_11_method_44_code 200 = .ok (.invokevirtual 193, 3) := by decide +kernel
theorem d_M_readDirectory_203 : decode prog_11_method_44_code 203 = .ok (.ifCond .eq 7, 3) := by decide +kernel
theorem d_M_readDirectory_206 : decode prog_11_method_44_code 206 = .ok (.iconst 1, 1) := by decide +kernel
theorem d_M_readDirectory_207 : decode prog_11_method_44_code 207 = .ok (.goto 4, 3) := by decide +kernel
theorem d_M_readDirectory_210 : decode prog_11_method_44_code 210 = .ok (.iconst 0, 1) := by decide +kernel
theorem d_M_readDirectory_211 : decode prog_11_method_44_code 211 = .ok (.istore 10, 2) := by decide +kernel
theorem d_M_readDirectory_213 : decode prog_11_method_44_code 213 = .ok (.iinc 11 1, 3) := by decide +kernel
theorem d_M_readDirectory_216 : decode prog_11_method_44_code 216 = .ok (.goto (-33), 3) := by decide +kernel
theorem d_M_readDirectory_219 : decode prog_11_method_44_code 219 = .ok (.iload 10, 2) := by decide +kernel
theorem d_M_readDirectory_221 : decode prog_11_method_44_code 221 = .ok (.ifCond .ne 26, 3) := by decide +kernel
theorem d_M_readDirectory_224 : decode prog_11_method_44_code 224 = .ok (.aload_n 0, 1) := by decide +kernel
theorem d_M_readDirectory_225 : decode prog_11_method_44_code 225 = .ok (.aload_n 0, 1) := by decide +kernel
theorem d_M_readDirectory_226 : decode prog_11_method_44_code 226 = .ok (.getfield 52, 3) := by decide +kernel
theorem d_M_readDirectory_229 : decode prog_11_method_44_code 229 = .ok (.iload 7, 2) := by decide +kernel
theorem d_M_readDirectory_231 : decode prog_11_method_44_code 231 = .ok (.iaload, 1) := by decide +kernel
theorem d_M_readDirectory_232 : decode prog_11_method_44_code 232 = .ok (.bipush 46, 2) := by decide +kernel
theorem d_M_readDirectory_234 : decode prog_11_method_44_code 234 = .ok (.iadd, 1) := by decide +kernel
theorem d_M_readDirectory_235 : decode prog_11_method_44_code 235 = .ok (.aload_n 0, 1) := by decide +kernel
theorem d_M_readDirectory_236 : decode prog_11_method_44_code 236 = .ok (.iload 7, 2) := by decide +kernel
theorem d_M_readDirectory_238 : decode prog_11_method_44_code 238 = .ok (.invokevirtual 174, 3) := by decide +kernel
theorem d_M_readDirectory_241 : decode prog_11_method_44_code 241 = .ok (.invokevirtual 93, 3) := by decide +kernel
theorem d_M_readDirectory_244 : decode prog_11_method_44_code 244 = .ok (.ifCond .ne 12, 3) := by decide +kernel
theorem d_M_readDirectory_247 : decode prog_11_method_44_code 247 = .ok (.aload_n 0, 1) := by decide +kernel
theorem d_M_readDirectory_248 : decode prog_11_method_44_code 248 = .ok (.iconst 5, 1) := by decide +kernel
theorem d_M_readDirectory_249 : decode prog_11_method_44_code 249 = .ok (.lload_n 1, 1) := by decide +kernel
theorem d_M_readDirectory_250 : decode prog_11_method_44_code 250 = .ok (.iload 7, 2) := by decide +kernel
theorem d_M_readDirectory_252 : decode prog_11_method_44_code 252 = .ok (.invokevirtual 163, 3) := by decide +kernel
theorem d_M_readDirectory_255 : decode prog_11_method_44_code 255 = .ok (.ireturn, 1) := by decide +kernel
theorem d_M_readDirectory_256 : decode prog_11_method_44_code 256 = .ok (.aload_n 0, 1) := by decide +kernel
theorem d_M_readDirectory_257 : decode prog_11_method_44_code 257 = .ok (.iload 7, 2) := by decide +kernel
theorem d_M_readDirectory_259 : decode prog_11_method_44_code 259 = .ok (.invokevirtual 188, 3) := by decide +kernel
theorem d_M_readDirectory_262 : decode prog_11_method_44_code 262 = .ok (.ifCond .ne 29, 3) := by decide +kernel
theorem d_M_readDirectory_265 : decode prog_11_method_44_code 265 = .ok (.aload_n 0, 1) := by decide +kernel
theorem d_M_readDirectory_266 : decode prog_11_method_44_code 266 = .ok (.iload 7, 2) := by decide +kernel
theorem d_M_readDirectory_268 : decode prog_11_method_44_code 268 = .ok (.invokevirtual 196, 3) := by decide +kernel
theorem d_M_readDirectory_271 : decode prog_11_method_44_code 271 = .ok (.aload_n 0, 1) := by decide +kernel
theorem d_M_readDirectory_272 : decode prog_11_method_44_code 272 = .ok (.iload 7, 2) := by decide +kernel
theorem d_M_readDirectory_274 : decode prog_11_method_44_code 274 = .ok (.invokevirtual 200, 3) := by decide +kernel
theorem d_M_readDirectory_277 : decode prog_11_method_44_code 277 = .ok (.lcmp, 1) := by decide +kernel
theorem d_M_readDirectory_278 : decode prog_11_method_44_code 278 = .ok (.ifCond .eq 13, 3) := by decide +kernel
theorem d_M_readDirectory_281 : decode prog_11_method_44_code 281 = .ok (.aload_n 0, 1) := by decide +kernel
theorem d_M_readDirectory_282 : decode prog_11_method_44_code 282 = .ok (.bipush 6, 2) := by decide +kernel
theorem d_M_readDirectory_284 : decode prog_11_method_44_code 284 = .ok (.lload_n 1, 1) := by decide +kernel
theorem d_M_readDirectory_285 : decode prog_11_method_44_code 285 = .ok (.iload 7, 2) := by decide +kernel
theorem d_M_readDirectory_287 : decode prog_11_method_44_code 287 = .ok (.invokevirtual 163, 3) := by decide +kernel
theorem d_M_readDirectory_290 : decode prog_11_method_44_code 290 = .ok (.ireturn, 1) := by decide +kernel
theorem d_M_readDirectory_291 : decode prog_11_method_44_code 291 = .ok (.lload_n 3, 1) := by decide +kernel
theorem d_M_readDirectory_292 : decode prog_11_method_44_code 292 = .ok (.aload_n 0, 1) := by decide +kernel
theorem d_M_readDirectory_293 : decode prog_11_method_44_code 293 = .ok (.iload 7, 2) := by decide +kernel
theorem d_M_readDirectory_295 : decode prog_11_method_44_code 295 = .ok (.invokevirtual 196, 3) := by decide +kernel
theorem d_M_readDirectory_298 : decode prog_11_method_44_code 298 = .ok (.ladd, 1) := by decide +kernel
theorem d_M_readDirectory_299 : decode prog_11_method_44_code 299 = .ok (.lstore_n 3, 1) := by decide +kernel
theorem d_M_readDirectory_300 : decode prog_11_method_44_code 300 = .ok (.lload 5, 2) := by decide +kernel
theorem d_M_readDirectory_302 : decode prog_11_method_44_code 302 = .ok (.aload_n 0, 1) := by decide +kernel
theorem d_M_readDirectory_303 : decode prog_11_method_44_code 303 = .ok (.iload 7, 2) := by decide +kernel
theorem d_M_readDirectory_305 : decode prog_11_method_44_code 305 = .ok (.invokevirtual 200, 3) := by decide +kernel
theorem d_M_readDirectory_308 : decode prog_11_method_44_code 308 = .ok (.ladd, 1) := by decide +kernel
theorem d_M_readDirectory_309 : decode prog_11_method_44_code 309 = .ok (.lstore 5, 2) := by decide +kernel
theorem d_M_readDirectory_311 : decode prog_11_method_44_code 311 = .ok (.lload_n 3, 1) := by decide +kernel
theorem d_M_readDirectory_312 : decode prog_11_method_44_code 312 = .ok (.aload_n 0, 1) := by decide +kernel
theorem d_M_readDirectory_313 : decode prog_11_method_44_code 313 = .ok (.getfield 203, 3) := by decide +kernel
theorem d_M_readDirectory_316 : decode prog_11_method_44_code 316 = .ok (.i2l, 1) := by decide +kernel
theorem d_M_readDirectory_317 : decode prog_11_method_44_code 317 = .ok (.lcmp, 1) := by decide +kernel
theorem d_M_readDirectory_318 : decode prog_11_method_44_code 318 = .ok (.ifCond .gt 14, 3) := by decide +kernel
theorem d_M_readDirectory_321 : decode prog_11_method_44_code 321 = .ok (.lload 5, 2) := by decide +kernel
theorem d_M_readDirectory_323 : decode prog_11_method_44_code 323 = .ok (.aload_n 0, 1) := by decide +kernel
theorem d_M_readDirectory_324 : decode prog_11_method_44_code 324 = .ok (.getfield 203, 3) := by decide +kernel
theorem d_M_readDirectory_327 : decode prog_11_method_44_code 327 = .ok (.i2l, 1) := by decide +kernel
theorem d_M_readDirectory_328 : decode prog_11_method_44_code 328 = .ok (.lcmp, 1) := by decide +kernel
theorem d_M_readDirectory_329 : decode prog_11_method_44_code 329 = .ok (.ifCond .le 13, 3) := by decide +kernel
theorem d_M_readDirectory_332 : decode prog_11_method_44_code 332 = .ok (.aload_n 0, 1) := by decide +kernel
theorem d_M_readDirectory_333 : decode prog_11_method_44_code 333 = .ok (.bipush 9, 2) := by decide +kernel
theorem d_M_readDirectory_335 : decode prog_11_method_44_code 335 = .ok (.lload_n 1, 1) := by decide +kernel
theorem d_M_readDirectory_336 : decode prog_11_method_44_code 336 = .ok (.iload 7, 2) := by decide +kernel
theorem d_M_readDirectory_338 : decode prog_11_method_44_code 338 = .ok (.invokevirtual 163, 3) := by decide +kernel
theorem d_M_readDirectory_341 : decode prog_11_method_44_code 341 = .ok (.ireturn, 1) := by decide +kernel
theorem d_M_readDirectory_342 : decode prog_11_method_44_code 342 = .ok (.aload_n 0, 1) := by decide +kernel
theorem d_M_readDirectory_343 : decode prog_11_method_44_code 343 = .ok (.getfield 55, 3) := by decide +kernel
theorem d_M_readDirectory_346 : decode prog_11_method_44_code 346 = .ok (.iload 7, 2) := by decide +kernel
theorem d_M_readDirectory_348 : decode prog_11_method_44_code 348 = .ok (.aload_n 0, 1) := by decide +kernel
theorem d_M_readDirectory_349 : decode prog_11_method_44_code 349 = .ok (.lload_n 1, 1) := by decide +kernel
theorem d_M_readDirectory_350 : decode prog_11_method_44_code 350 = .ok (.ldc2_w 206, 3) := by decide +kernel
theorem d_M_readDirectory_353 : decode prog_11_method_44_code 353 = .ok (.ladd, 1) := by decide +kernel
theorem d_M_readDirectory_354 : decode prog_11_method_44_code 354 = .ok (.invokevirtual 157, 3) := by decide +kernel
theorem d_M_readDirectory_357 : decode prog_11_method_44_code 357 = .ok (.lastore, 1) := by decide +kernel
theorem d_M_readDirectory_358 : decode prog_11_method_44_code 358 = .ok (.lload 8, 2) := by decide +kernel
theorem d_M_readDirectory_360 : decode prog_11_method_44_code 360 = .ok (.lstore_n 1, 1) := by decide +kernel
theorem d_M_readDirectory_361 : decode prog_11_method_44_code 361 = .ok (.iinc 7 1, 3) := by decide +kernel
theorem d_M_readDirectory_364 : decode prog_11_method_44_code 364 = .ok (.goto (-351), 3) := by decide +kernel
theorem d_M_readDirectory_367 : decode prog_11_method_44_code 367 = .ok (.lload_n 1, 1) := by decide +kernel
theorem d_M_readDirectory_368 : decode prog_11_method_44_code 368 = .ok (.aload_n 0, 1) := by decide +kernel
theorem d_M_readDirectory_369 : decode prog_11_method_44_code 369 = .ok (.getfield 154, 3) := by decide +kernel
theorem d_M_readDirectory_372 : decode prog_11_method_44_code 372 = .ok (.i2l, 1) := by decide +kernel
theorem d_M_readDirectory_373 : decode prog_11_method_44_code 373 = .ok (.lcmp, 1) := by decide +kernel
theorem d_M_readDirectory_374 : decode prog_11_method_44_code 374 = .ok (.ifCond .eq 17, 3) := by decide +kernel
theorem d_M_readDirectory_377 : decode prog_11_method_44_code 377 = .ok (.aload_n 0, 1) := by decide +kernel
theorem d_M_readDirectory_378 : decode prog_11_method_44_code 378 = .ok (.iconst 3, 1) := by decide +kernel
theorem d_M_readDirectory_379 : decode prog_11_method_44_code 379 = .ok (.lload_n 1, 1) := by decide +kernel
theorem d_M_readDirectory_380 : decode prog_11_method_44_code 380 = .ok (.iconst (-1), 1) := by decide +kernel
theorem d_M_readDirectory_381 : decode prog_11_method_44_code 381 = .ok (.invokevirtual 163, 3) := by decide +kernel
theorem d_M_readDirectory_384 : decode prog_11_method_44_code 384 = .ok (.ifCond .eq 7, 3) := by decide +kernel
theorem d_M_readDirectory_387 : decode prog_11_method_44_code 387 = .ok (.iconst 1, 1) := by decide +kernel
theorem d_M_readDirectory_388 : decode prog_11_method_44_code 388 = .ok (.goto 4, 3) := by decide +kernel
theorem d_M_readDirectory_391 : decode prog_11_method_44_code 391 = .ok (.iconst 0, 1) := by decide +kernel
theorem d_M_readDirectory_392 : decode prog_11_method_44_code 392 = .ok (.ireturn, 1) := by decide +kernel
theorem d_M_fits_0 : decode prog_11_method_45_code 0 = .ok (.lload_n 2, 1) := by decide +kernel
theorem d_M_fits_1 : decode prog_11_method_45_code 1 = .ok (.lload 4, 2) := by decide +kernel
theorem d_M_fits_3 : decode prog_11_method_45_code 3 = .ok (.lcmp, 1) := by decide +kernel
theorem d_M_fits_4 : decode prog_11_method_45_code 4 = .ok (.ifCond .eq 20, 3) := by decide +kernel
theorem d_M_fits_7 : decode prog_11_method_45_code 7 = .ok (.aload_n 0, 1) := by decide +kernel
theorem d_M_fits_8 : decode prog_11_method_45_code 8 = .ok (.iload_n 1, 1) := by decide +kernel
theorem d_M_fits_9 : decode prog_11_method_45_code 9 = .ok (.invokevirtual 185, 3) := by decide +kernel
theorem d_M_fits_12 : decode prog_11_method_45_code 12 = .ok (.bipush 8, 2) := by decide +kernel
theorem d_M_fits_14 : decode prog_11_method_45_code 14 = .ok (.iand, 1) := by decide +kernel
theorem d_M_fits_15 : decode prog_11_method_45_code 15 = .ok (.ifCond .le 13, 3) := by decide +kernel
theorem d_M_fits_18 : decode prog_11_method_45_code 18 = .ok (.lload_n 2, 1) := by decide +kernel
theorem d_M_fits_19 : decode prog_11_method_45_code 19 = .ok (.lconst 0, 1) := by decide +kernel
theorem d_M_fits_20 : decode prog_11_method_45_code 20 = .ok (.lcmp, 1) := by decide +kernel
theorem d_M_fits_21 : decode prog_11_method_45_code 21 = .ok (.ifCond .ne 7, 3) := by decide +kernel
theorem d_M_fits_24 : decode prog_11_method_45_code 24 = .ok (.iconst 1, 1) := by decide +kernel
theorem d_M_fits_25 : decode prog_11_method_45_code 25 = .ok (.goto 4, 3) := by decide +kernel
theorem d_M_fits_28 : decode prog_11_method_45_code 28 = .ok (.iconst 0, 1) := by decide +kernel
theorem d_M_fits_29 : decode prog_11_method_45_code 29 = .ok (.ireturn, 1) := by decide +kernel
theorem d_M_isHead_0 : decode prog_11_method_46_code 0 = .ok (.aload_n 0, 1) := by decide +kernel
theorem d_M_isHead_1 : decode prog_11_method_46_code 1 = .ok (.getfield 55, 3) := by decide +kernel
theorem d_M_isHead_4 : decode prog_11_method_46_code 4 = .ok (.iload_n 1, 1) := by decide +kernel
theorem d_M_isHead_5 : decode prog_11_method_46_code 5 = .ok (.laload, 1) := by decide +kernel
theorem d_M_isHead_6 : decode prog_11_method_46_code 6 = .ok (.lstore_n 2, 1) := by decide +kernel
theorem d_M_isHead_7 : decode prog_11_method_46_code 7 = .ok (.lload_n 2, 1) := by decide +kernel
theorem d_M_isHead_8 : decode prog_11_method_46_code 8 = .ok (.ldc2_w 181, 3) := by decide +kernel
theorem d_M_isHead_11 : decode prog_11_method_46_code 11 = .ok (.ladd, 1) := by decide +kernel
theorem d_M_isHead_12 : decode prog_11_method_46_code 12 = .ok (.aload_n 0, 1) := by decide +kernel
theorem d_M_isHead_13 : decode prog_11_method_46_code 13 = .ok (.getfield 170, 3) := by decide +kernel
theorem d_M_isHead_16 : decode prog_11_method_46_code 16 = .ok (.lcmp, 1) := by decide +kernel
theorem d_M_isHead_17 : decode prog_11_method_46_code 17 = .ok (.ifCond .gt 15, 3) := by decide +kernel
theorem d_M_isHead_20 : decode prog_11_method_46_code 20 = .ok (.aload_n 0, 1) := by decide +kernel
theorem d_M_isHead_21 : decode prog_11_method_46_code 21 = .ok (.lload_n 2, 1) := by decide +kernel
theorem d_M_isHead_22 : decode prog_11_method_46_code 22 = .ok (.invokevirtual 157, 3) := by decide +kernel
theorem d_M_isHead_25 : decode prog_11_method_46_code 25 = .ok (.ldc2_w 208, 3) := by decide +kernel
theorem d_M_isHead_28 : decode prog_11_method_46_code 28 = .ok (.lcmp, 1) := by decide +kernel
theorem d_M_isHead_29 : decode prog_11_method_46_code 29 = .ok (.ifCond .eq 5, 3) := by decide +kernel
theorem d_M_isHead_32 : decode prog_11_method_46_code 32 = .ok (.iconst 0, 1) := by decide +kernel
theorem d_M_isHead_33 : decode prog_11_method_46_code 33 = .ok (.ireturn, 1) := by decide +kernel
theorem d_M_isHead_34 : decode prog_11_method_46_code 34 = .ok (.aload_n 0, 1) := by decide +kernel
theorem d_M_isHead_35 : decode prog_11_method_46_code 35 = .ok (.lload_n 2, 1) := by decide +kernel
theorem d_M_isHead_36 : decode prog_11_method_46_code 36 = .ok (.ldc2_w 210, 3) := by decide +kernel
theorem d_M_isHead_39 : decode prog_11_method_46_code 39 = .ok (.ladd, 1) := by decide +kernel
theorem d_M_isHead_40 : decode prog_11_method_46_code 40 = .ok (.invokevirtual 143, 3) := by decide +kernel
theorem d_M_isHead_43 : decode prog_11_method_46_code 43 = .ok (.istore 4, 2) := by decide +kernel
theorem d_M_isHead_45 : decode prog_11_method_46_code 45 = .ok (.aload_n 0, 1) := by decide +kernel
theorem d_M_isHead_46 : decode prog_11_method_46_code 46 = .ok (.getfield 59, 3) := by decide +kernel
theorem d_M_isHead_49 : decode prog_11_method_46_code 49 = .ok (.iload_n 1, 1) := by decide +kernel
theorem d_M_isHead_50 : decode prog_11_method_46_code 50 = .ok (.lload_n 2, 1) := by decide +kernel
theorem d_M_isHead_51 : decode prog_11_method_46_code 51 = .ok (.ldc2_w 181, 3) := by decide +kernel
theorem d_M_isHead_54 : decode prog_11_method_46_code 54 = .ok (.ladd, 1) := by decide +kernel
theorem d_M_isHead_55 : decode prog_11_method_46_code 55 = .ok (.iload 4, 2) := by decide +kernel
theorem d_M_isHead_57 : decode prog_11_method_46_code 57 = .ok (.i2l, 1) := by decide +kernel
theorem d_M_isHead_58 : decode prog_11_method_46_code 58 = .ok (.ladd, 1) := by decide +kernel
theorem d_M_isHead_59 : decode prog_11_method_46_code 59 = .ok (.aload_n 0, 1) := by decide +kernel
theorem d_M_isHead_60 : decode prog_11_method_46_code 60 = .ok (.lload_n 2, 1) := by decide +kernel
theorem d_M_isHead_61 : decode prog_11_method_46_code 61 = .ok (.ldc2_w 212, 3) := by decide +kernel
theorem d_M_isHead_64 : decode prog_11_method_46_code 64 = .ok (.ladd, 1) := by decide +kernel
theorem d_M_isHead_65 : decode prog_11_method_46_code 65 = .ok (.invokevirtual 143, 3) := by decide +kernel
theorem d_M_isHead_68 : decode prog_11_method_46_code 68 = .ok (.i2l, 1) := by decide +kernel
theorem d_M_isHead_69 : decode prog_11_method_46_code 69 = .ok (.ladd, 1) := by decide +kernel
theorem d_M_isHead_70 : decode prog_11_method_46_code 70 = .ok (.lastore, 1) := by decide +kernel
theorem d_M_isHead_71 : decode prog_11_method_46_code 71 = .ok (.aload_n 0, 1) := by decide +kernel
theorem d_M_isHead_72 : decode prog_11_method_46_code 72 = .ok (.getfield 59, 3) := by decide +kernel
theorem d_M_isHead_75 : decode prog_11_method_46_code 75 = .ok (.iload_n 1, 1) := by decide +kernel
theorem d_M_isHead_76 : decode prog_11_method_46_code 76 = .ok (.laload, 1) := by decide +kernel
theorem d_M_isHead_77 : decode prog_11_method_46_code 77 = .ok (.aload_n 0, 1) := by decide +kernel
theorem d_M_isHead_78 : decode prog_11_method_46_code 78 = .ok (.getfield 170, 3) := by decide +kernel
theorem d_M_isHead_81 : decode prog_11_method_46_code 81 = .ok (.lcmp, 1) := by decide +kernel
theorem d_M_isHead_82 : decode prog_11_method_46_code 82 = .ok (.ifCond .le 5, 3) := by decide +kernel
theorem d_M_isHead_85 : decode prog_11_method_46_code 85 = .ok (.iconst 0, 1) := by decide +kernel
theorem d_M_isHead_86 : decode prog_11_method_46_code 86 = .ok (.ireturn, 1) := by decide +kernel
theorem d_M_isHead_87 : decode prog_11_method_46_code 87 = .ok (.aload_n 0, 1) := by decide +kernel
theorem d_M_isHead_88 : decode prog_11_method_46_code 88 = .ok (.lload_n 2, 1) := by decide +kernel
theorem d_M_isHead_89 : decode prog_11_method_46_code 89 = .ok (.ldc2_w 214, 3) := by decide +kernel
theorem d_M_isHead_92 : decode prog_11_method_46_code 92 = .ok (.ladd, 1) := by decide +kernel
theorem d_M_isHead_93 : decode prog_11_method_46_code 93 = .ok (.invokevirtual 143, 3) := by decide +kernel
theorem d_M_isHead_96 : decode prog_11_method_46_code 96 = .ok (.aload_n 0, 1) := by decide +kernel
theorem d_M_isHead_97 : decode prog_11_method_46_code 97 = .ok (.iload_n 1, 1) := by decide +kernel
theorem d_M_isHead_98 : decode prog_11_method_46_code 98 = .ok (.invokevirtual 185, 3) := by decide +kernel
theorem d_M_isHead_101 : decode prog_11_method_46_code 101 = .ok (.if_icmp .ne 34, 3) := by decide +kernel
theorem d_M_isHead_104 : decode prog_11_method_46_code 104 = .ok (.aload_n 0, 1) := by decide +kernel
theorem d_M_isHead_105 : decode prog_11_method_46_code 105 = .ok (.lload_n 2, 1) := by decide +kernel
theorem d_M_isHead_106 : decode prog_11_method_46_code 106 = .ok (.ldc2_w 216, 3) := by decide +kernel
theorem d_M_isHead_109 : decode prog_11_method_46_code 109 = .ok (.ladd, 1) := by decide +kernel
theorem d_M_isHead_110 : decode prog_11_method_46_code 110 = .ok (.invokevirtual 143, 3) := by decide +kernel
theorem d_M_isHead_113 : decode prog_11_method_46_code 113 = .ok (.aload_n 0, 1) := by decide +kernel
theorem d_M_isHead_114 : decode prog_11_method_46_code 114 = .ok (.iload_n 1, 1) := by decide +kernel
theorem d_M_isHead_115 : decode prog_11_method_46_code 115 = .ok (.invokevirtual 188, 3) := by decide +kernel
theorem d_M_isHead_118 : decode prog_11_method_46_code 118 = .ok (.if_icmp .ne 17, 3) := by decide +kernel
theorem d_M_isHead_121 : decode prog_11_method_46_code 121 = .ok (.iload 4, 2) := by decide +kernel
theorem d_M_isHead_123 : decode prog_11_method_46_code 123 = .ok (.aload_n 0, 1) := by decide +kernel
theorem d_M_isHead_124 : decode prog_11_method_46_code 124 = .ok (.iload_n 1, 1) := by decide +kernel
theorem d_M_isHead_125 : decode prog_11_method_46_code 125 = .ok (.invokevirtual 174, 3) := by decide +kernel
theorem d_M_isHead_128 : decode prog_11_method_46_code 128 = .ok (.if_icmp .ne 7, 3) := by decide +kernel
theorem d_M_isHead_131 : decode prog_11_method_46_code 131 = .ok (.iconst 1, 1) := by decide +kernel
theorem d_M_isHead_132 : decode prog_11_method_46_code 132 = .ok (.goto 4, 3) := by decide +kernel
theorem d_M_isHead_135 : decode prog_11_method_46_code 135 = .ok (.iconst 0, 1) := by decide +kernel
theorem d_M_isHead_136 : decode prog_11_method_46_code 136 = .ok (.istore 5, 2) := by decide +kernel
theorem d_M_isHead_138 : decode prog_11_method_46_code 138 = .ok (.iconst 0, 1) := by decide +kernel
theorem d_M_isHead_139 : decode prog_11_method_46_code 139 = .ok (.istore 6, 2) := by decide +kernel
theorem d_M_isHead_141 : decode prog_11_method_46_code 141 = .ok (.iload 6, 2) := by decide +kernel
theorem d_M_isHead_143 : decode prog_11_method_46_code 143 = .ok (.iload 4, 2) := by decide +kernel
theorem d_M_isHead_145 : decode prog_11_method_46_code 145 = .ok (.if_icmp .ge 54, 3) := by decide +kernel
theorem d_M_isHead_148 : decode prog_11_method_46_code 148 = .ok (.iload 5, 2) := by decide +kernel
theorem d_M_isHead_150 : decode prog_11_method_46_code 150 = .ok (.ifCond .eq 49, 3) := by decide +kernel
theorem d_M_isHead_153 : decode prog_11_method_46_code 153 = .ok (.aload_n 0, 1) := by decide +kernel
theorem d_M_isHead_154 : decode prog_11_method_46_code 154 = .ok (.getfield 8, 3) := by decide +kernel
theorem d_M_isHead_157 : decode prog_11_method_46_code 157 = .ok (.lload_n 2, 1) := by decide +kernel
theorem d_M_isHead_158 : decode prog_11_method_46_code 158 = .ok (.l2i, 1) := by decide +kernel
theorem d_M_isHead_159 : decode prog_11_method_46_code 159 = .ok (.bipush 30, 2) := by decide +kernel
theorem d_M_isHead_161 : decode prog_11_method_46_code 161 = .ok (.iadd, 1) := by decide +kernel
theorem d_M_isHead_162 : decode prog_11_method_46_code 162 = .ok (.iload 6, 2) := by decide +kernel
theorem d_M_isHead_164 : decode prog_11_method_46_code 164 = .ok (.iadd, 1) := by decide +kernel
theorem d_M_isHead_165 : decode prog_11_method_46_code 165 = .ok (.baload, 1) := by decide +kernel
theorem d_M_isHead_166 : decode prog_11_method_46_code 166 = .ok (.aload_n 0, 1) := by decide +kernel
theorem d_M_isHead_167 : decode prog_11_method_46_code 167 = .ok (.getfield 8, 3) := by decide +kernel
theorem d_M_isHead_170 : decode prog_11_method_46_code 170 = .ok (.aload_n 0, 1) := by decide +kernel
theorem d_M_isHead_171 : decode prog_11_method_46_code 171 = .ok (.getfield 52, 3) := by decide +kernel
theorem d_M_isHead_174 : decode prog_11_method_46_code 174 = .ok (.iload_n 1, 1) := by decide +kernel
theorem d_M_isHead_175 : decode prog_11_method_46_code 175 = .ok (.iaload, 1) := by decide +kernel
theorem d_M_isHead_176 : decode prog_11_method_46_code 176 = .ok (.bipush 46, 2) := by decide +kernel
theorem d_M_isHead_178 : decode prog_11_method_46_code 178 = .ok (.iadd, 1) := by decide +kernel
theorem d_M_isHead_179 : decode prog_11_method_46_code 179 = .ok (.iload 6, 2) := by decide +kernel
theorem d_M_isHead_181 : decode prog_11_method_46_code 181 = .ok (.iadd, 1) := by decide +kernel
theorem d_M_isHead_182 : decode prog_11_method_46_code 182 = .ok (.baload, 1) := by decide +kernel
theorem d_M_isHead_183 : decode prog_11_method_46_code 183 = .ok (.if_icmp .ne 7, 3) := by decide +kernel
theorem d_M_isHead_186 : decode prog_11_method_46_code 186 = .ok (.iconst 1, 1) := by decide +kernel
theorem d_M_isHead_187 : decode prog_11_method_46_code 187 = .ok (.goto 4, 3) := by decide +kernel
theorem d_M_isHead_190 : decode prog_11_method_46_code 190 = .ok (.iconst 0, 1) := by decide +kernel
theorem d_M_isHead_191 : decode prog_11_method_46_code 191 = .ok (.istore 5, 2) := by decide +kernel
theorem d_M_isHead_193 : decode prog_11_method_46_code 193 = .ok (.iinc 6 1, 3) := by decide +kernel
theorem d_M_isHead_196 : decode prog_11_method_46_code 196 = .ok (.goto (-55), 3) := by decide +kernel
theorem d_M_isHead_199 : decode prog_11_method_46_code 199 = .ok (.iload 5, 2) := by decide +kernel
theorem d_M_isHead_201 : decode prog_11_method_46_code 201 = .ok (.ifCond .eq 82, 3) := by decide +kernel
theorem d_M_isHead_204 : decode prog_11_method_46_code 204 = .ok (.aload_n 0, 1) := by decide +kernel
theorem d_M_isHead_205 : decode prog_11_method_46_code 205 = .ok (.iload_n 1, 1) := by decide +kernel
theorem d_M_isHead_206 : decode prog_11_method_46_code 206 = .ok (.aload_n 0, 1) := by decide +kernel
theorem d_M_isHead_207 : decode prog_11_method_46_code 207 = .ok (.lload_n 2, 1) := by decide +kernel
theorem d_M_isHead_208 : decode prog_11_method_46_code 208 = .ok (.ldc2_w 218, 3) := by decide +kernel
theorem d_M_isHead_211 : decode prog_11_method_46_code 211 = .ok (.ladd, 1) := by decide +kernel
theorem d_M_isHead_212 : decode prog_11_method_46_code 212 = .ok (.invokevirtual 157, 3) := by decide +kernel
theorem d_M_isHead_215 : decode prog_11_method_46_code 215 = .ok (.aload_n 0, 1) := by decide +kernel
theorem d_M_isHead_216 : decode prog_11_method_46_code 216 = .ok (.aload_n 0, 1) := by decide +kernel
theorem d_M_isHead_217 : decode prog_11_method_46_code 217 = .ok (.getfield 52, 3) := by decide +kernel
theorem d_M_isHead_220 : decode prog_11_method_46_code 220 = .ok (.iload_n 1, 1) := by decide +kernel
theorem d_M_isHead_221 : decode prog_11_method_46_code 221 = .ok (.iaload, 1) := by decide +kernel
theorem d_M_isHead_222 : decode prog_11_method_46_code 222 = .ok (.bipush 16, 2) := by decide +kernel
theorem d_M_isHead_224 : decode prog_11_method_46_code 224 = .ok (.iadd, 1) := by decide +kernel
theorem d_M_isHead_225 : decode prog_11_method_46_code 225 = .ok (.i2l, 1) := by decide +kernel
theorem d_M_isHead_226 : decode prog_11_method_46_code 226 = .ok (.invokevirtual 157, 3) := by decide +kernel
theorem d_M_isHead_229 : decode prog_11_method_46_code 229 = .ok (.invokevirtual 220, 3) := by decide +kernel
theorem d_M_isHead_232 : decode prog_11_method_46_code 232 = .ok (.ifCond .eq 51, 3) := by decide +kernel
theorem d_M_isHead_235 : decode prog_11_method_46_code 235 = .ok (.aload_n 0, 1) := by decide +kernel
theorem d_M_isHead_236 : decode prog_11_method_46_code 236 = .ok (.iload_n 1, 1) := by decide +kernel
theorem d_M_isHead_237 : decode prog_11_method_46_code 237 = .ok (.aload_n 0, 1) := by decide +kernel
theorem d_M_isHead_238 : decode prog_11_method_46_code 238 = .ok (.lload_n 2, 1) := by decide +kernel
theorem d_M_isHead_239 : decode prog_11_method_46_code 239 = .ok (.ldc2_w 224, 3) := by decide +kernel
theorem d_M_isHead_242 : decode prog_11_method_46_code 242 = .ok (.ladd, 1) := by decide +kernel
theorem d_M_isHead_243 : decode prog_11_method_46_code 243 = .ok (.invokevirtual 157, 3) := by decide +kernel
theorem d_M_isHead_246 : decode prog_11_method_46_code 246 = .ok (.aload_n 0, 1) := by decide +kernel
theorem d_M_isHead_247 : decode prog_11_method_46_code 247 = .ok (.iload_n 1, 1) := by decide +kernel
theorem d_M_isHead_248 : decode prog_11_method_46_code 248 = .ok (.invokevirtual 196, 3) := by decide +kernel
theorem d_M_isHead_251 : decode prog_11_method_46_code 251 = .ok (.invokevirtual 220, 3) := by decide +kernel
theorem d_M_isHead_254 : decode prog_11_method_46_code 254 = .ok (.ifCond .eq 29, 3) := by decide +kernel
theorem d_M_isHead_257 : decode prog_11_method_46_code 257 = .ok (.aload_n 0, 1) := by decide +kernel
theorem d_M_isHead_258 : decode prog_11_method_46_code 258 = .ok (.iload_n 1, 1) := by decide +kernel
theorem d_M_isHead_259 : decode prog_11_method_46_code 259 = .ok (.aload_n 0, 1) := by decide +kernel
theorem d_M_isHead_260 : decode prog_11_method_46_code 260 = .ok (.lload_n 2, 1) := by decide +kernel
theorem d_M_isHead_261 : decode prog_11_method_46_code 261 = .ok (.ldc2_w 226, 3) := by decide +kernel
theorem d_M_isHead_264 : decode prog_11_method_46_code 264 = .ok (.ladd, 1) := by decide +kernel
theorem d_M_isHead_265 : decode prog_11_method_46_code 265 = .ok (.invokevirtual 157, 3) := by decide +kernel
theorem d_M_isHead_268 : decode prog_11_method_46_code 268 = .ok (.aload_n 0, 1) := by decide +kernel
theorem d_M_isHead_269 : decode prog_11_method_46_code 269 = .ok (.iload_n 1, 1) := by decide +kernel
theorem d_M_isHead_270 : decode prog_11_method_46_code 270 = .ok (.invokevirtual 200, 3) := by decide +kernel
theorem d_M_isHead_273 : decode prog_11_method_46_code 273 = .ok (.invokevirtual 220, 3) := by decide +kernel
theorem d_M_isHead_276 : decode prog_11_method_46_code 276 = .ok (.ifCond .eq 7, 3) := by decide +kernel
theorem d_M_isHead_279 : decode prog_11_method_46_code 279 = .ok (.iconst 1, 1) := by decide +kernel
theorem d_M_isHead_280 : decode prog_11_method_46_code 280 = .ok (.goto 4, 3) := by decide +kernel
theorem d_M_isHead_283 : decode prog_11_method_46_code 283 = .ok (.iconst 0, 1) := by decide +kernel
theorem d_M_isHead_284 : decode prog_11_method_46_code 284 = .ok (.ireturn, 1) := by decide +kernel
theorem d_M_isBody_0 : decode prog_11_method_47_code 0 = .ok (.aload_n 0, 1) := by decide +kernel
theorem d_M_isBody_1 : decode prog_11_method_47_code 1 = .ok (.getfield 59, 3) := by decide +kernel
theorem d_M_isBody_4 : decode prog_11_method_47_code 4 = .ok (.iload_n 1, 1) := by decide +kernel
theorem d_M_isBody_5 : decode prog_11_method_47_code 5 = .ok (.laload, 1) := by decide +kernel
theorem d_M_isBody_6 : decode prog_11_method_47_code 6 = .ok (.aload_n 0, 1) := by decide +kernel
theorem d_M_isBody_7 : decode prog_11_method_47_code 7 = .ok (.iload_n 1, 1) := by decide +kernel
theorem d_M_isBody_8 : decode prog_11_method_47_code 8 = .ok (.invokevirtual 196, 3) := by decide +kernel
theorem d_M_isBody_11 : decode prog_11_method_47_code 11 = .ok (.ladd, 1) := by decide +kernel
theorem d_M_isBody_12 : decode prog_11_method_47_code 12 = .ok (.lstore_n 2, 1) := by decide +kernel
theorem d_M_isBody_13 : decode prog_11_method_47_code 13 = .ok (.aload_n 0, 1) := by decide +kernel
theorem d_M_isBody_14 : decode prog_11_method_47_code 14 = .ok (.getfield 62, 3) := by decide +kernel
theorem d_M_isBody_17 : decode prog_11_method_47_code 17 = .ok (.iload_n 1, 1) := by decide +kernel
theorem d_M_isBody_18 : decode prog_11_method_47_code 18 = .ok (.lload_n 2, 1) := by decide +kernel
theorem d_M_isBody_19 : decode prog_11_method_47_code 19 = .ok (.lastore, 1) := by decide +kernel
theorem d_M_isBody_20 : decode prog_11_method_47_code 20 = .ok (.lload_n 2, 1) := by decide +kernel
theorem d_M_isBody_21 : decode prog_11_method_47_code 21 = .ok (.aload_n 0, 1) := by decide +kernel
theorem d_M_isBody_22 : decode prog_11_method_47_code 22 = .ok (.getfield 170, 3) := by decide +kernel
theorem d_M_isBody_25 : decode prog_11_method_47_code 25 = .ok (.lcmp, 1) := by decide +kernel
theorem d_M_isBody_26 : decode prog_11_method_47_code 26 = .ok (.ifCond .gt 14, 3) := by decide +kernel
theorem d_M_isBody_29 : decode prog_11_method_47_code 29 = .ok (.aload_n 0, 1) := by decide +kernel
theorem d_M_isBody_30 : decode prog_11_method_47_code 30 = .ok (.iload_n 1, 1) := by decide +kernel
theorem d_M_isBody_31 : decode prog_11_method_47_code 31 = .ok (.invokevirtual 185, 3) := by decide +kernel
theorem d_M_isBody_34 : decode prog_11_method_47_code 34 = .ok (.bipush 8, 2) := by decide +kernel
theorem d_M_isBody_36 : decode prog_11_method_47_code 36 = .ok (.iand, 1) := by decide +kernel
theorem d_M_isBody_37 : decode prog_11_method_47_code 37 = .ok (.ifCond .ne 18, 3) := by decide +kernel
theorem d_M_isBody_40 : decode prog_11_method_47_code 40 = .ok (.lload_n 2, 1) := by decide +kernel
theorem d_M_isBody_41 : decode prog_11_method_47_code 41 = .ok (.aload_n 0, 1) := by decide +kernel
theorem d_M_isBody_42 : decode prog_11_method_47_code 42 = .ok (.getfield 170, 3) := by decide +kernel
theorem d_M_isBody_45 : decode prog_11_method_47_code 45 = .ok (.lcmp, 1) := by decide +kernel
theorem d_M_isBody_46 : decode prog_11_method_47_code 46 = .ok (.ifCond .gt 7, 3) := by decide +kernel
theorem d_M_isBody_49 : decode prog_11_method_47_code 49 = .ok (.iconst 1, 1) := by decide +kernel
theorem d_M_isBody_50 : decode prog_11_method_47_code 50 = .ok (.goto 4, 3) := by decide +kernel
theorem d_M_isBody_53 : decode prog_11_method_47_code 53 = .ok (.iconst 0, 1) := by decide +kernel
theorem d_M_isBody_54 : decode prog_11_method_47_code 54 = .ok (.ireturn, 1) := by decide +kernel
theorem d_M_isBody_55 : decode prog_11_method_47_code 55 = .ok (.lload_n 2, 1) := by decide +kernel
theorem d_M_isBody_56 : decode prog_11_method_47_code 56 = .ok (.ldc2_w 228, 3) := by decide +kernel
theorem d_M_isBody_59 : decode prog_11_method_47_code 59 = .ok (.ladd, 1) := by decide +kernel
theorem d_M_isBody_60 : decode prog_11_method_47_code 60 = .ok (.aload_n 0, 1) := by decide +kernel
theorem d_M_isBody_61 : decode prog_11_method_47_code 61 = .ok (.getfield 72, 3) := by decide +kernel
theorem d_M_isBody_64 : decode prog_11_method_47_code 64 = .ok (.i2l, 1) := by decide +kernel
theorem d_M_isBody_65 : decode prog_11_method_47_code 65 = .ok (.lcmp, 1) := by decide +kernel
theorem d_M_isBody_66 : decode prog_11_method_47_code 66 = .ok (.ifCond .gt 23, 3) := by decide +kernel
theorem d_M_isBody_69 : decode prog_11_method_47_code 69 = .ok (.aload_n 0, 1) := by decide +kernel
theorem d_M_isBody_70 : decode prog_11_method_47_code 70 = .ok (.lload_n 2, 1) := by decide +kernel
theorem d_M_isBody_71 : decode prog_11_method_47_code 71 = .ok (.invokevirtual 157, 3) := by decide +kernel
theorem d_M_isBody_74 : decode prog_11_method_47_code 74 = .ok (.ldc2_w 230, 3) := by decide +kernel
theorem d_M_isBody_77 : decode prog_11_method_47_code 77 = .ok (.lcmp, 1) := by decide +kernel
theorem d_M_isBody_78 : decode prog_11_method_47_code 78 = .ok (.ifCond .ne 11, 3) := by decide +kernel
theorem d_M_isBody_81 : decode prog_11_method_47_code 81 = .ok (.lload_n 2, 1) := by decide +kernel
theorem d_M_isBody_82 : decode prog_11_method_47_code 82 = .ok (.ldc2_w 228, 3) := by decide +kernel
theorem d_M_isBody_85 : decode prog_11_method_47_code 85 = .ok (.ladd, 1) := by decide +kernel
theorem d_M_isBody_86 : decode prog_11_method_47_code 86 = .ok (.goto 4, 3) := by decide +kernel
theorem d_M_isBody_89 : decode prog_11_method_47_code 89 = .ok (.lload_n 2, 1) := by decide +kernel
theorem d_M_isBody_90 : decode prog_11_method_47_code 90 = .ok (.lstore 4, 2) := by decide +kernel
theorem d_M_isBody_92 : decode prog_11_method_47_code 92 = .ok (.aload_n 0, 1) := by decide +kernel
theorem d_M_isBody_93 : decode prog_11_method_47_code 93 = .ok (.getfield 62, 3) := by decide +kernel
theorem d_M_isBody_96 : decode prog_11_method_47_code 96 = .ok (.iload_n 1, 1) := by decide +kernel
theorem d_M_isBody_97 : decode prog_11_method_47_code 97 = .ok (.lload 4, 2) := by decide +kernel
theorem d_M_isBody_99 : decode prog_11_method_47_code 99 = .ok (.ldc2_w 232, 3) := by decide +kernel
theorem d_M_isBody_102 : decode prog_11_method_47_code 102 = .ok (.ladd, 1) := by decide +kernel
theorem d_M_isBody_103 : decode prog_11_method_47_code 103 = .ok (.lastore, 1) := by decide +kernel
theorem d_M_isBody_104 : decode prog_11_method_47_code 104 = .ok (.lload 4, 2) := by decide +kernel
theorem d_M_isBody_106 : decode prog_11_method_47_code 106 = .ok (.ldc2_w 232, 3) := by decide +kernel
theorem d_M_isBody_109 : decode prog_11_method_47_code 109 = .ok (.ladd, 1) := by decide +kernel
theorem d_M_isBody_110 : decode prog_11_method_47_code 110 = .ok (.aload_n 0, 1) := by decide +kernel
theorem d_M_isBody_111 : decode prog_11_method_47_code 111 = .ok (.getfield 170, 3) := by decide +kernel
theorem d_M_isBody_114 : decode prog_11_method_47_code 114 = .ok (.lcmp, 1) := by decide +kernel
theorem d_M_isBody_115 : decode prog_11_method_47_code 115 = .ok (.ifCond .gt 69, 3) := by decide +kernel
theorem d_M_isBody_118 : decode prog_11_method_47_code 118 = .ok (.aload_n 0, 1) := by decide +kernel
theorem d_M_isBody_119 : decode prog_11_method_47_code 119 = .ok (.lload 4, 2) := by decide +kernel
theorem d_M_isBody_121 : decode prog_11_method_47_code 121 = .ok (.invokevirtual 157, 3) := by decide +kernel
theorem d_M_isBody_124 : decode prog_11_method_47_code 124 = .ok (.aload_n 0, 1) := by decide +kernel
theorem d_M_isBody_125 : decode prog_11_method_47_code 125 = .ok (.aload_n 0, 1) := by decide +kernel
theorem d_M_isBody_126 : decode prog_11_method_47_code 126 = .ok (.getfield 52, 3) := by decide +kernel
theorem d_M_isBody_129 : decode prog_11_method_47_code 129 = .ok (.iload_n 1, 1) := by decide +kernel
theorem d_M_isBody_130 : decode prog_11_method_47_code 130 = .ok (.iaload, 1) := by decide +kernel
theorem d_M_isBody_131 : decode prog_11_method_47_code 131 = .ok (.bipush 16, 2) := by decide +kernel
theorem d_M_isBody_133 : decode prog_11_method_47_code 133 = .ok (.iadd, 1) := by decide +kernel
theorem d_M_isBody_134 : decode prog_11_method_47_code 134 = .ok (.i2l, 1) := by decide +kernel
theorem d_M_isBody_135 : decode prog_11_method_47_code 135 = .ok (.invokevirtual 157, 3) := by decide +kernel
theorem d_M_isBody_138 : decode prog_11_method_47_code 138 = .ok (.lcmp, 1) := by decide +kernel
theorem d_M_isBody_139 : decode prog_11_method_47_code 139 = .ok (.ifCond .ne 45, 3) := by decide +kernel
theorem d_M_isBody_142 : decode prog_11_method_47_code 142 = .ok (.aload_n 0, 1) := by decide +kernel
theorem d_M_isBody_143 : decode prog_11_method_47_code 143 = .ok (.lload 4, 2) := by decide +kernel
theorem d_M_isBody_145 : decode prog_11_method_47_code 145 = .ok (.ldc2_w 228, 3) := by decide +kernel
theorem d_M_isBody_148 : decode prog_11_method_47_code 148 = .ok (.ladd, 1) := by decide +kernel
theorem d_M_isBody_149 : decode prog_11_method_47_code 149 = .ok (.invokevirtual 157, 3) := by decide +kernel
theorem d_M_isBody_152 : decode prog_11_method_47_code 152 = .ok (.aload_n 0, 1) := by decide +kernel
theorem d_M_isBody_153 : decode prog_11_method_47_code 153 = .ok (.iload_n 1, 1) := by decide +kernel
theorem d_M_isBody_154 : decode prog_11_method_47_code 154 = .ok (.invokevirtual 196, 3) := by decide +kernel
theorem d_M_isBody_157 : decode prog_11_method_47_code 157 = .ok (.lcmp, 1) := by decide +kernel
theorem d_M_isBody_158 : decode prog_11_method_47_code 158 = .ok (.ifCond .ne 26, 3) := by decide +kernel
theorem d_M_isBody_161 : decode prog_11_method_47_code 161 = .ok (.aload_n 0, 1) := by decide +kernel
theorem d_M_isBody_162 : decode prog_11_method_47_code 162 = .ok (.lload 4, 2) := by decide +kernel
theorem d_M_isBody_164 : decode prog_11_method_47_code 164 = .ok (.ldc2_w 216, 3) := by decide +kernel
theorem d_M_isBody_167 : decode prog_11_method_47_code 167 = .ok (.ladd, 1) := by decide +kernel
theorem d_M_isBody_168 : decode prog_11_method_47_code 168 = .ok (.invokevirtual 157, 3) := by decide +kernel
theorem d_M_isBody_171 : decode prog_11_method_47_code 171 = .ok (.aload_n 0, 1) := by decide +kernel
theorem d_M_isBody_172 : decode prog_11_method_47_code 172 = .ok (.iload_n 1, 1) := by decide +kernel
theorem d_M_isBody_173 : decode prog_11_method_47_code 173 = .ok (.invokevirtual 200, 3) := by decide +kernel
theorem d_M_isBody_176 : decode prog_11_method_47_code 176 = .ok (.lcmp, 1) := by decide +kernel
theorem d_M_isBody_177 : decode prog_11_method_47_code 177 = .ok (.ifCond .ne 7, 3) := by decide +kernel
theorem d_M_isBody_180 : decode prog_11_method_47_code 180 = .ok (.iconst 1, 1) := by decide +kernel
theorem d_M_isBody_181 : decode prog_11_method_47_code 181 = .ok (.goto 4, 3) := by decide +kernel
theorem d_M_isBody_184 : decode prog_11_method_47_code 184 = .ok (.iconst 0, 1) := by decide +kernel
theorem d_M_isBody_185 : decode prog_11_method_47_code 185 = .ok (.ireturn, 1) := by decide +kernel
theorem d_M_firstLeft_0 : decode prog_11_method_48_code 0 = .ok (.iconst (-1), 1) := by decide +kernel
theorem d_M_firstLeft_1 : decode prog_11_method_48_code 1 = .ok (.istore_n 1, 1) := by decide +kernel
theorem d_M_firstLeft_2 : decode prog_11_method_48_code 2 = .ok (.iconst 0, 1) := by decide +kernel
theorem d_M_firstLeft_3 : decode prog_11_method_48_code 3 = .ok (.istore_n 2, 1) := by decide +kernel
theorem d_M_firstLeft_4 : decode prog_11_method_48_code 4 = .ok (.iload_n 2, 1) := by decide +kernel
theorem d_M_firstLeft_5 : decode prog_11_method_48_code 5 = .ok (.aload_n 0, 1) := by decide +kernel
theorem d_M_firstLeft_6 : decode prog_11_method_48_code 6 = .ok (.getfield 167, 3) := by decide +kernel
theorem d_M_firstLeft_9 : decode prog_11_method_48_code 9 = .ok (.if_icmp .ge 44, 3) := by decide +kernel
theorem d_M_firstLeft_12 : decode prog_11_method_48_code 12 = .ok (.aload_n 0, 1) := by decide +kernel
theorem d_M_firstLeft_13 : decode prog_11_method_48_code 13 = .ok (.getfield 65, 3) := by decide +kernel
theorem d_M_firstLeft_16 : decode prog_11_method_48_code 16 = .ok (.iload_n 2, 1) := by decide +kernel
theorem d_M_firstLeft_17 : decode prog_11_method_48_code 17 = .ok (.baload, 1) := by decide +kernel
theorem d_M_firstLeft_18 : decode prog_11_method_48_code 18 = .ok (.ifCond .ne 27, 3) := by decide +kernel
theorem d_M_firstLeft_21 : decode prog_11_method_48_code 21 = .ok (.iload_n 1, 1) := by decide +kernel
theorem d_M_firstLeft_22 : decode prog_11_method_48_code 22 = .ok (.ifCond .lt 19, 3) := by decide +kernel
theorem d_M_firstLeft_25 : decode prog_11_method_48_code 25 = .ok (.aload_n 0, 1) := by decide +kernel
theorem d_M_firstLeft_26 : decode prog_11_method_48_code 26 = .ok (.getfield 55, 3) := by decide +kernel
theorem d_M_firstLeft_29 : decode prog_11_method_48_code 29 = .ok (.iload_n 2, 1) := by decide +kernel
theorem d_M_firstLeft_30 : decode prog_11_method_48_code 30 = .ok (.laload, 1) := by decide +kernel
theorem d_M_firstLeft_31 : decode prog_11_method_48_code 31 = .ok (.aload_n 0, 1) := by decide +kernel
theorem d_M_firstLeft_32 : decode prog_11_method_48_code 32 = .ok (.getfield 55, 3) := by decide +kernel
theorem d_M_firstLeft_35 : decode prog_11_method_48_code 35 = .ok (.iload_n 1, 1) := by decide +kernel
theorem d_M_firstLeft_36 : decode prog_11_method_48_code 36 = .ok (.laload, 1) := by decide +kernel
theorem d_M_firstLeft_37 : decode prog_11_method_48_code 37 = .ok (.lcmp, 1) := by decide +kernel
theorem d_M_firstLeft_38 : decode prog_11_method_48_code 38 = .ok (.ifCond .ge 7, 3) := by decide +kernel
theorem d_M_firstLeft_41 : decode prog_11_method_48_code 41 = .ok (.iload_n 2, 1) := by decide +kernel
theorem d_M_firstLeft_42 : decode prog_11_method_48_code 42 = .ok (.goto 4, 3) := by decide +kernel
theorem d_M_firstLeft_45 : decode prog_11_method_48_code 45 = .ok (.iload_n 1, 1) := by decide +kernel
theorem d_M_firstLeft_46 : decode prog_11_method_48_code 46 = .ok (.istore_n 1, 1) := by decide +kernel
theorem d_M_firstLeft_47 : decode prog_11_method_48_code 47 = .ok (.iinc 2 1, 3) := by decide +kernel
theorem d_M_firstLeft_50 : decode prog_11_method_48_code 50 = .ok (.goto (-46), 3) := by decide +kernel
theorem d_M_firstLeft_53 : decode prog_11_method_48_code 53 = .ok (.iload_n 1, 1) := by decide +kernel
theorem d_M_firstLeft_54 : decode prog_11_method_48_code 54 = .ok (.ireturn, 1) := by decide +kernel
theorem d_M_readGaps_0 : decode prog_11_method_49_code 0 = .ok (.iconst 0, 1) := by decide +kernel
theorem d_M_readGaps_1 : decode prog_11_method_49_code 1 = .ok (.istore_n 1, 1) := by decide +kernel
theorem d_M_readGaps_2 : decode prog_11_method_49_code 2 = .ok (.iload_n 1, 1) := by decide +kernel
theorem d_M_readGaps_3 : decode prog_11_method_49_code 3 = .ok (.aload_n 0, 1) := by decide +kernel
theorem d_M_readGaps_4 : decode prog_11_method_49_code 4 = .ok (.getfield 167, 3) := by decide +kernel
theorem d_M_readGaps_7 : decode prog_11_method_49_code 7 = .ok (.if_icmp .ge 16, 3) := by decide +kernel
theorem d_M_readGaps_10 : decode prog_11_method_49_code 10 = .ok (.aload_n 0, 1) := by decide +kernel
theorem d_M_readGaps_11 : decode prog_11_method_49_code 11 = .ok (.getfield 65, 3) := by decide +kernel
theorem d_M_readGaps_14 : decode prog_11_method_49_code 14 = .ok (.iload_n 1, 1) := by decide +kernel
theorem d_M_readGaps_15 : decode prog_11_method_49_code 15 = .ok (.iconst 0, 1) := by decide +kernel
theorem d_M_readGaps_16 : decode prog_11_method_49_code 16 = .ok (.bastore, 1) := by decide +kernel
theorem d_M_readGaps_17 : decode prog_11_method_49_code 17 = .ok (.iinc 1 1, 3) := by decide +kernel
theorem d_M_readGaps_20 : decode prog_11_method_49_code 20 = .ok (.goto (-18), 3) := by decide +kernel
theorem d_M_readGaps_23 : decode prog_11_method_49_code 23 = .ok (.lconst 0, 1) := by decide +kernel
theorem d_M_readGaps_24 : decode prog_11_method_49_code 24 = .ok (.lstore_n 1, 1) := by decide +kernel
theorem d_M_readGaps_25 : decode prog_11_method_49_code 25 = .ok (.aload_n 0, 1) := by decide +kernel
theorem d_M_readGaps_26 : decode prog_11_method_49_code 26 = .ok (.invokevirtual 234, 3) := by decide +kernel
theorem d_M_readGaps_29 : decode prog_11_method_49_code 29 = .ok (.istore_n 3, 1) := by decide +kernel
theorem d_M_readGaps_30 : decode prog_11_method_49_code 30 = .ok (.iload_n 3, 1) := by decide +kernel
theorem d_M_readGaps_31 : decode prog_11_method_49_code 31 = .ok (.ifCond .lt 45, 3) := by decide +kernel
theorem d_M_readGaps_34 : decode prog_11_method_49_code 34 = .ok (.aload_n 0, 1) := by decide +kernel
theorem d_M_readGaps_35 : decode prog_11_method_49_code 35 = .ok (.getfield 55, 3) := by decide +kernel
theorem d_M_readGaps_38 : decode prog_11_method_49_code 38 = .ok (.iload_n 3, 1) := by decide +kernel
theorem d_M_readGaps_39 : decode prog_11_method_49_code 39 = .ok (.laload, 1) := by decide +kernel
theorem d_M_readGaps_40 : decode prog_11_method_49_code 40 = .ok (.lload_n 1, 1) := by decide +kernel
theorem d_M_readGaps_41 : decode prog_11_method_49_code 41 = .ok (.lcmp, 1) := by decide +kernel
theorem d_M_readGaps_42 : decode prog_11_method_49_code 42 = .ok (.ifCond .eq 12, 3) := by decide +kernel
theorem d_M_readGaps_45 : decode prog_11_method_49_code 45 = .ok (.aload_n 0, 1) := by decide +kernel
theorem d_M_readGaps_46 : decode prog_11_method_49_code 46 = .ok (.bipush 10, 2) := by decide +kernel
theorem d_M_readGaps_48 : decode prog_11_method_49_code 48 = .ok (.lload_n 1, 1) := by decide +kernel
theorem d_M_readGaps_49 : decode prog_11_method_49_code 49 = .ok (.iload_n 3, 1) := by decide +kernel
theorem d_M_readGaps_50 : decode prog_11_method_49_code 50 = .ok (.invokevirtual 163, 3) := by decide +kernel
theorem d_M_readGaps_53 : decode prog_11_method_49_code 53 = .ok (.ireturn, 1) := by decide +kernel
theorem d_M_readGaps_54 : decode prog_11_method_49_code 54 = .ok (.aload_n 0, 1) := by decide +kernel
theorem d_M_readGaps_55 : decode prog_11_method_49_code 55 = .ok (.getfield 62, 3) := by decide +kernel
theorem d_M_readGaps_58 : decode prog_11_method_49_code 58 = .ok (.iload_n 3, 1) := by decide +kernel
theorem d_M_readGaps_59 : decode prog_11_method_49_code 59 = .ok (.laload, 1) := by decide +kernel
theorem d_M_readGaps_60 : decode prog_11_method_49_code 60 = .ok (.lstore_n 1, 1) := by decide +kernel
theorem d_M_readGaps_61 : decode prog_11_method_49_code 61 = .ok (.aload_n 0, 1) := by decide +kernel
theorem d_M_readGaps_62 : decode prog_11_method_49_code 62 = .ok (.getfield 65, 3) := by decide +kernel
theorem d_M_readGaps_65 : decode prog_11_method_49_code 65 = .ok (.iload_n 3, 1) := by decide +kernel
theorem d_M_readGaps_66 : decode prog_11_method_49_code 66 = .ok (.iconst 1, 1) := by decide +kernel
theorem d_M_readGaps_67 : decode prog_11_method_49_code 67 = .ok (.bastore, 1) := by decide +kernel
theorem d_M_readGaps_68 : decode prog_11_method_49_code 68 = .ok (.aload_n 0, 1) := by decide +kernel
theorem d_M_readGaps_69 : decode prog_11_method_49_code 69 = .ok (.invokevirtual 234, 3) := by decide +kernel
theorem d_M_readGaps_72 : decode prog_11_method_49_code 72 = .ok (.istore_n 3, 1) := by decide +kernel
theorem d_M_readGaps_73 : decode prog_11_method_49_code 73 = .ok (.goto (-43), 3) := by decide +kernel
theorem d_M_readGaps_76 : decode prog_11_method_49_code 76 = .ok (.lload_n 1, 1) := by decide +kernel
theorem d_M_readGaps_77 : decode prog_11_method_49_code 77 = .ok (.aload_n 0, 1) := by decide +kernel
theorem d_M_readGaps_78 : decode prog_11_method_49_code 78 = .ok (.getfield 170, 3) := by decide +kernel
theorem d_M_readGaps_81 : decode prog_11_method_49_code 81 = .ok (.lcmp, 1) := by decide +kernel
theorem d_M_readGaps_82 : decode prog_11_method_49_code 82 = .ok (.ifCond .eq 18, 3) := by decide +kernel
theorem d_M_readGaps_85 : decode prog_11_method_49_code 85 = .ok (.aload_n 0, 1) := by decide +kernel
theorem d_M_readGaps_86 : decode prog_11_method_49_code 86 = .ok (.bipush 10, 2) := by decide +kernel
theorem d_M_readGaps_88 : decode prog_11_method_49_code 88 = .ok (.lload_n 1, 1) := by decide +kernel
theorem d_M_readGaps_89 : decode prog_11_method_49_code 89 = .ok (.iconst (-1), 1) := by decide +kernel
theorem d_M_readGaps_90 : decode prog_11_method_49_code 90 = .ok (.invokevirtual 163, 3) := by decide +kernel
theorem d_M_readGaps_93 : decode prog_11_method_49_code 93 = .ok (.ifCond .eq 7, 3) := by decide +kernel
theorem d_M_readGaps_96 : decode prog_11_method_49_code 96 = .ok (.iconst 1, 1) := by decide +kernel
theorem d_M_readGaps_97 : decode prog_11_method_49_code 97 = .ok (.goto 4, 3) := by decide +kernel
theorem d_M_readGaps_100 : decode prog_11_method_49_code 100 = .ok (.iconst 0, 1) := by decide +kernel
theorem d_M_readGaps_101 : decode prog_11_method_49_code 101 = .ok (.ireturn, 1) := by decide +kernel
theorem d_M_isWrong_0 : decode prog_11_method_50_code 0 = .ok (.aload_n 0, 1) := by decide +kernel
theorem d_M_isWrong_1 : decode prog_11_method_50_code 1 = .ok (.invokevirtual 237, 3) := by decide +kernel
theorem d_M_isWrong_4 : decode prog_11_method_50_code 4 = .ok (.ifCond .ne 10, 3) := by decide +kernel
theorem d_M_isWrong_7 : decode prog_11_method_50_code 7 = .ok (.aload_n 0, 1) := by decide +kernel
theorem d_M_isWrong_8 : decode prog_11_method_50_code 8 = .ok (.invokevirtual 241, 3) := by decide +kernel
theorem d_M_isWrong_11 : decode prog_11_method_50_code 11 = .ok (.ifCond .eq 5, 3) := by decide +kernel
theorem d_M_isWrong_14 : decode prog_11_method_50_code 14 = .ok (.iconst 1, 1) := by decide +kernel
theorem d_M_isWrong_15 : decode prog_11_method_50_code 15 = .ok (.ireturn, 1) := by decide +kernel
theorem d_M_isWrong_16 : decode prog_11_method_50_code 16 = .ok (.iconst 0, 1) := by decide +kernel
theorem d_M_isWrong_17 : decode prog_11_method_50_code 17 = .ok (.istore_n 1, 1) := by decide +kernel
theorem d_M_isWrong_18 : decode prog_11_method_50_code 18 = .ok (.iload_n 1, 1) := by decide +kernel
theorem d_M_isWrong_19 : decode prog_11_method_50_code 19 = .ok (.aload_n 0, 1) := by decide +kernel
theorem d_M_isWrong_20 : decode prog_11_method_50_code 20 = .ok (.getfield 167, 3) := by decide +kernel
theorem d_M_isWrong_23 : decode prog_11_method_50_code 23 = .ok (.if_icmp .ge 53, 3) := by decide +kernel
theorem d_M_isWrong_26 : decode prog_11_method_50_code 26 = .ok (.aload_n 0, 1) := by decide +kernel
theorem d_M_isWrong_27 : decode prog_11_method_50_code 27 = .ok (.iload_n 1, 1) := by decide +kernel
theorem d_M_isWrong_28 : decode prog_11_method_50_code 28 = .ok (.invokevirtual 244, 3) := by decide +kernel
theorem d_M_isWrong_31 : decode prog_11_method_50_code 31 = .ok (.ifCond .ne 17, 3) := by decide +kernel
theorem d_M_isWrong_34 : decode prog_11_method_50_code 34 = .ok (.aload_n 0, 1) := by decide +kernel
theorem d_M_isWrong_35 : decode prog_11_method_50_code 35 = .ok (.bipush 7, 2) := by decide +kernel
theorem d_M_isWrong_37 : decode prog_11_method_50_code 37 = .ok (.aload_n 0, 1) := by decide +kernel
theorem d_M_isWrong_38 : decode prog_11_method_50_code 38 = .ok (.getfield 55, 3) := by decide +kernel
theorem d_M_isWrong_41 : decode prog_11_method_50_code 41 = .ok (.iload_n 1, 1) := by decide +kernel
theorem d_M_isWrong_42 : decode prog_11_method_50_code 42 = .ok (.laload, 1) := by decide +kernel
theorem d_M_isWrong_43 : decode prog_11_method_50_code 43 = .ok (.iload_n 1, 1) := by decide +kernel
theorem d_M_isWrong_44 : decode prog_11_method_50_code 44 = .ok (.invokevirtual 163, 3) := by decide +kernel
theorem d_M_isWrong_47 : decode prog_11_method_50_code 47 = .ok (.ireturn, 1) := by decide +kernel
theorem d_M_isWrong_48 : decode prog_11_method_50_code 48 = .ok (.aload_n 0, 1) := by decide +kernel
theorem d_M_isWrong_49 : decode prog_11_method_50_code 49 = .ok (.iload_n 1, 1) := by decide +kernel
theorem d_M_isWrong_50 : decode prog_11_method_50_code 50 = .ok (.invokevirtual 247, 3) := by decide +kernel
theorem d_M_isWrong_53 : decode prog_11_method_50_code 53 = .ok (.ifCond .ne 17, 3) := by decide +kernel
theorem d_M_isWrong_56 : decode prog_11_method_50_code 56 = .ok (.aload_n 0, 1) := by decide +kernel
theorem d_M_isWrong_57 : decode prog_11_method_50_code 57 = .ok (.bipush 8, 2) := by decide +kernel
theorem d_M_isWrong_59 : decode prog_11_method_50_code 59 = .ok (.aload_n 0, 1) := by decide +kernel
theorem d_M_isWrong_60 : decode prog_11_method_50_code 60 = .ok (.getfield 55, 3) := by decide +kernel
theorem d_M_isWrong_63 : decode prog_11_method_50_code 63 = .ok (.iload_n 1, 1) := by decide +kernel
theorem d_M_isWrong_64 : decode prog_11_method_50_code 64 = .ok (.laload, 1) := by decide +kernel
theorem d_M_isWrong_65 : decode prog_11_method_50_code 65 = .ok (.iload_n 1, 1) := by decide +kernel
theorem d_M_isWrong_66 : decode prog_11_method_50_code 66 = .ok (.invokevirtual 163, 3) := by decide +kernel
theorem d_M_isWrong_69 : decode prog_11_method_50_code 69 = .ok (.ireturn, 1) := by decide +kernel
theorem d_M_isWrong_70 : decode prog_11_method_50_code 70 = .ok (.iinc 1 1, 3) := by decide +kernel
theorem d_M_isWrong_73 : decode prog_11_method_50_code 73 = .ok (.goto (-55), 3) := by decide +kernel
theorem d_M_isWrong_76 : decode prog_11_method_50_code 76 = .ok (.aload_n 0, 1) := by decide +kernel
theorem d_M_isWrong_77 : decode prog_11_method_50_code 77 = .ok (.invokevirtual 250, 3) := by decide +kernel
theorem d_M_isWrong_80 : decode prog_11_method_50_code 80 = .ok (.ifCond .eq 5, 3) := by decide +kernel
theorem d_M_isWrong_83 : decode prog_11_method_50_code 83 = .ok (.iconst 1, 1) := by decide +kernel
theorem d_M_isWrong_84 : decode prog_11_method_50_code 84 = .ok (.ireturn, 1) := by decide +kernel
theorem d_M_isWrong_85 : decode prog_11_method_50_code 85 = .ok (.iconst 0, 1) := by decide +kernel
theorem d_M_isWrong_86 : decode prog_11_method_50_code 86 = .ok (.istore_n 1, 1) := by decide +kernel
theorem d_M_isWrong_87 : decode prog_11_method_50_code 87 = .ok (.iload_n 1, 1) := by decide +kernel
theorem d_M_isWrong_88 : decode prog_11_method_50_code 88 = .ok (.aload_n 0, 1) := by decide +kernel
theorem d_M_isWrong_89 : decode prog_11_method_50_code 89 = .ok (.getfield 167, 3) := by decide +kernel
theorem d_M_isWrong_92 : decode prog_11_method_50_code 92 = .ok (.if_icmp .ge 69, 3) := by decide +kernel
theorem d_M_isWrong_95 : decode prog_11_method_50_code 95 = .ok (.aload_n 0, 1) := by decide +kernel
theorem d_M_isWrong_96 : decode prog_11_method_50_code 96 = .ok (.iload_n 1, 1) := by decide +kernel
theorem d_M_isWrong_97 : decode prog_11_method_50_code 97 = .ok (.invokevirtual 188, 3) := by decide +kernel
theorem d_M_isWrong_100 : decode prog_11_method_50_code 100 = .ok (.ifCond .ne 55, 3) := by decide +kernel
theorem d_M_isWrong_103 : decode prog_11_method_50_code 103 = .ok (.aload_n 0, 1) := by decide +kernel
theorem d_M_isWrong_104 : decode prog_11_method_50_code 104 = .ok (.getfield 8, 3) := by decide +kernel
theorem d_M_isWrong_107 : decode prog_11_method_50_code 107 = .ok (.aload_n 0, 1) := by decide +kernel
theorem d_M_isWrong_108 : decode prog_11_method_50_code 108 = .ok (.getfield 59, 3) := by decide +kernel
theorem d_M_isWrong_111 : decode prog_11_method_50_code 111 = .ok (.iload_n 1, 1) := by decide +kernel
theorem d_M_isWrong_112 : decode prog_11_method_50_code 112 = .ok (.laload, 1) := by decide +kernel
theorem d_M_isWrong_113 : decode prog_11_method_50_code 113 = .ok (.l2i, 1) := by decide +kernel
theorem d_M_isWrong_114 : decode prog_11_method_50_code 114 = .ok (.aload_n 0, 1) := by decide +kernel
theorem d_M_isWrong_115 : decode prog_11_method_50_code 115 = .ok (.iload_n 1, 1) := by decide +kernel
theorem d_M_isWrong_116 : decode prog_11_method_50_code 116 = .ok (.invokevirtual 196, 3) := by decide +kernel
theorem d_M_isWrong_119 : decode prog_11_method_50_code 119 = .ok (.l2i, 1) := by decide +kernel
theorem d_M_isWrong_120 : decode prog_11_method_50_code 120 = .ok (.invokestatic 105, 3) := by decide +kernel
theorem d_M_isWrong_123 : decode prog_11_method_50_code 123 = .ok (.aload_n 0, 1) := by decide +kernel
theorem d_M_isWrong_124 : decode prog_11_method_50_code 124 = .ok (.aload_n 0, 1) := by decide +kernel
theorem d_M_isWrong_125 : decode prog_11_method_50_code 125 = .ok (.getfield 52, 3) := by decide +kernel
theorem d_M_isWrong_128 : decode prog_11_method_50_code 128 = .ok (.iload_n 1, 1) := by decide +kernel
theorem d_M_isWrong_129 : decode prog_11_method_50_code 129 = .ok (.iaload, 1) := by decide +kernel
theorem d_M_isWrong_130 : decode prog_11_method_50_code 130 = .ok (.bipush 16, 2) := by decide +kernel
theorem d_M_isWrong_132 : decode prog_11_method_50_code 132 = .ok (.iadd, 1) := by decide +kernel
theorem d_M_isWrong_133 : decode prog_11_method_50_code 133 = .ok (.i2l, 1) := by decide +kernel
theorem d_M_isWrong_134 : decode prog_11_method_50_code 134 = .ok (.invokevirtual 157, 3) := by decide +kernel
theorem d_M_isWrong_137 : decode prog_11_method_50_code 137 = .ok (.l2i, 1) := by decide +kernel
theorem d_M_isWrong_138 : decode prog_11_method_50_code 138 = .ok (.if_icmp .eq 17, 3) := by decide +kernel
theorem d_M_isWrong_141 : decode prog_11_method_50_code 141 = .ok (.aload_n 0, 1) := by decide +kernel
theorem d_M_isWrong_142 : decode prog_11_method_50_code 142 = .ok (.bipush 11, 2) := by decide +kernel
theorem d_M_isWrong_144 : decode prog_11_method_50_code 144 = .ok (.aload_n 0, 1) := by decide +kernel
theorem d_M_isWrong_145 : decode prog_11_method_50_code 145 = .ok (.getfield 59, 3) := by decide +kernel
theorem d_M_isWrong_148 : decode prog_11_method_50_code 148 = .ok (.iload_n 1, 1) := by decide +kernel
theorem d_M_isWrong_149 : decode prog_11_method_50_code 149 = .ok (.laload, 1) := by decide +kernel
theorem d_M_isWrong_150 : decode prog_11_method_50_code 150 = .ok (.iload_n 1, 1) := by decide +kernel
theorem d_M_isWrong_151 : decode prog_11_method_50_code 151 = .ok (.invokevirtual 163, 3) := by decide +kernel
theorem d_M_isWrong_154 : decode prog_11_method_50_code 154 = .ok (.ireturn, 1) := by decide +kernel
theorem d_M_isWrong_155 : decode prog_11_method_50_code 155 = .ok (.iinc 1 1, 3) := by decide +kernel
theorem d_M_isWrong_158 : decode prog_11_method_50_code 158 = .ok (.goto (-71), 3) := by decide +kernel
theorem d_M_isWrong_161 : decode prog_11_method_50_code 161 = .ok (.iconst 0, 1) := by decide +kernel
theorem d_M_isWrong_162 : decode prog_11_method_50_code 162 = .ok (.ireturn, 1) := by decide +kernel
theorem d_M_read_0 : decode prog_11_method_51_code 0 = .ok (.aload_n 0, 1) := by decide +kernel
theorem d_M_read_1 : decode prog_11_method_51_code 1 = .ok (.iload_n 1, 1) := by decide +kernel
theorem d_M_read_2 : decode prog_11_method_51_code 2 = .ok (.ifCond .lt 9, 3) := by decide +kernel
theorem d_M_read_5 : decode prog_11_method_51_code 5 = .ok (.iload_n 1, 1) := by decide +kernel
theorem d_M_read_6 : decode prog_11_method_51_code 6 = .ok (.ldc 7, 2) := by decide +kernel
theorem d_M_read_8 : decode prog_11_method_51_code 8 = .ok (.if_icmp .le 7, 3) := by decide +kernel
theorem d_M_read_11 : decode prog_11_method_51_code 11 = .ok (.iconst 1, 1) := by decide +kernel
theorem d_M_read_12 : decode prog_11_method_51_code 12 = .ok (.goto 4, 3) := by decide +kernel
theorem d_M_read_15 : decode prog_11_method_51_code 15 = .ok (.iconst 0, 1) := by decide +kernel
theorem d_M_read_16 : decode prog_11_method_51_code 16 = .ok (.putfield 69, 3) := by decide +kernel
theorem d_M_read_19 : decode prog_11_method_51_code 19 = .ok (.aload_n 0, 1) := by decide +kernel
theorem d_M_read_20 : decode prog_11_method_51_code 20 = .ok (.getfield 69, 3) := by decide +kernel
theorem d_M_read_23 : decode prog_11_method_51_code 23 = .ok (.ifCond .le 5, 3) := by decide +kernel
theorem d_M_read_26 : decode prog_11_method_51_code 26 = .ok (.iconst 0, 1) := by decide +kernel
theorem d_M_read_27 : decode prog_11_method_51_code 27 = .ok (.ireturn, 1) := by decide +kernel
theorem d_M_read_28 : decode prog_11_method_51_code 28 = .ok (.aload_n 0, 1) := by decide +kernel
theorem d_M_read_29 : decode prog_11_method_51_code 29 = .ok (.iload_n 1, 1) := by decide +kernel
theorem d_M_read_30 : decode prog_11_method_51_code 30 = .ok (.putfield 203, 3) := by decide +kernel
theorem d_M_read_33 : decode prog_11_method_51_code 33 = .ok (.aload_n 0, 1) := by decide +kernel
theorem d_M_read_34 : decode prog_11_method_51_code 34 = .ok (.iconst 0, 1) := by decide +kernel
theorem d_M_read_35 : decode prog_11_method_51_code 35 = .ok (.putfield 151, 3) := by decide +kernel
theorem d_M_read_38 : decode prog_11_method_51_code 38 = .ok (.aload_n 0, 1) := by decide +kernel
theorem d_M_read_39 : decode prog_11_method_51_code 39 = .ok (.iconst (-1), 1) := by decide +kernel
theorem d_M_read_40 : decode prog_11_method_51_code 40 = .ok (.putfield 45, 3) := by decide +kernel
theorem d_M_read_43 : decode prog_11_method_51_code 43 = .ok (.aload_n 0, 1) := by decide +kernel
theorem d_M_read_44 : decode prog_11_method_51_code 44 = .ok (.iconst (-1), 1) := by decide +kernel
theorem d_M_read_45 : decode prog_11_method_51_code 45 = .ok (.putfield 49, 3) := by decide +kernel
theorem d_M_read_48 : decode prog_11_method_51_code 48 = .ok (.aload_n 0, 1) := by decide +kernel
theorem d_M_read_49 : decode prog_11_method_51_code 49 = .ok (.invokevirtual 253, 3) := by decide +kernel
theorem d_M_read_52 : decode prog_11_method_51_code 52 = .ok (.ifCond .eq 8, 3) := by decide +kernel
theorem d_M_read_55 : decode prog_11_method_51_code 55 = .ok (.aload_n 0, 1) := by decide +kernel
theorem d_M_read_56 : decode prog_11_method_51_code 56 = .ok (.getfield 151, 3) := by decide +kernel
theorem d_M_read_59 : decode prog_11_method_51_code 59 = .ok (.ireturn, 1) := by decide +kernel
theorem d_M_read_60 : decode prog_11_method_51_code 60 = .ok (.aload_n 0, 1) := by decide +kernel
theorem d_M_read_61 : decode prog_11_method_51_code 61 = .ok (.aload_n 0, 1) := by decide +kernel
theorem d_M_read_62 : decode prog_11_method_51_code 62 = .ok (.getfield 167, 3) := by decide +kernel
theorem d_M_read_65 : decode prog_11_method_51_code 65 = .ok (.putfield 82, 3) := by decide +kernel
theorem d_M_read_68 : decode prog_11_method_51_code 68 = .ok (.aload_n 0, 1) := by decide +kernel
theorem d_M_read_69 : decode prog_11_method_51_code 69 = .ok (.iconst 0, 1) := by decide +kernel
theorem d_M_read_70 : decode prog_11_method_51_code 70 = .ok (.putfield 90, 3) := by decide +kernel
theorem d_M_read_73 : decode prog_11_method_51_code 73 = .ok (.iconst 0, 1) := by decide +kernel
theorem d_M_read_74 : decode prog_11_method_51_code 74 = .ok (.istore_n 2, 1) := by decide +kernel
theorem d_M_read_75 : decode prog_11_method_51_code 75 = .ok (.iload_n 2, 1) := by decide +kernel
theorem d_M_read_76 : decode prog_11_method_51_code 76 = .ok (.aload_n 0, 1) := by decide +kernel
theorem d_M_read_77 : decode prog_11_method_51_code 77 = .ok (.getfield 167, 3) := by decide +kernel
theorem d_M_read_80 : decode prog_11_method_51_code 80 = .ok (.if_icmp .ge 188, 3) := by decide +kernel
theorem d_M_read_83 : decode prog_11_method_51_code 83 = .ok (.aload_n 0, 1) := by decide +kernel
theorem d_M_read_84 : decode prog_11_method_51_code 84 = .ok (.getfield 21, 3) := by decide +kernel
theorem d_M_read_87 : decode prog_11_method_51_code 87 = .ok (.iload_n 2, 1) := by decide +kernel
theorem d_M_read_88 : decode prog_11_method_51_code 88 = .ok (.aload_n 0, 1) := by decide +kernel
theorem d_M_read_89 : decode prog_11_method_51_code 89 = .ok (.iload_n 2, 1) := by decide +kernel
theorem d_M_read_90 : decode prog_11_method_51_code 90 = .ok (.invokevirtual 174, 3) := by decide +kernel
theorem d_M_read_93 : decode prog_11_method_51_code 93 = .ok (.iastore, 1) := by decide +kernel
theorem d_M_read_94 : decode prog_11_method_51_code 94 = .ok (.iconst 0, 1) := by decide +kernel
theorem d_M_read_95 : decode prog_11_method_51_code 95 = .ok (.istore_n 3, 1) := by decide +kernel
theorem d_M_read_96 : decode prog_11_method_51_code 96 = .ok (.iload_n 3, 1) := by decide +kernel
theorem d_M_read_97 : decode prog_11_method_51_code 97 = .ok (.aload_n 0, 1) := by decide +kernel
theorem d_M_read_98 : decode prog_11_method_51_code 98 = .ok (.iload_n 2, 1) := by decide +kernel
theorem d_M_read_99 : decode prog_11_method_51_code 99 = .ok (.invokevirtual 174, 3) := by decide +kernel
theorem d_M_read_102 : decode prog_11_method_51_code 102 = .ok (.if_icmp .ge 36, 3) := by decide +kernel
theorem d_M_read_105 : decode prog_11_method_51_code 105 = .ok (.aload_n 0, 1) := by decide +kernel
theorem d_M_read_106 : decode prog_11_method_51_code 106 = .ok (.getfield 18, 3) := by decide +kernel
theorem d_M_read_109 : decode prog_11_method_51_code 109 = .ok (.bipush 64, 2) := by decide +kernel
theorem d_M_read_111 : decode prog_11_method_51_code 111 = .ok (.iload_n 2, 1) := by decide +kernel
theorem d_M_read_112 : decode prog_11_method_51_code 112 = .ok (.imul, 1) := by decide +kernel
theorem d_M_read_113 : decode prog_11_method_51_code 113 = .ok (.iload_n 3, 1) := by decide +kernel
theorem d_M_read_114 : decode prog_11_method_51_code 114 = .ok (.iadd, 1) := by decide +kernel
theorem d_M_read_115 : decode prog_11_method_51_code 115 = .ok (.aload_n 0, 1) := by decide +kernel
theorem d_M_read_116 : decode prog_11_method_51_code 116 = .ok (.getfield 8, 3) := by decide +kernel
theorem d_M_read_119 : decode prog_11_method_51_code 119 = .ok (.aload_n 0, 1) := by decide +kernel
theorem d_M_read_120 : decode prog_11_method_51_code 120 = .ok (.getfield 52, 3) := by decide +kernel
theorem d_M_read_123 : decode prog_11_method_51_code 123 = .ok (.iload_n 2, 1) := by decide +kernel
theorem d_M_read_124 : decode prog_11_method_51_code 124 = .ok (.iaload, 1) := by decide +kernel
theorem d_M_read_125 : decode prog_11_method_51_code 125 = .ok (.bipush 46, 2) := by decide +kernel
theorem d_M_read_127 : decode prog_11_method_51_code 127 = .ok (.iadd, 1) := by decide +kernel
theorem d_M_read_128 : decode prog_11_method_51_code 128 = .ok (.iload_n 3, 1) := by decide +kernel
theorem d_M_read_129 : decode prog_11_method_51_code 129 = .ok (.iadd, 1) := by decide +kernel
theorem d_M_read_130 : decode prog_11_method_51_code 130 = .ok (.baload, 1) := by decide +kernel
theorem d_M_read_131 : decode prog_11_method_51_code 131 = .ok (.iastore, 1) := by decide +kernel
theorem d_M_read_132 : decode prog_11_method_51_code 132 = .ok (.iinc 3 1, 3) := by decide +kernel
theorem d_M_read_135 : decode prog_11_method_51_code 135 = .ok (.goto (-39), 3) := by decide +kernel
theorem d_M_read_138 : decode prog_11_method_51_code 138 = .ok (.aload_n 0, 1) := by decide +kernel
theorem d_M_read_139 : decode prog_11_method_51_code 139 = .ok (.getfield 24, 3) := by decide +kernel
theorem d_M_read_142 : decode prog_11_method_51_code 142 = .ok (.iload_n 2, 1) := by decide +kernel
theorem d_M_read_143 : decode prog_11_method_51_code 143 = .ok (.aload_n 0, 1) := by decide +kernel
theorem d_M_read_144 : decode prog_11_method_51_code 144 = .ok (.iload_n 2, 1) := by decide +kernel
theorem d_M_read_145 : decode prog_11_method_51_code 145 = .ok (.invokevirtual 188, 3) := by decide +kernel
theorem d_M_read_148 : decode prog_11_method_51_code 148 = .ok (.iastore, 1) := by decide +kernel
theorem d_M_read_149 : decode prog_11_method_51_code 149 = .ok (.aload_n 0, 1) := by decide +kernel
theorem d_M_read_150 : decode prog_11_method_51_code 150 = .ok (.getfield 27, 3) := by decide +kernel
theorem d_M_read_153 : decode prog_11_method_51_code 153 = .ok (.iload_n 2, 1) := by decide +kernel
theorem d_M_read_154 : decode prog_11_method_51_code 154 = .ok (.aload_n 0, 1) := by decide +kernel
theorem d_M_read_155 : decode prog_11_method_51_code 155 = .ok (.getfield 90, 3) := by decide +kernel
theorem d_M_read_158 : decode prog_11_method_51_code 158 = .ok (.iastore, 1) := by decide +kernel
theorem d_M_read_159 : decode prog_11_method_51_code 159 = .ok (.aload_n 0, 1) := by decide +kernel
theorem d_M_read_160 : decode prog_11_method_51_code 160 = .ok (.getfield 30, 3) := by decide +kernel
theorem d_M_read_163 : decode prog_11_method_51_code 163 = .ok (.iload_n 2, 1) := by decide +kernel
theorem d_M_read_164 : decode prog_11_method_51_code 164 = .ok (.aload_n 0, 1) := by decide +kernel
theorem d_M_read_165 : decode prog_11_method_51_code 165 = .ok (.iload_n 2, 1) := by decide +kernel
theorem d_M_read_166 : decode prog_11_method_51_code 166 = .ok (.invokevirtual 196, 3) := by decide +kernel
theorem d_M_read_169 : decode prog_11_method_51_code 169 = .ok (.l2i, 1) := by decide +kernel
theorem d_M_read_170 : decode prog_11_method_51_code 170 = .ok (.iastore, 1) := by decide +kernel
theorem d_M_read_171 : decode prog_11_method_51_code 171 = .ok (.aload_n 0, 1) := by decide +kernel
theorem d_M_read_172 : decode prog_11_method_51_code 172 = .ok (.getfield 33, 3) := by decide +kernel
theorem d_M_read_175 : decode prog_11_method_51_code 175 = .ok (.iload_n 2, 1) := by decide +kernel
theorem d_M_read_176 : decode prog_11_method_51_code 176 = .ok (.aload_n 0, 1) := by decide +kernel
theorem d_M_read_177 : decode prog_11_method_51_code 177 = .ok (.iload_n 2, 1) := by decide +kernel
theorem d_M_read_178 : decode prog_11_method_51_code 178 = .ok (.invokevirtual 200, 3) := by decide +kernel
theorem d_M_read_181 : decode prog_11_method_51_code 181 = .ok (.l2i, 1) := by decide +kernel
theorem d_M_read_182 : decode prog_11_method_51_code 182 = .ok (.iastore, 1) := by decide +kernel
theorem d_M_read_183 : decode prog_11_method_51_code 183 = .ok (.aload_n 0, 1) := by decide +kernel
theorem d_M_read_184 : decode prog_11_method_51_code 184 = .ok (.getfield 36, 3) := by decide +kernel
theorem d_M_read_187 : decode prog_11_method_51_code 187 = .ok (.iload_n 2, 1) := by decide +kernel
theorem d_M_read_188 : decode prog_11_method_51_code 188 = .ok (.aload_n 0, 1) := by decide +kernel
theorem d_M_read_189 : decode prog_11_method_51_code 189 = .ok (.aload_n 0, 1) := by decide +kernel
theorem d_M_read_190 : decode prog_11_method_51_code 190 = .ok (.getfield 52, 3) := by decide +kernel
theorem d_M_read_193 : decode prog_11_method_51_code 193 = .ok (.iload_n 2, 1) := by decide +kernel
theorem d_M_read_194 : decode prog_11_method_51_code 194 = .ok (.iaload, 1) := by decide +kernel
theorem d_M_read_195 : decode prog_11_method_51_code 195 = .ok (.bipush 16, 2) := by decide +kernel
theorem d_M_read_197 : decode prog_11_method_51_code 197 = .ok (.iadd, 1) := by decide +kernel
theorem d_M_read_198 : decode prog_11_method_51_code 198 = .ok (.i2l, 1) := by decide +kernel
theorem d_M_read_199 : decode prog_11_method_51_code 199 = .ok (.invokevirtual 157, 3) := by decide +kernel
theorem d_M_read_202 : decode prog_11_method_51_code 202 = .ok (.l2i, 1) := by decide +kernel
theorem d_M_read_203 : decode prog_11_method_51_code 203 = .ok (.iastore, 1) := by decide +kernel
theorem d_M_read_204 : decode prog_11_method_51_code 204 = .ok (.iconst 0, 1) := by decide +kernel
theorem d_M_read_205 : decode prog_11_method_51_code 205 = .ok (.istore_n 3, 1) := by decide +kernel
theorem d_M_read_206 : decode prog_11_method_51_code 206 = .ok (.iload_n 3, 1) := by decide +kernel
theorem d_M_read_207 : decode prog_11_method_51_code 207 = .ok (.aload_n 0, 1) := by decide +kernel
theorem d_M_read_208 : decode prog_11_method_51_code 208 = .ok (.getfield 30, 3) := by decide +kernel
theorem d_M_read_211 : decode prog_11_method_51_code 211 = .ok (.iload_n 2, 1) := by decide +kernel
theorem d_M_read_212 : decode prog_11_method_51_code 212 = .ok (.iaload, 1) := by decide +kernel
theorem d_M_read_213 : decode prog_11_method_51_code 213 = .ok (.if_icmp .ge 34, 3) := by decide +kernel
theorem d_M_read_216 : decode prog_11_method_51_code 216 = .ok (.aload_n 0, 1) := by decide +kernel
theorem d_M_read_217 : decode prog_11_method_51_code 217 = .ok (.getfield 39, 3) := by decide +kernel
theorem d_M_read_220 : decode prog_11_method_51_code 220 = .ok (.aload_n 0, 1) := by decide +kernel
theorem d_M_read_221 : decode prog_11_method_51_code 221 = .ok (.getfield 90, 3) := by decide +kernel
theorem d_M_read_224 : decode prog_11_method_51_code 224 = .ok (.iload_n 3, 1) := by decide +kernel
theorem d_M_read_225 : decode prog_11_method_51_code 225 = .ok (.iadd, 1) := by decide +kernel
theorem d_M_read_226 : decode prog_11_method_51_code 226 = .ok (.aload_n 0, 1) := by decide +kernel
theorem d_M_read_227 : decode prog_11_method_51_code 227 = .ok (.getfield 8, 3) := by decide +kernel
theorem d_M_read_230 : decode prog_11_method_51_code 230 = .ok (.aload_n 0, 1) := by decide +kernel
theorem d_M_read_231 : decode prog_11_method_51_code 231 = .ok (.getfield 59, 3) := by decide +kernel
theorem d_M_read_234 : decode prog_11_method_51_code 234 = .ok (.iload_n 2, 1) := by decide +kernel
theorem d_M_read_235 : decode prog_11_method_51_code 235 = .ok (.laload, 1) := by decide +kernel
theorem d_M_read_236 : decode prog_11_method_51_code 236 = .ok (.l2i, 1) := by decide +kernel
theorem d_M_read_237 : decode prog_11_method_51_code 237 = .ok (.iload_n 3, 1) := by decide +kernel
theorem d_M_read_238 : decode prog_11_method_51_code 238 = .ok (.iadd, 1) := by decide +kernel
theorem d_M_read_239 : decode prog_11_method_51_code 239 = .ok (.baload, 1) := by decide +kernel
theorem d_M_read_240 : decode prog_11_method_51_code 240 = .ok (.bastore, 1) := by decide +kernel
theorem d_M_read_241 : decode prog_11_method_51_code 241 = .ok (.iinc 3 1, 3) := by decide +kernel
theorem d_M_read_244 : decode prog_11_method_51_code 244 = .ok (.goto (-38), 3) := by decide +kernel
theorem d_M_read_247 : decode prog_11_method_51_code 247 = .ok (.aload_n 0, 1) := by decide +kernel
theorem d_M_read_248 : decode prog_11_method_51_code 248 = .ok (.dup, 1) := by decide +kernel
theorem d_M_read_249 : decode prog_11_method_51_code 249 = .ok (.getfield 90, 3) := by decide +kernel
theorem d_M_read_252 : decode prog_11_method_51_code 252 = .ok (.aload_n 0, 1) := by decide +kernel
theorem d_M_read_253 : decode prog_11_method_51_code 253 = .ok (.getfield 30, 3) := by decide +kernel
theorem d_M_read_256 : decode prog_11_method_51_code 256 = .ok (.iload_n 2, 1) := by decide +kernel
theorem d_M_read_257 : decode prog_11_method_51_code 257 = .ok (.iaload, 1) := by decide +kernel
theorem d_M_read_258 : decode prog_11_method_51_code 258 = .ok (.iadd, 1) := by decide +kernel
theorem d_M_read_259 : decode prog_11_method_51_code 259 = .ok (.putfield 90, 3) := by decide +kernel
theorem d_M_read_262 : decode prog_11_method_51_code 262 = .ok (.iinc 2 1, 3) := by decide +kernel
theorem d_M_read_265 : decode prog_11_method_51_code 265 = .ok (.goto (-190), 3) := by decide +kernel
theorem d_M_read_268 : decode prog_11_method_51_code 268 = .ok (.iconst 0, 1) := by decide +kernel
theorem d_M_read_269 : decode prog_11_method_51_code 269 = .ok (.ireturn, 1) := by decide +kernel
theorem d_M_blame_0 : decode prog_11_method_52_code 0 = .ok (.aload_n 0, 1) := by decide +kernel
theorem d_M_blame_1 : decode prog_11_method_52_code 1 = .ok (.iload_n 1, 1) := by decide +kernel
theorem d_M_blame_2 : decode prog_11_method_52_code 2 = .ok (.ifCond .lt 8, 3) := by decide +kernel
theorem d_M_blame_5 : decode prog_11_method_52_code 5 = .ok (.iload_n 1, 1) := by decide +kernel
theorem d_M_blame_6 : decode prog_11_method_52_code 6 = .ok (.iconst 2, 1) := by decide +kernel
theorem d_M_blame_7 : decode prog_11_method_52_code 7 = .ok (.if_icmp .le 7, 3) := by decide +kernel
theorem d_M_blame_10 : decode prog_11_method_52_code 10 = .ok (.iconst 1, 1) := by decide +kernel
theorem d_M_blame_11 : decode prog_11_method_52_code 11 = .ok (.goto 4, 3) := by decide +kernel
theorem d_M_blame_14 : decode prog_11_method_52_code 14 = .ok (.iconst 0, 1) := by decide +kernel
theorem d_M_blame_15 : decode prog_11_method_52_code 15 = .ok (.putfield 69, 3) := by decide +kernel
theorem d_M_blame_18 : decode prog_11_method_52_code 18 = .ok (.aload_n 0, 1) := by decide +kernel
theorem d_M_blame_19 : decode prog_11_method_52_code 19 = .ok (.getfield 69, 3) := by decide +kernel
theorem d_M_blame_22 : decode prog_11_method_52_code 22 = .ok (.ifCond .le 5, 3) := by decide +kernel
theorem d_M_blame_25 : decode prog_11_method_52_code 25 = .ok (.iconst 0, 1) := by decide +kernel
theorem d_M_blame_26 : decode prog_11_method_52_code 26 = .ok (.ireturn, 1) := by decide +kernel
theorem d_M_blame_27 : decode prog_11_method_52_code 27 = .ok (.iload_n 1, 1) := by decide +kernel
theorem d_M_blame_28 : decode prog_11_method_52_code 28 = .ok (.ifCond .ne 10, 3) := by decide +kernel
theorem d_M_blame_31 : decode prog_11_method_52_code 31 = .ok (.aload_n 0, 1) := by decide +kernel
theorem d_M_blame_32 : decode prog_11_method_52_code 32 = .ok (.getfield 151, 3) := by decide +kernel
theorem d_M_blame_35 : decode prog_11_method_52_code 35 = .ok (.goto 19, 3) := by decide +kernel
theorem d_M_blame_38 : decode prog_11_method_52_code 38 = .ok (.iload_n 1, 1) := by decide +kernel
theorem d_M_blame_39 : decode prog_11_method_52_code 39 = .ok (.iconst 1, 1) := by decide +kernel
theorem d_M_blame_40 : decode prog_11_method_52_code 40 = .ok (.if_icmp .ne 10, 3) := by decide +kernel
theorem d_M_blame_43 : decode prog_11_method_52_code 43 = .ok (.aload_n 0, 1) := by decide +kernel
theorem d_M_blame_44 : decode prog_11_method_52_code 44 = .ok (.getfield 45, 3) := by decide +kernel
theorem d_M_blame_47 : decode prog_11_method_52_code 47 = .ok (.goto 7, 3) := by decide +kernel
theorem d_M_blame_50 : decode prog_11_method_52_code 50 = .ok (.aload_n 0, 1) := by decide +kernel
theorem d_M_blame_51 : decode prog_11_method_52_code 51 = .ok (.getfield 49, 3) := by decide +kernel
theorem d_M_blame_54 : decode prog_11_method_52_code 54 = .ok (.ireturn, 1) := by decide +kernel
theorem t_M_two_0 {l : Launch} {G : mm_G} {b : Nat} {m : mm_Mem} {Q : mm_O → mm_Mem → Prop} {r0 : Nat} {y1 : Int64} {fs_1 : List Value} {q_4 : Nat} {n_6 : Nat} {f_7 : Nat → Int32} (g2 : m r0 = .inr (8, fs_1)) (z3 : r0 ≠ 0) (v5 : fs_1[2]? = some (.ref q_4)) (a8 : m q_4 = .inl (G.2 0, n_6, .inl f_7)) (z9 : q_4 ≠ 0) (i10 : vp_in y1.toInt32 n_6) (i11 : vp_in (y1.toInt32 + 1) n_6) (h12 : Q (.inl (some (.int (((f_7 y1.toInt32.toNatClampNeg) &&& 255) + (256 * ((f_7 (y1.toInt32 + 1).toNatClampNeg) &&& 255)))))) m) : mm_W l G k_M_two 0 [(0, .ref r0), (1, .long y1)] [] b m Q := by
  refine mm_aload_n 0 (i := 0) d_M_two_0 rfl rfl ?_
  refine mm_get cc_M 2 (by decide) w_745 d_M_two_1 g2 z3 v5 ?_
  refine mm_lload_n 1 (i := 1) d_M_two_4 rfl rfl ?_
  refine mm_l2i d_M_two_5 ?_
  refine mm_bald d_M_two_6 a8 z9 i10 ?_
  refine mm_sipush d_M_two_7 (v := 255) (by decide) ?_
  refine mm_iand d_M_two_10 ?_
  refine mm_sipush d_M_two_11 (v := 256) (by decide) ?_
  refine mm_aload_n 0 (i := 0) d_M_two_14 rfl rfl ?_
  refine mm_get cc_M 2 (by decide) w_745 d_M_two_15 g2 z3 v5 ?_
  refine mm_lload_n 1 (i := 1) d_M_two_18 rfl rfl ?_
  refine mm_l2i d_M_two_19 ?_
  refine mm_iconst d_M_two_20 (v := 1) (by decide) ?_
  refine mm_iadd d_M_two_21 ?_
  refine mm_bald d_M_two_22 a8 z9 i11 ?_
  refine mm_sipush d_M_two_23 (v := 255) (by decide) ?_
  refine mm_iand d_M_two_26 ?_
  refine mm_imul d_M_two_27 ?_
  refine mm_iadd d_M_two_28 ?_
  exact mm_iret d_M_two_29 rfl h12
theorem t_M_four_0 {l : Launch} {G : mm_G} {b : Nat} {m : mm_Mem} {Q : mm_O → mm_Mem → Prop} {r0 : Nat} {y1 : Int64} {b_1 : Nat} {b_2 : Nat} {m_4 : mm_Mem} {x_5 : Int32} {fs_6 : List Value} {b_10 : Nat} {b_11 : Nat} {m_13 : mm_Mem} {x_14 : Int32} {fs_15 : List Value} (hb3 : b_1 + b_2 ≤ b) (g7 : m r0 = .inr (8, fs_6)) (z8 : r0 ≠ 0) (M9 : mm_W l G k_M_two 0 (lv_args 0 [.ref r0, .long y1]) [] b_1 m (mm_is (.inl (some (.int x_5))) m_4)) (hb12 : b_10 + b_11 ≤ b_2) (g16 : m_4 r0 = .inr (8, fs_15)) (M17 : mm_W l G k_M_two 0 (lv_args 0 [.ref r0, .long (y1 + 2)]) [] b_10 m_4 (mm_is (.inl (some (.int x_14))) m_13)) (h18 : Q (.inl (some (.long (x_5.toInt64 + (65536 * x_14.toInt64))))) m_13) : mm_W l G k_M_four 0 [(0, .ref r0), (1, .long y1)] [] b m Q := by
  refine mm_aload_n 0 (i := 0) d_M_four_0 rfl rfl ?_
  refine mm_lload_n 1 (i := 1) d_M_four_1 rfl rfl ?_
  refine mm_callV (as := [.long y1]) (st := []) (b2 := b_2) ca_M_two w_979 w_981 v_M_two cc_M.1 rfl d_M_four_2 rfl (Nat.le_of_ble_eq_true rfl) (Nat.le_of_ble_eq_true rfl) (Nat.le_of_ble_eq_true rfl) hb3 g7 z8 M9 (fun E _ ⟨c, _⟩ => nomatch c) (fun v _ ⟨c, e⟩ => ?_)
  cases c
  rw [e]
  show mm_W l G k_M_four 5 [(0, .ref r0), (1, .long y1)] [.int x_5] b_2 m_4 Q
  refine mm_i2l d_M_four_5 ?_
  refine mm_ldc2 (v := 65536) w_983 d_M_four_6 ?_
  refine mm_aload_n 0 (i := 0) d_M_four_9 rfl rfl ?_
  refine mm_lload_n 1 (i := 1) d_M_four_10 rfl rfl ?_
  refine mm_ldc2 (v := 2) w_984 d_M_four_11 ?_
  refine mm_ladd d_M_four_14 ?_
  refine mm_callV (as := [.long (y1 + 2)]) (st := [.long 65536, .long x_5.toInt64]) (b2 := b_11) ca_M_two w_979 w_981 v_M_two cc_M.1 rfl d_M_four_15 rfl (Nat.le_of_ble_eq_true rfl) (Nat.le_of_ble_eq_true rfl) (Nat.le_of_ble_eq_true rfl) hb12 g16 z8 M17 (fun E _ ⟨c, _⟩ => nomatch c) (fun v _ ⟨c, e⟩ => ?_)
  cases c
  rw [e]
  show mm_W l G k_M_four 18 [(0, .ref r0), (1, .long y1)] [.int x_14, .long 65536, .long x_5.toInt64] b_11 m_13 Q
  refine mm_i2l d_M_four_18 ?_
  refine mm_lmul d_M_four_19 ?_
  refine mm_ladd d_M_four_20 ?_
  exact mm_lret d_M_four_21 rfl h18
theorem t_M_wrong_0 {l : Launch} {G : mm_G} {b : Nat} {m : mm_Mem} {Q : mm_O → mm_Mem → Prop} {r0 : Nat} {x1 : Int32} {y2 : Int64} {x4 : Int32} {fs_1 : List Value} (g2 : m r0 = .inr (8, fs_1)) (z3 : r0 ≠ 0) (l4 : 16 < fs_1.length) (h5 : ((lg_cmp y2 65536) ≤ 0) → mm_W l G k_M_wrong 20 [(0, .ref r0), (2, .long y2), (4, .int x4)] [.ref r0] b (va_up m r0 (.inr (8, fs_1.set 16 (.int x1)))) Q) (h6 : (¬ (lg_cmp y2 65536) ≤ 0) → mm_W l G k_M_wrong 14 [(0, .ref r0), (4, .int x4)] [.ref r0] b (va_up m r0 (.inr (8, fs_1.set 16 (.int x1)))) Q) : mm_W l G k_M_wrong 0 [(0, .ref r0), (1, .int x1), (2, .long y2), (4, .int x4)] [] b m Q := by
  refine mm_aload_n 0 (i := 0) d_M_wrong_0 rfl rfl ?_
  refine mm_iload_n 1 (i := 1) d_M_wrong_1 rfl rfl ?_
  refine mm_putf cc_M 16 (by decide) w_759 d_M_wrong_2 rfl (fun _ => rfl) (fun _ => rfl) g2 z3 l4 ?_
  refine mm_aload_n 0 (i := 0) d_M_wrong_5 rfl rfl ?_
  refine mm_lload_n 2 (i := 2) d_M_wrong_6 rfl rfl ?_
  refine mm_ldc2 (v := 65536) w_983 d_M_wrong_7 ?_
  refine mm_lcmp d_M_wrong_10 ?_
  exact mm_if_le (tgt := 20) d_M_wrong_11 (by decide) (fun c => mm_sub [0, 2, 3] rfl (h5 c)) (fun c => mm_sub [0, 3] rfl (h6 c))
theorem t_M_wrong_14 {l : Launch} {G : mm_G} {b : Nat} {m : mm_Mem} {Q : mm_O → mm_Mem → Prop} {r0 : Nat} {x4 : Int32} {rs0 : Nat} (h1 : mm_W l G k_M_wrong 21 [(0, .ref r0), (4, .int x4)] [.long 65536, .ref rs0] b m Q) : mm_W l G k_M_wrong 14 [(0, .ref r0), (4, .int x4)] [.ref rs0] b m Q := by
  refine mm_ldc2 (v := 65536) w_983 d_M_wrong_14 ?_
  refine mm_goto (tgt := 21) d_M_wrong_17 (by decide) ?_
  exact mm_sub [0, 1] rfl h1
theorem t_M_wrong_20 {l : Launch} {G : mm_G} {b : Nat} {m : mm_Mem} {Q : mm_O → mm_Mem → Prop} {r0 : Nat} {y2 : Int64} {x4 : Int32} {rs0 : Nat} (h1 : mm_W l G k_M_wrong 21 [(0, .ref r0), (4, .int x4)] [.long y2, .ref rs0] b m Q) : mm_W l G k_M_wrong 20 [(0, .ref r0), (2, .long y2), (4, .int x4)] [.ref rs0] b m Q := by
  refine mm_lload_n 1 (i := 2) d_M_wrong_20 rfl rfl ?_
  exact mm_sub [0, 2] rfl h1
theorem t_M_wrong_21 {l : Launch} {G : mm_G} {b : Nat} {m : mm_Mem} {Q : mm_O → mm_Mem → Prop} {r0 : Nat} {x4 : Int32} {ys0 : Int64} {rs1 : Nat} {fs_1 : List Value} {fs_5 : List Value} (g2 : m rs1 = .inr (8, fs_1)) (z3 : rs1 ≠ 0) (l4 : 17 < fs_1.length) (g6 : (va_up m rs1 (.inr (8, fs_1.set 17 (.int ys0.toInt32)))) r0 = .inr (8, fs_5)) (z7 : r0 ≠ 0) (l8 : 18 < fs_5.length) (h9 : Q (.inl (some (.int 1))) (va_up (va_up m rs1 (.inr (8, fs_1.set 17 (.int ys0.toInt32)))) r0 (.inr (8, fs_5.set 18 (.int x4))))) (hn10 : narrow .boolean (.int 1) = .int 1) : mm_W l G k_M_wrong 21 [(0, .ref r0), (4, .int x4)] [.long ys0, .ref rs1] b m Q := by
  refine mm_l2i d_M_wrong_21 ?_
  refine mm_putf cc_M 17 (by decide) w_760 d_M_wrong_22 rfl (fun _ => rfl) (fun _ => rfl) g2 z3 l4 ?_
  refine mm_aload_n 0 (i := 0) d_M_wrong_25 rfl rfl ?_
  refine mm_iload 1 (i := 4) d_M_wrong_26 rfl ?_
  refine mm_putf cc_M 18 (by decide) w_761 d_M_wrong_28 rfl (fun _ => rfl) (fun _ => rfl) g6 z7 l8 ?_
  refine mm_iconst d_M_wrong_31 (v := 1) (by decide) ?_
  exact mm_zret d_M_wrong_32 rfl hn10 h9
theorem t_M_findEnd_0 {l : Launch} {G : mm_G} {b : Nat} {m : mm_Mem} {Q : mm_O → mm_Mem → Prop} {r0 : Nat} {fs_1 : List Value} {u_4 : Int32} (g2 : m r0 = .inr (8, fs_1)) (z3 : r0 ≠ 0) (v5 : fs_1[1]? = some (.int u_4)) (l6 : 20 < fs_1.length) (h7 : mm_W l G k_M_findEnd 11 [(0, .ref r0)] [] b (va_up m r0 (.inr (8, fs_1.set 20 (.int (u_4 - 22))))) Q) : mm_W l G k_M_findEnd 0 [(0, .ref r0)] [] b m Q := by
  refine mm_aload_n 0 (i := 0) d_M_findEnd_0 rfl rfl ?_
  refine mm_aload_n 0 (i := 0) d_M_findEnd_1 rfl rfl ?_
  refine mm_get cc_M 1 (by decide) w_744 d_M_findEnd_2 g2 z3 v5 ?_
  refine mm_bipush d_M_findEnd_5 (v := 22) (by decide) ?_
  refine mm_isub d_M_findEnd_7 ?_
  refine mm_putf cc_M 20 (by decide) w_763 d_M_findEnd_8 rfl (fun _ => rfl) (fun _ => rfl) g2 z3 l6 ?_
  exact mm_sub [0] rfl h7
theorem t_M_findEnd_11 {l : Launch} {G : mm_G} {b : Nat} {m : mm_Mem} {Q : mm_O → mm_Mem → Prop} {r0 : Nat} {fs_1 : List Value} {u_4 : Int32} (g2 : m r0 = .inr (8, fs_1)) (z3 : r0 ≠ 0) (v5 : fs_1[20]? = some (.int u_4)) (h6 : (u_4 < 0) → mm_W l G k_M_findEnd 74 [(0, .ref r0)] [] b m Q) (h7 : (¬ u_4 < 0) → mm_W l G k_M_findEnd 18 [(0, .ref r0)] [] b m Q) : mm_W l G k_M_findEnd 11 [(0, .ref r0)] [] b m Q := by
  refine mm_aload_n 0 (i := 0) d_M_findEnd_11 rfl rfl ?_
  refine mm_get cc_M 20 (by decide) w_763 d_M_findEnd_12 g2 z3 v5 ?_
  exact mm_if_lt (tgt := 74) d_M_findEnd_15 (by decide) (fun c => mm_sub [0] rfl (h6 c)) (fun c => mm_sub [0] rfl (h7 c))
theorem t_M_findEnd_18 {l : Launch} {G : mm_G} {b : Nat} {m : mm_Mem} {Q : mm_O → mm_Mem → Prop} {r0 : Nat} {fs_1 : List Value} {u_4 : Int32} {b_6 : Nat} {b_7 : Nat} {m_9 : mm_Mem} {y_10 : Int64} (g2 : m r0 = .inr (8, fs_1)) (z3 : r0 ≠ 0) (v5 : fs_1[20]? = some (.int u_4)) (hb8 : b_6 + b_7 ≤ b) (M11 : mm_W l G k_M_four 0 (lv_args 0 [.ref r0, .long u_4.toInt64]) [] b_6 m (mm_is (.inl (some (.long y_10))) m_9)) (h12 : (¬ (lg_cmp y_10 101010256) = 0) → mm_W l G k_M_findEnd 61 [(0, .ref r0)] [] b_7 m_9 Q) (h13 : ((lg_cmp y_10 101010256) = 0) → mm_W l G k_M_findEnd 34 [(0, .ref r0)] [] b_7 m_9 Q) : mm_W l G k_M_findEnd 18 [(0, .ref r0)] [] b m Q := by
  refine mm_aload_n 0 (i := 0) d_M_findEnd_18 rfl rfl ?_
  refine mm_aload_n 0 (i := 0) d_M_findEnd_19 rfl rfl ?_
  refine mm_get cc_M 20 (by decide) w_763 d_M_findEnd_20 g2 z3 v5 ?_
  refine mm_i2l d_M_findEnd_23 ?_
  refine mm_callV (as := [.long u_4.toInt64]) (st := []) (b2 := b_7) ca_M_four w_975 w_977 v_M_four cc_M.1 rfl d_M_findEnd_24 rfl (Nat.le_of_ble_eq_true rfl) (Nat.le_of_ble_eq_true rfl) (Nat.le_of_ble_eq_true rfl) hb8 g2 z3 M11 (fun E _ ⟨c, _⟩ => nomatch c) (fun v _ ⟨c, e⟩ => ?_)
  cases c
  rw [e]
  show mm_W l G k_M_findEnd 27 [(0, .ref r0)] [.long y_10] b_7 m_9 Q
  refine mm_ldc2 (v := 101010256) w_985 d_M_findEnd_27 ?_
  refine mm_lcmp d_M_findEnd_30 ?_
  exact mm_if_ne (tgt := 61) d_M_findEnd_31 (by decide) (fun c => mm_sub [0] rfl (h12 c)) (fun c => mm_sub [0] rfl (h13 c))
theorem t_M_findEnd_34 {l : Launch} {G : mm_G} {b : Nat} {m : mm_Mem} {Q : mm_O → mm_Mem → Prop} {r0 : Nat} {fs_1 : List Value} {u_4 : Int32} {b_6 : Nat} {b_7 : Nat} {m_9 : mm_Mem} {x_10 : Int32} {fs_12 : List Value} {u_14 : Int32} (g2 : m r0 = .inr (8, fs_1)) (z3 : r0 ≠ 0) (v5 : fs_1[20]? = some (.int u_4)) (hb8 : b_6 + b_7 ≤ b) (M11 : mm_W l G k_M_two 0 (lv_args 0 [.ref r0, .long ((u_4 + 20).toInt64)]) [] b_6 m (mm_is (.inl (some (.int x_10))) m_9)) (g13 : m_9 r0 = .inr (8, fs_12)) (v15 : fs_12[1]? = some (.int u_14)) (h16 : (((u_4 + 22) + x_10) = u_14) → mm_W l G k_M_findEnd 74 [(0, .ref r0)] [] b_7 m_9 Q) (h17 : (¬ ((u_4 + 22) + x_10) = u_14) → mm_W l G k_M_findEnd 61 [(0, .ref r0)] [] b_7 m_9 Q) : mm_W l G k_M_findEnd 34 [(0, .ref r0)] [] b m Q := by
  refine mm_aload_n 0 (i := 0) d_M_findEnd_34 rfl rfl ?_
  refine mm_get cc_M 20 (by decide) w_763 d_M_findEnd_35 g2 z3 v5 ?_
  refine mm_bipush d_M_findEnd_38 (v := 22) (by decide) ?_
  refine mm_iadd d_M_findEnd_40 ?_
  refine mm_aload_n 0 (i := 0) d_M_findEnd_41 rfl rfl ?_
  refine mm_aload_n 0 (i := 0) d_M_findEnd_42 rfl rfl ?_
  refine mm_get cc_M 20 (by decide) w_763 d_M_findEnd_43 g2 z3 v5 ?_
  refine mm_bipush d_M_findEnd_46 (v := 20) (by decide) ?_
  refine mm_iadd d_M_findEnd_48 ?_
  refine mm_i2l d_M_findEnd_49 ?_
  refine mm_callV (as := [.long ((u_4 + 20).toInt64)]) (st := [.int (u_4 + 22)]) (b2 := b_7) ca_M_two w_979 w_981 v_M_two cc_M.1 rfl d_M_findEnd_50 rfl (Nat.le_of_ble_eq_true rfl) (Nat.le_of_ble_eq_true rfl) (Nat.le_of_ble_eq_true rfl) hb8 g2 z3 M11 (fun E _ ⟨c, _⟩ => nomatch c) (fun v _ ⟨c, e⟩ => ?_)
  cases c
  rw [e]
  show mm_W l G k_M_findEnd 53 [(0, .ref r0)] [.int x_10, .int (u_4 + 22)] b_7 m_9 Q
  refine mm_iadd d_M_findEnd_53 ?_
  refine mm_aload_n 0 (i := 0) d_M_findEnd_54 rfl rfl ?_
  refine mm_get cc_M 1 (by decide) w_744 d_M_findEnd_55 g13 z3 v15 ?_
  exact mm_icmp_eq (tgt := 74) d_M_findEnd_58 (by decide) (fun c => mm_sub [0] rfl (h16 c)) (fun c => mm_sub [0] rfl (h17 c))
theorem t_M_findEnd_61 {l : Launch} {G : mm_G} {b : Nat} {m : mm_Mem} {Q : mm_O → mm_Mem → Prop} {r0 : Nat} {fs_1 : List Value} {u_4 : Int32} (g2 : m r0 = .inr (8, fs_1)) (z3 : r0 ≠ 0) (v5 : fs_1[20]? = some (.int u_4)) (l6 : 20 < fs_1.length) (h7 : mm_W l G k_M_findEnd 11 [(0, .ref r0)] [] b (va_up m r0 (.inr (8, fs_1.set 20 (.int (u_4 - 1))))) Q) : mm_W l G k_M_findEnd 61 [(0, .ref r0)] [] b m Q := by
  refine mm_aload_n 0 (i := 0) d_M_findEnd_61 rfl rfl ?_
  refine mm_dup d_M_findEnd_62 rfl ?_
  refine mm_get cc_M 20 (by decide) w_763 d_M_findEnd_63 g2 z3 v5 ?_
  refine mm_iconst d_M_findEnd_66 (v := 1) (by decide) ?_
  refine mm_isub d_M_findEnd_67 ?_
  refine mm_putf cc_M 20 (by decide) w_763 d_M_findEnd_68 rfl (fun _ => rfl) (fun _ => rfl) g2 z3 l6 ?_
  refine mm_goto (tgt := 11) d_M_findEnd_71 (by decide) ?_
  exact mm_sub [0] rfl h7
theorem t_M_findEnd_74 {l : Launch} {G : mm_G} {b : Nat} {m : mm_Mem} {Q : mm_O → mm_Mem → Prop} {r0 : Nat} {fs_1 : List Value} {u_4 : Int32} (g2 : m r0 = .inr (8, fs_1)) (z3 : r0 ≠ 0) (v5 : fs_1[20]? = some (.int u_4)) (h6 : (0 ≤ u_4) → mm_W l G k_M_findEnd 93 [(0, .ref r0)] [] b m Q) (h7 : (¬ 0 ≤ u_4) → mm_W l G k_M_findEnd 81 [(0, .ref r0)] [] b m Q) : mm_W l G k_M_findEnd 74 [(0, .ref r0)] [] b m Q := by
  refine mm_aload_n 0 (i := 0) d_M_findEnd_74 rfl rfl ?_
  refine mm_get cc_M 20 (by decide) w_763 d_M_findEnd_75 g2 z3 v5 ?_
  exact mm_if_ge (tgt := 93) d_M_findEnd_78 (by decide) (fun c => mm_sub [0] rfl (h6 c)) (fun c => mm_sub [0] rfl (h7 c))
theorem t_M_findEnd_81 {l : Launch} {G : mm_G} {b : Nat} {m : mm_Mem} {Q : mm_O → mm_Mem → Prop} {r0 : Nat} {fs_1 : List Value} {u_4 : Int32} {b_6 : Nat} {b_7 : Nat} {m_9 : mm_Mem} {x_10 : Int32} (g2 : m r0 = .inr (8, fs_1)) (z3 : r0 ≠ 0) (v5 : fs_1[1]? = some (.int u_4)) (hb8 : b_6 + b_7 ≤ b) (M11 : mm_W l G k_M_wrong 0 (lv_args 0 [.ref r0, .int 1, .long u_4.toInt64, .int ((-1))]) [] b_6 m (mm_is (.inl (some (.int x_10))) m_9)) (h12 : Q (.inl (some (.int x_10))) m_9) (hn13 : narrow .boolean (.int x_10) = .int x_10) : mm_W l G k_M_findEnd 81 [(0, .ref r0)] [] b m Q := by
  refine mm_aload_n 0 (i := 0) d_M_findEnd_81 rfl rfl ?_
  refine mm_iconst d_M_findEnd_82 (v := 1) (by decide) ?_
  refine mm_aload_n 0 (i := 0) d_M_findEnd_83 rfl rfl ?_
  refine mm_get cc_M 1 (by decide) w_744 d_M_findEnd_84 g2 z3 v5 ?_
  refine mm_i2l d_M_findEnd_87 ?_
  refine mm_iconst d_M_findEnd_88 (v := (-1)) (by decide) ?_
  refine mm_callV (as := [.int 1, .long u_4.toInt64, .int ((-1))]) (st := []) (b2 := b_7) ca_M_wrong w_986 w_988 v_M_wrong cc_M.1 rfl d_M_findEnd_89 rfl (Nat.le_of_ble_eq_true rfl) (Nat.le_of_ble_eq_true rfl) (Nat.le_of_ble_eq_true rfl) hb8 g2 z3 M11 (fun E _ ⟨c, _⟩ => nomatch c) (fun v _ ⟨c, e⟩ => ?_)
  cases c
  rw [e]
  show mm_W l G k_M_findEnd 92 [(0, .ref r0)] [.int x_10] b_7 m_9 Q
  exact mm_zret d_M_findEnd_92 rfl hn13 h12
theorem t_M_findEnd_93 {l : Launch} {G : mm_G} {b : Nat} {m : mm_Mem} {Q : mm_O → mm_Mem → Prop} {r0 : Nat} {fs_1 : List Value} {u_4 : Int32} {b_6 : Nat} {b_7 : Nat} {m_9 : mm_Mem} {x_10 : Int32} {fs_12 : List Value} {fs_15 : List Value} {u_17 : Int32} {b_19 : Nat} {b_20 : Nat} {m_22 : mm_Mem} {y_23 : Int64} {fs_25 : List Value} {fs_28 : List Value} {u_30 : Int32} {b_32 : Nat} {b_33 : Nat} {m_35 : mm_Mem} {x_36 : Int32} (g2 : m r0 = .inr (8, fs_1)) (z3 : r0 ≠ 0) (v5 : fs_1[20]? = some (.int u_4)) (hb8 : b_6 + b_7 ≤ b) (M11 : mm_W l G k_M_two 0 (lv_args 0 [.ref r0, .long ((u_4 + 8).toInt64)]) [] b_6 m (mm_is (.inl (some (.int x_10))) m_9)) (g13 : m_9 r0 = .inr (8, fs_12)) (l14 : 22 < fs_12.length) (g16 : (va_up m_9 r0 (.inr (8, fs_12.set 22 (.int x_10)))) r0 = .inr (8, fs_15)) (v18 : fs_15[20]? = some (.int u_17)) (hb21 : b_19 + b_20 ≤ b_7) (M24 : mm_W l G k_M_four 0 (lv_args 0 [.ref r0, .long ((u_17 + 16).toInt64)]) [] b_19 (va_up m_9 r0 (.inr (8, fs_12.set 22 (.int x_10)))) (mm_is (.inl (some (.long y_23))) m_22)) (g26 : m_22 r0 = .inr (8, fs_25)) (l27 : 21 < fs_25.length) (g29 : (va_up m_22 r0 (.inr (8, fs_25.set 21 (.long y_23)))) r0 = .inr (8, fs_28)) (v31 : fs_28[20]? = some (.int u_30)) (hb34 : b_32 + b_33 ≤ b_20) (M37 : mm_W l G k_M_two 0 (lv_args 0 [.ref r0, .long ((u_30 + 4).toInt64)]) [] b_32 (va_up m_22 r0 (.inr (8, fs_25.set 21 (.long y_23)))) (mm_is (.inl (some (.int x_36))) m_35)) (h38 : (¬ x_36 = 0) → mm_W l G k_M_findEnd 208 [(0, .ref r0)] [] b_33 m_35 Q) (h39 : (x_36 = 0) → mm_W l G k_M_findEnd 139 [(0, .ref r0)] [] b_33 m_35 Q) : mm_W l G k_M_findEnd 93 [(0, .ref r0)] [] b m Q := by
  refine mm_aload_n 0 (i := 0) d_M_findEnd_93 rfl rfl ?_
  refine mm_aload_n 0 (i := 0) d_M_findEnd_94 rfl rfl ?_
  refine mm_aload_n 0 (i := 0) d_M_findEnd_95 rfl rfl ?_
  refine mm_get cc_M 20 (by decide) w_763 d_M_findEnd_96 g2 z3 v5 ?_
  refine mm_bipush d_M_findEnd_99 (v := 8) (by decide) ?_
  refine mm_iadd d_M_findEnd_101 ?_
  refine mm_i2l d_M_findEnd_102 ?_
  refine mm_callV (as := [.long ((u_4 + 8).toInt64)]) (st := [.ref r0]) (b2 := b_7) ca_M_two w_979 w_981 v_M_two cc_M.1 rfl d_M_findEnd_103 rfl (Nat.le_of_ble_eq_true rfl) (Nat.le_of_ble_eq_true rfl) (Nat.le_of_ble_eq_true rfl) hb8 g2 z3 M11 (fun E _ ⟨c, _⟩ => nomatch c) (fun v _ ⟨c, e⟩ => ?_)
  cases c
  rw [e]
  show mm_W l G k_M_findEnd 106 [(0, .ref r0)] [.int x_10, .ref r0] b_7 m_9 Q
  refine mm_putf cc_M 22 (by decide) w_765 d_M_findEnd_106 rfl (fun _ => rfl) (fun _ => rfl) g13 z3 l14 ?_
  refine mm_aload_n 0 (i := 0) d_M_findEnd_109 rfl rfl ?_
  refine mm_aload_n 0 (i := 0) d_M_findEnd_110 rfl rfl ?_
  refine mm_aload_n 0 (i := 0) d_M_findEnd_111 rfl rfl ?_
  refine mm_get cc_M 20 (by decide) w_763 d_M_findEnd_112 g16 z3 v18 ?_
  refine mm_bipush d_M_findEnd_115 (v := 16) (by decide) ?_
  refine mm_iadd d_M_findEnd_117 ?_
  refine mm_i2l d_M_findEnd_118 ?_
  refine mm_callV (as := [.long ((u_17 + 16).toInt64)]) (st := [.ref r0]) (b2 := b_20) ca_M_four w_975 w_977 v_M_four cc_M.1 rfl d_M_findEnd_119 rfl (Nat.le_of_ble_eq_true rfl) (Nat.le_of_ble_eq_true rfl) (Nat.le_of_ble_eq_true rfl) hb21 g16 z3 M24 (fun E _ ⟨c, _⟩ => nomatch c) (fun v _ ⟨c, e⟩ => ?_)
  cases c
  rw [e]
  show mm_W l G k_M_findEnd 122 [(0, .ref r0)] [.long y_23, .ref r0] b_20 m_22 Q
  refine mm_putf cc_M 21 (by decide) w_764 d_M_findEnd_122 rfl (fun _ => rfl) (fun _ => rfl) g26 z3 l27 ?_
  refine mm_aload_n 0 (i := 0) d_M_findEnd_125 rfl rfl ?_
  refine mm_aload_n 0 (i := 0) d_M_findEnd_126 rfl rfl ?_
  refine mm_get cc_M 20 (by decide) w_763 d_M_findEnd_127 g29 z3 v31 ?_
  refine mm_iconst d_M_findEnd_130 (v := 4) (by decide) ?_
  refine mm_iadd d_M_findEnd_131 ?_
  refine mm_i2l d_M_findEnd_132 ?_
  refine mm_callV (as := [.long ((u_30 + 4).toInt64)]) (st := []) (b2 := b_33) ca_M_two w_979 w_981 v_M_two cc_M.1 rfl d_M_findEnd_133 rfl (Nat.le_of_ble_eq_true rfl) (Nat.le_of_ble_eq_true rfl) (Nat.le_of_ble_eq_true rfl) hb34 g29 z3 M37 (fun E _ ⟨c, _⟩ => nomatch c) (fun v _ ⟨c, e⟩ => ?_)
  cases c
  rw [e]
  show mm_W l G k_M_findEnd 136 [(0, .ref r0)] [.int x_36] b_33 m_35 Q
  exact mm_if_ne (tgt := 208) d_M_findEnd_136 (by decide) (fun c => mm_sub [0] rfl (h38 c)) (fun c => mm_sub [0] rfl (h39 c))
theorem t_M_findEnd_139 {l : Launch} {G : mm_G} {b : Nat} {m : mm_Mem} {Q : mm_O → mm_Mem → Prop} {r0 : Nat} {fs_1 : List Value} {u_4 : Int32} {b_6 : Nat} {b_7 : Nat} {m_9 : mm_Mem} {x_10 : Int32} (g2 : m r0 = .inr (8, fs_1)) (z3 : r0 ≠ 0) (v5 : fs_1[20]? = some (.int u_4)) (hb8 : b_6 + b_7 ≤ b) (M11 : mm_W l G k_M_two 0 (lv_args 0 [.ref r0, .long ((u_4 + 6).toInt64)]) [] b_6 m (mm_is (.inl (some (.int x_10))) m_9)) (h12 : (¬ x_10 = 0) → mm_W l G k_M_findEnd 208 [(0, .ref r0)] [] b_7 m_9 Q) (h13 : (x_10 = 0) → mm_W l G k_M_findEnd 154 [(0, .ref r0)] [] b_7 m_9 Q) : mm_W l G k_M_findEnd 139 [(0, .ref r0)] [] b m Q := by
  refine mm_aload_n 0 (i := 0) d_M_findEnd_139 rfl rfl ?_
  refine mm_aload_n 0 (i := 0) d_M_findEnd_140 rfl rfl ?_
  refine mm_get cc_M 20 (by decide) w_763 d_M_findEnd_141 g2 z3 v5 ?_
  refine mm_bipush d_M_findEnd_144 (v := 6) (by decide) ?_
  refine mm_iadd d_M_findEnd_146 ?_
  refine mm_i2l d_M_findEnd_147 ?_
  refine mm_callV (as := [.long ((u_4 + 6).toInt64)]) (st := []) (b2 := b_7) ca_M_two w_979 w_981 v_M_two cc_M.1 rfl d_M_findEnd_148 rfl (Nat.le_of_ble_eq_true rfl) (Nat.le_of_ble_eq_true rfl) (Nat.le_of_ble_eq_true rfl) hb8 g2 z3 M11 (fun E _ ⟨c, _⟩ => nomatch c) (fun v _ ⟨c, e⟩ => ?_)
  cases c
  rw [e]
  show mm_W l G k_M_findEnd 151 [(0, .ref r0)] [.int x_10] b_7 m_9 Q
  exact mm_if_ne (tgt := 208) d_M_findEnd_151 (by decide) (fun c => mm_sub [0] rfl (h12 c)) (fun c => mm_sub [0] rfl (h13 c))
theorem t_M_findEnd_154 {l : Launch} {G : mm_G} {b : Nat} {m : mm_Mem} {Q : mm_O → mm_Mem → Prop} {r0 : Nat} {fs_1 : List Value} {u_4 : Int32} {b_6 : Nat} {b_7 : Nat} {m_9 : mm_Mem} {x_10 : Int32} {fs_12 : List Value} {u_14 : Int32} (g2 : m r0 = .inr (8, fs_1)) (z3 : r0 ≠ 0) (v5 : fs_1[20]? = some (.int u_4)) (hb8 : b_6 + b_7 ≤ b) (M11 : mm_W l G k_M_two 0 (lv_args 0 [.ref r0, .long ((u_4 + 10).toInt64)]) [] b_6 m (mm_is (.inl (some (.int x_10))) m_9)) (g13 : m_9 r0 = .inr (8, fs_12)) (v15 : fs_12[22]? = some (.int u_14)) (h16 : (¬ x_10 = u_14) → mm_W l G k_M_findEnd 208 [(0, .ref r0)] [] b_7 m_9 Q) (h17 : (x_10 = u_14) → mm_W l G k_M_findEnd 173 [(0, .ref r0)] [] b_7 m_9 Q) : mm_W l G k_M_findEnd 154 [(0, .ref r0)] [] b m Q := by
  refine mm_aload_n 0 (i := 0) d_M_findEnd_154 rfl rfl ?_
  refine mm_aload_n 0 (i := 0) d_M_findEnd_155 rfl rfl ?_
  refine mm_get cc_M 20 (by decide) w_763 d_M_findEnd_156 g2 z3 v5 ?_
  refine mm_bipush d_M_findEnd_159 (v := 10) (by decide) ?_
  refine mm_iadd d_M_findEnd_161 ?_
  refine mm_i2l d_M_findEnd_162 ?_
  refine mm_callV (as := [.long ((u_4 + 10).toInt64)]) (st := []) (b2 := b_7) ca_M_two w_979 w_981 v_M_two cc_M.1 rfl d_M_findEnd_163 rfl (Nat.le_of_ble_eq_true rfl) (Nat.le_of_ble_eq_true rfl) (Nat.le_of_ble_eq_true rfl) hb8 g2 z3 M11 (fun E _ ⟨c, _⟩ => nomatch c) (fun v _ ⟨c, e⟩ => ?_)
  cases c
  rw [e]
  show mm_W l G k_M_findEnd 166 [(0, .ref r0)] [.int x_10] b_7 m_9 Q
  refine mm_aload_n 0 (i := 0) d_M_findEnd_166 rfl rfl ?_
  refine mm_get cc_M 22 (by decide) w_765 d_M_findEnd_167 g13 z3 v15 ?_
  exact mm_icmp_ne (tgt := 208) d_M_findEnd_170 (by decide) (fun c => mm_sub [0] rfl (h16 c)) (fun c => mm_sub [0] rfl (h17 c))
theorem t_M_findEnd_173 {l : Launch} {G : mm_G} {b : Nat} {m : mm_Mem} {Q : mm_O → mm_Mem → Prop} {r0 : Nat} {fs_1 : List Value} {u_4 : Int32} (g2 : m r0 = .inr (8, fs_1)) (z3 : r0 ≠ 0) (v5 : fs_1[22]? = some (.int u_4)) (h6 : (64 < u_4) → mm_W l G k_M_findEnd 208 [(0, .ref r0)] [] b m Q) (h7 : (¬ 64 < u_4) → mm_W l G k_M_findEnd 182 [(0, .ref r0)] [] b m Q) : mm_W l G k_M_findEnd 173 [(0, .ref r0)] [] b m Q := by
  refine mm_aload_n 0 (i := 0) d_M_findEnd_173 rfl rfl ?_
  refine mm_get cc_M 22 (by decide) w_765 d_M_findEnd_174 g2 z3 v5 ?_
  refine mm_bipush d_M_findEnd_177 (v := 64) (by decide) ?_
  exact mm_icmp_gt (tgt := 208) d_M_findEnd_179 (by decide) (fun c => mm_sub [0] rfl (h6 c)) (fun c => mm_sub [0] rfl (h7 c))
theorem t_M_findEnd_182 {l : Launch} {G : mm_G} {b : Nat} {m : mm_Mem} {Q : mm_O → mm_Mem → Prop} {r0 : Nat} {fs_1 : List Value} {v_4 : Int64} {u_6 : Int32} {b_8 : Nat} {b_9 : Nat} {m_11 : mm_Mem} {y_12 : Int64} {fs_14 : List Value} {u_16 : Int32} (g2 : m r0 = .inr (8, fs_1)) (z3 : r0 ≠ 0) (v5 : fs_1[21]? = some (.long v_4)) (v7 : fs_1[20]? = some (.int u_6)) (hb10 : b_8 + b_9 ≤ b) (M13 : mm_W l G k_M_four 0 (lv_args 0 [.ref r0, .long ((u_6 + 12).toInt64)]) [] b_8 m (mm_is (.inl (some (.long y_12))) m_11)) (g15 : m_11 r0 = .inr (8, fs_14)) (v17 : fs_14[20]? = some (.int u_16)) (h18 : ((lg_cmp (v_4 + y_12) u_16.toInt64) = 0) → mm_W l G k_M_findEnd 212 [(0, .ref r0)] [] b_9 m_11 Q) (h19 : (¬ (lg_cmp (v_4 + y_12) u_16.toInt64) = 0) → mm_W l G k_M_findEnd 208 [(0, .ref r0)] [] b_9 m_11 Q) : mm_W l G k_M_findEnd 182 [(0, .ref r0)] [] b m Q := by
  refine mm_aload_n 0 (i := 0) d_M_findEnd_182 rfl rfl ?_
  refine mm_get cc_M 21 (by decide) w_764 d_M_findEnd_183 g2 z3 v5 ?_
  refine mm_aload_n 0 (i := 0) d_M_findEnd_186 rfl rfl ?_
  refine mm_aload_n 0 (i := 0) d_M_findEnd_187 rfl rfl ?_
  refine mm_get cc_M 20 (by decide) w_763 d_M_findEnd_188 g2 z3 v7 ?_
  refine mm_bipush d_M_findEnd_191 (v := 12) (by decide) ?_
  refine mm_iadd d_M_findEnd_193 ?_
  refine mm_i2l d_M_findEnd_194 ?_
  refine mm_callV (as := [.long ((u_6 + 12).toInt64)]) (st := [.long v_4]) (b2 := b_9) ca_M_four w_975 w_977 v_M_four cc_M.1 rfl d_M_findEnd_195 rfl (Nat.le_of_ble_eq_true rfl) (Nat.le_of_ble_eq_true rfl) (Nat.le_of_ble_eq_true rfl) hb10 g2 z3 M13 (fun E _ ⟨c, _⟩ => nomatch c) (fun v _ ⟨c, e⟩ => ?_)
  cases c
  rw [e]
  show mm_W l G k_M_findEnd 198 [(0, .ref r0)] [.long y_12, .long v_4] b_9 m_11 Q
  refine mm_ladd d_M_findEnd_198 ?_
  refine mm_aload_n 0 (i := 0) d_M_findEnd_199 rfl rfl ?_
  refine mm_get cc_M 20 (by decide) w_763 d_M_findEnd_200 g15 z3 v17 ?_
  refine mm_i2l d_M_findEnd_203 ?_
  refine mm_lcmp d_M_findEnd_204 ?_
  exact mm_if_eq (tgt := 212) d_M_findEnd_205 (by decide) (fun c => mm_sub [0] rfl (h18 c)) (fun c => mm_sub [0] rfl (h19 c))
theorem t_M_findEnd_208 {l : Launch} {G : mm_G} {b : Nat} {m : mm_Mem} {Q : mm_O → mm_Mem → Prop} {r0 : Nat} (h1 : mm_W l G k_M_findEnd 213 [(0, .ref r0)] [.int 1] b m Q) : mm_W l G k_M_findEnd 208 [(0, .ref r0)] [] b m Q := by
  refine mm_iconst d_M_findEnd_208 (v := 1) (by decide) ?_
  refine mm_goto (tgt := 213) d_M_findEnd_209 (by decide) ?_
  exact mm_sub [0] rfl h1
theorem t_M_findEnd_212 {l : Launch} {G : mm_G} {b : Nat} {m : mm_Mem} {Q : mm_O → mm_Mem → Prop} {r0 : Nat} (h1 : mm_W l G k_M_findEnd 213 [(0, .ref r0)] [.int 0] b m Q) : mm_W l G k_M_findEnd 212 [(0, .ref r0)] [] b m Q := by
  refine mm_iconst d_M_findEnd_212 (v := 0) (by decide) ?_
  exact mm_sub [0] rfl h1
theorem t_M_findEnd_213 {l : Launch} {G : mm_G} {b : Nat} {m : mm_Mem} {Q : mm_O → mm_Mem → Prop} {r0 : Nat} {xs0 : Int32} (h1 : (xs0 = 0) → mm_W l G k_M_findEnd 236 [] [] b m Q) (h2 : (¬ xs0 = 0) → mm_W l G k_M_findEnd 218 [(0, .ref r0)] [] b m Q) : mm_W l G k_M_findEnd 213 [(0, .ref r0)] [.int xs0] b m Q := by
  refine mm_istore_n (i := 1) d_M_findEnd_213 rfl (Nat.le_of_ble_eq_true rfl) (lv2 := [(1, .int xs0), (0, .ref r0)]) rfl ?_
  refine mm_iload_n 0 (i := 1) d_M_findEnd_214 rfl rfl ?_
  exact mm_if_eq (tgt := 236) d_M_findEnd_215 (by decide) (fun c => mm_sub [] rfl (h1 c)) (fun c => mm_sub [1] rfl (h2 c))
theorem t_M_findEnd_218 {l : Launch} {G : mm_G} {b : Nat} {m : mm_Mem} {Q : mm_O → mm_Mem → Prop} {r0 : Nat} {fs_1 : List Value} {u_4 : Int32} {b_6 : Nat} {b_7 : Nat} {m_9 : mm_Mem} {x_10 : Int32} (g2 : m r0 = .inr (8, fs_1)) (z3 : r0 ≠ 0) (v5 : fs_1[20]? = some (.int u_4)) (hb8 : b_6 + b_7 ≤ b) (M11 : mm_W l G k_M_wrong 0 (lv_args 0 [.ref r0, .int 2, .long u_4.toInt64, .int ((-1))]) [] b_6 m (mm_is (.inl (some (.int x_10))) m_9)) (h12 : (x_10 = 0) → mm_W l G k_M_findEnd 236 [] [] b_7 m_9 Q) (h13 : (¬ x_10 = 0) → mm_W l G k_M_findEnd 232 [] [] b_7 m_9 Q) : mm_W l G k_M_findEnd 218 [(0, .ref r0)] [] b m Q := by
  refine mm_aload_n 0 (i := 0) d_M_findEnd_218 rfl rfl ?_
  refine mm_iconst d_M_findEnd_219 (v := 2) (by decide) ?_
  refine mm_aload_n 0 (i := 0) d_M_findEnd_220 rfl rfl ?_
  refine mm_get cc_M 20 (by decide) w_763 d_M_findEnd_221 g2 z3 v5 ?_
  refine mm_i2l d_M_findEnd_224 ?_
  refine mm_iconst d_M_findEnd_225 (v := (-1)) (by decide) ?_
  refine mm_callV (as := [.int 2, .long u_4.toInt64, .int ((-1))]) (st := []) (b2 := b_7) ca_M_wrong w_986 w_988 v_M_wrong cc_M.1 rfl d_M_findEnd_226 rfl (Nat.le_of_ble_eq_true rfl) (Nat.le_of_ble_eq_true rfl) (Nat.le_of_ble_eq_true rfl) hb8 g2 z3 M11 (fun E _ ⟨c, _⟩ => nomatch c) (fun v _ ⟨c, e⟩ => ?_)
  cases c
  rw [e]
  show mm_W l G k_M_findEnd 229 [(0, .ref r0)] [.int x_10] b_7 m_9 Q
  exact mm_if_eq (tgt := 236) d_M_findEnd_229 (by decide) (fun c => mm_sub [] rfl (h12 c)) (fun c => mm_sub [] rfl (h13 c))
theorem t_M_findEnd_232 {l : Launch} {G : mm_G} {b : Nat} {m : mm_Mem} {Q : mm_O → mm_Mem → Prop}  (h1 : mm_W l G k_M_findEnd 237 [] [.int 1] b m Q) : mm_W l G k_M_findEnd 232 [] [] b m Q := by
  refine mm_iconst d_M_findEnd_232 (v := 1) (by decide) ?_
  refine mm_goto (tgt := 237) d_M_findEnd_233 (by decide) ?_
  exact mm_sub [] rfl h1
theorem t_M_findEnd_236 {l : Launch} {G : mm_G} {b : Nat} {m : mm_Mem} {Q : mm_O → mm_Mem → Prop}  (h1 : mm_W l G k_M_findEnd 237 [] [.int 0] b m Q) : mm_W l G k_M_findEnd 236 [] [] b m Q := by
  refine mm_iconst d_M_findEnd_236 (v := 0) (by decide) ?_
  exact mm_sub [] rfl h1
theorem t_M_findEnd_237 {l : Launch} {G : mm_G} {b : Nat} {m : mm_Mem} {Q : mm_O → mm_Mem → Prop} {xs0 : Int32} (h1 : Q (.inl (some (.int xs0))) m) (hn2 : narrow .boolean (.int xs0) = .int xs0) : mm_W l G k_M_findEnd 237 [] [.int xs0] b m Q := by
  exact mm_zret d_M_findEnd_237 rfl hn2 h1
theorem t_M_flags_0 {l : Launch} {G : mm_G} {b : Nat} {m : mm_Mem} {Q : mm_O → mm_Mem → Prop} {r0 : Nat} {x1 : Int32} {fs_1 : List Value} {q_4 : Nat} {n_6 : Nat} {f_7 : Nat → Int32} {b_11 : Nat} {b_12 : Nat} {m_14 : mm_Mem} {x_15 : Int32} (g2 : m r0 = .inr (8, fs_1)) (z3 : r0 ≠ 0) (v5 : fs_1[23]? = some (.ref q_4)) (a8 : m q_4 = .inl (G.2 1, n_6, .inl f_7)) (z9 : q_4 ≠ 0) (i10 : vp_in x1 n_6) (hb13 : b_11 + b_12 ≤ b) (M16 : mm_W l G k_M_two 0 (lv_args 0 [.ref r0, .long (((f_7 x1.toNatClampNeg) + 8).toInt64)]) [] b_11 m (mm_is (.inl (some (.int x_15))) m_14)) (h17 : Q (.inl (some (.int x_15))) m_14) : mm_W l G k_M_flags 0 [(0, .ref r0), (1, .int x1)] [] b m Q := by
  refine mm_aload_n 0 (i := 0) d_M_flags_0 rfl rfl ?_
  refine mm_aload_n 0 (i := 0) d_M_flags_1 rfl rfl ?_
  refine mm_get cc_M 23 (by decide) w_766 d_M_flags_2 g2 z3 v5 ?_
  refine mm_iload_n 1 (i := 1) d_M_flags_5 rfl rfl ?_
  refine mm_iald d_M_flags_6 a8 z9 i10 ?_
  refine mm_bipush d_M_flags_7 (v := 8) (by decide) ?_
  refine mm_iadd d_M_flags_9 ?_
  refine mm_i2l d_M_flags_10 ?_
  refine mm_callV (as := [.long (((f_7 x1.toNatClampNeg) + 8).toInt64)]) (st := []) (b2 := b_12) ca_M_two w_979 w_981 v_M_two cc_M.1 rfl d_M_flags_11 rfl (Nat.le_of_ble_eq_true rfl) (Nat.le_of_ble_eq_true rfl) (Nat.le_of_ble_eq_true rfl) hb13 g2 z3 M16 (fun E _ ⟨c, _⟩ => nomatch c) (fun v _ ⟨c, e⟩ => ?_)
  cases c
  rw [e]
  show mm_W l G k_M_flags 14 [(0, .ref r0), (1, .int x1)] [.int x_15] b_12 m_14 Q
  exact mm_iret d_M_flags_14 rfl h17
theorem t_M_method_0 {l : Launch} {G : mm_G} {b : Nat} {m : mm_Mem} {Q : mm_O → mm_Mem → Prop} {r0 : Nat} {x1 : Int32} {fs_1 : List Value} {q_4 : Nat} {n_6 : Nat} {f_7 : Nat → Int32} {b_11 : Nat} {b_12 : Nat} {m_14 : mm_Mem} {x_15 : Int32} (g2 : m r0 = .inr (8, fs_1)) (z3 : r0 ≠ 0) (v5 : fs_1[23]? = some (.ref q_4)) (a8 : m q_4 = .inl (G.2 1, n_6, .inl f_7)) (z9 : q_4 ≠ 0) (i10 : vp_in x1 n_6) (hb13 : b_11 + b_12 ≤ b) (M16 : mm_W l G k_M_two 0 (lv_args 0 [.ref r0, .long (((f_7 x1.toNatClampNeg) + 10).toInt64)]) [] b_11 m (mm_is (.inl (some (.int x_15))) m_14)) (h17 : Q (.inl (some (.int x_15))) m_14) : mm_W l G k_M_method 0 [(0, .ref r0), (1, .int x1)] [] b m Q := by
  refine mm_aload_n 0 (i := 0) d_M_method_0 rfl rfl ?_
  refine mm_aload_n 0 (i := 0) d_M_method_1 rfl rfl ?_
  refine mm_get cc_M 23 (by decide) w_766 d_M_method_2 g2 z3 v5 ?_
  refine mm_iload_n 1 (i := 1) d_M_method_5 rfl rfl ?_
  refine mm_iald d_M_method_6 a8 z9 i10 ?_
  refine mm_bipush d_M_method_7 (v := 10) (by decide) ?_
  refine mm_iadd d_M_method_9 ?_
  refine mm_i2l d_M_method_10 ?_
  refine mm_callV (as := [.long (((f_7 x1.toNatClampNeg) + 10).toInt64)]) (st := []) (b2 := b_12) ca_M_two w_979 w_981 v_M_two cc_M.1 rfl d_M_method_11 rfl (Nat.le_of_ble_eq_true rfl) (Nat.le_of_ble_eq_true rfl) (Nat.le_of_ble_eq_true rfl) hb13 g2 z3 M16 (fun E _ ⟨c, _⟩ => nomatch c) (fun v _ ⟨c, e⟩ => ?_)
  cases c
  rw [e]
  show mm_W l G k_M_method 14 [(0, .ref r0), (1, .int x1)] [.int x_15] b_12 m_14 Q
  exact mm_iret d_M_method_14 rfl h17
theorem t_M_many_0 {l : Launch} {G : mm_G} {b : Nat} {m : mm_Mem} {Q : mm_O → mm_Mem → Prop} {r0 : Nat} {x1 : Int32} {fs_1 : List Value} {q_4 : Nat} {n_6 : Nat} {f_7 : Nat → Int32} {b_11 : Nat} {b_12 : Nat} {m_14 : mm_Mem} {y_15 : Int64} (g2 : m r0 = .inr (8, fs_1)) (z3 : r0 ≠ 0) (v5 : fs_1[23]? = some (.ref q_4)) (a8 : m q_4 = .inl (G.2 1, n_6, .inl f_7)) (z9 : q_4 ≠ 0) (i10 : vp_in x1 n_6) (hb13 : b_11 + b_12 ≤ b) (M16 : mm_W l G k_M_four 0 (lv_args 0 [.ref r0, .long (((f_7 x1.toNatClampNeg) + 20).toInt64)]) [] b_11 m (mm_is (.inl (some (.long y_15))) m_14)) (h17 : Q (.inl (some (.long y_15))) m_14) : mm_W l G k_M_many 0 [(0, .ref r0), (1, .int x1)] [] b m Q := by
  refine mm_aload_n 0 (i := 0) d_M_many_0 rfl rfl ?_
  refine mm_aload_n 0 (i := 0) d_M_many_1 rfl rfl ?_
  refine mm_get cc_M 23 (by decide) w_766 d_M_many_2 g2 z3 v5 ?_
  refine mm_iload_n 1 (i := 1) d_M_many_5 rfl rfl ?_
  refine mm_iald d_M_many_6 a8 z9 i10 ?_
  refine mm_bipush d_M_many_7 (v := 20) (by decide) ?_
  refine mm_iadd d_M_many_9 ?_
  refine mm_i2l d_M_many_10 ?_
  refine mm_callV (as := [.long (((f_7 x1.toNatClampNeg) + 20).toInt64)]) (st := []) (b2 := b_12) ca_M_four w_975 w_977 v_M_four cc_M.1 rfl d_M_many_11 rfl (Nat.le_of_ble_eq_true rfl) (Nat.le_of_ble_eq_true rfl) (Nat.le_of_ble_eq_true rfl) hb13 g2 z3 M16 (fun E _ ⟨c, _⟩ => nomatch c) (fun v _ ⟨c, e⟩ => ?_)
  cases c
  rw [e]
  show mm_W l G k_M_many 14 [(0, .ref r0), (1, .int x1)] [.long y_15] b_12 m_14 Q
  exact mm_lret d_M_many_14 rfl h17
theorem t_M_size_0 {l : Launch} {G : mm_G} {b : Nat} {m : mm_Mem} {Q : mm_O → mm_Mem → Prop} {r0 : Nat} {x1 : Int32} {fs_1 : List Value} {q_4 : Nat} {n_6 : Nat} {f_7 : Nat → Int32} {b_11 : Nat} {b_12 : Nat} {m_14 : mm_Mem} {y_15 : Int64} (g2 : m r0 = .inr (8, fs_1)) (z3 : r0 ≠ 0) (v5 : fs_1[23]? = some (.ref q_4)) (a8 : m q_4 = .inl (G.2 1, n_6, .inl f_7)) (z9 : q_4 ≠ 0) (i10 : vp_in x1 n_6) (hb13 : b_11 + b_12 ≤ b) (M16 : mm_W l G k_M_four 0 (lv_args 0 [.ref r0, .long (((f_7 x1.toNatClampNeg) + 24).toInt64)]) [] b_11 m (mm_is (.inl (some (.long y_15))) m_14)) (h17 : Q (.inl (some (.long y_15))) m_14) : mm_W l G k_M_size 0 [(0, .ref r0), (1, .int x1)] [] b m Q := by
  refine mm_aload_n 0 (i := 0) d_M_size_0 rfl rfl ?_
  refine mm_aload_n 0 (i := 0) d_M_size_1 rfl rfl ?_
  refine mm_get cc_M 23 (by decide) w_766 d_M_size_2 g2 z3 v5 ?_
  refine mm_iload_n 1 (i := 1) d_M_size_5 rfl rfl ?_
  refine mm_iald d_M_size_6 a8 z9 i10 ?_
  refine mm_bipush d_M_size_7 (v := 24) (by decide) ?_
  refine mm_iadd d_M_size_9 ?_
  refine mm_i2l d_M_size_10 ?_
  refine mm_callV (as := [.long (((f_7 x1.toNatClampNeg) + 24).toInt64)]) (st := []) (b2 := b_12) ca_M_four w_975 w_977 v_M_four cc_M.1 rfl d_M_size_11 rfl (Nat.le_of_ble_eq_true rfl) (Nat.le_of_ble_eq_true rfl) (Nat.le_of_ble_eq_true rfl) hb13 g2 z3 M16 (fun E _ ⟨c, _⟩ => nomatch c) (fun v _ ⟨c, e⟩ => ?_)
  cases c
  rw [e]
  show mm_W l G k_M_size 14 [(0, .ref r0), (1, .int x1)] [.long y_15] b_12 m_14 Q
  exact mm_lret d_M_size_14 rfl h17
theorem t_M_nameSize_0 {l : Launch} {G : mm_G} {b : Nat} {m : mm_Mem} {Q : mm_O → mm_Mem → Prop} {r0 : Nat} {x1 : Int32} {fs_1 : List Value} {q_4 : Nat} {n_6 : Nat} {f_7 : Nat → Int32} {b_11 : Nat} {b_12 : Nat} {m_14 : mm_Mem} {x_15 : Int32} (g2 : m r0 = .inr (8, fs_1)) (z3 : r0 ≠ 0) (v5 : fs_1[23]? = some (.ref q_4)) (a8 : m q_4 = .inl (G.2 1, n_6, .inl f_7)) (z9 : q_4 ≠ 0) (i10 : vp_in x1 n_6) (hb13 : b_11 + b_12 ≤ b) (M16 : mm_W l G k_M_two 0 (lv_args 0 [.ref r0, .long (((f_7 x1.toNatClampNeg) + 28).toInt64)]) [] b_11 m (mm_is (.inl (some (.int x_15))) m_14)) (h17 : Q (.inl (some (.int x_15))) m_14) : mm_W l G k_M_nameSize 0 [(0, .ref r0), (1, .int x1)] [] b m Q := by
  refine mm_aload_n 0 (i := 0) d_M_nameSize_0 rfl rfl ?_
  refine mm_aload_n 0 (i := 0) d_M_nameSize_1 rfl rfl ?_
  refine mm_get cc_M 23 (by decide) w_766 d_M_nameSize_2 g2 z3 v5 ?_
  refine mm_iload_n 1 (i := 1) d_M_nameSize_5 rfl rfl ?_
  refine mm_iald d_M_nameSize_6 a8 z9 i10 ?_
  refine mm_bipush d_M_nameSize_7 (v := 28) (by decide) ?_
  refine mm_iadd d_M_nameSize_9 ?_
  refine mm_i2l d_M_nameSize_10 ?_
  refine mm_callV (as := [.long (((f_7 x1.toNatClampNeg) + 28).toInt64)]) (st := []) (b2 := b_12) ca_M_two w_979 w_981 v_M_two cc_M.1 rfl d_M_nameSize_11 rfl (Nat.le_of_ble_eq_true rfl) (Nat.le_of_ble_eq_true rfl) (Nat.le_of_ble_eq_true rfl) hb13 g2 z3 M16 (fun E _ ⟨c, _⟩ => nomatch c) (fun v _ ⟨c, e⟩ => ?_)
  cases c
  rw [e]
  show mm_W l G k_M_nameSize 14 [(0, .ref r0), (1, .int x1)] [.int x_15] b_12 m_14 Q
  exact mm_iret d_M_nameSize_14 rfl h17
theorem t_M_sameName_0 {l : Launch} {G : mm_G} {b : Nat} {m : mm_Mem} {Q : mm_O → mm_Mem → Prop} {r0 : Nat} {x1 : Int32} {x2 : Int32} {b_1 : Nat} {b_2 : Nat} {m_4 : mm_Mem} {x_5 : Int32} {fs_6 : List Value} {b_10 : Nat} {b_11 : Nat} {m_13 : mm_Mem} {x_14 : Int32} {fs_15 : List Value} (hb3 : b_1 + b_2 ≤ b) (g7 : m r0 = .inr (8, fs_6)) (z8 : r0 ≠ 0) (M9 : mm_W l G k_M_nameSize 0 (lv_args 0 [.ref r0, .int x1]) [] b_1 m (mm_is (.inl (some (.int x_5))) m_4)) (hb12 : b_10 + b_11 ≤ b_2) (g16 : m_4 r0 = .inr (8, fs_15)) (M17 : mm_W l G k_M_nameSize 0 (lv_args 0 [.ref r0, .int x2]) [] b_10 m_4 (mm_is (.inl (some (.int x_14))) m_13)) (h18 : (¬ x_5 = x_14) → mm_W l G k_M_sameName 17 [(0, .ref r0), (1, .int x1), (2, .int x2)] [] b_11 m_13 Q) (h19 : (x_5 = x_14) → mm_W l G k_M_sameName 13 [(0, .ref r0), (1, .int x1), (2, .int x2)] [] b_11 m_13 Q) : mm_W l G k_M_sameName 0 [(0, .ref r0), (1, .int x1), (2, .int x2)] [] b m Q := by
  refine mm_aload_n 0 (i := 0) d_M_sameName_0 rfl rfl ?_
  refine mm_iload_n 1 (i := 1) d_M_sameName_1 rfl rfl ?_
  refine mm_callV (as := [.int x1]) (st := []) (b2 := b_2) ca_M_nameSize w_996 w_998 v_M_nameSize cc_M.1 rfl d_M_sameName_2 rfl (Nat.le_of_ble_eq_true rfl) (Nat.le_of_ble_eq_true rfl) (Nat.le_of_ble_eq_true rfl) hb3 g7 z8 M9 (fun E _ ⟨c, _⟩ => nomatch c) (fun v _ ⟨c, e⟩ => ?_)
  cases c
  rw [e]
  show mm_W l G k_M_sameName 5 [(0, .ref r0), (1, .int x1), (2, .int x2)] [.int x_5] b_2 m_4 Q
  refine mm_aload_n 0 (i := 0) d_M_sameName_5 rfl rfl ?_
  refine mm_iload_n 2 (i := 2) d_M_sameName_6 rfl rfl ?_
  refine mm_callV (as := [.int x2]) (st := [.int x_5]) (b2 := b_11) ca_M_nameSize w_996 w_998 v_M_nameSize cc_M.1 rfl d_M_sameName_7 rfl (Nat.le_of_ble_eq_true rfl) (Nat.le_of_ble_eq_true rfl) (Nat.le_of_ble_eq_true rfl) hb12 g16 z8 M17 (fun E _ ⟨c, _⟩ => nomatch c) (fun v _ ⟨c, e⟩ => ?_)
  cases c
  rw [e]
  show mm_W l G k_M_sameName 10 [(0, .ref r0), (1, .int x1), (2, .int x2)] [.int x_14, .int x_5] b_11 m_13 Q
  exact mm_icmp_ne (tgt := 17) d_M_sameName_10 (by decide) (fun c => mm_sub [0, 1, 2] rfl (h18 c)) (fun c => mm_sub [0, 1, 2] rfl (h19 c))
theorem t_M_sameName_13 {l : Launch} {G : mm_G} {b : Nat} {m : mm_Mem} {Q : mm_O → mm_Mem → Prop} {r0 : Nat} {x1 : Int32} {x2 : Int32} (h1 : mm_W l G k_M_sameName 18 [(0, .ref r0), (1, .int x1), (2, .int x2)] [.int 1] b m Q) : mm_W l G k_M_sameName 13 [(0, .ref r0), (1, .int x1), (2, .int x2)] [] b m Q := by
  refine mm_iconst d_M_sameName_13 (v := 1) (by decide) ?_
  refine mm_goto (tgt := 18) d_M_sameName_14 (by decide) ?_
  exact mm_sub [0, 1, 2] rfl h1
theorem t_M_sameName_17 {l : Launch} {G : mm_G} {b : Nat} {m : mm_Mem} {Q : mm_O → mm_Mem → Prop} {r0 : Nat} {x1 : Int32} {x2 : Int32} (h1 : mm_W l G k_M_sameName 18 [(0, .ref r0), (1, .int x1), (2, .int x2)] [.int 0] b m Q) : mm_W l G k_M_sameName 17 [(0, .ref r0), (1, .int x1), (2, .int x2)] [] b m Q := by
  refine mm_iconst d_M_sameName_17 (v := 0) (by decide) ?_
  exact mm_sub [0, 1, 2] rfl h1
theorem t_M_sameName_18 {l : Launch} {G : mm_G} {b : Nat} {m : mm_Mem} {Q : mm_O → mm_Mem → Prop} {r0 : Nat} {x1 : Int32} {x2 : Int32} {xs0 : Int32} (h1 : mm_W l G k_M_sameName 22 [(0, .ref r0), (1, .int x1), (2, .int x2), (3, .int xs0), (4, .int 0)] [] b m Q) : mm_W l G k_M_sameName 18 [(0, .ref r0), (1, .int x1), (2, .int x2)] [.int xs0] b m Q := by
  refine mm_istore_n (i := 3) d_M_sameName_18 rfl (Nat.le_of_ble_eq_true rfl) (lv2 := [(3, .int xs0), (0, .ref r0), (1, .int x1), (2, .int x2)]) rfl ?_
  refine mm_iconst d_M_sameName_19 (v := 0) (by decide) ?_
  refine mm_istore (i := 4) d_M_sameName_20 (Nat.le_of_ble_eq_true rfl) (lv2 := [(4, .int 0), (3, .int xs0), (0, .ref r0), (1, .int x1), (2, .int x2)]) rfl ?_
  exact mm_sub [2, 3, 4, 1, 0] rfl h1
theorem t_M_sameName_22 {l : Launch} {G : mm_G} {b : Nat} {m : mm_Mem} {Q : mm_O → mm_Mem → Prop} {r0 : Nat} {x1 : Int32} {x2 : Int32} {x3 : Int32} {x4 : Int32} {b_1 : Nat} {b_2 : Nat} {m_4 : mm_Mem} {x_5 : Int32} {fs_6 : List Value} (hb3 : b_1 + b_2 ≤ b) (g7 : m r0 = .inr (8, fs_6)) (z8 : r0 ≠ 0) (M9 : mm_W l G k_M_nameSize 0 (lv_args 0 [.ref r0, .int x1]) [] b_1 m (mm_is (.inl (some (.int x_5))) m_4)) (h10 : (x_5 ≤ x4) → mm_W l G k_M_sameName 87 [(3, .int x3)] [] b_2 m_4 Q) (h11 : (¬ x_5 ≤ x4) → mm_W l G k_M_sameName 32 [(0, .ref r0), (1, .int x1), (2, .int x2), (3, .int x3), (4, .int x4)] [] b_2 m_4 Q) : mm_W l G k_M_sameName 22 [(0, .ref r0), (1, .int x1), (2, .int x2), (3, .int x3), (4, .int x4)] [] b m Q := by
  refine mm_iload 4 (i := 4) d_M_sameName_22 rfl ?_
  refine mm_aload_n 0 (i := 0) d_M_sameName_24 rfl rfl ?_
  refine mm_iload_n 1 (i := 1) d_M_sameName_25 rfl rfl ?_
  refine mm_callV (as := [.int x1]) (st := [.int x4]) (b2 := b_2) ca_M_nameSize w_996 w_998 v_M_nameSize cc_M.1 rfl d_M_sameName_26 rfl (Nat.le_of_ble_eq_true rfl) (Nat.le_of_ble_eq_true rfl) (Nat.le_of_ble_eq_true rfl) hb3 g7 z8 M9 (fun E _ ⟨c, _⟩ => nomatch c) (fun v _ ⟨c, e⟩ => ?_)
  cases c
  rw [e]
  show mm_W l G k_M_sameName 29 [(0, .ref r0), (1, .int x1), (2, .int x2), (3, .int x3), (4, .int x4)] [.int x_5, .int x4] b_2 m_4 Q
  exact mm_icmp_ge (tgt := 87) d_M_sameName_29 (by decide) (fun c => mm_sub [3] rfl (h10 c)) (fun c => mm_sub [0, 1, 2, 3, 4] rfl (h11 c))
theorem t_M_sameName_32 {l : Launch} {G : mm_G} {b : Nat} {m : mm_Mem} {Q : mm_O → mm_Mem → Prop} {r0 : Nat} {x1 : Int32} {x2 : Int32} {x3 : Int32} {x4 : Int32} (h1 : (x3 = 0) → mm_W l G k_M_sameName 87 [(3, .int x3)] [] b m Q) (h2 : (¬ x3 = 0) → mm_W l G k_M_sameName 36 [(0, .ref r0), (1, .int x1), (2, .int x2), (4, .int x4)] [] b m Q) : mm_W l G k_M_sameName 32 [(0, .ref r0), (1, .int x1), (2, .int x2), (3, .int x3), (4, .int x4)] [] b m Q := by
  refine mm_iload_n 3 (i := 3) d_M_sameName_32 rfl rfl ?_
  exact mm_if_eq (tgt := 87) d_M_sameName_33 (by decide) (fun c => mm_sub [3] rfl (h1 c)) (fun c => mm_sub [0, 1, 2, 4] rfl (h2 c))
theorem t_M_sameName_36 {l : Launch} {G : mm_G} {b : Nat} {m : mm_Mem} {Q : mm_O → mm_Mem → Prop} {r0 : Nat} {x1 : Int32} {x2 : Int32} {x4 : Int32} {fs_1 : List Value} {q_4 : Nat} {n_6 : Nat} {f_7 : Nat → Int32} {b_11 : Nat} {b_12 : Nat} {m_14 : mm_Mem} {x_15 : Int32} {b_17 : Nat} {b_18 : Nat} {m_20 : mm_Mem} {x_21 : Int32} {fs_23 : List Value} {q_25 : Nat} {n_27 : Nat} {f_28 : Nat → Int32} {b_32 : Nat} {b_33 : Nat} {m_35 : mm_Mem} {x_36 : Int32} {b_38 : Nat} {b_39 : Nat} {m_41 : mm_Mem} {x_42 : Int32} (g2 : m r0 = .inr (8, fs_1)) (z3 : r0 ≠ 0) (v5 : fs_1[23]? = some (.ref q_4)) (a8 : m q_4 = .inl (G.2 1, n_6, .inl f_7)) (z9 : q_4 ≠ 0) (i10 : vp_in x1 n_6) (hb13 : b_11 + b_12 ≤ b) (M16 : mm_W l G k_M_nameAt 0 (lv_args 0 [.ref r0, .int ((f_7 x1.toNatClampNeg) + 46), .int x4]) [] b_11 m (mm_is (.inl (some (.int x_15))) m_14)) (hb19 : b_17 + b_18 ≤ b_12) (M22 : mm_W l G k_M_small 0 (lv_args 0 [.int x_15]) [] b_17 m_14 (mm_is (.inl (some (.int x_21))) m_20)) (g24 : m_20 r0 = .inr (8, fs_23)) (v26 : fs_23[23]? = some (.ref q_25)) (a29 : m_20 q_25 = .inl (G.2 1, n_27, .inl f_28)) (z30 : q_25 ≠ 0) (i31 : vp_in x2 n_27) (hb34 : b_32 + b_33 ≤ b_18) (M37 : mm_W l G k_M_nameAt 0 (lv_args 0 [.ref r0, .int ((f_28 x2.toNatClampNeg) + 46), .int x4]) [] b_32 m_20 (mm_is (.inl (some (.int x_36))) m_35)) (hb40 : b_38 + b_39 ≤ b_33) (M43 : mm_W l G k_M_small 0 (lv_args 0 [.int x_36]) [] b_38 m_35 (mm_is (.inl (some (.int x_42))) m_41)) (h44 : (¬ x_21 = x_42) → mm_W l G k_M_sameName 79 [(0, .ref r0), (1, .int x1), (2, .int x2), (4, .int x4)] [] b_39 m_41 Q) (h45 : (x_21 = x_42) → mm_W l G k_M_sameName 75 [(0, .ref r0), (1, .int x1), (2, .int x2), (4, .int x4)] [] b_39 m_41 Q) : mm_W l G k_M_sameName 36 [(0, .ref r0), (1, .int x1), (2, .int x2), (4, .int x4)] [] b m Q := by
  refine mm_aload_n 0 (i := 0) d_M_sameName_36 rfl rfl ?_
  refine mm_aload_n 0 (i := 0) d_M_sameName_37 rfl rfl ?_
  refine mm_get cc_M 23 (by decide) w_766 d_M_sameName_38 g2 z3 v5 ?_
  refine mm_iload_n 1 (i := 1) d_M_sameName_41 rfl rfl ?_
  refine mm_iald d_M_sameName_42 a8 z9 i10 ?_
  refine mm_bipush d_M_sameName_43 (v := 46) (by decide) ?_
  refine mm_iadd d_M_sameName_45 ?_
  refine mm_iload 3 (i := 4) d_M_sameName_46 rfl ?_
  refine mm_callV (as := [.int ((f_7 x1.toNatClampNeg) + 46), .int x4]) (st := []) (b2 := b_12) ca_M_nameAt w_877 w_879 v_M_nameAt cc_M.1 rfl d_M_sameName_48 rfl (Nat.le_of_ble_eq_true rfl) (Nat.le_of_ble_eq_true rfl) (Nat.le_of_ble_eq_true rfl) hb13 g2 z3 M16 (fun E _ ⟨c, _⟩ => nomatch c) (fun v _ ⟨c, e⟩ => ?_)
  cases c
  rw [e]
  show mm_W l G k_M_sameName 51 [(0, .ref r0), (1, .int x1), (2, .int x2), (4, .int x4)] [.int x_15] b_12 m_14 Q
  refine mm_callS (as := [.int x_15]) (st := []) (b2 := b_18) ca_M_small w_885 w_886 d_M_sameName_51 rfl (Nat.le_of_ble_eq_true rfl) (Nat.le_of_ble_eq_true rfl) (Nat.le_of_ble_eq_true rfl) hb19 M22 (fun E _ ⟨c, _⟩ => nomatch c) (fun v _ ⟨c, e⟩ => ?_)
  cases c
  rw [e]
  show mm_W l G k_M_sameName 54 [(0, .ref r0), (1, .int x1), (2, .int x2), (4, .int x4)] [.int x_21] b_18 m_20 Q
  refine mm_aload_n 0 (i := 0) d_M_sameName_54 rfl rfl ?_
  refine mm_aload_n 0 (i := 0) d_M_sameName_55 rfl rfl ?_
  refine mm_get cc_M 23 (by decide) w_766 d_M_sameName_56 g24 z3 v26 ?_
  refine mm_iload_n 2 (i := 2) d_M_sameName_59 rfl rfl ?_
  refine mm_iald d_M_sameName_60 a29 z30 i31 ?_
  refine mm_bipush d_M_sameName_61 (v := 46) (by decide) ?_
  refine mm_iadd d_M_sameName_63 ?_
  refine mm_iload 3 (i := 4) d_M_sameName_64 rfl ?_
  refine mm_callV (as := [.int ((f_28 x2.toNatClampNeg) + 46), .int x4]) (st := [.int x_21]) (b2 := b_33) ca_M_nameAt w_877 w_879 v_M_nameAt cc_M.1 rfl d_M_sameName_66 rfl (Nat.le_of_ble_eq_true rfl) (Nat.le_of_ble_eq_true rfl) (Nat.le_of_ble_eq_true rfl) hb34 g24 z3 M37 (fun E _ ⟨c, _⟩ => nomatch c) (fun v _ ⟨c, e⟩ => ?_)
  cases c
  rw [e]
  show mm_W l G k_M_sameName 69 [(0, .ref r0), (1, .int x1), (2, .int x2), (4, .int x4)] [.int x_36, .int x_21] b_33 m_35 Q
  refine mm_callS (as := [.int x_36]) (st := [.int x_21]) (b2 := b_39) ca_M_small w_885 w_886 d_M_sameName_69 rfl (Nat.le_of_ble_eq_true rfl) (Nat.le_of_ble_eq_true rfl) (Nat.le_of_ble_eq_true rfl) hb40 M43 (fun E _ ⟨c, _⟩ => nomatch c) (fun v _ ⟨c, e⟩ => ?_)
  cases c
  rw [e]
  show mm_W l G k_M_sameName 72 [(0, .ref r0), (1, .int x1), (2, .int x2), (4, .int x4)] [.int x_42, .int x_21] b_39 m_41 Q
  exact mm_icmp_ne (tgt := 79) d_M_sameName_72 (by decide) (fun c => mm_sub [0, 1, 2, 3] rfl (h44 c)) (fun c => mm_sub [0, 1, 2, 3] rfl (h45 c))
theorem t_M_sameName_75 {l : Launch} {G : mm_G} {b : Nat} {m : mm_Mem} {Q : mm_O → mm_Mem → Prop} {r0 : Nat} {x1 : Int32} {x2 : Int32} {x4 : Int32} (h1 : mm_W l G k_M_sameName 80 [(0, .ref r0), (1, .int x1), (2, .int x2), (4, .int x4)] [.int 1] b m Q) : mm_W l G k_M_sameName 75 [(0, .ref r0), (1, .int x1), (2, .int x2), (4, .int x4)] [] b m Q := by
  refine mm_iconst d_M_sameName_75 (v := 1) (by decide) ?_
  refine mm_goto (tgt := 80) d_M_sameName_76 (by decide) ?_
  exact mm_sub [0, 1, 2, 3] rfl h1
theorem t_M_sameName_79 {l : Launch} {G : mm_G} {b : Nat} {m : mm_Mem} {Q : mm_O → mm_Mem → Prop} {r0 : Nat} {x1 : Int32} {x2 : Int32} {x4 : Int32} (h1 : mm_W l G k_M_sameName 80 [(0, .ref r0), (1, .int x1), (2, .int x2), (4, .int x4)] [.int 0] b m Q) : mm_W l G k_M_sameName 79 [(0, .ref r0), (1, .int x1), (2, .int x2), (4, .int x4)] [] b m Q := by
  refine mm_iconst d_M_sameName_79 (v := 0) (by decide) ?_
  exact mm_sub [0, 1, 2, 3] rfl h1
theorem t_M_sameName_80 {l : Launch} {G : mm_G} {b : Nat} {m : mm_Mem} {Q : mm_O → mm_Mem → Prop} {r0 : Nat} {x1 : Int32} {x2 : Int32} {x4 : Int32} {xs0 : Int32} (h1 : mm_W l G k_M_sameName 22 [(0, .ref r0), (1, .int x1), (2, .int x2), (3, .int xs0), (4, .int (x4 + 1))] [] b m Q) : mm_W l G k_M_sameName 80 [(0, .ref r0), (1, .int x1), (2, .int x2), (4, .int x4)] [.int xs0] b m Q := by
  refine mm_istore_n (i := 3) d_M_sameName_80 rfl (Nat.le_of_ble_eq_true rfl) (lv2 := [(3, .int xs0), (0, .ref r0), (1, .int x1), (2, .int x2), (4, .int x4)]) rfl ?_
  refine mm_iinc 4 (i := 4) d_M_sameName_81 rfl (v := x4 + 1) rfl (Nat.le_of_ble_eq_true rfl) (lv2 := [(4, .int (x4 + 1)), (3, .int xs0), (0, .ref r0), (1, .int x1), (2, .int x2)]) rfl ?_
  refine mm_goto (tgt := 22) d_M_sameName_84 (by decide) ?_
  exact mm_sub [2, 3, 4, 1, 0] rfl h1
theorem t_M_sameName_87 {l : Launch} {G : mm_G} {b : Nat} {m : mm_Mem} {Q : mm_O → mm_Mem → Prop} {x3 : Int32} (h1 : Q (.inl (some (.int x3))) m) (hn2 : narrow .boolean (.int x3) = .int x3) : mm_W l G k_M_sameName 87 [(3, .int x3)] [] b m Q := by
  refine mm_iload_n 0 (i := 3) d_M_sameName_87 rfl rfl ?_
  exact mm_zret d_M_sameName_88 rfl hn2 h1
theorem t_M_readDirectory_0 {l : Launch} {G : mm_G} {b : Nat} {m : mm_Mem} {Q : mm_O → mm_Mem → Prop} {r0 : Nat} {fs_1 : List Value} {v_4 : Int64} (g2 : m r0 = .inr (8, fs_1)) (z3 : r0 ≠ 0) (v5 : fs_1[21]? = some (.long v_4)) (h6 : mm_W l G k_M_readDirectory 13 [(0, .ref r0), (1, .long v_4), (3, .long 0), (5, .long 0), (7, .int 0)] [] b m Q) : mm_W l G k_M_readDirectory 0 [(0, .ref r0)] [] b m Q := by
  refine mm_aload_n 0 (i := 0) d_M_readDirectory_0 rfl rfl ?_
  refine mm_get cc_M 21 (by decide) w_764 d_M_readDirectory_1 g2 z3 v5 ?_
  refine mm_lstore_n (i := 1) d_M_readDirectory_4 rfl (Nat.le_of_ble_eq_true rfl) (lv2 := [(1, .long v_4), (0, .ref r0)]) rfl ?_
  refine mm_lconst d_M_readDirectory_5 (v := 0) (by decide) ?_
  refine mm_lstore_n (i := 3) d_M_readDirectory_6 rfl (Nat.le_of_ble_eq_true rfl) (lv2 := [(3, .long 0), (1, .long v_4), (0, .ref r0)]) rfl ?_
  refine mm_lconst d_M_readDirectory_7 (v := 0) (by decide) ?_
  refine mm_lstore (i := 5) d_M_readDirectory_8 (Nat.le_of_ble_eq_true rfl) (lv2 := [(5, .long 0), (3, .long 0), (1, .long v_4), (0, .ref r0)]) rfl ?_
  refine mm_iconst d_M_readDirectory_10 (v := 0) (by decide) ?_
  refine mm_istore (i := 7) d_M_readDirectory_11 (Nat.le_of_ble_eq_true rfl) (lv2 := [(7, .int 0), (5, .long 0), (3, .long 0), (1, .long v_4), (0, .ref r0)]) rfl ?_
  exact mm_sub [4, 3, 2, 1, 0] rfl h6
theorem t_M_readDirectory_13 {l : Launch} {G : mm_G} {b : Nat} {m : mm_Mem} {Q : mm_O → mm_Mem → Prop} {r0 : Nat} {y1 : Int64} {y3 : Int64} {y5 : Int64} {x7 : Int32} {fs_1 : List Value} {u_4 : Int32} (g2 : m r0 = .inr (8, fs_1)) (z3 : r0 ≠ 0) (v5 : fs_1[22]? = some (.int u_4)) (h6 : (u_4 ≤ x7) → mm_W l G k_M_readDirectory 367 [(0, .ref r0), (1, .long y1)] [] b m Q) (h7 : (¬ u_4 ≤ x7) → mm_W l G k_M_readDirectory 22 [(0, .ref r0), (1, .long y1), (3, .long y3), (5, .long y5), (7, .int x7)] [] b m Q) : mm_W l G k_M_readDirectory 13 [(0, .ref r0), (1, .long y1), (3, .long y3), (5, .long y5), (7, .int x7)] [] b m Q := by
  refine mm_iload 4 (i := 7) d_M_readDirectory_13 rfl ?_
  refine mm_aload_n 0 (i := 0) d_M_readDirectory_15 rfl rfl ?_
  refine mm_get cc_M 22 (by decide) w_765 d_M_readDirectory_16 g2 z3 v5 ?_
  exact mm_icmp_ge (tgt := 367) d_M_readDirectory_19 (by decide) (fun c => mm_sub [0, 1] rfl (h6 c)) (fun c => mm_sub [0, 1, 2, 3, 4] rfl (h7 c))
theorem t_M_readDirectory_22 {l : Launch} {G : mm_G} {b : Nat} {m : mm_Mem} {Q : mm_O → mm_Mem → Prop} {r0 : Nat} {y1 : Int64} {y3 : Int64} {y5 : Int64} {x7 : Int32} {fs_1 : List Value} {u_4 : Int32} (g2 : m r0 = .inr (8, fs_1)) (z3 : r0 ≠ 0) (v5 : fs_1[20]? = some (.int u_4)) (h6 : (0 < (lg_cmp (y1 + 46) u_4.toInt64)) → mm_W l G k_M_readDirectory 48 [(0, .ref r0), (1, .long y1), (7, .int x7)] [] b m Q) (h7 : (¬ 0 < (lg_cmp (y1 + 46) u_4.toInt64)) → mm_W l G k_M_readDirectory 36 [(0, .ref r0), (1, .long y1), (3, .long y3), (5, .long y5), (7, .int x7)] [] b m Q) : mm_W l G k_M_readDirectory 22 [(0, .ref r0), (1, .long y1), (3, .long y3), (5, .long y5), (7, .int x7)] [] b m Q := by
  refine mm_lload_n 1 (i := 1) d_M_readDirectory_22 rfl rfl ?_
  refine mm_ldc2 (v := 46) w_994 d_M_readDirectory_23 ?_
  refine mm_ladd d_M_readDirectory_26 ?_
  refine mm_aload_n 0 (i := 0) d_M_readDirectory_27 rfl rfl ?_
  refine mm_get cc_M 20 (by decide) w_763 d_M_readDirectory_28 g2 z3 v5 ?_
  refine mm_i2l d_M_readDirectory_31 ?_
  refine mm_lcmp d_M_readDirectory_32 ?_
  exact mm_if_gt (tgt := 48) d_M_readDirectory_33 (by decide) (fun c => mm_sub [0, 1, 4] rfl (h6 c)) (fun c => mm_sub [0, 1, 2, 3, 4] rfl (h7 c))
theorem t_M_readDirectory_36 {l : Launch} {G : mm_G} {b : Nat} {m : mm_Mem} {Q : mm_O → mm_Mem → Prop} {r0 : Nat} {y1 : Int64} {y3 : Int64} {y5 : Int64} {x7 : Int32} {b_1 : Nat} {b_2 : Nat} {m_4 : mm_Mem} {y_5 : Int64} {fs_6 : List Value} (hb3 : b_1 + b_2 ≤ b) (g7 : m r0 = .inr (8, fs_6)) (z8 : r0 ≠ 0) (M9 : mm_W l G k_M_four 0 (lv_args 0 [.ref r0, .long y1]) [] b_1 m (mm_is (.inl (some (.long y_5))) m_4)) (h10 : ((lg_cmp y_5 33639248) = 0) → mm_W l G k_M_readDirectory 57 [(0, .ref r0), (1, .long y1), (3, .long y3), (5, .long y5), (7, .int x7)] [] b_2 m_4 Q) (h11 : (¬ (lg_cmp y_5 33639248) = 0) → mm_W l G k_M_readDirectory 48 [(0, .ref r0), (1, .long y1), (7, .int x7)] [] b_2 m_4 Q) : mm_W l G k_M_readDirectory 36 [(0, .ref r0), (1, .long y1), (3, .long y3), (5, .long y5), (7, .int x7)] [] b m Q := by
  refine mm_aload_n 0 (i := 0) d_M_readDirectory_36 rfl rfl ?_
  refine mm_lload_n 1 (i := 1) d_M_readDirectory_37 rfl rfl ?_
  refine mm_callV (as := [.long y1]) (st := []) (b2 := b_2) ca_M_four w_975 w_977 v_M_four cc_M.1 rfl d_M_readDirectory_38 rfl (Nat.le_of_ble_eq_true rfl) (Nat.le_of_ble_eq_true rfl) (Nat.le_of_ble_eq_true rfl) hb3 g7 z8 M9 (fun E _ ⟨c, _⟩ => nomatch c) (fun v _ ⟨c, e⟩ => ?_)
  cases c
  rw [e]
  show mm_W l G k_M_readDirectory 41 [(0, .ref r0), (1, .long y1), (3, .long y3), (5, .long y5), (7, .int x7)] [.long y_5] b_2 m_4 Q
  refine mm_ldc2 (v := 33639248) w_995 d_M_readDirectory_41 ?_
  refine mm_lcmp d_M_readDirectory_44 ?_
  exact mm_if_eq (tgt := 57) d_M_readDirectory_45 (by decide) (fun c => mm_sub [0, 1, 2, 3, 4] rfl (h10 c)) (fun c => mm_sub [0, 1, 4] rfl (h11 c))
theorem t_M_readDirectory_48 {l : Launch} {G : mm_G} {b : Nat} {m : mm_Mem} {Q : mm_O → mm_Mem → Prop} {r0 : Nat} {y1 : Int64} {x7 : Int32} {b_1 : Nat} {b_2 : Nat} {m_4 : mm_Mem} {x_5 : Int32} {fs_6 : List Value} (hb3 : b_1 + b_2 ≤ b) (g7 : m r0 = .inr (8, fs_6)) (z8 : r0 ≠ 0) (M9 : mm_W l G k_M_wrong 0 (lv_args 0 [.ref r0, .int 3, .long y1, .int x7]) [] b_1 m (mm_is (.inl (some (.int x_5))) m_4)) (h10 : Q (.inl (some (.int x_5))) m_4) (hn11 : narrow .boolean (.int x_5) = .int x_5) : mm_W l G k_M_readDirectory 48 [(0, .ref r0), (1, .long y1), (7, .int x7)] [] b m Q := by
  refine mm_aload_n 0 (i := 0) d_M_readDirectory_48 rfl rfl ?_
  refine mm_iconst d_M_readDirectory_49 (v := 3) (by decide) ?_
  refine mm_lload_n 1 (i := 1) d_M_readDirectory_50 rfl rfl ?_
  refine mm_iload 2 (i := 7) d_M_readDirectory_51 rfl ?_
  refine mm_callV (as := [.int 3, .long y1, .int x7]) (st := []) (b2 := b_2) ca_M_wrong w_986 w_988 v_M_wrong cc_M.1 rfl d_M_readDirectory_53 rfl (Nat.le_of_ble_eq_true rfl) (Nat.le_of_ble_eq_true rfl) (Nat.le_of_ble_eq_true rfl) hb3 g7 z8 M9 (fun E _ ⟨c, _⟩ => nomatch c) (fun v _ ⟨c, e⟩ => ?_)
  cases c
  rw [e]
  show mm_W l G k_M_readDirectory 56 [(0, .ref r0), (1, .long y1), (7, .int x7)] [.int x_5] b_2 m_4 Q
  exact mm_zret d_M_readDirectory_56 rfl hn11 h10
theorem t_M_readDirectory_57 {l : Launch} {G : mm_G} {b : Nat} {m : mm_Mem} {Q : mm_O → mm_Mem → Prop} {r0 : Nat} {y1 : Int64} {y3 : Int64} {y5 : Int64} {x7 : Int32} {fs_1 : List Value} {q_4 : Nat} {n_6 : Nat} {f_7 : Nat → Int32} {b_11 : Nat} {b_12 : Nat} {m_14 : mm_Mem} {x_15 : Int32} {fs_16 : List Value} {b_19 : Nat} {b_20 : Nat} {m_22 : mm_Mem} {x_23 : Int32} {fs_24 : List Value} {b_27 : Nat} {b_28 : Nat} {m_30 : mm_Mem} {x_31 : Int32} {fs_32 : List Value} {fs_35 : List Value} {u_37 : Int32} (g2 : m r0 = .inr (8, fs_1)) (z3 : r0 ≠ 0) (v5 : fs_1[23]? = some (.ref q_4)) (a8 : m q_4 = .inl (G.2 1, n_6, .inl f_7)) (z9 : q_4 ≠ 0) (i10 : vp_in x7 n_6) (hb13 : b_11 + b_12 ≤ b) (g17 : (va_up m q_4 (.inl (G.2 1, n_6, .inl (upd f_7 x7.toNatClampNeg y1.toInt32)))) r0 = .inr (8, fs_16)) (M18 : mm_W l G k_M_nameSize 0 (lv_args 0 [.ref r0, .int x7]) [] b_11 (va_up m q_4 (.inl (G.2 1, n_6, .inl (upd f_7 x7.toNatClampNeg y1.toInt32)))) (mm_is (.inl (some (.int x_15))) m_14)) (hb21 : b_19 + b_20 ≤ b_12) (g25 : m_14 r0 = .inr (8, fs_24)) (M26 : mm_W l G k_M_two 0 (lv_args 0 [.ref r0, .long (y1 + 30)]) [] b_19 m_14 (mm_is (.inl (some (.int x_23))) m_22)) (hb29 : b_27 + b_28 ≤ b_20) (g33 : m_22 r0 = .inr (8, fs_32)) (M34 : mm_W l G k_M_two 0 (lv_args 0 [.ref r0, .long (y1 + 32)]) [] b_27 m_22 (mm_is (.inl (some (.int x_31))) m_30)) (g36 : m_30 r0 = .inr (8, fs_35)) (v38 : fs_35[20]? = some (.int u_37)) (h39 : ((lg_cmp ((((y1 + 46) + x_15.toInt64) + x_23.toInt64) + x_31.toInt64) u_37.toInt64) ≤ 0) → mm_W l G k_M_readDirectory 123 [(0, .ref r0), (1, .long y1), (3, .long y3), (5, .long y5), (7, .int x7), (8, .long ((((y1 + 46) + x_15.toInt64) + x_23.toInt64) + x_31.toInt64))] [] b_28 m_30 Q) (h40 : (¬ (lg_cmp ((((y1 + 46) + x_15.toInt64) + x_23.toInt64) + x_31.toInt64) u_37.toInt64) ≤ 0) → mm_W l G k_M_readDirectory 114 [(0, .ref r0), (1, .long y1), (7, .int x7)] [] b_28 m_30 Q) : mm_W l G k_M_readDirectory 57 [(0, .ref r0), (1, .long y1), (3, .long y3), (5, .long y5), (7, .int x7)] [] b m Q := by
  refine mm_aload_n 0 (i := 0) d_M_readDirectory_57 rfl rfl ?_
  refine mm_get cc_M 23 (by decide) w_766 d_M_readDirectory_58 g2 z3 v5 ?_
  refine mm_iload 4 (i := 7) d_M_readDirectory_61 rfl ?_
  refine mm_lload_n 1 (i := 1) d_M_readDirectory_63 rfl rfl ?_
  refine mm_l2i d_M_readDirectory_64 ?_
  refine mm_iast d_M_readDirectory_65 a8 z9 i10 ?_
  refine mm_lload_n 1 (i := 1) d_M_readDirectory_66 rfl rfl ?_
  refine mm_ldc2 (v := 46) w_994 d_M_readDirectory_67 ?_
  refine mm_ladd d_M_readDirectory_70 ?_
  refine mm_aload_n 0 (i := 0) d_M_readDirectory_71 rfl rfl ?_
  refine mm_iload 4 (i := 7) d_M_readDirectory_72 rfl ?_
  refine mm_callV (as := [.int x7]) (st := [.long (y1 + 46)]) (b2 := b_12) ca_M_nameSize w_996 w_998 v_M_nameSize cc_M.1 rfl d_M_readDirectory_74 rfl (Nat.le_of_ble_eq_true rfl) (Nat.le_of_ble_eq_true rfl) (Nat.le_of_ble_eq_true rfl) hb13 g17 z3 M18 (fun E _ ⟨c, _⟩ => nomatch c) (fun v _ ⟨c, e⟩ => ?_)
  cases c
  rw [e]
  show mm_W l G k_M_readDirectory 77 [(0, .ref r0), (1, .long y1), (3, .long y3), (5, .long y5), (7, .int x7)] [.int x_15, .long (y1 + 46)] b_12 m_14 Q
  refine mm_i2l d_M_readDirectory_77 ?_
  refine mm_ladd d_M_readDirectory_78 ?_
  refine mm_aload_n 0 (i := 0) d_M_readDirectory_79 rfl rfl ?_
  refine mm_lload_n 1 (i := 1) d_M_readDirectory_80 rfl rfl ?_
  refine mm_ldc2 (v := 30) w_1000 d_M_readDirectory_81 ?_
  refine mm_ladd d_M_readDirectory_84 ?_
  refine mm_callV (as := [.long (y1 + 30)]) (st := [.long ((y1 + 46) + x_15.toInt64)]) (b2 := b_20) ca_M_two w_979 w_981 v_M_two cc_M.1 rfl d_M_readDirectory_85 rfl (Nat.le_of_ble_eq_true rfl) (Nat.le_of_ble_eq_true rfl) (Nat.le_of_ble_eq_true rfl) hb21 g25 z3 M26 (fun E _ ⟨c, _⟩ => nomatch c) (fun v _ ⟨c, e⟩ => ?_)
  cases c
  rw [e]
  show mm_W l G k_M_readDirectory 88 [(0, .ref r0), (1, .long y1), (3, .long y3), (5, .long y5), (7, .int x7)] [.int x_23, .long ((y1 + 46) + x_15.toInt64)] b_20 m_22 Q
  refine mm_i2l d_M_readDirectory_88 ?_
  refine mm_ladd d_M_readDirectory_89 ?_
  refine mm_aload_n 0 (i := 0) d_M_readDirectory_90 rfl rfl ?_
  refine mm_lload_n 1 (i := 1) d_M_readDirectory_91 rfl rfl ?_
  refine mm_ldc2 (v := 32) w_1001 d_M_readDirectory_92 ?_
  refine mm_ladd d_M_readDirectory_95 ?_
  refine mm_callV (as := [.long (y1 + 32)]) (st := [.long (((y1 + 46) + x_15.toInt64) + x_23.toInt64)]) (b2 := b_28) ca_M_two w_979 w_981 v_M_two cc_M.1 rfl d_M_readDirectory_96 rfl (Nat.le_of_ble_eq_true rfl) (Nat.le_of_ble_eq_true rfl) (Nat.le_of_ble_eq_true rfl) hb29 g33 z3 M34 (fun E _ ⟨c, _⟩ => nomatch c) (fun v _ ⟨c, e⟩ => ?_)
  cases c
  rw [e]
  show mm_W l G k_M_readDirectory 99 [(0, .ref r0), (1, .long y1), (3, .long y3), (5, .long y5), (7, .int x7)] [.int x_31, .long (((y1 + 46) + x_15.toInt64) + x_23.toInt64)] b_28 m_30 Q
  refine mm_i2l d_M_readDirectory_99 ?_
  refine mm_ladd d_M_readDirectory_100 ?_
  refine mm_lstore (i := 8) d_M_readDirectory_101 (Nat.le_of_ble_eq_true rfl) (lv2 := [(8, .long ((((y1 + 46) + x_15.toInt64) + x_23.toInt64) + x_31.toInt64)), (0, .ref r0), (1, .long y1), (3, .long y3), (5, .long y5), (7, .int x7)]) rfl ?_
  refine mm_lload 0 (i := 8) d_M_readDirectory_103 rfl ?_
  refine mm_aload_n 1 (i := 0) d_M_readDirectory_105 rfl rfl ?_
  refine mm_get cc_M 20 (by decide) w_763 d_M_readDirectory_106 g36 z3 v38 ?_
  refine mm_i2l d_M_readDirectory_109 ?_
  refine mm_lcmp d_M_readDirectory_110 ?_
  exact mm_if_le (tgt := 123) d_M_readDirectory_111 (by decide) (fun c => mm_sub [1, 2, 3, 4, 5, 0] rfl (h39 c)) (fun c => mm_sub [1, 2, 5] rfl (h40 c))
theorem t_M_readDirectory_114 {l : Launch} {G : mm_G} {b : Nat} {m : mm_Mem} {Q : mm_O → mm_Mem → Prop} {r0 : Nat} {y1 : Int64} {x7 : Int32} {b_1 : Nat} {b_2 : Nat} {m_4 : mm_Mem} {x_5 : Int32} {fs_6 : List Value} (hb3 : b_1 + b_2 ≤ b) (g7 : m r0 = .inr (8, fs_6)) (z8 : r0 ≠ 0) (M9 : mm_W l G k_M_wrong 0 (lv_args 0 [.ref r0, .int 3, .long y1, .int x7]) [] b_1 m (mm_is (.inl (some (.int x_5))) m_4)) (h10 : Q (.inl (some (.int x_5))) m_4) (hn11 : narrow .boolean (.int x_5) = .int x_5) : mm_W l G k_M_readDirectory 114 [(0, .ref r0), (1, .long y1), (7, .int x7)] [] b m Q := by
  refine mm_aload_n 0 (i := 0) d_M_readDirectory_114 rfl rfl ?_
  refine mm_iconst d_M_readDirectory_115 (v := 3) (by decide) ?_
  refine mm_lload_n 1 (i := 1) d_M_readDirectory_116 rfl rfl ?_
  refine mm_iload 2 (i := 7) d_M_readDirectory_117 rfl ?_
  refine mm_callV (as := [.int 3, .long y1, .int x7]) (st := []) (b2 := b_2) ca_M_wrong w_986 w_988 v_M_wrong cc_M.1 rfl d_M_readDirectory_119 rfl (Nat.le_of_ble_eq_true rfl) (Nat.le_of_ble_eq_true rfl) (Nat.le_of_ble_eq_true rfl) hb3 g7 z8 M9 (fun E _ ⟨c, _⟩ => nomatch c) (fun v _ ⟨c, e⟩ => ?_)
  cases c
  rw [e]
  show mm_W l G k_M_readDirectory 122 [(0, .ref r0), (1, .long y1), (7, .int x7)] [.int x_5] b_2 m_4 Q
  exact mm_zret d_M_readDirectory_122 rfl hn11 h10
theorem t_M_readDirectory_123 {l : Launch} {G : mm_G} {b : Nat} {m : mm_Mem} {Q : mm_O → mm_Mem → Prop} {r0 : Nat} {y1 : Int64} {y3 : Int64} {y5 : Int64} {x7 : Int32} {y8 : Int64} {b_1 : Nat} {b_2 : Nat} {m_4 : mm_Mem} {x_5 : Int32} {fs_6 : List Value} (hb3 : b_1 + b_2 ≤ b) (g7 : m r0 = .inr (8, fs_6)) (z8 : r0 ≠ 0) (M9 : mm_W l G k_M_flags 0 (lv_args 0 [.ref r0, .int x7]) [] b_1 m (mm_is (.inl (some (.int x_5))) m_4)) (h10 : (¬ (x_5 &&& ((-2057))) = 0) → mm_W l G k_M_readDirectory 168 [(0, .ref r0), (1, .long y1), (7, .int x7)] [] b_2 m_4 Q) (h11 : ((x_5 &&& ((-2057))) = 0) → mm_W l G k_M_readDirectory 136 [(0, .ref r0), (1, .long y1), (3, .long y3), (5, .long y5), (7, .int x7), (8, .long y8)] [] b_2 m_4 Q) : mm_W l G k_M_readDirectory 123 [(0, .ref r0), (1, .long y1), (3, .long y3), (5, .long y5), (7, .int x7), (8, .long y8)] [] b m Q := by
  refine mm_aload_n 0 (i := 0) d_M_readDirectory_123 rfl rfl ?_
  refine mm_iload 4 (i := 7) d_M_readDirectory_124 rfl ?_
  refine mm_callV (as := [.int x7]) (st := []) (b2 := b_2) ca_M_flags w_1002 w_1004 v_M_flags cc_M.1 rfl d_M_readDirectory_126 rfl (Nat.le_of_ble_eq_true rfl) (Nat.le_of_ble_eq_true rfl) (Nat.le_of_ble_eq_true rfl) hb3 g7 z8 M9 (fun E _ ⟨c, _⟩ => nomatch c) (fun v _ ⟨c, e⟩ => ?_)
  cases c
  rw [e]
  show mm_W l G k_M_readDirectory 129 [(0, .ref r0), (1, .long y1), (3, .long y3), (5, .long y5), (7, .int x7), (8, .long y8)] [.int x_5] b_2 m_4 Q
  refine mm_sipush d_M_readDirectory_129 (v := (-2057)) (by decide) ?_
  refine mm_iand d_M_readDirectory_132 ?_
  exact mm_if_ne (tgt := 168) d_M_readDirectory_133 (by decide) (fun c => mm_sub [0, 1, 4] rfl (h10 c)) (fun c => mm_sub [0, 1, 2, 3, 4, 5] rfl (h11 c))
theorem t_M_readDirectory_136 {l : Launch} {G : mm_G} {b : Nat} {m : mm_Mem} {Q : mm_O → mm_Mem → Prop} {r0 : Nat} {y1 : Int64} {y3 : Int64} {y5 : Int64} {x7 : Int32} {y8 : Int64} {b_1 : Nat} {b_2 : Nat} {m_4 : mm_Mem} {x_5 : Int32} {fs_6 : List Value} (hb3 : b_1 + b_2 ≤ b) (g7 : m r0 = .inr (8, fs_6)) (z8 : r0 ≠ 0) (M9 : mm_W l G k_M_method 0 (lv_args 0 [.ref r0, .int x7]) [] b_1 m (mm_is (.inl (some (.int x_5))) m_4)) (h10 : (x_5 = 0) → mm_W l G k_M_readDirectory 156 [(0, .ref r0), (1, .long y1), (3, .long y3), (5, .long y5), (7, .int x7), (8, .long y8)] [] b_2 m_4 Q) (h11 : (¬ x_5 = 0) → mm_W l G k_M_readDirectory 145 [(0, .ref r0), (1, .long y1), (3, .long y3), (5, .long y5), (7, .int x7), (8, .long y8)] [] b_2 m_4 Q) : mm_W l G k_M_readDirectory 136 [(0, .ref r0), (1, .long y1), (3, .long y3), (5, .long y5), (7, .int x7), (8, .long y8)] [] b m Q := by
  refine mm_aload_n 0 (i := 0) d_M_readDirectory_136 rfl rfl ?_
  refine mm_iload 4 (i := 7) d_M_readDirectory_137 rfl ?_
  refine mm_callV (as := [.int x7]) (st := []) (b2 := b_2) ca_M_method w_1006 w_1008 v_M_method cc_M.1 rfl d_M_readDirectory_139 rfl (Nat.le_of_ble_eq_true rfl) (Nat.le_of_ble_eq_true rfl) (Nat.le_of_ble_eq_true rfl) hb3 g7 z8 M9 (fun E _ ⟨c, _⟩ => nomatch c) (fun v _ ⟨c, e⟩ => ?_)
  cases c
  rw [e]
  show mm_W l G k_M_readDirectory 142 [(0, .ref r0), (1, .long y1), (3, .long y3), (5, .long y5), (7, .int x7), (8, .long y8)] [.int x_5] b_2 m_4 Q
  exact mm_if_eq (tgt := 156) d_M_readDirectory_142 (by decide) (fun c => mm_sub [0, 1, 2, 3, 4, 5] rfl (h10 c)) (fun c => mm_sub [0, 1, 2, 3, 4, 5] rfl (h11 c))
theorem t_M_readDirectory_145 {l : Launch} {G : mm_G} {b : Nat} {m : mm_Mem} {Q : mm_O → mm_Mem → Prop} {r0 : Nat} {y1 : Int64} {y3 : Int64} {y5 : Int64} {x7 : Int32} {y8 : Int64} {b_1 : Nat} {b_2 : Nat} {m_4 : mm_Mem} {x_5 : Int32} {fs_6 : List Value} (hb3 : b_1 + b_2 ≤ b) (g7 : m r0 = .inr (8, fs_6)) (z8 : r0 ≠ 0) (M9 : mm_W l G k_M_method 0 (lv_args 0 [.ref r0, .int x7]) [] b_1 m (mm_is (.inl (some (.int x_5))) m_4)) (h10 : (¬ x_5 = 8) → mm_W l G k_M_readDirectory 168 [(0, .ref r0), (1, .long y1), (7, .int x7)] [] b_2 m_4 Q) (h11 : (x_5 = 8) → mm_W l G k_M_readDirectory 156 [(0, .ref r0), (1, .long y1), (3, .long y3), (5, .long y5), (7, .int x7), (8, .long y8)] [] b_2 m_4 Q) : mm_W l G k_M_readDirectory 145 [(0, .ref r0), (1, .long y1), (3, .long y3), (5, .long y5), (7, .int x7), (8, .long y8)] [] b m Q := by
  refine mm_aload_n 0 (i := 0) d_M_readDirectory_145 rfl rfl ?_
  refine mm_iload 4 (i := 7) d_M_readDirectory_146 rfl ?_
  refine mm_callV (as := [.int x7]) (st := []) (b2 := b_2) ca_M_method w_1006 w_1008 v_M_method cc_M.1 rfl d_M_readDirectory_148 rfl (Nat.le_of_ble_eq_true rfl) (Nat.le_of_ble_eq_true rfl) (Nat.le_of_ble_eq_true rfl) hb3 g7 z8 M9 (fun E _ ⟨c, _⟩ => nomatch c) (fun v _ ⟨c, e⟩ => ?_)
  cases c
  rw [e]
  show mm_W l G k_M_readDirectory 151 [(0, .ref r0), (1, .long y1), (3, .long y3), (5, .long y5), (7, .int x7), (8, .long y8)] [.int x_5] b_2 m_4 Q
  refine mm_bipush d_M_readDirectory_151 (v := 8) (by decide) ?_
  exact mm_icmp_ne (tgt := 168) d_M_readDirectory_153 (by decide) (fun c => mm_sub [0, 1, 4] rfl (h10 c)) (fun c => mm_sub [0, 1, 2, 3, 4, 5] rfl (h11 c))
theorem t_M_readDirectory_156 {l : Launch} {G : mm_G} {b : Nat} {m : mm_Mem} {Q : mm_O → mm_Mem → Prop} {r0 : Nat} {y1 : Int64} {y3 : Int64} {y5 : Int64} {x7 : Int32} {y8 : Int64} {b_1 : Nat} {b_2 : Nat} {m_4 : mm_Mem} {x_5 : Int32} {fs_6 : List Value} (hb3 : b_1 + b_2 ≤ b) (g7 : m r0 = .inr (8, fs_6)) (z8 : r0 ≠ 0) (M9 : mm_W l G k_M_two 0 (lv_args 0 [.ref r0, .long (y1 + 34)]) [] b_1 m (mm_is (.inl (some (.int x_5))) m_4)) (h10 : (x_5 = 0) → mm_W l G k_M_readDirectory 177 [(0, .ref r0), (1, .long y1), (3, .long y3), (5, .long y5), (7, .int x7), (8, .long y8)] [] b_2 m_4 Q) (h11 : (¬ x_5 = 0) → mm_W l G k_M_readDirectory 168 [(0, .ref r0), (1, .long y1), (7, .int x7)] [] b_2 m_4 Q) : mm_W l G k_M_readDirectory 156 [(0, .ref r0), (1, .long y1), (3, .long y3), (5, .long y5), (7, .int x7), (8, .long y8)] [] b m Q := by
  refine mm_aload_n 0 (i := 0) d_M_readDirectory_156 rfl rfl ?_
  refine mm_lload_n 1 (i := 1) d_M_readDirectory_157 rfl rfl ?_
  refine mm_ldc2 (v := 34) w_1010 d_M_readDirectory_158 ?_
  refine mm_ladd d_M_readDirectory_161 ?_
  refine mm_callV (as := [.long (y1 + 34)]) (st := []) (b2 := b_2) ca_M_two w_979 w_981 v_M_two cc_M.1 rfl d_M_readDirectory_162 rfl (Nat.le_of_ble_eq_true rfl) (Nat.le_of_ble_eq_true rfl) (Nat.le_of_ble_eq_true rfl) hb3 g7 z8 M9 (fun E _ ⟨c, _⟩ => nomatch c) (fun v _ ⟨c, e⟩ => ?_)
  cases c
  rw [e]
  show mm_W l G k_M_readDirectory 165 [(0, .ref r0), (1, .long y1), (3, .long y3), (5, .long y5), (7, .int x7), (8, .long y8)] [.int x_5] b_2 m_4 Q
  exact mm_if_eq (tgt := 177) d_M_readDirectory_165 (by decide) (fun c => mm_sub [0, 1, 2, 3, 4, 5] rfl (h10 c)) (fun c => mm_sub [0, 1, 4] rfl (h11 c))
theorem t_M_readDirectory_168 {l : Launch} {G : mm_G} {b : Nat} {m : mm_Mem} {Q : mm_O → mm_Mem → Prop} {r0 : Nat} {y1 : Int64} {x7 : Int32} {b_1 : Nat} {b_2 : Nat} {m_4 : mm_Mem} {x_5 : Int32} {fs_6 : List Value} (hb3 : b_1 + b_2 ≤ b) (g7 : m r0 = .inr (8, fs_6)) (z8 : r0 ≠ 0) (M9 : mm_W l G k_M_wrong 0 (lv_args 0 [.ref r0, .int 4, .long y1, .int x7]) [] b_1 m (mm_is (.inl (some (.int x_5))) m_4)) (h10 : Q (.inl (some (.int x_5))) m_4) (hn11 : narrow .boolean (.int x_5) = .int x_5) : mm_W l G k_M_readDirectory 168 [(0, .ref r0), (1, .long y1), (7, .int x7)] [] b m Q := by
  refine mm_aload_n 0 (i := 0) d_M_readDirectory_168 rfl rfl ?_
  refine mm_iconst d_M_readDirectory_169 (v := 4) (by decide) ?_
  refine mm_lload_n 1 (i := 1) d_M_readDirectory_170 rfl rfl ?_
  refine mm_iload 2 (i := 7) d_M_readDirectory_171 rfl ?_
  refine mm_callV (as := [.int 4, .long y1, .int x7]) (st := []) (b2 := b_2) ca_M_wrong w_986 w_988 v_M_wrong cc_M.1 rfl d_M_readDirectory_173 rfl (Nat.le_of_ble_eq_true rfl) (Nat.le_of_ble_eq_true rfl) (Nat.le_of_ble_eq_true rfl) hb3 g7 z8 M9 (fun E _ ⟨c, _⟩ => nomatch c) (fun v _ ⟨c, e⟩ => ?_)
  cases c
  rw [e]
  show mm_W l G k_M_readDirectory 176 [(0, .ref r0), (1, .long y1), (7, .int x7)] [.int x_5] b_2 m_4 Q
  exact mm_zret d_M_readDirectory_176 rfl hn11 h10
theorem t_M_readDirectory_177 {l : Launch} {G : mm_G} {b : Nat} {m : mm_Mem} {Q : mm_O → mm_Mem → Prop} {r0 : Nat} {y1 : Int64} {y3 : Int64} {y5 : Int64} {x7 : Int32} {y8 : Int64} (h1 : mm_W l G k_M_readDirectory 183 [(0, .ref r0), (1, .long y1), (3, .long y3), (5, .long y5), (7, .int x7), (8, .long y8), (10, .int 0), (11, .int 0)] [] b m Q) : mm_W l G k_M_readDirectory 177 [(0, .ref r0), (1, .long y1), (3, .long y3), (5, .long y5), (7, .int x7), (8, .long y8)] [] b m Q := by
  refine mm_iconst d_M_readDirectory_177 (v := 0) (by decide) ?_
  refine mm_istore (i := 10) d_M_readDirectory_178 (Nat.le_of_ble_eq_true rfl) (lv2 := [(10, .int 0), (0, .ref r0), (1, .long y1), (3, .long y3), (5, .long y5), (7, .int x7), (8, .long y8)]) rfl ?_
  refine mm_iconst d_M_readDirectory_180 (v := 0) (by decide) ?_
  refine mm_istore (i := 11) d_M_readDirectory_181 (Nat.le_of_ble_eq_true rfl) (lv2 := [(11, .int 0), (10, .int 0), (0, .ref r0), (1, .long y1), (3, .long y3), (5, .long y5), (7, .int x7), (8, .long y8)]) rfl ?_
  exact mm_sub [2, 3, 4, 5, 6, 7, 1, 0] rfl h1
theorem t_M_readDirectory_183 {l : Launch} {G : mm_G} {b : Nat} {m : mm_Mem} {Q : mm_O → mm_Mem → Prop} {r0 : Nat} {y1 : Int64} {y3 : Int64} {y5 : Int64} {x7 : Int32} {y8 : Int64} {x10 : Int32} {x11 : Int32} (h1 : (x7 ≤ x11) → mm_W l G k_M_readDirectory 219 [(0, .ref r0), (1, .long y1), (3, .long y3), (5, .long y5), (7, .int x7), (8, .long y8), (10, .int x10)] [] b m Q) (h2 : (¬ x7 ≤ x11) → mm_W l G k_M_readDirectory 190 [(0, .ref r0), (1, .long y1), (3, .long y3), (5, .long y5), (7, .int x7), (8, .long y8), (10, .int x10), (11, .int x11)] [] b m Q) : mm_W l G k_M_readDirectory 183 [(0, .ref r0), (1, .long y1), (3, .long y3), (5, .long y5), (7, .int x7), (8, .long y8), (10, .int x10), (11, .int x11)] [] b m Q := by
  refine mm_iload 7 (i := 11) d_M_readDirectory_183 rfl ?_
  refine mm_iload 4 (i := 7) d_M_readDirectory_185 rfl ?_
  exact mm_icmp_ge (tgt := 219) d_M_readDirectory_187 (by decide) (fun c => mm_sub [0, 1, 2, 3, 4, 5, 6] rfl (h1 c)) (fun c => mm_sub [0, 1, 2, 3, 4, 5, 6, 7] rfl (h2 c))
theorem t_M_readDirectory_190 {l : Launch} {G : mm_G} {b : Nat} {m : mm_Mem} {Q : mm_O → mm_Mem → Prop} {r0 : Nat} {y1 : Int64} {y3 : Int64} {y5 : Int64} {x7 : Int32} {y8 : Int64} {x10 : Int32} {x11 : Int32} (h1 : (¬ x10 = 0) → mm_W l G k_M_readDirectory 206 [(0, .ref r0), (1, .long y1), (3, .long y3), (5, .long y5), (7, .int x7), (8, .long y8), (11, .int x11)] [] b m Q) (h2 : (x10 = 0) → mm_W l G k_M_readDirectory 195 [(0, .ref r0), (1, .long y1), (3, .long y3), (5, .long y5), (7, .int x7), (8, .long y8), (11, .int x11)] [] b m Q) : mm_W l G k_M_readDirectory 190 [(0, .ref r0), (1, .long y1), (3, .long y3), (5, .long y5), (7, .int x7), (8, .long y8), (10, .int x10), (11, .int x11)] [] b m Q := by
  refine mm_iload 6 (i := 10) d_M_readDirectory_190 rfl ?_
  exact mm_if_ne (tgt := 206) d_M_readDirectory_192 (by decide) (fun c => mm_sub [0, 1, 2, 3, 4, 5, 7] rfl (h1 c)) (fun c => mm_sub [0, 1, 2, 3, 4, 5, 7] rfl (h2 c))
theorem t_M_readDirectory_195 {l : Launch} {G : mm_G} {b : Nat} {m : mm_Mem} {Q : mm_O → mm_Mem → Prop} {r0 : Nat} {y1 : Int64} {y3 : Int64} {y5 : Int64} {x7 : Int32} {y8 : Int64} {x11 : Int32} {b_1 : Nat} {b_2 : Nat} {m_4 : mm_Mem} {x_5 : Int32} {fs_6 : List Value} (hb3 : b_1 + b_2 ≤ b) (g7 : m r0 = .inr (8, fs_6)) (z8 : r0 ≠ 0) (M9 : mm_W l G k_M_sameName 0 (lv_args 0 [.ref r0, .int x7, .int x11]) [] b_1 m (mm_is (.inl (some (.int x_5))) m_4)) (h10 : (x_5 = 0) → mm_W l G k_M_readDirectory 210 [(0, .ref r0), (1, .long y1), (3, .long y3), (5, .long y5), (7, .int x7), (8, .long y8), (11, .int x11)] [] b_2 m_4 Q) (h11 : (¬ x_5 = 0) → mm_W l G k_M_readDirectory 206 [(0, .ref r0), (1, .long y1), (3, .long y3), (5, .long y5), (7, .int x7), (8, .long y8), (11, .int x11)] [] b_2 m_4 Q) : mm_W l G k_M_readDirectory 195 [(0, .ref r0), (1, .long y1), (3, .long y3), (5, .long y5), (7, .int x7), (8, .long y8), (11, .int x11)] [] b m Q := by
  refine mm_aload_n 0 (i := 0) d_M_readDirectory_195 rfl rfl ?_
  refine mm_iload 4 (i := 7) d_M_readDirectory_196 rfl ?_
  refine mm_iload 6 (i := 11) d_M_readDirectory_198 rfl ?_
  refine mm_callV (as := [.int x7, .int x11]) (st := []) (b2 := b_2) ca_M_sameName w_1011 w_1013 v_M_sameName cc_M.1 rfl d_M_readDirectory_200 rfl (Nat.le_of_ble_eq_true rfl) (Nat.le_of_ble_eq_true rfl) (Nat.le_of_ble_eq_true rfl) hb3 g7 z8 M9 (fun E _ ⟨c, _⟩ => nomatch c) (fun v _ ⟨c, e⟩ => ?_)
  cases c
  rw [e]
  show mm_W l G k_M_readDirectory 203 [(0, .ref r0), (1, .long y1), (3, .long y3), (5, .long y5), (7, .int x7), (8, .long y8), (11, .int x11)] [.int x_5] b_2 m_4 Q
  exact mm_if_eq (tgt := 210) d_M_readDirectory_203 (by decide) (fun c => mm_sub [0, 1, 2, 3, 4, 5, 6] rfl (h10 c)) (fun c => mm_sub [0, 1, 2, 3, 4, 5, 6] rfl (h11 c))
theorem t_M_readDirectory_206 {l : Launch} {G : mm_G} {b : Nat} {m : mm_Mem} {Q : mm_O → mm_Mem → Prop} {r0 : Nat} {y1 : Int64} {y3 : Int64} {y5 : Int64} {x7 : Int32} {y8 : Int64} {x11 : Int32} (h1 : mm_W l G k_M_readDirectory 211 [(0, .ref r0), (1, .long y1), (3, .long y3), (5, .long y5), (7, .int x7), (8, .long y8), (11, .int x11)] [.int 1] b m Q) : mm_W l G k_M_readDirectory 206 [(0, .ref r0), (1, .long y1), (3, .long y3), (5, .long y5), (7, .int x7), (8, .long y8), (11, .int x11)] [] b m Q := by
  refine mm_iconst d_M_readDirectory_206 (v := 1) (by decide) ?_
  refine mm_goto (tgt := 211) d_M_readDirectory_207 (by decide) ?_
  exact mm_sub [0, 1, 2, 3, 4, 5, 6] rfl h1
theorem t_M_readDirectory_210 {l : Launch} {G : mm_G} {b : Nat} {m : mm_Mem} {Q : mm_O → mm_Mem → Prop} {r0 : Nat} {y1 : Int64} {y3 : Int64} {y5 : Int64} {x7 : Int32} {y8 : Int64} {x11 : Int32} (h1 : mm_W l G k_M_readDirectory 211 [(0, .ref r0), (1, .long y1), (3, .long y3), (5, .long y5), (7, .int x7), (8, .long y8), (11, .int x11)] [.int 0] b m Q) : mm_W l G k_M_readDirectory 210 [(0, .ref r0), (1, .long y1), (3, .long y3), (5, .long y5), (7, .int x7), (8, .long y8), (11, .int x11)] [] b m Q := by
  refine mm_iconst d_M_readDirectory_210 (v := 0) (by decide) ?_
  exact mm_sub [0, 1, 2, 3, 4, 5, 6] rfl h1
theorem t_M_readDirectory_211 {l : Launch} {G : mm_G} {b : Nat} {m : mm_Mem} {Q : mm_O → mm_Mem → Prop} {r0 : Nat} {y1 : Int64} {y3 : Int64} {y5 : Int64} {x7 : Int32} {y8 : Int64} {x11 : Int32} {xs0 : Int32} (h1 : mm_W l G k_M_readDirectory 183 [(0, .ref r0), (1, .long y1), (3, .long y3), (5, .long y5), (7, .int x7), (8, .long y8), (10, .int xs0), (11, .int (x11 + 1))] [] b m Q) : mm_W l G k_M_readDirectory 211 [(0, .ref r0), (1, .long y1), (3, .long y3), (5, .long y5), (7, .int x7), (8, .long y8), (11, .int x11)] [.int xs0] b m Q := by
  refine mm_istore (i := 10) d_M_readDirectory_211 (Nat.le_of_ble_eq_true rfl) (lv2 := [(10, .int xs0), (0, .ref r0), (1, .long y1), (3, .long y3), (5, .long y5), (7, .int x7), (8, .long y8), (11, .int x11)]) rfl ?_
  refine mm_iinc 7 (i := 11) d_M_readDirectory_213 rfl (v := x11 + 1) rfl (Nat.le_of_ble_eq_true rfl) (lv2 := [(11, .int (x11 + 1)), (10, .int xs0), (0, .ref r0), (1, .long y1), (3, .long y3), (5, .long y5), (7, .int x7), (8, .long y8)]) rfl ?_
  refine mm_goto (tgt := 183) d_M_readDirectory_216 (by decide) ?_
  exact mm_sub [2, 3, 4, 5, 6, 7, 1, 0] rfl h1
theorem t_M_readDirectory_219 {l : Launch} {G : mm_G} {b : Nat} {m : mm_Mem} {Q : mm_O → mm_Mem → Prop} {r0 : Nat} {y1 : Int64} {y3 : Int64} {y5 : Int64} {x7 : Int32} {y8 : Int64} {x10 : Int32} (h1 : (¬ x10 = 0) → mm_W l G k_M_readDirectory 247 [(0, .ref r0), (1, .long y1), (7, .int x7)] [] b m Q) (h2 : (x10 = 0) → mm_W l G k_M_readDirectory 224 [(0, .ref r0), (1, .long y1), (3, .long y3), (5, .long y5), (7, .int x7), (8, .long y8)] [] b m Q) : mm_W l G k_M_readDirectory 219 [(0, .ref r0), (1, .long y1), (3, .long y3), (5, .long y5), (7, .int x7), (8, .long y8), (10, .int x10)] [] b m Q := by
  refine mm_iload 6 (i := 10) d_M_readDirectory_219 rfl ?_
  exact mm_if_ne (tgt := 247) d_M_readDirectory_221 (by decide) (fun c => mm_sub [0, 1, 4] rfl (h1 c)) (fun c => mm_sub [0, 1, 2, 3, 4, 5] rfl (h2 c))
theorem t_M_readDirectory_224 {l : Launch} {G : mm_G} {b : Nat} {m : mm_Mem} {Q : mm_O → mm_Mem → Prop} {r0 : Nat} {y1 : Int64} {y3 : Int64} {y5 : Int64} {x7 : Int32} {y8 : Int64} {fs_1 : List Value} {q_4 : Nat} {n_6 : Nat} {f_7 : Nat → Int32} {b_11 : Nat} {b_12 : Nat} {m_14 : mm_Mem} {x_15 : Int32} {b_17 : Nat} {b_18 : Nat} {m_20 : mm_Mem} {x_21 : Int32} {fs_22 : List Value} (g2 : m r0 = .inr (8, fs_1)) (z3 : r0 ≠ 0) (v5 : fs_1[23]? = some (.ref q_4)) (a8 : m q_4 = .inl (G.2 1, n_6, .inl f_7)) (z9 : q_4 ≠ 0) (i10 : vp_in x7 n_6) (hb13 : b_11 + b_12 ≤ b) (M16 : mm_W l G k_M_nameSize 0 (lv_args 0 [.ref r0, .int x7]) [] b_11 m (mm_is (.inl (some (.int x_15))) m_14)) (hb19 : b_17 + b_18 ≤ b_12) (g23 : m_14 r0 = .inr (8, fs_22)) (M24 : mm_W l G k_M_isName 0 (lv_args 0 [.ref r0, .int ((f_7 x7.toNatClampNeg) + 46), .int x_15]) [] b_17 m_14 (mm_is (.inl (some (.int x_21))) m_20)) (h25 : (¬ x_21 = 0) → mm_W l G k_M_readDirectory 256 [(0, .ref r0), (1, .long y1), (3, .long y3), (5, .long y5), (7, .int x7), (8, .long y8)] [] b_18 m_20 Q) (h26 : (x_21 = 0) → mm_W l G k_M_readDirectory 247 [(0, .ref r0), (1, .long y1), (7, .int x7)] [] b_18 m_20 Q) : mm_W l G k_M_readDirectory 224 [(0, .ref r0), (1, .long y1), (3, .long y3), (5, .long y5), (7, .int x7), (8, .long y8)] [] b m Q := by
  refine mm_aload_n 0 (i := 0) d_M_readDirectory_224 rfl rfl ?_
  refine mm_aload_n 0 (i := 0) d_M_readDirectory_225 rfl rfl ?_
  refine mm_get cc_M 23 (by decide) w_766 d_M_readDirectory_226 g2 z3 v5 ?_
  refine mm_iload 4 (i := 7) d_M_readDirectory_229 rfl ?_
  refine mm_iald d_M_readDirectory_231 a8 z9 i10 ?_
  refine mm_bipush d_M_readDirectory_232 (v := 46) (by decide) ?_
  refine mm_iadd d_M_readDirectory_234 ?_
  refine mm_aload_n 0 (i := 0) d_M_readDirectory_235 rfl rfl ?_
  refine mm_iload 4 (i := 7) d_M_readDirectory_236 rfl ?_
  refine mm_callV (as := [.int x7]) (st := [.int ((f_7 x7.toNatClampNeg) + 46), .ref r0]) (b2 := b_12) ca_M_nameSize w_996 w_998 v_M_nameSize cc_M.1 rfl d_M_readDirectory_238 rfl (Nat.le_of_ble_eq_true rfl) (Nat.le_of_ble_eq_true rfl) (Nat.le_of_ble_eq_true rfl) hb13 g2 z3 M16 (fun E _ ⟨c, _⟩ => nomatch c) (fun v _ ⟨c, e⟩ => ?_)
  cases c
  rw [e]
  show mm_W l G k_M_readDirectory 241 [(0, .ref r0), (1, .long y1), (3, .long y3), (5, .long y5), (7, .int x7), (8, .long y8)] [.int x_15, .int ((f_7 x7.toNatClampNeg) + 46), .ref r0] b_12 m_14 Q
  refine mm_callV (as := [.int ((f_7 x7.toNatClampNeg) + 46), .int x_15]) (st := []) (b2 := b_18) ca_M_isName w_873 w_875 v_M_isName cc_M.1 rfl d_M_readDirectory_241 rfl (Nat.le_of_ble_eq_true rfl) (Nat.le_of_ble_eq_true rfl) (Nat.le_of_ble_eq_true rfl) hb19 g23 z3 M24 (fun E _ ⟨c, _⟩ => nomatch c) (fun v _ ⟨c, e⟩ => ?_)
  cases c
  rw [e]
  show mm_W l G k_M_readDirectory 244 [(0, .ref r0), (1, .long y1), (3, .long y3), (5, .long y5), (7, .int x7), (8, .long y8)] [.int x_21] b_18 m_20 Q
  exact mm_if_ne (tgt := 256) d_M_readDirectory_244 (by decide) (fun c => mm_sub [0, 1, 2, 3, 4, 5] rfl (h25 c)) (fun c => mm_sub [0, 1, 4] rfl (h26 c))
theorem t_M_readDirectory_247 {l : Launch} {G : mm_G} {b : Nat} {m : mm_Mem} {Q : mm_O → mm_Mem → Prop} {r0 : Nat} {y1 : Int64} {x7 : Int32} {b_1 : Nat} {b_2 : Nat} {m_4 : mm_Mem} {x_5 : Int32} {fs_6 : List Value} (hb3 : b_1 + b_2 ≤ b) (g7 : m r0 = .inr (8, fs_6)) (z8 : r0 ≠ 0) (M9 : mm_W l G k_M_wrong 0 (lv_args 0 [.ref r0, .int 5, .long y1, .int x7]) [] b_1 m (mm_is (.inl (some (.int x_5))) m_4)) (h10 : Q (.inl (some (.int x_5))) m_4) (hn11 : narrow .boolean (.int x_5) = .int x_5) : mm_W l G k_M_readDirectory 247 [(0, .ref r0), (1, .long y1), (7, .int x7)] [] b m Q := by
  refine mm_aload_n 0 (i := 0) d_M_readDirectory_247 rfl rfl ?_
  refine mm_iconst d_M_readDirectory_248 (v := 5) (by decide) ?_
  refine mm_lload_n 1 (i := 1) d_M_readDirectory_249 rfl rfl ?_
  refine mm_iload 2 (i := 7) d_M_readDirectory_250 rfl ?_
  refine mm_callV (as := [.int 5, .long y1, .int x7]) (st := []) (b2 := b_2) ca_M_wrong w_986 w_988 v_M_wrong cc_M.1 rfl d_M_readDirectory_252 rfl (Nat.le_of_ble_eq_true rfl) (Nat.le_of_ble_eq_true rfl) (Nat.le_of_ble_eq_true rfl) hb3 g7 z8 M9 (fun E _ ⟨c, _⟩ => nomatch c) (fun v _ ⟨c, e⟩ => ?_)
  cases c
  rw [e]
  show mm_W l G k_M_readDirectory 255 [(0, .ref r0), (1, .long y1), (7, .int x7)] [.int x_5] b_2 m_4 Q
  exact mm_zret d_M_readDirectory_255 rfl hn11 h10
theorem t_M_readDirectory_256 {l : Launch} {G : mm_G} {b : Nat} {m : mm_Mem} {Q : mm_O → mm_Mem → Prop} {r0 : Nat} {y1 : Int64} {y3 : Int64} {y5 : Int64} {x7 : Int32} {y8 : Int64} {b_1 : Nat} {b_2 : Nat} {m_4 : mm_Mem} {x_5 : Int32} {fs_6 : List Value} (hb3 : b_1 + b_2 ≤ b) (g7 : m r0 = .inr (8, fs_6)) (z8 : r0 ≠ 0) (M9 : mm_W l G k_M_method 0 (lv_args 0 [.ref r0, .int x7]) [] b_1 m (mm_is (.inl (some (.int x_5))) m_4)) (h10 : (¬ x_5 = 0) → mm_W l G k_M_readDirectory 291 [(0, .ref r0), (1, .long y1), (3, .long y3), (5, .long y5), (7, .int x7), (8, .long y8)] [] b_2 m_4 Q) (h11 : (x_5 = 0) → mm_W l G k_M_readDirectory 265 [(0, .ref r0), (1, .long y1), (3, .long y3), (5, .long y5), (7, .int x7), (8, .long y8)] [] b_2 m_4 Q) : mm_W l G k_M_readDirectory 256 [(0, .ref r0), (1, .long y1), (3, .long y3), (5, .long y5), (7, .int x7), (8, .long y8)] [] b m Q := by
  refine mm_aload_n 0 (i := 0) d_M_readDirectory_256 rfl rfl ?_
  refine mm_iload 4 (i := 7) d_M_readDirectory_257 rfl ?_
  refine mm_callV (as := [.int x7]) (st := []) (b2 := b_2) ca_M_method w_1006 w_1008 v_M_method cc_M.1 rfl d_M_readDirectory_259 rfl (Nat.le_of_ble_eq_true rfl) (Nat.le_of_ble_eq_true rfl) (Nat.le_of_ble_eq_true rfl) hb3 g7 z8 M9 (fun E _ ⟨c, _⟩ => nomatch c) (fun v _ ⟨c, e⟩ => ?_)
  cases c
  rw [e]
  show mm_W l G k_M_readDirectory 262 [(0, .ref r0), (1, .long y1), (3, .long y3), (5, .long y5), (7, .int x7), (8, .long y8)] [.int x_5] b_2 m_4 Q
  exact mm_if_ne (tgt := 291) d_M_readDirectory_262 (by decide) (fun c => mm_sub [0, 1, 2, 3, 4, 5] rfl (h10 c)) (fun c => mm_sub [0, 1, 2, 3, 4, 5] rfl (h11 c))
theorem t_M_readDirectory_265 {l : Launch} {G : mm_G} {b : Nat} {m : mm_Mem} {Q : mm_O → mm_Mem → Prop} {r0 : Nat} {y1 : Int64} {y3 : Int64} {y5 : Int64} {x7 : Int32} {y8 : Int64} {b_1 : Nat} {b_2 : Nat} {m_4 : mm_Mem} {y_5 : Int64} {fs_6 : List Value} {b_10 : Nat} {b_11 : Nat} {m_13 : mm_Mem} {y_14 : Int64} {fs_15 : List Value} (hb3 : b_1 + b_2 ≤ b) (g7 : m r0 = .inr (8, fs_6)) (z8 : r0 ≠ 0) (M9 : mm_W l G k_M_many 0 (lv_args 0 [.ref r0, .int x7]) [] b_1 m (mm_is (.inl (some (.long y_5))) m_4)) (hb12 : b_10 + b_11 ≤ b_2) (g16 : m_4 r0 = .inr (8, fs_15)) (M17 : mm_W l G k_M_size 0 (lv_args 0 [.ref r0, .int x7]) [] b_10 m_4 (mm_is (.inl (some (.long y_14))) m_13)) (h18 : ((lg_cmp y_5 y_14) = 0) → mm_W l G k_M_readDirectory 291 [(0, .ref r0), (1, .long y1), (3, .long y3), (5, .long y5), (7, .int x7), (8, .long y8)] [] b_11 m_13 Q) (h19 : (¬ (lg_cmp y_5 y_14) = 0) → mm_W l G k_M_readDirectory 281 [(0, .ref r0), (1, .long y1), (7, .int x7)] [] b_11 m_13 Q) : mm_W l G k_M_readDirectory 265 [(0, .ref r0), (1, .long y1), (3, .long y3), (5, .long y5), (7, .int x7), (8, .long y8)] [] b m Q := by
  refine mm_aload_n 0 (i := 0) d_M_readDirectory_265 rfl rfl ?_
  refine mm_iload 4 (i := 7) d_M_readDirectory_266 rfl ?_
  refine mm_callV (as := [.int x7]) (st := []) (b2 := b_2) ca_M_many w_1015 w_1017 v_M_many cc_M.1 rfl d_M_readDirectory_268 rfl (Nat.le_of_ble_eq_true rfl) (Nat.le_of_ble_eq_true rfl) (Nat.le_of_ble_eq_true rfl) hb3 g7 z8 M9 (fun E _ ⟨c, _⟩ => nomatch c) (fun v _ ⟨c, e⟩ => ?_)
  cases c
  rw [e]
  show mm_W l G k_M_readDirectory 271 [(0, .ref r0), (1, .long y1), (3, .long y3), (5, .long y5), (7, .int x7), (8, .long y8)] [.long y_5] b_2 m_4 Q
  refine mm_aload_n 0 (i := 0) d_M_readDirectory_271 rfl rfl ?_
  refine mm_iload 4 (i := 7) d_M_readDirectory_272 rfl ?_
  refine mm_callV (as := [.int x7]) (st := [.long y_5]) (b2 := b_11) ca_M_size w_1019 w_1021 v_M_size cc_M.1 rfl d_M_readDirectory_274 rfl (Nat.le_of_ble_eq_true rfl) (Nat.le_of_ble_eq_true rfl) (Nat.le_of_ble_eq_true rfl) hb12 g16 z8 M17 (fun E _ ⟨c, _⟩ => nomatch c) (fun v _ ⟨c, e⟩ => ?_)
  cases c
  rw [e]
  show mm_W l G k_M_readDirectory 277 [(0, .ref r0), (1, .long y1), (3, .long y3), (5, .long y5), (7, .int x7), (8, .long y8)] [.long y_14, .long y_5] b_11 m_13 Q
  refine mm_lcmp d_M_readDirectory_277 ?_
  exact mm_if_eq (tgt := 291) d_M_readDirectory_278 (by decide) (fun c => mm_sub [0, 1, 2, 3, 4, 5] rfl (h18 c)) (fun c => mm_sub [0, 1, 4] rfl (h19 c))
theorem t_M_readDirectory_281 {l : Launch} {G : mm_G} {b : Nat} {m : mm_Mem} {Q : mm_O → mm_Mem → Prop} {r0 : Nat} {y1 : Int64} {x7 : Int32} {b_1 : Nat} {b_2 : Nat} {m_4 : mm_Mem} {x_5 : Int32} {fs_6 : List Value} (hb3 : b_1 + b_2 ≤ b) (g7 : m r0 = .inr (8, fs_6)) (z8 : r0 ≠ 0) (M9 : mm_W l G k_M_wrong 0 (lv_args 0 [.ref r0, .int 6, .long y1, .int x7]) [] b_1 m (mm_is (.inl (some (.int x_5))) m_4)) (h10 : Q (.inl (some (.int x_5))) m_4) (hn11 : narrow .boolean (.int x_5) = .int x_5) : mm_W l G k_M_readDirectory 281 [(0, .ref r0), (1, .long y1), (7, .int x7)] [] b m Q := by
  refine mm_aload_n 0 (i := 0) d_M_readDirectory_281 rfl rfl ?_
  refine mm_bipush d_M_readDirectory_282 (v := 6) (by decide) ?_
  refine mm_lload_n 1 (i := 1) d_M_readDirectory_284 rfl rfl ?_
  refine mm_iload 2 (i := 7) d_M_readDirectory_285 rfl ?_
  refine mm_callV (as := [.int 6, .long y1, .int x7]) (st := []) (b2 := b_2) ca_M_wrong w_986 w_988 v_M_wrong cc_M.1 rfl d_M_readDirectory_287 rfl (Nat.le_of_ble_eq_true rfl) (Nat.le_of_ble_eq_true rfl) (Nat.le_of_ble_eq_true rfl) hb3 g7 z8 M9 (fun E _ ⟨c, _⟩ => nomatch c) (fun v _ ⟨c, e⟩ => ?_)
  cases c
  rw [e]
  show mm_W l G k_M_readDirectory 290 [(0, .ref r0), (1, .long y1), (7, .int x7)] [.int x_5] b_2 m_4 Q
  exact mm_zret d_M_readDirectory_290 rfl hn11 h10
theorem t_M_readDirectory_291 {l : Launch} {G : mm_G} {b : Nat} {m : mm_Mem} {Q : mm_O → mm_Mem → Prop} {r0 : Nat} {y1 : Int64} {y3 : Int64} {y5 : Int64} {x7 : Int32} {y8 : Int64} {b_1 : Nat} {b_2 : Nat} {m_4 : mm_Mem} {y_5 : Int64} {fs_6 : List Value} {b_10 : Nat} {b_11 : Nat} {m_13 : mm_Mem} {y_14 : Int64} {fs_15 : List Value} {fs_18 : List Value} {u_20 : Int32} (hb3 : b_1 + b_2 ≤ b) (g7 : m r0 = .inr (8, fs_6)) (z8 : r0 ≠ 0) (M9 : mm_W l G k_M_many 0 (lv_args 0 [.ref r0, .int x7]) [] b_1 m (mm_is (.inl (some (.long y_5))) m_4)) (hb12 : b_10 + b_11 ≤ b_2) (g16 : m_4 r0 = .inr (8, fs_15)) (M17 : mm_W l G k_M_size 0 (lv_args 0 [.ref r0, .int x7]) [] b_10 m_4 (mm_is (.inl (some (.long y_14))) m_13)) (g19 : m_13 r0 = .inr (8, fs_18)) (v21 : fs_18[19]? = some (.int u_20)) (h22 : (0 < (lg_cmp (y3 + y_5) u_20.toInt64)) → mm_W l G k_M_readDirectory 332 [(0, .ref r0), (1, .long y1), (7, .int x7)] [] b_11 m_13 Q) (h23 : (¬ 0 < (lg_cmp (y3 + y_5) u_20.toInt64)) → mm_W l G k_M_readDirectory 321 [(0, .ref r0), (1, .long y1), (3, .long (y3 + y_5)), (5, .long (y5 + y_14)), (7, .int x7), (8, .long y8)] [] b_11 m_13 Q) : mm_W l G k_M_readDirectory 291 [(0, .ref r0), (1, .long y1), (3, .long y3), (5, .long y5), (7, .int x7), (8, .long y8)] [] b m Q := by
  refine mm_lload_n 2 (i := 3) d_M_readDirectory_291 rfl rfl ?_
  refine mm_aload_n 0 (i := 0) d_M_readDirectory_292 rfl rfl ?_
  refine mm_iload 4 (i := 7) d_M_readDirectory_293 rfl ?_
  refine mm_callV (as := [.int x7]) (st := [.long y3]) (b2 := b_2) ca_M_many w_1015 w_1017 v_M_many cc_M.1 rfl d_M_readDirectory_295 rfl (Nat.le_of_ble_eq_true rfl) (Nat.le_of_ble_eq_true rfl) (Nat.le_of_ble_eq_true rfl) hb3 g7 z8 M9 (fun E _ ⟨c, _⟩ => nomatch c) (fun v _ ⟨c, e⟩ => ?_)
  cases c
  rw [e]
  show mm_W l G k_M_readDirectory 298 [(0, .ref r0), (1, .long y1), (3, .long y3), (5, .long y5), (7, .int x7), (8, .long y8)] [.long y_5, .long y3] b_2 m_4 Q
  refine mm_ladd d_M_readDirectory_298 ?_
  refine mm_lstore_n (i := 3) d_M_readDirectory_299 rfl (Nat.le_of_ble_eq_true rfl) (lv2 := [(3, .long (y3 + y_5)), (0, .ref r0), (1, .long y1), (5, .long y5), (7, .int x7), (8, .long y8)]) rfl ?_
  refine mm_lload 3 (i := 5) d_M_readDirectory_300 rfl ?_
  refine mm_aload_n 1 (i := 0) d_M_readDirectory_302 rfl rfl ?_
  refine mm_iload 4 (i := 7) d_M_readDirectory_303 rfl ?_
  refine mm_callV (as := [.int x7]) (st := [.long y5]) (b2 := b_11) ca_M_size w_1019 w_1021 v_M_size cc_M.1 rfl d_M_readDirectory_305 rfl (Nat.le_of_ble_eq_true rfl) (Nat.le_of_ble_eq_true rfl) (Nat.le_of_ble_eq_true rfl) hb12 g16 z8 M17 (fun E _ ⟨c, _⟩ => nomatch c) (fun v _ ⟨c, e⟩ => ?_)
  cases c
  rw [e]
  show mm_W l G k_M_readDirectory 308 [(3, .long (y3 + y_5)), (0, .ref r0), (1, .long y1), (5, .long y5), (7, .int x7), (8, .long y8)] [.long y_14, .long y5] b_11 m_13 Q
  refine mm_ladd d_M_readDirectory_308 ?_
  refine mm_lstore (i := 5) d_M_readDirectory_309 (Nat.le_of_ble_eq_true rfl) (lv2 := [(5, .long (y5 + y_14)), (3, .long (y3 + y_5)), (0, .ref r0), (1, .long y1), (7, .int x7), (8, .long y8)]) rfl ?_
  refine mm_lload_n 1 (i := 3) d_M_readDirectory_311 rfl rfl ?_
  refine mm_aload_n 2 (i := 0) d_M_readDirectory_312 rfl rfl ?_
  refine mm_get cc_M 19 (by decide) w_762 d_M_readDirectory_313 g19 z8 v21 ?_
  refine mm_i2l d_M_readDirectory_316 ?_
  refine mm_lcmp d_M_readDirectory_317 ?_
  exact mm_if_gt (tgt := 332) d_M_readDirectory_318 (by decide) (fun c => mm_sub [2, 3, 4] rfl (h22 c)) (fun c => mm_sub [2, 3, 1, 0, 4, 5] rfl (h23 c))
theorem t_M_readDirectory_321 {l : Launch} {G : mm_G} {b : Nat} {m : mm_Mem} {Q : mm_O → mm_Mem → Prop} {r0 : Nat} {y1 : Int64} {y3 : Int64} {y5 : Int64} {x7 : Int32} {y8 : Int64} {fs_1 : List Value} {u_4 : Int32} (g2 : m r0 = .inr (8, fs_1)) (z3 : r0 ≠ 0) (v5 : fs_1[19]? = some (.int u_4)) (h6 : ((lg_cmp y5 u_4.toInt64) ≤ 0) → mm_W l G k_M_readDirectory 342 [(0, .ref r0), (1, .long y1), (3, .long y3), (5, .long y5), (7, .int x7), (8, .long y8)] [] b m Q) (h7 : (¬ (lg_cmp y5 u_4.toInt64) ≤ 0) → mm_W l G k_M_readDirectory 332 [(0, .ref r0), (1, .long y1), (7, .int x7)] [] b m Q) : mm_W l G k_M_readDirectory 321 [(0, .ref r0), (1, .long y1), (3, .long y3), (5, .long y5), (7, .int x7), (8, .long y8)] [] b m Q := by
  refine mm_lload 3 (i := 5) d_M_readDirectory_321 rfl ?_
  refine mm_aload_n 0 (i := 0) d_M_readDirectory_323 rfl rfl ?_
  refine mm_get cc_M 19 (by decide) w_762 d_M_readDirectory_324 g2 z3 v5 ?_
  refine mm_i2l d_M_readDirectory_327 ?_
  refine mm_lcmp d_M_readDirectory_328 ?_
  exact mm_if_le (tgt := 342) d_M_readDirectory_329 (by decide) (fun c => mm_sub [0, 1, 2, 3, 4, 5] rfl (h6 c)) (fun c => mm_sub [0, 1, 4] rfl (h7 c))
theorem t_M_readDirectory_332 {l : Launch} {G : mm_G} {b : Nat} {m : mm_Mem} {Q : mm_O → mm_Mem → Prop} {r0 : Nat} {y1 : Int64} {x7 : Int32} {b_1 : Nat} {b_2 : Nat} {m_4 : mm_Mem} {x_5 : Int32} {fs_6 : List Value} (hb3 : b_1 + b_2 ≤ b) (g7 : m r0 = .inr (8, fs_6)) (z8 : r0 ≠ 0) (M9 : mm_W l G k_M_wrong 0 (lv_args 0 [.ref r0, .int 9, .long y1, .int x7]) [] b_1 m (mm_is (.inl (some (.int x_5))) m_4)) (h10 : Q (.inl (some (.int x_5))) m_4) (hn11 : narrow .boolean (.int x_5) = .int x_5) : mm_W l G k_M_readDirectory 332 [(0, .ref r0), (1, .long y1), (7, .int x7)] [] b m Q := by
  refine mm_aload_n 0 (i := 0) d_M_readDirectory_332 rfl rfl ?_
  refine mm_bipush d_M_readDirectory_333 (v := 9) (by decide) ?_
  refine mm_lload_n 1 (i := 1) d_M_readDirectory_335 rfl rfl ?_
  refine mm_iload 2 (i := 7) d_M_readDirectory_336 rfl ?_
  refine mm_callV (as := [.int 9, .long y1, .int x7]) (st := []) (b2 := b_2) ca_M_wrong w_986 w_988 v_M_wrong cc_M.1 rfl d_M_readDirectory_338 rfl (Nat.le_of_ble_eq_true rfl) (Nat.le_of_ble_eq_true rfl) (Nat.le_of_ble_eq_true rfl) hb3 g7 z8 M9 (fun E _ ⟨c, _⟩ => nomatch c) (fun v _ ⟨c, e⟩ => ?_)
  cases c
  rw [e]
  show mm_W l G k_M_readDirectory 341 [(0, .ref r0), (1, .long y1), (7, .int x7)] [.int x_5] b_2 m_4 Q
  exact mm_zret d_M_readDirectory_341 rfl hn11 h10
theorem t_M_readDirectory_342 {l : Launch} {G : mm_G} {b : Nat} {m : mm_Mem} {Q : mm_O → mm_Mem → Prop} {r0 : Nat} {y1 : Int64} {y3 : Int64} {y5 : Int64} {x7 : Int32} {y8 : Int64} {fs_1 : List Value} {q_4 : Nat} {b_6 : Nat} {b_7 : Nat} {m_9 : mm_Mem} {y_10 : Int64} {n_12 : Nat} {f_13 : Nat → Int64} (g2 : m r0 = .inr (8, fs_1)) (z3 : r0 ≠ 0) (v5 : fs_1[24]? = some (.ref q_4)) (hb8 : b_6 + b_7 ≤ b) (M11 : mm_W l G k_M_four 0 (lv_args 0 [.ref r0, .long (y1 + 42)]) [] b_6 m (mm_is (.inl (some (.long y_10))) m_9)) (a14 : m_9 q_4 = .inl (G.2 2, n_12, .inr (.inl f_13))) (z15 : q_4 ≠ 0) (i16 : vp_in x7 n_12) (h17 : mm_W l G k_M_readDirectory 13 [(0, .ref r0), (1, .long y8), (3, .long y3), (5, .long y5), (7, .int (x7 + 1))] [] b_7 (va_up m_9 q_4 (.inl (G.2 2, n_12, .inr (.inl (vp_updL f_13 x7.toNatClampNeg y_10))))) Q) : mm_W l G k_M_readDirectory 342 [(0, .ref r0), (1, .long y1), (3, .long y3), (5, .long y5), (7, .int x7), (8, .long y8)] [] b m Q := by
  refine mm_aload_n 0 (i := 0) d_M_readDirectory_342 rfl rfl ?_
  refine mm_get cc_M 24 (by decide) w_767 d_M_readDirectory_343 g2 z3 v5 ?_
  refine mm_iload 4 (i := 7) d_M_readDirectory_346 rfl ?_
  refine mm_aload_n 0 (i := 0) d_M_readDirectory_348 rfl rfl ?_
  refine mm_lload_n 1 (i := 1) d_M_readDirectory_349 rfl rfl ?_
  refine mm_ldc2 (v := 42) w_1023 d_M_readDirectory_350 ?_
  refine mm_ladd d_M_readDirectory_353 ?_
  refine mm_callV (as := [.long (y1 + 42)]) (st := [.int x7, .ref q_4]) (b2 := b_7) ca_M_four w_975 w_977 v_M_four cc_M.1 rfl d_M_readDirectory_354 rfl (Nat.le_of_ble_eq_true rfl) (Nat.le_of_ble_eq_true rfl) (Nat.le_of_ble_eq_true rfl) hb8 g2 z3 M11 (fun E _ ⟨c, _⟩ => nomatch c) (fun v _ ⟨c, e⟩ => ?_)
  cases c
  rw [e]
  show mm_W l G k_M_readDirectory 357 [(0, .ref r0), (1, .long y1), (3, .long y3), (5, .long y5), (7, .int x7), (8, .long y8)] [.long y_10, .int x7, .ref q_4] b_7 m_9 Q
  refine mm_last d_M_readDirectory_357 a14 z15 i16 ?_
  refine mm_lload 5 (i := 8) d_M_readDirectory_358 rfl ?_
  refine mm_lstore_n (i := 1) d_M_readDirectory_360 rfl (Nat.le_of_ble_eq_true rfl) (lv2 := [(1, .long y8), (0, .ref r0), (3, .long y3), (5, .long y5), (7, .int x7), (8, .long y8)]) rfl ?_
  refine mm_iinc 4 (i := 7) d_M_readDirectory_361 rfl (v := x7 + 1) rfl (Nat.le_of_ble_eq_true rfl) (lv2 := [(7, .int (x7 + 1)), (1, .long y8), (0, .ref r0), (3, .long y3), (5, .long y5), (8, .long y8)]) rfl ?_
  refine mm_goto (tgt := 13) d_M_readDirectory_364 (by decide) ?_
  exact mm_sub [2, 1, 3, 4, 0] rfl h17
theorem t_M_readDirectory_367 {l : Launch} {G : mm_G} {b : Nat} {m : mm_Mem} {Q : mm_O → mm_Mem → Prop} {r0 : Nat} {y1 : Int64} {fs_1 : List Value} {u_4 : Int32} (g2 : m r0 = .inr (8, fs_1)) (z3 : r0 ≠ 0) (v5 : fs_1[20]? = some (.int u_4)) (h6 : ((lg_cmp y1 u_4.toInt64) = 0) → mm_W l G k_M_readDirectory 391 [] [] b m Q) (h7 : (¬ (lg_cmp y1 u_4.toInt64) = 0) → mm_W l G k_M_readDirectory 377 [(0, .ref r0), (1, .long y1)] [] b m Q) : mm_W l G k_M_readDirectory 367 [(0, .ref r0), (1, .long y1)] [] b m Q := by
  refine mm_lload_n 1 (i := 1) d_M_readDirectory_367 rfl rfl ?_
  refine mm_aload_n 0 (i := 0) d_M_readDirectory_368 rfl rfl ?_
  refine mm_get cc_M 20 (by decide) w_763 d_M_readDirectory_369 g2 z3 v5 ?_
  refine mm_i2l d_M_readDirectory_372 ?_
  refine mm_lcmp d_M_readDirectory_373 ?_
  exact mm_if_eq (tgt := 391) d_M_readDirectory_374 (by decide) (fun c => mm_sub [] rfl (h6 c)) (fun c => mm_sub [0, 1] rfl (h7 c))
theorem t_M_readDirectory_377 {l : Launch} {G : mm_G} {b : Nat} {m : mm_Mem} {Q : mm_O → mm_Mem → Prop} {r0 : Nat} {y1 : Int64} {b_1 : Nat} {b_2 : Nat} {m_4 : mm_Mem} {x_5 : Int32} {fs_6 : List Value} (hb3 : b_1 + b_2 ≤ b) (g7 : m r0 = .inr (8, fs_6)) (z8 : r0 ≠ 0) (M9 : mm_W l G k_M_wrong 0 (lv_args 0 [.ref r0, .int 3, .long y1, .int ((-1))]) [] b_1 m (mm_is (.inl (some (.int x_5))) m_4)) (h10 : (x_5 = 0) → mm_W l G k_M_readDirectory 391 [] [] b_2 m_4 Q) (h11 : (¬ x_5 = 0) → mm_W l G k_M_readDirectory 387 [] [] b_2 m_4 Q) : mm_W l G k_M_readDirectory 377 [(0, .ref r0), (1, .long y1)] [] b m Q := by
  refine mm_aload_n 0 (i := 0) d_M_readDirectory_377 rfl rfl ?_
  refine mm_iconst d_M_readDirectory_378 (v := 3) (by decide) ?_
  refine mm_lload_n 1 (i := 1) d_M_readDirectory_379 rfl rfl ?_
  refine mm_iconst d_M_readDirectory_380 (v := (-1)) (by decide) ?_
  refine mm_callV (as := [.int 3, .long y1, .int ((-1))]) (st := []) (b2 := b_2) ca_M_wrong w_986 w_988 v_M_wrong cc_M.1 rfl d_M_readDirectory_381 rfl (Nat.le_of_ble_eq_true rfl) (Nat.le_of_ble_eq_true rfl) (Nat.le_of_ble_eq_true rfl) hb3 g7 z8 M9 (fun E _ ⟨c, _⟩ => nomatch c) (fun v _ ⟨c, e⟩ => ?_)
  cases c
  rw [e]
  show mm_W l G k_M_readDirectory 384 [(0, .ref r0), (1, .long y1)] [.int x_5] b_2 m_4 Q
  exact mm_if_eq (tgt := 391) d_M_readDirectory_384 (by decide) (fun c => mm_sub [] rfl (h10 c)) (fun c => mm_sub [] rfl (h11 c))
theorem t_M_readDirectory_387 {l : Launch} {G : mm_G} {b : Nat} {m : mm_Mem} {Q : mm_O → mm_Mem → Prop}  (h1 : mm_W l G k_M_readDirectory 392 [] [.int 1] b m Q) : mm_W l G k_M_readDirectory 387 [] [] b m Q := by
  refine mm_iconst d_M_readDirectory_387 (v := 1) (by decide) ?_
  refine mm_goto (tgt := 392) d_M_readDirectory_388 (by decide) ?_
  exact mm_sub [] rfl h1
theorem t_M_readDirectory_391 {l : Launch} {G : mm_G} {b : Nat} {m : mm_Mem} {Q : mm_O → mm_Mem → Prop}  (h1 : mm_W l G k_M_readDirectory 392 [] [.int 0] b m Q) : mm_W l G k_M_readDirectory 391 [] [] b m Q := by
  refine mm_iconst d_M_readDirectory_391 (v := 0) (by decide) ?_
  exact mm_sub [] rfl h1
theorem t_M_readDirectory_392 {l : Launch} {G : mm_G} {b : Nat} {m : mm_Mem} {Q : mm_O → mm_Mem → Prop} {xs0 : Int32} (h1 : Q (.inl (some (.int xs0))) m) (hn2 : narrow .boolean (.int xs0) = .int xs0) : mm_W l G k_M_readDirectory 392 [] [.int xs0] b m Q := by
  exact mm_zret d_M_readDirectory_392 rfl hn2 h1
theorem t_M_fits_0 {l : Launch} {G : mm_G} {b : Nat} {m : mm_Mem} {Q : mm_O → mm_Mem → Prop} {r0 : Nat} {x1 : Int32} {y2 : Int64} {y4 : Int64} (h1 : ((lg_cmp y2 y4) = 0) → mm_W l G k_M_fits 24 [] [] b m Q) (h2 : (¬ (lg_cmp y2 y4) = 0) → mm_W l G k_M_fits 7 [(0, .ref r0), (1, .int x1), (2, .long y2)] [] b m Q) : mm_W l G k_M_fits 0 [(0, .ref r0), (1, .int x1), (2, .long y2), (4, .long y4)] [] b m Q := by
  refine mm_lload_n 2 (i := 2) d_M_fits_0 rfl rfl ?_
  refine mm_lload 3 (i := 4) d_M_fits_1 rfl ?_
  refine mm_lcmp d_M_fits_3 ?_
  exact mm_if_eq (tgt := 24) d_M_fits_4 (by decide) (fun c => mm_sub [] rfl (h1 c)) (fun c => mm_sub [0, 1, 2] rfl (h2 c))
theorem t_M_fits_7 {l : Launch} {G : mm_G} {b : Nat} {m : mm_Mem} {Q : mm_O → mm_Mem → Prop} {r0 : Nat} {x1 : Int32} {y2 : Int64} {b_1 : Nat} {b_2 : Nat} {m_4 : mm_Mem} {x_5 : Int32} {fs_6 : List Value} (hb3 : b_1 + b_2 ≤ b) (g7 : m r0 = .inr (8, fs_6)) (z8 : r0 ≠ 0) (M9 : mm_W l G k_M_flags 0 (lv_args 0 [.ref r0, .int x1]) [] b_1 m (mm_is (.inl (some (.int x_5))) m_4)) (h10 : ((x_5 &&& 8) ≤ 0) → mm_W l G k_M_fits 28 [] [] b_2 m_4 Q) (h11 : (¬ (x_5 &&& 8) ≤ 0) → mm_W l G k_M_fits 18 [(2, .long y2)] [] b_2 m_4 Q) : mm_W l G k_M_fits 7 [(0, .ref r0), (1, .int x1), (2, .long y2)] [] b m Q := by
  refine mm_aload_n 0 (i := 0) d_M_fits_7 rfl rfl ?_
  refine mm_iload_n 1 (i := 1) d_M_fits_8 rfl rfl ?_
  refine mm_callV (as := [.int x1]) (st := []) (b2 := b_2) ca_M_flags w_1002 w_1004 v_M_flags cc_M.1 rfl d_M_fits_9 rfl (Nat.le_of_ble_eq_true rfl) (Nat.le_of_ble_eq_true rfl) (Nat.le_of_ble_eq_true rfl) hb3 g7 z8 M9 (fun E _ ⟨c, _⟩ => nomatch c) (fun v _ ⟨c, e⟩ => ?_)
  cases c
  rw [e]
  show mm_W l G k_M_fits 12 [(0, .ref r0), (1, .int x1), (2, .long y2)] [.int x_5] b_2 m_4 Q
  refine mm_bipush d_M_fits_12 (v := 8) (by decide) ?_
  refine mm_iand d_M_fits_14 ?_
  exact mm_if_le (tgt := 28) d_M_fits_15 (by decide) (fun c => mm_sub [] rfl (h10 c)) (fun c => mm_sub [2] rfl (h11 c))
theorem t_M_fits_18 {l : Launch} {G : mm_G} {b : Nat} {m : mm_Mem} {Q : mm_O → mm_Mem → Prop} {y2 : Int64} (h1 : (¬ (lg_cmp y2 0) = 0) → mm_W l G k_M_fits 28 [] [] b m Q) (h2 : ((lg_cmp y2 0) = 0) → mm_W l G k_M_fits 24 [] [] b m Q) : mm_W l G k_M_fits 18 [(2, .long y2)] [] b m Q := by
  refine mm_lload_n 0 (i := 2) d_M_fits_18 rfl rfl ?_
  refine mm_lconst d_M_fits_19 (v := 0) (by decide) ?_
  refine mm_lcmp d_M_fits_20 ?_
  exact mm_if_ne (tgt := 28) d_M_fits_21 (by decide) (fun c => mm_sub [] rfl (h1 c)) (fun c => mm_sub [] rfl (h2 c))
theorem t_M_fits_24 {l : Launch} {G : mm_G} {b : Nat} {m : mm_Mem} {Q : mm_O → mm_Mem → Prop}  (h1 : mm_W l G k_M_fits 29 [] [.int 1] b m Q) : mm_W l G k_M_fits 24 [] [] b m Q := by
  refine mm_iconst d_M_fits_24 (v := 1) (by decide) ?_
  refine mm_goto (tgt := 29) d_M_fits_25 (by decide) ?_
  exact mm_sub [] rfl h1
theorem t_M_fits_28 {l : Launch} {G : mm_G} {b : Nat} {m : mm_Mem} {Q : mm_O → mm_Mem → Prop}  (h1 : mm_W l G k_M_fits 29 [] [.int 0] b m Q) : mm_W l G k_M_fits 28 [] [] b m Q := by
  refine mm_iconst d_M_fits_28 (v := 0) (by decide) ?_
  exact mm_sub [] rfl h1
theorem t_M_fits_29 {l : Launch} {G : mm_G} {b : Nat} {m : mm_Mem} {Q : mm_O → mm_Mem → Prop} {xs0 : Int32} (h1 : Q (.inl (some (.int xs0))) m) (hn2 : narrow .boolean (.int xs0) = .int xs0) : mm_W l G k_M_fits 29 [] [.int xs0] b m Q := by
  exact mm_zret d_M_fits_29 rfl hn2 h1
theorem t_M_isHead_0 {l : Launch} {G : mm_G} {b : Nat} {m : mm_Mem} {Q : mm_O → mm_Mem → Prop} {r0 : Nat} {x1 : Int32} {fs_1 : List Value} {q_4 : Nat} {n_6 : Nat} {f_7 : Nat → Int64} {v_11 : Int64} (g2 : m r0 = .inr (8, fs_1)) (z3 : r0 ≠ 0) (v5 : fs_1[24]? = some (.ref q_4)) (a8 : m q_4 = .inl (G.2 2, n_6, .inr (.inl f_7))) (z9 : q_4 ≠ 0) (i10 : vp_in x1 n_6) (v12 : fs_1[21]? = some (.long v_11)) (h13 : (0 < (lg_cmp ((f_7 x1.toNatClampNeg) + 30) v_11)) → mm_W l G k_M_isHead 32 [] [] b m Q) (h14 : (¬ 0 < (lg_cmp ((f_7 x1.toNatClampNeg) + 30) v_11)) → mm_W l G k_M_isHead 20 [(0, .ref r0), (1, .int x1), (2, .long (f_7 x1.toNatClampNeg))] [] b m Q) : mm_W l G k_M_isHead 0 [(0, .ref r0), (1, .int x1)] [] b m Q := by
  refine mm_aload_n 0 (i := 0) d_M_isHead_0 rfl rfl ?_
  refine mm_get cc_M 24 (by decide) w_767 d_M_isHead_1 g2 z3 v5 ?_
  refine mm_iload_n 1 (i := 1) d_M_isHead_4 rfl rfl ?_
  refine mm_lald d_M_isHead_5 a8 z9 i10 ?_
  refine mm_lstore_n (i := 2) d_M_isHead_6 rfl (Nat.le_of_ble_eq_true rfl) (lv2 := [(2, .long (f_7 x1.toNatClampNeg)), (0, .ref r0), (1, .int x1)]) rfl ?_
  refine mm_lload_n 0 (i := 2) d_M_isHead_7 rfl rfl ?_
  refine mm_ldc2 (v := 30) w_1000 d_M_isHead_8 ?_
  refine mm_ladd d_M_isHead_11 ?_
  refine mm_aload_n 1 (i := 0) d_M_isHead_12 rfl rfl ?_
  refine mm_get cc_M 21 (by decide) w_764 d_M_isHead_13 g2 z3 v12 ?_
  refine mm_lcmp d_M_isHead_16 ?_
  exact mm_if_gt (tgt := 32) d_M_isHead_17 (by decide) (fun c => mm_sub [] rfl (h13 c)) (fun c => mm_sub [1, 2, 0] rfl (h14 c))
theorem t_M_isHead_20 {l : Launch} {G : mm_G} {b : Nat} {m : mm_Mem} {Q : mm_O → mm_Mem → Prop} {r0 : Nat} {x1 : Int32} {y2 : Int64} {b_1 : Nat} {b_2 : Nat} {m_4 : mm_Mem} {y_5 : Int64} {fs_6 : List Value} (hb3 : b_1 + b_2 ≤ b) (g7 : m r0 = .inr (8, fs_6)) (z8 : r0 ≠ 0) (M9 : mm_W l G k_M_four 0 (lv_args 0 [.ref r0, .long y2]) [] b_1 m (mm_is (.inl (some (.long y_5))) m_4)) (h10 : ((lg_cmp y_5 67324752) = 0) → mm_W l G k_M_isHead 34 [(0, .ref r0), (1, .int x1), (2, .long y2)] [] b_2 m_4 Q) (h11 : (¬ (lg_cmp y_5 67324752) = 0) → mm_W l G k_M_isHead 32 [] [] b_2 m_4 Q) : mm_W l G k_M_isHead 20 [(0, .ref r0), (1, .int x1), (2, .long y2)] [] b m Q := by
  refine mm_aload_n 0 (i := 0) d_M_isHead_20 rfl rfl ?_
  refine mm_lload_n 2 (i := 2) d_M_isHead_21 rfl rfl ?_
  refine mm_callV (as := [.long y2]) (st := []) (b2 := b_2) ca_M_four w_975 w_977 v_M_four cc_M.1 rfl d_M_isHead_22 rfl (Nat.le_of_ble_eq_true rfl) (Nat.le_of_ble_eq_true rfl) (Nat.le_of_ble_eq_true rfl) hb3 g7 z8 M9 (fun E _ ⟨c, _⟩ => nomatch c) (fun v _ ⟨c, e⟩ => ?_)
  cases c
  rw [e]
  show mm_W l G k_M_isHead 25 [(0, .ref r0), (1, .int x1), (2, .long y2)] [.long y_5] b_2 m_4 Q
  refine mm_ldc2 (v := 67324752) w_1028 d_M_isHead_25 ?_
  refine mm_lcmp d_M_isHead_28 ?_
  exact mm_if_eq (tgt := 34) d_M_isHead_29 (by decide) (fun c => mm_sub [0, 1, 2] rfl (h10 c)) (fun c => mm_sub [] rfl (h11 c))
theorem t_M_isHead_32 {l : Launch} {G : mm_G} {b : Nat} {m : mm_Mem} {Q : mm_O → mm_Mem → Prop}  (h1 : Q (.inl (some (.int 0))) m) (hn2 : narrow .boolean (.int 0) = .int 0) : mm_W l G k_M_isHead 32 [] [] b m Q := by
  refine mm_iconst d_M_isHead_32 (v := 0) (by decide) ?_
  exact mm_zret d_M_isHead_33 rfl hn2 h1
theorem t_M_isHead_34 {l : Launch} {G : mm_G} {b : Nat} {m : mm_Mem} {Q : mm_O → mm_Mem → Prop} {r0 : Nat} {x1 : Int32} {y2 : Int64} {b_1 : Nat} {b_2 : Nat} {m_4 : mm_Mem} {x_5 : Int32} {fs_6 : List Value} {fs_10 : List Value} {q_12 : Nat} {b_14 : Nat} {b_15 : Nat} {m_17 : mm_Mem} {x_18 : Int32} {n_20 : Nat} {f_21 : Nat → Int64} {fs_25 : List Value} {q_27 : Nat} {n_29 : Nat} {f_30 : Nat → Int64} {v_34 : Int64} (hb3 : b_1 + b_2 ≤ b) (g7 : m r0 = .inr (8, fs_6)) (z8 : r0 ≠ 0) (M9 : mm_W l G k_M_two 0 (lv_args 0 [.ref r0, .long (y2 + 26)]) [] b_1 m (mm_is (.inl (some (.int x_5))) m_4)) (g11 : m_4 r0 = .inr (8, fs_10)) (v13 : fs_10[25]? = some (.ref q_12)) (hb16 : b_14 + b_15 ≤ b_2) (M19 : mm_W l G k_M_two 0 (lv_args 0 [.ref r0, .long (y2 + 28)]) [] b_14 m_4 (mm_is (.inl (some (.int x_18))) m_17)) (a22 : m_17 q_12 = .inl (G.2 2, n_20, .inr (.inl f_21))) (z23 : q_12 ≠ 0) (i24 : vp_in x1 n_20) (g26 : (va_up m_17 q_12 (.inl (G.2 2, n_20, .inr (.inl (vp_updL f_21 x1.toNatClampNeg (((y2 + 30) + x_5.toInt64) + x_18.toInt64)))))) r0 = .inr (8, fs_25)) (v28 : fs_25[25]? = some (.ref q_27)) (a31 : (va_up m_17 q_12 (.inl (G.2 2, n_20, .inr (.inl (vp_updL f_21 x1.toNatClampNeg (((y2 + 30) + x_5.toInt64) + x_18.toInt64)))))) q_27 = .inl (G.2 2, n_29, .inr (.inl f_30))) (z32 : q_27 ≠ 0) (i33 : vp_in x1 n_29) (v35 : fs_25[21]? = some (.long v_34)) (h36 : ((lg_cmp (f_30 x1.toNatClampNeg) v_34) ≤ 0) → mm_W l G k_M_isHead 87 [(0, .ref r0), (1, .int x1), (2, .long y2), (4, .int x_5)] [] b_15 (va_up m_17 q_12 (.inl (G.2 2, n_20, .inr (.inl (vp_updL f_21 x1.toNatClampNeg (((y2 + 30) + x_5.toInt64) + x_18.toInt64)))))) Q) (h37 : (¬ (lg_cmp (f_30 x1.toNatClampNeg) v_34) ≤ 0) → mm_W l G k_M_isHead 85 [] [] b_15 (va_up m_17 q_12 (.inl (G.2 2, n_20, .inr (.inl (vp_updL f_21 x1.toNatClampNeg (((y2 + 30) + x_5.toInt64) + x_18.toInt64)))))) Q) : mm_W l G k_M_isHead 34 [(0, .ref r0), (1, .int x1), (2, .long y2)] [] b m Q := by
  refine mm_aload_n 0 (i := 0) d_M_isHead_34 rfl rfl ?_
  refine mm_lload_n 2 (i := 2) d_M_isHead_35 rfl rfl ?_
  refine mm_ldc2 (v := 26) w_1029 d_M_isHead_36 ?_
  refine mm_ladd d_M_isHead_39 ?_
  refine mm_callV (as := [.long (y2 + 26)]) (st := []) (b2 := b_2) ca_M_two w_979 w_981 v_M_two cc_M.1 rfl d_M_isHead_40 rfl (Nat.le_of_ble_eq_true rfl) (Nat.le_of_ble_eq_true rfl) (Nat.le_of_ble_eq_true rfl) hb3 g7 z8 M9 (fun E _ ⟨c, _⟩ => nomatch c) (fun v _ ⟨c, e⟩ => ?_)
  cases c
  rw [e]
  show mm_W l G k_M_isHead 43 [(0, .ref r0), (1, .int x1), (2, .long y2)] [.int x_5] b_2 m_4 Q
  refine mm_istore (i := 4) d_M_isHead_43 (Nat.le_of_ble_eq_true rfl) (lv2 := [(4, .int x_5), (0, .ref r0), (1, .int x1), (2, .long y2)]) rfl ?_
  refine mm_aload_n 1 (i := 0) d_M_isHead_45 rfl rfl ?_
  refine mm_get cc_M 25 (by decide) w_768 d_M_isHead_46 g11 z8 v13 ?_
  refine mm_iload_n 2 (i := 1) d_M_isHead_49 rfl rfl ?_
  refine mm_lload_n 3 (i := 2) d_M_isHead_50 rfl rfl ?_
  refine mm_ldc2 (v := 30) w_1000 d_M_isHead_51 ?_
  refine mm_ladd d_M_isHead_54 ?_
  refine mm_iload 0 (i := 4) d_M_isHead_55 rfl ?_
  refine mm_i2l d_M_isHead_57 ?_
  refine mm_ladd d_M_isHead_58 ?_
  refine mm_aload_n 1 (i := 0) d_M_isHead_59 rfl rfl ?_
  refine mm_lload_n 3 (i := 2) d_M_isHead_60 rfl rfl ?_
  refine mm_ldc2 (v := 28) w_1030 d_M_isHead_61 ?_
  refine mm_ladd d_M_isHead_64 ?_
  refine mm_callV (as := [.long (y2 + 28)]) (st := [.long ((y2 + 30) + x_5.toInt64), .int x1, .ref q_12]) (b2 := b_15) ca_M_two w_979 w_981 v_M_two cc_M.1 rfl d_M_isHead_65 rfl (Nat.le_of_ble_eq_true rfl) (Nat.le_of_ble_eq_true rfl) (Nat.le_of_ble_eq_true rfl) hb16 g11 z8 M19 (fun E _ ⟨c, _⟩ => nomatch c) (fun v _ ⟨c, e⟩ => ?_)
  cases c
  rw [e]
  show mm_W l G k_M_isHead 68 [(4, .int x_5), (0, .ref r0), (1, .int x1), (2, .long y2)] [.int x_18, .long ((y2 + 30) + x_5.toInt64), .int x1, .ref q_12] b_15 m_17 Q
  refine mm_i2l d_M_isHead_68 ?_
  refine mm_ladd d_M_isHead_69 ?_
  refine mm_last d_M_isHead_70 a22 z23 i24 ?_
  refine mm_aload_n 1 (i := 0) d_M_isHead_71 rfl rfl ?_
  refine mm_get cc_M 25 (by decide) w_768 d_M_isHead_72 g26 z8 v28 ?_
  refine mm_iload_n 2 (i := 1) d_M_isHead_75 rfl rfl ?_
  refine mm_lald d_M_isHead_76 a31 z32 i33 ?_
  refine mm_aload_n 1 (i := 0) d_M_isHead_77 rfl rfl ?_
  refine mm_get cc_M 21 (by decide) w_764 d_M_isHead_78 g26 z8 v35 ?_
  refine mm_lcmp d_M_isHead_81 ?_
  exact mm_if_le (tgt := 87) d_M_isHead_82 (by decide) (fun c => mm_sub [1, 2, 3, 0] rfl (h36 c)) (fun c => mm_sub [] rfl (h37 c))
theorem t_M_isHead_85 {l : Launch} {G : mm_G} {b : Nat} {m : mm_Mem} {Q : mm_O → mm_Mem → Prop}  (h1 : Q (.inl (some (.int 0))) m) (hn2 : narrow .boolean (.int 0) = .int 0) : mm_W l G k_M_isHead 85 [] [] b m Q := by
  refine mm_iconst d_M_isHead_85 (v := 0) (by decide) ?_
  exact mm_zret d_M_isHead_86 rfl hn2 h1
theorem t_M_isHead_87 {l : Launch} {G : mm_G} {b : Nat} {m : mm_Mem} {Q : mm_O → mm_Mem → Prop} {r0 : Nat} {x1 : Int32} {y2 : Int64} {x4 : Int32} {b_1 : Nat} {b_2 : Nat} {m_4 : mm_Mem} {x_5 : Int32} {fs_6 : List Value} {b_10 : Nat} {b_11 : Nat} {m_13 : mm_Mem} {x_14 : Int32} {fs_15 : List Value} (hb3 : b_1 + b_2 ≤ b) (g7 : m r0 = .inr (8, fs_6)) (z8 : r0 ≠ 0) (M9 : mm_W l G k_M_two 0 (lv_args 0 [.ref r0, .long (y2 + 6)]) [] b_1 m (mm_is (.inl (some (.int x_5))) m_4)) (hb12 : b_10 + b_11 ≤ b_2) (g16 : m_4 r0 = .inr (8, fs_15)) (M17 : mm_W l G k_M_flags 0 (lv_args 0 [.ref r0, .int x1]) [] b_10 m_4 (mm_is (.inl (some (.int x_14))) m_13)) (h18 : (¬ x_5 = x_14) → mm_W l G k_M_isHead 135 [(0, .ref r0), (1, .int x1), (2, .long y2), (4, .int x4)] [] b_11 m_13 Q) (h19 : (x_5 = x_14) → mm_W l G k_M_isHead 104 [(0, .ref r0), (1, .int x1), (2, .long y2), (4, .int x4)] [] b_11 m_13 Q) : mm_W l G k_M_isHead 87 [(0, .ref r0), (1, .int x1), (2, .long y2), (4, .int x4)] [] b m Q := by
  refine mm_aload_n 0 (i := 0) d_M_isHead_87 rfl rfl ?_
  refine mm_lload_n 2 (i := 2) d_M_isHead_88 rfl rfl ?_
  refine mm_ldc2 (v := 6) w_1031 d_M_isHead_89 ?_
  refine mm_ladd d_M_isHead_92 ?_
  refine mm_callV (as := [.long (y2 + 6)]) (st := []) (b2 := b_2) ca_M_two w_979 w_981 v_M_two cc_M.1 rfl d_M_isHead_93 rfl (Nat.le_of_ble_eq_true rfl) (Nat.le_of_ble_eq_true rfl) (Nat.le_of_ble_eq_true rfl) hb3 g7 z8 M9 (fun E _ ⟨c, _⟩ => nomatch c) (fun v _ ⟨c, e⟩ => ?_)
  cases c
  rw [e]
  show mm_W l G k_M_isHead 96 [(0, .ref r0), (1, .int x1), (2, .long y2), (4, .int x4)] [.int x_5] b_2 m_4 Q
  refine mm_aload_n 0 (i := 0) d_M_isHead_96 rfl rfl ?_
  refine mm_iload_n 1 (i := 1) d_M_isHead_97 rfl rfl ?_
  refine mm_callV (as := [.int x1]) (st := [.int x_5]) (b2 := b_11) ca_M_flags w_1002 w_1004 v_M_flags cc_M.1 rfl d_M_isHead_98 rfl (Nat.le_of_ble_eq_true rfl) (Nat.le_of_ble_eq_true rfl) (Nat.le_of_ble_eq_true rfl) hb12 g16 z8 M17 (fun E _ ⟨c, _⟩ => nomatch c) (fun v _ ⟨c, e⟩ => ?_)
  cases c
  rw [e]
  show mm_W l G k_M_isHead 101 [(0, .ref r0), (1, .int x1), (2, .long y2), (4, .int x4)] [.int x_14, .int x_5] b_11 m_13 Q
  exact mm_icmp_ne (tgt := 135) d_M_isHead_101 (by decide) (fun c => mm_sub [0, 1, 2, 3] rfl (h18 c)) (fun c => mm_sub [0, 1, 2, 3] rfl (h19 c))
theorem t_M_isHead_104 {l : Launch} {G : mm_G} {b : Nat} {m : mm_Mem} {Q : mm_O → mm_Mem → Prop} {r0 : Nat} {x1 : Int32} {y2 : Int64} {x4 : Int32} {b_1 : Nat} {b_2 : Nat} {m_4 : mm_Mem} {x_5 : Int32} {fs_6 : List Value} {b_10 : Nat} {b_11 : Nat} {m_13 : mm_Mem} {x_14 : Int32} {fs_15 : List Value} (hb3 : b_1 + b_2 ≤ b) (g7 : m r0 = .inr (8, fs_6)) (z8 : r0 ≠ 0) (M9 : mm_W l G k_M_two 0 (lv_args 0 [.ref r0, .long (y2 + 8)]) [] b_1 m (mm_is (.inl (some (.int x_5))) m_4)) (hb12 : b_10 + b_11 ≤ b_2) (g16 : m_4 r0 = .inr (8, fs_15)) (M17 : mm_W l G k_M_method 0 (lv_args 0 [.ref r0, .int x1]) [] b_10 m_4 (mm_is (.inl (some (.int x_14))) m_13)) (h18 : (¬ x_5 = x_14) → mm_W l G k_M_isHead 135 [(0, .ref r0), (1, .int x1), (2, .long y2), (4, .int x4)] [] b_11 m_13 Q) (h19 : (x_5 = x_14) → mm_W l G k_M_isHead 121 [(0, .ref r0), (1, .int x1), (2, .long y2), (4, .int x4)] [] b_11 m_13 Q) : mm_W l G k_M_isHead 104 [(0, .ref r0), (1, .int x1), (2, .long y2), (4, .int x4)] [] b m Q := by
  refine mm_aload_n 0 (i := 0) d_M_isHead_104 rfl rfl ?_
  refine mm_lload_n 2 (i := 2) d_M_isHead_105 rfl rfl ?_
  refine mm_ldc2 (v := 8) w_1032 d_M_isHead_106 ?_
  refine mm_ladd d_M_isHead_109 ?_
  refine mm_callV (as := [.long (y2 + 8)]) (st := []) (b2 := b_2) ca_M_two w_979 w_981 v_M_two cc_M.1 rfl d_M_isHead_110 rfl (Nat.le_of_ble_eq_true rfl) (Nat.le_of_ble_eq_true rfl) (Nat.le_of_ble_eq_true rfl) hb3 g7 z8 M9 (fun E _ ⟨c, _⟩ => nomatch c) (fun v _ ⟨c, e⟩ => ?_)
  cases c
  rw [e]
  show mm_W l G k_M_isHead 113 [(0, .ref r0), (1, .int x1), (2, .long y2), (4, .int x4)] [.int x_5] b_2 m_4 Q
  refine mm_aload_n 0 (i := 0) d_M_isHead_113 rfl rfl ?_
  refine mm_iload_n 1 (i := 1) d_M_isHead_114 rfl rfl ?_
  refine mm_callV (as := [.int x1]) (st := [.int x_5]) (b2 := b_11) ca_M_method w_1006 w_1008 v_M_method cc_M.1 rfl d_M_isHead_115 rfl (Nat.le_of_ble_eq_true rfl) (Nat.le_of_ble_eq_true rfl) (Nat.le_of_ble_eq_true rfl) hb12 g16 z8 M17 (fun E _ ⟨c, _⟩ => nomatch c) (fun v _ ⟨c, e⟩ => ?_)
  cases c
  rw [e]
  show mm_W l G k_M_isHead 118 [(0, .ref r0), (1, .int x1), (2, .long y2), (4, .int x4)] [.int x_14, .int x_5] b_11 m_13 Q
  exact mm_icmp_ne (tgt := 135) d_M_isHead_118 (by decide) (fun c => mm_sub [0, 1, 2, 3] rfl (h18 c)) (fun c => mm_sub [0, 1, 2, 3] rfl (h19 c))
theorem t_M_isHead_121 {l : Launch} {G : mm_G} {b : Nat} {m : mm_Mem} {Q : mm_O → mm_Mem → Prop} {r0 : Nat} {x1 : Int32} {y2 : Int64} {x4 : Int32} {b_1 : Nat} {b_2 : Nat} {m_4 : mm_Mem} {x_5 : Int32} {fs_6 : List Value} (hb3 : b_1 + b_2 ≤ b) (g7 : m r0 = .inr (8, fs_6)) (z8 : r0 ≠ 0) (M9 : mm_W l G k_M_nameSize 0 (lv_args 0 [.ref r0, .int x1]) [] b_1 m (mm_is (.inl (some (.int x_5))) m_4)) (h10 : (¬ x4 = x_5) → mm_W l G k_M_isHead 135 [(0, .ref r0), (1, .int x1), (2, .long y2), (4, .int x4)] [] b_2 m_4 Q) (h11 : (x4 = x_5) → mm_W l G k_M_isHead 131 [(0, .ref r0), (1, .int x1), (2, .long y2), (4, .int x4)] [] b_2 m_4 Q) : mm_W l G k_M_isHead 121 [(0, .ref r0), (1, .int x1), (2, .long y2), (4, .int x4)] [] b m Q := by
  refine mm_iload 3 (i := 4) d_M_isHead_121 rfl ?_
  refine mm_aload_n 0 (i := 0) d_M_isHead_123 rfl rfl ?_
  refine mm_iload_n 1 (i := 1) d_M_isHead_124 rfl rfl ?_
  refine mm_callV (as := [.int x1]) (st := [.int x4]) (b2 := b_2) ca_M_nameSize w_996 w_998 v_M_nameSize cc_M.1 rfl d_M_isHead_125 rfl (Nat.le_of_ble_eq_true rfl) (Nat.le_of_ble_eq_true rfl) (Nat.le_of_ble_eq_true rfl) hb3 g7 z8 M9 (fun E _ ⟨c, _⟩ => nomatch c) (fun v _ ⟨c, e⟩ => ?_)
  cases c
  rw [e]
  show mm_W l G k_M_isHead 128 [(0, .ref r0), (1, .int x1), (2, .long y2), (4, .int x4)] [.int x_5, .int x4] b_2 m_4 Q
  exact mm_icmp_ne (tgt := 135) d_M_isHead_128 (by decide) (fun c => mm_sub [0, 1, 2, 3] rfl (h10 c)) (fun c => mm_sub [0, 1, 2, 3] rfl (h11 c))
theorem t_M_isHead_131 {l : Launch} {G : mm_G} {b : Nat} {m : mm_Mem} {Q : mm_O → mm_Mem → Prop} {r0 : Nat} {x1 : Int32} {y2 : Int64} {x4 : Int32} (h1 : mm_W l G k_M_isHead 136 [(0, .ref r0), (1, .int x1), (2, .long y2), (4, .int x4)] [.int 1] b m Q) : mm_W l G k_M_isHead 131 [(0, .ref r0), (1, .int x1), (2, .long y2), (4, .int x4)] [] b m Q := by
  refine mm_iconst d_M_isHead_131 (v := 1) (by decide) ?_
  refine mm_goto (tgt := 136) d_M_isHead_132 (by decide) ?_
  exact mm_sub [0, 1, 2, 3] rfl h1
theorem t_M_isHead_135 {l : Launch} {G : mm_G} {b : Nat} {m : mm_Mem} {Q : mm_O → mm_Mem → Prop} {r0 : Nat} {x1 : Int32} {y2 : Int64} {x4 : Int32} (h1 : mm_W l G k_M_isHead 136 [(0, .ref r0), (1, .int x1), (2, .long y2), (4, .int x4)] [.int 0] b m Q) : mm_W l G k_M_isHead 135 [(0, .ref r0), (1, .int x1), (2, .long y2), (4, .int x4)] [] b m Q := by
  refine mm_iconst d_M_isHead_135 (v := 0) (by decide) ?_
  exact mm_sub [0, 1, 2, 3] rfl h1
theorem t_M_isHead_136 {l : Launch} {G : mm_G} {b : Nat} {m : mm_Mem} {Q : mm_O → mm_Mem → Prop} {r0 : Nat} {x1 : Int32} {y2 : Int64} {x4 : Int32} {xs0 : Int32} (h1 : mm_W l G k_M_isHead 141 [(0, .ref r0), (1, .int x1), (2, .long y2), (4, .int x4), (5, .int xs0), (6, .int 0)] [] b m Q) : mm_W l G k_M_isHead 136 [(0, .ref r0), (1, .int x1), (2, .long y2), (4, .int x4)] [.int xs0] b m Q := by
  refine mm_istore (i := 5) d_M_isHead_136 (Nat.le_of_ble_eq_true rfl) (lv2 := [(5, .int xs0), (0, .ref r0), (1, .int x1), (2, .long y2), (4, .int x4)]) rfl ?_
  refine mm_iconst d_M_isHead_138 (v := 0) (by decide) ?_
  refine mm_istore (i := 6) d_M_isHead_139 (Nat.le_of_ble_eq_true rfl) (lv2 := [(6, .int 0), (5, .int xs0), (0, .ref r0), (1, .int x1), (2, .long y2), (4, .int x4)]) rfl ?_
  exact mm_sub [2, 3, 4, 5, 1, 0] rfl h1
theorem t_M_isHead_141 {l : Launch} {G : mm_G} {b : Nat} {m : mm_Mem} {Q : mm_O → mm_Mem → Prop} {r0 : Nat} {x1 : Int32} {y2 : Int64} {x4 : Int32} {x5 : Int32} {x6 : Int32} (h1 : (x4 ≤ x6) → mm_W l G k_M_isHead 199 [(0, .ref r0), (1, .int x1), (2, .long y2), (5, .int x5)] [] b m Q) (h2 : (¬ x4 ≤ x6) → mm_W l G k_M_isHead 148 [(0, .ref r0), (1, .int x1), (2, .long y2), (4, .int x4), (5, .int x5), (6, .int x6)] [] b m Q) : mm_W l G k_M_isHead 141 [(0, .ref r0), (1, .int x1), (2, .long y2), (4, .int x4), (5, .int x5), (6, .int x6)] [] b m Q := by
  refine mm_iload 5 (i := 6) d_M_isHead_141 rfl ?_
  refine mm_iload 3 (i := 4) d_M_isHead_143 rfl ?_
  exact mm_icmp_ge (tgt := 199) d_M_isHead_145 (by decide) (fun c => mm_sub [0, 1, 2, 4] rfl (h1 c)) (fun c => mm_sub [0, 1, 2, 3, 4, 5] rfl (h2 c))
theorem t_M_isHead_148 {l : Launch} {G : mm_G} {b : Nat} {m : mm_Mem} {Q : mm_O → mm_Mem → Prop} {r0 : Nat} {x1 : Int32} {y2 : Int64} {x4 : Int32} {x5 : Int32} {x6 : Int32} (h1 : (x5 = 0) → mm_W l G k_M_isHead 199 [(0, .ref r0), (1, .int x1), (2, .long y2), (5, .int x5)] [] b m Q) (h2 : (¬ x5 = 0) → mm_W l G k_M_isHead 153 [(0, .ref r0), (1, .int x1), (2, .long y2), (4, .int x4), (6, .int x6)] [] b m Q) : mm_W l G k_M_isHead 148 [(0, .ref r0), (1, .int x1), (2, .long y2), (4, .int x4), (5, .int x5), (6, .int x6)] [] b m Q := by
  refine mm_iload 4 (i := 5) d_M_isHead_148 rfl ?_
  exact mm_if_eq (tgt := 199) d_M_isHead_150 (by decide) (fun c => mm_sub [0, 1, 2, 4] rfl (h1 c)) (fun c => mm_sub [0, 1, 2, 3, 5] rfl (h2 c))
theorem t_M_isHead_153 {l : Launch} {G : mm_G} {b : Nat} {m : mm_Mem} {Q : mm_O → mm_Mem → Prop} {r0 : Nat} {x1 : Int32} {y2 : Int64} {x4 : Int32} {x6 : Int32} {fs_1 : List Value} {q_4 : Nat} {n_6 : Nat} {f_7 : Nat → Int32} {q_11 : Nat} {n_13 : Nat} {f_14 : Nat → Int32} (g2 : m r0 = .inr (8, fs_1)) (z3 : r0 ≠ 0) (v5 : fs_1[2]? = some (.ref q_4)) (a8 : m q_4 = .inl (G.2 0, n_6, .inl f_7)) (z9 : q_4 ≠ 0) (i10 : vp_in ((y2.toInt32 + 30) + x6) n_6) (v12 : fs_1[23]? = some (.ref q_11)) (a15 : m q_11 = .inl (G.2 1, n_13, .inl f_14)) (z16 : q_11 ≠ 0) (i17 : vp_in x1 n_13) (i18 : vp_in (((f_14 x1.toNatClampNeg) + 46) + x6) n_6) (h19 : (¬ (f_7 ((y2.toInt32 + 30) + x6).toNatClampNeg) = (f_7 (((f_14 x1.toNatClampNeg) + 46) + x6).toNatClampNeg)) → mm_W l G k_M_isHead 190 [(0, .ref r0), (1, .int x1), (2, .long y2), (4, .int x4), (6, .int x6)] [] b m Q) (h20 : ((f_7 ((y2.toInt32 + 30) + x6).toNatClampNeg) = (f_7 (((f_14 x1.toNatClampNeg) + 46) + x6).toNatClampNeg)) → mm_W l G k_M_isHead 186 [(0, .ref r0), (1, .int x1), (2, .long y2), (4, .int x4), (6, .int x6)] [] b m Q) : mm_W l G k_M_isHead 153 [(0, .ref r0), (1, .int x1), (2, .long y2), (4, .int x4), (6, .int x6)] [] b m Q := by
  refine mm_aload_n 0 (i := 0) d_M_isHead_153 rfl rfl ?_
  refine mm_get cc_M 2 (by decide) w_745 d_M_isHead_154 g2 z3 v5 ?_
  refine mm_lload_n 2 (i := 2) d_M_isHead_157 rfl rfl ?_
  refine mm_l2i d_M_isHead_158 ?_
  refine mm_bipush d_M_isHead_159 (v := 30) (by decide) ?_
  refine mm_iadd d_M_isHead_161 ?_
  refine mm_iload 4 (i := 6) d_M_isHead_162 rfl ?_
  refine mm_iadd d_M_isHead_164 ?_
  refine mm_bald d_M_isHead_165 a8 z9 i10 ?_
  refine mm_aload_n 0 (i := 0) d_M_isHead_166 rfl rfl ?_
  refine mm_get cc_M 2 (by decide) w_745 d_M_isHead_167 g2 z3 v5 ?_
  refine mm_aload_n 0 (i := 0) d_M_isHead_170 rfl rfl ?_
  refine mm_get cc_M 23 (by decide) w_766 d_M_isHead_171 g2 z3 v12 ?_
  refine mm_iload_n 1 (i := 1) d_M_isHead_174 rfl rfl ?_
  refine mm_iald d_M_isHead_175 a15 z16 i17 ?_
  refine mm_bipush d_M_isHead_176 (v := 46) (by decide) ?_
  refine mm_iadd d_M_isHead_178 ?_
  refine mm_iload 4 (i := 6) d_M_isHead_179 rfl ?_
  refine mm_iadd d_M_isHead_181 ?_
  refine mm_bald d_M_isHead_182 a8 z9 i18 ?_
  exact mm_icmp_ne (tgt := 190) d_M_isHead_183 (by decide) (fun c => mm_sub [0, 1, 2, 3, 4] rfl (h19 c)) (fun c => mm_sub [0, 1, 2, 3, 4] rfl (h20 c))
theorem t_M_isHead_186 {l : Launch} {G : mm_G} {b : Nat} {m : mm_Mem} {Q : mm_O → mm_Mem → Prop} {r0 : Nat} {x1 : Int32} {y2 : Int64} {x4 : Int32} {x6 : Int32} (h1 : mm_W l G k_M_isHead 191 [(0, .ref r0), (1, .int x1), (2, .long y2), (4, .int x4), (6, .int x6)] [.int 1] b m Q) : mm_W l G k_M_isHead 186 [(0, .ref r0), (1, .int x1), (2, .long y2), (4, .int x4), (6, .int x6)] [] b m Q := by
  refine mm_iconst d_M_isHead_186 (v := 1) (by decide) ?_
  refine mm_goto (tgt := 191) d_M_isHead_187 (by decide) ?_
  exact mm_sub [0, 1, 2, 3, 4] rfl h1
theorem t_M_isHead_190 {l : Launch} {G : mm_G} {b : Nat} {m : mm_Mem} {Q : mm_O → mm_Mem → Prop} {r0 : Nat} {x1 : Int32} {y2 : Int64} {x4 : Int32} {x6 : Int32} (h1 : mm_W l G k_M_isHead 191 [(0, .ref r0), (1, .int x1), (2, .long y2), (4, .int x4), (6, .int x6)] [.int 0] b m Q) : mm_W l G k_M_isHead 190 [(0, .ref r0), (1, .int x1), (2, .long y2), (4, .int x4), (6, .int x6)] [] b m Q := by
  refine mm_iconst d_M_isHead_190 (v := 0) (by decide) ?_
  exact mm_sub [0, 1, 2, 3, 4] rfl h1
theorem t_M_isHead_191 {l : Launch} {G : mm_G} {b : Nat} {m : mm_Mem} {Q : mm_O → mm_Mem → Prop} {r0 : Nat} {x1 : Int32} {y2 : Int64} {x4 : Int32} {x6 : Int32} {xs0 : Int32} (h1 : mm_W l G k_M_isHead 141 [(0, .ref r0), (1, .int x1), (2, .long y2), (4, .int x4), (5, .int xs0), (6, .int (x6 + 1))] [] b m Q) : mm_W l G k_M_isHead 191 [(0, .ref r0), (1, .int x1), (2, .long y2), (4, .int x4), (6, .int x6)] [.int xs0] b m Q := by
  refine mm_istore (i := 5) d_M_isHead_191 (Nat.le_of_ble_eq_true rfl) (lv2 := [(5, .int xs0), (0, .ref r0), (1, .int x1), (2, .long y2), (4, .int x4), (6, .int x6)]) rfl ?_
  refine mm_iinc 5 (i := 6) d_M_isHead_193 rfl (v := x6 + 1) rfl (Nat.le_of_ble_eq_true rfl) (lv2 := [(6, .int (x6 + 1)), (5, .int xs0), (0, .ref r0), (1, .int x1), (2, .long y2), (4, .int x4)]) rfl ?_
  refine mm_goto (tgt := 141) d_M_isHead_196 (by decide) ?_
  exact mm_sub [2, 3, 4, 5, 1, 0] rfl h1
theorem t_M_isHead_199 {l : Launch} {G : mm_G} {b : Nat} {m : mm_Mem} {Q : mm_O → mm_Mem → Prop} {r0 : Nat} {x1 : Int32} {y2 : Int64} {x5 : Int32} (h1 : (x5 = 0) → mm_W l G k_M_isHead 283 [] [] b m Q) (h2 : (¬ x5 = 0) → mm_W l G k_M_isHead 204 [(0, .ref r0), (1, .int x1), (2, .long y2)] [] b m Q) : mm_W l G k_M_isHead 199 [(0, .ref r0), (1, .int x1), (2, .long y2), (5, .int x5)] [] b m Q := by
  refine mm_iload 3 (i := 5) d_M_isHead_199 rfl ?_
  exact mm_if_eq (tgt := 283) d_M_isHead_201 (by decide) (fun c => mm_sub [] rfl (h1 c)) (fun c => mm_sub [0, 1, 2] rfl (h2 c))
theorem t_M_isHead_204 {l : Launch} {G : mm_G} {b : Nat} {m : mm_Mem} {Q : mm_O → mm_Mem → Prop} {r0 : Nat} {x1 : Int32} {y2 : Int64} {b_1 : Nat} {b_2 : Nat} {m_4 : mm_Mem} {y_5 : Int64} {fs_6 : List Value} {fs_10 : List Value} {q_12 : Nat} {n_14 : Nat} {f_15 : Nat → Int32} {b_19 : Nat} {b_20 : Nat} {m_22 : mm_Mem} {y_23 : Int64} {b_25 : Nat} {b_26 : Nat} {m_28 : mm_Mem} {x_29 : Int32} {fs_30 : List Value} (hb3 : b_1 + b_2 ≤ b) (g7 : m r0 = .inr (8, fs_6)) (z8 : r0 ≠ 0) (M9 : mm_W l G k_M_four 0 (lv_args 0 [.ref r0, .long (y2 + 14)]) [] b_1 m (mm_is (.inl (some (.long y_5))) m_4)) (g11 : m_4 r0 = .inr (8, fs_10)) (v13 : fs_10[23]? = some (.ref q_12)) (a16 : m_4 q_12 = .inl (G.2 1, n_14, .inl f_15)) (z17 : q_12 ≠ 0) (i18 : vp_in x1 n_14) (hb21 : b_19 + b_20 ≤ b_2) (M24 : mm_W l G k_M_four 0 (lv_args 0 [.ref r0, .long (((f_15 x1.toNatClampNeg) + 16).toInt64)]) [] b_19 m_4 (mm_is (.inl (some (.long y_23))) m_22)) (hb27 : b_25 + b_26 ≤ b_20) (g31 : m_22 r0 = .inr (8, fs_30)) (M32 : mm_W l G k_M_fits 0 (lv_args 0 [.ref r0, .int x1, .long y_5, .long y_23]) [] b_25 m_22 (mm_is (.inl (some (.int x_29))) m_28)) (h33 : (x_29 = 0) → mm_W l G k_M_isHead 283 [] [] b_26 m_28 Q) (h34 : (¬ x_29 = 0) → mm_W l G k_M_isHead 235 [(0, .ref r0), (1, .int x1), (2, .long y2)] [] b_26 m_28 Q) : mm_W l G k_M_isHead 204 [(0, .ref r0), (1, .int x1), (2, .long y2)] [] b m Q := by
  refine mm_aload_n 0 (i := 0) d_M_isHead_204 rfl rfl ?_
  refine mm_iload_n 1 (i := 1) d_M_isHead_205 rfl rfl ?_
  refine mm_aload_n 0 (i := 0) d_M_isHead_206 rfl rfl ?_
  refine mm_lload_n 2 (i := 2) d_M_isHead_207 rfl rfl ?_
  refine mm_ldc2 (v := 14) w_1033 d_M_isHead_208 ?_
  refine mm_ladd d_M_isHead_211 ?_
  refine mm_callV (as := [.long (y2 + 14)]) (st := [.int x1, .ref r0]) (b2 := b_2) ca_M_four w_975 w_977 v_M_four cc_M.1 rfl d_M_isHead_212 rfl (Nat.le_of_ble_eq_true rfl) (Nat.le_of_ble_eq_true rfl) (Nat.le_of_ble_eq_true rfl) hb3 g7 z8 M9 (fun E _ ⟨c, _⟩ => nomatch c) (fun v _ ⟨c, e⟩ => ?_)
  cases c
  rw [e]
  show mm_W l G k_M_isHead 215 [(0, .ref r0), (1, .int x1), (2, .long y2)] [.long y_5, .int x1, .ref r0] b_2 m_4 Q
  refine mm_aload_n 0 (i := 0) d_M_isHead_215 rfl rfl ?_
  refine mm_aload_n 0 (i := 0) d_M_isHead_216 rfl rfl ?_
  refine mm_get cc_M 23 (by decide) w_766 d_M_isHead_217 g11 z8 v13 ?_
  refine mm_iload_n 1 (i := 1) d_M_isHead_220 rfl rfl ?_
  refine mm_iald d_M_isHead_221 a16 z17 i18 ?_
  refine mm_bipush d_M_isHead_222 (v := 16) (by decide) ?_
  refine mm_iadd d_M_isHead_224 ?_
  refine mm_i2l d_M_isHead_225 ?_
  refine mm_callV (as := [.long (((f_15 x1.toNatClampNeg) + 16).toInt64)]) (st := [.long y_5, .int x1, .ref r0]) (b2 := b_20) ca_M_four w_975 w_977 v_M_four cc_M.1 rfl d_M_isHead_226 rfl (Nat.le_of_ble_eq_true rfl) (Nat.le_of_ble_eq_true rfl) (Nat.le_of_ble_eq_true rfl) hb21 g11 z8 M24 (fun E _ ⟨c, _⟩ => nomatch c) (fun v _ ⟨c, e⟩ => ?_)
  cases c
  rw [e]
  show mm_W l G k_M_isHead 229 [(0, .ref r0), (1, .int x1), (2, .long y2)] [.long y_23, .long y_5, .int x1, .ref r0] b_20 m_22 Q
  refine mm_callV (as := [.int x1, .long y_5, .long y_23]) (st := []) (b2 := b_26) ca_M_fits w_1034 w_1036 v_M_fits cc_M.1 rfl d_M_isHead_229 rfl (Nat.le_of_ble_eq_true rfl) (Nat.le_of_ble_eq_true rfl) (Nat.le_of_ble_eq_true rfl) hb27 g31 z8 M32 (fun E _ ⟨c, _⟩ => nomatch c) (fun v _ ⟨c, e⟩ => ?_)
  cases c
  rw [e]
  show mm_W l G k_M_isHead 232 [(0, .ref r0), (1, .int x1), (2, .long y2)] [.int x_29] b_26 m_28 Q
  exact mm_if_eq (tgt := 283) d_M_isHead_232 (by decide) (fun c => mm_sub [] rfl (h33 c)) (fun c => mm_sub [0, 1, 2] rfl (h34 c))
theorem t_M_isHead_235 {l : Launch} {G : mm_G} {b : Nat} {m : mm_Mem} {Q : mm_O → mm_Mem → Prop} {r0 : Nat} {x1 : Int32} {y2 : Int64} {b_1 : Nat} {b_2 : Nat} {m_4 : mm_Mem} {y_5 : Int64} {fs_6 : List Value} {b_10 : Nat} {b_11 : Nat} {m_13 : mm_Mem} {y_14 : Int64} {fs_15 : List Value} {b_18 : Nat} {b_19 : Nat} {m_21 : mm_Mem} {x_22 : Int32} {fs_23 : List Value} (hb3 : b_1 + b_2 ≤ b) (g7 : m r0 = .inr (8, fs_6)) (z8 : r0 ≠ 0) (M9 : mm_W l G k_M_four 0 (lv_args 0 [.ref r0, .long (y2 + 18)]) [] b_1 m (mm_is (.inl (some (.long y_5))) m_4)) (hb12 : b_10 + b_11 ≤ b_2) (g16 : m_4 r0 = .inr (8, fs_15)) (M17 : mm_W l G k_M_many 0 (lv_args 0 [.ref r0, .int x1]) [] b_10 m_4 (mm_is (.inl (some (.long y_14))) m_13)) (hb20 : b_18 + b_19 ≤ b_11) (g24 : m_13 r0 = .inr (8, fs_23)) (M25 : mm_W l G k_M_fits 0 (lv_args 0 [.ref r0, .int x1, .long y_5, .long y_14]) [] b_18 m_13 (mm_is (.inl (some (.int x_22))) m_21)) (h26 : (x_22 = 0) → mm_W l G k_M_isHead 283 [] [] b_19 m_21 Q) (h27 : (¬ x_22 = 0) → mm_W l G k_M_isHead 257 [(0, .ref r0), (1, .int x1), (2, .long y2)] [] b_19 m_21 Q) : mm_W l G k_M_isHead 235 [(0, .ref r0), (1, .int x1), (2, .long y2)] [] b m Q := by
  refine mm_aload_n 0 (i := 0) d_M_isHead_235 rfl rfl ?_
  refine mm_iload_n 1 (i := 1) d_M_isHead_236 rfl rfl ?_
  refine mm_aload_n 0 (i := 0) d_M_isHead_237 rfl rfl ?_
  refine mm_lload_n 2 (i := 2) d_M_isHead_238 rfl rfl ?_
  refine mm_ldc2 (v := 18) w_1038 d_M_isHead_239 ?_
  refine mm_ladd d_M_isHead_242 ?_
  refine mm_callV (as := [.long (y2 + 18)]) (st := [.int x1, .ref r0]) (b2 := b_2) ca_M_four w_975 w_977 v_M_four cc_M.1 rfl d_M_isHead_243 rfl (Nat.le_of_ble_eq_true rfl) (Nat.le_of_ble_eq_true rfl) (Nat.le_of_ble_eq_true rfl) hb3 g7 z8 M9 (fun E _ ⟨c, _⟩ => nomatch c) (fun v _ ⟨c, e⟩ => ?_)
  cases c
  rw [e]
  show mm_W l G k_M_isHead 246 [(0, .ref r0), (1, .int x1), (2, .long y2)] [.long y_5, .int x1, .ref r0] b_2 m_4 Q
  refine mm_aload_n 0 (i := 0) d_M_isHead_246 rfl rfl ?_
  refine mm_iload_n 1 (i := 1) d_M_isHead_247 rfl rfl ?_
  refine mm_callV (as := [.int x1]) (st := [.long y_5, .int x1, .ref r0]) (b2 := b_11) ca_M_many w_1015 w_1017 v_M_many cc_M.1 rfl d_M_isHead_248 rfl (Nat.le_of_ble_eq_true rfl) (Nat.le_of_ble_eq_true rfl) (Nat.le_of_ble_eq_true rfl) hb12 g16 z8 M17 (fun E _ ⟨c, _⟩ => nomatch c) (fun v _ ⟨c, e⟩ => ?_)
  cases c
  rw [e]
  show mm_W l G k_M_isHead 251 [(0, .ref r0), (1, .int x1), (2, .long y2)] [.long y_14, .long y_5, .int x1, .ref r0] b_11 m_13 Q
  refine mm_callV (as := [.int x1, .long y_5, .long y_14]) (st := []) (b2 := b_19) ca_M_fits w_1034 w_1036 v_M_fits cc_M.1 rfl d_M_isHead_251 rfl (Nat.le_of_ble_eq_true rfl) (Nat.le_of_ble_eq_true rfl) (Nat.le_of_ble_eq_true rfl) hb20 g24 z8 M25 (fun E _ ⟨c, _⟩ => nomatch c) (fun v _ ⟨c, e⟩ => ?_)
  cases c
  rw [e]
  show mm_W l G k_M_isHead 254 [(0, .ref r0), (1, .int x1), (2, .long y2)] [.int x_22] b_19 m_21 Q
  exact mm_if_eq (tgt := 283) d_M_isHead_254 (by decide) (fun c => mm_sub [] rfl (h26 c)) (fun c => mm_sub [0, 1, 2] rfl (h27 c))
theorem t_M_isHead_257 {l : Launch} {G : mm_G} {b : Nat} {m : mm_Mem} {Q : mm_O → mm_Mem → Prop} {r0 : Nat} {x1 : Int32} {y2 : Int64} {b_1 : Nat} {b_2 : Nat} {m_4 : mm_Mem} {y_5 : Int64} {fs_6 : List Value} {b_10 : Nat} {b_11 : Nat} {m_13 : mm_Mem} {y_14 : Int64} {fs_15 : List Value} {b_18 : Nat} {b_19 : Nat} {m_21 : mm_Mem} {x_22 : Int32} {fs_23 : List Value} (hb3 : b_1 + b_2 ≤ b) (g7 : m r0 = .inr (8, fs_6)) (z8 : r0 ≠ 0) (M9 : mm_W l G k_M_four 0 (lv_args 0 [.ref r0, .long (y2 + 22)]) [] b_1 m (mm_is (.inl (some (.long y_5))) m_4)) (hb12 : b_10 + b_11 ≤ b_2) (g16 : m_4 r0 = .inr (8, fs_15)) (M17 : mm_W l G k_M_size 0 (lv_args 0 [.ref r0, .int x1]) [] b_10 m_4 (mm_is (.inl (some (.long y_14))) m_13)) (hb20 : b_18 + b_19 ≤ b_11) (g24 : m_13 r0 = .inr (8, fs_23)) (M25 : mm_W l G k_M_fits 0 (lv_args 0 [.ref r0, .int x1, .long y_5, .long y_14]) [] b_18 m_13 (mm_is (.inl (some (.int x_22))) m_21)) (h26 : (x_22 = 0) → mm_W l G k_M_isHead 283 [] [] b_19 m_21 Q) (h27 : (¬ x_22 = 0) → mm_W l G k_M_isHead 279 [] [] b_19 m_21 Q) : mm_W l G k_M_isHead 257 [(0, .ref r0), (1, .int x1), (2, .long y2)] [] b m Q := by
  refine mm_aload_n 0 (i := 0) d_M_isHead_257 rfl rfl ?_
  refine mm_iload_n 1 (i := 1) d_M_isHead_258 rfl rfl ?_
  refine mm_aload_n 0 (i := 0) d_M_isHead_259 rfl rfl ?_
  refine mm_lload_n 2 (i := 2) d_M_isHead_260 rfl rfl ?_
  refine mm_ldc2 (v := 22) w_1039 d_M_isHead_261 ?_
  refine mm_ladd d_M_isHead_264 ?_
  refine mm_callV (as := [.long (y2 + 22)]) (st := [.int x1, .ref r0]) (b2 := b_2) ca_M_four w_975 w_977 v_M_four cc_M.1 rfl d_M_isHead_265 rfl (Nat.le_of_ble_eq_true rfl) (Nat.le_of_ble_eq_true rfl) (Nat.le_of_ble_eq_true rfl) hb3 g7 z8 M9 (fun E _ ⟨c, _⟩ => nomatch c) (fun v _ ⟨c, e⟩ => ?_)
  cases c
  rw [e]
  show mm_W l G k_M_isHead 268 [(0, .ref r0), (1, .int x1), (2, .long y2)] [.long y_5, .int x1, .ref r0] b_2 m_4 Q
  refine mm_aload_n 0 (i := 0) d_M_isHead_268 rfl rfl ?_
  refine mm_iload_n 1 (i := 1) d_M_isHead_269 rfl rfl ?_
  refine mm_callV (as := [.int x1]) (st := [.long y_5, .int x1, .ref r0]) (b2 := b_11) ca_M_size w_1019 w_1021 v_M_size cc_M.1 rfl d_M_isHead_270 rfl (Nat.le_of_ble_eq_true rfl) (Nat.le_of_ble_eq_true rfl) (Nat.le_of_ble_eq_true rfl) hb12 g16 z8 M17 (fun E _ ⟨c, _⟩ => nomatch c) (fun v _ ⟨c, e⟩ => ?_)
  cases c
  rw [e]
  show mm_W l G k_M_isHead 273 [(0, .ref r0), (1, .int x1), (2, .long y2)] [.long y_14, .long y_5, .int x1, .ref r0] b_11 m_13 Q
  refine mm_callV (as := [.int x1, .long y_5, .long y_14]) (st := []) (b2 := b_19) ca_M_fits w_1034 w_1036 v_M_fits cc_M.1 rfl d_M_isHead_273 rfl (Nat.le_of_ble_eq_true rfl) (Nat.le_of_ble_eq_true rfl) (Nat.le_of_ble_eq_true rfl) hb20 g24 z8 M25 (fun E _ ⟨c, _⟩ => nomatch c) (fun v _ ⟨c, e⟩ => ?_)
  cases c
  rw [e]
  show mm_W l G k_M_isHead 276 [(0, .ref r0), (1, .int x1), (2, .long y2)] [.int x_22] b_19 m_21 Q
  exact mm_if_eq (tgt := 283) d_M_isHead_276 (by decide) (fun c => mm_sub [] rfl (h26 c)) (fun c => mm_sub [] rfl (h27 c))
theorem t_M_isHead_279 {l : Launch} {G : mm_G} {b : Nat} {m : mm_Mem} {Q : mm_O → mm_Mem → Prop}  (h1 : mm_W l G k_M_isHead 284 [] [.int 1] b m Q) : mm_W l G k_M_isHead 279 [] [] b m Q := by
  refine mm_iconst d_M_isHead_279 (v := 1) (by decide) ?_
  refine mm_goto (tgt := 284) d_M_isHead_280 (by decide) ?_
  exact mm_sub [] rfl h1
theorem t_M_isHead_283 {l : Launch} {G : mm_G} {b : Nat} {m : mm_Mem} {Q : mm_O → mm_Mem → Prop}  (h1 : mm_W l G k_M_isHead 284 [] [.int 0] b m Q) : mm_W l G k_M_isHead 283 [] [] b m Q := by
  refine mm_iconst d_M_isHead_283 (v := 0) (by decide) ?_
  exact mm_sub [] rfl h1
theorem t_M_isHead_284 {l : Launch} {G : mm_G} {b : Nat} {m : mm_Mem} {Q : mm_O → mm_Mem → Prop} {xs0 : Int32} (h1 : Q (.inl (some (.int xs0))) m) (hn2 : narrow .boolean (.int xs0) = .int xs0) : mm_W l G k_M_isHead 284 [] [.int xs0] b m Q := by
  exact mm_zret d_M_isHead_284 rfl hn2 h1
theorem t_M_isBody_0 {l : Launch} {G : mm_G} {b : Nat} {m : mm_Mem} {Q : mm_O → mm_Mem → Prop} {r0 : Nat} {x1 : Int32} {fs_1 : List Value} {q_4 : Nat} {n_6 : Nat} {f_7 : Nat → Int64} {b_11 : Nat} {b_12 : Nat} {m_14 : mm_Mem} {y_15 : Int64} {fs_17 : List Value} {q_19 : Nat} {n_21 : Nat} {f_22 : Nat → Int64} {fs_26 : List Value} {v_28 : Int64} (g2 : m r0 = .inr (8, fs_1)) (z3 : r0 ≠ 0) (v5 : fs_1[25]? = some (.ref q_4)) (a8 : m q_4 = .inl (G.2 2, n_6, .inr (.inl f_7))) (z9 : q_4 ≠ 0) (i10 : vp_in x1 n_6) (hb13 : b_11 + b_12 ≤ b) (M16 : mm_W l G k_M_many 0 (lv_args 0 [.ref r0, .int x1]) [] b_11 m (mm_is (.inl (some (.long y_15))) m_14)) (g18 : m_14 r0 = .inr (8, fs_17)) (v20 : fs_17[26]? = some (.ref q_19)) (a23 : m_14 q_19 = .inl (G.2 2, n_21, .inr (.inl f_22))) (z24 : q_19 ≠ 0) (i25 : vp_in x1 n_21) (g27 : (va_up m_14 q_19 (.inl (G.2 2, n_21, .inr (.inl (vp_updL f_22 x1.toNatClampNeg ((f_7 x1.toNatClampNeg) + y_15)))))) r0 = .inr (8, fs_26)) (v29 : fs_26[21]? = some (.long v_28)) (h30 : (0 < (lg_cmp ((f_7 x1.toNatClampNeg) + y_15) v_28)) → mm_W l G k_M_isBody 40 [(0, .ref r0), (2, .long ((f_7 x1.toNatClampNeg) + y_15))] [] b_12 (va_up m_14 q_19 (.inl (G.2 2, n_21, .inr (.inl (vp_updL f_22 x1.toNatClampNeg ((f_7 x1.toNatClampNeg) + y_15)))))) Q) (h31 : (¬ 0 < (lg_cmp ((f_7 x1.toNatClampNeg) + y_15) v_28)) → mm_W l G k_M_isBody 29 [(0, .ref r0), (1, .int x1), (2, .long ((f_7 x1.toNatClampNeg) + y_15))] [] b_12 (va_up m_14 q_19 (.inl (G.2 2, n_21, .inr (.inl (vp_updL f_22 x1.toNatClampNeg ((f_7 x1.toNatClampNeg) + y_15)))))) Q) : mm_W l G k_M_isBody 0 [(0, .ref r0), (1, .int x1)] [] b m Q := by
  refine mm_aload_n 0 (i := 0) d_M_isBody_0 rfl rfl ?_
  refine mm_get cc_M 25 (by decide) w_768 d_M_isBody_1 g2 z3 v5 ?_
  refine mm_iload_n 1 (i := 1) d_M_isBody_4 rfl rfl ?_
  refine mm_lald d_M_isBody_5 a8 z9 i10 ?_
  refine mm_aload_n 0 (i := 0) d_M_isBody_6 rfl rfl ?_
  refine mm_iload_n 1 (i := 1) d_M_isBody_7 rfl rfl ?_
  refine mm_callV (as := [.int x1]) (st := [.long (f_7 x1.toNatClampNeg)]) (b2 := b_12) ca_M_many w_1015 w_1017 v_M_many cc_M.1 rfl d_M_isBody_8 rfl (Nat.le_of_ble_eq_true rfl) (Nat.le_of_ble_eq_true rfl) (Nat.le_of_ble_eq_true rfl) hb13 g2 z3 M16 (fun E _ ⟨c, _⟩ => nomatch c) (fun v _ ⟨c, e⟩ => ?_)
  cases c
  rw [e]
  show mm_W l G k_M_isBody 11 [(0, .ref r0), (1, .int x1)] [.long y_15, .long (f_7 x1.toNatClampNeg)] b_12 m_14 Q
  refine mm_ladd d_M_isBody_11 ?_
  refine mm_lstore_n (i := 2) d_M_isBody_12 rfl (Nat.le_of_ble_eq_true rfl) (lv2 := [(2, .long ((f_7 x1.toNatClampNeg) + y_15)), (0, .ref r0), (1, .int x1)]) rfl ?_
  refine mm_aload_n 1 (i := 0) d_M_isBody_13 rfl rfl ?_
  refine mm_get cc_M 26 (by decide) w_769 d_M_isBody_14 g18 z3 v20 ?_
  refine mm_iload_n 2 (i := 1) d_M_isBody_17 rfl rfl ?_
  refine mm_lload_n 0 (i := 2) d_M_isBody_18 rfl rfl ?_
  refine mm_last d_M_isBody_19 a23 z24 i25 ?_
  refine mm_lload_n 0 (i := 2) d_M_isBody_20 rfl rfl ?_
  refine mm_aload_n 1 (i := 0) d_M_isBody_21 rfl rfl ?_
  refine mm_get cc_M 21 (by decide) w_764 d_M_isBody_22 g27 z3 v29 ?_
  refine mm_lcmp d_M_isBody_25 ?_
  exact mm_if_gt (tgt := 40) d_M_isBody_26 (by decide) (fun c => mm_sub [1, 0] rfl (h30 c)) (fun c => mm_sub [1, 2, 0] rfl (h31 c))
theorem t_M_isBody_29 {l : Launch} {G : mm_G} {b : Nat} {m : mm_Mem} {Q : mm_O → mm_Mem → Prop} {r0 : Nat} {x1 : Int32} {y2 : Int64} {b_1 : Nat} {b_2 : Nat} {m_4 : mm_Mem} {x_5 : Int32} {fs_6 : List Value} (hb3 : b_1 + b_2 ≤ b) (g7 : m r0 = .inr (8, fs_6)) (z8 : r0 ≠ 0) (M9 : mm_W l G k_M_flags 0 (lv_args 0 [.ref r0, .int x1]) [] b_1 m (mm_is (.inl (some (.int x_5))) m_4)) (h10 : (¬ (x_5 &&& 8) = 0) → mm_W l G k_M_isBody 55 [(0, .ref r0), (1, .int x1), (2, .long y2)] [] b_2 m_4 Q) (h11 : ((x_5 &&& 8) = 0) → mm_W l G k_M_isBody 40 [(0, .ref r0), (2, .long y2)] [] b_2 m_4 Q) : mm_W l G k_M_isBody 29 [(0, .ref r0), (1, .int x1), (2, .long y2)] [] b m Q := by
  refine mm_aload_n 0 (i := 0) d_M_isBody_29 rfl rfl ?_
  refine mm_iload_n 1 (i := 1) d_M_isBody_30 rfl rfl ?_
  refine mm_callV (as := [.int x1]) (st := []) (b2 := b_2) ca_M_flags w_1002 w_1004 v_M_flags cc_M.1 rfl d_M_isBody_31 rfl (Nat.le_of_ble_eq_true rfl) (Nat.le_of_ble_eq_true rfl) (Nat.le_of_ble_eq_true rfl) hb3 g7 z8 M9 (fun E _ ⟨c, _⟩ => nomatch c) (fun v _ ⟨c, e⟩ => ?_)
  cases c
  rw [e]
  show mm_W l G k_M_isBody 34 [(0, .ref r0), (1, .int x1), (2, .long y2)] [.int x_5] b_2 m_4 Q
  refine mm_bipush d_M_isBody_34 (v := 8) (by decide) ?_
  refine mm_iand d_M_isBody_36 ?_
  exact mm_if_ne (tgt := 55) d_M_isBody_37 (by decide) (fun c => mm_sub [0, 1, 2] rfl (h10 c)) (fun c => mm_sub [0, 2] rfl (h11 c))
theorem t_M_isBody_40 {l : Launch} {G : mm_G} {b : Nat} {m : mm_Mem} {Q : mm_O → mm_Mem → Prop} {r0 : Nat} {y2 : Int64} {fs_1 : List Value} {v_4 : Int64} (g2 : m r0 = .inr (8, fs_1)) (z3 : r0 ≠ 0) (v5 : fs_1[21]? = some (.long v_4)) (h6 : (0 < (lg_cmp y2 v_4)) → mm_W l G k_M_isBody 53 [] [] b m Q) (h7 : (¬ 0 < (lg_cmp y2 v_4)) → mm_W l G k_M_isBody 49 [] [] b m Q) : mm_W l G k_M_isBody 40 [(0, .ref r0), (2, .long y2)] [] b m Q := by
  refine mm_lload_n 1 (i := 2) d_M_isBody_40 rfl rfl ?_
  refine mm_aload_n 0 (i := 0) d_M_isBody_41 rfl rfl ?_
  refine mm_get cc_M 21 (by decide) w_764 d_M_isBody_42 g2 z3 v5 ?_
  refine mm_lcmp d_M_isBody_45 ?_
  exact mm_if_gt (tgt := 53) d_M_isBody_46 (by decide) (fun c => mm_sub [] rfl (h6 c)) (fun c => mm_sub [] rfl (h7 c))
theorem t_M_isBody_49 {l : Launch} {G : mm_G} {b : Nat} {m : mm_Mem} {Q : mm_O → mm_Mem → Prop}  (h1 : mm_W l G k_M_isBody 54 [] [.int 1] b m Q) : mm_W l G k_M_isBody 49 [] [] b m Q := by
  refine mm_iconst d_M_isBody_49 (v := 1) (by decide) ?_
  refine mm_goto (tgt := 54) d_M_isBody_50 (by decide) ?_
  exact mm_sub [] rfl h1
theorem t_M_isBody_53 {l : Launch} {G : mm_G} {b : Nat} {m : mm_Mem} {Q : mm_O → mm_Mem → Prop}  (h1 : mm_W l G k_M_isBody 54 [] [.int 0] b m Q) : mm_W l G k_M_isBody 53 [] [] b m Q := by
  refine mm_iconst d_M_isBody_53 (v := 0) (by decide) ?_
  exact mm_sub [] rfl h1
theorem t_M_isBody_54 {l : Launch} {G : mm_G} {b : Nat} {m : mm_Mem} {Q : mm_O → mm_Mem → Prop} {xs0 : Int32} (h1 : Q (.inl (some (.int xs0))) m) (hn2 : narrow .boolean (.int xs0) = .int xs0) : mm_W l G k_M_isBody 54 [] [.int xs0] b m Q := by
  exact mm_zret d_M_isBody_54 rfl hn2 h1
theorem t_M_isBody_55 {l : Launch} {G : mm_G} {b : Nat} {m : mm_Mem} {Q : mm_O → mm_Mem → Prop} {r0 : Nat} {x1 : Int32} {y2 : Int64} {fs_1 : List Value} {u_4 : Int32} (g2 : m r0 = .inr (8, fs_1)) (z3 : r0 ≠ 0) (v5 : fs_1[1]? = some (.int u_4)) (h6 : (0 < (lg_cmp (y2 + 4) u_4.toInt64)) → mm_W l G k_M_isBody 89 [(0, .ref r0), (1, .int x1), (2, .long y2)] [] b m Q) (h7 : (¬ 0 < (lg_cmp (y2 + 4) u_4.toInt64)) → mm_W l G k_M_isBody 69 [(0, .ref r0), (1, .int x1), (2, .long y2)] [] b m Q) : mm_W l G k_M_isBody 55 [(0, .ref r0), (1, .int x1), (2, .long y2)] [] b m Q := by
  refine mm_lload_n 2 (i := 2) d_M_isBody_55 rfl rfl ?_
  refine mm_ldc2 (v := 4) w_1044 d_M_isBody_56 ?_
  refine mm_ladd d_M_isBody_59 ?_
  refine mm_aload_n 0 (i := 0) d_M_isBody_60 rfl rfl ?_
  refine mm_get cc_M 1 (by decide) w_744 d_M_isBody_61 g2 z3 v5 ?_
  refine mm_i2l d_M_isBody_64 ?_
  refine mm_lcmp d_M_isBody_65 ?_
  exact mm_if_gt (tgt := 89) d_M_isBody_66 (by decide) (fun c => mm_sub [0, 1, 2] rfl (h6 c)) (fun c => mm_sub [0, 1, 2] rfl (h7 c))
theorem t_M_isBody_69 {l : Launch} {G : mm_G} {b : Nat} {m : mm_Mem} {Q : mm_O → mm_Mem → Prop} {r0 : Nat} {x1 : Int32} {y2 : Int64} {b_1 : Nat} {b_2 : Nat} {m_4 : mm_Mem} {y_5 : Int64} {fs_6 : List Value} (hb3 : b_1 + b_2 ≤ b) (g7 : m r0 = .inr (8, fs_6)) (z8 : r0 ≠ 0) (M9 : mm_W l G k_M_four 0 (lv_args 0 [.ref r0, .long y2]) [] b_1 m (mm_is (.inl (some (.long y_5))) m_4)) (h10 : (¬ (lg_cmp y_5 134695760) = 0) → mm_W l G k_M_isBody 89 [(0, .ref r0), (1, .int x1), (2, .long y2)] [] b_2 m_4 Q) (h11 : ((lg_cmp y_5 134695760) = 0) → mm_W l G k_M_isBody 81 [(0, .ref r0), (1, .int x1), (2, .long y2)] [] b_2 m_4 Q) : mm_W l G k_M_isBody 69 [(0, .ref r0), (1, .int x1), (2, .long y2)] [] b m Q := by
  refine mm_aload_n 0 (i := 0) d_M_isBody_69 rfl rfl ?_
  refine mm_lload_n 2 (i := 2) d_M_isBody_70 rfl rfl ?_
  refine mm_callV (as := [.long y2]) (st := []) (b2 := b_2) ca_M_four w_975 w_977 v_M_four cc_M.1 rfl d_M_isBody_71 rfl (Nat.le_of_ble_eq_true rfl) (Nat.le_of_ble_eq_true rfl) (Nat.le_of_ble_eq_true rfl) hb3 g7 z8 M9 (fun E _ ⟨c, _⟩ => nomatch c) (fun v _ ⟨c, e⟩ => ?_)
  cases c
  rw [e]
  show mm_W l G k_M_isBody 74 [(0, .ref r0), (1, .int x1), (2, .long y2)] [.long y_5] b_2 m_4 Q
  refine mm_ldc2 (v := 134695760) w_1045 d_M_isBody_74 ?_
  refine mm_lcmp d_M_isBody_77 ?_
  exact mm_if_ne (tgt := 89) d_M_isBody_78 (by decide) (fun c => mm_sub [0, 1, 2] rfl (h10 c)) (fun c => mm_sub [0, 1, 2] rfl (h11 c))
theorem t_M_isBody_81 {l : Launch} {G : mm_G} {b : Nat} {m : mm_Mem} {Q : mm_O → mm_Mem → Prop} {r0 : Nat} {x1 : Int32} {y2 : Int64} (h1 : mm_W l G k_M_isBody 90 [(0, .ref r0), (1, .int x1)] [.long (y2 + 4)] b m Q) : mm_W l G k_M_isBody 81 [(0, .ref r0), (1, .int x1), (2, .long y2)] [] b m Q := by
  refine mm_lload_n 2 (i := 2) d_M_isBody_81 rfl rfl ?_
  refine mm_ldc2 (v := 4) w_1044 d_M_isBody_82 ?_
  refine mm_ladd d_M_isBody_85 ?_
  refine mm_goto (tgt := 90) d_M_isBody_86 (by decide) ?_
  exact mm_sub [0, 1] rfl h1
theorem t_M_isBody_89 {l : Launch} {G : mm_G} {b : Nat} {m : mm_Mem} {Q : mm_O → mm_Mem → Prop} {r0 : Nat} {x1 : Int32} {y2 : Int64} (h1 : mm_W l G k_M_isBody 90 [(0, .ref r0), (1, .int x1)] [.long y2] b m Q) : mm_W l G k_M_isBody 89 [(0, .ref r0), (1, .int x1), (2, .long y2)] [] b m Q := by
  refine mm_lload_n 2 (i := 2) d_M_isBody_89 rfl rfl ?_
  exact mm_sub [0, 1] rfl h1
theorem t_M_isBody_90 {l : Launch} {G : mm_G} {b : Nat} {m : mm_Mem} {Q : mm_O → mm_Mem → Prop} {r0 : Nat} {x1 : Int32} {ys0 : Int64} {fs_1 : List Value} {q_4 : Nat} {n_6 : Nat} {f_7 : Nat → Int64} {fs_11 : List Value} {v_13 : Int64} (g2 : m r0 = .inr (8, fs_1)) (z3 : r0 ≠ 0) (v5 : fs_1[26]? = some (.ref q_4)) (a8 : m q_4 = .inl (G.2 2, n_6, .inr (.inl f_7))) (z9 : q_4 ≠ 0) (i10 : vp_in x1 n_6) (g12 : (va_up m q_4 (.inl (G.2 2, n_6, .inr (.inl (vp_updL f_7 x1.toNatClampNeg (ys0 + 12)))))) r0 = .inr (8, fs_11)) (v14 : fs_11[21]? = some (.long v_13)) (h15 : (0 < (lg_cmp (ys0 + 12) v_13)) → mm_W l G k_M_isBody 184 [] [] b (va_up m q_4 (.inl (G.2 2, n_6, .inr (.inl (vp_updL f_7 x1.toNatClampNeg (ys0 + 12)))))) Q) (h16 : (¬ 0 < (lg_cmp (ys0 + 12) v_13)) → mm_W l G k_M_isBody 118 [(0, .ref r0), (1, .int x1), (4, .long ys0)] [] b (va_up m q_4 (.inl (G.2 2, n_6, .inr (.inl (vp_updL f_7 x1.toNatClampNeg (ys0 + 12)))))) Q) : mm_W l G k_M_isBody 90 [(0, .ref r0), (1, .int x1)] [.long ys0] b m Q := by
  refine mm_lstore (i := 4) d_M_isBody_90 (Nat.le_of_ble_eq_true rfl) (lv2 := [(4, .long ys0), (0, .ref r0), (1, .int x1)]) rfl ?_
  refine mm_aload_n 1 (i := 0) d_M_isBody_92 rfl rfl ?_
  refine mm_get cc_M 26 (by decide) w_769 d_M_isBody_93 g2 z3 v5 ?_
  refine mm_iload_n 2 (i := 1) d_M_isBody_96 rfl rfl ?_
  refine mm_lload 0 (i := 4) d_M_isBody_97 rfl ?_
  refine mm_ldc2 (v := 12) w_1046 d_M_isBody_99 ?_
  refine mm_ladd d_M_isBody_102 ?_
  refine mm_last d_M_isBody_103 a8 z9 i10 ?_
  refine mm_lload 0 (i := 4) d_M_isBody_104 rfl ?_
  refine mm_ldc2 (v := 12) w_1046 d_M_isBody_106 ?_
  refine mm_ladd d_M_isBody_109 ?_
  refine mm_aload_n 1 (i := 0) d_M_isBody_110 rfl rfl ?_
  refine mm_get cc_M 21 (by decide) w_764 d_M_isBody_111 g12 z3 v14 ?_
  refine mm_lcmp d_M_isBody_114 ?_
  exact mm_if_gt (tgt := 184) d_M_isBody_115 (by decide) (fun c => mm_sub [] rfl (h15 c)) (fun c => mm_sub [1, 2, 0] rfl (h16 c))
theorem t_M_isBody_118 {l : Launch} {G : mm_G} {b : Nat} {m : mm_Mem} {Q : mm_O → mm_Mem → Prop} {r0 : Nat} {x1 : Int32} {y4 : Int64} {b_1 : Nat} {b_2 : Nat} {m_4 : mm_Mem} {y_5 : Int64} {fs_6 : List Value} {fs_10 : List Value} {q_12 : Nat} {n_14 : Nat} {f_15 : Nat → Int32} {b_19 : Nat} {b_20 : Nat} {m_22 : mm_Mem} {y_23 : Int64} (hb3 : b_1 + b_2 ≤ b) (g7 : m r0 = .inr (8, fs_6)) (z8 : r0 ≠ 0) (M9 : mm_W l G k_M_four 0 (lv_args 0 [.ref r0, .long y4]) [] b_1 m (mm_is (.inl (some (.long y_5))) m_4)) (g11 : m_4 r0 = .inr (8, fs_10)) (v13 : fs_10[23]? = some (.ref q_12)) (a16 : m_4 q_12 = .inl (G.2 1, n_14, .inl f_15)) (z17 : q_12 ≠ 0) (i18 : vp_in x1 n_14) (hb21 : b_19 + b_20 ≤ b_2) (M24 : mm_W l G k_M_four 0 (lv_args 0 [.ref r0, .long (((f_15 x1.toNatClampNeg) + 16).toInt64)]) [] b_19 m_4 (mm_is (.inl (some (.long y_23))) m_22)) (h25 : (¬ (lg_cmp y_5 y_23) = 0) → mm_W l G k_M_isBody 184 [] [] b_20 m_22 Q) (h26 : ((lg_cmp y_5 y_23) = 0) → mm_W l G k_M_isBody 142 [(0, .ref r0), (1, .int x1), (4, .long y4)] [] b_20 m_22 Q) : mm_W l G k_M_isBody 118 [(0, .ref r0), (1, .int x1), (4, .long y4)] [] b m Q := by
  refine mm_aload_n 0 (i := 0) d_M_isBody_118 rfl rfl ?_
  refine mm_lload 2 (i := 4) d_M_isBody_119 rfl ?_
  refine mm_callV (as := [.long y4]) (st := []) (b2 := b_2) ca_M_four w_975 w_977 v_M_four cc_M.1 rfl d_M_isBody_121 rfl (Nat.le_of_ble_eq_true rfl) (Nat.le_of_ble_eq_true rfl) (Nat.le_of_ble_eq_true rfl) hb3 g7 z8 M9 (fun E _ ⟨c, _⟩ => nomatch c) (fun v _ ⟨c, e⟩ => ?_)
  cases c
  rw [e]
  show mm_W l G k_M_isBody 124 [(0, .ref r0), (1, .int x1), (4, .long y4)] [.long y_5] b_2 m_4 Q
  refine mm_aload_n 0 (i := 0) d_M_isBody_124 rfl rfl ?_
  refine mm_aload_n 0 (i := 0) d_M_isBody_125 rfl rfl ?_
  refine mm_get cc_M 23 (by decide) w_766 d_M_isBody_126 g11 z8 v13 ?_
  refine mm_iload_n 1 (i := 1) d_M_isBody_129 rfl rfl ?_
  refine mm_iald d_M_isBody_130 a16 z17 i18 ?_
  refine mm_bipush d_M_isBody_131 (v := 16) (by decide) ?_
  refine mm_iadd d_M_isBody_133 ?_
  refine mm_i2l d_M_isBody_134 ?_
  refine mm_callV (as := [.long (((f_15 x1.toNatClampNeg) + 16).toInt64)]) (st := [.long y_5]) (b2 := b_20) ca_M_four w_975 w_977 v_M_four cc_M.1 rfl d_M_isBody_135 rfl (Nat.le_of_ble_eq_true rfl) (Nat.le_of_ble_eq_true rfl) (Nat.le_of_ble_eq_true rfl) hb21 g11 z8 M24 (fun E _ ⟨c, _⟩ => nomatch c) (fun v _ ⟨c, e⟩ => ?_)
  cases c
  rw [e]
  show mm_W l G k_M_isBody 138 [(0, .ref r0), (1, .int x1), (4, .long y4)] [.long y_23, .long y_5] b_20 m_22 Q
  refine mm_lcmp d_M_isBody_138 ?_
  exact mm_if_ne (tgt := 184) d_M_isBody_139 (by decide) (fun c => mm_sub [] rfl (h25 c)) (fun c => mm_sub [0, 1, 2] rfl (h26 c))
theorem t_M_isBody_142 {l : Launch} {G : mm_G} {b : Nat} {m : mm_Mem} {Q : mm_O → mm_Mem → Prop} {r0 : Nat} {x1 : Int32} {y4 : Int64} {b_1 : Nat} {b_2 : Nat} {m_4 : mm_Mem} {y_5 : Int64} {fs_6 : List Value} {b_10 : Nat} {b_11 : Nat} {m_13 : mm_Mem} {y_14 : Int64} {fs_15 : List Value} (hb3 : b_1 + b_2 ≤ b) (g7 : m r0 = .inr (8, fs_6)) (z8 : r0 ≠ 0) (M9 : mm_W l G k_M_four 0 (lv_args 0 [.ref r0, .long (y4 + 4)]) [] b_1 m (mm_is (.inl (some (.long y_5))) m_4)) (hb12 : b_10 + b_11 ≤ b_2) (g16 : m_4 r0 = .inr (8, fs_15)) (M17 : mm_W l G k_M_many 0 (lv_args 0 [.ref r0, .int x1]) [] b_10 m_4 (mm_is (.inl (some (.long y_14))) m_13)) (h18 : (¬ (lg_cmp y_5 y_14) = 0) → mm_W l G k_M_isBody 184 [] [] b_11 m_13 Q) (h19 : ((lg_cmp y_5 y_14) = 0) → mm_W l G k_M_isBody 161 [(0, .ref r0), (1, .int x1), (4, .long y4)] [] b_11 m_13 Q) : mm_W l G k_M_isBody 142 [(0, .ref r0), (1, .int x1), (4, .long y4)] [] b m Q := by
  refine mm_aload_n 0 (i := 0) d_M_isBody_142 rfl rfl ?_
  refine mm_lload 2 (i := 4) d_M_isBody_143 rfl ?_
  refine mm_ldc2 (v := 4) w_1044 d_M_isBody_145 ?_
  refine mm_ladd d_M_isBody_148 ?_
  refine mm_callV (as := [.long (y4 + 4)]) (st := []) (b2 := b_2) ca_M_four w_975 w_977 v_M_four cc_M.1 rfl d_M_isBody_149 rfl (Nat.le_of_ble_eq_true rfl) (Nat.le_of_ble_eq_true rfl) (Nat.le_of_ble_eq_true rfl) hb3 g7 z8 M9 (fun E _ ⟨c, _⟩ => nomatch c) (fun v _ ⟨c, e⟩ => ?_)
  cases c
  rw [e]
  show mm_W l G k_M_isBody 152 [(0, .ref r0), (1, .int x1), (4, .long y4)] [.long y_5] b_2 m_4 Q
  refine mm_aload_n 0 (i := 0) d_M_isBody_152 rfl rfl ?_
  refine mm_iload_n 1 (i := 1) d_M_isBody_153 rfl rfl ?_
  refine mm_callV (as := [.int x1]) (st := [.long y_5]) (b2 := b_11) ca_M_many w_1015 w_1017 v_M_many cc_M.1 rfl d_M_isBody_154 rfl (Nat.le_of_ble_eq_true rfl) (Nat.le_of_ble_eq_true rfl) (Nat.le_of_ble_eq_true rfl) hb12 g16 z8 M17 (fun E _ ⟨c, _⟩ => nomatch c) (fun v _ ⟨c, e⟩ => ?_)
  cases c
  rw [e]
  show mm_W l G k_M_isBody 157 [(0, .ref r0), (1, .int x1), (4, .long y4)] [.long y_14, .long y_5] b_11 m_13 Q
  refine mm_lcmp d_M_isBody_157 ?_
  exact mm_if_ne (tgt := 184) d_M_isBody_158 (by decide) (fun c => mm_sub [] rfl (h18 c)) (fun c => mm_sub [0, 1, 2] rfl (h19 c))
theorem t_M_isBody_161 {l : Launch} {G : mm_G} {b : Nat} {m : mm_Mem} {Q : mm_O → mm_Mem → Prop} {r0 : Nat} {x1 : Int32} {y4 : Int64} {b_1 : Nat} {b_2 : Nat} {m_4 : mm_Mem} {y_5 : Int64} {fs_6 : List Value} {b_10 : Nat} {b_11 : Nat} {m_13 : mm_Mem} {y_14 : Int64} {fs_15 : List Value} (hb3 : b_1 + b_2 ≤ b) (g7 : m r0 = .inr (8, fs_6)) (z8 : r0 ≠ 0) (M9 : mm_W l G k_M_four 0 (lv_args 0 [.ref r0, .long (y4 + 8)]) [] b_1 m (mm_is (.inl (some (.long y_5))) m_4)) (hb12 : b_10 + b_11 ≤ b_2) (g16 : m_4 r0 = .inr (8, fs_15)) (M17 : mm_W l G k_M_size 0 (lv_args 0 [.ref r0, .int x1]) [] b_10 m_4 (mm_is (.inl (some (.long y_14))) m_13)) (h18 : (¬ (lg_cmp y_5 y_14) = 0) → mm_W l G k_M_isBody 184 [] [] b_11 m_13 Q) (h19 : ((lg_cmp y_5 y_14) = 0) → mm_W l G k_M_isBody 180 [] [] b_11 m_13 Q) : mm_W l G k_M_isBody 161 [(0, .ref r0), (1, .int x1), (4, .long y4)] [] b m Q := by
  refine mm_aload_n 0 (i := 0) d_M_isBody_161 rfl rfl ?_
  refine mm_lload 2 (i := 4) d_M_isBody_162 rfl ?_
  refine mm_ldc2 (v := 8) w_1032 d_M_isBody_164 ?_
  refine mm_ladd d_M_isBody_167 ?_
  refine mm_callV (as := [.long (y4 + 8)]) (st := []) (b2 := b_2) ca_M_four w_975 w_977 v_M_four cc_M.1 rfl d_M_isBody_168 rfl (Nat.le_of_ble_eq_true rfl) (Nat.le_of_ble_eq_true rfl) (Nat.le_of_ble_eq_true rfl) hb3 g7 z8 M9 (fun E _ ⟨c, _⟩ => nomatch c) (fun v _ ⟨c, e⟩ => ?_)
  cases c
  rw [e]
  show mm_W l G k_M_isBody 171 [(0, .ref r0), (1, .int x1), (4, .long y4)] [.long y_5] b_2 m_4 Q
  refine mm_aload_n 0 (i := 0) d_M_isBody_171 rfl rfl ?_
  refine mm_iload_n 1 (i := 1) d_M_isBody_172 rfl rfl ?_
  refine mm_callV (as := [.int x1]) (st := [.long y_5]) (b2 := b_11) ca_M_size w_1019 w_1021 v_M_size cc_M.1 rfl d_M_isBody_173 rfl (Nat.le_of_ble_eq_true rfl) (Nat.le_of_ble_eq_true rfl) (Nat.le_of_ble_eq_true rfl) hb12 g16 z8 M17 (fun E _ ⟨c, _⟩ => nomatch c) (fun v _ ⟨c, e⟩ => ?_)
  cases c
  rw [e]
  show mm_W l G k_M_isBody 176 [(0, .ref r0), (1, .int x1), (4, .long y4)] [.long y_14, .long y_5] b_11 m_13 Q
  refine mm_lcmp d_M_isBody_176 ?_
  exact mm_if_ne (tgt := 184) d_M_isBody_177 (by decide) (fun c => mm_sub [] rfl (h18 c)) (fun c => mm_sub [] rfl (h19 c))
theorem t_M_isBody_180 {l : Launch} {G : mm_G} {b : Nat} {m : mm_Mem} {Q : mm_O → mm_Mem → Prop}  (h1 : mm_W l G k_M_isBody 185 [] [.int 1] b m Q) : mm_W l G k_M_isBody 180 [] [] b m Q := by
  refine mm_iconst d_M_isBody_180 (v := 1) (by decide) ?_
  refine mm_goto (tgt := 185) d_M_isBody_181 (by decide) ?_
  exact mm_sub [] rfl h1
theorem t_M_isBody_184 {l : Launch} {G : mm_G} {b : Nat} {m : mm_Mem} {Q : mm_O → mm_Mem → Prop}  (h1 : mm_W l G k_M_isBody 185 [] [.int 0] b m Q) : mm_W l G k_M_isBody 184 [] [] b m Q := by
  refine mm_iconst d_M_isBody_184 (v := 0) (by decide) ?_
  exact mm_sub [] rfl h1
theorem t_M_isBody_185 {l : Launch} {G : mm_G} {b : Nat} {m : mm_Mem} {Q : mm_O → mm_Mem → Prop} {xs0 : Int32} (h1 : Q (.inl (some (.int xs0))) m) (hn2 : narrow .boolean (.int xs0) = .int xs0) : mm_W l G k_M_isBody 185 [] [.int xs0] b m Q := by
  exact mm_zret d_M_isBody_185 rfl hn2 h1
theorem t_M_firstLeft_0 {l : Launch} {G : mm_G} {b : Nat} {m : mm_Mem} {Q : mm_O → mm_Mem → Prop} {r0 : Nat} (h1 : mm_W l G k_M_firstLeft 4 [(0, .ref r0), (1, .int ((-1))), (2, .int 0)] [] b m Q) : mm_W l G k_M_firstLeft 0 [(0, .ref r0)] [] b m Q := by
  refine mm_iconst d_M_firstLeft_0 (v := (-1)) (by decide) ?_
  refine mm_istore_n (i := 1) d_M_firstLeft_1 rfl (Nat.le_of_ble_eq_true rfl) (lv2 := [(1, .int ((-1))), (0, .ref r0)]) rfl ?_
  refine mm_iconst d_M_firstLeft_2 (v := 0) (by decide) ?_
  refine mm_istore_n (i := 2) d_M_firstLeft_3 rfl (Nat.le_of_ble_eq_true rfl) (lv2 := [(2, .int 0), (1, .int ((-1))), (0, .ref r0)]) rfl ?_
  exact mm_sub [2, 1, 0] rfl h1
theorem t_M_firstLeft_4 {l : Launch} {G : mm_G} {b : Nat} {m : mm_Mem} {Q : mm_O → mm_Mem → Prop} {r0 : Nat} {x1 : Int32} {x2 : Int32} {fs_1 : List Value} {u_4 : Int32} (g2 : m r0 = .inr (8, fs_1)) (z3 : r0 ≠ 0) (v5 : fs_1[22]? = some (.int u_4)) (h6 : (u_4 ≤ x2) → mm_W l G k_M_firstLeft 53 [(1, .int x1)] [] b m Q) (h7 : (¬ u_4 ≤ x2) → mm_W l G k_M_firstLeft 12 [(0, .ref r0), (1, .int x1), (2, .int x2)] [] b m Q) : mm_W l G k_M_firstLeft 4 [(0, .ref r0), (1, .int x1), (2, .int x2)] [] b m Q := by
  refine mm_iload_n 2 (i := 2) d_M_firstLeft_4 rfl rfl ?_
  refine mm_aload_n 0 (i := 0) d_M_firstLeft_5 rfl rfl ?_
  refine mm_get cc_M 22 (by decide) w_765 d_M_firstLeft_6 g2 z3 v5 ?_
  exact mm_icmp_ge (tgt := 53) d_M_firstLeft_9 (by decide) (fun c => mm_sub [1] rfl (h6 c)) (fun c => mm_sub [0, 1, 2] rfl (h7 c))
theorem t_M_firstLeft_12 {l : Launch} {G : mm_G} {b : Nat} {m : mm_Mem} {Q : mm_O → mm_Mem → Prop} {r0 : Nat} {x1 : Int32} {x2 : Int32} {fs_1 : List Value} {q_4 : Nat} {n_6 : Nat} {f_7 : Nat → Int32} (g2 : m r0 = .inr (8, fs_1)) (z3 : r0 ≠ 0) (v5 : fs_1[27]? = some (.ref q_4)) (a8 : m q_4 = .inl (G.2 3, n_6, .inl f_7)) (z9 : q_4 ≠ 0) (i10 : vp_in x2 n_6) (h11 : (¬ (f_7 x2.toNatClampNeg) = 0) → mm_W l G k_M_firstLeft 45 [(0, .ref r0), (1, .int x1), (2, .int x2)] [] b m Q) (h12 : ((f_7 x2.toNatClampNeg) = 0) → mm_W l G k_M_firstLeft 21 [(0, .ref r0), (1, .int x1), (2, .int x2)] [] b m Q) : mm_W l G k_M_firstLeft 12 [(0, .ref r0), (1, .int x1), (2, .int x2)] [] b m Q := by
  refine mm_aload_n 0 (i := 0) d_M_firstLeft_12 rfl rfl ?_
  refine mm_get cc_M 27 (by decide) w_770 d_M_firstLeft_13 g2 z3 v5 ?_
  refine mm_iload_n 2 (i := 2) d_M_firstLeft_16 rfl rfl ?_
  refine mm_zald d_M_firstLeft_17 a8 z9 i10 ?_
  exact mm_if_ne (tgt := 45) d_M_firstLeft_18 (by decide) (fun c => mm_sub [0, 1, 2] rfl (h11 c)) (fun c => mm_sub [0, 1, 2] rfl (h12 c))
theorem t_M_firstLeft_21 {l : Launch} {G : mm_G} {b : Nat} {m : mm_Mem} {Q : mm_O → mm_Mem → Prop} {r0 : Nat} {x1 : Int32} {x2 : Int32} (h1 : (x1 < 0) → mm_W l G k_M_firstLeft 41 [(0, .ref r0), (2, .int x2)] [] b m Q) (h2 : (¬ x1 < 0) → mm_W l G k_M_firstLeft 25 [(0, .ref r0), (1, .int x1), (2, .int x2)] [] b m Q) : mm_W l G k_M_firstLeft 21 [(0, .ref r0), (1, .int x1), (2, .int x2)] [] b m Q := by
  refine mm_iload_n 1 (i := 1) d_M_firstLeft_21 rfl rfl ?_
  exact mm_if_lt (tgt := 41) d_M_firstLeft_22 (by decide) (fun c => mm_sub [0, 2] rfl (h1 c)) (fun c => mm_sub [0, 1, 2] rfl (h2 c))
theorem t_M_firstLeft_25 {l : Launch} {G : mm_G} {b : Nat} {m : mm_Mem} {Q : mm_O → mm_Mem → Prop} {r0 : Nat} {x1 : Int32} {x2 : Int32} {fs_1 : List Value} {q_4 : Nat} {n_6 : Nat} {f_7 : Nat → Int64} (g2 : m r0 = .inr (8, fs_1)) (z3 : r0 ≠ 0) (v5 : fs_1[24]? = some (.ref q_4)) (a8 : m q_4 = .inl (G.2 2, n_6, .inr (.inl f_7))) (z9 : q_4 ≠ 0) (i10 : vp_in x2 n_6) (i11 : vp_in x1 n_6) (h12 : (0 ≤ (lg_cmp (f_7 x2.toNatClampNeg) (f_7 x1.toNatClampNeg))) → mm_W l G k_M_firstLeft 45 [(0, .ref r0), (1, .int x1), (2, .int x2)] [] b m Q) (h13 : (¬ 0 ≤ (lg_cmp (f_7 x2.toNatClampNeg) (f_7 x1.toNatClampNeg))) → mm_W l G k_M_firstLeft 41 [(0, .ref r0), (2, .int x2)] [] b m Q) : mm_W l G k_M_firstLeft 25 [(0, .ref r0), (1, .int x1), (2, .int x2)] [] b m Q := by
  refine mm_aload_n 0 (i := 0) d_M_firstLeft_25 rfl rfl ?_
  refine mm_get cc_M 24 (by decide) w_767 d_M_firstLeft_26 g2 z3 v5 ?_
  refine mm_iload_n 2 (i := 2) d_M_firstLeft_29 rfl rfl ?_
  refine mm_lald d_M_firstLeft_30 a8 z9 i10 ?_
  refine mm_aload_n 0 (i := 0) d_M_firstLeft_31 rfl rfl ?_
  refine mm_get cc_M 24 (by decide) w_767 d_M_firstLeft_32 g2 z3 v5 ?_
  refine mm_iload_n 1 (i := 1) d_M_firstLeft_35 rfl rfl ?_
  refine mm_lald d_M_firstLeft_36 a8 z9 i11 ?_
  refine mm_lcmp d_M_firstLeft_37 ?_
  exact mm_if_ge (tgt := 45) d_M_firstLeft_38 (by decide) (fun c => mm_sub [0, 1, 2] rfl (h12 c)) (fun c => mm_sub [0, 2] rfl (h13 c))
theorem t_M_firstLeft_41 {l : Launch} {G : mm_G} {b : Nat} {m : mm_Mem} {Q : mm_O → mm_Mem → Prop} {r0 : Nat} {x2 : Int32} (h1 : mm_W l G k_M_firstLeft 46 [(0, .ref r0), (2, .int x2)] [.int x2] b m Q) : mm_W l G k_M_firstLeft 41 [(0, .ref r0), (2, .int x2)] [] b m Q := by
  refine mm_iload_n 1 (i := 2) d_M_firstLeft_41 rfl rfl ?_
  refine mm_goto (tgt := 46) d_M_firstLeft_42 (by decide) ?_
  exact mm_sub [0, 1] rfl h1
theorem t_M_firstLeft_45 {l : Launch} {G : mm_G} {b : Nat} {m : mm_Mem} {Q : mm_O → mm_Mem → Prop} {r0 : Nat} {x1 : Int32} {x2 : Int32} (h1 : mm_W l G k_M_firstLeft 46 [(0, .ref r0), (2, .int x2)] [.int x1] b m Q) : mm_W l G k_M_firstLeft 45 [(0, .ref r0), (1, .int x1), (2, .int x2)] [] b m Q := by
  refine mm_iload_n 1 (i := 1) d_M_firstLeft_45 rfl rfl ?_
  exact mm_sub [0, 2] rfl h1
theorem t_M_firstLeft_46 {l : Launch} {G : mm_G} {b : Nat} {m : mm_Mem} {Q : mm_O → mm_Mem → Prop} {r0 : Nat} {x2 : Int32} {xs0 : Int32} (h1 : mm_W l G k_M_firstLeft 4 [(0, .ref r0), (1, .int xs0), (2, .int (x2 + 1))] [] b m Q) : mm_W l G k_M_firstLeft 46 [(0, .ref r0), (2, .int x2)] [.int xs0] b m Q := by
  refine mm_istore_n (i := 1) d_M_firstLeft_46 rfl (Nat.le_of_ble_eq_true rfl) (lv2 := [(1, .int xs0), (0, .ref r0), (2, .int x2)]) rfl ?_
  refine mm_iinc 2 (i := 2) d_M_firstLeft_47 rfl (v := x2 + 1) rfl (Nat.le_of_ble_eq_true rfl) (lv2 := [(2, .int (x2 + 1)), (1, .int xs0), (0, .ref r0)]) rfl ?_
  refine mm_goto (tgt := 4) d_M_firstLeft_50 (by decide) ?_
  exact mm_sub [2, 1, 0] rfl h1
theorem t_M_firstLeft_53 {l : Launch} {G : mm_G} {b : Nat} {m : mm_Mem} {Q : mm_O → mm_Mem → Prop} {x1 : Int32} (h1 : Q (.inl (some (.int x1))) m) : mm_W l G k_M_firstLeft 53 [(1, .int x1)] [] b m Q := by
  refine mm_iload_n 0 (i := 1) d_M_firstLeft_53 rfl rfl ?_
  exact mm_iret d_M_firstLeft_54 rfl h1
theorem t_M_readGaps_0 {l : Launch} {G : mm_G} {b : Nat} {m : mm_Mem} {Q : mm_O → mm_Mem → Prop} {r0 : Nat} (h1 : mm_W l G k_M_readGaps 2 [(0, .ref r0), (1, .int 0)] [] b m Q) : mm_W l G k_M_readGaps 0 [(0, .ref r0)] [] b m Q := by
  refine mm_iconst d_M_readGaps_0 (v := 0) (by decide) ?_
  refine mm_istore_n (i := 1) d_M_readGaps_1 rfl (Nat.le_of_ble_eq_true rfl) (lv2 := [(1, .int 0), (0, .ref r0)]) rfl ?_
  exact mm_sub [1, 0] rfl h1
theorem t_M_readGaps_2 {l : Launch} {G : mm_G} {b : Nat} {m : mm_Mem} {Q : mm_O → mm_Mem → Prop} {r0 : Nat} {x1 : Int32} {fs_1 : List Value} {u_4 : Int32} (g2 : m r0 = .inr (8, fs_1)) (z3 : r0 ≠ 0) (v5 : fs_1[22]? = some (.int u_4)) (h6 : (u_4 ≤ x1) → mm_W l G k_M_readGaps 23 [(0, .ref r0)] [] b m Q) (h7 : (¬ u_4 ≤ x1) → mm_W l G k_M_readGaps 10 [(0, .ref r0), (1, .int x1)] [] b m Q) : mm_W l G k_M_readGaps 2 [(0, .ref r0), (1, .int x1)] [] b m Q := by
  refine mm_iload_n 1 (i := 1) d_M_readGaps_2 rfl rfl ?_
  refine mm_aload_n 0 (i := 0) d_M_readGaps_3 rfl rfl ?_
  refine mm_get cc_M 22 (by decide) w_765 d_M_readGaps_4 g2 z3 v5 ?_
  exact mm_icmp_ge (tgt := 23) d_M_readGaps_7 (by decide) (fun c => mm_sub [0] rfl (h6 c)) (fun c => mm_sub [0, 1] rfl (h7 c))
theorem t_M_readGaps_10 {l : Launch} {G : mm_G} {b : Nat} {m : mm_Mem} {Q : mm_O → mm_Mem → Prop} {r0 : Nat} {x1 : Int32} {fs_1 : List Value} {q_4 : Nat} {n_6 : Nat} {f_7 : Nat → Int32} (g2 : m r0 = .inr (8, fs_1)) (z3 : r0 ≠ 0) (v5 : fs_1[27]? = some (.ref q_4)) (a8 : m q_4 = .inl (G.2 3, n_6, .inl f_7)) (z9 : q_4 ≠ 0) (i10 : vp_in x1 n_6) (h11 : mm_W l G k_M_readGaps 2 [(0, .ref r0), (1, .int (x1 + 1))] [] b (va_up m q_4 (.inl (G.2 3, n_6, .inl (upd f_7 x1.toNatClampNeg (vp_nar .boolean 0))))) Q) : mm_W l G k_M_readGaps 10 [(0, .ref r0), (1, .int x1)] [] b m Q := by
  refine mm_aload_n 0 (i := 0) d_M_readGaps_10 rfl rfl ?_
  refine mm_get cc_M 27 (by decide) w_770 d_M_readGaps_11 g2 z3 v5 ?_
  refine mm_iload_n 1 (i := 1) d_M_readGaps_14 rfl rfl ?_
  refine mm_iconst d_M_readGaps_15 (v := 0) (by decide) ?_
  refine mm_zast d_M_readGaps_16 a8 z9 i10 ?_
  refine mm_iinc 1 (i := 1) d_M_readGaps_17 rfl (v := x1 + 1) rfl (Nat.le_of_ble_eq_true rfl) (lv2 := [(1, .int (x1 + 1)), (0, .ref r0)]) rfl ?_
  refine mm_goto (tgt := 2) d_M_readGaps_20 (by decide) ?_
  exact mm_sub [1, 0] rfl h11
theorem t_M_readGaps_23 {l : Launch} {G : mm_G} {b : Nat} {m : mm_Mem} {Q : mm_O → mm_Mem → Prop} {r0 : Nat} {b_1 : Nat} {b_2 : Nat} {m_4 : mm_Mem} {x_5 : Int32} {fs_6 : List Value} (hb3 : b_1 + b_2 ≤ b) (g7 : m r0 = .inr (8, fs_6)) (z8 : r0 ≠ 0) (M9 : mm_W l G k_M_firstLeft 0 (lv_args 0 [.ref r0]) [] b_1 m (mm_is (.inl (some (.int x_5))) m_4)) (h10 : mm_W l G k_M_readGaps 30 [(0, .ref r0), (1, .long 0), (3, .int x_5)] [] b_2 m_4 Q) : mm_W l G k_M_readGaps 23 [(0, .ref r0)] [] b m Q := by
  refine mm_lconst d_M_readGaps_23 (v := 0) (by decide) ?_
  refine mm_lstore_n (i := 1) d_M_readGaps_24 rfl (Nat.le_of_ble_eq_true rfl) (lv2 := [(1, .long 0), (0, .ref r0)]) rfl ?_
  refine mm_aload_n 1 (i := 0) d_M_readGaps_25 rfl rfl ?_
  refine mm_callV (as := []) (st := []) (b2 := b_2) ca_M_firstLeft w_1051 w_1053 v_M_firstLeft cc_M.1 rfl d_M_readGaps_26 rfl (Nat.le_of_ble_eq_true rfl) (Nat.le_of_ble_eq_true rfl) (Nat.le_of_ble_eq_true rfl) hb3 g7 z8 M9 (fun E _ ⟨c, _⟩ => nomatch c) (fun v _ ⟨c, e⟩ => ?_)
  cases c
  rw [e]
  show mm_W l G k_M_readGaps 29 [(1, .long 0), (0, .ref r0)] [.int x_5] b_2 m_4 Q
  refine mm_istore_n (i := 3) d_M_readGaps_29 rfl (Nat.le_of_ble_eq_true rfl) (lv2 := [(3, .int x_5), (1, .long 0), (0, .ref r0)]) rfl ?_
  exact mm_sub [2, 1, 0] rfl h10
theorem t_M_readGaps_30 {l : Launch} {G : mm_G} {b : Nat} {m : mm_Mem} {Q : mm_O → mm_Mem → Prop} {r0 : Nat} {y1 : Int64} {x3 : Int32} (h1 : (x3 < 0) → mm_W l G k_M_readGaps 76 [(0, .ref r0), (1, .long y1)] [] b m Q) (h2 : (¬ x3 < 0) → mm_W l G k_M_readGaps 34 [(0, .ref r0), (1, .long y1), (3, .int x3)] [] b m Q) : mm_W l G k_M_readGaps 30 [(0, .ref r0), (1, .long y1), (3, .int x3)] [] b m Q := by
  refine mm_iload_n 2 (i := 3) d_M_readGaps_30 rfl rfl ?_
  exact mm_if_lt (tgt := 76) d_M_readGaps_31 (by decide) (fun c => mm_sub [0, 1] rfl (h1 c)) (fun c => mm_sub [0, 1, 2] rfl (h2 c))
theorem t_M_readGaps_34 {l : Launch} {G : mm_G} {b : Nat} {m : mm_Mem} {Q : mm_O → mm_Mem → Prop} {r0 : Nat} {y1 : Int64} {x3 : Int32} {fs_1 : List Value} {q_4 : Nat} {n_6 : Nat} {f_7 : Nat → Int64} (g2 : m r0 = .inr (8, fs_1)) (z3 : r0 ≠ 0) (v5 : fs_1[24]? = some (.ref q_4)) (a8 : m q_4 = .inl (G.2 2, n_6, .inr (.inl f_7))) (z9 : q_4 ≠ 0) (i10 : vp_in x3 n_6) (h11 : ((lg_cmp (f_7 x3.toNatClampNeg) y1) = 0) → mm_W l G k_M_readGaps 54 [(0, .ref r0), (3, .int x3)] [] b m Q) (h12 : (¬ (lg_cmp (f_7 x3.toNatClampNeg) y1) = 0) → mm_W l G k_M_readGaps 45 [(0, .ref r0), (1, .long y1), (3, .int x3)] [] b m Q) : mm_W l G k_M_readGaps 34 [(0, .ref r0), (1, .long y1), (3, .int x3)] [] b m Q := by
  refine mm_aload_n 0 (i := 0) d_M_readGaps_34 rfl rfl ?_
  refine mm_get cc_M 24 (by decide) w_767 d_M_readGaps_35 g2 z3 v5 ?_
  refine mm_iload_n 2 (i := 3) d_M_readGaps_38 rfl rfl ?_
  refine mm_lald d_M_readGaps_39 a8 z9 i10 ?_
  refine mm_lload_n 1 (i := 1) d_M_readGaps_40 rfl rfl ?_
  refine mm_lcmp d_M_readGaps_41 ?_
  exact mm_if_eq (tgt := 54) d_M_readGaps_42 (by decide) (fun c => mm_sub [0, 2] rfl (h11 c)) (fun c => mm_sub [0, 1, 2] rfl (h12 c))
theorem t_M_readGaps_45 {l : Launch} {G : mm_G} {b : Nat} {m : mm_Mem} {Q : mm_O → mm_Mem → Prop} {r0 : Nat} {y1 : Int64} {x3 : Int32} {b_1 : Nat} {b_2 : Nat} {m_4 : mm_Mem} {x_5 : Int32} {fs_6 : List Value} (hb3 : b_1 + b_2 ≤ b) (g7 : m r0 = .inr (8, fs_6)) (z8 : r0 ≠ 0) (M9 : mm_W l G k_M_wrong 0 (lv_args 0 [.ref r0, .int 10, .long y1, .int x3]) [] b_1 m (mm_is (.inl (some (.int x_5))) m_4)) (h10 : Q (.inl (some (.int x_5))) m_4) (hn11 : narrow .boolean (.int x_5) = .int x_5) : mm_W l G k_M_readGaps 45 [(0, .ref r0), (1, .long y1), (3, .int x3)] [] b m Q := by
  refine mm_aload_n 0 (i := 0) d_M_readGaps_45 rfl rfl ?_
  refine mm_bipush d_M_readGaps_46 (v := 10) (by decide) ?_
  refine mm_lload_n 1 (i := 1) d_M_readGaps_48 rfl rfl ?_
  refine mm_iload_n 2 (i := 3) d_M_readGaps_49 rfl rfl ?_
  refine mm_callV (as := [.int 10, .long y1, .int x3]) (st := []) (b2 := b_2) ca_M_wrong w_986 w_988 v_M_wrong cc_M.1 rfl d_M_readGaps_50 rfl (Nat.le_of_ble_eq_true rfl) (Nat.le_of_ble_eq_true rfl) (Nat.le_of_ble_eq_true rfl) hb3 g7 z8 M9 (fun E _ ⟨c, _⟩ => nomatch c) (fun v _ ⟨c, e⟩ => ?_)
  cases c
  rw [e]
  show mm_W l G k_M_readGaps 53 [(0, .ref r0), (1, .long y1), (3, .int x3)] [.int x_5] b_2 m_4 Q
  exact mm_zret d_M_readGaps_53 rfl hn11 h10
theorem t_M_readGaps_54 {l : Launch} {G : mm_G} {b : Nat} {m : mm_Mem} {Q : mm_O → mm_Mem → Prop} {r0 : Nat} {x3 : Int32} {fs_1 : List Value} {q_4 : Nat} {n_6 : Nat} {f_7 : Nat → Int64} {q_11 : Nat} {n_13 : Nat} {f_14 : Nat → Int32} {b_18 : Nat} {b_19 : Nat} {m_21 : mm_Mem} {x_22 : Int32} {fs_23 : List Value} (g2 : m r0 = .inr (8, fs_1)) (z3 : r0 ≠ 0) (v5 : fs_1[26]? = some (.ref q_4)) (a8 : m q_4 = .inl (G.2 2, n_6, .inr (.inl f_7))) (z9 : q_4 ≠ 0) (i10 : vp_in x3 n_6) (v12 : fs_1[27]? = some (.ref q_11)) (a15 : m q_11 = .inl (G.2 3, n_13, .inl f_14)) (z16 : q_11 ≠ 0) (i17 : vp_in x3 n_13) (hb20 : b_18 + b_19 ≤ b) (g24 : (va_up m q_11 (.inl (G.2 3, n_13, .inl (upd f_14 x3.toNatClampNeg (vp_nar .boolean 1))))) r0 = .inr (8, fs_23)) (M25 : mm_W l G k_M_firstLeft 0 (lv_args 0 [.ref r0]) [] b_18 (va_up m q_11 (.inl (G.2 3, n_13, .inl (upd f_14 x3.toNatClampNeg (vp_nar .boolean 1))))) (mm_is (.inl (some (.int x_22))) m_21)) (h26 : mm_W l G k_M_readGaps 30 [(0, .ref r0), (1, .long (f_7 x3.toNatClampNeg)), (3, .int x_22)] [] b_19 m_21 Q) : mm_W l G k_M_readGaps 54 [(0, .ref r0), (3, .int x3)] [] b m Q := by
  refine mm_aload_n 0 (i := 0) d_M_readGaps_54 rfl rfl ?_
  refine mm_get cc_M 26 (by decide) w_769 d_M_readGaps_55 g2 z3 v5 ?_
  refine mm_iload_n 1 (i := 3) d_M_readGaps_58 rfl rfl ?_
  refine mm_lald d_M_readGaps_59 a8 z9 i10 ?_
  refine mm_lstore_n (i := 1) d_M_readGaps_60 rfl (Nat.le_of_ble_eq_true rfl) (lv2 := [(1, .long (f_7 x3.toNatClampNeg)), (0, .ref r0), (3, .int x3)]) rfl ?_
  refine mm_aload_n 1 (i := 0) d_M_readGaps_61 rfl rfl ?_
  refine mm_get cc_M 27 (by decide) w_770 d_M_readGaps_62 g2 z3 v12 ?_
  refine mm_iload_n 2 (i := 3) d_M_readGaps_65 rfl rfl ?_
  refine mm_iconst d_M_readGaps_66 (v := 1) (by decide) ?_
  refine mm_zast d_M_readGaps_67 a15 z16 i17 ?_
  refine mm_aload_n 1 (i := 0) d_M_readGaps_68 rfl rfl ?_
  refine mm_callV (as := []) (st := []) (b2 := b_19) ca_M_firstLeft w_1051 w_1053 v_M_firstLeft cc_M.1 rfl d_M_readGaps_69 rfl (Nat.le_of_ble_eq_true rfl) (Nat.le_of_ble_eq_true rfl) (Nat.le_of_ble_eq_true rfl) hb20 g24 z3 M25 (fun E _ ⟨c, _⟩ => nomatch c) (fun v _ ⟨c, e⟩ => ?_)
  cases c
  rw [e]
  show mm_W l G k_M_readGaps 72 [(1, .long (f_7 x3.toNatClampNeg)), (0, .ref r0), (3, .int x3)] [.int x_22] b_19 m_21 Q
  refine mm_istore_n (i := 3) d_M_readGaps_72 rfl (Nat.le_of_ble_eq_true rfl) (lv2 := [(3, .int x_22), (1, .long (f_7 x3.toNatClampNeg)), (0, .ref r0)]) rfl ?_
  refine mm_goto (tgt := 30) d_M_readGaps_73 (by decide) ?_
  exact mm_sub [2, 1, 0] rfl h26
theorem t_M_readGaps_76 {l : Launch} {G : mm_G} {b : Nat} {m : mm_Mem} {Q : mm_O → mm_Mem → Prop} {r0 : Nat} {y1 : Int64} {fs_1 : List Value} {v_4 : Int64} (g2 : m r0 = .inr (8, fs_1)) (z3 : r0 ≠ 0) (v5 : fs_1[21]? = some (.long v_4)) (h6 : ((lg_cmp y1 v_4) = 0) → mm_W l G k_M_readGaps 100 [] [] b m Q) (h7 : (¬ (lg_cmp y1 v_4) = 0) → mm_W l G k_M_readGaps 85 [(0, .ref r0), (1, .long y1)] [] b m Q) : mm_W l G k_M_readGaps 76 [(0, .ref r0), (1, .long y1)] [] b m Q := by
  refine mm_lload_n 1 (i := 1) d_M_readGaps_76 rfl rfl ?_
  refine mm_aload_n 0 (i := 0) d_M_readGaps_77 rfl rfl ?_
  refine mm_get cc_M 21 (by decide) w_764 d_M_readGaps_78 g2 z3 v5 ?_
  refine mm_lcmp d_M_readGaps_81 ?_
  exact mm_if_eq (tgt := 100) d_M_readGaps_82 (by decide) (fun c => mm_sub [] rfl (h6 c)) (fun c => mm_sub [0, 1] rfl (h7 c))
theorem t_M_readGaps_85 {l : Launch} {G : mm_G} {b : Nat} {m : mm_Mem} {Q : mm_O → mm_Mem → Prop} {r0 : Nat} {y1 : Int64} {b_1 : Nat} {b_2 : Nat} {m_4 : mm_Mem} {x_5 : Int32} {fs_6 : List Value} (hb3 : b_1 + b_2 ≤ b) (g7 : m r0 = .inr (8, fs_6)) (z8 : r0 ≠ 0) (M9 : mm_W l G k_M_wrong 0 (lv_args 0 [.ref r0, .int 10, .long y1, .int ((-1))]) [] b_1 m (mm_is (.inl (some (.int x_5))) m_4)) (h10 : (x_5 = 0) → mm_W l G k_M_readGaps 100 [] [] b_2 m_4 Q) (h11 : (¬ x_5 = 0) → mm_W l G k_M_readGaps 96 [] [] b_2 m_4 Q) : mm_W l G k_M_readGaps 85 [(0, .ref r0), (1, .long y1)] [] b m Q := by
  refine mm_aload_n 0 (i := 0) d_M_readGaps_85 rfl rfl ?_
  refine mm_bipush d_M_readGaps_86 (v := 10) (by decide) ?_
  refine mm_lload_n 1 (i := 1) d_M_readGaps_88 rfl rfl ?_
  refine mm_iconst d_M_readGaps_89 (v := (-1)) (by decide) ?_
  refine mm_callV (as := [.int 10, .long y1, .int ((-1))]) (st := []) (b2 := b_2) ca_M_wrong w_986 w_988 v_M_wrong cc_M.1 rfl d_M_readGaps_90 rfl (Nat.le_of_ble_eq_true rfl) (Nat.le_of_ble_eq_true rfl) (Nat.le_of_ble_eq_true rfl) hb3 g7 z8 M9 (fun E _ ⟨c, _⟩ => nomatch c) (fun v _ ⟨c, e⟩ => ?_)
  cases c
  rw [e]
  show mm_W l G k_M_readGaps 93 [(0, .ref r0), (1, .long y1)] [.int x_5] b_2 m_4 Q
  exact mm_if_eq (tgt := 100) d_M_readGaps_93 (by decide) (fun c => mm_sub [] rfl (h10 c)) (fun c => mm_sub [] rfl (h11 c))
theorem t_M_readGaps_96 {l : Launch} {G : mm_G} {b : Nat} {m : mm_Mem} {Q : mm_O → mm_Mem → Prop}  (h1 : mm_W l G k_M_readGaps 101 [] [.int 1] b m Q) : mm_W l G k_M_readGaps 96 [] [] b m Q := by
  refine mm_iconst d_M_readGaps_96 (v := 1) (by decide) ?_
  refine mm_goto (tgt := 101) d_M_readGaps_97 (by decide) ?_
  exact mm_sub [] rfl h1
theorem t_M_readGaps_100 {l : Launch} {G : mm_G} {b : Nat} {m : mm_Mem} {Q : mm_O → mm_Mem → Prop}  (h1 : mm_W l G k_M_readGaps 101 [] [.int 0] b m Q) : mm_W l G k_M_readGaps 100 [] [] b m Q := by
  refine mm_iconst d_M_readGaps_100 (v := 0) (by decide) ?_
  exact mm_sub [] rfl h1
theorem t_M_readGaps_101 {l : Launch} {G : mm_G} {b : Nat} {m : mm_Mem} {Q : mm_O → mm_Mem → Prop} {xs0 : Int32} (h1 : Q (.inl (some (.int xs0))) m) (hn2 : narrow .boolean (.int xs0) = .int xs0) : mm_W l G k_M_readGaps 101 [] [.int xs0] b m Q := by
  exact mm_zret d_M_readGaps_101 rfl hn2 h1
theorem t_M_isWrong_0 {l : Launch} {G : mm_G} {b : Nat} {m : mm_Mem} {Q : mm_O → mm_Mem → Prop} {r0 : Nat} {b_1 : Nat} {b_2 : Nat} {P_4 : mm_O → mm_Mem → Prop} {fs_5 : List Value} (hb3 : b_1 + b_2 ≤ b) (g6 : m r0 = .inr (8, fs_5)) (z7 : r0 ≠ 0) (M8 : mm_W l G k_M_findEnd 0 (lv_args 0 [.ref r0]) [] b_1 m P_4) (hx9 : ∀ (E : String) (n_2 : mm_Mem), ¬ P_4 (.inr E) n_2) (h10 : ∀ (v : Option Value) (n_2 : mm_Mem), P_4 (.inl v) n_2 → ∃ x9 : Int32, v = some (.int x9) ∧ mm_W l G k_M_isWrong 4 [(0, .ref r0)] [.int x9] b_2 n_2 Q) : mm_W l G k_M_isWrong 0 [(0, .ref r0)] [] b m Q := by
  refine mm_aload_n 0 (i := 0) d_M_isWrong_0 rfl rfl ?_
  refine mm_callV (as := []) (st := []) (b2 := b_2) ca_M_findEnd w_971 w_973 v_M_findEnd cc_M.1 rfl d_M_isWrong_1 rfl (Nat.le_of_ble_eq_true rfl) (Nat.le_of_ble_eq_true rfl) (Nat.le_of_ble_eq_true rfl) hb3 g6 z7 M8 (fun E m2 q => absurd q (hx9 E m2)) (fun v m2 q => ?_)
  obtain ⟨x9, rfl, z9⟩ := h10 v m2 q
  exact mm_sub [0] rfl z9
theorem t_M_isWrong_4 {l : Launch} {G : mm_G} {b : Nat} {m : mm_Mem} {Q : mm_O → mm_Mem → Prop} {r0 : Nat} {xs0 : Int32} (h1 : (¬ xs0 = 0) → mm_W l G k_M_isWrong 14 [] [] b m Q) (h2 : (xs0 = 0) → mm_W l G k_M_isWrong 7 [(0, .ref r0)] [] b m Q) : mm_W l G k_M_isWrong 4 [(0, .ref r0)] [.int xs0] b m Q := by
  exact mm_if_ne (tgt := 14) d_M_isWrong_4 (by decide) (fun c => mm_sub [] rfl (h1 c)) (fun c => mm_sub [0] rfl (h2 c))
theorem t_M_isWrong_7 {l : Launch} {G : mm_G} {b : Nat} {m : mm_Mem} {Q : mm_O → mm_Mem → Prop} {r0 : Nat} {b_1 : Nat} {b_2 : Nat} {P_4 : mm_O → mm_Mem → Prop} {fs_5 : List Value} (hb3 : b_1 + b_2 ≤ b) (g6 : m r0 = .inr (8, fs_5)) (z7 : r0 ≠ 0) (M8 : mm_W l G k_M_readDirectory 0 (lv_args 0 [.ref r0]) [] b_1 m P_4) (hx9 : ∀ (E : String) (n_2 : mm_Mem), ¬ P_4 (.inr E) n_2) (h10 : ∀ (v : Option Value) (n_2 : mm_Mem), P_4 (.inl v) n_2 → ∃ x9 : Int32, v = some (.int x9) ∧ mm_W l G k_M_isWrong 11 [(0, .ref r0)] [.int x9] b_2 n_2 Q) : mm_W l G k_M_isWrong 7 [(0, .ref r0)] [] b m Q := by
  refine mm_aload_n 0 (i := 0) d_M_isWrong_7 rfl rfl ?_
  refine mm_callV (as := []) (st := []) (b2 := b_2) ca_M_readDirectory w_990 w_992 v_M_readDirectory cc_M.1 rfl d_M_isWrong_8 rfl (Nat.le_of_ble_eq_true rfl) (Nat.le_of_ble_eq_true rfl) (Nat.le_of_ble_eq_true rfl) hb3 g6 z7 M8 (fun E m2 q => absurd q (hx9 E m2)) (fun v m2 q => ?_)
  obtain ⟨x9, rfl, z9⟩ := h10 v m2 q
  exact mm_sub [0] rfl z9
theorem t_M_isWrong_11 {l : Launch} {G : mm_G} {b : Nat} {m : mm_Mem} {Q : mm_O → mm_Mem → Prop} {r0 : Nat} {xs0 : Int32} (h1 : (xs0 = 0) → mm_W l G k_M_isWrong 16 [(0, .ref r0)] [] b m Q) (h2 : (¬ xs0 = 0) → mm_W l G k_M_isWrong 14 [] [] b m Q) : mm_W l G k_M_isWrong 11 [(0, .ref r0)] [.int xs0] b m Q := by
  exact mm_if_eq (tgt := 16) d_M_isWrong_11 (by decide) (fun c => mm_sub [0] rfl (h1 c)) (fun c => mm_sub [] rfl (h2 c))
theorem t_M_isWrong_14 {l : Launch} {G : mm_G} {b : Nat} {m : mm_Mem} {Q : mm_O → mm_Mem → Prop}  (h1 : Q (.inl (some (.int 1))) m) (hn2 : narrow .boolean (.int 1) = .int 1) : mm_W l G k_M_isWrong 14 [] [] b m Q := by
  refine mm_iconst d_M_isWrong_14 (v := 1) (by decide) ?_
  exact mm_zret d_M_isWrong_15 rfl hn2 h1
theorem t_M_isWrong_16 {l : Launch} {G : mm_G} {b : Nat} {m : mm_Mem} {Q : mm_O → mm_Mem → Prop} {r0 : Nat} (h1 : mm_W l G k_M_isWrong 18 [(0, .ref r0), (1, .int 0)] [] b m Q) : mm_W l G k_M_isWrong 16 [(0, .ref r0)] [] b m Q := by
  refine mm_iconst d_M_isWrong_16 (v := 0) (by decide) ?_
  refine mm_istore_n (i := 1) d_M_isWrong_17 rfl (Nat.le_of_ble_eq_true rfl) (lv2 := [(1, .int 0), (0, .ref r0)]) rfl ?_
  exact mm_sub [1, 0] rfl h1
theorem t_M_isWrong_18 {l : Launch} {G : mm_G} {b : Nat} {m : mm_Mem} {Q : mm_O → mm_Mem → Prop} {r0 : Nat} {x1 : Int32} {fs_1 : List Value} {u_4 : Int32} (g2 : m r0 = .inr (8, fs_1)) (z3 : r0 ≠ 0) (v5 : fs_1[22]? = some (.int u_4)) (h6 : (u_4 ≤ x1) → mm_W l G k_M_isWrong 76 [(0, .ref r0)] [] b m Q) (h7 : (¬ u_4 ≤ x1) → mm_W l G k_M_isWrong 26 [(0, .ref r0), (1, .int x1)] [] b m Q) : mm_W l G k_M_isWrong 18 [(0, .ref r0), (1, .int x1)] [] b m Q := by
  refine mm_iload_n 1 (i := 1) d_M_isWrong_18 rfl rfl ?_
  refine mm_aload_n 0 (i := 0) d_M_isWrong_19 rfl rfl ?_
  refine mm_get cc_M 22 (by decide) w_765 d_M_isWrong_20 g2 z3 v5 ?_
  exact mm_icmp_ge (tgt := 76) d_M_isWrong_23 (by decide) (fun c => mm_sub [0] rfl (h6 c)) (fun c => mm_sub [0, 1] rfl (h7 c))
theorem t_M_isWrong_26 {l : Launch} {G : mm_G} {b : Nat} {m : mm_Mem} {Q : mm_O → mm_Mem → Prop} {r0 : Nat} {x1 : Int32} {b_1 : Nat} {b_2 : Nat} {P_4 : mm_O → mm_Mem → Prop} {fs_5 : List Value} (hb3 : b_1 + b_2 ≤ b) (g6 : m r0 = .inr (8, fs_5)) (z7 : r0 ≠ 0) (M8 : mm_W l G k_M_isHead 0 (lv_args 0 [.ref r0, .int x1]) [] b_1 m P_4) (hx9 : ∀ (E : String) (n_2 : mm_Mem), ¬ P_4 (.inr E) n_2) (h10 : ∀ (v : Option Value) (n_2 : mm_Mem), P_4 (.inl v) n_2 → ∃ x9 : Int32, v = some (.int x9) ∧ mm_W l G k_M_isWrong 31 [(0, .ref r0), (1, .int x1)] [.int x9] b_2 n_2 Q) : mm_W l G k_M_isWrong 26 [(0, .ref r0), (1, .int x1)] [] b m Q := by
  refine mm_aload_n 0 (i := 0) d_M_isWrong_26 rfl rfl ?_
  refine mm_iload_n 1 (i := 1) d_M_isWrong_27 rfl rfl ?_
  refine mm_callV (as := [.int x1]) (st := []) (b2 := b_2) ca_M_isHead w_1024 w_1026 v_M_isHead cc_M.1 rfl d_M_isWrong_28 rfl (Nat.le_of_ble_eq_true rfl) (Nat.le_of_ble_eq_true rfl) (Nat.le_of_ble_eq_true rfl) hb3 g6 z7 M8 (fun E m2 q => absurd q (hx9 E m2)) (fun v m2 q => ?_)
  obtain ⟨x9, rfl, z9⟩ := h10 v m2 q
  exact mm_sub [0, 1] rfl z9
theorem t_M_isWrong_31 {l : Launch} {G : mm_G} {b : Nat} {m : mm_Mem} {Q : mm_O → mm_Mem → Prop} {r0 : Nat} {x1 : Int32} {xs0 : Int32} (h1 : (¬ xs0 = 0) → mm_W l G k_M_isWrong 48 [(0, .ref r0), (1, .int x1)] [] b m Q) (h2 : (xs0 = 0) → mm_W l G k_M_isWrong 34 [(0, .ref r0), (1, .int x1)] [] b m Q) : mm_W l G k_M_isWrong 31 [(0, .ref r0), (1, .int x1)] [.int xs0] b m Q := by
  exact mm_if_ne (tgt := 48) d_M_isWrong_31 (by decide) (fun c => mm_sub [0, 1] rfl (h1 c)) (fun c => mm_sub [0, 1] rfl (h2 c))
theorem t_M_isWrong_34 {l : Launch} {G : mm_G} {b : Nat} {m : mm_Mem} {Q : mm_O → mm_Mem → Prop} {r0 : Nat} {x1 : Int32} {fs_1 : List Value} {q_4 : Nat} {n_6 : Nat} {f_7 : Nat → Int64} {b_11 : Nat} {b_12 : Nat} {m_14 : mm_Mem} {x_15 : Int32} (g2 : m r0 = .inr (8, fs_1)) (z3 : r0 ≠ 0) (v5 : fs_1[24]? = some (.ref q_4)) (a8 : m q_4 = .inl (G.2 2, n_6, .inr (.inl f_7))) (z9 : q_4 ≠ 0) (i10 : vp_in x1 n_6) (hb13 : b_11 + b_12 ≤ b) (M16 : mm_W l G k_M_wrong 0 (lv_args 0 [.ref r0, .int 7, .long (f_7 x1.toNatClampNeg), .int x1]) [] b_11 m (mm_is (.inl (some (.int x_15))) m_14)) (h17 : Q (.inl (some (.int x_15))) m_14) (hn18 : narrow .boolean (.int x_15) = .int x_15) : mm_W l G k_M_isWrong 34 [(0, .ref r0), (1, .int x1)] [] b m Q := by
  refine mm_aload_n 0 (i := 0) d_M_isWrong_34 rfl rfl ?_
  refine mm_bipush d_M_isWrong_35 (v := 7) (by decide) ?_
  refine mm_aload_n 0 (i := 0) d_M_isWrong_37 rfl rfl ?_
  refine mm_get cc_M 24 (by decide) w_767 d_M_isWrong_38 g2 z3 v5 ?_
  refine mm_iload_n 1 (i := 1) d_M_isWrong_41 rfl rfl ?_
  refine mm_lald d_M_isWrong_42 a8 z9 i10 ?_
  refine mm_iload_n 1 (i := 1) d_M_isWrong_43 rfl rfl ?_
  refine mm_callV (as := [.int 7, .long (f_7 x1.toNatClampNeg), .int x1]) (st := []) (b2 := b_12) ca_M_wrong w_986 w_988 v_M_wrong cc_M.1 rfl d_M_isWrong_44 rfl (Nat.le_of_ble_eq_true rfl) (Nat.le_of_ble_eq_true rfl) (Nat.le_of_ble_eq_true rfl) hb13 g2 z3 M16 (fun E _ ⟨c, _⟩ => nomatch c) (fun v _ ⟨c, e⟩ => ?_)
  cases c
  rw [e]
  show mm_W l G k_M_isWrong 47 [(0, .ref r0), (1, .int x1)] [.int x_15] b_12 m_14 Q
  exact mm_zret d_M_isWrong_47 rfl hn18 h17
theorem t_M_isWrong_48 {l : Launch} {G : mm_G} {b : Nat} {m : mm_Mem} {Q : mm_O → mm_Mem → Prop} {r0 : Nat} {x1 : Int32} {b_1 : Nat} {b_2 : Nat} {P_4 : mm_O → mm_Mem → Prop} {fs_5 : List Value} (hb3 : b_1 + b_2 ≤ b) (g6 : m r0 = .inr (8, fs_5)) (z7 : r0 ≠ 0) (M8 : mm_W l G k_M_isBody 0 (lv_args 0 [.ref r0, .int x1]) [] b_1 m P_4) (hx9 : ∀ (E : String) (n_2 : mm_Mem), ¬ P_4 (.inr E) n_2) (h10 : ∀ (v : Option Value) (n_2 : mm_Mem), P_4 (.inl v) n_2 → ∃ x9 : Int32, v = some (.int x9) ∧ mm_W l G k_M_isWrong 53 [(0, .ref r0), (1, .int x1)] [.int x9] b_2 n_2 Q) : mm_W l G k_M_isWrong 48 [(0, .ref r0), (1, .int x1)] [] b m Q := by
  refine mm_aload_n 0 (i := 0) d_M_isWrong_48 rfl rfl ?_
  refine mm_iload_n 1 (i := 1) d_M_isWrong_49 rfl rfl ?_
  refine mm_callV (as := [.int x1]) (st := []) (b2 := b_2) ca_M_isBody w_1040 w_1042 v_M_isBody cc_M.1 rfl d_M_isWrong_50 rfl (Nat.le_of_ble_eq_true rfl) (Nat.le_of_ble_eq_true rfl) (Nat.le_of_ble_eq_true rfl) hb3 g6 z7 M8 (fun E m2 q => absurd q (hx9 E m2)) (fun v m2 q => ?_)
  obtain ⟨x9, rfl, z9⟩ := h10 v m2 q
  exact mm_sub [0, 1] rfl z9
theorem t_M_isWrong_53 {l : Launch} {G : mm_G} {b : Nat} {m : mm_Mem} {Q : mm_O → mm_Mem → Prop} {r0 : Nat} {x1 : Int32} {xs0 : Int32} (h1 : (¬ xs0 = 0) → mm_W l G k_M_isWrong 70 [(0, .ref r0), (1, .int x1)] [] b m Q) (h2 : (xs0 = 0) → mm_W l G k_M_isWrong 56 [(0, .ref r0), (1, .int x1)] [] b m Q) : mm_W l G k_M_isWrong 53 [(0, .ref r0), (1, .int x1)] [.int xs0] b m Q := by
  exact mm_if_ne (tgt := 70) d_M_isWrong_53 (by decide) (fun c => mm_sub [0, 1] rfl (h1 c)) (fun c => mm_sub [0, 1] rfl (h2 c))
theorem t_M_isWrong_56 {l : Launch} {G : mm_G} {b : Nat} {m : mm_Mem} {Q : mm_O → mm_Mem → Prop} {r0 : Nat} {x1 : Int32} {fs_1 : List Value} {q_4 : Nat} {n_6 : Nat} {f_7 : Nat → Int64} {b_11 : Nat} {b_12 : Nat} {m_14 : mm_Mem} {x_15 : Int32} (g2 : m r0 = .inr (8, fs_1)) (z3 : r0 ≠ 0) (v5 : fs_1[24]? = some (.ref q_4)) (a8 : m q_4 = .inl (G.2 2, n_6, .inr (.inl f_7))) (z9 : q_4 ≠ 0) (i10 : vp_in x1 n_6) (hb13 : b_11 + b_12 ≤ b) (M16 : mm_W l G k_M_wrong 0 (lv_args 0 [.ref r0, .int 8, .long (f_7 x1.toNatClampNeg), .int x1]) [] b_11 m (mm_is (.inl (some (.int x_15))) m_14)) (h17 : Q (.inl (some (.int x_15))) m_14) (hn18 : narrow .boolean (.int x_15) = .int x_15) : mm_W l G k_M_isWrong 56 [(0, .ref r0), (1, .int x1)] [] b m Q := by
  refine mm_aload_n 0 (i := 0) d_M_isWrong_56 rfl rfl ?_
  refine mm_bipush d_M_isWrong_57 (v := 8) (by decide) ?_
  refine mm_aload_n 0 (i := 0) d_M_isWrong_59 rfl rfl ?_
  refine mm_get cc_M 24 (by decide) w_767 d_M_isWrong_60 g2 z3 v5 ?_
  refine mm_iload_n 1 (i := 1) d_M_isWrong_63 rfl rfl ?_
  refine mm_lald d_M_isWrong_64 a8 z9 i10 ?_
  refine mm_iload_n 1 (i := 1) d_M_isWrong_65 rfl rfl ?_
  refine mm_callV (as := [.int 8, .long (f_7 x1.toNatClampNeg), .int x1]) (st := []) (b2 := b_12) ca_M_wrong w_986 w_988 v_M_wrong cc_M.1 rfl d_M_isWrong_66 rfl (Nat.le_of_ble_eq_true rfl) (Nat.le_of_ble_eq_true rfl) (Nat.le_of_ble_eq_true rfl) hb13 g2 z3 M16 (fun E _ ⟨c, _⟩ => nomatch c) (fun v _ ⟨c, e⟩ => ?_)
  cases c
  rw [e]
  show mm_W l G k_M_isWrong 69 [(0, .ref r0), (1, .int x1)] [.int x_15] b_12 m_14 Q
  exact mm_zret d_M_isWrong_69 rfl hn18 h17
theorem t_M_isWrong_70 {l : Launch} {G : mm_G} {b : Nat} {m : mm_Mem} {Q : mm_O → mm_Mem → Prop} {r0 : Nat} {x1 : Int32} (h1 : mm_W l G k_M_isWrong 18 [(0, .ref r0), (1, .int (x1 + 1))] [] b m Q) : mm_W l G k_M_isWrong 70 [(0, .ref r0), (1, .int x1)] [] b m Q := by
  refine mm_iinc 1 (i := 1) d_M_isWrong_70 rfl (v := x1 + 1) rfl (Nat.le_of_ble_eq_true rfl) (lv2 := [(1, .int (x1 + 1)), (0, .ref r0)]) rfl ?_
  refine mm_goto (tgt := 18) d_M_isWrong_73 (by decide) ?_
  exact mm_sub [1, 0] rfl h1
theorem t_M_isWrong_76 {l : Launch} {G : mm_G} {b : Nat} {m : mm_Mem} {Q : mm_O → mm_Mem → Prop} {r0 : Nat} {b_1 : Nat} {b_2 : Nat} {P_4 : mm_O → mm_Mem → Prop} {fs_5 : List Value} (hb3 : b_1 + b_2 ≤ b) (g6 : m r0 = .inr (8, fs_5)) (z7 : r0 ≠ 0) (M8 : mm_W l G k_M_readGaps 0 (lv_args 0 [.ref r0]) [] b_1 m P_4) (hx9 : ∀ (E : String) (n_2 : mm_Mem), ¬ P_4 (.inr E) n_2) (h10 : ∀ (v : Option Value) (n_2 : mm_Mem), P_4 (.inl v) n_2 → ∃ x9 : Int32, v = some (.int x9) ∧ mm_W l G k_M_isWrong 80 [(0, .ref r0)] [.int x9] b_2 n_2 Q) : mm_W l G k_M_isWrong 76 [(0, .ref r0)] [] b m Q := by
  refine mm_aload_n 0 (i := 0) d_M_isWrong_76 rfl rfl ?_
  refine mm_callV (as := []) (st := []) (b2 := b_2) ca_M_readGaps w_1047 w_1049 v_M_readGaps cc_M.1 rfl d_M_isWrong_77 rfl (Nat.le_of_ble_eq_true rfl) (Nat.le_of_ble_eq_true rfl) (Nat.le_of_ble_eq_true rfl) hb3 g6 z7 M8 (fun E m2 q => absurd q (hx9 E m2)) (fun v m2 q => ?_)
  obtain ⟨x9, rfl, z9⟩ := h10 v m2 q
  exact mm_sub [0] rfl z9
theorem t_M_isWrong_80 {l : Launch} {G : mm_G} {b : Nat} {m : mm_Mem} {Q : mm_O → mm_Mem → Prop} {r0 : Nat} {xs0 : Int32} (h1 : (xs0 = 0) → mm_W l G k_M_isWrong 85 [(0, .ref r0)] [] b m Q) (h2 : (¬ xs0 = 0) → mm_W l G k_M_isWrong 83 [] [] b m Q) : mm_W l G k_M_isWrong 80 [(0, .ref r0)] [.int xs0] b m Q := by
  exact mm_if_eq (tgt := 85) d_M_isWrong_80 (by decide) (fun c => mm_sub [0] rfl (h1 c)) (fun c => mm_sub [] rfl (h2 c))
theorem t_M_isWrong_83 {l : Launch} {G : mm_G} {b : Nat} {m : mm_Mem} {Q : mm_O → mm_Mem → Prop}  (h1 : Q (.inl (some (.int 1))) m) (hn2 : narrow .boolean (.int 1) = .int 1) : mm_W l G k_M_isWrong 83 [] [] b m Q := by
  refine mm_iconst d_M_isWrong_83 (v := 1) (by decide) ?_
  exact mm_zret d_M_isWrong_84 rfl hn2 h1
theorem t_M_isWrong_85 {l : Launch} {G : mm_G} {b : Nat} {m : mm_Mem} {Q : mm_O → mm_Mem → Prop} {r0 : Nat} (h1 : mm_W l G k_M_isWrong 87 [(0, .ref r0), (1, .int 0)] [] b m Q) : mm_W l G k_M_isWrong 85 [(0, .ref r0)] [] b m Q := by
  refine mm_iconst d_M_isWrong_85 (v := 0) (by decide) ?_
  refine mm_istore_n (i := 1) d_M_isWrong_86 rfl (Nat.le_of_ble_eq_true rfl) (lv2 := [(1, .int 0), (0, .ref r0)]) rfl ?_
  exact mm_sub [1, 0] rfl h1
theorem t_M_isWrong_87 {l : Launch} {G : mm_G} {b : Nat} {m : mm_Mem} {Q : mm_O → mm_Mem → Prop} {r0 : Nat} {x1 : Int32} {fs_1 : List Value} {u_4 : Int32} (g2 : m r0 = .inr (8, fs_1)) (z3 : r0 ≠ 0) (v5 : fs_1[22]? = some (.int u_4)) (h6 : (u_4 ≤ x1) → mm_W l G k_M_isWrong 161 [] [] b m Q) (h7 : (¬ u_4 ≤ x1) → mm_W l G k_M_isWrong 95 [(0, .ref r0), (1, .int x1)] [] b m Q) : mm_W l G k_M_isWrong 87 [(0, .ref r0), (1, .int x1)] [] b m Q := by
  refine mm_iload_n 1 (i := 1) d_M_isWrong_87 rfl rfl ?_
  refine mm_aload_n 0 (i := 0) d_M_isWrong_88 rfl rfl ?_
  refine mm_get cc_M 22 (by decide) w_765 d_M_isWrong_89 g2 z3 v5 ?_
  exact mm_icmp_ge (tgt := 161) d_M_isWrong_92 (by decide) (fun c => mm_sub [] rfl (h6 c)) (fun c => mm_sub [0, 1] rfl (h7 c))
theorem t_M_isWrong_95 {l : Launch} {G : mm_G} {b : Nat} {m : mm_Mem} {Q : mm_O → mm_Mem → Prop} {r0 : Nat} {x1 : Int32} {b_1 : Nat} {b_2 : Nat} {m_4 : mm_Mem} {x_5 : Int32} {fs_6 : List Value} (hb3 : b_1 + b_2 ≤ b) (g7 : m r0 = .inr (8, fs_6)) (z8 : r0 ≠ 0) (M9 : mm_W l G k_M_method 0 (lv_args 0 [.ref r0, .int x1]) [] b_1 m (mm_is (.inl (some (.int x_5))) m_4)) (h10 : (¬ x_5 = 0) → mm_W l G k_M_isWrong 155 [(0, .ref r0), (1, .int x1)] [] b_2 m_4 Q) (h11 : (x_5 = 0) → mm_W l G k_M_isWrong 103 [(0, .ref r0), (1, .int x1)] [] b_2 m_4 Q) : mm_W l G k_M_isWrong 95 [(0, .ref r0), (1, .int x1)] [] b m Q := by
  refine mm_aload_n 0 (i := 0) d_M_isWrong_95 rfl rfl ?_
  refine mm_iload_n 1 (i := 1) d_M_isWrong_96 rfl rfl ?_
  refine mm_callV (as := [.int x1]) (st := []) (b2 := b_2) ca_M_method w_1006 w_1008 v_M_method cc_M.1 rfl d_M_isWrong_97 rfl (Nat.le_of_ble_eq_true rfl) (Nat.le_of_ble_eq_true rfl) (Nat.le_of_ble_eq_true rfl) hb3 g7 z8 M9 (fun E _ ⟨c, _⟩ => nomatch c) (fun v _ ⟨c, e⟩ => ?_)
  cases c
  rw [e]
  show mm_W l G k_M_isWrong 100 [(0, .ref r0), (1, .int x1)] [.int x_5] b_2 m_4 Q
  exact mm_if_ne (tgt := 155) d_M_isWrong_100 (by decide) (fun c => mm_sub [0, 1] rfl (h10 c)) (fun c => mm_sub [0, 1] rfl (h11 c))
theorem t_M_isWrong_103 {l : Launch} {G : mm_G} {b : Nat} {m : mm_Mem} {Q : mm_O → mm_Mem → Prop} {r0 : Nat} {x1 : Int32} {fs_1 : List Value} {q_4 : Nat} {q_6 : Nat} {n_8 : Nat} {f_9 : Nat → Int64} {b_13 : Nat} {b_14 : Nat} {m_16 : mm_Mem} {y_17 : Int64} {b_19 : Nat} {b_20 : Nat} {m_22 : mm_Mem} {x_23 : Int32} {fs_25 : List Value} {q_27 : Nat} {n_29 : Nat} {f_30 : Nat → Int32} {b_34 : Nat} {b_35 : Nat} {m_37 : mm_Mem} {y_38 : Int64} (g2 : m r0 = .inr (8, fs_1)) (z3 : r0 ≠ 0) (v5 : fs_1[2]? = some (.ref q_4)) (v7 : fs_1[25]? = some (.ref q_6)) (a10 : m q_6 = .inl (G.2 2, n_8, .inr (.inl f_9))) (z11 : q_6 ≠ 0) (i12 : vp_in x1 n_8) (hb15 : b_13 + b_14 ≤ b) (M18 : mm_W l G k_M_many 0 (lv_args 0 [.ref r0, .int x1]) [] b_13 m (mm_is (.inl (some (.long y_17))) m_16)) (hb21 : b_19 + b_20 ≤ b_14) (M24 : mm_W l G k_M_checkOf 0 (lv_args 0 [.ref q_4, .int ((f_9 x1.toNatClampNeg).toInt32), .int y_17.toInt32]) [] b_19 m_16 (mm_is (.inl (some (.int x_23))) m_22)) (g26 : m_22 r0 = .inr (8, fs_25)) (v28 : fs_25[23]? = some (.ref q_27)) (a31 : m_22 q_27 = .inl (G.2 1, n_29, .inl f_30)) (z32 : q_27 ≠ 0) (i33 : vp_in x1 n_29) (hb36 : b_34 + b_35 ≤ b_20) (M39 : mm_W l G k_M_four 0 (lv_args 0 [.ref r0, .long (((f_30 x1.toNatClampNeg) + 16).toInt64)]) [] b_34 m_22 (mm_is (.inl (some (.long y_38))) m_37)) (h40 : (x_23 = y_38.toInt32) → mm_W l G k_M_isWrong 155 [(0, .ref r0), (1, .int x1)] [] b_35 m_37 Q) (h41 : (¬ x_23 = y_38.toInt32) → mm_W l G k_M_isWrong 141 [(0, .ref r0), (1, .int x1)] [] b_35 m_37 Q) : mm_W l G k_M_isWrong 103 [(0, .ref r0), (1, .int x1)] [] b m Q := by
  refine mm_aload_n 0 (i := 0) d_M_isWrong_103 rfl rfl ?_
  refine mm_get cc_M 2 (by decide) w_745 d_M_isWrong_104 g2 z3 v5 ?_
  refine mm_aload_n 0 (i := 0) d_M_isWrong_107 rfl rfl ?_
  refine mm_get cc_M 25 (by decide) w_768 d_M_isWrong_108 g2 z3 v7 ?_
  refine mm_iload_n 1 (i := 1) d_M_isWrong_111 rfl rfl ?_
  refine mm_lald d_M_isWrong_112 a10 z11 i12 ?_
  refine mm_l2i d_M_isWrong_113 ?_
  refine mm_aload_n 0 (i := 0) d_M_isWrong_114 rfl rfl ?_
  refine mm_iload_n 1 (i := 1) d_M_isWrong_115 rfl rfl ?_
  refine mm_callV (as := [.int x1]) (st := [.int ((f_9 x1.toNatClampNeg).toInt32), .ref q_4]) (b2 := b_14) ca_M_many w_1015 w_1017 v_M_many cc_M.1 rfl d_M_isWrong_116 rfl (Nat.le_of_ble_eq_true rfl) (Nat.le_of_ble_eq_true rfl) (Nat.le_of_ble_eq_true rfl) hb15 g2 z3 M18 (fun E _ ⟨c, _⟩ => nomatch c) (fun v _ ⟨c, e⟩ => ?_)
  cases c
  rw [e]
  show mm_W l G k_M_isWrong 119 [(0, .ref r0), (1, .int x1)] [.long y_17, .int ((f_9 x1.toNatClampNeg).toInt32), .ref q_4] b_14 m_16 Q
  refine mm_l2i d_M_isWrong_119 ?_
  refine mm_callS (as := [.ref q_4, .int ((f_9 x1.toNatClampNeg).toInt32), .int y_17.toInt32]) (st := []) (b2 := b_20) ca_M_checkOf w_888 w_889 d_M_isWrong_120 rfl (Nat.le_of_ble_eq_true rfl) (Nat.le_of_ble_eq_true rfl) (Nat.le_of_ble_eq_true rfl) hb21 M24 (fun E _ ⟨c, _⟩ => nomatch c) (fun v _ ⟨c, e⟩ => ?_)
  cases c
  rw [e]
  show mm_W l G k_M_isWrong 123 [(0, .ref r0), (1, .int x1)] [.int x_23] b_20 m_22 Q
  refine mm_aload_n 0 (i := 0) d_M_isWrong_123 rfl rfl ?_
  refine mm_aload_n 0 (i := 0) d_M_isWrong_124 rfl rfl ?_
  refine mm_get cc_M 23 (by decide) w_766 d_M_isWrong_125 g26 z3 v28 ?_
  refine mm_iload_n 1 (i := 1) d_M_isWrong_128 rfl rfl ?_
  refine mm_iald d_M_isWrong_129 a31 z32 i33 ?_
  refine mm_bipush d_M_isWrong_130 (v := 16) (by decide) ?_
  refine mm_iadd d_M_isWrong_132 ?_
  refine mm_i2l d_M_isWrong_133 ?_
  refine mm_callV (as := [.long (((f_30 x1.toNatClampNeg) + 16).toInt64)]) (st := [.int x_23]) (b2 := b_35) ca_M_four w_975 w_977 v_M_four cc_M.1 rfl d_M_isWrong_134 rfl (Nat.le_of_ble_eq_true rfl) (Nat.le_of_ble_eq_true rfl) (Nat.le_of_ble_eq_true rfl) hb36 g26 z3 M39 (fun E _ ⟨c, _⟩ => nomatch c) (fun v _ ⟨c, e⟩ => ?_)
  cases c
  rw [e]
  show mm_W l G k_M_isWrong 137 [(0, .ref r0), (1, .int x1)] [.long y_38, .int x_23] b_35 m_37 Q
  refine mm_l2i d_M_isWrong_137 ?_
  exact mm_icmp_eq (tgt := 155) d_M_isWrong_138 (by decide) (fun c => mm_sub [0, 1] rfl (h40 c)) (fun c => mm_sub [0, 1] rfl (h41 c))
theorem t_M_isWrong_141 {l : Launch} {G : mm_G} {b : Nat} {m : mm_Mem} {Q : mm_O → mm_Mem → Prop} {r0 : Nat} {x1 : Int32} {fs_1 : List Value} {q_4 : Nat} {n_6 : Nat} {f_7 : Nat → Int64} {b_11 : Nat} {b_12 : Nat} {m_14 : mm_Mem} {x_15 : Int32} (g2 : m r0 = .inr (8, fs_1)) (z3 : r0 ≠ 0) (v5 : fs_1[25]? = some (.ref q_4)) (a8 : m q_4 = .inl (G.2 2, n_6, .inr (.inl f_7))) (z9 : q_4 ≠ 0) (i10 : vp_in x1 n_6) (hb13 : b_11 + b_12 ≤ b) (M16 : mm_W l G k_M_wrong 0 (lv_args 0 [.ref r0, .int 11, .long (f_7 x1.toNatClampNeg), .int x1]) [] b_11 m (mm_is (.inl (some (.int x_15))) m_14)) (h17 : Q (.inl (some (.int x_15))) m_14) (hn18 : narrow .boolean (.int x_15) = .int x_15) : mm_W l G k_M_isWrong 141 [(0, .ref r0), (1, .int x1)] [] b m Q := by
  refine mm_aload_n 0 (i := 0) d_M_isWrong_141 rfl rfl ?_
  refine mm_bipush d_M_isWrong_142 (v := 11) (by decide) ?_
  refine mm_aload_n 0 (i := 0) d_M_isWrong_144 rfl rfl ?_
  refine mm_get cc_M 25 (by decide) w_768 d_M_isWrong_145 g2 z3 v5 ?_
  refine mm_iload_n 1 (i := 1) d_M_isWrong_148 rfl rfl ?_
  refine mm_lald d_M_isWrong_149 a8 z9 i10 ?_
  refine mm_iload_n 1 (i := 1) d_M_isWrong_150 rfl rfl ?_
  refine mm_callV (as := [.int 11, .long (f_7 x1.toNatClampNeg), .int x1]) (st := []) (b2 := b_12) ca_M_wrong w_986 w_988 v_M_wrong cc_M.1 rfl d_M_isWrong_151 rfl (Nat.le_of_ble_eq_true rfl) (Nat.le_of_ble_eq_true rfl) (Nat.le_of_ble_eq_true rfl) hb13 g2 z3 M16 (fun E _ ⟨c, _⟩ => nomatch c) (fun v _ ⟨c, e⟩ => ?_)
  cases c
  rw [e]
  show mm_W l G k_M_isWrong 154 [(0, .ref r0), (1, .int x1)] [.int x_15] b_12 m_14 Q
  exact mm_zret d_M_isWrong_154 rfl hn18 h17
theorem t_M_isWrong_155 {l : Launch} {G : mm_G} {b : Nat} {m : mm_Mem} {Q : mm_O → mm_Mem → Prop} {r0 : Nat} {x1 : Int32} (h1 : mm_W l G k_M_isWrong 87 [(0, .ref r0), (1, .int (x1 + 1))] [] b m Q) : mm_W l G k_M_isWrong 155 [(0, .ref r0), (1, .int x1)] [] b m Q := by
  refine mm_iinc 1 (i := 1) d_M_isWrong_155 rfl (v := x1 + 1) rfl (Nat.le_of_ble_eq_true rfl) (lv2 := [(1, .int (x1 + 1)), (0, .ref r0)]) rfl ?_
  refine mm_goto (tgt := 87) d_M_isWrong_158 (by decide) ?_
  exact mm_sub [1, 0] rfl h1
theorem t_M_isWrong_161 {l : Launch} {G : mm_G} {b : Nat} {m : mm_Mem} {Q : mm_O → mm_Mem → Prop}  (h1 : Q (.inl (some (.int 0))) m) (hn2 : narrow .boolean (.int 0) = .int 0) : mm_W l G k_M_isWrong 161 [] [] b m Q := by
  refine mm_iconst d_M_isWrong_161 (v := 0) (by decide) ?_
  exact mm_zret d_M_isWrong_162 rfl hn2 h1
theorem t_M_read_0 {l : Launch} {G : mm_G} {b : Nat} {m : mm_Mem} {Q : mm_O → mm_Mem → Prop} {r0 : Nat} {x1 : Int32} (h1 : (x1 < 0) → mm_W l G k_M_read 11 [(0, .ref r0), (1, .int x1)] [.ref r0] b m Q) (h2 : (¬ x1 < 0) → mm_W l G k_M_read 5 [(0, .ref r0), (1, .int x1)] [.ref r0] b m Q) : mm_W l G k_M_read 0 [(0, .ref r0), (1, .int x1)] [] b m Q := by
  refine mm_aload_n 0 (i := 0) d_M_read_0 rfl rfl ?_
  refine mm_iload_n 1 (i := 1) d_M_read_1 rfl rfl ?_
  exact mm_if_lt (tgt := 11) d_M_read_2 (by decide) (fun c => mm_sub [0, 1] rfl (h1 c)) (fun c => mm_sub [0, 1] rfl (h2 c))
theorem t_M_read_5 {l : Launch} {G : mm_G} {b : Nat} {m : mm_Mem} {Q : mm_O → mm_Mem → Prop} {r0 : Nat} {x1 : Int32} {rs0 : Nat} (h1 : (x1 ≤ 65536) → mm_W l G k_M_read 15 [(0, .ref r0), (1, .int x1)] [.ref rs0] b m Q) (h2 : (¬ x1 ≤ 65536) → mm_W l G k_M_read 11 [(0, .ref r0), (1, .int x1)] [.ref rs0] b m Q) : mm_W l G k_M_read 5 [(0, .ref r0), (1, .int x1)] [.ref rs0] b m Q := by
  refine mm_iload_n 1 (i := 1) d_M_read_5 rfl rfl ?_
  refine mm_ldc (v := 65536) w_742 d_M_read_6 ?_
  exact mm_icmp_le (tgt := 15) d_M_read_8 (by decide) (fun c => mm_sub [0, 1] rfl (h1 c)) (fun c => mm_sub [0, 1] rfl (h2 c))
theorem t_M_read_11 {l : Launch} {G : mm_G} {b : Nat} {m : mm_Mem} {Q : mm_O → mm_Mem → Prop} {r0 : Nat} {x1 : Int32} {rs0 : Nat} (h1 : mm_W l G k_M_read 16 [(0, .ref r0), (1, .int x1)] [.int 1, .ref rs0] b m Q) : mm_W l G k_M_read 11 [(0, .ref r0), (1, .int x1)] [.ref rs0] b m Q := by
  refine mm_iconst d_M_read_11 (v := 1) (by decide) ?_
  refine mm_goto (tgt := 16) d_M_read_12 (by decide) ?_
  exact mm_sub [0, 1] rfl h1
theorem t_M_read_15 {l : Launch} {G : mm_G} {b : Nat} {m : mm_Mem} {Q : mm_O → mm_Mem → Prop} {r0 : Nat} {x1 : Int32} {rs0 : Nat} (h1 : mm_W l G k_M_read 16 [(0, .ref r0), (1, .int x1)] [.int 0, .ref rs0] b m Q) : mm_W l G k_M_read 15 [(0, .ref r0), (1, .int x1)] [.ref rs0] b m Q := by
  refine mm_iconst d_M_read_15 (v := 0) (by decide) ?_
  exact mm_sub [0, 1] rfl h1
theorem t_M_read_16 {l : Launch} {G : mm_G} {b : Nat} {m : mm_Mem} {Q : mm_O → mm_Mem → Prop} {r0 : Nat} {x1 : Int32} {xs0 : Int32} {rs1 : Nat} {fs_1 : List Value} {fs_5 : List Value} {u_8 : Int32} (g2 : m rs1 = .inr (8, fs_1)) (z3 : rs1 ≠ 0) (l4 : 0 < fs_1.length) (g6 : (va_up m rs1 (.inr (8, fs_1.set 0 (.int xs0)))) r0 = .inr (8, fs_5)) (z7 : r0 ≠ 0) (v9 : fs_5[0]? = some (.int u_8)) (h10 : (u_8 ≤ 0) → mm_W l G k_M_read 28 [(0, .ref r0), (1, .int x1)] [] b (va_up m rs1 (.inr (8, fs_1.set 0 (.int xs0)))) Q) (h11 : (¬ u_8 ≤ 0) → mm_W l G k_M_read 26 [] [] b (va_up m rs1 (.inr (8, fs_1.set 0 (.int xs0)))) Q) : mm_W l G k_M_read 16 [(0, .ref r0), (1, .int x1)] [.int xs0, .ref rs1] b m Q := by
  refine mm_putf cc_M 0 (by decide) w_743 d_M_read_16 rfl (fun _ => rfl) (fun _ => rfl) g2 z3 l4 ?_
  refine mm_aload_n 0 (i := 0) d_M_read_19 rfl rfl ?_
  refine mm_get cc_M 0 (by decide) w_743 d_M_read_20 g6 z7 v9 ?_
  exact mm_if_le (tgt := 28) d_M_read_23 (by decide) (fun c => mm_sub [0, 1] rfl (h10 c)) (fun c => mm_sub [] rfl (h11 c))
theorem t_M_read_26 {l : Launch} {G : mm_G} {b : Nat} {m : mm_Mem} {Q : mm_O → mm_Mem → Prop}  (h1 : Q (.inl (some (.int 0))) m) : mm_W l G k_M_read 26 [] [] b m Q := by
  refine mm_iconst d_M_read_26 (v := 0) (by decide) ?_
  exact mm_iret d_M_read_27 rfl h1
theorem t_M_read_28 {l : Launch} {G : mm_G} {b : Nat} {m : mm_Mem} {Q : mm_O → mm_Mem → Prop} {r0 : Nat} {x1 : Int32} {fs_1 : List Value} {fs_5 : List Value} {fs_8 : List Value} {fs_11 : List Value} {m_14 : mm_Mem} {b_16 : Nat} {b_17 : Nat} {P_19 : mm_O → mm_Mem → Prop} {fs_20 : List Value} (g2 : m r0 = .inr (8, fs_1)) (z3 : r0 ≠ 0) (l4 : 19 < fs_1.length) (g6 : (va_up m r0 (.inr (8, fs_1.set 19 (.int x1)))) r0 = .inr (8, fs_5)) (l7 : 16 < fs_5.length) (g9 : (va_up (va_up m r0 (.inr (8, fs_1.set 19 (.int x1)))) r0 (.inr (8, fs_5.set 16 (.int 0)))) r0 = .inr (8, fs_8)) (l10 : 17 < fs_8.length) (g12 : (va_up (va_up (va_up m r0 (.inr (8, fs_1.set 19 (.int x1)))) r0 (.inr (8, fs_5.set 16 (.int 0)))) r0 (.inr (8, fs_8.set 17 (.int ((-1)))))) r0 = .inr (8, fs_11)) (l13 : 18 < fs_11.length) (q15 : m_14 = va_up (va_up (va_up (va_up m r0 (.inr (8, fs_1.set 19 (.int x1)))) r0 (.inr (8, fs_5.set 16 (.int 0)))) r0 (.inr (8, fs_8.set 17 (.int ((-1)))))) r0 (.inr (8, fs_11.set 18 (.int ((-1)))))) (hb18 : b_16 + b_17 ≤ b) (g21 : m_14 r0 = .inr (8, fs_20)) (M22 : mm_W l G k_M_isWrong 0 (lv_args 0 [.ref r0]) [] b_16 m_14 P_19) (hx23 : ∀ (E : String) (n_2 : mm_Mem), ¬ P_19 (.inr E) n_2) (h24 : ∀ (v : Option Value) (n_2 : mm_Mem), P_19 (.inl v) n_2 → ∃ x9 : Int32, v = some (.int x9) ∧ mm_W l G k_M_read 52 [(0, .ref r0)] [.int x9] b_17 n_2 Q) : mm_W l G k_M_read 28 [(0, .ref r0), (1, .int x1)] [] b m Q := by
  refine mm_aload_n 0 (i := 0) d_M_read_28 rfl rfl ?_
  refine mm_iload_n 1 (i := 1) d_M_read_29 rfl rfl ?_
  refine mm_putf cc_M 19 (by decide) w_762 d_M_read_30 rfl (fun _ => rfl) (fun _ => rfl) g2 z3 l4 ?_
  refine mm_aload_n 0 (i := 0) d_M_read_33 rfl rfl ?_
  refine mm_iconst d_M_read_34 (v := 0) (by decide) ?_
  refine mm_putf cc_M 16 (by decide) w_759 d_M_read_35 rfl (fun _ => rfl) (fun _ => rfl) g6 z3 l7 ?_
  refine mm_aload_n 0 (i := 0) d_M_read_38 rfl rfl ?_
  refine mm_iconst d_M_read_39 (v := (-1)) (by decide) ?_
  refine mm_putf cc_M 17 (by decide) w_760 d_M_read_40 rfl (fun _ => rfl) (fun _ => rfl) g9 z3 l10 ?_
  refine mm_aload_n 0 (i := 0) d_M_read_43 rfl rfl ?_
  refine mm_iconst d_M_read_44 (v := (-1)) (by decide) ?_
  refine mm_putf cc_M 18 (by decide) w_761 d_M_read_45 rfl (fun _ => rfl) (fun _ => rfl) g12 z3 l13 ?_
  refine mm_eqm q15 ?_
  refine mm_aload_n 0 (i := 0) d_M_read_48 rfl rfl ?_
  refine mm_callV (as := []) (st := []) (b2 := b_17) ca_M_isWrong w_967 w_969 v_M_isWrong cc_M.1 rfl d_M_read_49 rfl (Nat.le_of_ble_eq_true rfl) (Nat.le_of_ble_eq_true rfl) (Nat.le_of_ble_eq_true rfl) hb18 g21 z3 M22 (fun E m2 q => absurd q (hx23 E m2)) (fun v m2 q => ?_)
  obtain ⟨x9, rfl, z9⟩ := h24 v m2 q
  exact mm_sub [0] rfl z9
theorem t_M_read_52 {l : Launch} {G : mm_G} {b : Nat} {m : mm_Mem} {Q : mm_O → mm_Mem → Prop} {r0 : Nat} {xs0 : Int32} (h1 : (xs0 = 0) → mm_W l G k_M_read 60 [(0, .ref r0)] [] b m Q) (h2 : (¬ xs0 = 0) → mm_W l G k_M_read 55 [(0, .ref r0)] [] b m Q) : mm_W l G k_M_read 52 [(0, .ref r0)] [.int xs0] b m Q := by
  exact mm_if_eq (tgt := 60) d_M_read_52 (by decide) (fun c => mm_sub [0] rfl (h1 c)) (fun c => mm_sub [0] rfl (h2 c))
theorem t_M_read_55 {l : Launch} {G : mm_G} {b : Nat} {m : mm_Mem} {Q : mm_O → mm_Mem → Prop} {r0 : Nat} {fs_1 : List Value} {u_4 : Int32} (g2 : m r0 = .inr (8, fs_1)) (z3 : r0 ≠ 0) (v5 : fs_1[16]? = some (.int u_4)) (h6 : Q (.inl (some (.int u_4))) m) : mm_W l G k_M_read 55 [(0, .ref r0)] [] b m Q := by
  refine mm_aload_n 0 (i := 0) d_M_read_55 rfl rfl ?_
  refine mm_get cc_M 16 (by decide) w_759 d_M_read_56 g2 z3 v5 ?_
  exact mm_iret d_M_read_59 rfl h6
theorem t_M_read_60 {l : Launch} {G : mm_G} {b : Nat} {m : mm_Mem} {Q : mm_O → mm_Mem → Prop} {r0 : Nat} {fs_1 : List Value} {u_4 : Int32} {fs_7 : List Value} (g2 : m r0 = .inr (8, fs_1)) (z3 : r0 ≠ 0) (v5 : fs_1[22]? = some (.int u_4)) (l6 : 5 < fs_1.length) (g8 : (va_up m r0 (.inr (8, fs_1.set 5 (.int u_4)))) r0 = .inr (8, fs_7)) (l9 : 13 < fs_7.length) (h10 : mm_W l G k_M_read 75 [(0, .ref r0), (2, .int 0)] [] b (va_up (va_up m r0 (.inr (8, fs_1.set 5 (.int u_4)))) r0 (.inr (8, fs_7.set 13 (.int 0)))) Q) : mm_W l G k_M_read 60 [(0, .ref r0)] [] b m Q := by
  refine mm_aload_n 0 (i := 0) d_M_read_60 rfl rfl ?_
  refine mm_aload_n 0 (i := 0) d_M_read_61 rfl rfl ?_
  refine mm_get cc_M 22 (by decide) w_765 d_M_read_62 g2 z3 v5 ?_
  refine mm_putf cc_M 5 (by decide) w_748 d_M_read_65 rfl (fun _ => rfl) (fun _ => rfl) g2 z3 l6 ?_
  refine mm_aload_n 0 (i := 0) d_M_read_68 rfl rfl ?_
  refine mm_iconst d_M_read_69 (v := 0) (by decide) ?_
  refine mm_putf cc_M 13 (by decide) w_756 d_M_read_70 rfl (fun _ => rfl) (fun _ => rfl) g8 z3 l9 ?_
  refine mm_iconst d_M_read_73 (v := 0) (by decide) ?_
  refine mm_istore_n (i := 2) d_M_read_74 rfl (Nat.le_of_ble_eq_true rfl) (lv2 := [(2, .int 0), (0, .ref r0)]) rfl ?_
  exact mm_sub [1, 0] rfl h10
theorem t_M_read_75 {l : Launch} {G : mm_G} {b : Nat} {m : mm_Mem} {Q : mm_O → mm_Mem → Prop} {r0 : Nat} {x2 : Int32} {fs_1 : List Value} {u_4 : Int32} (g2 : m r0 = .inr (8, fs_1)) (z3 : r0 ≠ 0) (v5 : fs_1[22]? = some (.int u_4)) (h6 : (u_4 ≤ x2) → mm_W l G k_M_read 268 [] [] b m Q) (h7 : (¬ u_4 ≤ x2) → mm_W l G k_M_read 83 [(0, .ref r0), (2, .int x2)] [] b m Q) : mm_W l G k_M_read 75 [(0, .ref r0), (2, .int x2)] [] b m Q := by
  refine mm_iload_n 1 (i := 2) d_M_read_75 rfl rfl ?_
  refine mm_aload_n 0 (i := 0) d_M_read_76 rfl rfl ?_
  refine mm_get cc_M 22 (by decide) w_765 d_M_read_77 g2 z3 v5 ?_
  exact mm_icmp_ge (tgt := 268) d_M_read_80 (by decide) (fun c => mm_sub [] rfl (h6 c)) (fun c => mm_sub [0, 1] rfl (h7 c))
theorem t_M_read_83 {l : Launch} {G : mm_G} {b : Nat} {m : mm_Mem} {Q : mm_O → mm_Mem → Prop} {r0 : Nat} {x2 : Int32} {fs_1 : List Value} {q_4 : Nat} {b_6 : Nat} {b_7 : Nat} {m_9 : mm_Mem} {x_10 : Int32} {n_12 : Nat} {f_13 : Nat → Int32} (g2 : m r0 = .inr (8, fs_1)) (z3 : r0 ≠ 0) (v5 : fs_1[7]? = some (.ref q_4)) (hb8 : b_6 + b_7 ≤ b) (M11 : mm_W l G k_M_nameSize 0 (lv_args 0 [.ref r0, .int x2]) [] b_6 m (mm_is (.inl (some (.int x_10))) m_9)) (a14 : m_9 q_4 = .inl (G.2 1, n_12, .inl f_13)) (z15 : q_4 ≠ 0) (i16 : vp_in x2 n_12) (h17 : mm_W l G k_M_read 96 [(0, .ref r0), (2, .int x2), (3, .int 0)] [] b_7 (va_up m_9 q_4 (.inl (G.2 1, n_12, .inl (upd f_13 x2.toNatClampNeg x_10)))) Q) : mm_W l G k_M_read 83 [(0, .ref r0), (2, .int x2)] [] b m Q := by
  refine mm_aload_n 0 (i := 0) d_M_read_83 rfl rfl ?_
  refine mm_get cc_M 7 (by decide) w_750 d_M_read_84 g2 z3 v5 ?_
  refine mm_iload_n 1 (i := 2) d_M_read_87 rfl rfl ?_
  refine mm_aload_n 0 (i := 0) d_M_read_88 rfl rfl ?_
  refine mm_iload_n 1 (i := 2) d_M_read_89 rfl rfl ?_
  refine mm_callV (as := [.int x2]) (st := [.int x2, .ref q_4]) (b2 := b_7) ca_M_nameSize w_996 w_998 v_M_nameSize cc_M.1 rfl d_M_read_90 rfl (Nat.le_of_ble_eq_true rfl) (Nat.le_of_ble_eq_true rfl) (Nat.le_of_ble_eq_true rfl) hb8 g2 z3 M11 (fun E _ ⟨c, _⟩ => nomatch c) (fun v _ ⟨c, e⟩ => ?_)
  cases c
  rw [e]
  show mm_W l G k_M_read 93 [(0, .ref r0), (2, .int x2)] [.int x_10, .int x2, .ref q_4] b_7 m_9 Q
  refine mm_iast d_M_read_93 a14 z15 i16 ?_
  refine mm_iconst d_M_read_94 (v := 0) (by decide) ?_
  refine mm_istore_n (i := 3) d_M_read_95 rfl (Nat.le_of_ble_eq_true rfl) (lv2 := [(3, .int 0), (0, .ref r0), (2, .int x2)]) rfl ?_
  exact mm_sub [1, 2, 0] rfl h17
theorem t_M_read_96 {l : Launch} {G : mm_G} {b : Nat} {m : mm_Mem} {Q : mm_O → mm_Mem → Prop} {r0 : Nat} {x2 : Int32} {x3 : Int32} {b_1 : Nat} {b_2 : Nat} {m_4 : mm_Mem} {x_5 : Int32} {fs_6 : List Value} (hb3 : b_1 + b_2 ≤ b) (g7 : m r0 = .inr (8, fs_6)) (z8 : r0 ≠ 0) (M9 : mm_W l G k_M_nameSize 0 (lv_args 0 [.ref r0, .int x2]) [] b_1 m (mm_is (.inl (some (.int x_5))) m_4)) (h10 : (x_5 ≤ x3) → mm_W l G k_M_read 138 [(0, .ref r0), (2, .int x2)] [] b_2 m_4 Q) (h11 : (¬ x_5 ≤ x3) → mm_W l G k_M_read 105 [(0, .ref r0), (2, .int x2), (3, .int x3)] [] b_2 m_4 Q) : mm_W l G k_M_read 96 [(0, .ref r0), (2, .int x2), (3, .int x3)] [] b m Q := by
  refine mm_iload_n 2 (i := 3) d_M_read_96 rfl rfl ?_
  refine mm_aload_n 0 (i := 0) d_M_read_97 rfl rfl ?_
  refine mm_iload_n 1 (i := 2) d_M_read_98 rfl rfl ?_
  refine mm_callV (as := [.int x2]) (st := [.int x3]) (b2 := b_2) ca_M_nameSize w_996 w_998 v_M_nameSize cc_M.1 rfl d_M_read_99 rfl (Nat.le_of_ble_eq_true rfl) (Nat.le_of_ble_eq_true rfl) (Nat.le_of_ble_eq_true rfl) hb3 g7 z8 M9 (fun E _ ⟨c, _⟩ => nomatch c) (fun v _ ⟨c, e⟩ => ?_)
  cases c
  rw [e]
  show mm_W l G k_M_read 102 [(0, .ref r0), (2, .int x2), (3, .int x3)] [.int x_5, .int x3] b_2 m_4 Q
  exact mm_icmp_ge (tgt := 138) d_M_read_102 (by decide) (fun c => mm_sub [0, 1] rfl (h10 c)) (fun c => mm_sub [0, 1, 2] rfl (h11 c))
theorem t_M_read_105 {l : Launch} {G : mm_G} {b : Nat} {m : mm_Mem} {Q : mm_O → mm_Mem → Prop} {r0 : Nat} {x2 : Int32} {x3 : Int32} {fs_1 : List Value} {q_4 : Nat} {q_6 : Nat} {q_8 : Nat} {n_10 : Nat} {f_11 : Nat → Int32} {n_15 : Nat} {f_16 : Nat → Int32} {n_20 : Nat} {f_21 : Nat → Int32} (g2 : m r0 = .inr (8, fs_1)) (z3 : r0 ≠ 0) (v5 : fs_1[6]? = some (.ref q_4)) (v7 : fs_1[2]? = some (.ref q_6)) (v9 : fs_1[23]? = some (.ref q_8)) (a12 : m q_8 = .inl (G.2 1, n_10, .inl f_11)) (z13 : q_8 ≠ 0) (i14 : vp_in x2 n_10) (a17 : m q_6 = .inl (G.2 0, n_15, .inl f_16)) (z18 : q_6 ≠ 0) (i19 : vp_in (((f_11 x2.toNatClampNeg) + 46) + x3) n_15) (a22 : m q_4 = .inl (G.2 1, n_20, .inl f_21)) (z23 : q_4 ≠ 0) (i24 : vp_in ((64 * x2) + x3) n_20) (h25 : mm_W l G k_M_read 96 [(0, .ref r0), (2, .int x2), (3, .int (x3 + 1))] [] b (va_up m q_4 (.inl (G.2 1, n_20, .inl (upd f_21 ((64 * x2) + x3).toNatClampNeg (f_16 (((f_11 x2.toNatClampNeg) + 46) + x3).toNatClampNeg))))) Q) : mm_W l G k_M_read 105 [(0, .ref r0), (2, .int x2), (3, .int x3)] [] b m Q := by
  refine mm_aload_n 0 (i := 0) d_M_read_105 rfl rfl ?_
  refine mm_get cc_M 6 (by decide) w_749 d_M_read_106 g2 z3 v5 ?_
  refine mm_bipush d_M_read_109 (v := 64) (by decide) ?_
  refine mm_iload_n 1 (i := 2) d_M_read_111 rfl rfl ?_
  refine mm_imul d_M_read_112 ?_
  refine mm_iload_n 2 (i := 3) d_M_read_113 rfl rfl ?_
  refine mm_iadd d_M_read_114 ?_
  refine mm_aload_n 0 (i := 0) d_M_read_115 rfl rfl ?_
  refine mm_get cc_M 2 (by decide) w_745 d_M_read_116 g2 z3 v7 ?_
  refine mm_aload_n 0 (i := 0) d_M_read_119 rfl rfl ?_
  refine mm_get cc_M 23 (by decide) w_766 d_M_read_120 g2 z3 v9 ?_
  refine mm_iload_n 1 (i := 2) d_M_read_123 rfl rfl ?_
  refine mm_iald d_M_read_124 a12 z13 i14 ?_
  refine mm_bipush d_M_read_125 (v := 46) (by decide) ?_
  refine mm_iadd d_M_read_127 ?_
  refine mm_iload_n 2 (i := 3) d_M_read_128 rfl rfl ?_
  refine mm_iadd d_M_read_129 ?_
  refine mm_bald d_M_read_130 a17 z18 i19 ?_
  refine mm_iast d_M_read_131 a22 z23 i24 ?_
  refine mm_iinc 2 (i := 3) d_M_read_132 rfl (v := x3 + 1) rfl (Nat.le_of_ble_eq_true rfl) (lv2 := [(3, .int (x3 + 1)), (0, .ref r0), (2, .int x2)]) rfl ?_
  refine mm_goto (tgt := 96) d_M_read_135 (by decide) ?_
  exact mm_sub [1, 2, 0] rfl h25
theorem t_M_read_138 {l : Launch} {G : mm_G} {b : Nat} {m : mm_Mem} {Q : mm_O → mm_Mem → Prop} {r0 : Nat} {x2 : Int32} {fs_1 : List Value} {q_4 : Nat} {b_6 : Nat} {b_7 : Nat} {m_9 : mm_Mem} {x_10 : Int32} {n_12 : Nat} {f_13 : Nat → Int32} {fs_17 : List Value} {q_19 : Nat} {u_21 : Int32} {n_23 : Nat} {f_24 : Nat → Int32} {fs_28 : List Value} {q_30 : Nat} {b_32 : Nat} {b_33 : Nat} {m_35 : mm_Mem} {y_36 : Int64} {n_38 : Nat} {f_39 : Nat → Int32} {fs_43 : List Value} {q_45 : Nat} {b_47 : Nat} {b_48 : Nat} {m_50 : mm_Mem} {y_51 : Int64} {n_53 : Nat} {f_54 : Nat → Int32} {fs_58 : List Value} {q_60 : Nat} {q_62 : Nat} {n_64 : Nat} {f_65 : Nat → Int32} {b_69 : Nat} {b_70 : Nat} {m_72 : mm_Mem} {y_73 : Int64} {n_75 : Nat} {f_76 : Nat → Int32} (g2 : m r0 = .inr (8, fs_1)) (z3 : r0 ≠ 0) (v5 : fs_1[8]? = some (.ref q_4)) (hb8 : b_6 + b_7 ≤ b) (M11 : mm_W l G k_M_method 0 (lv_args 0 [.ref r0, .int x2]) [] b_6 m (mm_is (.inl (some (.int x_10))) m_9)) (a14 : m_9 q_4 = .inl (G.2 1, n_12, .inl f_13)) (z15 : q_4 ≠ 0) (i16 : vp_in x2 n_12) (g18 : (va_up m_9 q_4 (.inl (G.2 1, n_12, .inl (upd f_13 x2.toNatClampNeg x_10)))) r0 = .inr (8, fs_17)) (v20 : fs_17[9]? = some (.ref q_19)) (v22 : fs_17[13]? = some (.int u_21)) (a25 : (va_up m_9 q_4 (.inl (G.2 1, n_12, .inl (upd f_13 x2.toNatClampNeg x_10)))) q_19 = .inl (G.2 1, n_23, .inl f_24)) (z26 : q_19 ≠ 0) (i27 : vp_in x2 n_23) (g29 : (va_up (va_up m_9 q_4 (.inl (G.2 1, n_12, .inl (upd f_13 x2.toNatClampNeg x_10)))) q_19 (.inl (G.2 1, n_23, .inl (upd f_24 x2.toNatClampNeg u_21)))) r0 = .inr (8, fs_28)) (v31 : fs_28[10]? = some (.ref q_30)) (hb34 : b_32 + b_33 ≤ b_7) (M37 : mm_W l G k_M_many 0 (lv_args 0 [.ref r0, .int x2]) [] b_32 (va_up (va_up m_9 q_4 (.inl (G.2 1, n_12, .inl (upd f_13 x2.toNatClampNeg x_10)))) q_19 (.inl (G.2 1, n_23, .inl (upd f_24 x2.toNatClampNeg u_21)))) (mm_is (.inl (some (.long y_36))) m_35)) (a40 : m_35 q_30 = .inl (G.2 1, n_38, .inl f_39)) (z41 : q_30 ≠ 0) (i42 : vp_in x2 n_38) (g44 : (va_up m_35 q_30 (.inl (G.2 1, n_38, .inl (upd f_39 x2.toNatClampNeg y_36.toInt32)))) r0 = .inr (8, fs_43)) (v46 : fs_43[11]? = some (.ref q_45)) (hb49 : b_47 + b_48 ≤ b_33) (M52 : mm_W l G k_M_size 0 (lv_args 0 [.ref r0, .int x2]) [] b_47 (va_up m_35 q_30 (.inl (G.2 1, n_38, .inl (upd f_39 x2.toNatClampNeg y_36.toInt32)))) (mm_is (.inl (some (.long y_51))) m_50)) (a55 : m_50 q_45 = .inl (G.2 1, n_53, .inl f_54)) (z56 : q_45 ≠ 0) (i57 : vp_in x2 n_53) (g59 : (va_up m_50 q_45 (.inl (G.2 1, n_53, .inl (upd f_54 x2.toNatClampNeg y_51.toInt32)))) r0 = .inr (8, fs_58)) (v61 : fs_58[12]? = some (.ref q_60)) (v63 : fs_58[23]? = some (.ref q_62)) (a66 : (va_up m_50 q_45 (.inl (G.2 1, n_53, .inl (upd f_54 x2.toNatClampNeg y_51.toInt32)))) q_62 = .inl (G.2 1, n_64, .inl f_65)) (z67 : q_62 ≠ 0) (i68 : vp_in x2 n_64) (hb71 : b_69 + b_70 ≤ b_48) (M74 : mm_W l G k_M_four 0 (lv_args 0 [.ref r0, .long (((f_65 x2.toNatClampNeg) + 16).toInt64)]) [] b_69 (va_up m_50 q_45 (.inl (G.2 1, n_53, .inl (upd f_54 x2.toNatClampNeg y_51.toInt32)))) (mm_is (.inl (some (.long y_73))) m_72)) (a77 : m_72 q_60 = .inl (G.2 1, n_75, .inl f_76)) (z78 : q_60 ≠ 0) (i79 : vp_in x2 n_75) (h80 : mm_W l G k_M_read 206 [(0, .ref r0), (2, .int x2), (3, .int 0)] [] b_70 (va_up m_72 q_60 (.inl (G.2 1, n_75, .inl (upd f_76 x2.toNatClampNeg y_73.toInt32)))) Q) : mm_W l G k_M_read 138 [(0, .ref r0), (2, .int x2)] [] b m Q := by
  refine mm_aload_n 0 (i := 0) d_M_read_138 rfl rfl ?_
  refine mm_get cc_M 8 (by decide) w_751 d_M_read_139 g2 z3 v5 ?_
  refine mm_iload_n 1 (i := 2) d_M_read_142 rfl rfl ?_
  refine mm_aload_n 0 (i := 0) d_M_read_143 rfl rfl ?_
  refine mm_iload_n 1 (i := 2) d_M_read_144 rfl rfl ?_
  refine mm_callV (as := [.int x2]) (st := [.int x2, .ref q_4]) (b2 := b_7) ca_M_method w_1006 w_1008 v_M_method cc_M.1 rfl d_M_read_145 rfl (Nat.le_of_ble_eq_true rfl) (Nat.le_of_ble_eq_true rfl) (Nat.le_of_ble_eq_true rfl) hb8 g2 z3 M11 (fun E _ ⟨c, _⟩ => nomatch c) (fun v _ ⟨c, e⟩ => ?_)
  cases c
  rw [e]
  show mm_W l G k_M_read 148 [(0, .ref r0), (2, .int x2)] [.int x_10, .int x2, .ref q_4] b_7 m_9 Q
  refine mm_iast d_M_read_148 a14 z15 i16 ?_
  refine mm_aload_n 0 (i := 0) d_M_read_149 rfl rfl ?_
  refine mm_get cc_M 9 (by decide) w_752 d_M_read_150 g18 z3 v20 ?_
  refine mm_iload_n 1 (i := 2) d_M_read_153 rfl rfl ?_
  refine mm_aload_n 0 (i := 0) d_M_read_154 rfl rfl ?_
  refine mm_get cc_M 13 (by decide) w_756 d_M_read_155 g18 z3 v22 ?_
  refine mm_iast d_M_read_158 a25 z26 i27 ?_
  refine mm_aload_n 0 (i := 0) d_M_read_159 rfl rfl ?_
  refine mm_get cc_M 10 (by decide) w_753 d_M_read_160 g29 z3 v31 ?_
  refine mm_iload_n 1 (i := 2) d_M_read_163 rfl rfl ?_
  refine mm_aload_n 0 (i := 0) d_M_read_164 rfl rfl ?_
  refine mm_iload_n 1 (i := 2) d_M_read_165 rfl rfl ?_
  refine mm_callV (as := [.int x2]) (st := [.int x2, .ref q_30]) (b2 := b_33) ca_M_many w_1015 w_1017 v_M_many cc_M.1 rfl d_M_read_166 rfl (Nat.le_of_ble_eq_true rfl) (Nat.le_of_ble_eq_true rfl) (Nat.le_of_ble_eq_true rfl) hb34 g29 z3 M37 (fun E _ ⟨c, _⟩ => nomatch c) (fun v _ ⟨c, e⟩ => ?_)
  cases c
  rw [e]
  show mm_W l G k_M_read 169 [(0, .ref r0), (2, .int x2)] [.long y_36, .int x2, .ref q_30] b_33 m_35 Q
  refine mm_l2i d_M_read_169 ?_
  refine mm_iast d_M_read_170 a40 z41 i42 ?_
  refine mm_aload_n 0 (i := 0) d_M_read_171 rfl rfl ?_
  refine mm_get cc_M 11 (by decide) w_754 d_M_read_172 g44 z3 v46 ?_
  refine mm_iload_n 1 (i := 2) d_M_read_175 rfl rfl ?_
  refine mm_aload_n 0 (i := 0) d_M_read_176 rfl rfl ?_
  refine mm_iload_n 1 (i := 2) d_M_read_177 rfl rfl ?_
  refine mm_callV (as := [.int x2]) (st := [.int x2, .ref q_45]) (b2 := b_48) ca_M_size w_1019 w_1021 v_M_size cc_M.1 rfl d_M_read_178 rfl (Nat.le_of_ble_eq_true rfl) (Nat.le_of_ble_eq_true rfl) (Nat.le_of_ble_eq_true rfl) hb49 g44 z3 M52 (fun E _ ⟨c, _⟩ => nomatch c) (fun v _ ⟨c, e⟩ => ?_)
  cases c
  rw [e]
  show mm_W l G k_M_read 181 [(0, .ref r0), (2, .int x2)] [.long y_51, .int x2, .ref q_45] b_48 m_50 Q
  refine mm_l2i d_M_read_181 ?_
  refine mm_iast d_M_read_182 a55 z56 i57 ?_
  refine mm_aload_n 0 (i := 0) d_M_read_183 rfl rfl ?_
  refine mm_get cc_M 12 (by decide) w_755 d_M_read_184 g59 z3 v61 ?_
  refine mm_iload_n 1 (i := 2) d_M_read_187 rfl rfl ?_
  refine mm_aload_n 0 (i := 0) d_M_read_188 rfl rfl ?_
  refine mm_aload_n 0 (i := 0) d_M_read_189 rfl rfl ?_
  refine mm_get cc_M 23 (by decide) w_766 d_M_read_190 g59 z3 v63 ?_
  refine mm_iload_n 1 (i := 2) d_M_read_193 rfl rfl ?_
  refine mm_iald d_M_read_194 a66 z67 i68 ?_
  refine mm_bipush d_M_read_195 (v := 16) (by decide) ?_
  refine mm_iadd d_M_read_197 ?_
  refine mm_i2l d_M_read_198 ?_
  refine mm_callV (as := [.long (((f_65 x2.toNatClampNeg) + 16).toInt64)]) (st := [.int x2, .ref q_60]) (b2 := b_70) ca_M_four w_975 w_977 v_M_four cc_M.1 rfl d_M_read_199 rfl (Nat.le_of_ble_eq_true rfl) (Nat.le_of_ble_eq_true rfl) (Nat.le_of_ble_eq_true rfl) hb71 g59 z3 M74 (fun E _ ⟨c, _⟩ => nomatch c) (fun v _ ⟨c, e⟩ => ?_)
  cases c
  rw [e]
  show mm_W l G k_M_read 202 [(0, .ref r0), (2, .int x2)] [.long y_73, .int x2, .ref q_60] b_70 m_72 Q
  refine mm_l2i d_M_read_202 ?_
  refine mm_iast d_M_read_203 a77 z78 i79 ?_
  refine mm_iconst d_M_read_204 (v := 0) (by decide) ?_
  refine mm_istore_n (i := 3) d_M_read_205 rfl (Nat.le_of_ble_eq_true rfl) (lv2 := [(3, .int 0), (0, .ref r0), (2, .int x2)]) rfl ?_
  exact mm_sub [1, 2, 0] rfl h80
theorem t_M_read_206 {l : Launch} {G : mm_G} {b : Nat} {m : mm_Mem} {Q : mm_O → mm_Mem → Prop} {r0 : Nat} {x2 : Int32} {x3 : Int32} {fs_1 : List Value} {q_4 : Nat} {n_6 : Nat} {f_7 : Nat → Int32} (g2 : m r0 = .inr (8, fs_1)) (z3 : r0 ≠ 0) (v5 : fs_1[10]? = some (.ref q_4)) (a8 : m q_4 = .inl (G.2 1, n_6, .inl f_7)) (z9 : q_4 ≠ 0) (i10 : vp_in x2 n_6) (h11 : ((f_7 x2.toNatClampNeg) ≤ x3) → mm_W l G k_M_read 247 [(0, .ref r0), (2, .int x2)] [] b m Q) (h12 : (¬ (f_7 x2.toNatClampNeg) ≤ x3) → mm_W l G k_M_read 216 [(0, .ref r0), (2, .int x2), (3, .int x3)] [] b m Q) : mm_W l G k_M_read 206 [(0, .ref r0), (2, .int x2), (3, .int x3)] [] b m Q := by
  refine mm_iload_n 2 (i := 3) d_M_read_206 rfl rfl ?_
  refine mm_aload_n 0 (i := 0) d_M_read_207 rfl rfl ?_
  refine mm_get cc_M 10 (by decide) w_753 d_M_read_208 g2 z3 v5 ?_
  refine mm_iload_n 1 (i := 2) d_M_read_211 rfl rfl ?_
  refine mm_iald d_M_read_212 a8 z9 i10 ?_
  exact mm_icmp_ge (tgt := 247) d_M_read_213 (by decide) (fun c => mm_sub [0, 1] rfl (h11 c)) (fun c => mm_sub [0, 1, 2] rfl (h12 c))
theorem t_M_read_216 {l : Launch} {G : mm_G} {b : Nat} {m : mm_Mem} {Q : mm_O → mm_Mem → Prop} {r0 : Nat} {x2 : Int32} {x3 : Int32} {fs_1 : List Value} {q_4 : Nat} {u_6 : Int32} {q_8 : Nat} {q_10 : Nat} {n_12 : Nat} {f_13 : Nat → Int64} {n_17 : Nat} {f_18 : Nat → Int32} {n_22 : Nat} {f_23 : Nat → Int32} {m_27 : mm_Mem} (g2 : m r0 = .inr (8, fs_1)) (z3 : r0 ≠ 0) (v5 : fs_1[14]? = some (.ref q_4)) (v7 : fs_1[13]? = some (.int u_6)) (v9 : fs_1[2]? = some (.ref q_8)) (v11 : fs_1[25]? = some (.ref q_10)) (a14 : m q_10 = .inl (G.2 2, n_12, .inr (.inl f_13))) (z15 : q_10 ≠ 0) (i16 : vp_in x2 n_12) (a19 : m q_8 = .inl (G.2 0, n_17, .inl f_18)) (z20 : q_8 ≠ 0) (i21 : vp_in (((f_13 x2.toNatClampNeg).toInt32) + x3) n_17) (a24 : m q_4 = .inl (G.2 0, n_22, .inl f_23)) (z25 : q_4 ≠ 0) (i26 : vp_in (u_6 + x3) n_22) (q28 : m_27 = va_up m q_4 (.inl (G.2 0, n_22, .inl (upd f_23 (u_6 + x3).toNatClampNeg (vp_nar .byte (f_18 (((f_13 x2.toNatClampNeg).toInt32) + x3).toNatClampNeg)))))) (h29 : mm_W l G k_M_read 206 [(0, .ref r0), (2, .int x2), (3, .int (x3 + 1))] [] b m_27 Q) : mm_W l G k_M_read 216 [(0, .ref r0), (2, .int x2), (3, .int x3)] [] b m Q := by
  refine mm_aload_n 0 (i := 0) d_M_read_216 rfl rfl ?_
  refine mm_get cc_M 14 (by decide) w_757 d_M_read_217 g2 z3 v5 ?_
  refine mm_aload_n 0 (i := 0) d_M_read_220 rfl rfl ?_
  refine mm_get cc_M 13 (by decide) w_756 d_M_read_221 g2 z3 v7 ?_
  refine mm_iload_n 2 (i := 3) d_M_read_224 rfl rfl ?_
  refine mm_iadd d_M_read_225 ?_
  refine mm_aload_n 0 (i := 0) d_M_read_226 rfl rfl ?_
  refine mm_get cc_M 2 (by decide) w_745 d_M_read_227 g2 z3 v9 ?_
  refine mm_aload_n 0 (i := 0) d_M_read_230 rfl rfl ?_
  refine mm_get cc_M 25 (by decide) w_768 d_M_read_231 g2 z3 v11 ?_
  refine mm_iload_n 1 (i := 2) d_M_read_234 rfl rfl ?_
  refine mm_lald d_M_read_235 a14 z15 i16 ?_
  refine mm_l2i d_M_read_236 ?_
  refine mm_iload_n 2 (i := 3) d_M_read_237 rfl rfl ?_
  refine mm_iadd d_M_read_238 ?_
  refine mm_bald d_M_read_239 a19 z20 i21 ?_
  refine mm_bast d_M_read_240 a24 z25 i26 ?_
  refine mm_eqm q28 ?_
  refine mm_iinc 2 (i := 3) d_M_read_241 rfl (v := x3 + 1) rfl (Nat.le_of_ble_eq_true rfl) (lv2 := [(3, .int (x3 + 1)), (0, .ref r0), (2, .int x2)]) rfl ?_
  refine mm_goto (tgt := 206) d_M_read_244 (by decide) ?_
  exact mm_sub [1, 2, 0] rfl h29
theorem t_M_read_247 {l : Launch} {G : mm_G} {b : Nat} {m : mm_Mem} {Q : mm_O → mm_Mem → Prop} {r0 : Nat} {x2 : Int32} {fs_1 : List Value} {u_4 : Int32} {q_6 : Nat} {n_8 : Nat} {f_9 : Nat → Int32} (g2 : m r0 = .inr (8, fs_1)) (z3 : r0 ≠ 0) (v5 : fs_1[13]? = some (.int u_4)) (v7 : fs_1[10]? = some (.ref q_6)) (a10 : m q_6 = .inl (G.2 1, n_8, .inl f_9)) (z11 : q_6 ≠ 0) (i12 : vp_in x2 n_8) (l13 : 13 < fs_1.length) (h14 : mm_W l G k_M_read 75 [(0, .ref r0), (2, .int (x2 + 1))] [] b (va_up m r0 (.inr (8, fs_1.set 13 (.int (u_4 + (f_9 x2.toNatClampNeg)))))) Q) : mm_W l G k_M_read 247 [(0, .ref r0), (2, .int x2)] [] b m Q := by
  refine mm_aload_n 0 (i := 0) d_M_read_247 rfl rfl ?_
  refine mm_dup d_M_read_248 rfl ?_
  refine mm_get cc_M 13 (by decide) w_756 d_M_read_249 g2 z3 v5 ?_
  refine mm_aload_n 0 (i := 0) d_M_read_252 rfl rfl ?_
  refine mm_get cc_M 10 (by decide) w_753 d_M_read_253 g2 z3 v7 ?_
  refine mm_iload_n 1 (i := 2) d_M_read_256 rfl rfl ?_
  refine mm_iald d_M_read_257 a10 z11 i12 ?_
  refine mm_iadd d_M_read_258 ?_
  refine mm_putf cc_M 13 (by decide) w_756 d_M_read_259 rfl (fun _ => rfl) (fun _ => rfl) g2 z3 l13 ?_
  refine mm_iinc 1 (i := 2) d_M_read_262 rfl (v := x2 + 1) rfl (Nat.le_of_ble_eq_true rfl) (lv2 := [(2, .int (x2 + 1)), (0, .ref r0)]) rfl ?_
  refine mm_goto (tgt := 75) d_M_read_265 (by decide) ?_
  exact mm_sub [1, 0] rfl h14
theorem t_M_read_268 {l : Launch} {G : mm_G} {b : Nat} {m : mm_Mem} {Q : mm_O → mm_Mem → Prop}  (h1 : Q (.inl (some (.int 0))) m) : mm_W l G k_M_read 268 [] [] b m Q := by
  refine mm_iconst d_M_read_268 (v := 0) (by decide) ?_
  exact mm_iret d_M_read_269 rfl h1
theorem t_M_blame_0 {l : Launch} {G : mm_G} {b : Nat} {m : mm_Mem} {Q : mm_O → mm_Mem → Prop} {r0 : Nat} {x1 : Int32} (h1 : (x1 < 0) → mm_W l G k_M_blame 10 [(0, .ref r0), (1, .int x1)] [.ref r0] b m Q) (h2 : (¬ x1 < 0) → mm_W l G k_M_blame 5 [(0, .ref r0), (1, .int x1)] [.ref r0] b m Q) : mm_W l G k_M_blame 0 [(0, .ref r0), (1, .int x1)] [] b m Q := by
  refine mm_aload_n 0 (i := 0) d_M_blame_0 rfl rfl ?_
  refine mm_iload_n 1 (i := 1) d_M_blame_1 rfl rfl ?_
  exact mm_if_lt (tgt := 10) d_M_blame_2 (by decide) (fun c => mm_sub [0, 1] rfl (h1 c)) (fun c => mm_sub [0, 1] rfl (h2 c))
theorem t_M_blame_5 {l : Launch} {G : mm_G} {b : Nat} {m : mm_Mem} {Q : mm_O → mm_Mem → Prop} {r0 : Nat} {x1 : Int32} {rs0 : Nat} (h1 : (x1 ≤ 2) → mm_W l G k_M_blame 14 [(0, .ref r0), (1, .int x1)] [.ref rs0] b m Q) (h2 : (¬ x1 ≤ 2) → mm_W l G k_M_blame 10 [(0, .ref r0), (1, .int x1)] [.ref rs0] b m Q) : mm_W l G k_M_blame 5 [(0, .ref r0), (1, .int x1)] [.ref rs0] b m Q := by
  refine mm_iload_n 1 (i := 1) d_M_blame_5 rfl rfl ?_
  refine mm_iconst d_M_blame_6 (v := 2) (by decide) ?_
  exact mm_icmp_le (tgt := 14) d_M_blame_7 (by decide) (fun c => mm_sub [0, 1] rfl (h1 c)) (fun c => mm_sub [0, 1] rfl (h2 c))
theorem t_M_blame_10 {l : Launch} {G : mm_G} {b : Nat} {m : mm_Mem} {Q : mm_O → mm_Mem → Prop} {r0 : Nat} {x1 : Int32} {rs0 : Nat} (h1 : mm_W l G k_M_blame 15 [(0, .ref r0), (1, .int x1)] [.int 1, .ref rs0] b m Q) : mm_W l G k_M_blame 10 [(0, .ref r0), (1, .int x1)] [.ref rs0] b m Q := by
  refine mm_iconst d_M_blame_10 (v := 1) (by decide) ?_
  refine mm_goto (tgt := 15) d_M_blame_11 (by decide) ?_
  exact mm_sub [0, 1] rfl h1
theorem t_M_blame_14 {l : Launch} {G : mm_G} {b : Nat} {m : mm_Mem} {Q : mm_O → mm_Mem → Prop} {r0 : Nat} {x1 : Int32} {rs0 : Nat} (h1 : mm_W l G k_M_blame 15 [(0, .ref r0), (1, .int x1)] [.int 0, .ref rs0] b m Q) : mm_W l G k_M_blame 14 [(0, .ref r0), (1, .int x1)] [.ref rs0] b m Q := by
  refine mm_iconst d_M_blame_14 (v := 0) (by decide) ?_
  exact mm_sub [0, 1] rfl h1
theorem t_M_blame_15 {l : Launch} {G : mm_G} {b : Nat} {m : mm_Mem} {Q : mm_O → mm_Mem → Prop} {r0 : Nat} {x1 : Int32} {xs0 : Int32} {rs1 : Nat} {fs_1 : List Value} {fs_5 : List Value} {u_8 : Int32} (g2 : m rs1 = .inr (8, fs_1)) (z3 : rs1 ≠ 0) (l4 : 0 < fs_1.length) (g6 : (va_up m rs1 (.inr (8, fs_1.set 0 (.int xs0)))) r0 = .inr (8, fs_5)) (z7 : r0 ≠ 0) (v9 : fs_5[0]? = some (.int u_8)) (h10 : (u_8 ≤ 0) → mm_W l G k_M_blame 27 [(0, .ref r0), (1, .int x1)] [] b (va_up m rs1 (.inr (8, fs_1.set 0 (.int xs0)))) Q) (h11 : (¬ u_8 ≤ 0) → mm_W l G k_M_blame 25 [] [] b (va_up m rs1 (.inr (8, fs_1.set 0 (.int xs0)))) Q) : mm_W l G k_M_blame 15 [(0, .ref r0), (1, .int x1)] [.int xs0, .ref rs1] b m Q := by
  refine mm_putf cc_M 0 (by decide) w_743 d_M_blame_15 rfl (fun _ => rfl) (fun _ => rfl) g2 z3 l4 ?_
  refine mm_aload_n 0 (i := 0) d_M_blame_18 rfl rfl ?_
  refine mm_get cc_M 0 (by decide) w_743 d_M_blame_19 g6 z7 v9 ?_
  exact mm_if_le (tgt := 27) d_M_blame_22 (by decide) (fun c => mm_sub [0, 1] rfl (h10 c)) (fun c => mm_sub [] rfl (h11 c))
theorem t_M_blame_25 {l : Launch} {G : mm_G} {b : Nat} {m : mm_Mem} {Q : mm_O → mm_Mem → Prop}  (h1 : Q (.inl (some (.int 0))) m) : mm_W l G k_M_blame 25 [] [] b m Q := by
  refine mm_iconst d_M_blame_25 (v := 0) (by decide) ?_
  exact mm_iret d_M_blame_26 rfl h1
theorem t_M_blame_27 {l : Launch} {G : mm_G} {b : Nat} {m : mm_Mem} {Q : mm_O → mm_Mem → Prop} {r0 : Nat} {x1 : Int32} (h1 : (¬ x1 = 0) → mm_W l G k_M_blame 38 [(0, .ref r0), (1, .int x1)] [] b m Q) (h2 : (x1 = 0) → mm_W l G k_M_blame 31 [(0, .ref r0)] [] b m Q) : mm_W l G k_M_blame 27 [(0, .ref r0), (1, .int x1)] [] b m Q := by
  refine mm_iload_n 1 (i := 1) d_M_blame_27 rfl rfl ?_
  exact mm_if_ne (tgt := 38) d_M_blame_28 (by decide) (fun c => mm_sub [0, 1] rfl (h1 c)) (fun c => mm_sub [0] rfl (h2 c))
theorem t_M_blame_31 {l : Launch} {G : mm_G} {b : Nat} {m : mm_Mem} {Q : mm_O → mm_Mem → Prop} {r0 : Nat} {fs_1 : List Value} {u_4 : Int32} (g2 : m r0 = .inr (8, fs_1)) (z3 : r0 ≠ 0) (v5 : fs_1[16]? = some (.int u_4)) (h6 : mm_W l G k_M_blame 54 [] [.int u_4] b m Q) : mm_W l G k_M_blame 31 [(0, .ref r0)] [] b m Q := by
  refine mm_aload_n 0 (i := 0) d_M_blame_31 rfl rfl ?_
  refine mm_get cc_M 16 (by decide) w_759 d_M_blame_32 g2 z3 v5 ?_
  refine mm_goto (tgt := 54) d_M_blame_35 (by decide) ?_
  exact mm_sub [] rfl h6
theorem t_M_blame_38 {l : Launch} {G : mm_G} {b : Nat} {m : mm_Mem} {Q : mm_O → mm_Mem → Prop} {r0 : Nat} {x1 : Int32} (h1 : (¬ x1 = 1) → mm_W l G k_M_blame 50 [(0, .ref r0)] [] b m Q) (h2 : (x1 = 1) → mm_W l G k_M_blame 43 [(0, .ref r0)] [] b m Q) : mm_W l G k_M_blame 38 [(0, .ref r0), (1, .int x1)] [] b m Q := by
  refine mm_iload_n 1 (i := 1) d_M_blame_38 rfl rfl ?_
  refine mm_iconst d_M_blame_39 (v := 1) (by decide) ?_
  exact mm_icmp_ne (tgt := 50) d_M_blame_40 (by decide) (fun c => mm_sub [0] rfl (h1 c)) (fun c => mm_sub [0] rfl (h2 c))
theorem t_M_blame_43 {l : Launch} {G : mm_G} {b : Nat} {m : mm_Mem} {Q : mm_O → mm_Mem → Prop} {r0 : Nat} {fs_1 : List Value} {u_4 : Int32} (g2 : m r0 = .inr (8, fs_1)) (z3 : r0 ≠ 0) (v5 : fs_1[17]? = some (.int u_4)) (h6 : mm_W l G k_M_blame 54 [] [.int u_4] b m Q) : mm_W l G k_M_blame 43 [(0, .ref r0)] [] b m Q := by
  refine mm_aload_n 0 (i := 0) d_M_blame_43 rfl rfl ?_
  refine mm_get cc_M 17 (by decide) w_760 d_M_blame_44 g2 z3 v5 ?_
  refine mm_goto (tgt := 54) d_M_blame_47 (by decide) ?_
  exact mm_sub [] rfl h6
theorem t_M_blame_50 {l : Launch} {G : mm_G} {b : Nat} {m : mm_Mem} {Q : mm_O → mm_Mem → Prop} {r0 : Nat} {fs_1 : List Value} {u_4 : Int32} (g2 : m r0 = .inr (8, fs_1)) (z3 : r0 ≠ 0) (v5 : fs_1[18]? = some (.int u_4)) (h6 : mm_W l G k_M_blame 54 [] [.int u_4] b m Q) : mm_W l G k_M_blame 50 [(0, .ref r0)] [] b m Q := by
  refine mm_aload_n 0 (i := 0) d_M_blame_50 rfl rfl ?_
  refine mm_get cc_M 18 (by decide) w_761 d_M_blame_51 g2 z3 v5 ?_
  exact mm_sub [] rfl h6
theorem t_M_blame_54 {l : Launch} {G : mm_G} {b : Nat} {m : mm_Mem} {Q : mm_O → mm_Mem → Prop} {xs0 : Int32} (h1 : Q (.inl (some (.int xs0))) m) : mm_W l G k_M_blame 54 [] [.int xs0] b m Q := by
  exact mm_iret d_M_blame_54 rfl h1
