def k_P_init : mm_M := ("PartBox", prog_1_method_1_code, 1, none, (4, 83), [], "<init>", none)
def k_P_feed : mm_M := ("PartBox", prog_1_method_2_code, 6, none, (6, 90), [], "feed", none)
def k_P_end : mm_M := ("PartBox", prog_1_method_3_code, 2, none, (6, 90), [], "end", none)
def k_P_alter : mm_M := ("PartBox", prog_1_method_4_code, 3, none, (6, 90), [], "alter", none)
def k_P_length : mm_M := ("PartBox", prog_1_method_5_code, 1, some .int, (2, 40), [], "length", none)
def k_P_byteAt : mm_M := ("PartBox", prog_1_method_6_code, 3, some .int, (6, 90), [], "byteAt", none)
def k_P_type : mm_M := ("PartBox", prog_1_method_7_code, 5, some .int, (6, 90), [], "type", none)
def k_P_erase : mm_M := ("PartBox", prog_1_method_8_code, 1, none, (2, 41), [], "erase", none)
def k_P_add : mm_M := ("PartBox", prog_1_method_9_code, 1, some .int, (7, 114), [], "add", none)
def k_P_addPacked : mm_M := ("PartBox", prog_1_method_10_code, 3, some .int, (7, 114), [], "addPacked", none)
def k_P_remove : mm_M := ("PartBox", prog_1_method_11_code, 2, none, (6, 90), [], "remove", none)
def k_P_move : mm_M := ("PartBox", prog_1_method_12_code, 3, none, (6, 90), [], "move", none)
def k_P_find : mm_M := ("PartBox", prog_1_method_13_code, 1, some .int, (4, 89), [], "find", none)
def k_P_about : mm_M := ("PartBox", prog_1_method_14_code, 4, some .int, (6, 90), [], "about", none)
def k_P_name : mm_M := ("PartBox", prog_1_method_15_code, 4, some .int, (6, 90), [], "name", none)
def k_P_part : mm_M := ("PartBox", prog_1_method_16_code, 4, some .int, (6, 90), [], "part", none)
def k_P_write : mm_M := ("PartBox", prog_1_method_17_code, 1, some .int, (6, 133), [], "write", none)
def k_P_read : mm_M := ("PartBox", prog_1_method_18_code, 2, some .int, (8, 183), [], "read", none)
def k_P_blame : mm_M := ("PartBox", prog_1_method_19_code, 2, some .int, (6, 90), [], "blame", none)
def k_P_count : mm_M := ("PartBox", prog_1_method_20_code, 1, some .int, (2, 40), [], "count", none)
def k_P_isTypedNameNew : mm_M := ("PartBox", prog_1_method_21_code, 1, some .boolean, (4, 89), [], "isTypedNameNew", none)
def k_P_enter : mm_M := ("PartBox", prog_1_method_22_code, 5, some .int, (6, 90), [], "enter", none)
def k_M_init : mm_M := ("PartBoxModel", prog_11_method_1_code, 1, none, (1, 20), [], "<init>", none)
def k_M_thrown : mm_M := ("PartBoxModel", prog_11_method_2_code, 1, some .int, (1, 20), [], "thrown", none)
def k_M_feed : mm_M := ("PartBoxModel", prog_11_method_3_code, 8, none, (1, 20), [], "feed", none)
def k_M_end : mm_M := ("PartBoxModel", prog_11_method_4_code, 2, none, (1, 20), [], "end", none)
def k_M_alter : mm_M := ("PartBoxModel", prog_11_method_5_code, 3, none, (1, 20), [], "alter", none)
def k_M_length : mm_M := ("PartBoxModel", prog_11_method_6_code, 1, some .int, (1, 20), [], "length", none)
def k_M_byteAt : mm_M := ("PartBoxModel", prog_11_method_7_code, 2, some .int, (1, 20), [], "byteAt", none)
def k_M_type : mm_M := ("PartBoxModel", prog_11_method_8_code, 6, some .int, (1, 20), [], "type", none)
def k_M_erase : mm_M := ("PartBoxModel", prog_11_method_9_code, 1, none, (1, 20), [], "erase", none)
def k_M_small : mm_M := ("PartBoxModel", prog_11_method_10_code, 1, some .int, (1, 20), [], "small", none)
def k_M_nameAt : mm_M := ("PartBoxModel", prog_11_method_11_code, 3, some .int, (1, 20), [], "nameAt", none)
def k_M_isName : mm_M := ("PartBoxModel", prog_11_method_12_code, 8, some .boolean, (2, 42), [], "isName", none)
def k_M_findName : mm_M := ("PartBoxModel", prog_11_method_13_code, 4, some .int, (2, 40), [], "findName", none)
def k_M_checkOf : mm_M := ("PartBoxModel", prog_11_method_14_code, 6, some .int, (1, 20), [], "checkOf", none)
def k_M_put : mm_M := ("PartBoxModel", prog_11_method_15_code, 6, some .int, (1, 20), [], "put", none)
def k_M_refused : mm_M := ("PartBoxModel", prog_11_method_16_code, 2, some .int, (3, 69), [], "refused", none)
def k_M_add : mm_M := ("PartBoxModel", prog_11_method_17_code, 1, some .int, (4, 90), [], "add", none)
def k_M_addPacked : mm_M := ("PartBoxModel", prog_11_method_18_code, 3, some .int, (4, 90), [], "addPacked", none)
def k_M_noEntry : mm_M := ("PartBoxModel", prog_11_method_19_code, 2, some .boolean, (1, 20), [], "noEntry", none)
def k_M_copy : mm_M := ("PartBoxModel", prog_11_method_20_code, 4, none, (1, 20), [], "copy", none)
def k_M_gather : mm_M := ("PartBoxModel", prog_11_method_21_code, 4, none, (1, 20), [], "gather", none)
def k_M_remove : mm_M := ("PartBoxModel", prog_11_method_22_code, 3, none, (2, 43), [], "remove", none)
def k_M_swap : mm_M := ("PartBoxModel", prog_11_method_23_code, 5, none, (1, 20), [], "swap", none)
def k_M_move : mm_M := ("PartBoxModel", prog_11_method_24_code, 5, none, (2, 44), [], "move", none)
def k_M_find : mm_M := ("PartBoxModel", prog_11_method_25_code, 1, some .int, (3, 63), [], "find", none)
def k_M_about : mm_M := ("PartBoxModel", prog_11_method_26_code, 3, some .int, (2, 41), [], "about", none)
def k_M_name : mm_M := ("PartBoxModel", prog_11_method_27_code, 3, some .int, (2, 41), [], "name", none)
def k_M_part : mm_M := ("PartBoxModel", prog_11_method_28_code, 3, some .int, (2, 41), [], "part", none)
def k_M_count : mm_M := ("PartBoxModel", prog_11_method_29_code, 1, some .int, (1, 20), [], "count", none)
def k_M_low : mm_M := ("PartBoxModel", prog_11_method_30_code, 4, none, (1, 20), [], "low", none)
def k_M_middle : mm_M := ("PartBoxModel", prog_11_method_31_code, 2, none, (2, 43), [], "middle", none)
def k_M_writeName : mm_M := ("PartBoxModel", prog_11_method_32_code, 3, none, (2, 43), [], "writeName", none)
def k_M_write : mm_M := ("PartBoxModel", prog_11_method_33_code, 4, some .int, (3, 65), [], "write", none)
def k_M_two : mm_M := ("PartBoxModel", prog_11_method_34_code, 3, some .int, (1, 20), [], "two", none)
def k_M_four : mm_M := ("PartBoxModel", prog_11_method_35_code, 3, some .long, (2, 42), [], "four", none)
def k_M_wrong : mm_M := ("PartBoxModel", prog_11_method_36_code, 5, some .boolean, (1, 20), [], "wrong", none)
def k_M_findEnd : mm_M := ("PartBoxModel", prog_11_method_37_code, 2, some .boolean, (3, 64), [], "findEnd", none)
def k_M_flags : mm_M := ("PartBoxModel", prog_11_method_38_code, 2, some .int, (2, 42), [], "flags", none)
def k_M_method : mm_M := ("PartBoxModel", prog_11_method_39_code, 2, some .int, (2, 42), [], "method", none)
def k_M_many : mm_M := ("PartBoxModel", prog_11_method_40_code, 2, some .long, (3, 64), [], "many", none)
def k_M_size : mm_M := ("PartBoxModel", prog_11_method_41_code, 2, some .long, (3, 64), [], "size", none)
def k_M_nameSize : mm_M := ("PartBoxModel", prog_11_method_42_code, 2, some .int, (2, 42), [], "nameSize", none)
def k_M_sameName : mm_M := ("PartBoxModel", prog_11_method_43_code, 5, some .boolean, (3, 63), [], "sameName", none)
def k_M_readDirectory : mm_M := ("PartBoxModel", prog_11_method_44_code, 12, some .boolean, (4, 87), [], "readDirectory", none)
def k_M_fits : mm_M := ("PartBoxModel", prog_11_method_45_code, 6, some .boolean, (3, 63), [], "fits", none)
def k_M_isHead : mm_M := ("PartBoxModel", prog_11_method_46_code, 7, some .boolean, (4, 88), [], "isHead", none)
def k_M_isBody : mm_M := ("PartBoxModel", prog_11_method_47_code, 6, some .boolean, (4, 85), [], "isBody", none)
def k_M_firstLeft : mm_M := ("PartBoxModel", prog_11_method_48_code, 3, some .int, (1, 20), [], "firstLeft", none)
def k_M_readGaps : mm_M := ("PartBoxModel", prog_11_method_49_code, 4, some .boolean, (2, 44), [], "readGaps", none)
def k_M_isWrong : mm_M := ("PartBoxModel", prog_11_method_50_code, 2, some .boolean, (5, 118), [], "isWrong", none)
def k_M_read : mm_M := ("PartBoxModel", prog_11_method_51_code, 4, some .int, (6, 139), [], "read", none)
def k_M_blame : mm_M := ("PartBoxModel", prog_11_method_52_code, 2, some .int, (1, 20), [], "blame", none)
def k_X_init : mm_M := ("PartBox$Box", prog_2_method_1_code, 2, none, (3, 61), [], "<init>", none)
def k_X_size : mm_M := ("PartBox$Box", prog_2_method_2_code, 1, some .int, (1, 20), [], "size", none)
def k_X_has : mm_M := ("PartBox$Box", prog_2_method_3_code, 2, some .boolean, (1, 20), [], "has", none)
def k_X_pick : mm_M := ("PartBox$Box", prog_2_method_4_code, 2, some (.object "PartBox$Entry"), (2, 41), [], "pick", none)
def k_X_numberOf : mm_M := ("PartBox$Box", prog_2_method_5_code, 4, some .int, (3, 66), [], "numberOf", none)
def k_X_append : mm_M := ("PartBox$Box", prog_2_method_6_code, 5, some (.object "PartBox$Entry"), (3, 65), [], "append", none)
def k_X_clear : mm_M := ("PartBox$Box", prog_2_method_7_code, 1, none, (2, 41), [], "clear", none)
def k_X_drop : mm_M := ("PartBox$Box", prog_2_method_8_code, 5, none, (3, 65), [], "drop", none)
def k_X_shift : mm_M := ("PartBox$Box", prog_2_method_9_code, 5, none, (2, 41), [], "shift", none)
def k_X_writtenLength : mm_M := ("PartBox$Box", prog_2_method_10_code, 3, some .int, (3, 60), [], "writtenLength", none)
def k_X_writeOver : mm_M := ("PartBox$Box", prog_2_method_11_code, 5, none, (5, 109), [], "writeOver", none)
def k_X_lengthWithHead : mm_M := ("PartBox$Box", prog_2_method_12_code, 1, some .int, (2, 40), [], "lengthWithHead", none)
def k_X_writeEntry : mm_M := ("PartBox$Box", prog_2_method_13_code, 3, none, (4, 86), [], "writeEntry", none)
def k_X_writeDirectoryHead : mm_M := ("PartBox$Box", prog_2_method_14_code, 4, none, (4, 86), [], "writeDirectoryHead", none)
def k_X_writeFacts : mm_M := ("PartBox$Box", prog_2_method_15_code, 3, none, (3, 64), [], "writeFacts", none)
def k_X_writeEnd : mm_M := ("PartBox$Box", prog_2_method_16_code, 4, none, (3, 64), [], "writeEnd", none)
def k_B_init : mm_M := ("PartBox$Bytes", prog_3_method_1_code, 2, none, (1, 20), [], "<init>", none)
def k_B_size : mm_M := ("PartBox$Bytes", prog_3_method_2_code, 1, some .int, (1, 20), [], "size", none)
def k_B_free : mm_M := ("PartBox$Bytes", prog_3_method_3_code, 1, some .int, (1, 20), [], "free", none)
def k_B_get : mm_M := ("PartBox$Bytes", prog_3_method_4_code, 2, some .int, (1, 20), [], "get", none)
def k_B_set : mm_M := ("PartBox$Bytes", prog_3_method_5_code, 3, none, (1, 20), [], "set", none)
def k_B_keep : mm_M := ("PartBox$Bytes", prog_3_method_6_code, 2, none, (1, 20), [], "keep", none)
def k_B_push : mm_M := ("PartBox$Bytes", prog_3_method_7_code, 2, none, (1, 20), [], "push", none)
def k_B_pushWord : mm_M := ("PartBox$Bytes", prog_3_method_8_code, 3, none, (2, 41), [], "pushWord", none)
def k_B_pushNumber : mm_M := ("PartBox$Bytes", prog_3_method_9_code, 4, none, (2, 41), [], "pushNumber", none)
def k_B_pushAll : mm_M := ("PartBox$Bytes", prog_3_method_10_code, 4, none, (2, 42), [], "pushAll", none)
def k_B_cut : mm_M := ("PartBox$Bytes", prog_3_method_11_code, 3, none, (2, 42), [], "cut", none)
def k_B_number : mm_M := ("PartBox$Bytes", prog_3_method_12_code, 6, some .long, (2, 42), [], "number", none)
def k_B_hasMark : mm_M := ("PartBox$Bytes", prog_3_method_13_code, 4, some .boolean, (2, 41), [], "hasMark", none)
def k_B_holds : mm_M := ("PartBox$Bytes", prog_3_method_14_code, 3, some .boolean, (1, 20), [], "holds", none)
def k_C_init : mm_M := ("PartBox$Checker", prog_4_method_1_code, 4, none, (1, 20), [], "<init>", none)
def k_C_checkOf : mm_M := ("PartBox$Checker", prog_4_method_2_code, 6, some .int, (2, 41), [], "checkOf", none)
def k_E_init : mm_M := ("PartBox$Entry", prog_5_method_1_code, 1, none, (2, 41), [], "<init>", none)
def k_E_describe : mm_M := ("PartBox$Entry", prog_5_method_2_code, 4, none, (1, 20), [], "describe", none)
def k_F_init : mm_M := ("PartBox$Facts", prog_6_method_1_code, 1, none, (1, 20), [], "<init>", none)
def k_F_takeFrom : mm_M := ("PartBox$Facts", prog_6_method_2_code, 3, none, (3, 67), [], "takeFrom", none)
def k_F_hasTail : mm_M := ("PartBox$Facts", prog_6_method_3_code, 1, some .boolean, (1, 20), [], "hasTail", none)
def k_G_init : mm_M := ("PartBox$Finding", prog_7_method_1_code, 1, none, (2, 40), [], "<init>", none)
def k_G_takeFrom : mm_M := ("PartBox$Finding", prog_7_method_2_code, 4, none, (4, 89), [], "takeFrom", none)
def k_N_isName : mm_M := ("PartBox$Names", prog_8_method_2_code, 6, some .boolean, (3, 64), [], "isName", none)
def k_N_isPiece : mm_M := ("PartBox$Names", prog_8_method_3_code, 4, some .boolean, (2, 41), [], "isPiece", none)
def k_N_areAlike : mm_M := ("PartBox$Names", prog_8_method_4_code, 6, some .boolean, (2, 41), [], "areAlike", none)
def k_N_small : mm_M := ("PartBox$Names", prog_8_method_5_code, 1, some .int, (1, 20), [], "small", none)
def k_R_init : mm_M := ("PartBox$Reader", prog_9_method_1_code, 4, none, (3, 60), [], "<init>", none)
def k_R_findsNoFault : mm_M := ("PartBox$Reader", prog_9_method_2_code, 2, some .boolean, (7, 162), [], "findsNoFault", none)
def k_R_unpackInto : mm_M := ("PartBox$Reader", prog_9_method_3_code, 6, none, (4, 89), [], "unpackInto", none)
def k_R_note : mm_M := ("PartBox$Reader", prog_9_method_4_code, 4, some .boolean, (1, 20), [], "note", none)
def k_R_examineEnd : mm_M := ("PartBox$Reader", prog_9_method_5_code, 11, some .boolean, (4, 88), [], "examineEnd", none)
def k_R_lastEnd : mm_M := ("PartBox$Reader", prog_9_method_6_code, 2, some .int, (3, 67), [], "lastEnd", none)
def k_R_examineDirectory : mm_M := ("PartBox$Reader", prog_9_method_7_code, 5, some .boolean, (6, 138), [], "examineDirectory", none)
def k_R_directoryFault : mm_M := ("PartBox$Reader", prog_9_method_8_code, 7, some .int, (5, 112), [], "directoryFault", none)
def k_R_isNamedBefore : mm_M := ("PartBox$Reader", prog_9_method_9_code, 5, some .boolean, (3, 66), [], "isNamedBefore", none)
def k_R_examineEntries : mm_M := ("PartBox$Reader", prog_9_method_10_code, 4, some .boolean, (5, 114), [], "examineEntries", none)
def k_R_isHeadSound : mm_M := ("PartBox$Reader", prog_9_method_11_code, 6, some .boolean, (4, 89), [], "isHeadSound", none)
def k_R_agrees : mm_M := ("PartBox$Reader", prog_9_method_12_code, 5, some .boolean, (1, 20), [], "agrees", none)
def k_R_areSame : mm_M := ("PartBox$Reader", prog_9_method_13_code, 5, some .boolean, (2, 41), [], "areSame", none)
def k_R_areBytesSound : mm_M := ("PartBox$Reader", prog_9_method_14_code, 5, some .boolean, (3, 67), [], "areBytesSound", none)
def k_R_examinePlaces : mm_M := ("PartBox$Reader", prog_9_method_15_code, 4, some .boolean, (2, 43), [], "examinePlaces", none)
def k_R_orderByHeads : mm_M := ("PartBox$Reader", prog_9_method_16_code, 3, none, (1, 20), [], "orderByHeads", none)
def k_R_examineChecks : mm_M := ("PartBox$Reader", prog_9_method_17_code, 5, some .boolean, (3, 66), [], "examineChecks", none)
def k_L_feed : mm_M := ("PartBoxLaw", method_3_code, 7, some .int, (7, 115), [(0, 11, 14, 13)], "feed", none)
def k_L_end : mm_M := ("PartBoxLaw", method_4_code, 3, some .int, (7, 111), [(0, 5, 8, 19)], "end", none)
def k_L_alter : mm_M := ("PartBoxLaw", method_5_code, 4, some .int, (7, 112), [(0, 6, 9, 25), (0, 6, 12, 19)], "alter", none)
def k_L_byteAt : mm_M := ("PartBoxLaw", method_6_code, 4, some .int, (7, 112), [(0, 9, 12, 25)], "byteAt", none)
def k_L_type : mm_M := ("PartBoxLaw", method_7_code, 4, some .int, (7, 114), [(0, 9, 12, 19), (0, 9, 15, 13)], "type", none)
def k_L_add : mm_M := ("PartBoxLaw", method_8_code, 3, some .int, (8, 134), [(0, 8, 11, 19), (0, 8, 14, 13)], "add", none)
def k_L_addPacked : mm_M := ("PartBoxLaw", method_9_code, 5, some .int, (8, 136), [(0, 10, 13, 19), (0, 10, 17, 13)], "addPacked", none)
def k_L_remove : mm_M := ("PartBoxLaw", method_10_code, 3, some .int, (7, 111), [(0, 5, 8, 25)], "remove", none)
def k_L_move : mm_M := ("PartBoxLaw", method_11_code, 4, some .int, (7, 112), [(0, 6, 9, 25)], "move", none)
def k_L_about : mm_M := ("PartBoxLaw", method_12_code, 5, some .int, (7, 113), [(0, 10, 13, 25), (0, 10, 17, 19)], "about", none)
def k_L_name : mm_M := ("PartBoxLaw", method_13_code, 5, some .int, (7, 113), [(0, 10, 13, 25)], "name", none)
def k_L_part : mm_M := ("PartBoxLaw", method_14_code, 5, some .int, (7, 113), [(0, 10, 13, 25)], "part", none)
def k_L_write : mm_M := ("PartBoxLaw", method_15_code, 3, some .int, (7, 153), [(0, 8, 11, 13)], "write", none)
def k_L_read : mm_M := ("PartBoxLaw", method_16_code, 4, some .int, (9, 204), [(0, 9, 12, 19)], "read", none)
def k_L_blame : mm_M := ("PartBoxLaw", method_17_code, 4, some .int, (7, 111), [(0, 9, 12, 19)], "blame", none)
def k_L_law (ns : Nat) (xs : Nat → Int32) : mm_M := ("PartBoxLaw", code, 7, some .boolean, (11, 414), [], "law", some (ns, xs))
theorem ch_P : ∀ w ∈ u_ws R_P T_P 5, w ∈ mm_T := List.forall_mem_cons.mpr ⟨w_239, List.forall_mem_cons.mpr ⟨w_241, List.forall_mem_cons.mpr ⟨w_243, List.forall_mem_cons.mpr ⟨w_245, List.forall_mem_cons.mpr ⟨w_247, fun _ h => absurd h List.not_mem_nil⟩⟩⟩⟩⟩
theorem cc_P : mm_cls 0 R_P T_P 5 ty_P := ⟨rfl, ch_P, by decide +kernel, by decide +kernel⟩
theorem df_P : ∀ j, j < 5 → defaultValue (ty_P j) = vp_V [.null, .null, .null, .null, .null] j := by decide +kernel
theorem dz_P : ∀ v ∈ ([.null, .null, .null, .null, .null] : List Value), mm_cv 0 v := by intro v hv; simp only [List.mem_cons, List.not_mem_nil, or_false] at hv; rcases hv with rfl | rfl | rfl | rfl | rfl <;> trivial
theorem ch_X : ∀ w ∈ u_ws R_X T_X 3, w ∈ mm_T := List.forall_mem_cons.mpr ⟨w_109, List.forall_mem_cons.mpr ⟨w_111, List.forall_mem_cons.mpr ⟨w_113, fun _ h => absurd h List.not_mem_nil⟩⟩⟩
theorem cc_X : mm_cls 1 R_X T_X 3 ty_X := ⟨rfl, ch_X, by decide +kernel, by decide +kernel⟩
theorem df_X : ∀ j, j < 3 → defaultValue (ty_X j) = vp_V [.null, .null, .int 0] j := by decide +kernel
theorem dz_X : ∀ v ∈ ([.null, .null, .int 0] : List Value), mm_cv 0 v := by intro v hv; simp only [List.mem_cons, List.not_mem_nil, or_false] at hv; rcases hv with rfl | rfl | rfl <;> trivial
theorem ch_B : ∀ w ∈ u_ws R_B T_B 2, w ∈ mm_T := List.forall_mem_cons.mpr ⟨w_39, List.forall_mem_cons.mpr ⟨w_41, fun _ h => absurd h List.not_mem_nil⟩⟩
theorem cc_B : mm_cls 2 R_B T_B 2 ty_B := ⟨rfl, ch_B, by decide +kernel, by decide +kernel⟩
theorem df_B : ∀ j, j < 2 → defaultValue (ty_B j) = vp_V [.null, .int 0] j := by decide +kernel
theorem dz_B : ∀ v ∈ ([.null, .int 0] : List Value), mm_cv 0 v := by intro v hv; simp only [List.mem_cons, List.not_mem_nil, or_false] at hv; rcases hv with rfl | rfl <;> trivial
theorem ch_C : ∀ w ∈ u_ws R_C T_C 1, w ∈ mm_T := List.forall_mem_cons.mpr ⟨w_53, fun _ h => absurd h List.not_mem_nil⟩
theorem cc_C : mm_cls 3 R_C T_C 1 ty_C := ⟨rfl, ch_C, by decide +kernel, by decide +kernel⟩
theorem df_C : ∀ j, j < 1 → defaultValue (ty_C j) = vp_V [.null] j := by decide +kernel
theorem dz_C : ∀ v ∈ ([.null] : List Value), mm_cv 0 v := by intro v hv; simp only [List.mem_cons, List.not_mem_nil, or_false] at hv; subst hv; trivial
theorem ch_E : ∀ w ∈ u_ws R_E T_E 6, w ∈ mm_T := List.forall_mem_cons.mpr ⟨w_89, List.forall_mem_cons.mpr ⟨w_91, List.forall_mem_cons.mpr ⟨w_93, List.forall_mem_cons.mpr ⟨w_95, List.forall_mem_cons.mpr ⟨w_97, List.forall_mem_cons.mpr ⟨w_99, fun _ h => absurd h List.not_mem_nil⟩⟩⟩⟩⟩⟩
theorem cc_E : mm_cls 4 R_E T_E 6 ty_E := ⟨rfl, ch_E, by decide +kernel, by decide +kernel⟩
theorem df_E : ∀ j, j < 6 → defaultValue (ty_E j) = vp_V [.null, .int 0, .int 0, .int 0, .int 0, .int 0] j := by decide +kernel
theorem dz_E : ∀ v ∈ ([.null, .int 0, .int 0, .int 0, .int 0, .int 0] : List Value), mm_cv 0 v := by intro v hv; simp only [List.mem_cons, List.not_mem_nil, or_false] at hv; rcases hv with rfl | rfl | rfl | rfl | rfl | rfl <;> trivial
theorem ch_F : ∀ w ∈ u_ws R_F T_F 7, w ∈ mm_T := List.forall_mem_cons.mpr ⟨w_151, List.forall_mem_cons.mpr ⟨w_153, List.forall_mem_cons.mpr ⟨w_155, List.forall_mem_cons.mpr ⟨w_157, List.forall_mem_cons.mpr ⟨w_159, List.forall_mem_cons.mpr ⟨w_161, List.forall_mem_cons.mpr ⟨w_163, fun _ h => absurd h List.not_mem_nil⟩⟩⟩⟩⟩⟩⟩
theorem cc_F : mm_cls 5 R_F T_F 7 ty_F := ⟨rfl, ch_F, by decide +kernel, by decide +kernel⟩
theorem df_F : ∀ j, j < 7 → defaultValue (ty_F j) = vp_V [.int 0, .int 0, .long 0, .long 0, .long 0, .int 0, .int 0] j := by decide +kernel
theorem dz_F : ∀ v ∈ ([.int 0, .int 0, .long 0, .long 0, .long 0, .int 0, .int 0] : List Value), mm_cv 0 v := by intro v hv; simp only [List.mem_cons, List.not_mem_nil, or_false] at hv; rcases hv with rfl | rfl | rfl | rfl | rfl | rfl | rfl <;> trivial
theorem ch_G : ∀ w ∈ u_ws R_G T_G 6, w ∈ mm_T := List.forall_mem_cons.mpr ⟨w_176, List.forall_mem_cons.mpr ⟨w_178, List.forall_mem_cons.mpr ⟨w_180, List.forall_mem_cons.mpr ⟨w_182, List.forall_mem_cons.mpr ⟨w_184, List.forall_mem_cons.mpr ⟨w_186, fun _ h => absurd h List.not_mem_nil⟩⟩⟩⟩⟩⟩
theorem cc_G : mm_cls 6 R_G T_G 6 ty_G := ⟨rfl, ch_G, by decide +kernel, by decide +kernel⟩
theorem df_G : ∀ j, j < 6 → defaultValue (ty_G j) = vp_V [.null, .int 0, .int 0, .long 0, .int 0, .int 0] j := by decide +kernel
theorem dz_G : ∀ v ∈ ([.null, .int 0, .int 0, .long 0, .int 0, .int 0] : List Value), mm_cv 0 v := by intro v hv; simp only [List.mem_cons, List.not_mem_nil, or_false] at hv; rcases hv with rfl | rfl | rfl | rfl | rfl | rfl <;> trivial
theorem ch_R : ∀ w ∈ u_ws R_R T_R 13, w ∈ mm_T := List.forall_mem_cons.mpr ⟨w_207, List.forall_mem_cons.mpr ⟨w_209, List.forall_mem_cons.mpr ⟨w_211, List.forall_mem_cons.mpr ⟨w_213, List.forall_mem_cons.mpr ⟨w_215, List.forall_mem_cons.mpr ⟨w_217, List.forall_mem_cons.mpr ⟨w_219, List.forall_mem_cons.mpr ⟨w_221, List.forall_mem_cons.mpr ⟨w_223, List.forall_mem_cons.mpr ⟨w_225, List.forall_mem_cons.mpr ⟨w_227, List.forall_mem_cons.mpr ⟨w_229, List.forall_mem_cons.mpr ⟨w_231, fun _ h => absurd h List.not_mem_nil⟩⟩⟩⟩⟩⟩⟩⟩⟩⟩⟩⟩⟩
theorem cc_R : mm_cls 7 R_R T_R 13 ty_R := ⟨rfl, ch_R, by decide +kernel, by decide +kernel⟩
theorem df_R : ∀ j, j < 13 → defaultValue (ty_R j) = vp_V [.null, .null, .null, .null, .null, .int 0, .int 0, .int 0, .int 0, .int 0, .int 0, .long 0, .long 0] j := by decide +kernel
theorem dz_R : ∀ v ∈ ([.null, .null, .null, .null, .null, .int 0, .int 0, .int 0, .int 0, .int 0, .int 0, .long 0, .long 0] : List Value), mm_cv 0 v := by intro v hv; simp only [List.mem_cons, List.not_mem_nil, or_false] at hv; rcases hv with rfl | rfl | rfl | rfl | rfl | rfl | rfl | rfl | rfl | rfl | rfl | rfl | rfl <;> trivial
theorem ch_M : ∀ w ∈ u_ws R_M T_M 29, w ∈ mm_T := List.forall_mem_cons.mpr ⟨w_772, List.forall_mem_cons.mpr ⟨w_774, List.forall_mem_cons.mpr ⟨w_776, List.forall_mem_cons.mpr ⟨w_778, List.forall_mem_cons.mpr ⟨w_780, List.forall_mem_cons.mpr ⟨w_782, List.forall_mem_cons.mpr ⟨w_784, List.forall_mem_cons.mpr ⟨w_786, List.forall_mem_cons.mpr ⟨w_788, List.forall_mem_cons.mpr ⟨w_790, List.forall_mem_cons.mpr ⟨w_792, List.forall_mem_cons.mpr ⟨w_794, List.forall_mem_cons.mpr ⟨w_796, List.forall_mem_cons.mpr ⟨w_798, List.forall_mem_cons.mpr ⟨w_800, List.forall_mem_cons.mpr ⟨w_802, List.forall_mem_cons.mpr ⟨w_804, List.forall_mem_cons.mpr ⟨w_806, List.forall_mem_cons.mpr ⟨w_808, List.forall_mem_cons.mpr ⟨w_810, List.forall_mem_cons.mpr ⟨w_812, List.forall_mem_cons.mpr ⟨w_814, List.forall_mem_cons.mpr ⟨w_816, List.forall_mem_cons.mpr ⟨w_818, List.forall_mem_cons.mpr ⟨w_820, List.forall_mem_cons.mpr ⟨w_822, List.forall_mem_cons.mpr ⟨w_824, List.forall_mem_cons.mpr ⟨w_826, List.forall_mem_cons.mpr ⟨w_828, fun _ h => absurd h List.not_mem_nil⟩⟩⟩⟩⟩⟩⟩⟩⟩⟩⟩⟩⟩⟩⟩⟩⟩⟩⟩⟩⟩⟩⟩⟩⟩⟩⟩⟩⟩
theorem cc_M : mm_cls 8 R_M T_M 29 ty_M := ⟨rfl, ch_M, by decide +kernel, by decide +kernel⟩
theorem df_M : ∀ j, j < 29 → defaultValue (ty_M j) = vp_V [.int 0, .int 0, .null, .int 0, .null, .int 0, .null, .null, .null, .null, .null, .null, .null, .int 0, .null, .null, .int 0, .int 0, .int 0, .int 0, .int 0, .long 0, .int 0, .null, .null, .null, .null, .null, .int 0] j := by decide +kernel
theorem dz_M : ∀ v ∈ ([.int 0, .int 0, .null, .int 0, .null, .int 0, .null, .null, .null, .null, .null, .null, .null, .int 0, .null, .null, .int 0, .int 0, .int 0, .int 0, .int 0, .long 0, .int 0, .null, .null, .null, .null, .null, .int 0] : List Value), mm_cv 0 v := by intro v hv; simp only [List.mem_cons, List.not_mem_nil, or_false] at hv; rcases hv with rfl | rfl | rfl | rfl | rfl | rfl | rfl | rfl | rfl | rfl | rfl | rfl | rfl | rfl | rfl | rfl | rfl | rfl | rfl | rfl | rfl | rfl | rfl | rfl | rfl | rfl | rfl | rfl | rfl <;> trivial
theorem ca_P_init : mm_cal k_P_init ({ cls := "PartBox", name := "<init>", desc := "()V" } : Jvm.MethodName) 0 := ⟨w_23, rfl, rfl, by decide +kernel, rfl, ⟨by decide, by decide⟩, by decide +kernel, w_1⟩
theorem ca_P_feed : mm_cal k_P_feed ({ cls := "PartBox", name := "feed", desc := "(IIIII)V" } : Jvm.MethodName) 5 := ⟨w_300, rfl, rfl, by decide +kernel, rfl, ⟨by decide, by decide⟩, by decide +kernel, w_1⟩
theorem ca_P_end : mm_cal k_P_end ({ cls := "PartBox", name := "end", desc := "(I)V" } : Jvm.MethodName) 1 := ⟨w_387, rfl, rfl, by decide +kernel, rfl, ⟨by decide, by decide⟩, by decide +kernel, w_1⟩
theorem ca_P_alter : mm_cal k_P_alter ({ cls := "PartBox", name := "alter", desc := "(II)V" } : Jvm.MethodName) 2 := ⟨w_411, rfl, rfl, by decide +kernel, rfl, ⟨by decide, by decide⟩, by decide +kernel, w_1⟩
theorem ca_P_length : mm_cal k_P_length ({ cls := "PartBox", name := "length", desc := "()I" } : Jvm.MethodName) 0 := ⟨w_253, rfl, rfl, by decide +kernel, rfl, ⟨by decide, by decide⟩, by decide +kernel, w_1⟩
theorem ca_P_byteAt : mm_cal k_P_byteAt ({ cls := "PartBox", name := "byteAt", desc := "(I)I" } : Jvm.MethodName) 1 := ⟨w_439, rfl, rfl, by decide +kernel, rfl, ⟨by decide, by decide⟩, by decide +kernel, w_1⟩
theorem ca_P_type : mm_cal k_P_type ({ cls := "PartBox", name := "type", desc := "(I)I" } : Jvm.MethodName) 1 := ⟨w_447, rfl, rfl, by decide +kernel, rfl, ⟨by decide, by decide⟩, by decide +kernel, w_1⟩
theorem ca_P_erase : mm_cal k_P_erase ({ cls := "PartBox", name := "erase", desc := "()V" } : Jvm.MethodName) 0 := ⟨w_261, rfl, rfl, by decide +kernel, rfl, ⟨by decide, by decide⟩, by decide +kernel, w_1⟩
theorem ca_P_add : mm_cal k_P_add ({ cls := "PartBox", name := "add", desc := "()I" } : Jvm.MethodName) 0 := ⟨w_457, rfl, rfl, by decide +kernel, rfl, ⟨by decide, by decide⟩, by decide +kernel, w_1⟩
theorem ca_P_addPacked : mm_cal k_P_addPacked ({ cls := "PartBox", name := "addPacked", desc := "(II)I" } : Jvm.MethodName) 2 := ⟨w_508, rfl, rfl, by decide +kernel, rfl, ⟨by decide, by decide⟩, by decide +kernel, w_1⟩
theorem ca_P_remove : mm_cal k_P_remove ({ cls := "PartBox", name := "remove", desc := "(I)V" } : Jvm.MethodName) 1 := ⟨w_516, rfl, rfl, by decide +kernel, rfl, ⟨by decide, by decide⟩, by decide +kernel, w_1⟩
theorem ca_P_move : mm_cal k_P_move ({ cls := "PartBox", name := "move", desc := "(II)V" } : Jvm.MethodName) 2 := ⟨w_541, rfl, rfl, by decide +kernel, rfl, ⟨by decide, by decide⟩, by decide +kernel, w_1⟩
theorem ca_P_find : mm_cal k_P_find ({ cls := "PartBox", name := "find", desc := "()I" } : Jvm.MethodName) 0 := ⟨w_269, rfl, rfl, by decide +kernel, rfl, ⟨by decide, by decide⟩, by decide +kernel, w_1⟩
theorem ca_P_about : mm_cal k_P_about ({ cls := "PartBox", name := "about", desc := "(II)I" } : Jvm.MethodName) 2 := ⟨w_549, rfl, rfl, by decide +kernel, rfl, ⟨by decide, by decide⟩, by decide +kernel, w_1⟩
theorem ca_P_name : mm_cal k_P_name ({ cls := "PartBox", name := "name", desc := "(II)I" } : Jvm.MethodName) 2 := ⟨w_561, rfl, rfl, by decide +kernel, rfl, ⟨by decide, by decide⟩, by decide +kernel, w_1⟩
theorem ca_P_part : mm_cal k_P_part ({ cls := "PartBox", name := "part", desc := "(II)I" } : Jvm.MethodName) 2 := ⟨w_568, rfl, rfl, by decide +kernel, rfl, ⟨by decide, by decide⟩, by decide +kernel, w_1⟩
theorem ca_P_write : mm_cal k_P_write ({ cls := "PartBox", name := "write", desc := "()I" } : Jvm.MethodName) 0 := ⟨w_576, rfl, rfl, by decide +kernel, rfl, ⟨by decide, by decide⟩, by decide +kernel, w_1⟩
theorem ca_P_read : mm_cal k_P_read ({ cls := "PartBox", name := "read", desc := "(I)I" } : Jvm.MethodName) 1 := ⟨w_617, rfl, rfl, by decide +kernel, rfl, ⟨by decide, by decide⟩, by decide +kernel, w_1⟩
theorem ca_P_blame : mm_cal k_P_blame ({ cls := "PartBox", name := "blame", desc := "(I)I" } : Jvm.MethodName) 1 := ⟨w_734, rfl, rfl, by decide +kernel, rfl, ⟨by decide, by decide⟩, by decide +kernel, w_1⟩
theorem ca_P_count : mm_cal k_P_count ({ cls := "PartBox", name := "count", desc := "()I" } : Jvm.MethodName) 0 := ⟨w_288, rfl, rfl, by decide +kernel, rfl, ⟨by decide, by decide⟩, by decide +kernel, w_1⟩
theorem ca_P_isTypedNameNew : mm_cal k_P_isTypedNameNew ({ cls := "PartBox", name := "isTypedNameNew", desc := "()Z" } : Jvm.MethodName) 0 := ⟨w_461, rfl, rfl, by decide +kernel, rfl, ⟨by decide, by decide⟩, by decide +kernel, w_1⟩
theorem ca_P_enter : mm_cal k_P_enter ({ cls := "PartBox", name := "enter", desc := "(III)I" } : Jvm.MethodName) 3 := ⟨w_477, rfl, rfl, by decide +kernel, rfl, ⟨by decide, by decide⟩, by decide +kernel, w_1⟩
theorem ca_M_init : mm_cal k_M_init ({ cls := "PartBoxModel", name := "<init>", desc := "()V" } : Jvm.MethodName) 0 := ⟨w_740, rfl, rfl, by decide +kernel, rfl, ⟨by decide, by decide⟩, by decide +kernel, w_10⟩
theorem ca_M_thrown : mm_cal k_M_thrown ({ cls := "PartBoxModel", name := "thrown", desc := "()I" } : Jvm.MethodName) 0 := ⟨w_836, rfl, rfl, by decide +kernel, rfl, ⟨by decide, by decide⟩, by decide +kernel, w_10⟩
theorem ca_M_feed : mm_cal k_M_feed ({ cls := "PartBoxModel", name := "feed", desc := "(IIIII)V" } : Jvm.MethodName) 5 := ⟨w_840, rfl, rfl, by decide +kernel, rfl, ⟨by decide, by decide⟩, by decide +kernel, w_10⟩
theorem ca_M_end : mm_cal k_M_end ({ cls := "PartBoxModel", name := "end", desc := "(I)V" } : Jvm.MethodName) 1 := ⟨w_844, rfl, rfl, by decide +kernel, rfl, ⟨by decide, by decide⟩, by decide +kernel, w_10⟩
theorem ca_M_alter : mm_cal k_M_alter ({ cls := "PartBoxModel", name := "alter", desc := "(II)V" } : Jvm.MethodName) 2 := ⟨w_848, rfl, rfl, by decide +kernel, rfl, ⟨by decide, by decide⟩, by decide +kernel, w_10⟩
theorem ca_M_length : mm_cal k_M_length ({ cls := "PartBoxModel", name := "length", desc := "()I" } : Jvm.MethodName) 0 := ⟨w_852, rfl, rfl, by decide +kernel, rfl, ⟨by decide, by decide⟩, by decide +kernel, w_10⟩
theorem ca_M_byteAt : mm_cal k_M_byteAt ({ cls := "PartBoxModel", name := "byteAt", desc := "(I)I" } : Jvm.MethodName) 1 := ⟨w_856, rfl, rfl, by decide +kernel, rfl, ⟨by decide, by decide⟩, by decide +kernel, w_10⟩
theorem ca_M_type : mm_cal k_M_type ({ cls := "PartBoxModel", name := "type", desc := "(I)I" } : Jvm.MethodName) 1 := ⟨w_860, rfl, rfl, by decide +kernel, rfl, ⟨by decide, by decide⟩, by decide +kernel, w_10⟩
theorem ca_M_erase : mm_cal k_M_erase ({ cls := "PartBoxModel", name := "erase", desc := "()V" } : Jvm.MethodName) 0 := ⟨w_864, rfl, rfl, by decide +kernel, rfl, ⟨by decide, by decide⟩, by decide +kernel, w_10⟩
theorem ca_M_small : mm_cal k_M_small ({ cls := "PartBoxModel", name := "small", desc := "(I)I" } : Jvm.MethodName) 1 := ⟨w_887, rfl, rfl, by decide +kernel, rfl, ⟨by decide, by decide⟩, by decide +kernel, w_10⟩
theorem ca_M_nameAt : mm_cal k_M_nameAt ({ cls := "PartBoxModel", name := "nameAt", desc := "(II)I" } : Jvm.MethodName) 2 := ⟨w_880, rfl, rfl, by decide +kernel, rfl, ⟨by decide, by decide⟩, by decide +kernel, w_10⟩
theorem ca_M_isName : mm_cal k_M_isName ({ cls := "PartBoxModel", name := "isName", desc := "(II)Z" } : Jvm.MethodName) 2 := ⟨w_876, rfl, rfl, by decide +kernel, rfl, ⟨by decide, by decide⟩, by decide +kernel, w_10⟩
theorem ca_M_findName : mm_cal k_M_findName ({ cls := "PartBoxModel", name := "findName", desc := "()I" } : Jvm.MethodName) 0 := ⟨w_884, rfl, rfl, by decide +kernel, rfl, ⟨by decide, by decide⟩, by decide +kernel, w_10⟩
theorem ca_M_checkOf : mm_cal k_M_checkOf ({ cls := "PartBoxModel", name := "checkOf", desc := "([BII)I" } : Jvm.MethodName) 3 := ⟨w_890, rfl, rfl, by decide +kernel, rfl, ⟨by decide, by decide⟩, by decide +kernel, w_10⟩
theorem ca_M_put : mm_cal k_M_put ({ cls := "PartBoxModel", name := "put", desc := "(III)I" } : Jvm.MethodName) 3 := ⟨w_895, rfl, rfl, by decide +kernel, rfl, ⟨by decide, by decide⟩, by decide +kernel, w_10⟩
theorem ca_M_refused : mm_cal k_M_refused ({ cls := "PartBoxModel", name := "refused", desc := "(Z)I" } : Jvm.MethodName) 1 := ⟨w_872, rfl, rfl, by decide +kernel, rfl, ⟨by decide, by decide⟩, by decide +kernel, w_10⟩
theorem ca_M_add : mm_cal k_M_add ({ cls := "PartBoxModel", name := "add", desc := "()I" } : Jvm.MethodName) 0 := ⟨w_868, rfl, rfl, by decide +kernel, rfl, ⟨by decide, by decide⟩, by decide +kernel, w_10⟩
theorem ca_M_addPacked : mm_cal k_M_addPacked ({ cls := "PartBoxModel", name := "addPacked", desc := "(II)I" } : Jvm.MethodName) 2 := ⟨w_899, rfl, rfl, by decide +kernel, rfl, ⟨by decide, by decide⟩, by decide +kernel, w_10⟩
theorem ca_M_noEntry : mm_cal k_M_noEntry ({ cls := "PartBoxModel", name := "noEntry", desc := "(I)Z" } : Jvm.MethodName) 1 := ⟨w_907, rfl, rfl, by decide +kernel, rfl, ⟨by decide, by decide⟩, by decide +kernel, w_10⟩
theorem ca_M_copy : mm_cal k_M_copy ({ cls := "PartBoxModel", name := "copy", desc := "(II)V" } : Jvm.MethodName) 2 := ⟨w_911, rfl, rfl, by decide +kernel, rfl, ⟨by decide, by decide⟩, by decide +kernel, w_10⟩
theorem ca_M_gather : mm_cal k_M_gather ({ cls := "PartBoxModel", name := "gather", desc := "()V" } : Jvm.MethodName) 0 := ⟨w_915, rfl, rfl, by decide +kernel, rfl, ⟨by decide, by decide⟩, by decide +kernel, w_10⟩
theorem ca_M_remove : mm_cal k_M_remove ({ cls := "PartBoxModel", name := "remove", desc := "(I)V" } : Jvm.MethodName) 1 := ⟨w_903, rfl, rfl, by decide +kernel, rfl, ⟨by decide, by decide⟩, by decide +kernel, w_10⟩
theorem ca_M_swap : mm_cal k_M_swap ({ cls := "PartBoxModel", name := "swap", desc := "(II)V" } : Jvm.MethodName) 2 := ⟨w_923, rfl, rfl, by decide +kernel, rfl, ⟨by decide, by decide⟩, by decide +kernel, w_10⟩
theorem ca_M_move : mm_cal k_M_move ({ cls := "PartBoxModel", name := "move", desc := "(II)V" } : Jvm.MethodName) 2 := ⟨w_919, rfl, rfl, by decide +kernel, rfl, ⟨by decide, by decide⟩, by decide +kernel, w_10⟩
theorem ca_M_find : mm_cal k_M_find ({ cls := "PartBoxModel", name := "find", desc := "()I" } : Jvm.MethodName) 0 := ⟨w_927, rfl, rfl, by decide +kernel, rfl, ⟨by decide, by decide⟩, by decide +kernel, w_10⟩
theorem ca_M_about : mm_cal k_M_about ({ cls := "PartBoxModel", name := "about", desc := "(II)I" } : Jvm.MethodName) 2 := ⟨w_931, rfl, rfl, by decide +kernel, rfl, ⟨by decide, by decide⟩, by decide +kernel, w_10⟩
theorem ca_M_name : mm_cal k_M_name ({ cls := "PartBoxModel", name := "name", desc := "(II)I" } : Jvm.MethodName) 2 := ⟨w_935, rfl, rfl, by decide +kernel, rfl, ⟨by decide, by decide⟩, by decide +kernel, w_10⟩
theorem ca_M_part : mm_cal k_M_part ({ cls := "PartBoxModel", name := "part", desc := "(II)I" } : Jvm.MethodName) 2 := ⟨w_939, rfl, rfl, by decide +kernel, rfl, ⟨by decide, by decide⟩, by decide +kernel, w_10⟩
theorem ca_M_count : mm_cal k_M_count ({ cls := "PartBoxModel", name := "count", desc := "()I" } : Jvm.MethodName) 0 := ⟨w_943, rfl, rfl, by decide +kernel, rfl, ⟨by decide, by decide⟩, by decide +kernel, w_10⟩
theorem ca_M_low : mm_cal k_M_low ({ cls := "PartBoxModel", name := "low", desc := "(II)V" } : Jvm.MethodName) 2 := ⟨w_952, rfl, rfl, by decide +kernel, rfl, ⟨by decide, by decide⟩, by decide +kernel, w_10⟩
theorem ca_M_middle : mm_cal k_M_middle ({ cls := "PartBoxModel", name := "middle", desc := "(I)V" } : Jvm.MethodName) 1 := ⟨w_956, rfl, rfl, by decide +kernel, rfl, ⟨by decide, by decide⟩, by decide +kernel, w_10⟩
theorem ca_M_writeName : mm_cal k_M_writeName ({ cls := "PartBoxModel", name := "writeName", desc := "(I)V" } : Jvm.MethodName) 1 := ⟨w_960, rfl, rfl, by decide +kernel, rfl, ⟨by decide, by decide⟩, by decide +kernel, w_10⟩
theorem ca_M_write : mm_cal k_M_write ({ cls := "PartBoxModel", name := "write", desc := "()I" } : Jvm.MethodName) 0 := ⟨w_947, rfl, rfl, by decide +kernel, rfl, ⟨by decide, by decide⟩, by decide +kernel, w_10⟩
theorem ca_M_two : mm_cal k_M_two ({ cls := "PartBoxModel", name := "two", desc := "(J)I" } : Jvm.MethodName) 1 := ⟨w_982, rfl, rfl, by decide +kernel, rfl, ⟨by decide, by decide⟩, by decide +kernel, w_10⟩
theorem ca_M_four : mm_cal k_M_four ({ cls := "PartBoxModel", name := "four", desc := "(J)J" } : Jvm.MethodName) 1 := ⟨w_978, rfl, rfl, by decide +kernel, rfl, ⟨by decide, by decide⟩, by decide +kernel, w_10⟩
theorem ca_M_wrong : mm_cal k_M_wrong ({ cls := "PartBoxModel", name := "wrong", desc := "(IJI)Z" } : Jvm.MethodName) 3 := ⟨w_989, rfl, rfl, by decide +kernel, rfl, ⟨by decide, by decide⟩, by decide +kernel, w_10⟩
theorem ca_M_findEnd : mm_cal k_M_findEnd ({ cls := "PartBoxModel", name := "findEnd", desc := "()Z" } : Jvm.MethodName) 0 := ⟨w_974, rfl, rfl, by decide +kernel, rfl, ⟨by decide, by decide⟩, by decide +kernel, w_10⟩
theorem ca_M_flags : mm_cal k_M_flags ({ cls := "PartBoxModel", name := "flags", desc := "(I)I" } : Jvm.MethodName) 1 := ⟨w_1005, rfl, rfl, by decide +kernel, rfl, ⟨by decide, by decide⟩, by decide +kernel, w_10⟩
theorem ca_M_method : mm_cal k_M_method ({ cls := "PartBoxModel", name := "method", desc := "(I)I" } : Jvm.MethodName) 1 := ⟨w_1009, rfl, rfl, by decide +kernel, rfl, ⟨by decide, by decide⟩, by decide +kernel, w_10⟩
theorem ca_M_many : mm_cal k_M_many ({ cls := "PartBoxModel", name := "many", desc := "(I)J" } : Jvm.MethodName) 1 := ⟨w_1018, rfl, rfl, by decide +kernel, rfl, ⟨by decide, by decide⟩, by decide +kernel, w_10⟩
theorem ca_M_size : mm_cal k_M_size ({ cls := "PartBoxModel", name := "size", desc := "(I)J" } : Jvm.MethodName) 1 := ⟨w_1022, rfl, rfl, by decide +kernel, rfl, ⟨by decide, by decide⟩, by decide +kernel, w_10⟩
theorem ca_M_nameSize : mm_cal k_M_nameSize ({ cls := "PartBoxModel", name := "nameSize", desc := "(I)I" } : Jvm.MethodName) 1 := ⟨w_999, rfl, rfl, by decide +kernel, rfl, ⟨by decide, by decide⟩, by decide +kernel, w_10⟩
theorem ca_M_sameName : mm_cal k_M_sameName ({ cls := "PartBoxModel", name := "sameName", desc := "(II)Z" } : Jvm.MethodName) 2 := ⟨w_1014, rfl, rfl, by decide +kernel, rfl, ⟨by decide, by decide⟩, by decide +kernel, w_10⟩
theorem ca_M_readDirectory : mm_cal k_M_readDirectory ({ cls := "PartBoxModel", name := "readDirectory", desc := "()Z" } : Jvm.MethodName) 0 := ⟨w_993, rfl, rfl, by decide +kernel, rfl, ⟨by decide, by decide⟩, by decide +kernel, w_10⟩
theorem ca_M_fits : mm_cal k_M_fits ({ cls := "PartBoxModel", name := "fits", desc := "(IJJ)Z" } : Jvm.MethodName) 3 := ⟨w_1037, rfl, rfl, by decide +kernel, rfl, ⟨by decide, by decide⟩, by decide +kernel, w_10⟩
theorem ca_M_isHead : mm_cal k_M_isHead ({ cls := "PartBoxModel", name := "isHead", desc := "(I)Z" } : Jvm.MethodName) 1 := ⟨w_1027, rfl, rfl, by decide +kernel, rfl, ⟨by decide, by decide⟩, by decide +kernel, w_10⟩
theorem ca_M_isBody : mm_cal k_M_isBody ({ cls := "PartBoxModel", name := "isBody", desc := "(I)Z" } : Jvm.MethodName) 1 := ⟨w_1043, rfl, rfl, by decide +kernel, rfl, ⟨by decide, by decide⟩, by decide +kernel, w_10⟩
theorem ca_M_firstLeft : mm_cal k_M_firstLeft ({ cls := "PartBoxModel", name := "firstLeft", desc := "()I" } : Jvm.MethodName) 0 := ⟨w_1054, rfl, rfl, by decide +kernel, rfl, ⟨by decide, by decide⟩, by decide +kernel, w_10⟩
theorem ca_M_readGaps : mm_cal k_M_readGaps ({ cls := "PartBoxModel", name := "readGaps", desc := "()Z" } : Jvm.MethodName) 0 := ⟨w_1050, rfl, rfl, by decide +kernel, rfl, ⟨by decide, by decide⟩, by decide +kernel, w_10⟩
theorem ca_M_isWrong : mm_cal k_M_isWrong ({ cls := "PartBoxModel", name := "isWrong", desc := "()Z" } : Jvm.MethodName) 0 := ⟨w_970, rfl, rfl, by decide +kernel, rfl, ⟨by decide, by decide⟩, by decide +kernel, w_10⟩
theorem ca_M_read : mm_cal k_M_read ({ cls := "PartBoxModel", name := "read", desc := "(I)I" } : Jvm.MethodName) 1 := ⟨w_966, rfl, rfl, by decide +kernel, rfl, ⟨by decide, by decide⟩, by decide +kernel, w_10⟩
theorem ca_M_blame : mm_cal k_M_blame ({ cls := "PartBoxModel", name := "blame", desc := "(I)I" } : Jvm.MethodName) 1 := ⟨w_1058, rfl, rfl, by decide +kernel, rfl, ⟨by decide, by decide⟩, by decide +kernel, w_10⟩
theorem ca_X_init : mm_cal k_X_init ({ cls := "PartBox$Box", name := "<init>", desc := "()V" } : Jvm.MethodName) 0 := ⟨w_61, rfl, rfl, by decide +kernel, rfl, ⟨by decide, by decide⟩, by decide +kernel, w_5⟩
theorem ca_X_size : mm_cal k_X_size ({ cls := "PartBox$Box", name := "size", desc := "()I" } : Jvm.MethodName) 0 := ⟨w_292, rfl, rfl, by decide +kernel, rfl, ⟨by decide, by decide⟩, by decide +kernel, w_5⟩
theorem ca_X_has : mm_cal k_X_has ({ cls := "PartBox$Box", name := "has", desc := "(I)Z" } : Jvm.MethodName) 1 := ⟨w_520, rfl, rfl, by decide +kernel, rfl, ⟨by decide, by decide⟩, by decide +kernel, w_5⟩
theorem ca_X_pick : mm_cal k_X_pick ({ cls := "PartBox$Box", name := "pick", desc := "(I)LPartBox$Entry;" } : Jvm.MethodName) 1 := ⟨w_553, rfl, rfl, by decide +kernel, rfl, ⟨by decide, by decide⟩, by decide +kernel, w_5⟩
theorem ca_X_numberOf : mm_cal k_X_numberOf ({ cls := "PartBox$Box", name := "numberOf", desc := "(LPartBox$Bytes;)I" } : Jvm.MethodName) 1 := ⟨w_273, rfl, rfl, by decide +kernel, rfl, ⟨by decide, by decide⟩, by decide +kernel, w_5⟩
theorem ca_X_append : mm_cal k_X_append ({ cls := "PartBox$Box", name := "append", desc := "(LPartBox$Bytes;II)LPartBox$Entry;" } : Jvm.MethodName) 3 := ⟨w_481, rfl, rfl, by decide +kernel, rfl, ⟨by decide, by decide⟩, by decide +kernel, w_5⟩
theorem ca_X_clear : mm_cal k_X_clear ({ cls := "PartBox$Box", name := "clear", desc := "()V" } : Jvm.MethodName) 0 := ⟨w_724, rfl, rfl, by decide +kernel, rfl, ⟨by decide, by decide⟩, by decide +kernel, w_5⟩
theorem ca_X_drop : mm_cal k_X_drop ({ cls := "PartBox$Box", name := "drop", desc := "(I)V" } : Jvm.MethodName) 1 := ⟨w_525, rfl, rfl, by decide +kernel, rfl, ⟨by decide, by decide⟩, by decide +kernel, w_5⟩
theorem ca_X_shift : mm_cal k_X_shift ({ cls := "PartBox$Box", name := "shift", desc := "(II)V" } : Jvm.MethodName) 2 := ⟨w_534, rfl, rfl, by decide +kernel, rfl, ⟨by decide, by decide⟩, by decide +kernel, w_5⟩
theorem ca_X_writtenLength : mm_cal k_X_writtenLength ({ cls := "PartBox$Box", name := "writtenLength", desc := "()I" } : Jvm.MethodName) 0 := ⟨w_580, rfl, rfl, by decide +kernel, rfl, ⟨by decide, by decide⟩, by decide +kernel, w_5⟩
theorem ca_X_writeOver : mm_cal k_X_writeOver ({ cls := "PartBox$Box", name := "writeOver", desc := "(LPartBox$Bytes;)V" } : Jvm.MethodName) 1 := ⟨w_587, rfl, rfl, by decide +kernel, rfl, ⟨by decide, by decide⟩, by decide +kernel, w_5⟩
theorem ca_X_lengthWithHead : mm_cal k_X_lengthWithHead ({ cls := "PartBox$Box", name := "lengthWithHead", desc := "(LPartBox$Entry;)I" } : Jvm.MethodName) 1 := ⟨w_583, rfl, rfl, by decide +kernel, rfl, ⟨by decide, by decide⟩, by decide +kernel, w_5⟩
theorem ca_X_writeEntry : mm_cal k_X_writeEntry ({ cls := "PartBox$Box", name := "writeEntry", desc := "(LPartBox$Bytes;LPartBox$Entry;)V" } : Jvm.MethodName) 2 := ⟨w_591, rfl, rfl, by decide +kernel, rfl, ⟨by decide, by decide⟩, by decide +kernel, w_5⟩
theorem ca_X_writeDirectoryHead : mm_cal k_X_writeDirectoryHead ({ cls := "PartBox$Box", name := "writeDirectoryHead", desc := "(LPartBox$Bytes;LPartBox$Entry;I)V" } : Jvm.MethodName) 3 := ⟨w_604, rfl, rfl, by decide +kernel, rfl, ⟨by decide, by decide⟩, by decide +kernel, w_5⟩
theorem ca_X_writeFacts : mm_cal k_X_writeFacts ({ cls := "PartBox$Box", name := "writeFacts", desc := "(LPartBox$Bytes;LPartBox$Entry;)V" } : Jvm.MethodName) 2 := ⟨w_600, rfl, rfl, by decide +kernel, rfl, ⟨by decide, by decide⟩, by decide +kernel, w_5⟩
theorem ca_X_writeEnd : mm_cal k_X_writeEnd ({ cls := "PartBox$Box", name := "writeEnd", desc := "(LPartBox$Bytes;I)V" } : Jvm.MethodName) 2 := ⟨w_609, rfl, rfl, by decide +kernel, rfl, ⟨by decide, by decide⟩, by decide +kernel, w_5⟩
theorem ca_B_init : mm_cal k_B_init ({ cls := "PartBox$Bytes", name := "<init>", desc := "(I)V" } : Jvm.MethodName) 1 := ⟨w_32, rfl, rfl, by decide +kernel, rfl, ⟨by decide, by decide⟩, by decide +kernel, w_2⟩
theorem ca_B_size : mm_cal k_B_size ({ cls := "PartBox$Bytes", name := "size", desc := "()I" } : Jvm.MethodName) 0 := ⟨w_257, rfl, rfl, by decide +kernel, rfl, ⟨by decide, by decide⟩, by decide +kernel, w_2⟩
theorem ca_B_free : mm_cal k_B_free ({ cls := "PartBox$Bytes", name := "free", desc := "()I" } : Jvm.MethodName) 0 := ⟨w_304, rfl, rfl, by decide +kernel, rfl, ⟨by decide, by decide⟩, by decide +kernel, w_2⟩
theorem ca_B_get : mm_cal k_B_get ({ cls := "PartBox$Bytes", name := "get", desc := "(I)I" } : Jvm.MethodName) 1 := ⟨w_281, rfl, rfl, by decide +kernel, rfl, ⟨by decide, by decide⟩, by decide +kernel, w_2⟩
theorem ca_B_set : mm_cal k_B_set ({ cls := "PartBox$Bytes", name := "set", desc := "(II)V" } : Jvm.MethodName) 2 := ⟨w_432, rfl, rfl, by decide +kernel, rfl, ⟨by decide, by decide⟩, by decide +kernel, w_2⟩
theorem ca_B_keep : mm_cal k_B_keep ({ cls := "PartBox$Bytes", name := "keep", desc := "(I)V" } : Jvm.MethodName) 1 := ⟨w_265, rfl, rfl, by decide +kernel, rfl, ⟨by decide, by decide⟩, by decide +kernel, w_2⟩
theorem ca_B_push : mm_cal k_B_push ({ cls := "PartBox$Bytes", name := "push", desc := "(I)V" } : Jvm.MethodName) 1 := ⟨w_379, rfl, rfl, by decide +kernel, rfl, ⟨by decide, by decide⟩, by decide +kernel, w_2⟩
theorem ca_B_pushWord : mm_cal k_B_pushWord ({ cls := "PartBox$Bytes", name := "pushWord", desc := "(I)V" } : Jvm.MethodName) 1 := ⟨w_375, rfl, rfl, by decide +kernel, rfl, ⟨by decide, by decide⟩, by decide +kernel, w_2⟩
theorem ca_B_pushNumber : mm_cal k_B_pushNumber ({ cls := "PartBox$Bytes", name := "pushNumber", desc := "(II)V" } : Jvm.MethodName) 2 := ⟨w_596, rfl, rfl, by decide +kernel, rfl, ⟨by decide, by decide⟩, by decide +kernel, w_2⟩
theorem ca_B_pushAll : mm_cal k_B_pushAll ({ cls := "PartBox$Bytes", name := "pushAll", desc := "(LPartBox$Bytes;II)V" } : Jvm.MethodName) 3 := ⟨w_487, rfl, rfl, by decide +kernel, rfl, ⟨by decide, by decide⟩, by decide +kernel, w_2⟩
theorem ca_B_cut : mm_cal k_B_cut ({ cls := "PartBox$Bytes", name := "cut", desc := "(II)V" } : Jvm.MethodName) 2 := ⟨w_530, rfl, rfl, by decide +kernel, rfl, ⟨by decide, by decide⟩, by decide +kernel, w_2⟩
theorem ca_B_number : mm_cal k_B_number ({ cls := "PartBox$Bytes", name := "number", desc := "(II)J" } : Jvm.MethodName) 2 := ⟨w_645, rfl, rfl, by decide +kernel, rfl, ⟨by decide, by decide⟩, by decide +kernel, w_2⟩
theorem ca_B_hasMark : mm_cal k_B_hasMark ({ cls := "PartBox$Bytes", name := "hasMark", desc := "(II)Z" } : Jvm.MethodName) 2 := ⟨w_640, rfl, rfl, by decide +kernel, rfl, ⟨by decide, by decide⟩, by decide +kernel, w_2⟩
theorem ca_B_holds : mm_cal k_B_holds ({ cls := "PartBox$Bytes", name := "holds", desc := "(II)Z" } : Jvm.MethodName) 2 := ⟨w_491, rfl, rfl, by decide +kernel, rfl, ⟨by decide, by decide⟩, by decide +kernel, w_2⟩
theorem ca_C_init : mm_cal k_C_init ({ cls := "PartBox$Checker", name := "<init>", desc := "()V" } : Jvm.MethodName) 0 := ⟨w_49, rfl, rfl, by decide +kernel, rfl, ⟨by decide, by decide⟩, by decide +kernel, w_4⟩
theorem ca_C_checkOf : mm_cal k_C_checkOf ({ cls := "PartBox$Checker", name := "checkOf", desc := "(LPartBox$Bytes;II)I" } : Jvm.MethodName) 3 := ⟨w_472, rfl, rfl, by decide +kernel, rfl, ⟨by decide, by decide⟩, by decide +kernel, w_4⟩
theorem ca_E_init : mm_cal k_E_init ({ cls := "PartBox$Entry", name := "<init>", desc := "()V" } : Jvm.MethodName) 0 := ⟨w_68, rfl, rfl, by decide +kernel, rfl, ⟨by decide, by decide⟩, by decide +kernel, w_6⟩
theorem ca_E_describe : mm_cal k_E_describe ({ cls := "PartBox$Entry", name := "describe", desc := "(III)V" } : Jvm.MethodName) 3 := ⟨w_501, rfl, rfl, by decide +kernel, rfl, ⟨by decide, by decide⟩, by decide +kernel, w_6⟩
theorem ca_F_init : mm_cal k_F_init ({ cls := "PartBox$Facts", name := "<init>", desc := "()V" } : Jvm.MethodName) 0 := ⟨w_133, rfl, rfl, by decide +kernel, rfl, ⟨by decide, by decide⟩, by decide +kernel, w_9⟩
theorem ca_F_takeFrom : mm_cal k_F_takeFrom ({ cls := "PartBox$Facts", name := "takeFrom", desc := "(LPartBox$Bytes;I)V" } : Jvm.MethodName) 2 := ⟨w_664, rfl, rfl, by decide +kernel, rfl, ⟨by decide, by decide⟩, by decide +kernel, w_9⟩
theorem ca_F_hasTail : mm_cal k_F_hasTail ({ cls := "PartBox$Facts", name := "hasTail", desc := "()Z" } : Jvm.MethodName) 0 := ⟨w_689, rfl, rfl, by decide +kernel, rfl, ⟨by decide, by decide⟩, by decide +kernel, w_9⟩
theorem ca_G_init : mm_cal k_G_init ({ cls := "PartBox$Finding", name := "<init>", desc := "()V" } : Jvm.MethodName) 0 := ⟨w_127, rfl, rfl, by decide +kernel, rfl, ⟨by decide, by decide⟩, by decide +kernel, w_8⟩
theorem ca_G_takeFrom : mm_cal k_G_takeFrom ({ cls := "PartBox$Finding", name := "takeFrom", desc := "(LPartBox$Bytes;I)V" } : Jvm.MethodName) 2 := ⟨w_660, rfl, rfl, by decide +kernel, rfl, ⟨by decide, by decide⟩, by decide +kernel, w_8⟩
theorem ca_N_isName : mm_cal k_N_isName ({ cls := "PartBox$Names", name := "isName", desc := "(LPartBox$Bytes;II)Z" } : Jvm.MethodName) 3 := ⟨w_464, rfl, rfl, by decide +kernel, rfl, ⟨by decide, by decide⟩, by decide +kernel, w_17⟩
theorem ca_N_isPiece : mm_cal k_N_isPiece ({ cls := "PartBox$Names", name := "isPiece", desc := "(LPartBox$Bytes;II)Z" } : Jvm.MethodName) 3 := ⟨w_467, rfl, rfl, by decide +kernel, rfl, ⟨by decide, by decide⟩, by decide +kernel, w_17⟩
theorem ca_N_areAlike : mm_cal k_N_areAlike ({ cls := "PartBox$Names", name := "areAlike", desc := "(LPartBox$Bytes;ILPartBox$Bytes;II)Z" } : Jvm.MethodName) 5 := ⟨w_277, rfl, rfl, by decide +kernel, rfl, ⟨by decide, by decide⟩, by decide +kernel, w_17⟩
theorem ca_N_small : mm_cal k_N_small ({ cls := "PartBox$Names", name := "small", desc := "(I)I" } : Jvm.MethodName) 1 := ⟨w_284, rfl, rfl, by decide +kernel, rfl, ⟨by decide, by decide⟩, by decide +kernel, w_17⟩
theorem ca_R_init : mm_cal k_R_init ({ cls := "PartBox$Reader", name := "<init>", desc := "(LPartBox$Bytes;LPartBox$Checker;)V" } : Jvm.MethodName) 2 := ⟨w_120, rfl, rfl, by decide +kernel, rfl, ⟨by decide, by decide⟩, by decide +kernel, w_7⟩
theorem ca_R_findsNoFault : mm_cal k_R_findsNoFault ({ cls := "PartBox$Reader", name := "findsNoFault", desc := "(I)Z" } : Jvm.MethodName) 1 := ⟨w_622, rfl, rfl, by decide +kernel, rfl, ⟨by decide, by decide⟩, by decide +kernel, w_7⟩
theorem ca_R_unpackInto : mm_cal k_R_unpackInto ({ cls := "PartBox$Reader", name := "unpackInto", desc := "(LPartBox$Box;)V" } : Jvm.MethodName) 1 := ⟨w_720, rfl, rfl, by decide +kernel, rfl, ⟨by decide, by decide⟩, by decide +kernel, w_7⟩
theorem ca_R_note : mm_cal k_R_note ({ cls := "PartBox$Reader", name := "note", desc := "(III)Z" } : Jvm.MethodName) 3 := ⟨w_626, rfl, rfl, by decide +kernel, rfl, ⟨by decide, by decide⟩, by decide +kernel, w_7⟩
theorem ca_R_examineEnd : mm_cal k_R_examineEnd ({ cls := "PartBox$Reader", name := "examineEnd", desc := "()Z" } : Jvm.MethodName) 0 := ⟨w_630, rfl, rfl, by decide +kernel, rfl, ⟨by decide, by decide⟩, by decide +kernel, w_7⟩
theorem ca_R_lastEnd : mm_cal k_R_lastEnd ({ cls := "PartBox$Reader", name := "lastEnd", desc := "()I" } : Jvm.MethodName) 0 := ⟨w_634, rfl, rfl, by decide +kernel, rfl, ⟨by decide, by decide⟩, by decide +kernel, w_7⟩
theorem ca_R_examineDirectory : mm_cal k_R_examineDirectory ({ cls := "PartBox$Reader", name := "examineDirectory", desc := "(I)Z" } : Jvm.MethodName) 1 := ⟨w_651, rfl, rfl, by decide +kernel, rfl, ⟨by decide, by decide⟩, by decide +kernel, w_7⟩
theorem ca_R_directoryFault : mm_cal k_R_directoryFault ({ cls := "PartBox$Reader", name := "directoryFault", desc := "(III)I" } : Jvm.MethodName) 3 := ⟨w_655, rfl, rfl, by decide +kernel, rfl, ⟨by decide, by decide⟩, by decide +kernel, w_7⟩
theorem ca_R_isNamedBefore : mm_cal k_R_isNamedBefore ({ cls := "PartBox$Reader", name := "isNamedBefore", desc := "(I)Z" } : Jvm.MethodName) 1 := ⟨w_671, rfl, rfl, by decide +kernel, rfl, ⟨by decide, by decide⟩, by decide +kernel, w_7⟩
theorem ca_R_examineEntries : mm_cal k_R_examineEntries ({ cls := "PartBox$Reader", name := "examineEntries", desc := "()Z" } : Jvm.MethodName) 0 := ⟨w_676, rfl, rfl, by decide +kernel, rfl, ⟨by decide, by decide⟩, by decide +kernel, w_7⟩
theorem ca_R_isHeadSound : mm_cal k_R_isHeadSound ({ cls := "PartBox$Reader", name := "isHeadSound", desc := "(LPartBox$Finding;)Z" } : Jvm.MethodName) 1 := ⟨w_684, rfl, rfl, by decide +kernel, rfl, ⟨by decide, by decide⟩, by decide +kernel, w_7⟩
theorem ca_R_agrees : mm_cal k_R_agrees ({ cls := "PartBox$Reader", name := "agrees", desc := "(JJZ)Z" } : Jvm.MethodName) 3 := ⟨w_698, rfl, rfl, by decide +kernel, rfl, ⟨by decide, by decide⟩, by decide +kernel, w_7⟩
theorem ca_R_areSame : mm_cal k_R_areSame ({ cls := "PartBox$Reader", name := "areSame", desc := "(III)Z" } : Jvm.MethodName) 3 := ⟨w_694, rfl, rfl, by decide +kernel, rfl, ⟨by decide, by decide⟩, by decide +kernel, w_7⟩
theorem ca_R_areBytesSound : mm_cal k_R_areBytesSound ({ cls := "PartBox$Reader", name := "areBytesSound", desc := "(LPartBox$Finding;)Z" } : Jvm.MethodName) 1 := ⟨w_702, rfl, rfl, by decide +kernel, rfl, ⟨by decide, by decide⟩, by decide +kernel, w_7⟩
theorem ca_R_examinePlaces : mm_cal k_R_examinePlaces ({ cls := "PartBox$Reader", name := "examinePlaces", desc := "()Z" } : Jvm.MethodName) 0 := ⟨w_707, rfl, rfl, by decide +kernel, rfl, ⟨by decide, by decide⟩, by decide +kernel, w_7⟩
theorem ca_R_orderByHeads : mm_cal k_R_orderByHeads ({ cls := "PartBox$Reader", name := "orderByHeads", desc := "()V" } : Jvm.MethodName) 0 := ⟨w_711, rfl, rfl, by decide +kernel, rfl, ⟨by decide, by decide⟩, by decide +kernel, w_7⟩
theorem ca_R_examineChecks : mm_cal k_R_examineChecks ({ cls := "PartBox$Reader", name := "examineChecks", desc := "()Z" } : Jvm.MethodName) 0 := ⟨w_715, rfl, rfl, by decide +kernel, rfl, ⟨by decide, by decide⟩, by decide +kernel, w_7⟩
theorem ca_L_feed : mm_cal k_L_feed ({ cls := "PartBoxLaw", name := "feed", desc := "(LPartBox;IIIII)I" } : Jvm.MethodName) 6 := ⟨w_295, rfl, rfl, by decide +kernel, rfl, ⟨by decide, by decide⟩, by decide +kernel, w_0⟩
theorem ca_L_end : mm_cal k_L_end ({ cls := "PartBoxLaw", name := "end", desc := "(LPartBox;I)I" } : Jvm.MethodName) 2 := ⟨w_382, rfl, rfl, by decide +kernel, rfl, ⟨by decide, by decide⟩, by decide +kernel, w_0⟩
theorem ca_L_alter : mm_cal k_L_alter ({ cls := "PartBoxLaw", name := "alter", desc := "(LPartBox;II)I" } : Jvm.MethodName) 3 := ⟨w_406, rfl, rfl, by decide +kernel, rfl, ⟨by decide, by decide⟩, by decide +kernel, w_0⟩
theorem ca_L_byteAt : mm_cal k_L_byteAt ({ cls := "PartBoxLaw", name := "byteAt", desc := "(LPartBox;I[J)I" } : Jvm.MethodName) 3 := ⟨w_435, rfl, rfl, by decide +kernel, rfl, ⟨by decide, by decide⟩, by decide +kernel, w_0⟩
theorem ca_L_type : mm_cal k_L_type ({ cls := "PartBoxLaw", name := "type", desc := "(LPartBox;I[J)I" } : Jvm.MethodName) 3 := ⟨w_443, rfl, rfl, by decide +kernel, rfl, ⟨by decide, by decide⟩, by decide +kernel, w_0⟩
theorem ca_L_add : mm_cal k_L_add ({ cls := "PartBoxLaw", name := "add", desc := "(LPartBox;[J)I" } : Jvm.MethodName) 2 := ⟨w_453, rfl, rfl, by decide +kernel, rfl, ⟨by decide, by decide⟩, by decide +kernel, w_0⟩
theorem ca_L_addPacked : mm_cal k_L_addPacked ({ cls := "PartBoxLaw", name := "addPacked", desc := "(LPartBox;II[J)I" } : Jvm.MethodName) 4 := ⟨w_504, rfl, rfl, by decide +kernel, rfl, ⟨by decide, by decide⟩, by decide +kernel, w_0⟩
theorem ca_L_remove : mm_cal k_L_remove ({ cls := "PartBoxLaw", name := "remove", desc := "(LPartBox;I)I" } : Jvm.MethodName) 2 := ⟨w_512, rfl, rfl, by decide +kernel, rfl, ⟨by decide, by decide⟩, by decide +kernel, w_0⟩
theorem ca_L_move : mm_cal k_L_move ({ cls := "PartBoxLaw", name := "move", desc := "(LPartBox;II)I" } : Jvm.MethodName) 3 := ⟨w_537, rfl, rfl, by decide +kernel, rfl, ⟨by decide, by decide⟩, by decide +kernel, w_0⟩
theorem ca_L_about : mm_cal k_L_about ({ cls := "PartBoxLaw", name := "about", desc := "(LPartBox;II[J)I" } : Jvm.MethodName) 4 := ⟨w_545, rfl, rfl, by decide +kernel, rfl, ⟨by decide, by decide⟩, by decide +kernel, w_0⟩
theorem ca_L_name : mm_cal k_L_name ({ cls := "PartBoxLaw", name := "name", desc := "(LPartBox;II[J)I" } : Jvm.MethodName) 4 := ⟨w_557, rfl, rfl, by decide +kernel, rfl, ⟨by decide, by decide⟩, by decide +kernel, w_0⟩
theorem ca_L_part : mm_cal k_L_part ({ cls := "PartBoxLaw", name := "part", desc := "(LPartBox;II[J)I" } : Jvm.MethodName) 4 := ⟨w_564, rfl, rfl, by decide +kernel, rfl, ⟨by decide, by decide⟩, by decide +kernel, w_0⟩
theorem ca_L_write : mm_cal k_L_write ({ cls := "PartBoxLaw", name := "write", desc := "(LPartBox;[J)I" } : Jvm.MethodName) 2 := ⟨w_572, rfl, rfl, by decide +kernel, rfl, ⟨by decide, by decide⟩, by decide +kernel, w_0⟩
theorem ca_L_read : mm_cal k_L_read ({ cls := "PartBoxLaw", name := "read", desc := "(LPartBox;I[J)I" } : Jvm.MethodName) 3 := ⟨w_613, rfl, rfl, by decide +kernel, rfl, ⟨by decide, by decide⟩, by decide +kernel, w_0⟩
theorem ca_L_blame : mm_cal k_L_blame ({ cls := "PartBoxLaw", name := "blame", desc := "(LPartBox;I[J)I" } : Jvm.MethodName) 3 := ⟨w_730, rfl, rfl, by decide +kernel, rfl, ⟨by decide, by decide⟩, by decide +kernel, w_0⟩
