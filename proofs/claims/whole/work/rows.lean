section
-- ===== PART A: goes FIRST, ahead of the names: the tables' words, and 'selects' of the private methods out of them =====
/-- a private method of a class that the tables say can be made, by its rows of tables_1 -/
def lw_okq (q : MethodName × Nat) : Prop := (q.1.cls ≠ "java/lang/invoke/MethodHandle" ∧ q.1.cls ≠ "java/lang/invoke/VarHandle") ∧ Cond.instantiable q.1.cls q.2 ∈ tables_1 ∧ Cond.privateMethod q.1 ∈ tables_1 ∧ Cond.instanceMethod q.1 ∈ tables_1
theorem lw_p0 : lw_okq (⟨"java/lang/Throwable", "fillInStackTrace", "(I)Ljava/lang/Throwable;"⟩, 6) := ⟨⟨by decide +kernel, by decide +kernel⟩, List.mem_of_getElem? (i := 344) (by decide +kernel), List.mem_of_getElem? (i := 342) (by decide +kernel), List.mem_of_getElem? (i := 343) (by decide +kernel)⟩
theorem lw_p1 : lw_okq (⟨"PartBox", "isTypedNameNew", "()Z"⟩, 5) := ⟨⟨by decide +kernel, by decide +kernel⟩, List.mem_of_getElem? (i := 20) (by decide +kernel), List.mem_of_getElem? (i := 459) (by decide +kernel), List.mem_of_getElem? (i := 460) (by decide +kernel)⟩
theorem lw_p2 : lw_okq (⟨"PartBox", "enter", "(III)I"⟩, 5) := ⟨⟨by decide +kernel, by decide +kernel⟩, List.mem_of_getElem? (i := 20) (by decide +kernel), List.mem_of_getElem? (i := 475) (by decide +kernel), List.mem_of_getElem? (i := 476) (by decide +kernel)⟩
theorem lw_p3 : lw_okq (⟨"PartBox$Bytes", "holds", "(II)Z"⟩, 2) := ⟨⟨by decide +kernel, by decide +kernel⟩, List.mem_of_getElem? (i := 28) (by decide +kernel), List.mem_of_getElem? (i := 489) (by decide +kernel), List.mem_of_getElem? (i := 490) (by decide +kernel)⟩
theorem lw_p4 : lw_okq (⟨"PartBox$Box", "writeEntry", "(LPartBox$Bytes;LPartBox$Entry;)V"⟩, 3) := ⟨⟨by decide +kernel, by decide +kernel⟩, List.mem_of_getElem? (i := 58) (by decide +kernel), List.mem_of_getElem? (i := 589) (by decide +kernel), List.mem_of_getElem? (i := 590) (by decide +kernel)⟩
theorem lw_p5 : lw_okq (⟨"PartBox$Box", "writeFacts", "(LPartBox$Bytes;LPartBox$Entry;)V"⟩, 3) := ⟨⟨by decide +kernel, by decide +kernel⟩, List.mem_of_getElem? (i := 58) (by decide +kernel), List.mem_of_getElem? (i := 598) (by decide +kernel), List.mem_of_getElem? (i := 599) (by decide +kernel)⟩
theorem lw_p6 : lw_okq (⟨"PartBox$Box", "writeDirectoryHead", "(LPartBox$Bytes;LPartBox$Entry;I)V"⟩, 3) := ⟨⟨by decide +kernel, by decide +kernel⟩, List.mem_of_getElem? (i := 58) (by decide +kernel), List.mem_of_getElem? (i := 602) (by decide +kernel), List.mem_of_getElem? (i := 603) (by decide +kernel)⟩
theorem lw_p7 : lw_okq (⟨"PartBox$Box", "writeEnd", "(LPartBox$Bytes;I)V"⟩, 3) := ⟨⟨by decide +kernel, by decide +kernel⟩, List.mem_of_getElem? (i := 58) (by decide +kernel), List.mem_of_getElem? (i := 607) (by decide +kernel), List.mem_of_getElem? (i := 608) (by decide +kernel)⟩
theorem lw_p8 : lw_okq (⟨"PartBox$Reader", "note", "(III)Z"⟩, 13) := ⟨⟨by decide +kernel, by decide +kernel⟩, List.mem_of_getElem? (i := 117) (by decide +kernel), List.mem_of_getElem? (i := 624) (by decide +kernel), List.mem_of_getElem? (i := 625) (by decide +kernel)⟩
theorem lw_p9 : lw_okq (⟨"PartBox$Reader", "examineEnd", "()Z"⟩, 13) := ⟨⟨by decide +kernel, by decide +kernel⟩, List.mem_of_getElem? (i := 117) (by decide +kernel), List.mem_of_getElem? (i := 628) (by decide +kernel), List.mem_of_getElem? (i := 629) (by decide +kernel)⟩
theorem lw_p10 : lw_okq (⟨"PartBox$Reader", "lastEnd", "()I"⟩, 13) := ⟨⟨by decide +kernel, by decide +kernel⟩, List.mem_of_getElem? (i := 117) (by decide +kernel), List.mem_of_getElem? (i := 632) (by decide +kernel), List.mem_of_getElem? (i := 633) (by decide +kernel)⟩
theorem lw_p11 : lw_okq (⟨"PartBox$Reader", "examineDirectory", "(I)Z"⟩, 13) := ⟨⟨by decide +kernel, by decide +kernel⟩, List.mem_of_getElem? (i := 117) (by decide +kernel), List.mem_of_getElem? (i := 649) (by decide +kernel), List.mem_of_getElem? (i := 650) (by decide +kernel)⟩
theorem lw_p12 : lw_okq (⟨"PartBox$Reader", "directoryFault", "(III)I"⟩, 13) := ⟨⟨by decide +kernel, by decide +kernel⟩, List.mem_of_getElem? (i := 117) (by decide +kernel), List.mem_of_getElem? (i := 653) (by decide +kernel), List.mem_of_getElem? (i := 654) (by decide +kernel)⟩
theorem lw_p13 : lw_okq (⟨"PartBox$Reader", "isNamedBefore", "(I)Z"⟩, 13) := ⟨⟨by decide +kernel, by decide +kernel⟩, List.mem_of_getElem? (i := 117) (by decide +kernel), List.mem_of_getElem? (i := 669) (by decide +kernel), List.mem_of_getElem? (i := 670) (by decide +kernel)⟩
theorem lw_p14 : lw_okq (⟨"PartBox$Reader", "examineEntries", "()Z"⟩, 13) := ⟨⟨by decide +kernel, by decide +kernel⟩, List.mem_of_getElem? (i := 117) (by decide +kernel), List.mem_of_getElem? (i := 674) (by decide +kernel), List.mem_of_getElem? (i := 675) (by decide +kernel)⟩
theorem lw_p15 : lw_okq (⟨"PartBox$Reader", "isHeadSound", "(LPartBox$Finding;)Z"⟩, 13) := ⟨⟨by decide +kernel, by decide +kernel⟩, List.mem_of_getElem? (i := 117) (by decide +kernel), List.mem_of_getElem? (i := 682) (by decide +kernel), List.mem_of_getElem? (i := 683) (by decide +kernel)⟩
def lw_privs_1 : List (MethodName × Nat) := [(⟨"java/lang/Throwable", "fillInStackTrace", "(I)Ljava/lang/Throwable;"⟩, 6), (⟨"PartBox", "isTypedNameNew", "()Z"⟩, 5), (⟨"PartBox", "enter", "(III)I"⟩, 5), (⟨"PartBox$Bytes", "holds", "(II)Z"⟩, 2), (⟨"PartBox$Box", "writeEntry", "(LPartBox$Bytes;LPartBox$Entry;)V"⟩, 3), (⟨"PartBox$Box", "writeFacts", "(LPartBox$Bytes;LPartBox$Entry;)V"⟩, 3), (⟨"PartBox$Box", "writeDirectoryHead", "(LPartBox$Bytes;LPartBox$Entry;I)V"⟩, 3), (⟨"PartBox$Box", "writeEnd", "(LPartBox$Bytes;I)V"⟩, 3), (⟨"PartBox$Reader", "note", "(III)Z"⟩, 13), (⟨"PartBox$Reader", "examineEnd", "()Z"⟩, 13), (⟨"PartBox$Reader", "lastEnd", "()I"⟩, 13), (⟨"PartBox$Reader", "examineDirectory", "(I)Z"⟩, 13), (⟨"PartBox$Reader", "directoryFault", "(III)I"⟩, 13), (⟨"PartBox$Reader", "isNamedBefore", "(I)Z"⟩, 13), (⟨"PartBox$Reader", "examineEntries", "()Z"⟩, 13), (⟨"PartBox$Reader", "isHeadSound", "(LPartBox$Finding;)Z"⟩, 13)]
theorem lw_r1 : ∀ q ∈ lw_privs_1, lw_okq q := List.forall_mem_cons.mpr ⟨lw_p0, List.forall_mem_cons.mpr ⟨lw_p1, List.forall_mem_cons.mpr ⟨lw_p2, List.forall_mem_cons.mpr ⟨lw_p3, List.forall_mem_cons.mpr ⟨lw_p4, List.forall_mem_cons.mpr ⟨lw_p5, List.forall_mem_cons.mpr ⟨lw_p6, List.forall_mem_cons.mpr ⟨lw_p7, List.forall_mem_cons.mpr ⟨lw_p8, List.forall_mem_cons.mpr ⟨lw_p9, List.forall_mem_cons.mpr ⟨lw_p10, List.forall_mem_cons.mpr ⟨lw_p11, List.forall_mem_cons.mpr ⟨lw_p12, List.forall_mem_cons.mpr ⟨lw_p13, List.forall_mem_cons.mpr ⟨lw_p14, List.forall_mem_cons.mpr ⟨lw_p15, fun _ h => absurd h List.not_mem_nil⟩⟩⟩⟩⟩⟩⟩⟩⟩⟩⟩⟩⟩⟩⟩⟩
theorem lw_p16 : lw_okq (⟨"PartBox$Reader", "areSame", "(III)Z"⟩, 13) := ⟨⟨by decide +kernel, by decide +kernel⟩, List.mem_of_getElem? (i := 117) (by decide +kernel), List.mem_of_getElem? (i := 692) (by decide +kernel), List.mem_of_getElem? (i := 693) (by decide +kernel)⟩
theorem lw_p17 : lw_okq (⟨"PartBox$Reader", "areBytesSound", "(LPartBox$Finding;)Z"⟩, 13) := ⟨⟨by decide +kernel, by decide +kernel⟩, List.mem_of_getElem? (i := 117) (by decide +kernel), List.mem_of_getElem? (i := 700) (by decide +kernel), List.mem_of_getElem? (i := 701) (by decide +kernel)⟩
theorem lw_p18 : lw_okq (⟨"PartBox$Reader", "examinePlaces", "()Z"⟩, 13) := ⟨⟨by decide +kernel, by decide +kernel⟩, List.mem_of_getElem? (i := 117) (by decide +kernel), List.mem_of_getElem? (i := 705) (by decide +kernel), List.mem_of_getElem? (i := 706) (by decide +kernel)⟩
theorem lw_p19 : lw_okq (⟨"PartBox$Reader", "orderByHeads", "()V"⟩, 13) := ⟨⟨by decide +kernel, by decide +kernel⟩, List.mem_of_getElem? (i := 117) (by decide +kernel), List.mem_of_getElem? (i := 709) (by decide +kernel), List.mem_of_getElem? (i := 710) (by decide +kernel)⟩
theorem lw_p20 : lw_okq (⟨"PartBox$Reader", "examineChecks", "()Z"⟩, 13) := ⟨⟨by decide +kernel, by decide +kernel⟩, List.mem_of_getElem? (i := 117) (by decide +kernel), List.mem_of_getElem? (i := 713) (by decide +kernel), List.mem_of_getElem? (i := 714) (by decide +kernel)⟩
theorem lw_p21 : lw_okq (⟨"PartBoxModel", "refused", "(Z)I"⟩, 29) := ⟨⟨by decide +kernel, by decide +kernel⟩, List.mem_of_getElem? (i := 737) (by decide +kernel), List.mem_of_getElem? (i := 870) (by decide +kernel), List.mem_of_getElem? (i := 871) (by decide +kernel)⟩
theorem lw_p22 : lw_okq (⟨"PartBoxModel", "isName", "(II)Z"⟩, 29) := ⟨⟨by decide +kernel, by decide +kernel⟩, List.mem_of_getElem? (i := 737) (by decide +kernel), List.mem_of_getElem? (i := 874) (by decide +kernel), List.mem_of_getElem? (i := 875) (by decide +kernel)⟩
theorem lw_p23 : lw_okq (⟨"PartBoxModel", "nameAt", "(II)I"⟩, 29) := ⟨⟨by decide +kernel, by decide +kernel⟩, List.mem_of_getElem? (i := 737) (by decide +kernel), List.mem_of_getElem? (i := 878) (by decide +kernel), List.mem_of_getElem? (i := 879) (by decide +kernel)⟩
theorem lw_p24 : lw_okq (⟨"PartBoxModel", "findName", "()I"⟩, 29) := ⟨⟨by decide +kernel, by decide +kernel⟩, List.mem_of_getElem? (i := 737) (by decide +kernel), List.mem_of_getElem? (i := 882) (by decide +kernel), List.mem_of_getElem? (i := 883) (by decide +kernel)⟩
theorem lw_p25 : lw_okq (⟨"PartBoxModel", "put", "(III)I"⟩, 29) := ⟨⟨by decide +kernel, by decide +kernel⟩, List.mem_of_getElem? (i := 737) (by decide +kernel), List.mem_of_getElem? (i := 893) (by decide +kernel), List.mem_of_getElem? (i := 894) (by decide +kernel)⟩
theorem lw_p26 : lw_okq (⟨"PartBoxModel", "noEntry", "(I)Z"⟩, 29) := ⟨⟨by decide +kernel, by decide +kernel⟩, List.mem_of_getElem? (i := 737) (by decide +kernel), List.mem_of_getElem? (i := 905) (by decide +kernel), List.mem_of_getElem? (i := 906) (by decide +kernel)⟩
theorem lw_p27 : lw_okq (⟨"PartBoxModel", "copy", "(II)V"⟩, 29) := ⟨⟨by decide +kernel, by decide +kernel⟩, List.mem_of_getElem? (i := 737) (by decide +kernel), List.mem_of_getElem? (i := 909) (by decide +kernel), List.mem_of_getElem? (i := 910) (by decide +kernel)⟩
theorem lw_p28 : lw_okq (⟨"PartBoxModel", "gather", "()V"⟩, 29) := ⟨⟨by decide +kernel, by decide +kernel⟩, List.mem_of_getElem? (i := 737) (by decide +kernel), List.mem_of_getElem? (i := 913) (by decide +kernel), List.mem_of_getElem? (i := 914) (by decide +kernel)⟩
theorem lw_p29 : lw_okq (⟨"PartBoxModel", "swap", "(II)V"⟩, 29) := ⟨⟨by decide +kernel, by decide +kernel⟩, List.mem_of_getElem? (i := 737) (by decide +kernel), List.mem_of_getElem? (i := 921) (by decide +kernel), List.mem_of_getElem? (i := 922) (by decide +kernel)⟩
theorem lw_p30 : lw_okq (⟨"PartBoxModel", "low", "(II)V"⟩, 29) := ⟨⟨by decide +kernel, by decide +kernel⟩, List.mem_of_getElem? (i := 737) (by decide +kernel), List.mem_of_getElem? (i := 950) (by decide +kernel), List.mem_of_getElem? (i := 951) (by decide +kernel)⟩
theorem lw_p31 : lw_okq (⟨"PartBoxModel", "middle", "(I)V"⟩, 29) := ⟨⟨by decide +kernel, by decide +kernel⟩, List.mem_of_getElem? (i := 737) (by decide +kernel), List.mem_of_getElem? (i := 954) (by decide +kernel), List.mem_of_getElem? (i := 955) (by decide +kernel)⟩
def lw_privs_2 : List (MethodName × Nat) := [(⟨"PartBox$Reader", "areSame", "(III)Z"⟩, 13), (⟨"PartBox$Reader", "areBytesSound", "(LPartBox$Finding;)Z"⟩, 13), (⟨"PartBox$Reader", "examinePlaces", "()Z"⟩, 13), (⟨"PartBox$Reader", "orderByHeads", "()V"⟩, 13), (⟨"PartBox$Reader", "examineChecks", "()Z"⟩, 13), (⟨"PartBoxModel", "refused", "(Z)I"⟩, 29), (⟨"PartBoxModel", "isName", "(II)Z"⟩, 29), (⟨"PartBoxModel", "nameAt", "(II)I"⟩, 29), (⟨"PartBoxModel", "findName", "()I"⟩, 29), (⟨"PartBoxModel", "put", "(III)I"⟩, 29), (⟨"PartBoxModel", "noEntry", "(I)Z"⟩, 29), (⟨"PartBoxModel", "copy", "(II)V"⟩, 29), (⟨"PartBoxModel", "gather", "()V"⟩, 29), (⟨"PartBoxModel", "swap", "(II)V"⟩, 29), (⟨"PartBoxModel", "low", "(II)V"⟩, 29), (⟨"PartBoxModel", "middle", "(I)V"⟩, 29)]
theorem lw_r2 : ∀ q ∈ lw_privs_2, lw_okq q := List.forall_mem_cons.mpr ⟨lw_p16, List.forall_mem_cons.mpr ⟨lw_p17, List.forall_mem_cons.mpr ⟨lw_p18, List.forall_mem_cons.mpr ⟨lw_p19, List.forall_mem_cons.mpr ⟨lw_p20, List.forall_mem_cons.mpr ⟨lw_p21, List.forall_mem_cons.mpr ⟨lw_p22, List.forall_mem_cons.mpr ⟨lw_p23, List.forall_mem_cons.mpr ⟨lw_p24, List.forall_mem_cons.mpr ⟨lw_p25, List.forall_mem_cons.mpr ⟨lw_p26, List.forall_mem_cons.mpr ⟨lw_p27, List.forall_mem_cons.mpr ⟨lw_p28, List.forall_mem_cons.mpr ⟨lw_p29, List.forall_mem_cons.mpr ⟨lw_p30, List.forall_mem_cons.mpr ⟨lw_p31, fun _ h => absurd h List.not_mem_nil⟩⟩⟩⟩⟩⟩⟩⟩⟩⟩⟩⟩⟩⟩⟩⟩
theorem lw_p32 : lw_okq (⟨"PartBoxModel", "writeName", "(I)V"⟩, 29) := ⟨⟨by decide +kernel, by decide +kernel⟩, List.mem_of_getElem? (i := 737) (by decide +kernel), List.mem_of_getElem? (i := 958) (by decide +kernel), List.mem_of_getElem? (i := 959) (by decide +kernel)⟩
theorem lw_p33 : lw_okq (⟨"PartBoxModel", "isWrong", "()Z"⟩, 29) := ⟨⟨by decide +kernel, by decide +kernel⟩, List.mem_of_getElem? (i := 737) (by decide +kernel), List.mem_of_getElem? (i := 968) (by decide +kernel), List.mem_of_getElem? (i := 969) (by decide +kernel)⟩
theorem lw_p34 : lw_okq (⟨"PartBoxModel", "findEnd", "()Z"⟩, 29) := ⟨⟨by decide +kernel, by decide +kernel⟩, List.mem_of_getElem? (i := 737) (by decide +kernel), List.mem_of_getElem? (i := 972) (by decide +kernel), List.mem_of_getElem? (i := 973) (by decide +kernel)⟩
theorem lw_p35 : lw_okq (⟨"PartBoxModel", "four", "(J)J"⟩, 29) := ⟨⟨by decide +kernel, by decide +kernel⟩, List.mem_of_getElem? (i := 737) (by decide +kernel), List.mem_of_getElem? (i := 976) (by decide +kernel), List.mem_of_getElem? (i := 977) (by decide +kernel)⟩
theorem lw_p36 : lw_okq (⟨"PartBoxModel", "two", "(J)I"⟩, 29) := ⟨⟨by decide +kernel, by decide +kernel⟩, List.mem_of_getElem? (i := 737) (by decide +kernel), List.mem_of_getElem? (i := 980) (by decide +kernel), List.mem_of_getElem? (i := 981) (by decide +kernel)⟩
theorem lw_p37 : lw_okq (⟨"PartBoxModel", "wrong", "(IJI)Z"⟩, 29) := ⟨⟨by decide +kernel, by decide +kernel⟩, List.mem_of_getElem? (i := 737) (by decide +kernel), List.mem_of_getElem? (i := 987) (by decide +kernel), List.mem_of_getElem? (i := 988) (by decide +kernel)⟩
theorem lw_p38 : lw_okq (⟨"PartBoxModel", "readDirectory", "()Z"⟩, 29) := ⟨⟨by decide +kernel, by decide +kernel⟩, List.mem_of_getElem? (i := 737) (by decide +kernel), List.mem_of_getElem? (i := 991) (by decide +kernel), List.mem_of_getElem? (i := 992) (by decide +kernel)⟩
theorem lw_p39 : lw_okq (⟨"PartBoxModel", "nameSize", "(I)I"⟩, 29) := ⟨⟨by decide +kernel, by decide +kernel⟩, List.mem_of_getElem? (i := 737) (by decide +kernel), List.mem_of_getElem? (i := 997) (by decide +kernel), List.mem_of_getElem? (i := 998) (by decide +kernel)⟩
theorem lw_p40 : lw_okq (⟨"PartBoxModel", "flags", "(I)I"⟩, 29) := ⟨⟨by decide +kernel, by decide +kernel⟩, List.mem_of_getElem? (i := 737) (by decide +kernel), List.mem_of_getElem? (i := 1003) (by decide +kernel), List.mem_of_getElem? (i := 1004) (by decide +kernel)⟩
theorem lw_p41 : lw_okq (⟨"PartBoxModel", "method", "(I)I"⟩, 29) := ⟨⟨by decide +kernel, by decide +kernel⟩, List.mem_of_getElem? (i := 737) (by decide +kernel), List.mem_of_getElem? (i := 1007) (by decide +kernel), List.mem_of_getElem? (i := 1008) (by decide +kernel)⟩
theorem lw_p42 : lw_okq (⟨"PartBoxModel", "sameName", "(II)Z"⟩, 29) := ⟨⟨by decide +kernel, by decide +kernel⟩, List.mem_of_getElem? (i := 737) (by decide +kernel), List.mem_of_getElem? (i := 1012) (by decide +kernel), List.mem_of_getElem? (i := 1013) (by decide +kernel)⟩
theorem lw_p43 : lw_okq (⟨"PartBoxModel", "many", "(I)J"⟩, 29) := ⟨⟨by decide +kernel, by decide +kernel⟩, List.mem_of_getElem? (i := 737) (by decide +kernel), List.mem_of_getElem? (i := 1016) (by decide +kernel), List.mem_of_getElem? (i := 1017) (by decide +kernel)⟩
theorem lw_p44 : lw_okq (⟨"PartBoxModel", "size", "(I)J"⟩, 29) := ⟨⟨by decide +kernel, by decide +kernel⟩, List.mem_of_getElem? (i := 737) (by decide +kernel), List.mem_of_getElem? (i := 1020) (by decide +kernel), List.mem_of_getElem? (i := 1021) (by decide +kernel)⟩
theorem lw_p45 : lw_okq (⟨"PartBoxModel", "isHead", "(I)Z"⟩, 29) := ⟨⟨by decide +kernel, by decide +kernel⟩, List.mem_of_getElem? (i := 737) (by decide +kernel), List.mem_of_getElem? (i := 1025) (by decide +kernel), List.mem_of_getElem? (i := 1026) (by decide +kernel)⟩
theorem lw_p46 : lw_okq (⟨"PartBoxModel", "fits", "(IJJ)Z"⟩, 29) := ⟨⟨by decide +kernel, by decide +kernel⟩, List.mem_of_getElem? (i := 737) (by decide +kernel), List.mem_of_getElem? (i := 1035) (by decide +kernel), List.mem_of_getElem? (i := 1036) (by decide +kernel)⟩
theorem lw_p47 : lw_okq (⟨"PartBoxModel", "isBody", "(I)Z"⟩, 29) := ⟨⟨by decide +kernel, by decide +kernel⟩, List.mem_of_getElem? (i := 737) (by decide +kernel), List.mem_of_getElem? (i := 1041) (by decide +kernel), List.mem_of_getElem? (i := 1042) (by decide +kernel)⟩
def lw_privs_3 : List (MethodName × Nat) := [(⟨"PartBoxModel", "writeName", "(I)V"⟩, 29), (⟨"PartBoxModel", "isWrong", "()Z"⟩, 29), (⟨"PartBoxModel", "findEnd", "()Z"⟩, 29), (⟨"PartBoxModel", "four", "(J)J"⟩, 29), (⟨"PartBoxModel", "two", "(J)I"⟩, 29), (⟨"PartBoxModel", "wrong", "(IJI)Z"⟩, 29), (⟨"PartBoxModel", "readDirectory", "()Z"⟩, 29), (⟨"PartBoxModel", "nameSize", "(I)I"⟩, 29), (⟨"PartBoxModel", "flags", "(I)I"⟩, 29), (⟨"PartBoxModel", "method", "(I)I"⟩, 29), (⟨"PartBoxModel", "sameName", "(II)Z"⟩, 29), (⟨"PartBoxModel", "many", "(I)J"⟩, 29), (⟨"PartBoxModel", "size", "(I)J"⟩, 29), (⟨"PartBoxModel", "isHead", "(I)Z"⟩, 29), (⟨"PartBoxModel", "fits", "(IJJ)Z"⟩, 29), (⟨"PartBoxModel", "isBody", "(I)Z"⟩, 29)]
theorem lw_r3 : ∀ q ∈ lw_privs_3, lw_okq q := List.forall_mem_cons.mpr ⟨lw_p32, List.forall_mem_cons.mpr ⟨lw_p33, List.forall_mem_cons.mpr ⟨lw_p34, List.forall_mem_cons.mpr ⟨lw_p35, List.forall_mem_cons.mpr ⟨lw_p36, List.forall_mem_cons.mpr ⟨lw_p37, List.forall_mem_cons.mpr ⟨lw_p38, List.forall_mem_cons.mpr ⟨lw_p39, List.forall_mem_cons.mpr ⟨lw_p40, List.forall_mem_cons.mpr ⟨lw_p41, List.forall_mem_cons.mpr ⟨lw_p42, List.forall_mem_cons.mpr ⟨lw_p43, List.forall_mem_cons.mpr ⟨lw_p44, List.forall_mem_cons.mpr ⟨lw_p45, List.forall_mem_cons.mpr ⟨lw_p46, List.forall_mem_cons.mpr ⟨lw_p47, fun _ h => absurd h List.not_mem_nil⟩⟩⟩⟩⟩⟩⟩⟩⟩⟩⟩⟩⟩⟩⟩⟩
theorem lw_p48 : lw_okq (⟨"PartBoxModel", "readGaps", "()Z"⟩, 29) := ⟨⟨by decide +kernel, by decide +kernel⟩, List.mem_of_getElem? (i := 737) (by decide +kernel), List.mem_of_getElem? (i := 1048) (by decide +kernel), List.mem_of_getElem? (i := 1049) (by decide +kernel)⟩
theorem lw_p49 : lw_okq (⟨"PartBoxModel", "firstLeft", "()I"⟩, 29) := ⟨⟨by decide +kernel, by decide +kernel⟩, List.mem_of_getElem? (i := 737) (by decide +kernel), List.mem_of_getElem? (i := 1052) (by decide +kernel), List.mem_of_getElem? (i := 1053) (by decide +kernel)⟩
def lw_privs_4 : List (MethodName × Nat) := [(⟨"PartBoxModel", "readGaps", "()Z"⟩, 29), (⟨"PartBoxModel", "firstLeft", "()I"⟩, 29)]
theorem lw_r4 : ∀ q ∈ lw_privs_4, lw_okq q := List.forall_mem_cons.mpr ⟨lw_p48, List.forall_mem_cons.mpr ⟨lw_p49, fun _ h => absurd h List.not_mem_nil⟩⟩
def lw_privs : List (MethodName × Nat) := lw_privs_1 ++ (lw_privs_2 ++ (lw_privs_3 ++ (lw_privs_4)))
def lw_tbl : List Cond := k2_sels lw_privs ++ tables_1
theorem lw_privs_ok : ∀ q ∈ lw_privs, lw_okq q := by
  show ∀ q ∈ lw_privs_1 ++ (lw_privs_2 ++ (lw_privs_3 ++ (lw_privs_4))), lw_okq q
  exact List.forall_mem_append.mpr ⟨lw_r1, List.forall_mem_append.mpr ⟨lw_r2, List.forall_mem_append.mpr ⟨lw_r3, lw_r4⟩⟩⟩
end
section
def R_P : String := "PartBox"
def T_P : u_T := fun k => match k with
  | 0 => ("PartBox", "row", "LPartBox$Bytes;", true)
  | 1 => ("PartBox", "typed", "LPartBox$Bytes;", true)
  | 2 => ("PartBox", "checker", "LPartBox$Checker;", true)
  | 3 => ("PartBox", "box", "LPartBox$Box;", true)
  | _ => ("PartBox", "reader", "LPartBox$Reader;", true)
def ty_P : Nat → FieldType := fun k => match k with
  | 0 => .object "PartBox$Bytes"
  | 1 => .object "PartBox$Bytes"
  | 2 => .object "PartBox$Checker"
  | 3 => .object "PartBox$Box"
  | _ => .object "PartBox$Reader"
def R_X : String := "PartBox$Box"
def T_X : u_T := fun k => match k with
  | 0 => ("PartBox$Box", "entries", "[LPartBox$Entry;", true)
  | 1 => ("PartBox$Box", "store", "LPartBox$Bytes;", true)
  | _ => ("PartBox$Box", "used", "I", false)
def ty_X : Nat → FieldType := fun k => match k with
  | 0 => .array (.object "PartBox$Entry")
  | 1 => .object "PartBox$Bytes"
  | _ => .int
def R_B : String := "PartBox$Bytes"
def T_B : u_T := fun k => match k with
  | 0 => ("PartBox$Bytes", "cells", "[B", true)
  | _ => ("PartBox$Bytes", "used", "I", false)
def ty_B : Nat → FieldType := fun k => match k with
  | 0 => .array .byte
  | _ => .int
def R_C : String := "PartBox$Checker"
def T_C : u_T := fun k => match k with
  | _ => ("PartBox$Checker", "eightSteps", "[I", true)
def ty_C : Nat → FieldType := fun k => match k with
  | _ => .array .int
def R_E : String := "PartBox$Entry"
def T_E : u_T := fun k => match k with
  | 0 => ("PartBox$Entry", "name", "LPartBox$Bytes;", true)
  | 1 => ("PartBox$Entry", "method", "I", false)
  | 2 => ("PartBox$Entry", "start", "I", false)
  | 3 => ("PartBox$Entry", "byteCount", "I", false)
  | 4 => ("PartBox$Entry", "size", "I", false)
  | _ => ("PartBox$Entry", "check", "I", false)
def ty_E : Nat → FieldType := fun k => match k with
  | 0 => .object "PartBox$Bytes"
  | 1 => .int
  | 2 => .int
  | 3 => .int
  | 4 => .int
  | _ => .int
def R_F : String := "PartBox$Facts"
def T_F : u_T := fun k => match k with
  | 0 => ("PartBox$Facts", "flags", "I", false)
  | 1 => ("PartBox$Facts", "method", "I", false)
  | 2 => ("PartBox$Facts", "check", "J", false)
  | 3 => ("PartBox$Facts", "byteCount", "J", false)
  | 4 => ("PartBox$Facts", "size", "J", false)
  | 5 => ("PartBox$Facts", "nameLength", "I", false)
  | _ => ("PartBox$Facts", "extraLength", "I", false)
def ty_F : Nat → FieldType := fun k => match k with
  | 0 => .int
  | 1 => .int
  | 2 => .long
  | 3 => .long
  | 4 => .long
  | 5 => .int
  | _ => .int
def R_G : String := "PartBox$Finding"
def T_G : u_T := fun k => match k with
  | 0 => ("PartBox$Finding", "facts", "LPartBox$Facts;", true)
  | 1 => ("PartBox$Finding", "nameStart", "I", false)
  | 2 => ("PartBox$Finding", "directoryHeadEnd", "I", false)
  | 3 => ("PartBox$Finding", "head", "J", false)
  | 4 => ("PartBox$Finding", "firstByte", "I", false)
  | _ => ("PartBox$Finding", "end", "I", false)
def ty_G : Nat → FieldType := fun k => match k with
  | 0 => .object "PartBox$Facts"
  | 1 => .int
  | 2 => .int
  | 3 => .long
  | 4 => .int
  | _ => .int
def R_R : String := "PartBox$Reader"
def T_R : u_T := fun k => match k with
  | 0 => ("PartBox$Reader", "row", "LPartBox$Bytes;", true)
  | 1 => ("PartBox$Reader", "checker", "LPartBox$Checker;", true)
  | 2 => ("PartBox$Reader", "findings", "[LPartBox$Finding;", true)
  | 3 => ("PartBox$Reader", "headFacts", "LPartBox$Facts;", true)
  | 4 => ("PartBox$Reader", "order", "[I", true)
  | 5 => ("PartBox$Reader", "fault", "I", false)
  | 6 => ("PartBox$Reader", "place", "I", false)
  | 7 => ("PartBox$Reader", "entry", "I", false)
  | 8 => ("PartBox$Reader", "endPlace", "I", false)
  | 9 => ("PartBox$Reader", "directoryPlace", "I", false)
  | 10 => ("PartBox$Reader", "found", "I", false)
  | 11 => ("PartBox$Reader", "allBytes", "J", false)
  | _ => ("PartBox$Reader", "allSizes", "J", false)
def ty_R : Nat → FieldType := fun k => match k with
  | 0 => .object "PartBox$Bytes"
  | 1 => .object "PartBox$Checker"
  | 2 => .array (.object "PartBox$Finding")
  | 3 => .object "PartBox$Facts"
  | 4 => .array .int
  | 5 => .int
  | 6 => .int
  | 7 => .int
  | 8 => .int
  | 9 => .int
  | 10 => .int
  | 11 => .long
  | _ => .long
def R_M : String := "PartBoxModel"
def T_M : u_T := fun k => match k with
  | 0 => ("PartBoxModel", "code", "I", false)
  | 1 => ("PartBoxModel", "length", "I", false)
  | 2 => ("PartBoxModel", "row", "[B", true)
  | 3 => ("PartBoxModel", "nameLength", "I", false)
  | 4 => ("PartBoxModel", "typed", "[I", true)
  | 5 => ("PartBoxModel", "entries", "I", false)
  | 6 => ("PartBoxModel", "names", "[I", true)
  | 7 => ("PartBoxModel", "nameLengths", "[I", true)
  | 8 => ("PartBoxModel", "methods", "[I", true)
  | 9 => ("PartBoxModel", "begins", "[I", true)
  | 10 => ("PartBoxModel", "lengths", "[I", true)
  | 11 => ("PartBoxModel", "sizes", "[I", true)
  | 12 => ("PartBoxModel", "checks", "[I", true)
  | 13 => ("PartBoxModel", "used", "I", false)
  | 14 => ("PartBoxModel", "heap", "[B", false)
  | 15 => ("PartBoxModel", "other", "[B", false)
  | 16 => ("PartBoxModel", "fault", "I", false)
  | 17 => ("PartBoxModel", "place", "I", false)
  | 18 => ("PartBoxModel", "entry", "I", false)
  | 19 => ("PartBoxModel", "limit", "I", false)
  | 20 => ("PartBoxModel", "endPlace", "I", false)
  | 21 => ("PartBoxModel", "dirPlace", "J", false)
  | 22 => ("PartBoxModel", "heads", "I", false)
  | 23 => ("PartBoxModel", "dirAt", "[I", true)
  | 24 => ("PartBoxModel", "headAt", "[J", true)
  | 25 => ("PartBoxModel", "dataAt", "[J", true)
  | 26 => ("PartBoxModel", "tailEnd", "[J", true)
  | 27 => ("PartBoxModel", "taken", "[Z", true)
  | _ => ("PartBoxModel", "out", "I", false)
def ty_M : Nat → FieldType := fun k => match k with
  | 0 => .int
  | 1 => .int
  | 2 => .array .byte
  | 3 => .int
  | 4 => .array .int
  | 5 => .int
  | 6 => .array .int
  | 7 => .array .int
  | 8 => .array .int
  | 9 => .array .int
  | 10 => .array .int
  | 11 => .array .int
  | 12 => .array .int
  | 13 => .int
  | 14 => .array .byte
  | 15 => .array .byte
  | 16 => .int
  | 17 => .int
  | 18 => .int
  | 19 => .int
  | 20 => .int
  | 21 => .long
  | 22 => .int
  | 23 => .array .int
  | 24 => .array .long
  | 25 => .array .long
  | 26 => .array .long
  | 27 => .array .boolean
  | _ => .int
abbrev mm_cl : List vw_C := [(R_P, T_P, 5), (R_X, T_X, 3), (R_B, T_B, 2), (R_C, T_C, 1), (R_E, T_E, 6), (R_F, T_F, 7), (R_G, T_G, 6), (R_R, T_R, 13), (R_M, T_M, 29)]
def mm_tys (k : Nat → ClassId) : List (ClassId × FieldType) := [(k 0, .byte), (k 1, .int), (k 2, .long), (k 3, .boolean), (k 4, .object "PartBox$Entry"), (k 5, .object "PartBox$Finding")]
def mm_kind : Cond → Bool
  | .fieldLinkNest .. => true
  | .methodLinkNest .. => true
  | .declares _ => true
  | .castable .. => true
  | .arrayOver (.object _) => true
  | _ => false
def mm_T : List Cond := lw_tbl.filter goodWord
def mm_NW : List Cond := tables_1.filter mm_kind
def mm_ST : List (String × String × String) := [("java/lang/Throwable", "UNASSIGNED_STACK", "[Ljava/lang/StackTraceElement;"), ("java/lang/Throwable", "SUPPRESSED_SENTINEL", "Ljava/util/List;")]
theorem mm_T_good : ∀ w ∈ mm_T, goodWord w = true := fun w hw => (List.mem_filter.mp hw).2
theorem mm_NW_ok : ∀ w ∈ mm_NW, mm_kind w = true := fun w hw => (List.mem_filter.mp hw).2
theorem mm_in {w : Cond} (i : Nat) (h : tables_1[i]? = some w) (hg : goodWord w = true) : w ∈ mm_T := List.mem_filter.mpr ⟨List.mem_append_right _ (List.mem_of_getElem? h), hg⟩
theorem mm_inN {w : Cond} (i : Nat) (h : tables_1[i]? = some w) (hg : mm_kind w = true) : w ∈ mm_NW := List.mem_filter.mpr ⟨List.mem_of_getElem? h, hg⟩
theorem mm_inS {q : MethodName × Nat} (i : Nat) (h : lw_privs[i]? = some q) (hg : goodWord (Cond.selects q.1.cls q.1 q.1) = true) : Cond.selects q.1.cls q.1 q.1 ∈ mm_T := List.mem_filter.mpr ⟨List.mem_append_left _ (List.mem_map.mpr ⟨q, List.mem_of_getElem? h, rfl⟩), hg⟩
def mm_SR : List (String × Nat × String) := [("PartBox", 51, "the row would be too long"), ("PartBox", 64, "the row has not so many bytes"), ("PartBox", 72, "the row has no such byte"), ("PartBox", 75, "not a byte"), ("PartBox", 85, "not a character of a name"), ("PartBox", 87, "the name would be too long"), ("PartBox", 96, "no name, or that of an entry"), ("PartBox", 193, "the box is full"), ("PartBox", 106, "no name, or that of an entry, or a size below 0"), ("PartBox", 112, "no such entry"), ("PartBox", 145, "nothing of an entry"), ("PartBox", 147, "no such entry, or no such byte of it"), ("PartBox", 162, "not a limit"), ("PartBox", 180, "nothing of a fault")]
def mm_NC : List (String × String) := [("java/lang/IllegalStateException", "java/lang/IllegalArgumentException"), ("java/lang/IllegalStateException", "java/lang/IndexOutOfBoundsException"), ("java/lang/IllegalArgumentException", "java/lang/IllegalStateException"), ("java/lang/IllegalArgumentException", "java/lang/IndexOutOfBoundsException"), ("java/lang/IndexOutOfBoundsException", "java/lang/IllegalStateException"), ("java/lang/IndexOutOfBoundsException", "java/lang/IllegalArgumentException")]
end
section
/-! THE SMALL MACHINE (mm_): a walk of a method over a flat memory of numbered cells. Cell 0 of a memory holds how many cells there are. mm_W says: from here, over every real heap that holds this memory, the method comes to an end with Q. -/
abbrev mm_O : Type := Option Value ⊕ String
abbrev mm_Mem : Type := Nat → va_E
abbrev mm_M : Type := String × ByteArray × Nat × Option FieldType × (Nat × Nat) × List (Nat × Nat × Nat × Nat) × String × Option (Nat × (Nat → Int32))
abbrev mm_G : Type := va_G × (Nat → ClassId)
def mm_v (ad : Nat → Nat) : Value → Value
  | .ref r => .ref (ad r)
  | v => v
def mm_e (ad : Nat → Nat) (x : va_E) : va_E := match x with
  | .inl (c, n, .inr (.inr (.inr (.inr f)))) => .inl (c, n, .inr (.inr (.inr (.inr (fun j => (f j).map ad)))))
  | .inl y => .inl y
  | .inr (ci, fs) => .inr (ci, fs.map (mm_v ad))
def mm_cv (n : Nat) : Value → Prop
  | .ref r => r ≤ n
  | _ => True
def mm_ce (n : Nat) (x : va_E) : Prop := match x with
  | .inl (_, _, .inr (.inr (.inr (.inr f)))) => ∀ j r, f j = some r → r ≤ n
  | .inl _ => True
  | .inr (_, fs) => ∀ v ∈ fs, mm_cv n v
def mm_j : va_E := .inr (1000, [])
def mm_n (m : mm_Mem) : Nat := match m 0 with
  | .inr (n, _) => n
  | .inl _ => 0
def mm_w (ad : Nat → Nat) (m : mm_Mem) : va_W := (List.range (mm_n m)).map (fun r => (ad (r + 1), mm_e ad (m (r + 1))))
def mm_R (D : va_G) (A : Nat → Prop) (ad : Nat → Nat) (m : mm_Mem) (H : Heap) : Prop :=
  va_P D mm_cl (mm_w ad m) H ∧ va_D A (mm_w ad m) ∧ (∀ r, mm_n m < r → m r = mm_j) ∧ ∀ r, 0 < r → mm_ce (mm_n m) (m r)
def mm_push (m : mm_Mem) (x : va_E) : mm_Mem := va_up (va_up m (mm_n m + 1) x) 0 (.inr (mm_n m + 1, []))
theorem mm_v_cat (ad : Nat → Nat) (v : Value) : (mm_v ad v).category = v.category := by cases v <;> rfl
theorem mm_v_ag {n : Nat} {ad ad' : Nat → Nat} (h : ∀ r, r ≤ n → ad' r = ad r) {v : Value} (hv : mm_cv n v) : mm_v ad' v = mm_v ad v := by
  cases v <;> first | rfl | (simp only [mm_v]; rw [h _ hv])
theorem mm_cv_mono {n n' : Nat} (h : n ≤ n') {v : Value} (hv : mm_cv n v) : mm_cv n' v := by
  cases v <;> first | trivial | exact Nat.le_trans hv h
theorem mm_ce_mono {n n' : Nat} (h : n ≤ n') {x : va_E} (hx : mm_ce n x) : mm_ce n' x := by
  rcases x with ⟨c, k, f | f | f | f | f⟩ | ⟨ci, fs⟩
  · trivial
  · trivial
  · trivial
  · trivial
  · exact fun j r hr => Nat.le_trans (hx j r hr) h
  · exact fun v hv => mm_cv_mono h (hx v hv)
theorem mm_e_ag {n : Nat} {ad ad' : Nat → Nat} (h : ∀ r, r ≤ n → ad' r = ad r) {x : va_E} (hx : mm_ce n x) : mm_e ad' x = mm_e ad x := by
  rcases x with ⟨c, k, f | f | f | f | f⟩ | ⟨ci, fs⟩
  · rfl
  · rfl
  · rfl
  · rfl
  · have e : (fun j => (f j).map ad') = fun j => (f j).map ad := by
      funext j
      cases hf : f j with
      | none => rfl
      | some r => simp [h r (hx j r hf)]
    simp only [mm_e, e]
  · have e : fs.map (mm_v ad') = fs.map (mm_v ad) := List.map_congr_left fun v hv => mm_v_ag h (hx v hv)
    simp only [mm_e, e]
theorem mm_st_ag {n : Nat} {ad ad' : Nat → Nat} (h : ∀ r, r ≤ n → ad' r = ad r) {st : List Value} (hx : ∀ v ∈ st, mm_cv n v) : st.map (mm_v ad') = st.map (mm_v ad) := List.map_congr_left fun v hv => mm_v_ag h (hx v hv)
def mm_q (ad : Nat → Nat) (q : Nat × Value) : Nat × Value := (q.1, mm_v ad q.2)
theorem mm_lv_ag {n : Nat} {ad ad' : Nat → Nat} (h : ∀ r, r ≤ n → ad' r = ad r) {lv : List (Nat × Value)} (hx : ∀ q ∈ lv, mm_cv n q.2) : lv.map (mm_q ad') = lv.map (mm_q ad) :=
  List.map_congr_left fun q hq => by unfold mm_q; rw [mm_v_ag h (hx q hq)]
theorem mm_n_up {m : mm_Mem} {r : Nat} {x : va_E} (h0 : r ≠ 0) : mm_n (va_up m r x) = mm_n m := by
  unfold mm_n va_up
  rw [if_neg (fun q => h0 q.symm)]
theorem mm_n_push (m : mm_Mem) (x : va_E) : mm_n (mm_push m x) = mm_n m + 1 := by
  unfold mm_push
  generalize mm_n m + 1 = k
  unfold mm_n va_up
  rw [if_pos rfl]
theorem mm_lt {m : mm_Mem} (hj : ∀ r, mm_n m < r → m r = mm_j) {r : Nat} {x : va_E} (hx : m r = x) (hne : x ≠ mm_j) : r ≤ mm_n m := by
  rcases Nat.lt_or_ge (mm_n m) r with h | h
  · exact absurd (hx.symm.trans (hj r h)) hne
  · exact h
theorem mm_at {ad : Nat → Nat} {m : mm_Mem} (hj : ∀ r, mm_n m < r → m r = mm_j) {r : Nat} (h0 : r ≠ 0) {x : va_E} (hx : m r = x) (hne : x ≠ mm_j) : (mm_w ad m)[r - 1]? = some (ad r, mm_e ad x) := by
  have h1 := mm_lt hj hx hne
  have h2 : r - 1 + 1 = r := by omega
  unfold mm_w
  rw [List.getElem?_map, List.getElem?_range (by omega)]
  simp only [Option.map_some, h2, hx]
theorem mm_set {ad : Nat → Nat} {m : mm_Mem} {r : Nat} (h0 : r ≠ 0) (x : va_E) : (mm_w ad m).set (r - 1) (ad r, mm_e ad x) = mm_w ad (va_up m r x) := by
  apply List.ext_getElem?
  intro i
  unfold mm_w
  rw [mm_n_up h0, List.getElem?_set, List.getElem?_map, List.length_map, List.length_range]
  by_cases hi : r - 1 = i
  · rw [if_pos hi]
    by_cases hl : r - 1 < mm_n m
    · rw [if_pos hl, List.getElem?_map, List.getElem?_range (by omega)]
      have h2 : i + 1 = r := by omega
      simp [h2, va_up]
    · rw [if_neg hl, List.getElem?_map, List.getElem?_eq_none (by rw [List.length_range]; omega)]
      rfl
  · rw [if_neg hi, List.getElem?_map]
    have h2 : i + 1 ≠ r := by omega
    cases hg : (List.range (mm_n m))[i]? with
    | none => rfl
    | some k =>
      have hk : k = i := by
        have := List.getElem?_eq_some_iff.mp hg
        obtain ⟨_, h3⟩ := this
        simpa using h3.symm
      subst hk
      simp [va_up, h2]
theorem mm_put {D : va_G} {A : Nat → Prop} {ad : Nat → Nat} {m : mm_Mem} {H H1 : Heap} {r : Nat} (h0 : r ≠ 0) {y : va_E} (hR : mm_R D A ad m H) (hy : m r = y) (hne : y ≠ mm_j) {x : va_E} (hx : mm_ce (mm_n m) x) (hP : va_P D mm_cl ((mm_w ad m).set (r - 1) (ad r, mm_e ad x)) H1) (hD : va_D A ((mm_w ad m).set (r - 1) (ad r, mm_e ad x))) : mm_R D A ad (va_up m r x) H1 := by
  rw [mm_set h0] at hP hD
  refine ⟨hP, hD, fun k hk => ?_, fun k hk => ?_⟩
  · rw [mm_n_up h0] at hk
    have h1 := mm_lt hR.2.2.1 hy hne
    have : k ≠ r := by omega
    unfold va_up
    rw [if_neg this]
    exact hR.2.2.1 k hk
  · rw [mm_n_up h0]
    unfold va_up
    by_cases hk2 : k = r
    · rw [if_pos hk2]; exact hx
    · rw [if_neg hk2]; exact hR.2.2.2 k hk
theorem mm_grow {D : va_G} {A : Nat → Prop} {ad : Nat → Nat} {m : mm_Mem} {H H1 : Heap} {q : Nat} {x : va_E} (hR : mm_R D A ad m H) (hx : mm_ce (mm_n m) x) (he : mm_e (va_up ad (mm_n m + 1) q) x = x) (hP : va_P D mm_cl (mm_w ad m ++ [(q, x)]) H1) (hD : va_D A (mm_w ad m ++ [(q, x)])) : mm_R D A (va_up ad (mm_n m + 1) q) (mm_push m x) H1 := by
  have hag : ∀ r, r ≤ mm_n m → va_up ad (mm_n m + 1) q r = ad r := fun r hr => by unfold va_up; rw [if_neg (by omega)]
  have key : mm_w ad m ++ [(q, x)] = mm_w (va_up ad (mm_n m + 1) q) (mm_push m x) := by
    unfold mm_w
    rw [mm_n_push, List.range_succ, List.map_append]
    congr 1
    · refine List.map_congr_left fun r hr => ?_
      have hr' : r < mm_n m := List.mem_range.mp hr
      have h1 : mm_push m x (r + 1) = m (r + 1) := by
        unfold mm_push va_up
        rw [if_neg (by omega), if_neg (by omega)]
      rw [h1, hag _ (by omega), mm_e_ag hag (hR.2.2.2 (r + 1) (by omega))]
    · have h1 : mm_push m x (mm_n m + 1) = x := by
        unfold mm_push va_up
        rw [if_neg (by omega), if_pos rfl]
      simp only [List.map_cons, List.map_nil]
      rw [h1, he]
      simp [va_up]
  rw [key] at hP hD
  refine ⟨hP, hD, fun k hk => ?_, fun k hk => ?_⟩
  · rw [mm_n_push] at hk
    unfold mm_push va_up
    rw [if_neg (by omega), if_neg (by omega)]
    exact hR.2.2.1 k (by omega)
  · rw [mm_n_push]
    unfold mm_push va_up
    rw [if_neg (by omega)]
    by_cases hk2 : k = mm_n m + 1
    · rw [if_pos hk2]; exact mm_ce_mono (Nat.le_succ _) hx
    · rw [if_neg hk2]; exact mm_ce_mono (Nat.le_succ _) (hR.2.2.2 k hk)
/-- a static field of references: where it lies, and that it holds a reference; its cell is none of A -/
def mm_S1 (C n d : String) (A : Nat → Prop) (U : State) (H : Heap) : Prop := ∃ (c : ClassId) (k : Class) (i : Nat) (f : Field) (a : Nat) (cell : Cell) (v : Value), U.vm.findClass C = some c ∧ U.fieldFound? C n d = some (c, k, i, f) ∧ f.isStatic = true ∧ k.statics = some a ∧ H[a]? = some cell ∧ cell.vm.isStatics = true ∧ cell.cls = c ∧ k.staticTypes[f.slot]? = some f.type ∧ cell.slots[f.slot]? = some v ∧ v.isRef = true ∧ k.init = .initialized ∧ ¬ A a
theorem mm_S1.moved {C n d : String} {A : Nat → Prop} {u U : State} {H : Heap} (hvm : u.vm.Alike U.vm) (h : mm_S1 C n d A u H) : mm_S1 C n d A U H := by
  obtain ⟨c, k, i, f, a, cell, v, h1, h2, h3, h4, h5, h6, h7, h8, h9, h10, h11, h12⟩ := h
  obtain ⟨k', hi', he⟩ := State.fieldFound?_setVm hvm h2
  exact ⟨c, k', i, f, a, cell, v, by rw [hvm.findClass]; exact h1, hi', h3, by rw [he]; exact h4, h5, h6, h7, by rw [he]; exact h8, h9, h10, by rw [he]; exact h11, h12⟩
theorem mm_S1.kept {C n d : String} {A : Nat → Prop} {U : State} {H H1 : Heap} (h : mm_S1 C n d A U H) (hq : ∀ a : Nat, a < H.size → ¬ A a → H1[a]? = H[a]?) : mm_S1 C n d A U H1 := by
  obtain ⟨c, k, i, f, a, cell, v, h1, h2, h3, h4, h5, h6, h7, h8, h9, h10, h11, h12⟩ := h
  exact ⟨c, k, i, f, a, cell, v, h1, h2, h3, h4, by rw [hq a (Array.getElem?_eq_some_iff.mp h5).1 h12]; exact h5, h6, h7, h8, h9, h10, h11, h12⟩
theorem mm_S1.narrow {C n d : String} {A B : Nat → Prop} {U : State} {H : Heap} (h : mm_S1 C n d A U H) (hAB : ∀ q, q < H.size → B q → A q) : mm_S1 C n d B U H := by
  obtain ⟨c, k, i, f, a, cell, v, h1, h2, h3, h4, h5, h6, h7, h8, h9, h10, h11, h12⟩ := h
  exact ⟨c, k, i, f, a, cell, v, h1, h2, h3, h4, h5, h6, h7, h8, h9, h10, h11, fun z => h12 (hAB _ (Array.getElem?_eq_some_iff.mp h5).1 z)⟩
theorem mm_S1.word {C n d : String} {A : Nat → Prop} {s : State} {args : Array Value} (h : mm_S1 C n d A s s.heap) : (Cond.laysStatic C n d).before args s = true ∧ (Cond.isRef (.static C n d)).before args s = true := by
  obtain ⟨c, k, i, f, a, cell, v, h1, h2, h3, h4, h5, h6, h7, h8, h9, h10, h11, -⟩ := h
  refine ⟨?_, ?_⟩
  · show (Cond.laysStatic C n d).holds args s none s [] = true
    exact Cond.laysStatic_of h1 h2 h3 h4 h5 h6 h7 (Array.getElem?_eq_some_iff.mp h9).1 h8
  · have he : (Term.static C n d).eval args s none [] s = some v := by
      simp [Term.eval, State.fieldNamed?, h2, h3, h4, h5, h6, h9]
    simp only [Cond.before, Cond.holds, Cond.value, he]
    cases v <;> simp_all [Value.isRef]
/-- what holds of the tables and the statics at every state of the run -/
def mm_X (G : mm_G) (A : Nat → Prop) (s : State) : Prop := va_K G.1 mm_cl (mm_tys G.2) s ∧ (∀ w ∈ mm_NW, va_Nw w s) ∧ (∀ q ∈ mm_ST, mm_S1 q.1 q.2.1 q.2.2 A s s.heap) ∧ (∀ q ∈ mm_SR, ∃ a, vk_R q.1 q.2.1 q.2.2 a s) ∧ ∀ q ∈ mm_NC, va_Nc q.1 q.2 s
def mm_C (G : mm_G) (K : mm_M) (p : Program) (s : State) (mid : MethodId) (args : Array Value) (meth : Method) (c : Code) (A : Nat → Prop) (b0 : Nat) : Prop :=
  p.tables.exec = Jvm.exec ∧ c.code = K.2.1 ∧ c.maxLocals = K.2.2.1 ∧ meth.sig.returnType = K.2.2.2.1 ∧ meth.locks = false ∧ meth.name = K.2.2.2.2.2.2.1 ∧ s.vm.findClass K.1 = some mid.cls ∧ c.exceptionTable.toList = tableOf K.2.2.2.2.2.1 ∧ (∀ w ∈ mm_T, w.before args s = true) ∧ mm_X G A s ∧ (∀ (q : Nat) (cell : Cell), A q → s.heap[q]? = some cell → cell.vm.isStatics = false) ∧
  (match K.2.2.2.2.2.2.2 with
   | none => True
   | some (L, xs) => va_X b0 L xs s s.heap ∧ b0 < s.heap.size ∧ ¬ A b0)
def mm_room (K : mm_M) (mc ms : Nat) : Room := { frames := K.2.2.2.2.1.1, cells := mc, slots := ms, locals := K.2.2.2.2.1.2 }
def mm_out (s t : State) (ad : Nat → Nat) (n : Nat) (u : mm_O) (o : Outcome) : Prop := match u with
  | .inl v => o = .returned (v.map (mm_v ad)) ∧ ∀ w, v = some w → mm_cv n w
  | .inr E => ∃ (q : Addr) (ce : Cell), o = .threw q ∧ t.heap[q]? = some ce ∧ ce.vm = .none ∧ s.vm.findClass E = some ce.cls
def mm_Q (G : mm_G) (A : Nat → Prop) (n0 : Nat) (ad0 : Nat → Nat) (Q : mm_O → mm_Mem → Prop) (s : State) (o : Outcome) (t : State) : Prop :=
  ∃ (u : mm_O) (m : mm_Mem) (ad : Nat → Nat), Q u m ∧ mm_R G.1 A ad m t.heap ∧ n0 ≤ mm_n m ∧ (∀ r, r ≤ n0 → ad r = ad0 r) ∧ va_F A s t ∧ mm_out s t ad (mm_n m) u o
def mm_Z (G : mm_G) (A : Nat → Prop) (below : List Frame) (s : State) (mc ms n0 : Nat) (ad0 : Nat → Nat) (Q : mm_O → mm_Mem → Prop) : State → Prop := fun t =>
  ∃ o, t.status = .running ∧ Ended t below o ∧ mm_Q G A n0 ad0 Q s o t ∧ ∃ L, s.WarmedH t.vm ∧ s.sameButNew ({ t with vm := s.vm } : State) L mc ms ∧ ∀ q ∈ L, A q.base
/-- the method K stands at pc with these locals and operands over the memory m; b more cells and slots may be made; it comes to an end with Q -/
def mm_W (l : Launch) (G : mm_G) (K : mm_M) (pc : Nat) (lv : List (Nat × Value)) (st : List Value) (b : Nat) (m : mm_Mem) (Q : mm_O → mm_Mem → Prop) : Prop :=
  ∀ (p : Program) (e : Env) (s : State) (mid : MethodId) (args : Array Value) (below : List Frame) (meth : Method) (c : Code) (mc ms n0 : Nat) (ad0 ad : Nat → Nat) (A : Nat → Prop) (H : Heap) (locs : List Loc) (cells slots : Nat) (ls : Array Slot),
    mm_C G K p s mid args meth c A (ad0 0) → (∀ q, s.heap.size ≤ q → A q) → n0 ≤ mm_n m → (∀ r, r ≤ n0 → ad r = ad0 r) → mm_R G.1 A ad m H → va_S A s.heap H locs → lv_has ls K.2.2.1 (lv.map (mm_q ad)) → (∀ q ∈ lv, mm_cv (mm_n m) q.2) → (∀ v ∈ st, mm_cv (mm_n m) v) → cells + b ≤ mc → slots + b ≤ ms →
    W p l e (mm_room K mc ms) s mid args below meth c H locs cells slots (mm_Z G A below s mc ms n0 ad0 Q) (F0 mid pc ls (st.map (mm_v ad)))
/-- .. and so with an exception of class E thrown at pc -/
def mm_WX (l : Launch) (G : mm_G) (K : mm_M) (pc : Nat) (lv : List (Nat × Value)) (E : String) (b : Nat) (m : mm_Mem) (Q : mm_O → mm_Mem → Prop) : Prop :=
  ∀ (p : Program) (e : Env) (s : State) (mid : MethodId) (args : Array Value) (below : List Frame) (meth : Method) (c : Code) (mc ms n0 : Nat) (ad0 ad : Nat → Nat) (A : Nat → Prop) (H : Heap) (locs : List Loc) (cells slots : Nat) (ls : Array Slot),
    mm_C G K p s mid args meth c A (ad0 0) → (∀ q, s.heap.size ≤ q → A q) → n0 ≤ mm_n m → (∀ r, r ≤ n0 → ad r = ad0 r) → mm_R G.1 A ad m H → va_S A s.heap H locs → lv_has ls K.2.2.1 (lv.map (mm_q ad)) → (∀ q ∈ lv, mm_cv (mm_n m) q.2) → cells + b ≤ mc → slots + b ≤ ms →
    ∀ (q : Addr) (ce : Cell) (stC : List Value), H[q]? = some ce → ce.vm = .none → s.vm.findClass E = some ce.cls → ∀ T : State, T.heap = H → Stand p l e (mm_room K mc ms) s mid args below meth c T locs cells slots →
      ∃ t, Steps p.tables e below ((T.setTop (F0 mid pc ls stC)).pushFrame (.throwing q)) t ∧ mm_Z G A below s mc ms n0 ad0 Q t
theorem mm_sc {n : Nat} {v : Value} {st : List Value} (hv : mm_cv n v) (h : ∀ w ∈ st, mm_cv n w) : ∀ w ∈ v :: st, mm_cv n w := fun w hw => by
  rcases List.mem_cons.mp hw with rfl | hw
  · exact hv
  · exact h w hw
theorem mm_sd {n : Nat} {v : Value} {st : List Value} (h : ∀ w ∈ v :: st, mm_cv n w) : ∀ w ∈ st, mm_cv n w := fun w hw => h w (List.mem_cons_of_mem _ hw)
theorem mm_sh {n : Nat} {v : Value} {st : List Value} (h : ∀ w ∈ v :: st, mm_cv n w) : mm_cv n v := h v List.mem_cons_self
theorem mm_lg {ls : Array Slot} {nL : Nat} {ad : Nat → Nat} {lv : List (Nat × Value)} (h : lv_has ls nL (lv.map (mm_q ad))) (j : Nat) {i : Nat} {v : Value} (hj : lv[j]? = some (i, v)) : ls[i]? = some (.val (mm_v ad v)) :=
  lv_at h j (by rw [List.getElem?_map, hj]; rfl)
theorem mm_lc {n : Nat} {lv : List (Nat × Value)} (h : ∀ q ∈ lv, mm_cv n q.2) {j i : Nat} {v : Value} (hj : lv[j]? = some (i, v)) : mm_cv n v := h (i, v) (List.mem_of_getElem? hj)
theorem mm_mono {p : Program} {l : Launch} {e : Env} {R : Room} {s : State} {m : MethodId} {args : Array Value} {below : List Frame} {meth : Method} {c : Code} {H : Heap} {locs : List Loc} {cells slots : Nat} {Q Q' : State → Prop} {g : JFrame} (h : ∀ t, Q t → Q' t) (k : W p l e R s m args below meth c H locs cells slots Q g) : W p l e R s m args below meth c H locs cells slots Q' g := fun T hT X => by
  obtain ⟨t, a, b⟩ := k T hT X
  exact ⟨t, a, h t b⟩
theorem mm_ofMQ {G : mm_G} {A : Nat → Prop} {below : List Frame} {args : Array Value} {s : State} {mc ms n0 : Nat} {ad0 : Nat → Nat} {Q : mm_O → mm_Mem → Prop} (t : State) (h : MQ below (fun _ s o t => mm_Q G A n0 ad0 Q s o t) args s mc ms A t) : mm_Z G A below s mc ms n0 ad0 Q t := by
  obtain ⟨o, h1, h2, h3, L, h4, h5⟩ := h
  exact ⟨o, h1, h2, h3, L, h4.2.1, h4.2.2, h5⟩

section MMR
variable {l : Launch} {G : mm_G} {K : mm_M} {pc : Nat} {lv lv2 : List (Nat × Value)} {st : List Value} {b : Nat} {m : mm_Mem} {Q : mm_O → mm_Mem → Prop}
theorem mm_iconst {n : Int} {v : Int32} (hd : decode K.2.1 pc = .ok (.iconst n, 1)) (hv : Int32.ofInt n = v) (h : mm_W l G K (pc + 1) lv (.int v :: st) b m Q) : mm_W l G K pc lv st b m Q := by
  intro p e s mid args below meth c mc ms n0 ad0 ad A H locs cells slots ls C hA hn had hR hS hls hlc hsc hb1 hb2
  exact lv_iconst C.1 C.2.1 hd hv (h p e s mid args below meth c mc ms n0 ad0 ad A H locs cells slots ls C hA hn had hR hS hls hlc (mm_sc trivial hsc) hb1 hb2)
theorem mm_bipush {n : Int} {v : Int32} (hd : decode K.2.1 pc = .ok (.bipush n, 2)) (hv : (Int8.ofInt n).toInt32 = v) (h : mm_W l G K (pc + 2) lv (.int v :: st) b m Q) : mm_W l G K pc lv st b m Q := by
  intro p e s mid args below meth c mc ms n0 ad0 ad A H locs cells slots ls C hA hn had hR hS hls hlc hsc hb1 hb2
  exact lv_bipush C.1 C.2.1 hd hv (h p e s mid args below meth c mc ms n0 ad0 ad A H locs cells slots ls C hA hn had hR hS hls hlc (mm_sc trivial hsc) hb1 hb2)
theorem mm_sipush {n : Int} {v : Int32} (hd : decode K.2.1 pc = .ok (.sipush n, 3)) (hv : (Int16.ofInt n).toInt32 = v) (h : mm_W l G K (pc + 3) lv (.int v :: st) b m Q) : mm_W l G K pc lv st b m Q := by
  intro p e s mid args below meth c mc ms n0 ad0 ad A H locs cells slots ls C hA hn had hR hS hls hlc hsc hb1 hb2
  exact lv_sipush C.1 C.2.1 hd hv (h p e s mid args below meth c mc ms n0 ad0 ad A H locs cells slots ls C hA hn had hR hS hls hlc (mm_sc trivial hsc) hb1 hb2)
theorem mm_lconst {n : Fin 2} {v : Int64} (hd : decode K.2.1 pc = .ok (.lconst n, 1)) (hv : Int64.ofNat (n : Nat) = v) (h : mm_W l G K (pc + 1) lv (.long v :: st) b m Q) : mm_W l G K pc lv st b m Q := by
  intro p e s mid args below meth c mc ms n0 ad0 ad A H locs cells slots ls C hA hn had hR hS hls hlc hsc hb1 hb2
  exact lv_lconst C.1 C.2.1 hd hv (h p e s mid args below meth c mc ms n0 ad0 ad A H locs cells slots ls C hA hn had hR hS hls hlc (mm_sc trivial hsc) hb1 hb2)
theorem mm_ldc {index : Nat} {v : Int32} (hc : Jvm.Cond.constant K.1 index v ∈ mm_T) (hd : decode K.2.1 pc = .ok (.ldc index, 2)) (h : mm_W l G K (pc + 2) lv (.int v :: st) b m Q) : mm_W l G K pc lv st b m Q := by
  intro p e s mid args below meth c mc ms n0 ad0 ad A H locs cells slots ls C hA hn had hR hS hls hlc hsc hb1 hb2
  obtain ⟨hx, hb, -, -, -, -, hown, -, hts, -⟩ := id C
  exact lv_ldc hx hb hown (hts _ hc) hd (h p e s mid args below meth c mc ms n0 ad0 ad A H locs cells slots ls C hA hn had hR hS hls hlc (mm_sc trivial hsc) hb1 hb2)
theorem mm_ldcw {index : Nat} {v : Int32} (hc : Jvm.Cond.constant K.1 index v ∈ mm_T) (hd : decode K.2.1 pc = .ok (.ldc_w index, 3)) (h : mm_W l G K (pc + 3) lv (.int v :: st) b m Q) : mm_W l G K pc lv st b m Q := by
  intro p e s mid args below meth c mc ms n0 ad0 ad A H locs cells slots ls C hA hn had hR hS hls hlc hsc hb1 hb2
  obtain ⟨hx, hb, -, -, -, -, hown, -, hts, -⟩ := id C
  exact lv_ldcw hx hb hown (hts _ hc) hd (h p e s mid args below meth c mc ms n0 ad0 ad A H locs cells slots ls C hA hn had hR hS hls hlc (mm_sc trivial hsc) hb1 hb2)
theorem mm_ldc2 {index : Nat} {v : Int64} (hc : Jvm.Cond.constantLong K.1 index v ∈ mm_T) (hd : decode K.2.1 pc = .ok (.ldc2_w index, 3)) (h : mm_W l G K (pc + 3) lv (.long v :: st) b m Q) : mm_W l G K pc lv st b m Q := by
  intro p e s mid args below meth c mc ms n0 ad0 ad A H locs cells slots ls C hA hn had hR hS hls hlc hsc hb1 hb2
  obtain ⟨hx, hb, -, -, -, -, hown, -, hts, -⟩ := id C
  exact lv_ldc2 hx hb hown (hts _ hc) hd (h p e s mid args below meth c mc ms n0 ad0 ad A H locs cells slots ls C hA hn had hR hS hls hlc (mm_sc trivial hsc) hb1 hb2)
theorem mm_null (hd : decode K.2.1 pc = .ok (.aconst_null, 1)) (h : mm_W l G K (pc + 1) lv (.null :: st) b m Q) : mm_W l G K pc lv st b m Q := by
  intro p e s mid args below meth c mc ms n0 ad0 ad A H locs cells slots ls C hA hn had hR hS hls hlc hsc hb1 hb2
  exact lv_null C.1 C.2.1 hd (h p e s mid args below meth c mc ms n0 ad0 ad A H locs cells slots ls C hA hn had hR hS hls hlc (mm_sc trivial hsc) hb1 hb2)
theorem mm_iload_n (j : Nat) {k : Fin 4} {i : Nat} {x : Int32} (hd : decode K.2.1 pc = .ok (.iload_n k, 1)) (hi : (k : Nat) = i) (hj : lv[j]? = some (i, .int x)) (h : mm_W l G K (pc + 1) lv (.int x :: st) b m Q) : mm_W l G K pc lv st b m Q := by
  intro p e s mid args below meth c mc ms n0 ad0 ad A H locs cells slots ls C hA hn had hR hS hls hlc hsc hb1 hb2
  exact lv_iload_n C.1 C.2.1 hd hi (mm_lg hls j hj) (h p e s mid args below meth c mc ms n0 ad0 ad A H locs cells slots ls C hA hn had hR hS hls hlc (mm_sc trivial hsc) hb1 hb2)
theorem mm_iload (j : Nat) {i : Nat} {x : Int32} (hd : decode K.2.1 pc = .ok (.iload i, 2)) (hj : lv[j]? = some (i, .int x)) (h : mm_W l G K (pc + 2) lv (.int x :: st) b m Q) : mm_W l G K pc lv st b m Q := by
  intro p e s mid args below meth c mc ms n0 ad0 ad A H locs cells slots ls C hA hn had hR hS hls hlc hsc hb1 hb2
  exact lv_iload C.1 C.2.1 hd (mm_lg hls j hj) (h p e s mid args below meth c mc ms n0 ad0 ad A H locs cells slots ls C hA hn had hR hS hls hlc (mm_sc trivial hsc) hb1 hb2)
theorem mm_lload_n (j : Nat) {k : Fin 4} {i : Nat} {x : Int64} (hd : decode K.2.1 pc = .ok (.lload_n k, 1)) (hi : (k : Nat) = i) (hj : lv[j]? = some (i, .long x)) (h : mm_W l G K (pc + 1) lv (.long x :: st) b m Q) : mm_W l G K pc lv st b m Q := by
  intro p e s mid args below meth c mc ms n0 ad0 ad A H locs cells slots ls C hA hn had hR hS hls hlc hsc hb1 hb2
  exact lv_lload_n C.1 C.2.1 hd hi (mm_lg hls j hj) (h p e s mid args below meth c mc ms n0 ad0 ad A H locs cells slots ls C hA hn had hR hS hls hlc (mm_sc trivial hsc) hb1 hb2)
theorem mm_lload (j : Nat) {i : Nat} {x : Int64} (hd : decode K.2.1 pc = .ok (.lload i, 2)) (hj : lv[j]? = some (i, .long x)) (h : mm_W l G K (pc + 2) lv (.long x :: st) b m Q) : mm_W l G K pc lv st b m Q := by
  intro p e s mid args below meth c mc ms n0 ad0 ad A H locs cells slots ls C hA hn had hR hS hls hlc hsc hb1 hb2
  exact lv_lload C.1 C.2.1 hd (mm_lg hls j hj) (h p e s mid args below meth c mc ms n0 ad0 ad A H locs cells slots ls C hA hn had hR hS hls hlc (mm_sc trivial hsc) hb1 hb2)
theorem mm_aload_n (j : Nat) {k : Fin 4} {i x : Nat} (hd : decode K.2.1 pc = .ok (.aload_n k, 1)) (hi : (k : Nat) = i) (hj : lv[j]? = some (i, .ref x)) (h : mm_W l G K (pc + 1) lv (.ref x :: st) b m Q) : mm_W l G K pc lv st b m Q := by
  intro p e s mid args below meth c mc ms n0 ad0 ad A H locs cells slots ls C hA hn had hR hS hls hlc hsc hb1 hb2
  exact lv_aload_n C.1 C.2.1 hd hi (mm_lg hls j hj) (h p e s mid args below meth c mc ms n0 ad0 ad A H locs cells slots ls C hA hn had hR hS hls hlc (mm_sc (mm_lc hlc hj) hsc) hb1 hb2)
theorem mm_aload (j : Nat) {i x : Nat} (hd : decode K.2.1 pc = .ok (.aload i, 2)) (hj : lv[j]? = some (i, .ref x)) (h : mm_W l G K (pc + 2) lv (.ref x :: st) b m Q) : mm_W l G K pc lv st b m Q := by
  intro p e s mid args below meth c mc ms n0 ad0 ad A H locs cells slots ls C hA hn had hR hS hls hlc hsc hb1 hb2
  exact lv_aload C.1 C.2.1 hd (mm_lg hls j hj) (h p e s mid args below meth c mc ms n0 ad0 ad A H locs cells slots ls C hA hn had hR hS hls hlc (mm_sc (mm_lc hlc hj) hsc) hb1 hb2)
theorem mm_aload_nN (j : Nat) {k : Fin 4} {i : Nat} (hd : decode K.2.1 pc = .ok (.aload_n k, 1)) (hi : (k : Nat) = i) (hj : lv[j]? = some (i, .null)) (h : mm_W l G K (pc + 1) lv (.null :: st) b m Q) : mm_W l G K pc lv st b m Q := by
  intro p e s mid args below meth c mc ms n0 ad0 ad A H locs cells slots ls C hA hn had hR hS hls hlc hsc hb1 hb2
  exact lv_aload_nN C.1 C.2.1 hd hi (mm_lg hls j hj) (h p e s mid args below meth c mc ms n0 ad0 ad A H locs cells slots ls C hA hn had hR hS hls hlc (mm_sc trivial hsc) hb1 hb2)
theorem mm_aloadN (j : Nat) {i : Nat} (hd : decode K.2.1 pc = .ok (.aload i, 2)) (hj : lv[j]? = some (i, .null)) (h : mm_W l G K (pc + 2) lv (.null :: st) b m Q) : mm_W l G K pc lv st b m Q := by
  intro p e s mid args below meth c mc ms n0 ad0 ad A H locs cells slots ls C hA hn had hR hS hls hlc hsc hb1 hb2
  exact lv_aloadN C.1 C.2.1 hd (mm_lg hls j hj) (h p e s mid args below meth c mc ms n0 ad0 ad A H locs cells slots ls C hA hn had hR hS hls hlc (mm_sc trivial hsc) hb1 hb2)
end MMR
theorem mm_f1 {ad : Nat → Nat} {lv : List (Nat × Value)} (i : Nat) (v : Value) : (i, mm_v ad v) :: (lv.map (mm_q ad)).filter (fun q => !(q.1 == i) && !(q.1 + 1 == i && q.2.category == 2)) = ((i, v) :: lv.filter (fun q => !(q.1 == i) && !(q.1 + 1 == i && q.2.category == 2))).map (mm_q ad) := by
  rw [List.map_cons, List.filter_map]
  congr 2
  refine List.filter_congr fun q _ => ?_
  simp only [Function.comp, mm_q, mm_v_cat]
theorem mm_f2 {ad : Nat → Nat} {lv : List (Nat × Value)} (i : Nat) (v : Value) : (i, mm_v ad v) :: (lv.map (mm_q ad)).filter (fun q => !(q.1 == i) && (!(q.1 == i + 1) && !(q.1 + 1 == i && q.2.category == 2))) = ((i, v) :: lv.filter (fun q => !(q.1 == i) && (!(q.1 == i + 1) && !(q.1 + 1 == i && q.2.category == 2)))).map (mm_q ad) := by
  rw [List.map_cons, List.filter_map]
  congr 2
  refine List.filter_congr fun q _ => ?_
  simp only [Function.comp, mm_q, mm_v_cat]
theorem mm_fc {n i : Nat} {v : Value} {lv : List (Nat × Value)} {P : Nat × Value → Bool} (h : ∀ q ∈ lv, mm_cv n q.2) (hv : mm_cv n v) : ∀ q ∈ (i, v) :: lv.filter P, mm_cv n q.2 := fun q hq => by
  rcases List.mem_cons.mp hq with rfl | hq
  · exact hv
  · exact h q (List.mem_filter.mp hq).1
section MMS
variable {l : Launch} {G : mm_G} {K : mm_M} {pc : Nat} {lv lv2 : List (Nat × Value)} {st : List Value} {b : Nat} {m : mm_Mem} {Q : mm_O → mm_Mem → Prop}
theorem mm_istore_n {k : Fin 4} {i : Nat} {x : Int32} (hd : decode K.2.1 pc = .ok (.istore_n k, 1)) (hi : (k : Nat) = i) (hn : i < K.2.2.1) (hl : (i, .int x) :: lv.filter (fun q => !(q.1 == i) && !(q.1 + 1 == i && q.2.category == 2)) = lv2) (h : mm_W l G K (pc + 1) lv2 st b m Q) : mm_W l G K pc lv (.int x :: st) b m Q := by
  intro p e s mid args below meth c mc ms n0 ad0 ad A H locs cells slots ls C hA hn0 had hR hS hls hlc hsc hb1 hb2
  subst hl
  exact lv_istore_n C.1 C.2.1 hd hi hls hn (mm_f1 (ad := ad) i (.int x)) (fun ls hls => (h p e s mid args below meth c mc ms n0 ad0 ad A H locs cells slots ls C hA hn0 had hR hS hls (mm_fc hlc trivial) (mm_sd hsc) hb1 hb2))
theorem mm_lstore_n {k : Fin 4} {i : Nat} {x : Int64} (hd : decode K.2.1 pc = .ok (.lstore_n k, 1)) (hi : (k : Nat) = i) (hn : i + 1 < K.2.2.1) (hl : (i, .long x) :: lv.filter (fun q => !(q.1 == i) && (!(q.1 == i + 1) && !(q.1 + 1 == i && q.2.category == 2))) = lv2) (h : mm_W l G K (pc + 1) lv2 st b m Q) : mm_W l G K pc lv (.long x :: st) b m Q := by
  intro p e s mid args below meth c mc ms n0 ad0 ad A H locs cells slots ls C hA hn0 had hR hS hls hlc hsc hb1 hb2
  subst hl
  exact lv_lstore_n C.1 C.2.1 hd hi hls hn (mm_f2 (ad := ad) i (.long x)) (fun ls hls => (h p e s mid args below meth c mc ms n0 ad0 ad A H locs cells slots ls C hA hn0 had hR hS hls (mm_fc hlc trivial) (mm_sd hsc) hb1 hb2))
theorem mm_astore_n {k : Fin 4} {i : Nat} {x : Nat} (hd : decode K.2.1 pc = .ok (.astore_n k, 1)) (hi : (k : Nat) = i) (hn : i < K.2.2.1) (hl : (i, .ref x) :: lv.filter (fun q => !(q.1 == i) && !(q.1 + 1 == i && q.2.category == 2)) = lv2) (h : mm_W l G K (pc + 1) lv2 st b m Q) : mm_W l G K pc lv (.ref x :: st) b m Q := by
  intro p e s mid args below meth c mc ms n0 ad0 ad A H locs cells slots ls C hA hn0 had hR hS hls hlc hsc hb1 hb2
  subst hl
  exact lv_astore_n C.1 C.2.1 hd hi hls hn (mm_f1 (ad := ad) i (.ref x)) (fun ls hls => (h p e s mid args below meth c mc ms n0 ad0 ad A H locs cells slots ls C hA hn0 had hR hS hls (mm_fc hlc (mm_sh hsc)) (mm_sd hsc) hb1 hb2))
theorem mm_astore_nN {k : Fin 4} {i : Nat} (hd : decode K.2.1 pc = .ok (.astore_n k, 1)) (hi : (k : Nat) = i) (hn : i < K.2.2.1) (hl : (i, .null) :: lv.filter (fun q => !(q.1 == i) && !(q.1 + 1 == i && q.2.category == 2)) = lv2) (h : mm_W l G K (pc + 1) lv2 st b m Q) : mm_W l G K pc lv (.null :: st) b m Q := by
  intro p e s mid args below meth c mc ms n0 ad0 ad A H locs cells slots ls C hA hn0 had hR hS hls hlc hsc hb1 hb2
  subst hl
  exact lv_astore_nN C.1 C.2.1 hd hi hls hn (mm_f1 (ad := ad) i (.null)) (fun ls hls => (h p e s mid args below meth c mc ms n0 ad0 ad A H locs cells slots ls C hA hn0 had hR hS hls (mm_fc hlc trivial) (mm_sd hsc) hb1 hb2))
theorem mm_istore {i : Nat} {x : Int32} (hd : decode K.2.1 pc = .ok (.istore i, 2)) (hn : i < K.2.2.1) (hl : (i, .int x) :: lv.filter (fun q => !(q.1 == i) && !(q.1 + 1 == i && q.2.category == 2)) = lv2) (h : mm_W l G K (pc + 2) lv2 st b m Q) : mm_W l G K pc lv (.int x :: st) b m Q := by
  intro p e s mid args below meth c mc ms n0 ad0 ad A H locs cells slots ls C hA hn0 had hR hS hls hlc hsc hb1 hb2
  subst hl
  exact lv_istore C.1 C.2.1 hd hls hn (mm_f1 (ad := ad) i (.int x)) (fun ls hls => (h p e s mid args below meth c mc ms n0 ad0 ad A H locs cells slots ls C hA hn0 had hR hS hls (mm_fc hlc trivial) (mm_sd hsc) hb1 hb2))
theorem mm_lstore {i : Nat} {x : Int64} (hd : decode K.2.1 pc = .ok (.lstore i, 2)) (hn : i + 1 < K.2.2.1) (hl : (i, .long x) :: lv.filter (fun q => !(q.1 == i) && (!(q.1 == i + 1) && !(q.1 + 1 == i && q.2.category == 2))) = lv2) (h : mm_W l G K (pc + 2) lv2 st b m Q) : mm_W l G K pc lv (.long x :: st) b m Q := by
  intro p e s mid args below meth c mc ms n0 ad0 ad A H locs cells slots ls C hA hn0 had hR hS hls hlc hsc hb1 hb2
  subst hl
  exact lv_lstore C.1 C.2.1 hd hls hn (mm_f2 (ad := ad) i (.long x)) (fun ls hls => (h p e s mid args below meth c mc ms n0 ad0 ad A H locs cells slots ls C hA hn0 had hR hS hls (mm_fc hlc trivial) (mm_sd hsc) hb1 hb2))
theorem mm_astore {i : Nat} {x : Nat} (hd : decode K.2.1 pc = .ok (.astore i, 2)) (hn : i < K.2.2.1) (hl : (i, .ref x) :: lv.filter (fun q => !(q.1 == i) && !(q.1 + 1 == i && q.2.category == 2)) = lv2) (h : mm_W l G K (pc + 2) lv2 st b m Q) : mm_W l G K pc lv (.ref x :: st) b m Q := by
  intro p e s mid args below meth c mc ms n0 ad0 ad A H locs cells slots ls C hA hn0 had hR hS hls hlc hsc hb1 hb2
  subst hl
  exact lv_astore C.1 C.2.1 hd hls hn (mm_f1 (ad := ad) i (.ref x)) (fun ls hls => (h p e s mid args below meth c mc ms n0 ad0 ad A H locs cells slots ls C hA hn0 had hR hS hls (mm_fc hlc (mm_sh hsc)) (mm_sd hsc) hb1 hb2))
theorem mm_astoreN {i : Nat} (hd : decode K.2.1 pc = .ok (.astore i, 2)) (hn : i < K.2.2.1) (hl : (i, .null) :: lv.filter (fun q => !(q.1 == i) && !(q.1 + 1 == i && q.2.category == 2)) = lv2) (h : mm_W l G K (pc + 2) lv2 st b m Q) : mm_W l G K pc lv (.null :: st) b m Q := by
  intro p e s mid args below meth c mc ms n0 ad0 ad A H locs cells slots ls C hA hn0 had hR hS hls hlc hsc hb1 hb2
  subst hl
  exact lv_astoreN C.1 C.2.1 hd hls hn (mm_f1 (ad := ad) i (.null)) (fun ls hls => (h p e s mid args below meth c mc ms n0 ad0 ad A H locs cells slots ls C hA hn0 had hR hS hls (mm_fc hlc trivial) (mm_sd hsc) hb1 hb2))
theorem mm_iinc (j : Nat) {i : Nat} {n : Int} {x v : Int32} (hd : decode K.2.1 pc = .ok (.iinc i n, 3)) (hj : lv[j]? = some (i, .int x)) (hv : x + Int32.ofInt n = v) (hn : i < K.2.2.1) (hl : (i, .int v) :: lv.filter (fun q => !(q.1 == i) && !(q.1 + 1 == i && q.2.category == 2)) = lv2) (h : mm_W l G K (pc + 3) lv2 st b m Q) : mm_W l G K pc lv st b m Q := by
  intro p e s mid args below meth c mc ms n0 ad0 ad A H locs cells slots ls C hA hn0 had hR hS hls hlc hsc hb1 hb2
  subst hl
  exact lv_iinc (k := j) C.1 C.2.1 hd hls (by rw [List.getElem?_map, hj]; rfl) hv hn (mm_f1 (ad := ad) i (.int v)) (fun ls hls => (h p e s mid args below meth c mc ms n0 ad0 ad A H locs cells slots ls C hA hn0 had hR hS hls (mm_fc hlc trivial) hsc hb1 hb2))
end MMS
section MMA
variable {l : Launch} {G : mm_G} {K : mm_M} {pc : Nat} {lv lv2 : List (Nat × Value)} {st : List Value} {b : Nat} {m : mm_Mem} {Q : mm_O → mm_Mem → Prop}
theorem mm_iadd {x y : Int32} (hd : decode K.2.1 pc = .ok (.iadd, 1)) (h : mm_W l G K (pc + 1) lv (.int (x + y) :: st) b m Q) : mm_W l G K pc lv (.int y :: .int x :: st) b m Q := by
  intro p e s mid args below meth c mc ms n0 ad0 ad A H locs cells slots ls C hA hn had hR hS hls hlc hsc hb1 hb2
  exact lv_iadd C.1 C.2.1 hd (h p e s mid args below meth c mc ms n0 ad0 ad A H locs cells slots ls C hA hn had hR hS hls hlc (mm_sc trivial (mm_sd (mm_sd hsc))) hb1 hb2)
theorem mm_isub {x y : Int32} (hd : decode K.2.1 pc = .ok (.isub, 1)) (h : mm_W l G K (pc + 1) lv (.int (x - y) :: st) b m Q) : mm_W l G K pc lv (.int y :: .int x :: st) b m Q := by
  intro p e s mid args below meth c mc ms n0 ad0 ad A H locs cells slots ls C hA hn had hR hS hls hlc hsc hb1 hb2
  exact lv_isub C.1 C.2.1 hd (h p e s mid args below meth c mc ms n0 ad0 ad A H locs cells slots ls C hA hn had hR hS hls hlc (mm_sc trivial (mm_sd (mm_sd hsc))) hb1 hb2)
theorem mm_imul {x y : Int32} (hd : decode K.2.1 pc = .ok (.imul, 1)) (h : mm_W l G K (pc + 1) lv (.int (x * y) :: st) b m Q) : mm_W l G K pc lv (.int y :: .int x :: st) b m Q := by
  intro p e s mid args below meth c mc ms n0 ad0 ad A H locs cells slots ls C hA hn had hR hS hls hlc hsc hb1 hb2
  exact lv_imul C.1 C.2.1 hd (h p e s mid args below meth c mc ms n0 ad0 ad A H locs cells slots ls C hA hn had hR hS hls hlc (mm_sc trivial (mm_sd (mm_sd hsc))) hb1 hb2)
theorem mm_iand {x y : Int32} (hd : decode K.2.1 pc = .ok (.iand, 1)) (h : mm_W l G K (pc + 1) lv (.int (x &&& y) :: st) b m Q) : mm_W l G K pc lv (.int y :: .int x :: st) b m Q := by
  intro p e s mid args below meth c mc ms n0 ad0 ad A H locs cells slots ls C hA hn had hR hS hls hlc hsc hb1 hb2
  exact lv_iand C.1 C.2.1 hd (h p e s mid args below meth c mc ms n0 ad0 ad A H locs cells slots ls C hA hn had hR hS hls hlc (mm_sc trivial (mm_sd (mm_sd hsc))) hb1 hb2)
theorem mm_ior {x y : Int32} (hd : decode K.2.1 pc = .ok (.ior, 1)) (h : mm_W l G K (pc + 1) lv (.int (x ||| y) :: st) b m Q) : mm_W l G K pc lv (.int y :: .int x :: st) b m Q := by
  intro p e s mid args below meth c mc ms n0 ad0 ad A H locs cells slots ls C hA hn had hR hS hls hlc hsc hb1 hb2
  exact lv_ior C.1 C.2.1 hd (h p e s mid args below meth c mc ms n0 ad0 ad A H locs cells slots ls C hA hn had hR hS hls hlc (mm_sc trivial (mm_sd (mm_sd hsc))) hb1 hb2)
theorem mm_ixor {x y : Int32} (hd : decode K.2.1 pc = .ok (.ixor, 1)) (h : mm_W l G K (pc + 1) lv (.int (x ^^^ y) :: st) b m Q) : mm_W l G K pc lv (.int y :: .int x :: st) b m Q := by
  intro p e s mid args below meth c mc ms n0 ad0 ad A H locs cells slots ls C hA hn had hR hS hls hlc hsc hb1 hb2
  exact lv_ixor C.1 C.2.1 hd (h p e s mid args below meth c mc ms n0 ad0 ad A H locs cells slots ls C hA hn had hR hS hls hlc (mm_sc trivial (mm_sd (mm_sd hsc))) hb1 hb2)
theorem mm_ishl {x y : Int32} (hd : decode K.2.1 pc = .ok (.ishl, 1)) (h : mm_W l G K (pc + 1) lv (.int (x <<< (y &&& 31)) :: st) b m Q) : mm_W l G K pc lv (.int y :: .int x :: st) b m Q := by
  intro p e s mid args below meth c mc ms n0 ad0 ad A H locs cells slots ls C hA hn had hR hS hls hlc hsc hb1 hb2
  exact lv_ishl C.1 C.2.1 hd (h p e s mid args below meth c mc ms n0 ad0 ad A H locs cells slots ls C hA hn had hR hS hls hlc (mm_sc trivial (mm_sd (mm_sd hsc))) hb1 hb2)
theorem mm_ishr {x y : Int32} (hd : decode K.2.1 pc = .ok (.ishr, 1)) (h : mm_W l G K (pc + 1) lv (.int (x >>> (y &&& 31)) :: st) b m Q) : mm_W l G K pc lv (.int y :: .int x :: st) b m Q := by
  intro p e s mid args below meth c mc ms n0 ad0 ad A H locs cells slots ls C hA hn had hR hS hls hlc hsc hb1 hb2
  exact lv_ishr C.1 C.2.1 hd (h p e s mid args below meth c mc ms n0 ad0 ad A H locs cells slots ls C hA hn had hR hS hls hlc (mm_sc trivial (mm_sd (mm_sd hsc))) hb1 hb2)
theorem mm_iushr {x y : Int32} (hd : decode K.2.1 pc = .ok (.iushr, 1)) (h : mm_W l G K (pc + 1) lv (.int (x.toUInt32 >>> (y.toUInt32 &&& Int32.toUInt32 31)).toInt32 :: st) b m Q) : mm_W l G K pc lv (.int y :: .int x :: st) b m Q := by
  intro p e s mid args below meth c mc ms n0 ad0 ad A H locs cells slots ls C hA hn had hR hS hls hlc hsc hb1 hb2
  exact lv_iushr C.1 C.2.1 hd rfl (h p e s mid args below meth c mc ms n0 ad0 ad A H locs cells slots ls C hA hn had hR hS hls hlc (mm_sc trivial (mm_sd (mm_sd hsc))) hb1 hb2)
theorem mm_irem {x y : Int32} (hd : decode K.2.1 pc = .ok (.irem, 1)) (hy : ¬ y = 0) (h : mm_W l G K (pc + 1) lv (.int (x - x / y * y) :: st) b m Q) : mm_W l G K pc lv (.int y :: .int x :: st) b m Q := by
  intro p e s mid args below meth c mc ms n0 ad0 ad A H locs cells slots ls C hA hn had hR hS hls hlc hsc hb1 hb2
  exact lv_irem C.1 C.2.1 hd hy (h p e s mid args below meth c mc ms n0 ad0 ad A H locs cells slots ls C hA hn had hR hS hls hlc (mm_sc trivial (mm_sd (mm_sd hsc))) hb1 hb2)
theorem mm_ladd {x y : Int64} (hd : decode K.2.1 pc = .ok (.ladd, 1)) (h : mm_W l G K (pc + 1) lv (.long (x + y) :: st) b m Q) : mm_W l G K pc lv (.long y :: .long x :: st) b m Q := by
  intro p e s mid args below meth c mc ms n0 ad0 ad A H locs cells slots ls C hA hn had hR hS hls hlc hsc hb1 hb2
  exact lv_ladd C.1 C.2.1 hd (h p e s mid args below meth c mc ms n0 ad0 ad A H locs cells slots ls C hA hn had hR hS hls hlc (mm_sc trivial (mm_sd (mm_sd hsc))) hb1 hb2)
theorem mm_lsub {x y : Int64} (hd : decode K.2.1 pc = .ok (.lsub, 1)) (h : mm_W l G K (pc + 1) lv (.long (x - y) :: st) b m Q) : mm_W l G K pc lv (.long y :: .long x :: st) b m Q := by
  intro p e s mid args below meth c mc ms n0 ad0 ad A H locs cells slots ls C hA hn had hR hS hls hlc hsc hb1 hb2
  exact lv_lsub C.1 C.2.1 hd (h p e s mid args below meth c mc ms n0 ad0 ad A H locs cells slots ls C hA hn had hR hS hls hlc (mm_sc trivial (mm_sd (mm_sd hsc))) hb1 hb2)
theorem mm_lmul {x y : Int64} (hd : decode K.2.1 pc = .ok (.lmul, 1)) (h : mm_W l G K (pc + 1) lv (.long (x * y) :: st) b m Q) : mm_W l G K pc lv (.long y :: .long x :: st) b m Q := by
  intro p e s mid args below meth c mc ms n0 ad0 ad A H locs cells slots ls C hA hn had hR hS hls hlc hsc hb1 hb2
  exact lv_lmul C.1 C.2.1 hd (h p e s mid args below meth c mc ms n0 ad0 ad A H locs cells slots ls C hA hn had hR hS hls hlc (mm_sc trivial (mm_sd (mm_sd hsc))) hb1 hb2)
theorem mm_land {x y : Int64} (hd : decode K.2.1 pc = .ok (.land, 1)) (h : mm_W l G K (pc + 1) lv (.long (x &&& y) :: st) b m Q) : mm_W l G K pc lv (.long y :: .long x :: st) b m Q := by
  intro p e s mid args below meth c mc ms n0 ad0 ad A H locs cells slots ls C hA hn had hR hS hls hlc hsc hb1 hb2
  exact lv_land C.1 C.2.1 hd (h p e s mid args below meth c mc ms n0 ad0 ad A H locs cells slots ls C hA hn had hR hS hls hlc (mm_sc trivial (mm_sd (mm_sd hsc))) hb1 hb2)
theorem mm_lor {x y : Int64} (hd : decode K.2.1 pc = .ok (.lor, 1)) (h : mm_W l G K (pc + 1) lv (.long (x ||| y) :: st) b m Q) : mm_W l G K pc lv (.long y :: .long x :: st) b m Q := by
  intro p e s mid args below meth c mc ms n0 ad0 ad A H locs cells slots ls C hA hn had hR hS hls hlc hsc hb1 hb2
  exact lv_lor C.1 C.2.1 hd (h p e s mid args below meth c mc ms n0 ad0 ad A H locs cells slots ls C hA hn had hR hS hls hlc (mm_sc trivial (mm_sd (mm_sd hsc))) hb1 hb2)
theorem mm_lxor {x y : Int64} (hd : decode K.2.1 pc = .ok (.lxor, 1)) (h : mm_W l G K (pc + 1) lv (.long (x ^^^ y) :: st) b m Q) : mm_W l G K pc lv (.long y :: .long x :: st) b m Q := by
  intro p e s mid args below meth c mc ms n0 ad0 ad A H locs cells slots ls C hA hn had hR hS hls hlc hsc hb1 hb2
  exact lv_lxor C.1 C.2.1 hd (h p e s mid args below meth c mc ms n0 ad0 ad A H locs cells slots ls C hA hn had hR hS hls hlc (mm_sc trivial (mm_sd (mm_sd hsc))) hb1 hb2)
theorem mm_lcmp {x y : Int64} (hd : decode K.2.1 pc = .ok (.lcmp, 1)) (h : mm_W l G K (pc + 1) lv (.int (lg_cmp x y) :: st) b m Q) : mm_W l G K pc lv (.long y :: .long x :: st) b m Q := by
  intro p e s mid args below meth c mc ms n0 ad0 ad A H locs cells slots ls C hA hn had hR hS hls hlc hsc hb1 hb2
  exact W.lcmp C.1 C.2.1 hd (h p e s mid args below meth c mc ms n0 ad0 ad A H locs cells slots ls C hA hn had hR hS hls hlc (mm_sc trivial (mm_sd (mm_sd hsc))) hb1 hb2)
theorem mm_lshl {x : Int64} {y : Int32} (hd : decode K.2.1 pc = .ok (.lshl, 1)) (h : mm_W l G K (pc + 1) lv (.long (x <<< (y.toInt64 &&& 63)) :: st) b m Q) : mm_W l G K pc lv (.int y :: .long x :: st) b m Q := by
  intro p e s mid args below meth c mc ms n0 ad0 ad A H locs cells slots ls C hA hn had hR hS hls hlc hsc hb1 hb2
  exact lv_lshl C.1 C.2.1 hd rfl (h p e s mid args below meth c mc ms n0 ad0 ad A H locs cells slots ls C hA hn had hR hS hls hlc (mm_sc trivial (mm_sd (mm_sd hsc))) hb1 hb2)
theorem mm_i2l {x : Int32} (hd : decode K.2.1 pc = .ok (.i2l, 1)) (h : mm_W l G K (pc + 1) lv (.long x.toInt64 :: st) b m Q) : mm_W l G K pc lv (.int x :: st) b m Q := by
  intro p e s mid args below meth c mc ms n0 ad0 ad A H locs cells slots ls C hA hn had hR hS hls hlc hsc hb1 hb2
  exact lv_i2l C.1 C.2.1 hd rfl (h p e s mid args below meth c mc ms n0 ad0 ad A H locs cells slots ls C hA hn had hR hS hls hlc (mm_sc trivial (mm_sd hsc)) hb1 hb2)
theorem mm_l2i {x : Int64} (hd : decode K.2.1 pc = .ok (.l2i, 1)) (h : mm_W l G K (pc + 1) lv (.int x.toInt32 :: st) b m Q) : mm_W l G K pc lv (.long x :: st) b m Q := by
  intro p e s mid args below meth c mc ms n0 ad0 ad A H locs cells slots ls C hA hn had hR hS hls hlc hsc hb1 hb2
  exact lv_l2i C.1 C.2.1 hd rfl (h p e s mid args below meth c mc ms n0 ad0 ad A H locs cells slots ls C hA hn had hR hS hls hlc (mm_sc trivial (mm_sd hsc)) hb1 hb2)
theorem mm_i2b {x : Int32} (hd : decode K.2.1 pc = .ok (.i2b, 1)) (h : mm_W l G K (pc + 1) lv (.int x.toInt8.toInt32 :: st) b m Q) : mm_W l G K pc lv (.int x :: st) b m Q := by
  intro p e s mid args below meth c mc ms n0 ad0 ad A H locs cells slots ls C hA hn had hR hS hls hlc hsc hb1 hb2
  exact lv_i2b C.1 C.2.1 hd rfl (h p e s mid args below meth c mc ms n0 ad0 ad A H locs cells slots ls C hA hn had hR hS hls hlc (mm_sc trivial (mm_sd hsc)) hb1 hb2)
theorem mm_ineg {x : Int32} (hd : decode K.2.1 pc = .ok (.ineg, 1)) (h : mm_W l G K (pc + 1) lv (.int (-x) :: st) b m Q) : mm_W l G K pc lv (.int x :: st) b m Q := by
  intro p e s mid args below meth c mc ms n0 ad0 ad A H locs cells slots ls C hA hn had hR hS hls hlc hsc hb1 hb2
  exact lv_ineg C.1 C.2.1 hd (h p e s mid args below meth c mc ms n0 ad0 ad A H locs cells slots ls C hA hn had hR hS hls hlc (mm_sc trivial (mm_sd hsc)) hb1 hb2)
theorem mm_dup {v : Value} (hd : decode K.2.1 pc = .ok (.dup, 1)) (hv : v.category = 1) (h : mm_W l G K (pc + 1) lv (v :: v :: st) b m Q) : mm_W l G K pc lv (v :: st) b m Q := by
  intro p e s mid args below meth c mc ms n0 ad0 ad A H locs cells slots ls C hA hn had hR hS hls hlc hsc hb1 hb2
  exact lv_dup C.1 C.2.1 hd ((mm_v_cat ad v).trans hv) (h p e s mid args below meth c mc ms n0 ad0 ad A H locs cells slots ls C hA hn had hR hS hls hlc (mm_sc (mm_sh hsc) hsc) hb1 hb2)
theorem mm_pop {v : Value} (hd : decode K.2.1 pc = .ok (.pop, 1)) (hv : v.category = 1) (h : mm_W l G K (pc + 1) lv st b m Q) : mm_W l G K pc lv (v :: st) b m Q := by
  intro p e s mid args below meth c mc ms n0 ad0 ad A H locs cells slots ls C hA hn had hR hS hls hlc hsc hb1 hb2
  exact lv_pop C.1 C.2.1 hd ((mm_v_cat ad v).trans hv) (h p e s mid args below meth c mc ms n0 ad0 ad A H locs cells slots ls C hA hn had hR hS hls hlc (mm_sd hsc) hb1 hb2)
theorem mm_pop2 {v : Value} (hd : decode K.2.1 pc = .ok (.pop2, 1)) (hv : v.category = 2) (h : mm_W l G K (pc + 1) lv st b m Q) : mm_W l G K pc lv (v :: st) b m Q := by
  intro p e s mid args below meth c mc ms n0 ad0 ad A H locs cells slots ls C hA hn had hR hS hls hlc hsc hb1 hb2
  exact lv_pop2_2 C.1 C.2.1 hd ((mm_v_cat ad v).trans hv) (h p e s mid args below meth c mc ms n0 ad0 ad A H locs cells slots ls C hA hn had hR hS hls hlc (mm_sd hsc) hb1 hb2)
theorem mm_dup_x1 {v w : Value} (hd : decode K.2.1 pc = .ok (.dup_x1, 1)) (hv : v.category = 1) (hw : w.category = 1) (h : mm_W l G K (pc + 1) lv (v :: w :: v :: st) b m Q) : mm_W l G K pc lv (v :: w :: st) b m Q := by
  intro p e s mid args below meth c mc ms n0 ad0 ad A H locs cells slots ls C hA hn had hR hS hls hlc hsc hb1 hb2
  exact lv_dup_x1 C.1 C.2.1 hd ((mm_v_cat ad v).trans hv) ((mm_v_cat ad w).trans hw) (h p e s mid args below meth c mc ms n0 ad0 ad A H locs cells slots ls C hA hn had hR hS hls hlc (mm_sc (mm_sh hsc) (mm_sc (mm_sh (mm_sd hsc)) (mm_sc (mm_sh hsc) (mm_sd (mm_sd hsc))))) hb1 hb2)
theorem mm_dup_x2 {v w x : Value} (hd : decode K.2.1 pc = .ok (.dup_x2, 1)) (hv : v.category = 1) (hw : w.category = 1) (hx : x.category = 1) (h : mm_W l G K (pc + 1) lv (v :: w :: x :: v :: st) b m Q) : mm_W l G K pc lv (v :: w :: x :: st) b m Q := by
  intro p e s mid args below meth c mc ms n0 ad0 ad A H locs cells slots ls C hA hn had hR hS hls hlc hsc hb1 hb2
  exact lv_dup_x2 C.1 C.2.1 hd ((mm_v_cat ad v).trans hv) ((mm_v_cat ad w).trans hw) ((mm_v_cat ad x).trans hx) (h p e s mid args below meth c mc ms n0 ad0 ad A H locs cells slots ls C hA hn had hR hS hls hlc (mm_sc (mm_sh hsc) (mm_sc (mm_sh (mm_sd hsc)) (mm_sc (mm_sh (mm_sd (mm_sd hsc))) (mm_sc (mm_sh hsc) (mm_sd (mm_sd (mm_sd hsc))))))) hb1 hb2)
theorem mm_dup2 {v w : Value} (hd : decode K.2.1 pc = .ok (.dup2, 1)) (hv : v.category = 1) (hw : w.category = 1) (h : mm_W l G K (pc + 1) lv (v :: w :: v :: w :: st) b m Q) : mm_W l G K pc lv (v :: w :: st) b m Q := by
  intro p e s mid args below meth c mc ms n0 ad0 ad A H locs cells slots ls C hA hn had hR hS hls hlc hsc hb1 hb2
  exact lv_dup2_11 C.1 C.2.1 hd ((mm_v_cat ad v).trans hv) ((mm_v_cat ad w).trans hw) (h p e s mid args below meth c mc ms n0 ad0 ad A H locs cells slots ls C hA hn had hR hS hls hlc (mm_sc (mm_sh hsc) (mm_sc (mm_sh (mm_sd hsc)) hsc)) hb1 hb2)
theorem mm_dup2L {v : Value} (hd : decode K.2.1 pc = .ok (.dup2, 1)) (hv : v.category = 2) (h : mm_W l G K (pc + 1) lv (v :: v :: st) b m Q) : mm_W l G K pc lv (v :: st) b m Q := by
  intro p e s mid args below meth c mc ms n0 ad0 ad A H locs cells slots ls C hA hn had hR hS hls hlc hsc hb1 hb2
  exact lv_dup2_2 C.1 C.2.1 hd ((mm_v_cat ad v).trans hv) (h p e s mid args below meth c mc ms n0 ad0 ad A H locs cells slots ls C hA hn had hR hS hls hlc (mm_sc (mm_sh hsc) hsc) hb1 hb2)
theorem mm_dup2_x1L {v w : Value} (hd : decode K.2.1 pc = .ok (.dup2_x1, 1)) (hv : v.category = 2) (hw : w.category = 1) (h : mm_W l G K (pc + 1) lv (v :: w :: v :: st) b m Q) : mm_W l G K pc lv (v :: w :: st) b m Q := by
  intro p e s mid args below meth c mc ms n0 ad0 ad A H locs cells slots ls C hA hn had hR hS hls hlc hsc hb1 hb2
  exact lv_dup2_x1_2 C.1 C.2.1 hd ((mm_v_cat ad v).trans hv) ((mm_v_cat ad w).trans hw) (h p e s mid args below meth c mc ms n0 ad0 ad A H locs cells slots ls C hA hn had hR hS hls hlc (mm_sc (mm_sh hsc) (mm_sc (mm_sh (mm_sd hsc)) (mm_sc (mm_sh hsc) (mm_sd (mm_sd hsc))))) hb1 hb2)
theorem mm_goto {off : Int} {tgt : Nat} (hd : decode K.2.1 pc = .ok (.goto off, 3)) (ht : (pc : Int) + off = (tgt : Int)) (h : mm_W l G K tgt lv st b m Q) : mm_W l G K pc lv st b m Q := by
  intro p e s mid args below meth c mc ms n0 ad0 ad A H locs cells slots ls C hA hn had hR hS hls hlc hsc hb1 hb2
  exact lv_goto C.1 C.2.1 hd ht (h p e s mid args below meth c mc ms n0 ad0 ad A H locs cells slots ls C hA hn had hR hS hls hlc hsc hb1 hb2)
theorem mm_if_eq {x : Int32} {off : Int} {tgt : Nat} (hd : decode K.2.1 pc = .ok (.ifCond .eq off, 3)) (ht : (pc : Int) + off = (tgt : Int)) (k1 : x = 0 → mm_W l G K tgt lv st b m Q) (k2 : ¬ x = 0 → mm_W l G K (pc + 3) lv st b m Q) : mm_W l G K pc lv (.int x :: st) b m Q := by
  intro p e s mid args below meth c mc ms n0 ad0 ad A H locs cells slots ls C hA hn had hR hS hls hlc hsc hb1 hb2
  exact lv_if_eq C.1 C.2.1 hd ht (fun z => (k1 z p e s mid args below meth c mc ms n0 ad0 ad A H locs cells slots ls C hA hn had hR hS hls hlc (mm_sd hsc) hb1 hb2)) (fun z => (k2 z p e s mid args below meth c mc ms n0 ad0 ad A H locs cells slots ls C hA hn had hR hS hls hlc (mm_sd hsc) hb1 hb2))
theorem mm_icmp_eq {x y : Int32} {off : Int} {tgt : Nat} (hd : decode K.2.1 pc = .ok (.if_icmp .eq off, 3)) (ht : (pc : Int) + off = (tgt : Int)) (k1 : x = y → mm_W l G K tgt lv st b m Q) (k2 : ¬ x = y → mm_W l G K (pc + 3) lv st b m Q) : mm_W l G K pc lv (.int y :: .int x :: st) b m Q := by
  intro p e s mid args below meth c mc ms n0 ad0 ad A H locs cells slots ls C hA hn had hR hS hls hlc hsc hb1 hb2
  exact lv_icmp_eq C.1 C.2.1 hd ht (fun z => (k1 z p e s mid args below meth c mc ms n0 ad0 ad A H locs cells slots ls C hA hn had hR hS hls hlc (mm_sd (mm_sd hsc)) hb1 hb2)) (fun z => (k2 z p e s mid args below meth c mc ms n0 ad0 ad A H locs cells slots ls C hA hn had hR hS hls hlc (mm_sd (mm_sd hsc)) hb1 hb2))
theorem mm_if_ne {x : Int32} {off : Int} {tgt : Nat} (hd : decode K.2.1 pc = .ok (.ifCond .ne off, 3)) (ht : (pc : Int) + off = (tgt : Int)) (k1 : ¬ x = 0 → mm_W l G K tgt lv st b m Q) (k2 : x = 0 → mm_W l G K (pc + 3) lv st b m Q) : mm_W l G K pc lv (.int x :: st) b m Q := by
  intro p e s mid args below meth c mc ms n0 ad0 ad A H locs cells slots ls C hA hn had hR hS hls hlc hsc hb1 hb2
  exact lv_if_ne C.1 C.2.1 hd ht (fun z => (k1 z p e s mid args below meth c mc ms n0 ad0 ad A H locs cells slots ls C hA hn had hR hS hls hlc (mm_sd hsc) hb1 hb2)) (fun z => (k2 z p e s mid args below meth c mc ms n0 ad0 ad A H locs cells slots ls C hA hn had hR hS hls hlc (mm_sd hsc) hb1 hb2))
theorem mm_icmp_ne {x y : Int32} {off : Int} {tgt : Nat} (hd : decode K.2.1 pc = .ok (.if_icmp .ne off, 3)) (ht : (pc : Int) + off = (tgt : Int)) (k1 : ¬ x = y → mm_W l G K tgt lv st b m Q) (k2 : x = y → mm_W l G K (pc + 3) lv st b m Q) : mm_W l G K pc lv (.int y :: .int x :: st) b m Q := by
  intro p e s mid args below meth c mc ms n0 ad0 ad A H locs cells slots ls C hA hn had hR hS hls hlc hsc hb1 hb2
  exact lv_icmp_ne C.1 C.2.1 hd ht (fun z => (k1 z p e s mid args below meth c mc ms n0 ad0 ad A H locs cells slots ls C hA hn had hR hS hls hlc (mm_sd (mm_sd hsc)) hb1 hb2)) (fun z => (k2 z p e s mid args below meth c mc ms n0 ad0 ad A H locs cells slots ls C hA hn had hR hS hls hlc (mm_sd (mm_sd hsc)) hb1 hb2))
theorem mm_if_lt {x : Int32} {off : Int} {tgt : Nat} (hd : decode K.2.1 pc = .ok (.ifCond .lt off, 3)) (ht : (pc : Int) + off = (tgt : Int)) (k1 : x < 0 → mm_W l G K tgt lv st b m Q) (k2 : ¬ x < 0 → mm_W l G K (pc + 3) lv st b m Q) : mm_W l G K pc lv (.int x :: st) b m Q := by
  intro p e s mid args below meth c mc ms n0 ad0 ad A H locs cells slots ls C hA hn had hR hS hls hlc hsc hb1 hb2
  exact lv_if_lt C.1 C.2.1 hd ht (fun z => (k1 z p e s mid args below meth c mc ms n0 ad0 ad A H locs cells slots ls C hA hn had hR hS hls hlc (mm_sd hsc) hb1 hb2)) (fun z => (k2 z p e s mid args below meth c mc ms n0 ad0 ad A H locs cells slots ls C hA hn had hR hS hls hlc (mm_sd hsc) hb1 hb2))
theorem mm_icmp_lt {x y : Int32} {off : Int} {tgt : Nat} (hd : decode K.2.1 pc = .ok (.if_icmp .lt off, 3)) (ht : (pc : Int) + off = (tgt : Int)) (k1 : x < y → mm_W l G K tgt lv st b m Q) (k2 : ¬ x < y → mm_W l G K (pc + 3) lv st b m Q) : mm_W l G K pc lv (.int y :: .int x :: st) b m Q := by
  intro p e s mid args below meth c mc ms n0 ad0 ad A H locs cells slots ls C hA hn had hR hS hls hlc hsc hb1 hb2
  exact lv_icmp_lt C.1 C.2.1 hd ht (fun z => (k1 z p e s mid args below meth c mc ms n0 ad0 ad A H locs cells slots ls C hA hn had hR hS hls hlc (mm_sd (mm_sd hsc)) hb1 hb2)) (fun z => (k2 z p e s mid args below meth c mc ms n0 ad0 ad A H locs cells slots ls C hA hn had hR hS hls hlc (mm_sd (mm_sd hsc)) hb1 hb2))
theorem mm_if_ge {x : Int32} {off : Int} {tgt : Nat} (hd : decode K.2.1 pc = .ok (.ifCond .ge off, 3)) (ht : (pc : Int) + off = (tgt : Int)) (k1 : 0 ≤ x → mm_W l G K tgt lv st b m Q) (k2 : ¬ 0 ≤ x → mm_W l G K (pc + 3) lv st b m Q) : mm_W l G K pc lv (.int x :: st) b m Q := by
  intro p e s mid args below meth c mc ms n0 ad0 ad A H locs cells slots ls C hA hn had hR hS hls hlc hsc hb1 hb2
  exact lv_if_ge C.1 C.2.1 hd ht (fun z => (k1 z p e s mid args below meth c mc ms n0 ad0 ad A H locs cells slots ls C hA hn had hR hS hls hlc (mm_sd hsc) hb1 hb2)) (fun z => (k2 z p e s mid args below meth c mc ms n0 ad0 ad A H locs cells slots ls C hA hn had hR hS hls hlc (mm_sd hsc) hb1 hb2))
theorem mm_icmp_ge {x y : Int32} {off : Int} {tgt : Nat} (hd : decode K.2.1 pc = .ok (.if_icmp .ge off, 3)) (ht : (pc : Int) + off = (tgt : Int)) (k1 : y ≤ x → mm_W l G K tgt lv st b m Q) (k2 : ¬ y ≤ x → mm_W l G K (pc + 3) lv st b m Q) : mm_W l G K pc lv (.int y :: .int x :: st) b m Q := by
  intro p e s mid args below meth c mc ms n0 ad0 ad A H locs cells slots ls C hA hn had hR hS hls hlc hsc hb1 hb2
  exact lv_icmp_ge C.1 C.2.1 hd ht (fun z => (k1 z p e s mid args below meth c mc ms n0 ad0 ad A H locs cells slots ls C hA hn had hR hS hls hlc (mm_sd (mm_sd hsc)) hb1 hb2)) (fun z => (k2 z p e s mid args below meth c mc ms n0 ad0 ad A H locs cells slots ls C hA hn had hR hS hls hlc (mm_sd (mm_sd hsc)) hb1 hb2))
theorem mm_if_gt {x : Int32} {off : Int} {tgt : Nat} (hd : decode K.2.1 pc = .ok (.ifCond .gt off, 3)) (ht : (pc : Int) + off = (tgt : Int)) (k1 : 0 < x → mm_W l G K tgt lv st b m Q) (k2 : ¬ 0 < x → mm_W l G K (pc + 3) lv st b m Q) : mm_W l G K pc lv (.int x :: st) b m Q := by
  intro p e s mid args below meth c mc ms n0 ad0 ad A H locs cells slots ls C hA hn had hR hS hls hlc hsc hb1 hb2
  exact lv_if_gt C.1 C.2.1 hd ht (fun z => (k1 z p e s mid args below meth c mc ms n0 ad0 ad A H locs cells slots ls C hA hn had hR hS hls hlc (mm_sd hsc) hb1 hb2)) (fun z => (k2 z p e s mid args below meth c mc ms n0 ad0 ad A H locs cells slots ls C hA hn had hR hS hls hlc (mm_sd hsc) hb1 hb2))
theorem mm_icmp_gt {x y : Int32} {off : Int} {tgt : Nat} (hd : decode K.2.1 pc = .ok (.if_icmp .gt off, 3)) (ht : (pc : Int) + off = (tgt : Int)) (k1 : y < x → mm_W l G K tgt lv st b m Q) (k2 : ¬ y < x → mm_W l G K (pc + 3) lv st b m Q) : mm_W l G K pc lv (.int y :: .int x :: st) b m Q := by
  intro p e s mid args below meth c mc ms n0 ad0 ad A H locs cells slots ls C hA hn had hR hS hls hlc hsc hb1 hb2
  exact lv_icmp_gt C.1 C.2.1 hd ht (fun z => (k1 z p e s mid args below meth c mc ms n0 ad0 ad A H locs cells slots ls C hA hn had hR hS hls hlc (mm_sd (mm_sd hsc)) hb1 hb2)) (fun z => (k2 z p e s mid args below meth c mc ms n0 ad0 ad A H locs cells slots ls C hA hn had hR hS hls hlc (mm_sd (mm_sd hsc)) hb1 hb2))
theorem mm_if_le {x : Int32} {off : Int} {tgt : Nat} (hd : decode K.2.1 pc = .ok (.ifCond .le off, 3)) (ht : (pc : Int) + off = (tgt : Int)) (k1 : x ≤ 0 → mm_W l G K tgt lv st b m Q) (k2 : ¬ x ≤ 0 → mm_W l G K (pc + 3) lv st b m Q) : mm_W l G K pc lv (.int x :: st) b m Q := by
  intro p e s mid args below meth c mc ms n0 ad0 ad A H locs cells slots ls C hA hn had hR hS hls hlc hsc hb1 hb2
  exact lv_if_le C.1 C.2.1 hd ht (fun z => (k1 z p e s mid args below meth c mc ms n0 ad0 ad A H locs cells slots ls C hA hn had hR hS hls hlc (mm_sd hsc) hb1 hb2)) (fun z => (k2 z p e s mid args below meth c mc ms n0 ad0 ad A H locs cells slots ls C hA hn had hR hS hls hlc (mm_sd hsc) hb1 hb2))
theorem mm_icmp_le {x y : Int32} {off : Int} {tgt : Nat} (hd : decode K.2.1 pc = .ok (.if_icmp .le off, 3)) (ht : (pc : Int) + off = (tgt : Int)) (k1 : x ≤ y → mm_W l G K tgt lv st b m Q) (k2 : ¬ x ≤ y → mm_W l G K (pc + 3) lv st b m Q) : mm_W l G K pc lv (.int y :: .int x :: st) b m Q := by
  intro p e s mid args below meth c mc ms n0 ad0 ad A H locs cells slots ls C hA hn had hR hS hls hlc hsc hb1 hb2
  exact lv_icmp_le C.1 C.2.1 hd ht (fun z => (k1 z p e s mid args below meth c mc ms n0 ad0 ad A H locs cells slots ls C hA hn had hR hS hls hlc (mm_sd (mm_sd hsc)) hb1 hb2)) (fun z => (k2 z p e s mid args below meth c mc ms n0 ad0 ad A H locs cells slots ls C hA hn had hR hS hls hlc (mm_sd (mm_sd hsc)) hb1 hb2))
theorem mm_ifnonnull {r : Nat} {off : Int} {tgt : Nat} (hd : decode K.2.1 pc = .ok (.ifnonnull off, 3)) (ht : (pc : Int) + off = (tgt : Int)) (h : mm_W l G K tgt lv st b m Q) : mm_W l G K pc lv (.ref r :: st) b m Q := by
  intro p e s mid args below meth c mc ms n0 ad0 ad A H locs cells slots ls C hA hn had hR hS hls hlc hsc hb1 hb2
  exact lv_ifnonnull C.1 C.2.1 hd ht (h p e s mid args below meth c mc ms n0 ad0 ad A H locs cells slots ls C hA hn had hR hS hls hlc (mm_sd hsc) hb1 hb2)
theorem mm_ifnull {r : Nat} {off : Int} (hd : decode K.2.1 pc = .ok (.ifnull off, 3)) (h : mm_W l G K (pc + 3) lv st b m Q) : mm_W l G K pc lv (.ref r :: st) b m Q := by
  intro p e s mid args below meth c mc ms n0 ad0 ad A H locs cells slots ls C hA hn had hR hS hls hlc hsc hb1 hb2
  exact lv_ifnull C.1 C.2.1 hd (h p e s mid args below meth c mc ms n0 ad0 ad A H locs cells slots ls C hA hn had hR hS hls hlc (mm_sd hsc) hb1 hb2)
theorem mm_ifnonnullN {off : Int} (hd : decode K.2.1 pc = .ok (.ifnonnull off, 3)) (h : mm_W l G K (pc + 3) lv st b m Q) : mm_W l G K pc lv (.null :: st) b m Q := by
  intro p e s mid args below meth c mc ms n0 ad0 ad A H locs cells slots ls C hA hn had hR hS hls hlc hsc hb1 hb2
  exact lv_ifnonnullN C.1 C.2.1 hd (h p e s mid args below meth c mc ms n0 ad0 ad A H locs cells slots ls C hA hn had hR hS hls hlc (mm_sd hsc) hb1 hb2)
theorem mm_ifnullN {off : Int} {tgt : Nat} (hd : decode K.2.1 pc = .ok (.ifnull off, 3)) (ht : (pc : Int) + off = (tgt : Int)) (h : mm_W l G K tgt lv st b m Q) : mm_W l G K pc lv (.null :: st) b m Q := by
  intro p e s mid args below meth c mc ms n0 ad0 ad A H locs cells slots ls C hA hn had hR hS hls hlc hsc hb1 hb2
  exact lv_ifnullN C.1 C.2.1 hd ht (h p e s mid args below meth c mc ms n0 ad0 ad A H locs cells slots ls C hA hn had hR hS hls hlc (mm_sd hsc) hb1 hb2)
theorem mm_tableOut {dflt lo hi : Int} {offs : Array Int} {len : Nat} {x : Int32} {tgt : Nat} (hd : decode K.2.1 pc = .ok (.tableswitch dflt lo hi offs, len)) (hx : x.toInt < lo ∨ hi < x.toInt) (ht : (pc : Int) + dflt = (tgt : Int)) (h : mm_W l G K tgt lv st b m Q) : mm_W l G K pc lv (.int x :: st) b m Q := by
  intro p e s mid args below meth c mc ms n0 ad0 ad A H locs cells slots ls C hA hn had hR hS hls hlc hsc hb1 hb2
  exact lv_tableOut C.1 C.2.1 hd hx ht (h p e s mid args below meth c mc ms n0 ad0 ad A H locs cells slots ls C hA hn had hR hS hls hlc (mm_sd hsc) hb1 hb2)
theorem mm_tableIn {dflt lo hi : Int} {offs : Array Int} {len : Nat} {x : Int32} {off : Int} {tgt : Nat} (hd : decode K.2.1 pc = .ok (.tableswitch dflt lo hi offs, len)) (h1 : ¬ x.toInt < lo) (h2 : ¬ hi < x.toInt) (ho : offs[(x.toInt - lo).toNat]? = some off) (ht : (pc : Int) + off = (tgt : Int)) (h : mm_W l G K tgt lv st b m Q) : mm_W l G K pc lv (.int x :: st) b m Q := by
  intro p e s mid args below meth c mc ms n0 ad0 ad A H locs cells slots ls C hA hn had hR hS hls hlc hsc hb1 hb2
  exact lv_tableIn C.1 C.2.1 hd h1 h2 ho ht (h p e s mid args below meth c mc ms n0 ad0 ad A H locs cells slots ls C hA hn had hR hS hls hlc (mm_sd hsc) hb1 hb2)
theorem mm_sub (ks : List Nat) (hl : lv_pick lv ks = lv2) (h : mm_W l G K pc lv2 st b m Q) : mm_W l G K pc lv st b m Q := by
  intro p e s mid args below meth c mc ms n0 ad0 ad A H locs cells slots ls C hA hn had hR hS hls hlc hsc hb1 hb2
  subst hl
  have e8 : (lv_pick lv ks).map (mm_q ad) = lv_pick (lv.map (mm_q ad)) ks := by
    unfold lv_pick
    rw [List.map_filterMap]
    congr 1
    funext k
    rw [List.getElem?_map]
  refine h p e s mid args below meth c mc ms n0 ad0 ad A H locs cells slots ls C hA hn had hR hS (by rw [e8]; exact lv_sub hls ks rfl) (fun q hq => ?_) hsc hb1 hb2
  obtain ⟨k, -, hk⟩ := List.mem_filterMap.mp hq
  exact hlc q (List.mem_of_getElem? hk)
theorem mm_less {b2 : Nat} (hb : b2 ≤ b) (h : mm_W l G K pc lv st b2 m Q) : mm_W l G K pc lv st b m Q := by
  intro p e s mid args below meth c mc ms n0 ad0 ad A H locs cells slots ls C hA hn had hR hS hls hlc hsc hb1 hb2
  exact h p e s mid args below meth c mc ms n0 ad0 ad A H locs cells slots ls C hA hn had hR hS hls hlc hsc (by omega) (by omega)
theorem mm_post {Q2 : mm_O → mm_Mem → Prop} (hq : ∀ u m, Q2 u m → Q u m) (h : mm_W l G K pc lv st b m Q2) : mm_W l G K pc lv st b m Q := by
  intro p e s mid args below meth c mc ms n0 ad0 ad A H locs cells slots ls C hA hn had hR hS hls hlc hsc hb1 hb2
  refine mm_mono (fun t ht => ?_) (h p e s mid args below meth c mc ms n0 ad0 ad A H locs cells slots ls C hA hn had hR hS hls hlc hsc hb1 hb2)
  obtain ⟨o, h1, h2, ⟨u, m2, ad2, g1, g2⟩, h3⟩ := ht
  exact ⟨o, h1, h2, ⟨u, m2, ad2, hq u m2 g1, g2⟩, h3⟩
theorem mm_iret {x : Int32} (hd : decode K.2.1 pc = .ok (.ireturn, 1)) (hr : K.2.2.2.1 = some .int) (hq : Q (.inl (some (.int x))) m) : mm_W l G K pc lv (.int x :: []) b m Q := by
  intro p e s mid args below meth c mc ms n0 ad0 ad A H locs cells slots ls C hA hn had hR hS hls hlc hsc hb1 hb2
  exact mm_mono mm_ofMQ (W.widen (k := mc) (n := ms) (by omega) (by omega) (W.iret C.1 C.2.1 (C.2.2.2.1.trans hr) (fun t ht hW => ⟨_, m, ad, hq, by rw [ht]; exact hR, hn, had, hS.F ht, rfl, fun w hw => by cases hw; trivial⟩) hS.2.2 hd C.2.2.2.2.1))
theorem mm_zret {x : Int32} {ty : FieldType} (hd : decode K.2.1 pc = .ok (.ireturn, 1)) (hr : K.2.2.2.1 = some ty) (hx : narrow ty (.int x) = .int x) (hq : Q (.inl (some (.int x))) m) : mm_W l G K pc lv (.int x :: []) b m Q := by
  intro p e s mid args below meth c mc ms n0 ad0 ad A H locs cells slots ls C hA hn had hR hS hls hlc hsc hb1 hb2
  exact mm_mono mm_ofMQ (W.widen (k := mc) (n := ms) (by omega) (by omega) (W.zret C.1 C.2.1 (C.2.2.2.1.trans hr) hx (fun t ht hW => ⟨_, m, ad, hq, by rw [ht]; exact hR, hn, had, hS.F ht, rfl, fun w hw => by cases hw; trivial⟩) hS.2.2 hd C.2.2.2.2.1))
theorem mm_lret {x : Int64} (hd : decode K.2.1 pc = .ok (.lreturn, 1)) (hr : K.2.2.2.1 = some .long) (hq : Q (.inl (some (.long x))) m) : mm_W l G K pc lv (.long x :: []) b m Q := by
  intro p e s mid args below meth c mc ms n0 ad0 ad A H locs cells slots ls C hA hn had hR hS hls hlc hsc hb1 hb2
  exact mm_mono mm_ofMQ (W.widen (k := mc) (n := ms) (by omega) (by omega) (W.lret C.1 C.2.1 (C.2.2.2.1.trans hr) (fun t ht hW => ⟨_, m, ad, hq, by rw [ht]; exact hR, hn, had, hS.F ht, rfl, fun w hw => by cases hw; trivial⟩) hS.2.2 hd C.2.2.2.2.1))
theorem mm_vret (hd : decode K.2.1 pc = .ok (.return_, 1)) (hr : K.2.2.2.1 = none) (hq : Q (.inl none) m) : mm_W l G K pc lv [] b m Q := by
  intro p e s mid args below meth c mc ms n0 ad0 ad A H locs cells slots ls C hA hn had hR hS hls hlc hsc hb1 hb2
  exact mm_mono mm_ofMQ (W.widen (k := mc) (n := ms) (by omega) (by omega) (W.vret C.1 C.2.1 (C.2.2.2.1.trans hr) (fun t ht hW => ⟨_, m, ad, hq, by rw [ht]; exact hR, hn, had, hS.F ht, rfl, fun w hw => by cases hw⟩) hS.2.2 hd C.2.2.2.2.1))
theorem mm_aret {v : Value} {C0 : String} (hd : decode K.2.1 pc = .ok (.areturn, 1)) (hr : K.2.2.2.1 = some (.object C0)) (hv : v = .null ∨ ∃ r, v = .ref r) (hq : Q (.inl (some v)) m) : mm_W l G K pc lv (v :: []) b m Q := by
  intro p e s mid args below meth c mc ms n0 ad0 ad A H locs cells slots ls C hA hn had hR hS hls hlc hsc hb1 hb2
  have hv2 : mm_v ad v = .null ∨ ∃ a, mm_v ad v = .ref a := by
    rcases hv with rfl | ⟨r, rfl⟩
    · exact Or.inl rfl
    · exact Or.inr ⟨_, rfl⟩
  exact mm_mono mm_ofMQ (W.widen (k := mc) (n := ms) (by omega) (by omega) (W.aret (v := mm_v ad v) C.1 C.2.1 (C.2.2.2.1.trans hr) (Or.inl ⟨_, rfl⟩) hv2 (fun t ht hW => ⟨_, m, ad, hq, by rw [ht]; exact hR, hn, had, hS.F ht, rfl, fun w hw => by cases hw; exact mm_sh hsc⟩) hS.2.2 hd C.2.2.2.2.1))
end MMA
end
section
/-- a class of the world: its row of the table, its words, the types of its fields, their names apart -/
def mm_cls (ci : Nat) (Cn : String) (T : u_T) (N : Nat) (ty : Nat → FieldType) : Prop := mm_cl[ci]? = some (Cn, T, N) ∧ (∀ w ∈ u_ws Cn T N, w ∈ mm_T) ∧ (∀ k, k < N → parseFieldDescriptor (T k).2.2.1 = some (ty k)) ∧ ∀ a, a < N → ∀ b, b < N → a ≠ b → (T a).2.1 ≠ (T b).2.1
theorem mm_ni {ci : Nat} {fs : List Value} {q : vw_C} (hc : mm_cl[ci]? = some q) : (Sum.inr (ci, fs) : va_E) ≠ mm_j := fun h => by
  have h1 : ci = 1000 := congrArg Prod.fst (Sum.inr.inj h)
  subst h1
  have h2 : ¬ (1000 < mm_cl.length) := by decide
  exact h2 (List.getElem?_eq_some_iff.mp hc).1
theorem mm_nl {x : ClassId × vp_A} : (Sum.inl x : va_E) ≠ mm_j := fun h => by unfold mm_j at h; cases h
theorem mm_cf {D : va_G} {A : Nat → Prop} {ad : Nat → Nat} {m : mm_Mem} {H : Heap} (hR : mm_R D A ad m H) {r : Nat} (h0 : r ≠ 0) {ci : Nat} {fs : List Value} (hm : m r = .inr (ci, fs)) : ∀ v ∈ fs, mm_cv (mm_n m) v := by
  have h := hR.2.2.2 r (Nat.pos_of_ne_zero h0)
  rw [hm] at h
  exact h
theorem mm_cset {n k : Nat} {fs : List Value} {v : Value} (h : ∀ w ∈ fs, mm_cv n w) (hv : mm_cv n v) : ∀ w ∈ fs.set k v, mm_cv n w := fun w hw => by
  rcases List.mem_or_eq_of_mem_set hw with h1 | h1
  · exact h w h1
  · rw [h1]; exact hv
theorem mm_rf (ad : Nat → Nat) (o : Option Nat) : va_rf (o.map ad) = mm_v ad (va_rf o) := by cases o <;> rfl
theorem mm_ra {U : State} {c1 c2 : ClassId} {ty : FieldType} (h1 : va_RA U c1 ty) (h2 : va_RA U c2 ty) : c1 = c2 := by
  cases ty with
  | object Cn =>
    obtain ⟨_, _, _, _, _, a⟩ := h1
    obtain ⟨_, _, _, _, _, a2⟩ := h2
    exact Option.some.inj (a.symm.trans a2)
  | _ => exact Option.some.inj ((show U.vm.findClass _ = some c1 from h1).symm.trans (show U.vm.findClass _ = some c2 from h2))
theorem mm_lvu {m : mm_Mem} {r : Nat} {x : va_E} (h0 : r ≠ 0) {lv : List (Nat × Value)} (h : ∀ q ∈ lv, mm_cv (mm_n m) q.2) : ∀ q ∈ lv, mm_cv (mm_n (va_up m r x)) q.2 := by rw [mm_n_up h0]; exact h
theorem mm_stu {m : mm_Mem} {r : Nat} {x : va_E} (h0 : r ≠ 0) {st : List Value} (h : ∀ q ∈ st, mm_cv (mm_n m) q) : ∀ q ∈ st, mm_cv (mm_n (va_up m r x)) q := by rw [mm_n_up h0]; exact h
theorem mm_lvp {m : mm_Mem} {x : va_E} {lv : List (Nat × Value)} (h : ∀ q ∈ lv, mm_cv (mm_n m) q.2) : ∀ q ∈ lv, mm_cv (mm_n (mm_push m x)) q.2 := by rw [mm_n_push]; exact fun q hq => mm_cv_mono (Nat.le_succ _) (h q hq)
theorem mm_stp {m : mm_Mem} {x : va_E} {st : List Value} (h : ∀ q ∈ st, mm_cv (mm_n m) q) : ∀ q ∈ st, mm_cv (mm_n (mm_push m x)) q := by rw [mm_n_push]; exact fun q hq => mm_cv_mono (Nat.le_succ _) (h q hq)
section MMH
variable {l : Launch} {G : mm_G} {K : mm_M} {pc : Nat} {lv lv2 : List (Nat × Value)} {st : List Value} {b b2 : Nat} {m : mm_Mem} {Q : mm_O → mm_Mem → Prop}
theorem mm_get {ci : Nat} {Cn : String} {T : u_T} {N idx r : Nat} {ty : Nat → FieldType} {fs : List Value} {v : Value} (hC : mm_cls ci Cn T N ty) (k : Nat) (hk : k < N) (hl : Cond.fieldLink K.1 idx (T k).1 (T k).2.1 (T k).2.2.1 ∈ mm_T) (hd : decode K.2.1 pc = .ok (.getfield idx, 3)) (hm : m r = .inr (ci, fs)) (h0 : r ≠ 0) (hv : fs[k]? = some v) (h : mm_W l G K (pc + 3) lv (v :: st) b m Q) : mm_W l G K pc lv (.ref r :: st) b m Q := by
  intro p e s mid args below meth c mc ms n0 ad0 ad A H locs cells slots ls C hA hn had hR hS hls hlc hsc hb1 hb2
  obtain ⟨hx, hb, -, -, -, -, hown, -, hts, ⟨hK, hNW, -⟩, -⟩ := id C
  exact va_get hx hb hts hC.2.1 hown hK hR.1 (r - 1) (mm_at hR.2.2.1 h0 hm (mm_ni hC.1)) hC.1 k hk (hts _ hl) (fun _ z => z) (show (fs.map (mm_v ad))[k]? = some (mm_v ad v) by rw [List.getElem?_map, hv]; rfl) hd (h p e s mid args below meth c mc ms n0 ad0 ad A H locs cells slots ls C hA hn had hR hS hls hlc (mm_sc (mm_cf hR h0 hm v (List.mem_of_getElem? hv)) (mm_sd hsc)) hb1 hb2)
theorem mm_getN {host : String} {ci : Nat} {Cn : String} {T : u_T} {N idx r : Nat} {ty : Nat → FieldType} {fs : List Value} {v : Value} (hC : mm_cls ci Cn T N ty) (k : Nat) (hk : k < N) (hl : Cond.fieldLinkNest K.1 idx (T k).1 (T k).2.1 (T k).2.2.1 host ∈ mm_NW) (hd : decode K.2.1 pc = .ok (.getfield idx, 3)) (hm : m r = .inr (ci, fs)) (h0 : r ≠ 0) (hv : fs[k]? = some v) (h : mm_W l G K (pc + 3) lv (v :: st) b m Q) : mm_W l G K pc lv (.ref r :: st) b m Q := by
  intro p e s mid args below meth c mc ms n0 ad0 ad A H locs cells slots ls C hA hn had hR hS hls hlc hsc hb1 hb2
  obtain ⟨hx, hb, -, -, -, -, hown, -, hts, ⟨hK, hNW, -⟩, -⟩ := id C
  exact va_getN hx hb hts hC.2.1 hown hK hR.1 (r - 1) (mm_at hR.2.2.1 h0 hm (mm_ni hC.1)) hC.1 k hk ((hNW _ hl).use rfl) (fun _ z => z) (show (fs.map (mm_v ad))[k]? = some (mm_v ad v) by rw [List.getElem?_map, hv]; rfl) hd (h p e s mid args below meth c mc ms n0 ad0 ad A H locs cells slots ls C hA hn had hR hS hls hlc (mm_sc (mm_cf hR h0 hm v (List.mem_of_getElem? hv)) (mm_sd hsc)) hb1 hb2)
theorem mm_putf {ci : Nat} {Cn : String} {T : u_T} {N idx r : Nat} {ty : Nat → FieldType} {fs : List Value} {v : Value} (hC : mm_cls ci Cn T N ty) (k : Nat) (hk : k < N) (hl : Cond.fieldLink K.1 idx (T k).1 (T k).2.1 (T k).2.2.1 ∈ mm_T) (hd : decode K.2.1 pc = .ok (.putfield idx, 3)) (hfin : (T k).2.2.2 = false) (hnr : ∀ ad, narrow (ty k) (mm_v ad v) = mm_v ad v) (hft : ∀ ad, fits (ty k) (mm_v ad v) = true) (hm : m r = .inr (ci, fs)) (h0 : r ≠ 0) (hkl : k < fs.length) (h : mm_W l G K (pc + 3) lv st b (va_up m r (.inr (ci, fs.set k v))) Q) : mm_W l G K pc lv (v :: .ref r :: st) b m Q := by
  intro p e s mid args below meth c mc ms n0 ad0 ad A H locs cells slots ls C hA hn had hR hS hls hlc hsc hb1 hb2
  obtain ⟨hx, hb, -, -, -, -, hown, -, hts, ⟨hK, hNW, -⟩, -⟩ := id C
  refine va_put hx hb hts hC.2.1 ty hC.2.2.1 hC.2.2.2 hown hK hR.1 hR.2.1 hS (r - 1) (mm_at hR.2.2.1 h0 hm (mm_ni hC.1)) hC.1 k hk (hts _ hl) (fun _ z => z) hfin (hC.2.2.1 k hk) (hnr ad) (hft ad) (by rw [List.length_map]; exact hkl) hd (fun H1 locs1 hP hD hS1 => ?_)
  rw [← List.map_set] at hP hD
  exact h p e s mid args below meth c mc ms n0 ad0 ad A H1 locs1 cells slots ls C hA (by rw [mm_n_up h0]; exact hn) had (mm_put h0 hR hm (mm_ni hC.1) (x := .inr (ci, fs.set k v)) (mm_cset (mm_cf hR h0 hm) (mm_sh hsc)) hP hD) hS1 hls (mm_lvu h0 hlc) (mm_stu h0 (mm_sd (mm_sd hsc))) hb1 hb2
theorem mm_putN {host : String} {ci : Nat} {Cn : String} {T : u_T} {N idx r : Nat} {ty : Nat → FieldType} {fs : List Value} {v : Value} (hC : mm_cls ci Cn T N ty) (k : Nat) (hk : k < N) (hl : Cond.fieldLinkNest K.1 idx (T k).1 (T k).2.1 (T k).2.2.1 host ∈ mm_NW) (hd : decode K.2.1 pc = .ok (.putfield idx, 3)) (hfin : (T k).2.2.2 = false) (hnr : ∀ ad, narrow (ty k) (mm_v ad v) = mm_v ad v) (hft : ∀ ad, fits (ty k) (mm_v ad v) = true) (hm : m r = .inr (ci, fs)) (h0 : r ≠ 0) (hkl : k < fs.length) (h : mm_W l G K (pc + 3) lv st b (va_up m r (.inr (ci, fs.set k v))) Q) : mm_W l G K pc lv (v :: .ref r :: st) b m Q := by
  intro p e s mid args below meth c mc ms n0 ad0 ad A H locs cells slots ls C hA hn had hR hS hls hlc hsc hb1 hb2
  obtain ⟨hx, hb, -, -, -, -, hown, -, hts, ⟨hK, hNW, -⟩, -⟩ := id C
  refine va_putN hx hb hts hC.2.1 ty hC.2.2.1 hC.2.2.2 hown hK hR.1 hR.2.1 hS (r - 1) (mm_at hR.2.2.1 h0 hm (mm_ni hC.1)) hC.1 k hk ((hNW _ hl).use rfl) (fun _ z => z) hfin (hC.2.2.1 k hk) (hnr ad) (hft ad) (by rw [List.length_map]; exact hkl) hd (fun H1 locs1 hP hD hS1 => ?_)
  rw [← List.map_set] at hP hD
  exact h p e s mid args below meth c mc ms n0 ad0 ad A H1 locs1 cells slots ls C hA (by rw [mm_n_up h0]; exact hn) had (mm_put h0 hR hm (mm_ni hC.1) (x := .inr (ci, fs.set k v)) (mm_cset (mm_cf hR h0 hm) (mm_sh hsc)) hP hD) hS1 hls (mm_lvu h0 hlc) (mm_stu h0 (mm_sd (mm_sd hsc))) hb1 hb2
theorem mm_putF {ci : Nat} {Cn : String} {T : u_T} {N idx r : Nat} {ty : Nat → FieldType} {fs : List Value} {v : Value} (hC : mm_cls ci Cn T N ty) (k : Nat) (hk : k < N) (hl : Cond.fieldLink K.1 idx (T k).1 (T k).2.1 (T k).2.2.1 ∈ mm_T) (hd : decode K.2.1 pc = .ok (.putfield idx, 3)) (hfin : (T k).2.2.2 = true) (hi : K.2.2.2.2.2.2.1 = "<init>") (hdc : (T k).1 = K.1) (hnr : ∀ ad, narrow (ty k) (mm_v ad v) = mm_v ad v) (hft : ∀ ad, fits (ty k) (mm_v ad v) = true) (hm : m r = .inr (ci, fs)) (h0 : r ≠ 0) (hkl : k < fs.length) (h : mm_W l G K (pc + 3) lv st b (va_up m r (.inr (ci, fs.set k v))) Q) : mm_W l G K pc lv (v :: .ref r :: st) b m Q := by
  intro p e s mid args below meth c mc ms n0 ad0 ad A H locs cells slots ls C hA hn had hR hS hls hlc hsc hb1 hb2
  obtain ⟨hx, hb, -, -, -, -, hown, -, hts, ⟨hK, hNW, -⟩, -⟩ := id C
  refine va_putF hx hb hts hC.2.1 ty hC.2.2.1 hC.2.2.2 hown hK hR.1 hR.2.1 hS (r - 1) (mm_at hR.2.2.1 h0 hm (mm_ni hC.1)) hC.1 k hk (hts _ hl) (fun _ z => z) hfin (C.2.2.2.2.2.1.trans hi) hdc (hC.2.2.1 k hk) (hnr ad) (hft ad) (by rw [List.length_map]; exact hkl) hd (fun H1 locs1 hP hD hS1 => ?_)
  rw [← List.map_set] at hP hD
  exact h p e s mid args below meth c mc ms n0 ad0 ad A H1 locs1 cells slots ls C hA (by rw [mm_n_up h0]; exact hn) had (mm_put h0 hR hm (mm_ni hC.1) (x := .inr (ci, fs.set k v)) (mm_cset (mm_cf hR h0 hm) (mm_sh hsc)) hP hD) hS1 hls (mm_lvu h0 hlc) (mm_stu h0 (mm_sd (mm_sd hsc))) hb1 hb2
theorem mm_bald {r n : Nat} {f : Nat → Int32} {i : Int32} (hd : decode K.2.1 pc = .ok (.baload, 1)) (hm : m r = .inl (G.2 0, n, .inl f)) (h0 : r ≠ 0) (hi : vp_in i n) (h : mm_W l G K (pc + 1) lv (.int (f i.toNatClampNeg) :: st) b m Q) : mm_W l G K pc lv (.int i :: .ref r :: st) b m Q := by
  intro p e s mid args below meth c mc ms n0 ad0 ad A H locs cells slots ls C hA hn had hR hS hls hlc hsc hb1 hb2
  obtain ⟨hx, hb, -, -, -, -, hown, -, hts, ⟨hK, hNW, -⟩, -⟩ := id C
  exact va_bald hx hb hK hR.1 (r - 1) 0 (mm_at hR.2.2.1 h0 hm mm_nl) rfl hi hd (h p e s mid args below meth c mc ms n0 ad0 ad A H locs cells slots ls C hA hn had hR hS hls hlc (mm_sc trivial (mm_sd (mm_sd hsc))) hb1 hb2)
theorem mm_iald {r n : Nat} {f : Nat → Int32} {i : Int32} (hd : decode K.2.1 pc = .ok (.iaload, 1)) (hm : m r = .inl (G.2 1, n, .inl f)) (h0 : r ≠ 0) (hi : vp_in i n) (h : mm_W l G K (pc + 1) lv (.int (f i.toNatClampNeg) :: st) b m Q) : mm_W l G K pc lv (.int i :: .ref r :: st) b m Q := by
  intro p e s mid args below meth c mc ms n0 ad0 ad A H locs cells slots ls C hA hn had hR hS hls hlc hsc hb1 hb2
  obtain ⟨hx, hb, -, -, -, -, hown, -, hts, ⟨hK, hNW, -⟩, -⟩ := id C
  exact va_iald hx hb hK hR.1 (r - 1) 1 (mm_at hR.2.2.1 h0 hm mm_nl) rfl hi hd (h p e s mid args below meth c mc ms n0 ad0 ad A H locs cells slots ls C hA hn had hR hS hls hlc (mm_sc trivial (mm_sd (mm_sd hsc))) hb1 hb2)
theorem mm_lald {r n : Nat} {f : Nat → Int64} {i : Int32} (hd : decode K.2.1 pc = .ok (.laload, 1)) (hm : m r = .inl (G.2 2, n, .inr (.inl f))) (h0 : r ≠ 0) (hi : vp_in i n) (h : mm_W l G K (pc + 1) lv (.long (f i.toNatClampNeg) :: st) b m Q) : mm_W l G K pc lv (.int i :: .ref r :: st) b m Q := by
  intro p e s mid args below meth c mc ms n0 ad0 ad A H locs cells slots ls C hA hn had hR hS hls hlc hsc hb1 hb2
  obtain ⟨hx, hb, -, -, -, -, hown, -, hts, ⟨hK, hNW, -⟩, -⟩ := id C
  exact va_lald hx hb hK hR.1 (r - 1) 2 (mm_at hR.2.2.1 h0 hm mm_nl) rfl hi hd (h p e s mid args below meth c mc ms n0 ad0 ad A H locs cells slots ls C hA hn had hR hS hls hlc (mm_sc trivial (mm_sd (mm_sd hsc))) hb1 hb2)
theorem mm_zald {r n : Nat} {f : Nat → Int32} {i : Int32} (hd : decode K.2.1 pc = .ok (.baload, 1)) (hm : m r = .inl (G.2 3, n, .inl f)) (h0 : r ≠ 0) (hi : vp_in i n) (h : mm_W l G K (pc + 1) lv (.int (f i.toNatClampNeg) :: st) b m Q) : mm_W l G K pc lv (.int i :: .ref r :: st) b m Q := by
  intro p e s mid args below meth c mc ms n0 ad0 ad A H locs cells slots ls C hA hn had hR hS hls hlc hsc hb1 hb2
  obtain ⟨hx, hb, -, -, -, -, hown, -, hts, ⟨hK, hNW, -⟩, -⟩ := id C
  exact va_zald hx hb hK hR.1 (r - 1) 3 (mm_at hR.2.2.1 h0 hm mm_nl) rfl hi hd (h p e s mid args below meth c mc ms n0 ad0 ad A H locs cells slots ls C hA hn had hR hS hls hlc (mm_sc trivial (mm_sd (mm_sd hsc))) hb1 hb2)
theorem mm_bast {r n : Nat} {f : Nat → Int32} {i : Int32} {x : Int32} (hd : decode K.2.1 pc = .ok (.bastore, 1)) (hm : m r = .inl (G.2 0, n, .inl f)) (h0 : r ≠ 0) (hi : vp_in i n) (h : mm_W l G K (pc + 1) lv st b (va_up m r (.inl (G.2 0, n, .inl (upd f i.toNatClampNeg (vp_nar .byte x))))) Q) : mm_W l G K pc lv (.int x :: .int i :: .ref r :: st) b m Q := by
  intro p e s mid args below meth c mc ms n0 ad0 ad A H locs cells slots ls C hA hn had hR hS hls hlc hsc hb1 hb2
  obtain ⟨hx, hb, -, -, -, -, hown, -, hts, ⟨hK, hNW, -⟩, -⟩ := id C
  refine va_bast hx hb hK hR.1 hR.2.1 hS (r - 1) 0 (mm_at hR.2.2.1 h0 hm mm_nl) rfl hi hd (fun H1 locs1 hP hD hS1 => ?_)
  exact h p e s mid args below meth c mc ms n0 ad0 ad A H1 locs1 cells slots ls C hA (by rw [mm_n_up h0]; exact hn) had (mm_put h0 hR hm mm_nl (x := .inl (G.2 0, n, .inl (upd f i.toNatClampNeg (vp_nar .byte x)))) trivial hP hD) hS1 hls (mm_lvu h0 hlc) (mm_stu h0 (mm_sd (mm_sd (mm_sd hsc)))) hb1 hb2
theorem mm_iast {r n : Nat} {f : Nat → Int32} {i : Int32} {x : Int32} (hd : decode K.2.1 pc = .ok (.iastore, 1)) (hm : m r = .inl (G.2 1, n, .inl f)) (h0 : r ≠ 0) (hi : vp_in i n) (h : mm_W l G K (pc + 1) lv st b (va_up m r (.inl (G.2 1, n, .inl (upd f i.toNatClampNeg x)))) Q) : mm_W l G K pc lv (.int x :: .int i :: .ref r :: st) b m Q := by
  intro p e s mid args below meth c mc ms n0 ad0 ad A H locs cells slots ls C hA hn had hR hS hls hlc hsc hb1 hb2
  obtain ⟨hx, hb, -, -, -, -, hown, -, hts, ⟨hK, hNW, -⟩, -⟩ := id C
  refine va_iast hx hb hK hR.1 hR.2.1 hS (r - 1) 1 (mm_at hR.2.2.1 h0 hm mm_nl) rfl hi hd (fun H1 locs1 hP hD hS1 => ?_)
  exact h p e s mid args below meth c mc ms n0 ad0 ad A H1 locs1 cells slots ls C hA (by rw [mm_n_up h0]; exact hn) had (mm_put h0 hR hm mm_nl (x := .inl (G.2 1, n, .inl (upd f i.toNatClampNeg x))) trivial hP hD) hS1 hls (mm_lvu h0 hlc) (mm_stu h0 (mm_sd (mm_sd (mm_sd hsc)))) hb1 hb2
theorem mm_last {r n : Nat} {f : Nat → Int64} {i : Int32} {x : Int64} (hd : decode K.2.1 pc = .ok (.lastore, 1)) (hm : m r = .inl (G.2 2, n, .inr (.inl f))) (h0 : r ≠ 0) (hi : vp_in i n) (h : mm_W l G K (pc + 1) lv st b (va_up m r (.inl (G.2 2, n, .inr (.inl (vp_updL f i.toNatClampNeg x))))) Q) : mm_W l G K pc lv (.long x :: .int i :: .ref r :: st) b m Q := by
  intro p e s mid args below meth c mc ms n0 ad0 ad A H locs cells slots ls C hA hn had hR hS hls hlc hsc hb1 hb2
  obtain ⟨hx, hb, -, -, -, -, hown, -, hts, ⟨hK, hNW, -⟩, -⟩ := id C
  refine va_last hx hb hK hR.1 hR.2.1 hS (r - 1) 2 (mm_at hR.2.2.1 h0 hm mm_nl) rfl hi hd (fun H1 locs1 hP hD hS1 => ?_)
  exact h p e s mid args below meth c mc ms n0 ad0 ad A H1 locs1 cells slots ls C hA (by rw [mm_n_up h0]; exact hn) had (mm_put h0 hR hm mm_nl (x := .inl (G.2 2, n, .inr (.inl (vp_updL f i.toNatClampNeg x)))) trivial hP hD) hS1 hls (mm_lvu h0 hlc) (mm_stu h0 (mm_sd (mm_sd (mm_sd hsc)))) hb1 hb2
theorem mm_zast {r n : Nat} {f : Nat → Int32} {i : Int32} {x : Int32} (hd : decode K.2.1 pc = .ok (.bastore, 1)) (hm : m r = .inl (G.2 3, n, .inl f)) (h0 : r ≠ 0) (hi : vp_in i n) (h : mm_W l G K (pc + 1) lv st b (va_up m r (.inl (G.2 3, n, .inl (upd f i.toNatClampNeg (vp_nar .boolean x))))) Q) : mm_W l G K pc lv (.int x :: .int i :: .ref r :: st) b m Q := by
  intro p e s mid args below meth c mc ms n0 ad0 ad A H locs cells slots ls C hA hn had hR hS hls hlc hsc hb1 hb2
  obtain ⟨hx, hb, -, -, -, -, hown, -, hts, ⟨hK, hNW, -⟩, -⟩ := id C
  refine va_zast hx hb hK hR.1 hR.2.1 hS (r - 1) 3 (mm_at hR.2.2.1 h0 hm mm_nl) rfl hi hd (fun H1 locs1 hP hD hS1 => ?_)
  exact h p e s mid args below meth c mc ms n0 ad0 ad A H1 locs1 cells slots ls C hA (by rw [mm_n_up h0]; exact hn) had (mm_put h0 hR hm mm_nl (x := .inl (G.2 3, n, .inl (upd f i.toNatClampNeg (vp_nar .boolean x)))) trivial hP hD) hS1 hls (mm_lvu h0 hlc) (mm_stu h0 (mm_sd (mm_sd (mm_sd hsc)))) hb1 hb2
theorem mm_aald {r r2 n t : Nat} {Cn : String} {f : Nat → Option Nat} {i : Int32} (ht : (mm_tys G.2)[t]? = some (G.2 t, .object Cn)) (hd : decode K.2.1 pc = .ok (.aaload, 1)) (hm : m r = .inl (G.2 t, n, .inr (.inr (.inr (.inr f))))) (h0 : r ≠ 0) (hi : vp_in i n) (hv : f i.toNatClampNeg = some r2) (h : mm_W l G K (pc + 1) lv (.ref r2 :: st) b m Q) : mm_W l G K pc lv (.int i :: .ref r :: st) b m Q := by
  intro p e s mid args below meth c mc ms n0 ad0 ad A H locs cells slots ls C hA hn had hR hS hls hlc hsc hb1 hb2
  obtain ⟨hx, hb, -, -, -, -, hown, -, hts, ⟨hK, hNW, -⟩, -⟩ := id C
  have hcl : mm_cv (mm_n m) (.ref r2) := by
    have h1 := hR.2.2.2 r (Nat.pos_of_ne_zero h0)
    rw [hm] at h1
    exact h1 _ r2 hv
  have h2 := h p e s mid args below meth c mc ms n0 ad0 ad A H locs cells slots ls C hA hn had hR hS hls hlc (mm_sc hcl (mm_sd (mm_sd hsc))) hb1 hb2
  refine va_aldq hx hb hK hR.1 (r - 1) t (mm_at hR.2.2.1 h0 hm mm_nl) ht hi hd ?_
  rw [hv]
  exact h2
theorem mm_aast {r r2 n t ci : Nat} {q : vw_C} {f : Nat → Option Nat} {i : Int32} {vs : List Value} (ht : (mm_tys G.2)[t]? = some (G.2 t, .object q.1)) (hq : mm_cl[ci]? = some q) (hd : decode K.2.1 pc = .ok (.aastore, 1)) (hm : m r = .inl (G.2 t, n, .inr (.inr (.inr (.inr f))))) (h0 : r ≠ 0) (hm2 : m r2 = .inr (ci, vs)) (h02 : r2 ≠ 0) (hi : vp_in i n) (h : mm_W l G K (pc + 1) lv st b (va_up m r (.inl (G.2 t, n, .inr (.inr (.inr (.inr (va_up f i.toNatClampNeg (some r2)))))))) Q) : mm_W l G K pc lv (.ref r2 :: .int i :: .ref r :: st) b m Q := by
  intro p e s mid args below meth c mc ms n0 ad0 ad A H locs cells slots ls C hA hn had hR hS hls hlc hsc hb1 hb2
  obtain ⟨hx, hb, -, -, -, -, hown, -, hts, ⟨hK, hNW, -⟩, -⟩ := id C
  refine va_astq hx hb hK hR.1 hR.2.1 hS (r - 1) t (r2 - 1) ci (mm_at hR.2.2.1 h0 hm mm_nl) ht (mm_at hR.2.2.1 h02 hm2 (mm_ni hq)) hq hi hd (fun H1 locs1 hP hD hS1 => ?_)
  have e1 : va_up (fun j => (f j).map ad) i.toNatClampNeg (some (ad r2)) = fun j => ((va_up f i.toNatClampNeg (some r2)) j).map ad := by
    funext j
    unfold va_up
    by_cases hj : j = i.toNatClampNeg
    · rw [if_pos hj, if_pos hj]; rfl
    · rw [if_neg hj, if_neg hj]
  rw [e1] at hP hD
  refine h p e s mid args below meth c mc ms n0 ad0 ad A H1 locs1 cells slots ls C hA (by rw [mm_n_up h0]; exact hn) had (mm_put h0 hR hm mm_nl (x := .inl (G.2 t, n, .inr (.inr (.inr (.inr (va_up f i.toNatClampNeg (some r2))))))) ?_ hP hD) hS1 hls (mm_lvu h0 hlc) (mm_stu h0 (mm_sd (mm_sd (mm_sd hsc)))) hb1 hb2
  have h1 := hR.2.2.2 r (Nat.pos_of_ne_zero h0)
  rw [hm] at h1
  intro j r3 hj
  unfold va_up at hj
  by_cases hj2 : j = i.toNatClampNeg
  · rw [if_pos hj2] at hj
    cases hj
    exact mm_sh hsc
  · rw [if_neg hj2] at hj
    exact h1 j r3 hj
theorem mm_alen {r t : Nat} {ty : FieldType} {x : vp_A} (ht : (mm_tys G.2)[t]? = some (G.2 t, ty)) (hd : decode K.2.1 pc = .ok (.arraylength, 1)) (hm : m r = .inl (G.2 t, x)) (h0 : r ≠ 0) (h : mm_W l G K (pc + 1) lv (.int (nI x.1) :: st) b m Q) : mm_W l G K pc lv (.ref r :: st) b m Q := by
  intro p e s mid args below meth c mc ms n0 ad0 ad A H locs cells slots ls C hA hn had hR hS hls hlc hsc hb1 hb2
  obtain ⟨hx, hb, -, -, -, -, hown, -, hts, ⟨hK, hNW, -⟩, -⟩ := id C
  have h2 := h p e s mid args below meth c mc ms n0 ad0 ad A H locs cells slots ls C hA hn had hR hS hls hlc (mm_sc trivial (mm_sd hsc)) hb1 hb2
  obtain ⟨n, f | f | f | f | f⟩ := x
  · exact va_alen hx hb hK hR.1 (r - 1) t (mm_at hR.2.2.1 h0 hm mm_nl) ht rfl hd h2
  · exact va_alen hx hb hK hR.1 (r - 1) t (mm_at hR.2.2.1 h0 hm mm_nl) ht rfl hd h2
  · exact va_alen hx hb hK hR.1 (r - 1) t (mm_at hR.2.2.1 h0 hm mm_nl) ht rfl hd h2
  · exact va_alen hx hb hK hR.1 (r - 1) t (mm_at hR.2.2.1 h0 hm mm_nl) ht rfl hd h2
  · exact va_alen hx hb hK hR.1 (r - 1) t (mm_at hR.2.2.1 h0 hm mm_nl) ht rfl hd h2
theorem mm_sald {n : Nat} {xs : Nat → Int32} {i : Int32} (hs : K.2.2.2.2.2.2.2 = some (n, xs)) (hd : decode K.2.1 pc = .ok (.iaload, 1)) (hi : vp_in i n) (h : mm_W l G K (pc + 1) lv (.int (xs i.toNatClampNeg) :: st) b m Q) : mm_W l G K pc lv (.int i :: .ref 0 :: st) b m Q := by
  intro p e s mid args below meth c mc ms n0 ad0 ad A H locs cells slots ls C hA hn had hR hS hls hlc hsc hb1 hb2
  obtain ⟨hx, hb, -, -, -, -, hown, -, hts, -, -, hsc0⟩ := id C
  rw [hs] at hsc0
  obtain ⟨z1, z2, z3⟩ := hsc0
  rw [← had 0 (Nat.zero_le _)] at z1 z2 z3
  exact va_sld hx hb z1 z2 z3 hS hi hd (h p e s mid args below meth c mc ms n0 ad0 ad A H locs cells slots ls C hA hn had hR hS hls hlc (mm_sc trivial (mm_sd (mm_sd hsc))) hb1 hb2)
theorem mm_salen {n : Nat} {xs : Nat → Int32} (hs : K.2.2.2.2.2.2.2 = some (n, xs)) (hd : decode K.2.1 pc = .ok (.arraylength, 1)) (h : mm_W l G K (pc + 1) lv (.int (nI n) :: st) b m Q) : mm_W l G K pc lv (.ref 0 :: st) b m Q := by
  intro p e s mid args below meth c mc ms n0 ad0 ad A H locs cells slots ls C hA hn had hR hS hls hlc hsc hb1 hb2
  obtain ⟨hx, hb, -, -, -, -, hown, -, hts, -, -, hsc0⟩ := id C
  rw [hs] at hsc0
  obtain ⟨z1, z2, z3⟩ := hsc0
  rw [← had 0 (Nat.zero_le _)] at z1 z2 z3
  exact va_slen hx hb z1 z2 z3 hS hd (h p e s mid args below meth c mc ms n0 ad0 ad A H locs cells slots ls C hA hn had hR hS hls hlc (mm_sc trivial (mm_sd hsc)) hb1 hb2)
theorem mm_new {ci : Nat} {Cn : String} {T : u_T} {N idx : Nat} {ty : Nat → FieldType} {fs : List Value} (hC : mm_cls ci Cn T N ty) (hcl : Cond.classLink K.1 idx Cn ∈ mm_T) (hin : Cond.instantiable Cn N ∈ mm_T) (hini : Cond.initialized Cn ∈ mm_T) (hfs : ∀ j, j < N → defaultValue (ty j) = vp_V fs j) (hcf : ∀ v ∈ fs, mm_cv 0 v) (hfr : ∀ ad, fs.map (mm_v ad) = fs) (hd : decode K.2.1 pc = .ok (.new idx, 3)) (hbd : N + 1 + b2 ≤ b) (h : mm_W l G K (pc + 3) lv (.ref (mm_n m + 1) :: st) b2 (mm_push m (.inr (ci, fs))) Q) : mm_W l G K pc lv st b m Q := by
  intro p e s mid args below meth c mc ms n0 ad0 ad A H locs cells slots ls C hA hn had hR hS hls hlc hsc hb1 hb2
  obtain ⟨hx, hb, -, -, -, -, hown, -, hts, ⟨hK, hNW, -⟩, -⟩ := id C
  refine va_new (fs := fs) hx hb hts hC.2.1 ty hC.2.2.1 hown (hts _ hcl) (hts _ hin) (hts _ hini) hK hR.1 hR.2.1 hS hA hC.1 hfs (show cells + 1 ≤ mc by omega) (show slots + N ≤ ms by omega) hd (fun q H1 hP hD hS1 => ?_)
  have hag : ∀ r, r ≤ mm_n m → va_up ad (mm_n m + 1) q r = ad r := fun r hr => by unfold va_up; rw [if_neg (by omega)]
  have hq : va_up ad (mm_n m + 1) q (mm_n m + 1) = q := by unfold va_up; rw [if_pos rfl]
  have h2 := h p e s mid args below meth c mc ms n0 ad0 (va_up ad (mm_n m + 1) q) A H1 locs (cells + 1) (slots + N) ls C hA (by rw [mm_n_push]; omega) (fun r hr => (hag r (by omega)).trans (had r hr)) (mm_grow hR (x := .inr (ci, fs)) (fun v hv => mm_cv_mono (Nat.zero_le _) (hcf v hv)) (by show Sum.inr (ci, fs.map _) = _; rw [hfr]) hP hD) hS1 (by rw [mm_lv_ag hag hlc]; exact hls) (mm_lvp hlc) (mm_sc (by rw [mm_n_push]; exact Nat.le_refl _) (mm_stp hsc)) (by omega) (by omega)
  rw [List.map_cons, mm_st_ag hag hsc] at h2
  rw [show mm_v (va_up ad (mm_n m + 1) q) (.ref (mm_n m + 1)) = .ref q by show Value.ref _ = _; rw [hq]] at h2
  exact h2
theorem mm_newa {atype : ArrayType} {t N : Nat} {ty : FieldType} {n : Int32} {a0 : (Nat → Int32) ⊕ (Nat → Int64) ⊕ (Nat → UInt32) ⊕ (Nat → UInt64) ⊕ (Nat → Option Nat)} (harr : Cond.arrayClass (newarray.typeOf atype) ∈ mm_T) (hty : newarray.typeOf atype = ty) (ht : (mm_tys G.2)[t]? = some (G.2 t, ty)) (ha : ∀ cA : ClassId, vp_cell cA (N, a0) = arrV cA N (fun _ => defaultValue ty)) (hce : ∀ k, mm_ce k (.inl (G.2 t, N, a0))) (hme : ∀ ad, mm_e ad (.inl (G.2 t, N, a0)) = .inl (G.2 t, N, a0)) (hd : decode K.2.1 pc = .ok (.newarray atype, 2)) (hn1 : ¬ n < 0) (hN : n.toNatClampNeg = N) (hbytes : N * componentBytes ty ≤ 536870912) (hbd : N + 1 + b2 ≤ b) (h : mm_W l G K (pc + 2) lv (.ref (mm_n m + 1) :: st) b2 (mm_push m (.inl (G.2 t, N, a0))) Q) : mm_W l G K pc lv (.int n :: st) b m Q := by
  intro p e s mid args below meth c mc ms n0 ad0 ad A H locs cells slots ls C hA hn had hR hS hls hlc hsc hb1 hb2
  obtain ⟨hx, hb, -, -, -, -, hown, -, hts, ⟨hK, hNW, -⟩, -⟩ := id C
  refine va_newa (a0 := (N, a0)) hx hb (hts _ harr) hty hK hR.1 hR.2.1 hS hA ha hn1 hN hbytes (show cells + 1 ≤ mc by omega) (show slots + N ≤ ms by omega) hd (fun q cA H1 hK1 hP hD hS1 => ?_)
  have hcA : cA = G.2 t := mm_ra (hK1.2 (mm_tys G.2).length (cA, ty) (by rw [List.getElem?_append_right (Nat.le_refl _), Nat.sub_self]; rfl)).2 (hK.2 t _ ht).2
  subst hcA
  have hag : ∀ r, r ≤ mm_n m → va_up ad (mm_n m + 1) q r = ad r := fun r hr => by unfold va_up; rw [if_neg (by omega)]
  have hq : va_up ad (mm_n m + 1) q (mm_n m + 1) = q := by unfold va_up; rw [if_pos rfl]
  have h2 := h p e s mid args below meth c mc ms n0 ad0 (va_up ad (mm_n m + 1) q) A H1 locs (cells + 1) (slots + N) ls C hA (by rw [mm_n_push]; omega) (fun r hr => (hag r (by omega)).trans (had r hr)) (mm_grow hR (x := .inl (G.2 t, N, a0)) (hce _) (hme _) hP hD) hS1 (by rw [mm_lv_ag hag hlc]; exact hls) (mm_lvp hlc) (mm_sc (by rw [mm_n_push]; exact Nat.le_refl _) (mm_stp (mm_sd hsc))) (by omega) (by omega)
  rw [List.map_cons, mm_st_ag hag (mm_sd hsc)] at h2
  rw [show mm_v (va_up ad (mm_n m + 1) q) (.ref (mm_n m + 1)) = .ref q by show Value.ref _ = _; rw [hq]] at h2
  exact h2
theorem mm_newq {idx t N : Nat} {Cn : String} {n : Int32} (hcl : Cond.classLink K.1 idx Cn ∈ mm_T) (hov : Cond.arrayOver (.object Cn) ∈ mm_NW) (ht : (mm_tys G.2)[t]? = some (G.2 t, .object Cn)) (hd : decode K.2.1 pc = .ok (.anewarray idx, 3)) (hn1 : ¬ n < 0) (hN : n.toNatClampNeg = N) (hbytes : N * 4 ≤ 536870912) (hbd : N + 1 + b2 ≤ b) (h : mm_W l G K (pc + 3) lv (.ref (mm_n m + 1) :: st) b2 (mm_push m (.inl (G.2 t, N, .inr (.inr (.inr (.inr (fun _ => none))))))) Q) : mm_W l G K pc lv (.int n :: st) b m Q := by
  intro p e s mid args below meth c mc ms n0 ad0 ad A H locs cells slots ls C hA hn had hR hS hls hlc hsc hb1 hb2
  obtain ⟨hx, hb, -, -, -, -, hown, -, hts, ⟨hK, hNW, -⟩, -⟩ := id C
  refine va_newq hx hb hown (hts _ hcl) (hNW _ hov) hK hR.1 hR.2.1 hS hA hn1 hN hbytes (show cells + 1 ≤ mc by omega) (show slots + N ≤ ms by omega) hd (fun q cA H1 hK1 hP hD hS1 => ?_)
  have hcA : cA = G.2 t := mm_ra (hK1.2 (mm_tys G.2).length (cA, .object Cn) (by rw [List.getElem?_append_right (Nat.le_refl _), Nat.sub_self]; rfl)).2 (hK.2 t _ ht).2
  subst hcA
  have hag : ∀ r, r ≤ mm_n m → va_up ad (mm_n m + 1) q r = ad r := fun r hr => by unfold va_up; rw [if_neg (by omega)]
  have hq : va_up ad (mm_n m + 1) q (mm_n m + 1) = q := by unfold va_up; rw [if_pos rfl]
  have h2 := h p e s mid args below meth c mc ms n0 ad0 (va_up ad (mm_n m + 1) q) A H1 locs (cells + 1) (slots + N) ls C hA (by rw [mm_n_push]; omega) (fun r hr => (hag r (by omega)).trans (had r hr)) (mm_grow hR (x := .inl (G.2 t, N, .inr (.inr (.inr (.inr (fun _ => none)))))) (fun _ _ z => nomatch z) rfl hP hD) hS1 (by rw [mm_lv_ag hag hlc]; exact hls) (mm_lvp hlc) (mm_sc (by rw [mm_n_push]; exact Nat.le_refl _) (mm_stp (mm_sd hsc))) (by omega) (by omega)
  rw [List.map_cons, mm_st_ag hag (mm_sd hsc)] at h2
  rw [show mm_v (va_up ad (mm_n m + 1) q) (.ref (mm_n m + 1)) = .ref q by show Value.ref _ = _; rw [hq]] at h2
  exact h2
theorem mm_objInit {idx r : Nat} (hl : Cond.methodLink K.1 idx objectInit ∈ mm_T) (hi : Cond.instanceMethod objectInit ∈ mm_T) (hc : Cond.code objectInit ⟨#[0xb1]⟩ 1 none ∈ mm_T) (hd : decode K.2.1 pc = .ok (.invokespecial idx, 3)) (hdep : 1 ≤ K.2.2.2.2.1.1) (hst : (st.map fun v => v.category).sum + 15 ≤ K.2.2.2.2.1.2) (h : mm_W l G K (pc + 3) lv st b m Q) : mm_W l G K pc lv (.ref r :: st) b m Q := by
  intro p e s mid args below meth c mc ms n0 ad0 ad A H locs cells slots ls C hA hn had hR hS hls hlc hsc hb1 hb2
  obtain ⟨hx, hb, -, -, -, -, hown, -, hts, ⟨hK, hNW, -⟩, -⟩ := id C
  have hcs : ((st.map (mm_v ad)).map fun v => v.category).sum + 15 ≤ K.2.2.2.2.1.2 := by
    rw [List.map_map, show ((fun v : Value => v.category) ∘ mm_v ad) = fun v => v.category from funext fun v => mm_v_cat ad v]
    exact hst
  exact W.objInit hx hb hown (hts _ hl) (hts _ hi) (hts _ hc) rfl (hls.1.trans C.2.2.1.symm) rfl hd hdep (by show 2 * 0 + _ + 12 ≤ K.2.2.2.2.1.2; omega) (h p e s mid args below meth c mc ms n0 ad0 ad A H locs cells slots ls C hA hn had hR hS hls hlc (mm_sd hsc) hb1 hb2)
theorem mm_math {idx : Nat} {x y : Int32} (hl : Cond.methodLink K.1 idx Lib.Math.max.name ∈ mm_T) (hs : Cond.static Lib.Math.max.name ∈ mm_T) (hi : Cond.initialized "java/lang/Math" ∈ mm_T) (hc : Cond.code Lib.Math.max.name Lib.Math.max.code 2 (some .int) ∈ mm_T) (hd : decode K.2.1 pc = .ok (.invokestatic idx, 3)) (hdep : 1 ≤ K.2.2.2.2.1.1) (hst : (st.map fun v => v.category).sum + 15 ≤ K.2.2.2.2.1.2) (h : mm_W l G K (pc + 3) lv (.int (if x < y then y else x) :: st) b m Q) : mm_W l G K pc lv (.int y :: .int x :: st) b m Q := by
  intro p e s mid args below meth c mc ms n0 ad0 ad A H locs cells slots ls C hA hn had hR hS hls hlc hsc hb1 hb2
  obtain ⟨hx, hb, -, -, -, -, hown, -, hts, ⟨hK, hNW, -⟩, -⟩ := id C
  have hcs : ((st.map (mm_v ad)).map fun v => v.category).sum + 15 ≤ K.2.2.2.2.1.2 := by
    rw [List.map_map, show ((fun v : Value => v.category) ∘ mm_v ad) = fun v => v.category from funext fun v => mm_v_cat ad v]
    exact hst
  exact va_mmax hx hb (C.2.2.1.trans hls.1.symm) hown (hts _ hl) (hts _ hs) (hts _ hi) (hts _ hc) hdep (by show _ + 13 ≤ K.2.2.2.2.1.2; omega) (show cells ≤ mc by omega) (show slots ≤ ms by omega) hd (h p e s mid args below meth c mc ms n0 ad0 ad A H locs cells slots ls C hA hn had hR hS hls hlc (mm_sc trivial (mm_sd (mm_sd hsc))) hb1 hb2)
theorem mm_copyb {idx r1 r2 n1 n2 t : Nat} {f g : Nat → Int32} {ty : FieldType} {sp dp n : Int32} (ht : (mm_tys G.2)[t]? = some (G.2 t, ty)) (hp : refKind ty = false) (hl : Cond.methodLink K.1 idx arraycopyName ∈ mm_T) (hnt : Cond.native arraycopyName ∈ mm_T) (hs : Cond.static arraycopyName ∈ mm_T) (hi : Cond.initialized "java/lang/System" ∈ mm_T) (hd : decode K.2.1 pc = .ok (.invokestatic idx, 3)) (hdep : 1 ≤ K.2.2.2.2.1.1) (hst : (st.map fun v => v.category).sum + (nativeFrameWords "java/lang/System" "arraycopy" 5 + 11) ≤ K.2.2.2.2.1.2) (hm1 : m r1 = .inl (G.2 t, n1, .inl f)) (h01 : r1 ≠ 0) (hm2 : m r2 = .inl (G.2 t, n2, .inl g)) (h02 : r2 ≠ 0) (h1 : ¬ sp < 0) (h2 : ¬ dp < 0) (h3 : ¬ n < 0) (h4 : sp.toNatClampNeg + n.toNatClampNeg ≤ n1) (h5 : dp.toNatClampNeg + n.toNatClampNeg ≤ n2) (hft : ∀ i, i < n.toNatClampNeg → fits ty (.int (f (sp.toNatClampNeg + i))) = true) (h : mm_W l G K (pc + 3) lv st b (va_up m r2 (.inl (G.2 t, n2, .inl (va_cpy f g sp.toNatClampNeg dp.toNatClampNeg n.toNatClampNeg)))) Q) : mm_W l G K pc lv (.int n :: .int dp :: .ref r2 :: .int sp :: .ref r1 :: st) b m Q := by
  intro p e s mid args below meth c mc ms n0 ad0 ad A H locs cells slots ls C hA hn had hR hS hls hlc hsc hb1 hb2
  obtain ⟨hx, hb, -, -, -, -, hown, -, hts, ⟨hK, hNW, -⟩, -⟩ := id C
  have hcs : ((st.map (mm_v ad)).map fun v => v.category).sum + (nativeFrameWords "java/lang/System" "arraycopy" 5 + 11) ≤ K.2.2.2.2.1.2 := by
    rw [List.map_map, show ((fun v : Value => v.category) ∘ mm_v ad) = fun v => v.category from funext fun v => mm_v_cat ad v]
    exact hst
  refine va_copyi hx hb (C.2.2.1.trans hls.1.symm) hown (hts _ hl) (hts _ hnt) (hts _ hs) (hts _ hi) hK hR.1 hR.2.1 hS (r1 - 1) (r2 - 1) t t (mm_at hR.2.2.1 h01 hm1 mm_nl) (mm_at hR.2.2.1 h02 hm2 mm_nl) ht ht hp h1 h2 h3 h4 h5 hft hdep hcs hd (fun H1 locs1 hP hD hS1 => ?_)
  exact h p e s mid args below meth c mc ms n0 ad0 ad A H1 locs1 cells slots ls C hA (by rw [mm_n_up h02]; exact hn) had (mm_put h02 hR hm2 mm_nl (x := .inl (G.2 t, n2, .inl (va_cpy f g sp.toNatClampNeg dp.toNatClampNeg n.toNatClampNeg))) trivial hP hD) hS1 hls (mm_lvu h02 hlc) (mm_stu h02 (mm_sd (mm_sd (mm_sd (mm_sd (mm_sd hsc)))))) hb1 hb2
end MMH
end
section
/-! calls, throws, handlers -/
theorem mm_la_map (ad : Nat → Nat) : ∀ (vs : List Value) (i : Nat), lv_args i (vs.map (mm_v ad)) = (lv_args i vs).map (mm_q ad)
  | [], _ => rfl
  | v :: vs, i => by
    simp only [List.map_cons, lv_args, mm_v_cat]
    rw [mm_la_map ad vs]
    rfl
theorem mm_la_mem : ∀ (vs : List Value) (i : Nat) (q : Nat × Value), q ∈ lv_args i vs → q.2 ∈ vs
  | [], _, _, h => by cases h
  | v :: vs, i, q, h => by
    simp only [lv_args] at h
    rcases List.mem_cons.mp h with rfl | h
    · exact List.mem_cons_self
    · exact List.mem_cons_of_mem _ (mm_la_mem vs _ q h)
theorem mm_sl_len (ad : Nat → Nat) : ∀ vs : List Value, (lg_sl (vs.map (mm_v ad))).length = (lg_sl vs).length
  | [] => rfl
  | v :: vs => by
    have h := mm_sl_len ad vs
    unfold lg_sl at h ⊢
    simp only [List.map_cons, List.flatMap_cons, List.length_append, mm_v_cat]
    rw [h]
    by_cases hc : v.category = 2
    · simp [hc]
    · simp [hc]
theorem mm_cat_map (ad : Nat → Nat) (st : List Value) : ((st.map (mm_v ad)).map fun v => v.category) = st.map fun v => v.category := by
  rw [List.map_map, show ((fun v : Value => v.category) ∘ mm_v ad) = fun v => v.category from funext fun v => mm_v_cat ad v]
/-- what the tables say of the method y with the record Kc -/
def mm_F (Kc : mm_M) (y : MethodName) (s : State) (mk : MethodId) (mt : Method) (ck : Code) : Prop := s.methodNamed? y = some mk ∧ s.vm.method? mk = some mt ∧ mt.code = some ck ∧ ck.code = Kc.2.1 ∧ ck.maxLocals = Kc.2.2.1 ∧ mt.sig.returnType = Kc.2.2.2.1 ∧ mt.locks = false ∧ mt.name = Kc.2.2.2.2.2.2.1 ∧ s.vm.findClass Kc.1 = some mk.cls ∧ ck.exceptionTable.toList = tableOf Kc.2.2.2.2.2.1 ∧ parseMethodDescriptor y.desc = some mt.sig
/-- the code's word of a method: with its handlers, where it has some -/
def mm_cw (Kc : mm_M) (y : MethodName) : Cond := match Kc.2.2.2.2.2.1 with
  | [] => .code y Kc.2.1 Kc.2.2.1 Kc.2.2.2.1
  | h :: t => .codeWith y Kc.2.1 Kc.2.2.1 Kc.2.2.2.1 (h :: t)
theorem mm_F.of {Kc : mm_M} {y : MethodName} {args : Array Value} {s : State} (h : (mm_cw Kc y).before args s = true) (h1 : Kc.1 = y.cls) (h2 : Kc.2.2.2.2.2.2.1 = y.name) : ∃ mk mt ck, mm_F Kc y s mk mt ck := by
  unfold mm_cw at h
  split at h
  · next hh =>
    obtain ⟨mk, hn⟩ := Cond.code_named h
    obtain ⟨mt, ck, a1, a2, a3, a4, a5, a6, a7, a8⟩ := Cond.code_spec hn h
    refine ⟨mk, mt, ck, hn, a1, a2, a3, a4, a5, a6, (name_of_methodNamed hn a1).1.trans h2.symm, by rw [h1]; exact findClass_of_methodNamed hn, ?_, a8⟩
    rw [hh]
    have h0 : ck.exceptionTable.size = 0 := by simpa [Array.isEmpty] using a7
    exact List.eq_nil_of_length_eq_zero (by simpa using h0)
  · next x t hh =>
    obtain ⟨mk, mt, ck, hn, a1, a2, a3, a4, a5, a6, a7, a8⟩ := Cond.codeWith_spec h
    refine ⟨mk, mt, ck, hn, a1, a2, a3, a4, a6, a7, (name_of_methodNamed hn a1).1.trans h2.symm, by rw [h1]; exact findClass_of_methodNamed hn, ?_, a8⟩
    rw [hh, ← a5, table_eq]
def mm_A (ad : Nat → Nat) (n sz : Nat) (q : Nat) : Prop := (∃ r, 0 < r ∧ r ≤ n ∧ q = ad r) ∨ sz ≤ q
theorem mm_wat {ad : Nat → Nat} {m : mm_Mem} {k : Nat} {x : Nat × va_E} (h : (mm_w ad m)[k]? = some x) : k + 1 ≤ mm_n m ∧ x = (ad (k + 1), mm_e ad (m (k + 1))) := by
  unfold mm_w at h
  rw [List.getElem?_map] at h
  cases hk : (List.range (mm_n m))[k]? with
  | none => rw [hk] at h; cases h
  | some j =>
    rw [hk] at h
    obtain ⟨h1, h2⟩ := List.getElem?_eq_some_iff.mp hk
    rw [List.length_range] at h1
    have hj : j = k := by simpa using h2.symm
    subst hj
    exact ⟨h1, (Option.some.inj h).symm⟩
theorem mm_wat2 {ad : Nat → Nat} {m : mm_Mem} {r : Nat} (h0 : 0 < r) (h : r ≤ mm_n m) : (mm_w ad m)[r - 1]? = some (ad r, mm_e ad (m r)) := by
  have h2 : r - 1 + 1 = r := by omega
  unfold mm_w
  rw [List.getElem?_map, List.getElem?_range (by omega)]
  simp only [Option.map_some, h2]
theorem mm_R.self {D : va_G} {A : Nat → Prop} {ad : Nat → Nat} {m : mm_Mem} {H : Heap} (h : mm_R D A ad m H) (sz : Nat) : mm_R D (mm_A ad (mm_n m) sz) ad m H :=
  ⟨h.1, ⟨h.2.1.1, fun k q hq => by obtain ⟨h1, rfl⟩ := mm_wat hq; exact Or.inl ⟨k + 1, Nat.succ_pos _, h1, rfl⟩⟩, h.2.2⟩
theorem mm_R.wide {D : va_G} {A B : Nat → Prop} {ad : Nat → Nat} {m : mm_Mem} {H : Heap} (h : mm_R D A ad m H) (hAB : ∀ q, A q → B q) : mm_R D B ad m H :=
  ⟨h.1, ⟨h.2.1.1, fun k q hq => hAB _ (h.2.1.2 k q hq)⟩, h.2.2⟩
theorem mm_R.in {D : va_G} {A : Nat → Prop} {ad : Nat → Nat} {m : mm_Mem} {H : Heap} (h : mm_R D A ad m H) {r : Nat} (h0 : 0 < r) (hr : r ≤ mm_n m) : A (ad r) := h.2.1.2 _ _ (mm_wat2 h0 hr)
theorem mm_R.plain {D : va_G} {A : Nat → Prop} {ad : Nat → Nat} {m : mm_Mem} {H : Heap} (h : mm_R D A ad m H) {r : Nat} (h0 : 0 < r) (hr : r ≤ mm_n m) {cell : Cell} (hc : H[ad r]? = some cell) : cell.vm.isStatics = false := by
  have h1 := h.1 _ _ (mm_wat2 (ad := ad) h0 hr)
  generalize mm_e ad (m r) = x at h1
  rcases x with ⟨cA, n, f | f | f | f | f⟩ | o
  · cases Option.some.inj (hc.symm.trans h1); rfl
  · cases Option.some.inj (hc.symm.trans h1); rfl
  · cases Option.some.inj (hc.symm.trans h1); rfl
  · cases Option.some.inj (hc.symm.trans h1); rfl
  · cases Option.some.inj (hc.symm.trans h1); rfl
  · obtain ⟨q, -, cell2, g1, g2, g3, -⟩ := h1
    cases Option.some.inj (hc.symm.trans g1)
    rw [g3]; rfl
theorem mm_warm {w : Cond} (hk : mm_kind w = true) {s U : State} (hW : s.WarmedH U.vm) (h : va_Nw w s) : va_Nw w U := by
  cases w <;> first
    | exact va_Nw.warmF hW h
    | exact va_Nw.warmM hW h
    | exact va_Nw.warmD hW h
    | exact va_Nw.warmC hW h
    | (rename_i t; cases t <;> first | exact va_AO.moved hW.alike h | (cases hk))
    | (cases hk)
theorem mm_Nc_moved {C T : String} {u U : State} (hvm : u.vm.Alike U.vm) (h : va_Nc C T u) : va_Nc C T U := by
  obtain ⟨c, t, h1, h2, h3⟩ := h
  exact ⟨c, t, by rw [hvm.findClass]; exact h1, by rw [hvm.findClass]; exact h2, by rw [hvm.assignable]; exact h3⟩
theorem mm_Xat {G : mm_G} {A B : Nat → Prop} {s U : State} (hX : mm_X G A s) (hW : s.WarmedH U.vm) (hq : ∀ a : Nat, a < s.heap.size → ¬ A a → U.heap[a]? = s.heap[a]?) (hAB : ∀ q, q < U.heap.size → B q → A q) : mm_X G B U := by
  obtain ⟨h1, h2, h3, h4, h5⟩ := hX
  refine ⟨va_K.moved hW.alike h1, fun w hw => mm_warm (mm_NW_ok w hw) hW (h2 w hw), fun q hq2 => ?_, fun q hq2 => ?_, fun q hq2 => mm_Nc_moved hW.alike (h5 q hq2)⟩
  · exact (((h3 q hq2).kept hq).moved hW.alike).narrow hAB
  · obtain ⟨a, ha⟩ := h4 q hq2
    exact ⟨a, vk_R.warm hW ha⟩
theorem mm_weak {p : Program} {e : Env} {g : Frame} {below : List Frame} {S1 S2 : State} (h : Steps p.tables e (g :: below) S1 S2) : Steps p.tables e below S1 S2 := by
  obtain ⟨n, h1, h2⟩ := h
  exact ⟨n, h1, fun k hk => Within.weaken (mid := [g]) (h2 k hk)⟩
set_option maxHeartbeats 1000000 in
/-- a callee is entered, walked by its own row, and left -/
theorem mm_enter {l : Launch} {G : mm_G} {K Kc : mm_M} {pc bc : Nat} {m : mm_Mem} {Qc : mm_O → mm_Mem → Prop} {p : Program} {e : Env} {s : State} {mid : MethodId} {args : Array Value} {below : List Frame} {meth : Method} {c : Code} {mc ms b0 : Nat} {ad : Nat → Nat} {A : Nat → Prop} {H : Heap} {locs : List Loc} {cells slots : Nat} {ls : Array Slot} {T : State}
    (X : Stand p l e (mm_room K mc ms) s mid args below meth c T locs cells slots) (hT : T.heap = H) (C : mm_C G K p s mid args meth c A b0) (hA : ∀ q, s.heap.size ≤ q → A q) (hR : mm_R G.1 A ad m H) (hS : va_S A s.heap H locs) (hls : ls.size = K.2.2.1)
    {y : MethodName} {mk : MethodId} {mt : Method} {ck : Code} (hF : mm_F Kc y s mk mt ck) (hy : plainName y.cls = true) (hscr : Kc.2.2.2.2.2.2.2 = none) {ig : Instr} (hd : decode K.2.1 pc = .ok (ig, 3)) {stC : List Value} (hst : (stC.map fun v => v.category).sum + (Kc.2.2.1 + 11) + Kc.2.2.2.2.1.2 ≤ K.2.2.2.2.1.2) (hdep : Kc.2.2.2.2.1.1 + 1 ≤ K.2.2.2.2.1.1) (hb1 : cells + bc ≤ mc) (hb2 : slots + bc ≤ ms)
    {as : List Value} (has : ∀ v ∈ as, mm_cv (mm_n m) v) (hlen : (lg_sl as).length ≤ Kc.2.2.1) (hM : mm_W l G Kc 0 (lv_args 0 as) [] bc m Qc) :
    (∃ (v : Option Value) (m2 : mm_Mem) (ad2 : Nat → Nat) (T2 : State) (L : List Loc), Qc (.inl v) m2 ∧ mm_R G.1 A ad2 m2 T2.heap ∧ mm_n m ≤ mm_n m2 ∧ (∀ r, r ≤ mm_n m → ad2 r = ad r) ∧ va_S A s.heap T2.heap (locs ++ L) ∧ Stand p l e (mm_room K mc ms) s mid args below meth c T2 (locs ++ L) (cells + bc) (slots + bc) ∧ (∀ w, v = some w → mm_cv (mm_n m2) w) ∧
      ∀ acts, Steps p.tables e below (doInvoke e (T.setTop (F0 mid pc ls stC)) acts mk (as.map (mm_v ad)).toArray).1 (T2.setTop (F0 mid (pc + 3) ls ((v.map (mm_v ad2)).toList ++ stC)))) ∨
    (∃ (E : String) (m2 : mm_Mem) (ad2 : Nat → Nat) (T2 : State) (L : List Loc) (q : Addr) (ce : Cell), Qc (.inr E) m2 ∧ mm_R G.1 A ad2 m2 T2.heap ∧ mm_n m ≤ mm_n m2 ∧ (∀ r, r ≤ mm_n m → ad2 r = ad r) ∧ va_S A s.heap T2.heap (locs ++ L) ∧ Stand p l e (mm_room K mc ms) s mid args below meth c T2 (locs ++ L) (cells + bc) (slots + bc) ∧ T2.heap[q]? = some ce ∧ ce.vm = .none ∧ s.vm.findClass E = some ce.cls ∧
      ∀ acts, Steps p.tables e below (doInvoke e (T.setTop (F0 mid pc ls stC)) acts mk (as.map (mm_v ad)).toArray).1 ((T2.setTop (F0 mid pc ls stC)).pushFrame (.throwing q))) := by
  obtain ⟨f1, f2, f3, f4, f5, f6, f7, f8, f9, f10, f11⟩ := hF
  obtain ⟨hx, hb, hml, -, -, -, hown, -, hts, hX, hns, -⟩ := id C
  have hdc : decode c.code (F0 mid pc ls stC).pc = .ok (ig, 3) := by rw [hb]; exact hd
  have hsz : (F0 mid pc ls stC).locals.size = c.maxLocals := hls.trans hml.symm
  have hmk : T.vm.method? mk = some mt := by rw [X.warmed.alike.method?]; exact f2
  have hpk : T.plainMethod mk := X.warmed.plainAt (fun k hk => by
    obtain ⟨k2, hk2, hn2⟩ := className_of_methodNamed f1
    cases hk.symm.trans hk2
    rw [hn2]; exact hy)
  obtain ⟨Y, hdo⟩ := X.into (g := F0 mid pc ls stC) rfl hsz hdc (mk := mk) (methk := mt) (ck := ck) (as.map (mm_v ad)).toArray (R' := mm_room Kc bc bc) hmk f3 f7 hpk hdep (by
    show 2 * 0 + (stC.map fun v => v.category).sum + (ck.maxLocals + 11) + Kc.2.2.2.2.1.2 ≤ K.2.2.2.2.1.2
    rw [f5]; omega) hb1 hb2
  have hhp : (T.calling (F0 mid pc ls stC) mk (as.map (mm_v ad)).toArray).heap = H := hT
  have hvm : (T.calling (F0 mid pc ls stC) mk (as.map (mm_v ad)).toArray).vm = T.vm := rfl
  generalize hs2 : T.calling (F0 mid pc ls stC) mk (as.map (mm_v ad)).toArray = s2 at Y hhp hvm
  have hW2 : s.WarmedH s2.vm := by rw [hvm]; exact X.warmed
  have hAA : ∀ q, mm_A ad (mm_n m) H.size q → A q := fun q hq => by
    rcases hq with ⟨r, h0, h1, rfl⟩ | hq
    · exact hR.in h0 h1
    · exact hA q (Nat.le_trans hS.1 hq)
  have hC2 : mm_C G Kc p s2 mk (as.map (mm_v ad)).toArray mt ck (mm_A ad (mm_n m) H.size) (ad 0) := by
    refine ⟨hx, f4, f5, f6, f7, f8, by rw [hW2.alike.findClass]; exact f9, f10, fun w hw => word_at hW2 (good_of_word (mm_T_good w hw)) (hts w hw), mm_Xat hX hW2 (fun a h1 h2 => by rw [hhp]; exact hS.2.1 a h1 h2) (fun q _ hq => hAA q hq), fun q cell hq hc => ?_, by rw [hscr]; trivial⟩
    rw [hhp] at hc
    rcases hq with ⟨r, h0, h1, rfl⟩ | hq
    · exact hR.plain h0 h1 hc
    · exact absurd (Array.getElem?_eq_some_iff.mp hc).1 (Nat.not_lt.mpr hq)
  have hW := hM p e s2 mk (as.map (mm_v ad)).toArray (.java (F0 mid pc ls stC) :: below) mt ck bc bc (mm_n m) ad ad (mm_A ad (mm_n m) H.size) s2.heap [] 0 0 _ hC2 (fun q hq => Or.inr (by rw [hhp] at hq; exact hq)) (Nat.le_refl _) (fun _ _ => rfl) (by rw [hhp]; exact hR.self H.size) va_S.rf (by rw [← mm_la_map]; exact lv_entry (as.map (mm_v ad)) (by rw [mm_sl_len]; exact hlen)) (fun q hq => has _ (mm_la_mem as 0 q hq)) (fun v hv => by cases hv) (by omega) (by omega)
  rw [List.map_nil, ← lg_entry_eq] at hW
  rw [← f5] at hW
  obtain ⟨t, hst1, o, hrun, hend, ⟨u, m2, ad2, hQ, hR2, hn2, had2, hF2, hout⟩, L, hWt, hsm, hL⟩ := hW _ (by rw [← hs2]; rfl) Y
  have hR3 := hR2.wide hAA
  have hS3 : va_S A s.heap t.heap (locs ++ L) := by
    obtain ⟨z1, z2⟩ := hF2
    rw [hhp] at z1 z2
    refine ⟨Nat.le_trans hS.1 z1, fun q h1 h2 => ?_, fun q hq => ?_⟩
    · rw [z2 q (Nat.lt_of_lt_of_le h1 hS.1) (fun h3 => h2 (hAA q h3))]
      exact hS.2.1 q h1 h2
    · rcases List.mem_append.mp hq with h | h
      · exact hS.2.2 q h
      · exact hAA _ (hL q h)
  subst hs2
  rcases u with v | E
  · left
    obtain ⟨rfl, hcv⟩ := hout
    obtain ⟨T2, X2, -, -, ht⟩ := X.outOf (g := F0 mid pc ls stC) rfl hdc hend hWt hsm
    have hh2 : T2.heap = t.heap := by rw [ht]; rfl
    refine ⟨v, m2, ad2, T2, L, hQ, by rw [hh2]; exact hR3, hn2, had2, by rw [hh2]; exact hS3, X2, hcv, fun acts => ?_⟩
    rw [hdo acts]
    have h9 := mm_weak hst1
    rw [ht] at h9
    exact h9
  · right
    obtain ⟨q, ce, rfl, hce, hcv, hcl⟩ := hout
    obtain ⟨T2, X2, -, -, ht⟩ := X.outOfThrown (g := F0 mid pc ls stC) rfl hend hWt hsm
    have hh2 : T2.heap = t.heap := by rw [ht]; rfl
    refine ⟨E, m2, ad2, T2, L, q, ce, hQ, by rw [hh2]; exact hR3, hn2, had2, by rw [hh2]; exact hS3, X2, by rw [hh2]; exact hce, hcv, ?_, fun acts => ?_⟩
    · have h8 : T.vm.findClass E = some ce.cls := hcl
      rw [X.warmed.alike.findClass] at h8
      exact h8
    · rw [hdo acts]
      have h9 := mm_weak hst1
      rw [ht] at h9
      exact h9
abbrev mm_is (u0 : mm_O) (m0 : mm_Mem) : mm_O → mm_Mem → Prop := fun u m => u = u0 ∧ m = m0
section MMV
variable {l : Launch} {G : mm_G} {K : mm_M} {pc : Nat} {lv lv2 : List (Nat × Value)} {st : List Value} {b : Nat} {m : mm_Mem} {Q : mm_O → mm_Mem → Prop} {v : Value}
theorem mm_aload_nV (j : Nat) {k : Fin 4} {i : Nat} (hd : decode K.2.1 pc = .ok (.aload_n k, 1)) (hi : (k : Nat) = i) (hj : lv[j]? = some (i, v)) (hv : v = .null ∨ ∃ r, v = .ref r) (h : mm_W l G K (pc + 1) lv (v :: st) b m Q) : mm_W l G K pc lv st b m Q := by
  rcases hv with rfl | ⟨r, rfl⟩
  · exact mm_aload_nN j hd hi hj h
  · exact mm_aload_n j hd hi hj h
theorem mm_aloadV (j : Nat) {i : Nat} (hd : decode K.2.1 pc = .ok (.aload i, 2)) (hj : lv[j]? = some (i, v)) (hv : v = .null ∨ ∃ r, v = .ref r) (h : mm_W l G K (pc + 2) lv (v :: st) b m Q) : mm_W l G K pc lv st b m Q := by
  rcases hv with rfl | ⟨r, rfl⟩
  · exact mm_aloadN j hd hj h
  · exact mm_aload j hd hj h
theorem mm_astore_nV {k : Fin 4} {i : Nat} (hd : decode K.2.1 pc = .ok (.astore_n k, 1)) (hi : (k : Nat) = i) (hn : i < K.2.2.1) (hl : (i, v) :: lv.filter (fun q => !(q.1 == i) && !(q.1 + 1 == i && q.2.category == 2)) = lv2) (hv : v = .null ∨ ∃ r, v = .ref r) (h : mm_W l G K (pc + 1) lv2 st b m Q) : mm_W l G K pc lv (v :: st) b m Q := by
  rcases hv with rfl | ⟨r, rfl⟩
  · exact mm_astore_nN hd hi hn hl h
  · exact mm_astore_n hd hi hn hl h
theorem mm_astoreV {i : Nat} (hd : decode K.2.1 pc = .ok (.astore i, 2)) (hn : i < K.2.2.1) (hl : (i, v) :: lv.filter (fun q => !(q.1 == i) && !(q.1 + 1 == i && q.2.category == 2)) = lv2) (hv : v = .null ∨ ∃ r, v = .ref r) (h : mm_W l G K (pc + 2) lv2 st b m Q) : mm_W l G K pc lv (v :: st) b m Q := by
  rcases hv with rfl | ⟨r, rfl⟩
  · exact mm_astoreN hd hn hl h
  · exact mm_astore hd hn hl h
theorem mm_ifnonnullV {off : Int} {tgt : Nat} (hd : decode K.2.1 pc = .ok (.ifnonnull off, 3)) (ht : (pc : Int) + off = (tgt : Int)) (hv : v = .null ∨ ∃ r, v = .ref r) (k1 : ∀ r, v = .ref r → mm_W l G K tgt lv st b m Q) (k2 : v = .null → mm_W l G K (pc + 3) lv st b m Q) : mm_W l G K pc lv (v :: st) b m Q := by
  rcases hv with rfl | ⟨r, rfl⟩
  · exact mm_ifnonnullN hd (k2 rfl)
  · exact mm_ifnonnull hd ht (k1 r rfl)
theorem mm_ifnullV {off : Int} {tgt : Nat} (hd : decode K.2.1 pc = .ok (.ifnull off, 3)) (ht : (pc : Int) + off = (tgt : Int)) (hv : v = .null ∨ ∃ r, v = .ref r) (k1 : ∀ r, v = .ref r → mm_W l G K (pc + 3) lv st b m Q) (k2 : v = .null → mm_W l G K tgt lv st b m Q) : mm_W l G K pc lv (v :: st) b m Q := by
  rcases hv with rfl | ⟨r, rfl⟩
  · exact mm_ifnullN hd ht (k2 rfl)
  · exact mm_ifnull hd (k1 r rfl)
theorem mm_minL {idx : Nat} {x y : Int64} (hl : Cond.methodLink K.1 idx Lib.MathLoose.min_long.x ∈ mm_T) (hs : Cond.static Lib.MathLoose.min_long.x ∈ mm_T) (hi : Cond.initialized "java/lang/Math" ∈ mm_T) (hc : Cond.code Lib.MathLoose.min_long.x Lib.MathLoose.min_long.code 4 (some .long) ∈ mm_T) (hd : decode K.2.1 pc = .ok (.invokestatic idx, 3)) (hdep : 1 ≤ K.2.2.2.2.1.1) (hst : (st.map fun v => v.category).sum + 15 ≤ K.2.2.2.2.1.2) (h : mm_W l G K (pc + 3) lv (.long (if y < x then y else x) :: st) b m Q) : mm_W l G K pc lv (.long y :: .long x :: st) b m Q := by
  intro p e s mid args below meth c mc ms n0 ad0 ad A H locs cells slots ls C hA hn had hR hS hls hlc hsc hb1 hb2
  obtain ⟨hx, hb, -, -, -, -, hown, -, hts, -⟩ := id C
  have hcs : ((st.map (mm_v ad)).map fun v => v.category).sum + 15 ≤ K.2.2.2.2.1.2 := by
    rw [mm_cat_map]
    exact hst
  exact va_mmin_long hx hb (C.2.2.1.trans hls.1.symm) hown (hts _ hl) (hts _ hs) (hts _ hi) (hts _ hc) hdep hcs (show cells ≤ mc by omega) (show slots ≤ ms by omega) hd (h p e s mid args below meth c mc ms n0 ad0 ad A H locs cells slots ls C hA hn had hR hS hls hlc (mm_sc trivial (mm_sd (mm_sd hsc))) hb1 hb2)
end MMV
/-- what a program decides of a callee, once -/
def mm_cal (Kc : mm_M) (y : MethodName) (np : Nat) : Prop := mm_cw Kc y ∈ mm_T ∧ Kc.1 = y.cls ∧ Kc.2.2.2.2.2.2.1 = y.name ∧ plainName y.cls = true ∧ Kc.2.2.2.2.2.2.2 = none ∧ (y.cls ≠ "java/lang/invoke/MethodHandle" ∧ y.cls ≠ "java/lang/invoke/VarHandle") ∧ (parseMethodDescriptor y.desc).map (fun d => d.parameters.length) = some np ∧ Cond.initialized y.cls ∈ mm_T
theorem mm_np {y : MethodName} {np : Nat} (h : (parseMethodDescriptor y.desc).map (fun d => d.parameters.length) = some np) {sig : MethodDescriptor} (hs : parseMethodDescriptor y.desc = some sig) : np = sig.parameters.length := by
  rw [hs] at h
  exact (Option.some.inj h).symm
section MMC
variable {l : Launch} {G : mm_G} {K Kc : mm_M} {pc : Nat} {lv lv2 : List (Nat × Value)} {st as : List Value} {b bc b2 : Nat} {m : mm_Mem} {Q Qc : mm_O → mm_Mem → Prop}
theorem mm_rest {st0 rest : List Value} {n : Nat} (h : ∀ v ∈ st0 ++ rest, mm_cv n v) : ∀ v ∈ rest, mm_cv n v := fun v hv => h v (List.mem_append_right _ hv)
/-- a call of a static method -/
theorem mm_callS {y : MethodName} {idx np : Nat} (hc : mm_cal Kc y np) (hl : Cond.methodLink K.1 idx y ∈ mm_T) (hs : Cond.static y ∈ mm_T) (hd : decode K.2.1 pc = .ok (.invokestatic idx, 3)) (hnp : as.length = np) (hst : (st.map fun v => v.category).sum + (Kc.2.2.1 + 11) + Kc.2.2.2.2.1.2 ≤ K.2.2.2.2.1.2) (hdep : Kc.2.2.2.2.1.1 + 1 ≤ K.2.2.2.2.1.1) (hlen : (lg_sl as).length ≤ Kc.2.2.1) (hbd : bc + b2 ≤ b) (hM : mm_W l G Kc 0 (lv_args 0 as) [] bc m Qc)
    (hx1 : ∀ E m2, Qc (.inr E) m2 → mm_WX l G K pc lv E b2 m2 Q) (h : ∀ v m2, Qc (.inl v) m2 → mm_W l G K (pc + 3) lv (v.toList ++ st) b2 m2 Q) : mm_W l G K pc lv (as.reverse ++ st) b m Q := by
  intro p e s mid args below meth c mc ms n0 ad0 ad A H locs cells slots ls C hA hn had hR hS hls hlc hsc hb1 hb2
  obtain ⟨hx, hb, hml, -, -, -, hown, -, hts, -⟩ := id C
  obtain ⟨c1, c2, c3, c4, c5, c6, c7, c8⟩ := hc
  obtain ⟨mk, mt, ck, hF⟩ := mm_F.of (hts _ c1) c2 c3
  intro T hT X
  obtain ⟨kP, hkP, -⟩ := className_of_methodNamed hF.1
  obtain ⟨vm1, X1, st1⟩ := X.invokestatic hx hown (hts _ hl) hF.1 hF.2.1 (Cond.static_spec hF.1 hF.2.1 (hts _ hs)) hkP (Cond.initialized_spec (findClass_of_methodNamed hF.1) hkP (hts _ c8)) c6 (g := F0 mid pc ls ((as.reverse ++ st).map (mm_v ad))) rfl (argsL := as.map (mm_v ad)) (rest := st.map (mm_v ad)) (by rw [List.length_map, hnp]; exact mm_np c7 hF.2.2.2.2.2.2.2.2.2.2) (by show (as.reverse ++ st).map _ = _; rw [List.map_append, List.map_reverse]) (by rw [hb]; exact hd)
  rcases mm_enter (stC := st.map (mm_v ad)) X1 hT C hA hR hS hls.1 hF c4 c5 hd (by rw [mm_cat_map]; exact hst) hdep (by omega) (by omega) (as := as) (fun v hv => hsc v (List.mem_append_left _ (List.mem_reverse.mpr hv))) hlen hM with ⟨v, m2, ad2, T2, L, hQ, hR2, hn2, had2, hS2, X2, hcv, hgo⟩ | ⟨E, m2, ad2, T2, L, q, ce, hQ, hR2, hn2, had2, hS2, X2, hce, hcv, hcl, hgo⟩
  · have hsr := mm_rest hsc
    obtain ⟨t, a1, a2⟩ := h v m2 hQ p e s mid args below meth c mc ms n0 ad0 ad2 A T2.heap (locs ++ L) (cells + bc) (slots + bc) ls C hA (Nat.le_trans hn hn2) (fun r hr => (had2 r (Nat.le_trans hr hn)).trans (had r hr)) hR2 hS2 (by rw [mm_lv_ag had2 hlc]; exact hls) (fun q hq => mm_cv_mono hn2 (hlc q hq)) (fun w hw => by
      rcases List.mem_append.mp hw with hw | hw
      · exact hcv w (Option.mem_toList.mp hw)
      · exact mm_cv_mono hn2 (hsr w hw)) (by omega) (by omega) T2 rfl X2
    refine ⟨t, st1 t (fun acts => (hgo acts).trans ?_), a2⟩
    rw [List.map_append, mm_st_ag had2 hsr] at a1
    rw [show (v.map (mm_v ad2)).toList = v.toList.map (mm_v ad2) by cases v <;> rfl]
    exact a1
  · obtain ⟨t, a1, a2⟩ := hx1 E m2 hQ p e s mid args below meth c mc ms n0 ad0 ad2 A T2.heap (locs ++ L) (cells + bc) (slots + bc) ls C hA (Nat.le_trans hn hn2) (fun r hr => (had2 r (Nat.le_trans hr hn)).trans (had r hr)) hR2 hS2 (by rw [mm_lv_ag had2 hlc]; exact hls) (fun q hq => mm_cv_mono hn2 (hlc q hq)) (by omega) (by omega) q ce (st.map (mm_v ad)) hce hcv hcl T2 rfl X2
    exact ⟨t, st1 t (fun acts => (hgo acts).trans a1), a2⟩
/-- a call of an instance's method -/
theorem mm_callV {y : MethodName} {idx np r ci : Nat} {fs : List Value} {qc : vw_C} (hc : mm_cal Kc y np) (hl : Cond.methodLink K.1 idx y ∈ mm_T) (hi : Cond.instanceMethod y ∈ mm_T) (hse : Cond.selects y.cls y y ∈ mm_T) (hqc : mm_cl[ci]? = some qc) (hqn : qc.1 = y.cls) (hd : decode K.2.1 pc = .ok (.invokevirtual idx, 3)) (hnp : as.length = np) (hst : (st.map fun v => v.category).sum + (Kc.2.2.1 + 11) + Kc.2.2.2.2.1.2 ≤ K.2.2.2.2.1.2) (hdep : Kc.2.2.2.2.1.1 + 1 ≤ K.2.2.2.2.1.1) (hlen : (lg_sl (.ref r :: as)).length ≤ Kc.2.2.1) (hbd : bc + b2 ≤ b) (hm : m r = .inr (ci, fs)) (h0 : r ≠ 0) (hM : mm_W l G Kc 0 (lv_args 0 (.ref r :: as)) [] bc m Qc)
    (hx1 : ∀ E m2, Qc (.inr E) m2 → mm_WX l G K pc lv E b2 m2 Q) (h : ∀ v m2, Qc (.inl v) m2 → mm_W l G K (pc + 3) lv (v.toList ++ st) b2 m2 Q) : mm_W l G K pc lv (as.reverse ++ .ref r :: st) b m Q := by
  intro p e s mid args below meth c mc ms n0 ad0 ad A H locs cells slots ls C hA hn had hR hS hls hlc hsc hb1 hb2
  obtain ⟨hx, hb, hml, -, -, -, hown, -, hts, ⟨hK, -⟩, -⟩ := id C
  obtain ⟨c1, c2, c3, c4, c5, c6, c7, c8⟩ := hc
  obtain ⟨mk, mt, ck, hF⟩ := mm_F.of (hts _ c1) c2 c3
  obtain ⟨mk2, mt2, hnm2, hmt2, hstM, habM⟩ := Cond.instanceMethod_spec (hts _ hi)
  cases hF.1.symm.trans hnm2
  cases hF.2.1.symm.trans hmt2
  obtain ⟨cellB, hcB, hoB, hclB⟩ := va_recv hK hR.1 hqc (mm_at hR.2.2.1 h0 hm (mm_ni hqc))
  obtain ⟨c2', r2, m2', q1, q2, q3, q4, kP, hkP, hkPi⟩ := Cond.selects_spec (hts _ hse)
  rw [hqn] at hclB
  cases hclB.symm.trans q1
  cases (State.methodFound?_of_named hF.1 c6).symm.trans q2
  cases hF.1.symm.trans q3
  intro T hT X
  have hselP : selectMethod e.platform s.vm cellB.cls mk = .method mk := by rw [Launch.admits_selectMethod X.admits]; exact q4
  obtain ⟨vm1, X1, st1⟩ := X.invokevirtual hx hown (hts _ hl) hF.1 hF.2.1 hstM hkP hkPi c6 (a := ad r) (cell := cellB) (by rw [hT]; exact hcB) (fun z h => by rw [h] at hoB; cases hoB) hselP hF.2.1 habM hkP hkPi (g := F0 mid pc ls ((as.reverse ++ .ref r :: st).map (mm_v ad))) rfl (argsL := as.map (mm_v ad)) (rest := st.map (mm_v ad)) (by rw [List.length_map, hnp]; exact mm_np c7 hF.2.2.2.2.2.2.2.2.2.2) (by show (as.reverse ++ .ref r :: st).map _ = _; rw [List.map_append, List.map_reverse]; rfl) (by rw [hb]; exact hd)
  have hsr : ∀ v ∈ st, mm_cv (mm_n m) v := fun v hv => hsc v (List.mem_append_right _ (List.mem_cons_of_mem _ hv))
  rcases mm_enter (stC := st.map (mm_v ad)) X1 hT C hA hR hS hls.1 hF c4 c5 hd (by rw [mm_cat_map]; exact hst) hdep (by omega) (by omega) (as := .ref r :: as) (mm_sc (hsc _ (List.mem_append_right _ List.mem_cons_self)) (fun v hv => hsc v (List.mem_append_left _ (List.mem_reverse.mpr hv)))) hlen hM with ⟨v, m2, ad2, T2, L, hQ, hR2, hn2, had2, hS2, X2, hcv, hgo⟩ | ⟨E, m2, ad2, T2, L, q, ce, hQ, hR2, hn2, had2, hS2, X2, hce, hcv, hcl, hgo⟩
  · obtain ⟨t, a1, a2⟩ := h v m2 hQ p e s mid args below meth c mc ms n0 ad0 ad2 A T2.heap (locs ++ L) (cells + bc) (slots + bc) ls C hA (Nat.le_trans hn hn2) (fun r hr => (had2 r (Nat.le_trans hr hn)).trans (had r hr)) hR2 hS2 (by rw [mm_lv_ag had2 hlc]; exact hls) (fun q hq => mm_cv_mono hn2 (hlc q hq)) (fun w hw => by
      rcases List.mem_append.mp hw with hw | hw
      · exact hcv w (Option.mem_toList.mp hw)
      · exact mm_cv_mono hn2 (hsr w hw)) (by omega) (by omega) T2 rfl X2
    refine ⟨t, st1 t (fun acts => (hgo acts).trans ?_), a2⟩
    rw [List.map_append, mm_st_ag had2 hsr] at a1
    rw [show (v.map (mm_v ad2)).toList = v.toList.map (mm_v ad2) by cases v <;> rfl]
    exact a1
  · obtain ⟨t, a1, a2⟩ := hx1 E m2 hQ p e s mid args below meth c mc ms n0 ad0 ad2 A T2.heap (locs ++ L) (cells + bc) (slots + bc) ls C hA (Nat.le_trans hn hn2) (fun r hr => (had2 r (Nat.le_trans hr hn)).trans (had r hr)) hR2 hS2 (by rw [mm_lv_ag had2 hlc]; exact hls) (fun q hq => mm_cv_mono hn2 (hlc q hq)) (by omega) (by omega) q ce (st.map (mm_v ad)) hce hcv hcl T2 rfl X2
    exact ⟨t, st1 t (fun acts => (hgo acts).trans a1), a2⟩
/-- a constructor's call -/
theorem mm_callI {y : MethodName} {idx np r : Nat} (hc : mm_cal Kc y np) (hyi : y.name = "<init>") (hh : Kc.2.2.2.2.2.1 = []) (hrt : Kc.2.2.2.1 = none) (hl : Cond.methodLink K.1 idx y ∈ mm_T) (hi : Cond.instanceMethod y ∈ mm_T) (hd : decode K.2.1 pc = .ok (.invokespecial idx, 3)) (hnp : as.length = np) (hst : (st.map fun v => v.category).sum + (Kc.2.2.1 + 11) + Kc.2.2.2.2.1.2 ≤ K.2.2.2.2.1.2) (hdep : Kc.2.2.2.2.1.1 + 1 ≤ K.2.2.2.2.1.1) (hlen : (lg_sl (.ref r :: as)).length ≤ Kc.2.2.1) (hbd : bc + b2 ≤ b) (hM : mm_W l G Kc 0 (lv_args 0 (.ref r :: as)) [] bc m Qc)
    (hx1 : ∀ E m2, Qc (.inr E) m2 → mm_WX l G K pc lv E b2 m2 Q) (h : ∀ v m2, Qc (.inl v) m2 → mm_W l G K (pc + 3) lv (v.toList ++ st) b2 m2 Q) : mm_W l G K pc lv (as.reverse ++ .ref r :: st) b m Q := by
  intro p e s mid args below meth c mc ms n0 ad0 ad A H locs cells slots ls C hA hn had hR hS hls hlc hsc hb1 hb2
  obtain ⟨hx, hb, hml, -, -, -, hown, -, hts, ⟨hK, -⟩, -⟩ := id C
  obtain ⟨c1, c2, c3, c4, c5, c6, c7, c8⟩ := hc
  obtain ⟨mk, mt, ck, hF⟩ := mm_F.of (hts _ c1) c2 c3
  have hcode : (Cond.code y Kc.2.1 Kc.2.2.1 none).before args s = true := by
    have h9 := hts _ c1
    unfold mm_cw at h9
    rw [hh, hrt] at h9
    exact h9
  intro T hT X
  have hpl : e.platform.magicAccessors = ({} : Platform).magicAccessors := by rw [X.admits.platform]
  obtain ⟨mk2, mt2, cM, kP, vm1, hnm2, hmt2, -, -, -, -, -, -, hW1, st1⟩ := Steps.initColdArgs (e := e) X.here hx X.warmed hpl hown hyi c6 (hts _ hl) (hts _ hi) hcode (f := F0 mid pc ls ((as.reverse ++ .ref r :: st).map (mm_v ad))) rfl (argsL := as.map (mm_v ad)) (a := ad r) (rest := st.map (mm_v ad)) (fun sig hs => by rw [List.length_map, hnp]; exact mm_np c7 hs) (by show (as.reverse ++ .ref r :: st).map _ = _; rw [List.map_append, List.map_reverse]; rfl) (by rw [hb]; exact hd)
  cases hF.1.symm.trans hnm2
  have X1 := X.noted hW1
  have hsr : ∀ v ∈ st, mm_cv (mm_n m) v := fun v hv => hsc v (List.mem_append_right _ (List.mem_cons_of_mem _ hv))
  rcases mm_enter (stC := st.map (mm_v ad)) X1 hT C hA hR hS hls.1 hF c4 c5 hd (by rw [mm_cat_map]; exact hst) hdep (by omega) (by omega) (as := .ref r :: as) (mm_sc (hsc _ (List.mem_append_right _ List.mem_cons_self)) (fun v hv => hsc v (List.mem_append_left _ (List.mem_reverse.mpr hv)))) hlen hM with ⟨v, m2, ad2, T2, L, hQ, hR2, hn2, had2, hS2, X2, hcv, hgo⟩ | ⟨E, m2, ad2, T2, L, q, ce, hQ, hR2, hn2, had2, hS2, X2, hce, hcv, hcl, hgo⟩
  · obtain ⟨t, a1, a2⟩ := h v m2 hQ p e s mid args below meth c mc ms n0 ad0 ad2 A T2.heap (locs ++ L) (cells + bc) (slots + bc) ls C hA (Nat.le_trans hn hn2) (fun r hr => (had2 r (Nat.le_trans hr hn)).trans (had r hr)) hR2 hS2 (by rw [mm_lv_ag had2 hlc]; exact hls) (fun q hq => mm_cv_mono hn2 (hlc q hq)) (fun w hw => by
      rcases List.mem_append.mp hw with hw | hw
      · exact hcv w (Option.mem_toList.mp hw)
      · exact mm_cv_mono hn2 (hsr w hw)) (by omega) (by omega) T2 rfl X2
    refine ⟨t, st1 t (fun acts => (hgo acts).trans ?_), a2⟩
    rw [List.map_append, mm_st_ag had2 hsr] at a1
    rw [show (v.map (mm_v ad2)).toList = v.toList.map (mm_v ad2) by cases v <;> rfl]
    exact a1
  · obtain ⟨t, a1, a2⟩ := hx1 E m2 hQ p e s mid args below meth c mc ms n0 ad0 ad2 A T2.heap (locs ++ L) (cells + bc) (slots + bc) ls C hA (Nat.le_trans hn hn2) (fun r hr => (had2 r (Nat.le_trans hr hn)).trans (had r hr)) hR2 hS2 (by rw [mm_lv_ag had2 hlc]; exact hls) (fun q hq => mm_cv_mono hn2 (hlc q hq)) (by omega) (by omega) q ce (st.map (mm_v ad)) hce hcv hcl T2 rfl X2
    exact ⟨t, st1 t (fun acts => (hgo acts).trans a1), a2⟩
/-- an exception that no handler of the method covers leaves it -/
theorem mm_outX {E : String} (hh : (tableOf K.2.2.2.2.2.1).all (fun x => !covers x pc) = true) (hq : Q (.inr E) m) : mm_WX l G K pc lv E b m Q := by
  intro p e s mid args below meth c mc ms n0 ad0 ad A H locs cells slots ls C hA hn had hR hS hls hlc hb1 hb2 q ce stC hce hcv hcl T hT X
  obtain ⟨-, -, -, -, hlk, -, -, hex, -⟩ := id C
  obtain ⟨st1, hrun, hend, hW, hsm⟩ := X.leaveThrown q (g := F0 mid pc ls stC) rfl rfl rfl (outside_of_table hex hh) hlk
  refine ⟨_, st1, .threw q, hrun, hend, ⟨.inr E, m, ad, hq, by show mm_R G.1 A ad m T.heap; rw [hT]; exact hR, hn, had, hS.F hT, q, ce, rfl, by show T.heap[q]? = _; rw [hT]; exact hce, hcv, hcl⟩, locs, hW, hsm.mono (by omega) (by omega), hS.2.2⟩
end MMC
end
