section
-- ===== PART A: goes FIRST, ahead of the names: the tables' words, and 'selects' of the private methods out of them =====
/-- a private method of a class that the tables say can be made, by its rows of tables_1 -/
def lw_okq (q : MethodName × Nat) : Prop := (q.1.cls ≠ "java/lang/invoke/MethodHandle" ∧ q.1.cls ≠ "java/lang/invoke/VarHandle") ∧ Cond.instantiable q.1.cls q.2 ∈ tables_1 ∧ Cond.privateMethod q.1 ∈ tables_1 ∧ Cond.instanceMethod q.1 ∈ tables_1
theorem lw_p0 : lw_okq (⟨"java/lang/Throwable", "fillInStackTrace", "(I)Ljava/lang/Throwable;"⟩, 6) := ⟨⟨by decide +kernel, by decide +kernel⟩, List.mem_of_getElem? (i := 344) (by decide +kernel), List.mem_of_getElem? (i := 342) (by decide +kernel), List.mem_of_getElem? (i := 343) (by decide +kernel)⟩
theorem lw_p1 : lw_okq (⟨"PartBox", "isTypedNameNew", "()Z"⟩, 5) := ⟨⟨by decide +kernel, by decide +kernel⟩, List.mem_of_getElem? (i := 20) (by decide +kernel), List.mem_of_getElem? (i := 459) (by decide +kernel), List.mem_of_getElem? (i := 460) (by decide +kernel)⟩
theorem lw_p2 : lw_okq (⟨"PartBox", "enter", "(III)I"⟩, 5) := ⟨⟨by decide +kernel, by decide +kernel⟩, List.mem_of_getElem? (i := 20) (by decide +kernel), List.mem_of_getElem? (i := 475) (by decide +kernel), List.mem_of_getElem? (i := 476) (by decide +kernel)⟩
theorem lw_p3 : lw_okq (⟨"PartBox$Bytes", "holds", "(II)Z"⟩, 2) := ⟨⟨by decide +kernel, by decide +kernel⟩, List.mem_of_getElem? (i := 28) (by decide +kernel), List.mem_of_getElem? (i := 489) (by decide +kernel), List.mem_of_getElem? (i := 490) (by decide +kernel)⟩
theorem lw_p4 : lw_okq (⟨"PartBox$Box", "writeEntry", "(LPartBox$Bytes;LPartBox$Entry;)V"⟩, 3) := ⟨⟨by decide +kernel, by decide +kernel⟩, List.mem_of_getElem? (i := 58) (by decide +kernel), List.mem_of_getElem? (i := 589) (by decide +kernel), List.mem_of_getElem? (i := 590) (by decide +kernel)⟩
theorem lw_p5 : lw_okq (⟨"PartBox$Box", "writeFacts", "(LPartBox$Bytes;LPartBox$Entry;)V"⟩, 3) := ⟨⟨by decide +kernel, by decide +kernel⟩, List.mem_of_getElem? (i := 58) (by decide +kernel), List.mem_of_getElem? (i := 598) (by decide +kernel), List.mem_of_getElem? (i := 599) (by decide +kernel)⟩
theorem lw_p6 : lw_okq (⟨"PartBox$Box", "writeDirectoryHead", "(LPartBox$Bytes;LPartBox$Entry;I)V"⟩, 3) := ⟨⟨by decide +kernel, by decide +kernel⟩, List.mem_of_getElem? (i := 58) (by decide +kernel), List.mem_of_getElem? (i := 602) (by decide +kernel), List.mem_of_getElem? (i := 603) (by decide +kernel)⟩
theorem lw_p7 : lw_okq (⟨"PartBox$Box", "writeEnd", "(LPartBox$Bytes;I)V"⟩, 3) := ⟨⟨by decide +kernel, by decide +kernel⟩, List.mem_of_getElem? (i := 58) (by decide +kernel), List.mem_of_getElem? (i := 607) (by decide +kernel), List.mem_of_getElem? (i := 608) (by decide +kernel)⟩
theorem lw_p8 : lw_okq (⟨"PartBox$Reader", "note", "(III)Z"⟩, 13) := ⟨⟨by decide +kernel, by decide +kernel⟩, List.mem_of_getElem? (i := 117) (by decide +kernel), List.mem_of_getElem? (i := 624) (by decide +kernel), List.mem_of_getElem? (i := 625) (by decide +kernel)⟩
theorem lw_p9 : lw_okq (⟨"PartBox$Reader", "examineEnd", "()Z"⟩, 13) := ⟨⟨by decide +kernel, by decide +kernel⟩, List.mem_of_getElem? (i := 117) (by decide +kernel), List.mem_of_getElem? (i := 628) (by decide +kernel), List.mem_of_getElem? (i := 629) (by decide +kernel)⟩
theorem lw_p10 : lw_okq (⟨"PartBox$Reader", "lastEnd", "()I"⟩, 13) := ⟨⟨by decide +kernel, by decide +kernel⟩, List.mem_of_getElem? (i := 117) (by decide +kernel), List.mem_of_getElem? (i := 632) (by decide +kernel), List.mem_of_getElem? (i := 633) (by decide +kernel)⟩
theorem lw_p11 : lw_okq (⟨"PartBox$Reader", "examineDirectory", "(I)Z"⟩, 13) := ⟨⟨by decide +kernel, by decide +kernel⟩, List.mem_of_getElem? (i := 117) (by decide +kernel), List.mem_of_getElem? (i := 649) (by decide +kernel), List.mem_of_getElem? (i := 650) (by decide +kernel)⟩
theorem lw_p12 : lw_okq (⟨"PartBox$Reader", "directoryFault", "(III)I"⟩, 13) := ⟨⟨by decide +kernel, by decide +kernel⟩, List.mem_of_getElem? (i := 117) (by decide +kernel), List.mem_of_getElem? (i := 653) (by decide +kernel), List.mem_of_getElem? (i := 654) (by decide +kernel)⟩
theorem lw_p13 : lw_okq (⟨"PartBox$Reader", "isNamedBefore", "(I)Z"⟩, 13) := ⟨⟨by decide +kernel, by decide +kernel⟩, List.mem_of_getElem? (i := 117) (by decide +kernel), List.mem_of_getElem? (i := 669) (by decide +kernel), List.mem_of_getElem? (i := 670) (by decide +kernel)⟩
theorem lw_p14 : lw_okq (⟨"PartBox$Reader", "examineEntries", "()Z"⟩, 13) := ⟨⟨by decide +kernel, by decide +kernel⟩, List.mem_of_getElem? (i := 117) (by decide +kernel), List.mem_of_getElem? (i := 674) (by decide +kernel), List.mem_of_getElem? (i := 675) (by decide +kernel)⟩
theorem lw_p15 : lw_okq (⟨"PartBox$Reader", "isHeadSound", "(LPartBox$Finding;)Z"⟩, 13) := ⟨⟨by decide +kernel, by decide +kernel⟩, List.mem_of_getElem? (i := 117) (by decide +kernel), List.mem_of_getElem? (i := 682) (by decide +kernel), List.mem_of_getElem? (i := 683) (by decide +kernel)⟩
def lw_privs_1 : List (MethodName × Nat) := [(⟨"java/lang/Throwable", "fillInStackTrace", "(I)Ljava/lang/Throwable;"⟩, 6), (⟨"PartBox", "isTypedNameNew", "()Z"⟩, 5), (⟨"PartBox", "enter", "(III)I"⟩, 5), (⟨"PartBox$Bytes", "holds", "(II)Z"⟩, 2), (⟨"PartBox$Box", "writeEntry", "(LPartBox$Bytes;LPartBox$Entry;)V"⟩, 3), (⟨"PartBox$Box", "writeFacts", "(LPartBox$Bytes;LPartBox$Entry;)V"⟩, 3), (⟨"PartBox$Box", "writeDirectoryHead", "(LPartBox$Bytes;LPartBox$Entry;I)V"⟩, 3), (⟨"PartBox$Box", "writeEnd", "(LPartBox$Bytes;I)V"⟩, 3), (⟨"PartBox$Reader", "note", "(III)Z"⟩, 13), (⟨"PartBox$Reader", "examineEnd", "()Z"⟩, 13), (⟨"PartBox$Reader", "lastEnd", "()I"⟩, 13), (⟨"PartBox$Reader", "examineDirectory", "(I)Z"⟩, 13), (⟨"PartBox$Reader", "directoryFault", "(III)I"⟩, 13), (⟨"PartBox$Reader", "isNamedBefore", "(I)Z"⟩, 13), (⟨"PartBox$Reader", "examineEntries", "()Z"⟩, 13), (⟨"PartBox$Reader", "isHeadSound", "(LPartBox$Finding;)Z"⟩, 13)]
theorem lw_r1 : ∀ q ∈ lw_privs_1, lw_okq q := List.forall_mem_cons.mpr ⟨lw_p0, List.forall_mem_cons.mpr ⟨lw_p1, List.forall_mem_cons.mpr ⟨lw_p2, List.forall_mem_cons.mpr ⟨lw_p3, List.forall_mem_cons.mpr ⟨lw_p4, List.forall_mem_cons.mpr ⟨lw_p5, List.forall_mem_cons.mpr ⟨lw_p6, List.forall_mem_cons.mpr ⟨lw_p7, List.forall_mem_cons.mpr ⟨lw_p8, List.forall_mem_cons.mpr ⟨lw_p9, List.forall_mem_cons.mpr ⟨lw_p10, List.forall_mem_cons.mpr ⟨lw_p11, List.forall_mem_cons.mpr ⟨lw_p12, List.forall_mem_cons.mpr ⟨lw_p13, List.forall_mem_cons.mpr ⟨lw_p14, List.forall_mem_cons.mpr ⟨lw_p15, fun _ h => absurd h List.not_mem_nil⟩⟩⟩⟩⟩⟩⟩⟩⟩⟩⟩⟩⟩⟩⟩⟩
theorem lw_p16 : lw_okq (⟨"PartBox$Reader", "areSame", "(III)Z"⟩, 13) := ⟨⟨by decide +kernel, by decide +kernel⟩, List.mem_of_getElem? (i := 117) (by decide +kernel), List.mem_of_getElem? (i := 692) (by decide +kernel), List.mem_of_getElem? (i := 693) (by decide +kernel)⟩
theorem lw_p17 : lw_okq (⟨"PartBox$Reader", "areBytesSound", "(LPartBox$Finding;)Z"⟩, 13) := ⟨⟨by decide +kernel, by decide +kernel⟩, List.mem_of_getElem? (i := 117) (by decide +kernel), List.mem_of_getElem? (i := 700) (by decide +kernel), List.mem_of_getElem? (i := 701) (by decide +kernel)⟩
theorem lw_p18 : lw_okq (⟨"PartBox$Reader", "examinePlaces", "()Z"⟩, 13) := ⟨⟨by decide +kernel, by decide +kernel⟩, List.mem_of_getElem? (i := 117) (by decide +kernel), List.mem_of_getElem? (i := 705) (by decide +kernel), List.mem_of_getElem? (i := 706) (by decide +kernel)⟩
theorem lw_p19 : lw_okq (⟨"PartBox$Reader", "orderByHeads", "()V"⟩, 13) := ⟨⟨by decide +kernel, by decide +kernel⟩, List.mem_of_getElem? (i := 117) (by decide +kernel), List.mem_of_getElem? (i := 709) (by decide +kernel), List.mem_of_getElem? (i := 710) (by decide +kernel)⟩
theorem lw_p20 : lw_okq (⟨"PartBox$Reader", "examineChecks", "()Z"⟩, 13) := ⟨⟨by decide +kernel, by decide +kernel⟩, List.mem_of_getElem? (i := 117) (by decide +kernel), List.mem_of_getElem? (i := 713) (by decide +kernel), List.mem_of_getElem? (i := 714) (by decide +kernel)⟩
theorem lw_p21 : lw_okq (⟨"PartBoxModel", "refused", "(Z)I"⟩, 29) := ⟨⟨by decide +kernel, by decide +kernel⟩, List.mem_of_getElem? (i := 737) (by decide +kernel), List.mem_of_getElem? (i := 870) (by decide +kernel), List.mem_of_getElem? (i := 871) (by decide +kernel)⟩
theorem lw_p22 : lw_okq (⟨"PartBoxModel", "isName", "(II)Z"⟩, 29) := ⟨⟨by decide +kernel, by decide +kernel⟩, List.mem_of_getElem? (i := 737) (by decide +kernel), List.mem_of_getElem? (i := 874) (by decide +kernel), List.mem_of_getElem? (i := 875) (by decide +kernel)⟩
theorem lw_p23 : lw_okq (⟨"PartBoxModel", "nameAt", "(II)I"⟩, 29) := ⟨⟨by decide +kernel, by decide +kernel⟩, List.mem_of_getElem? (i := 737) (by decide +kernel), List.mem_of_getElem? (i := 878) (by decide +kernel), List.mem_of_getElem? (i := 879) (by decide +kernel)⟩
theorem lw_p24 : lw_okq (⟨"PartBoxModel", "findName", "()I"⟩, 29) := ⟨⟨by decide +kernel, by decide +kernel⟩, List.mem_of_getElem? (i := 737) (by decide +kernel), List.mem_of_getElem? (i := 882) (by decide +kernel), List.mem_of_getElem? (i := 883) (by decide +kernel)⟩
theorem lw_p25 : lw_okq (⟨"PartBoxModel", "put", "(III)I"⟩, 29) := ⟨⟨by decide +kernel, by decide +kernel⟩, List.mem_of_getElem? (i := 737) (by decide +kernel), List.mem_of_getElem? (i := 893) (by decide +kernel), List.mem_of_getElem? (i := 894) (by decide +kernel)⟩
theorem lw_p26 : lw_okq (⟨"PartBoxModel", "noEntry", "(I)Z"⟩, 29) := ⟨⟨by decide +kernel, by decide +kernel⟩, List.mem_of_getElem? (i := 737) (by decide +kernel), List.mem_of_getElem? (i := 905) (by decide +kernel), List.mem_of_getElem? (i := 906) (by decide +kernel)⟩
theorem lw_p27 : lw_okq (⟨"PartBoxModel", "copy", "(II)V"⟩, 29) := ⟨⟨by decide +kernel, by decide +kernel⟩, List.mem_of_getElem? (i := 737) (by decide +kernel), List.mem_of_getElem? (i := 909) (by decide +kernel), List.mem_of_getElem? (i := 910) (by decide +kernel)⟩
theorem lw_p28 : lw_okq (⟨"PartBoxModel", "gather", "()V"⟩, 29) := ⟨⟨by decide +kernel, by decide +kernel⟩, List.mem_of_getElem? (i := 737) (by decide +kernel), List.mem_of_getElem? (i := 913) (by decide +kernel), List.mem_of_getElem? (i := 914) (by decide +kernel)⟩
theorem lw_p29 : lw_okq (⟨"PartBoxModel", "swap", "(II)V"⟩, 29) := ⟨⟨by decide +kernel, by decide +kernel⟩, List.mem_of_getElem? (i := 737) (by decide +kernel), List.mem_of_getElem? (i := 921) (by decide +kernel), List.mem_of_getElem? (i := 922) (by decide +kernel)⟩
theorem lw_p30 : lw_okq (⟨"PartBoxModel", "low", "(II)V"⟩, 29) := ⟨⟨by decide +kernel, by decide +kernel⟩, List.mem_of_getElem? (i := 737) (by decide +kernel), List.mem_of_getElem? (i := 950) (by decide +kernel), List.mem_of_getElem? (i := 951) (by decide +kernel)⟩
theorem lw_p31 : lw_okq (⟨"PartBoxModel", "middle", "(I)V"⟩, 29) := ⟨⟨by decide +kernel, by decide +kernel⟩, List.mem_of_getElem? (i := 737) (by decide +kernel), List.mem_of_getElem? (i := 954) (by decide +kernel), List.mem_of_getElem? (i := 955) (by decide +kernel)⟩
def lw_privs_2 : List (MethodName × Nat) := [(⟨"PartBox$Reader", "areSame", "(III)Z"⟩, 13), (⟨"PartBox$Reader", "areBytesSound", "(LPartBox$Finding;)Z"⟩, 13), (⟨"PartBox$Reader", "examinePlaces", "()Z"⟩, 13), (⟨"PartBox$Reader", "orderByHeads", "()V"⟩, 13), (⟨"PartBox$Reader", "examineChecks", "()Z"⟩, 13), (⟨"PartBoxModel", "refused", "(Z)I"⟩, 29), (⟨"PartBoxModel", "isName", "(II)Z"⟩, 29), (⟨"PartBoxModel", "nameAt", "(II)I"⟩, 29), (⟨"PartBoxModel", "findName", "()I"⟩, 29), (⟨"PartBoxModel", "put", "(III)I"⟩, 29), (⟨"PartBoxModel", "noEntry", "(I)Z"⟩, 29), (⟨"PartBoxModel", "copy", "(II)V"⟩, 29), (⟨"PartBoxModel", "gather", "()V"⟩, 29), (⟨"PartBoxModel", "swap", "(II)V"⟩, 29), (⟨"PartBoxModel", "low", "(II)V"⟩, 29), (⟨"PartBoxModel", "middle", "(I)V"⟩, 29)]
theorem lw_r2 : ∀ q ∈ lw_privs_2, lw_okq q := List.forall_mem_cons.mpr ⟨lw_p16, List.forall_mem_cons.mpr ⟨lw_p17, List.forall_mem_cons.mpr ⟨lw_p18, List.forall_mem_cons.mpr ⟨lw_p19, List.forall_mem_cons.mpr ⟨lw_p20, List.forall_mem_cons.mpr ⟨lw_p21, List.forall_mem_cons.mpr ⟨lw_p22, List.forall_mem_cons.mpr ⟨lw_p23, List.forall_mem_cons.mpr ⟨lw_p24, List.forall_mem_cons.mpr ⟨lw_p25, List.forall_mem_cons.mpr ⟨lw_p26, List.forall_mem_cons.mpr ⟨lw_p27, List.forall_mem_cons.mpr ⟨lw_p28, List.forall_mem_cons.mpr ⟨lw_p29, List.forall_mem_cons.mpr ⟨lw_p30, List.forall_mem_cons.mpr ⟨lw_p31, fun _ h => absurd h List.not_mem_nil⟩⟩⟩⟩⟩⟩⟩⟩⟩⟩⟩⟩⟩⟩⟩⟩
theorem lw_p32 : lw_okq (⟨"PartBoxModel", "writeName", "(I)V"⟩, 29) := ⟨⟨by decide +kernel, by decide +kernel⟩, List.mem_of_getElem? (i := 737) (by decide +kernel), List.mem_of_getElem? (i := 958) (by decide +kernel), List.mem_of_getElem? (i := 959) (by decide +kernel)⟩
theorem lw_p33 : lw_okq (⟨"PartBoxModel", "isWrong", "()Z"⟩, 29) := ⟨⟨by decide +kernel, by decide +kernel⟩, List.mem_of_getElem? (i := 737) (by decide +kernel), List.mem_of_getElem? (i := 968) (by decide +kernel), List.mem_of_getElem? (i := 969) (by decide +kernel)⟩
theorem lw_p34 : lw_okq (⟨"PartBoxModel", "findEnd", "()Z"⟩, 29) := ⟨⟨by decide +kernel, by decide +kernel⟩, List.mem_of_getElem? (i := 737) (by decide +kernel), List.mem_of_getElem? (i := 972) (by decide +kernel), List.mem_of_getElem? (i := 973) (by decide +kernel)⟩
theorem lw_p35 : lw_okq (⟨"PartBoxModel", "four", "(J)J"⟩, 29) := ⟨⟨by decide +kernel, by decide +kernel⟩, List.mem_of_getElem? (i := 737) (by decide +kernel), List.mem_of_getElem? (i := 976) (by decide +kernel), List.mem_of_getElem? (i := 977) (by decide +kernel)⟩
theorem lw_p36 : lw_okq (⟨"PartBoxModel", "two", "(J)I"⟩, 29) := ⟨⟨by decide +kernel, by decide +kernel⟩, List.mem_of_getElem? (i := 737) (by decide +kernel), List.mem_of_getElem? (i := 980) (by decide +kernel), List.mem_of_getElem? (i := 981) (by decide +kernel)⟩
theorem lw_p37 : lw_okq (⟨"PartBoxModel", "wrong", "(IJI)Z"⟩, 29) := ⟨⟨by decide +kernel, by decide +kernel⟩, List.mem_of_getElem? (i := 737) (by decide +kernel), List.mem_of_getElem? (i := 987) (by decide +kernel), List.mem_of_getElem? (i := 988) (by decide +kernel)⟩
theorem lw_p38 : lw_okq (⟨"PartBoxModel", "readDirectory", "()Z"⟩, 29) := ⟨⟨by decide +kernel, by decide +kernel⟩, List.mem_of_getElem? (i := 737) (by decide +kernel), List.mem_of_getElem? (i := 991) (by decide +kernel), List.mem_of_getElem? (i := 992) (by decide +kernel)⟩
theorem lw_p39 : lw_okq (⟨"PartBoxModel", "nameSize", "(I)I"⟩, 29) := ⟨⟨by decide +kernel, by decide +kernel⟩, List.mem_of_getElem? (i := 737) (by decide +kernel), List.mem_of_getElem? (i := 997) (by decide +kernel), List.mem_of_getElem? (i := 998) (by decide +kernel)⟩
theorem lw_p40 : lw_okq (⟨"PartBoxModel", "flags", "(I)I"⟩, 29) := ⟨⟨by decide +kernel, by decide +kernel⟩, List.mem_of_getElem? (i := 737) (by decide +kernel), List.mem_of_getElem? (i := 1003) (by decide +kernel), List.mem_of_getElem? (i := 1004) (by decide +kernel)⟩
theorem lw_p41 : lw_okq (⟨"PartBoxModel", "method", "(I)I"⟩, 29) := ⟨⟨by decide +kernel, by decide +kernel⟩, List.mem_of_getElem? (i := 737) (by decide +kernel), List.mem_of_getElem? (i := 1007) (by decide +kernel), List.mem_of_getElem? (i := 1008) (by decide +kernel)⟩
theorem lw_p42 : lw_okq (⟨"PartBoxModel", "sameName", "(II)Z"⟩, 29) := ⟨⟨by decide +kernel, by decide +kernel⟩, List.mem_of_getElem? (i := 737) (by decide +kernel), List.mem_of_getElem? (i := 1012) (by decide +kernel), List.mem_of_getElem? (i := 1013) (by decide +kernel)⟩
theorem lw_p43 : lw_okq (⟨"PartBoxModel", "many", "(I)J"⟩, 29) := ⟨⟨by decide +kernel, by decide +kernel⟩, List.mem_of_getElem? (i := 737) (by decide +kernel), List.mem_of_getElem? (i := 1016) (by decide +kernel), List.mem_of_getElem? (i := 1017) (by decide +kernel)⟩
theorem lw_p44 : lw_okq (⟨"PartBoxModel", "size", "(I)J"⟩, 29) := ⟨⟨by decide +kernel, by decide +kernel⟩, List.mem_of_getElem? (i := 737) (by decide +kernel), List.mem_of_getElem? (i := 1020) (by decide +kernel), List.mem_of_getElem? (i := 1021) (by decide +kernel)⟩
theorem lw_p45 : lw_okq (⟨"PartBoxModel", "isHead", "(I)Z"⟩, 29) := ⟨⟨by decide +kernel, by decide +kernel⟩, List.mem_of_getElem? (i := 737) (by decide +kernel), List.mem_of_getElem? (i := 1025) (by decide +kernel), List.mem_of_getElem? (i := 1026) (by decide +kernel)⟩
theorem lw_p46 : lw_okq (⟨"PartBoxModel", "fits", "(IJJ)Z"⟩, 29) := ⟨⟨by decide +kernel, by decide +kernel⟩, List.mem_of_getElem? (i := 737) (by decide +kernel), List.mem_of_getElem? (i := 1035) (by decide +kernel), List.mem_of_getElem? (i := 1036) (by decide +kernel)⟩
theorem lw_p47 : lw_okq (⟨"PartBoxModel", "isBody", "(I)Z"⟩, 29) := ⟨⟨by decide +kernel, by decide +kernel⟩, List.mem_of_getElem? (i := 737) (by decide +kernel), List.mem_of_getElem? (i := 1041) (by decide +kernel), List.mem_of_getElem? (i := 1042) (by decide +kernel)⟩
def lw_privs_3 : List (MethodName × Nat) := [(⟨"PartBoxModel", "writeName", "(I)V"⟩, 29), (⟨"PartBoxModel", "isWrong", "()Z"⟩, 29), (⟨"PartBoxModel", "findEnd", "()Z"⟩, 29), (⟨"PartBoxModel", "four", "(J)J"⟩, 29), (⟨"PartBoxModel", "two", "(J)I"⟩, 29), (⟨"PartBoxModel", "wrong", "(IJI)Z"⟩, 29), (⟨"PartBoxModel", "readDirectory", "()Z"⟩, 29), (⟨"PartBoxModel", "nameSize", "(I)I"⟩, 29), (⟨"PartBoxModel", "flags", "(I)I"⟩, 29), (⟨"PartBoxModel", "method", "(I)I"⟩, 29), (⟨"PartBoxModel", "sameName", "(II)Z"⟩, 29), (⟨"PartBoxModel", "many", "(I)J"⟩, 29), (⟨"PartBoxModel", "size", "(I)J"⟩, 29), (⟨"PartBoxModel", "isHead", "(I)Z"⟩, 29), (⟨"PartBoxModel", "fits", "(IJJ)Z"⟩, 29), (⟨"PartBoxModel", "isBody", "(I)Z"⟩, 29)]
theorem lw_r3 : ∀ q ∈ lw_privs_3, lw_okq q := List.forall_mem_cons.mpr ⟨lw_p32, List.forall_mem_cons.mpr ⟨lw_p33, List.forall_mem_cons.mpr ⟨lw_p34, List.forall_mem_cons.mpr ⟨lw_p35, List.forall_mem_cons.mpr ⟨lw_p36, List.forall_mem_cons.mpr ⟨lw_p37, List.forall_mem_cons.mpr ⟨lw_p38, List.forall_mem_cons.mpr ⟨lw_p39, List.forall_mem_cons.mpr ⟨lw_p40, List.forall_mem_cons.mpr ⟨lw_p41, List.forall_mem_cons.mpr ⟨lw_p42, List.forall_mem_cons.mpr ⟨lw_p43, List.forall_mem_cons.mpr ⟨lw_p44, List.forall_mem_cons.mpr ⟨lw_p45, List.forall_mem_cons.mpr ⟨lw_p46, List.forall_mem_cons.mpr ⟨lw_p47, fun _ h => absurd h List.not_mem_nil⟩⟩⟩⟩⟩⟩⟩⟩⟩⟩⟩⟩⟩⟩⟩⟩
theorem lw_p48 : lw_okq (⟨"PartBoxModel", "readGaps", "()Z"⟩, 29) := ⟨⟨by decide +kernel, by decide +kernel⟩, List.mem_of_getElem? (i := 737) (by decide +kernel), List.mem_of_getElem? (i := 1048) (by decide +kernel), List.mem_of_getElem? (i := 1049) (by decide +kernel)⟩
theorem lw_p49 : lw_okq (⟨"PartBoxModel", "firstLeft", "()I"⟩, 29) := ⟨⟨by decide +kernel, by decide +kernel⟩, List.mem_of_getElem? (i := 737) (by decide +kernel), List.mem_of_getElem? (i := 1052) (by decide +kernel), List.mem_of_getElem? (i := 1053) (by decide +kernel)⟩
def lw_privs_4 : List (MethodName × Nat) := [(⟨"PartBoxModel", "readGaps", "()Z"⟩, 29), (⟨"PartBoxModel", "firstLeft", "()I"⟩, 29)]
theorem lw_r4 : ∀ q ∈ lw_privs_4, lw_okq q := List.forall_mem_cons.mpr ⟨lw_p48, List.forall_mem_cons.mpr ⟨lw_p49, fun _ h => absurd h List.not_mem_nil⟩⟩
def lw_privs : List (MethodName × Nat) := lw_privs_1 ++ (lw_privs_2 ++ (lw_privs_3 ++ (lw_privs_4)))
def lw_tbl : List Cond := k2_sels lw_privs ++ tables_1
theorem lw_privs_ok : ∀ q ∈ lw_privs, lw_okq q := by
  show ∀ q ∈ lw_privs_1 ++ (lw_privs_2 ++ (lw_privs_3 ++ (lw_privs_4))), lw_okq q
  exact List.forall_mem_append.mpr ⟨lw_r1, List.forall_mem_append.mpr ⟨lw_r2, List.forall_mem_append.mpr ⟨lw_r3, lw_r4⟩⟩⟩
end
section
def R_P : String := "PartBox"
def T_P : u_T := fun k => match k with
  | 0 => ("PartBox", "row", "LPartBox$Bytes;", true)
  | 1 => ("PartBox", "typed", "LPartBox$Bytes;", true)
  | 2 => ("PartBox", "checker", "LPartBox$Checker;", true)
  | 3 => ("PartBox", "box", "LPartBox$Box;", true)
  | _ => ("PartBox", "reader", "LPartBox$Reader;", true)
def ty_P : Nat → FieldType := fun k => match k with
  | 0 => .object "PartBox$Bytes"
  | 1 => .object "PartBox$Bytes"
  | 2 => .object "PartBox$Checker"
  | 3 => .object "PartBox$Box"
  | _ => .object "PartBox$Reader"
def R_X : String := "PartBox$Box"
def T_X : u_T := fun k => match k with
  | 0 => ("PartBox$Box", "entries", "[LPartBox$Entry;", true)
  | 1 => ("PartBox$Box", "store", "LPartBox$Bytes;", true)
  | _ => ("PartBox$Box", "used", "I", false)
def ty_X : Nat → FieldType := fun k => match k with
  | 0 => .array (.object "PartBox$Entry")
  | 1 => .object "PartBox$Bytes"
  | _ => .int
def R_B : String := "PartBox$Bytes"
def T_B : u_T := fun k => match k with
  | 0 => ("PartBox$Bytes", "cells", "[B", true)
  | _ => ("PartBox$Bytes", "used", "I", false)
def ty_B : Nat → FieldType := fun k => match k with
  | 0 => .array .byte
  | _ => .int
def R_C : String := "PartBox$Checker"
def T_C : u_T := fun k => match k with
  | _ => ("PartBox$Checker", "eightSteps", "[I", true)
def ty_C : Nat → FieldType := fun k => match k with
  | _ => .array .int
def R_E : String := "PartBox$Entry"
def T_E : u_T := fun k => match k with
  | 0 => ("PartBox$Entry", "name", "LPartBox$Bytes;", true)
  | 1 => ("PartBox$Entry", "method", "I", false)
  | 2 => ("PartBox$Entry", "start", "I", false)
  | 3 => ("PartBox$Entry", "byteCount", "I", false)
  | 4 => ("PartBox$Entry", "size", "I", false)
  | _ => ("PartBox$Entry", "check", "I", false)
def ty_E : Nat → FieldType := fun k => match k with
  | 0 => .object "PartBox$Bytes"
  | 1 => .int
  | 2 => .int
  | 3 => .int
  | 4 => .int
  | _ => .int
def R_F : String := "PartBox$Facts"
def T_F : u_T := fun k => match k with
  | 0 => ("PartBox$Facts", "flags", "I", false)
  | 1 => ("PartBox$Facts", "method", "I", false)
  | 2 => ("PartBox$Facts", "check", "J", false)
  | 3 => ("PartBox$Facts", "byteCount", "J", false)
  | 4 => ("PartBox$Facts", "size", "J", false)
  | 5 => ("PartBox$Facts", "nameLength", "I", false)
  | _ => ("PartBox$Facts", "extraLength", "I", false)
def ty_F : Nat → FieldType := fun k => match k with
  | 0 => .int
  | 1 => .int
  | 2 => .long
  | 3 => .long
  | 4 => .long
  | 5 => .int
  | _ => .int
def R_G : String := "PartBox$Finding"
def T_G : u_T := fun k => match k with
  | 0 => ("PartBox$Finding", "facts", "LPartBox$Facts;", true)
  | 1 => ("PartBox$Finding", "nameStart", "I", false)
  | 2 => ("PartBox$Finding", "directoryHeadEnd", "I", false)
  | 3 => ("PartBox$Finding", "head", "J", false)
  | 4 => ("PartBox$Finding", "firstByte", "I", false)
  | _ => ("PartBox$Finding", "end", "I", false)
def ty_G : Nat → FieldType := fun k => match k with
  | 0 => .object "PartBox$Facts"
  | 1 => .int
  | 2 => .int
  | 3 => .long
  | 4 => .int
  | _ => .int
def R_R : String := "PartBox$Reader"
def T_R : u_T := fun k => match k with
  | 0 => ("PartBox$Reader", "row", "LPartBox$Bytes;", true)
  | 1 => ("PartBox$Reader", "checker", "LPartBox$Checker;", true)
  | 2 => ("PartBox$Reader", "findings", "[LPartBox$Finding;", true)
  | 3 => ("PartBox$Reader", "headFacts", "LPartBox$Facts;", true)
  | 4 => ("PartBox$Reader", "order", "[I", true)
  | 5 => ("PartBox$Reader", "fault", "I", false)
  | 6 => ("PartBox$Reader", "place", "I", false)
  | 7 => ("PartBox$Reader", "entry", "I", false)
  | 8 => ("PartBox$Reader", "endPlace", "I", false)
  | 9 => ("PartBox$Reader", "directoryPlace", "I", false)
  | 10 => ("PartBox$Reader", "found", "I", false)
  | 11 => ("PartBox$Reader", "allBytes", "J", false)
  | _ => ("PartBox$Reader", "allSizes", "J", false)
def ty_R : Nat → FieldType := fun k => match k with
  | 0 => .object "PartBox$Bytes"
  | 1 => .object "PartBox$Checker"
  | 2 => .array (.object "PartBox$Finding")
  | 3 => .object "PartBox$Facts"
  | 4 => .array .int
  | 5 => .int
  | 6 => .int
  | 7 => .int
  | 8 => .int
  | 9 => .int
  | 10 => .int
  | 11 => .long
  | _ => .long
def R_M : String := "PartBoxModel"
def T_M : u_T := fun k => match k with
  | 0 => ("PartBoxModel", "code", "I", false)
  | 1 => ("PartBoxModel", "length", "I", false)
  | 2 => ("PartBoxModel", "row", "[B", true)
  | 3 => ("PartBoxModel", "nameLength", "I", false)
  | 4 => ("PartBoxModel", "typed", "[I", true)
  | 5 => ("PartBoxModel", "entries", "I", false)
  | 6 => ("PartBoxModel", "names", "[I", true)
  | 7 => ("PartBoxModel", "nameLengths", "[I", true)
  | 8 => ("PartBoxModel", "methods", "[I", true)
  | 9 => ("PartBoxModel", "begins", "[I", true)
  | 10 => ("PartBoxModel", "lengths", "[I", true)
  | 11 => ("PartBoxModel", "sizes", "[I", true)
  | 12 => ("PartBoxModel", "checks", "[I", true)
  | 13 => ("PartBoxModel", "used", "I", false)
  | 14 => ("PartBoxModel", "heap", "[B", false)
  | 15 => ("PartBoxModel", "other", "[B", false)
  | 16 => ("PartBoxModel", "fault", "I", false)
  | 17 => ("PartBoxModel", "place", "I", false)
  | 18 => ("PartBoxModel", "entry", "I", false)
  | 19 => ("PartBoxModel", "limit", "I", false)
  | 20 => ("PartBoxModel", "endPlace", "I", false)
  | 21 => ("PartBoxModel", "dirPlace", "J", false)
  | 22 => ("PartBoxModel", "heads", "I", false)
  | 23 => ("PartBoxModel", "dirAt", "[I", true)
  | 24 => ("PartBoxModel", "headAt", "[J", true)
  | 25 => ("PartBoxModel", "dataAt", "[J", true)
  | 26 => ("PartBoxModel", "tailEnd", "[J", true)
  | 27 => ("PartBoxModel", "taken", "[Z", true)
  | _ => ("PartBoxModel", "out", "I", false)
def ty_M : Nat → FieldType := fun k => match k with
  | 0 => .int
  | 1 => .int
  | 2 => .array .byte
  | 3 => .int
  | 4 => .array .int
  | 5 => .int
  | 6 => .array .int
  | 7 => .array .int
  | 8 => .array .int
  | 9 => .array .int
  | 10 => .array .int
  | 11 => .array .int
  | 12 => .array .int
  | 13 => .int
  | 14 => .array .byte
  | 15 => .array .byte
  | 16 => .int
  | 17 => .int
  | 18 => .int
  | 19 => .int
  | 20 => .int
  | 21 => .long
  | 22 => .int
  | 23 => .array .int
  | 24 => .array .long
  | 25 => .array .long
  | 26 => .array .long
  | 27 => .array .boolean
  | _ => .int
abbrev mm_cl : List vw_C := [(R_P, T_P, 5), (R_X, T_X, 3), (R_B, T_B, 2), (R_C, T_C, 1), (R_E, T_E, 6), (R_F, T_F, 7), (R_G, T_G, 6), (R_R, T_R, 13), (R_M, T_M, 29)]
def mm_tys (k : Nat → ClassId) : List (ClassId × FieldType) := [(k 0, .byte), (k 1, .int), (k 2, .long), (k 3, .boolean), (k 4, .object "PartBox$Entry"), (k 5, .object "PartBox$Finding")]
def mm_kind : Cond → Bool
  | .fieldLinkNest .. => true
  | .methodLinkNest .. => true
  | .declares _ => true
  | .castable .. => true
  | .arrayOver (.object _) => true
  | _ => false
def mm_T : List Cond := lw_tbl.filter goodWord
def mm_NW : List Cond := tables_1.filter mm_kind
def mm_ST : List (String × String × String) := [("java/lang/Throwable", "UNASSIGNED_STACK", "[Ljava/lang/StackTraceElement;"), ("java/lang/Throwable", "SUPPRESSED_SENTINEL", "Ljava/util/List;")]
theorem mm_T_good : ∀ w ∈ mm_T, goodWord w = true := fun w hw => (List.mem_filter.mp hw).2
theorem mm_NW_ok : ∀ w ∈ mm_NW, mm_kind w = true := fun w hw => (List.mem_filter.mp hw).2
theorem mm_in {w : Cond} (i : Nat) (h : tables_1[i]? = some w) (hg : goodWord w = true) : w ∈ mm_T := List.mem_filter.mpr ⟨List.mem_append_right _ (List.mem_of_getElem? h), hg⟩
theorem mm_inN {w : Cond} (i : Nat) (h : tables_1[i]? = some w) (hg : mm_kind w = true) : w ∈ mm_NW := List.mem_filter.mpr ⟨List.mem_of_getElem? h, hg⟩
theorem mm_inS {q : MethodName × Nat} (i : Nat) (h : lw_privs[i]? = some q) (hg : goodWord (Cond.selects q.1.cls q.1 q.1) = true) : Cond.selects q.1.cls q.1 q.1 ∈ mm_T := List.mem_filter.mpr ⟨List.mem_append_left _ (List.mem_map.mpr ⟨q, List.mem_of_getElem? h, rfl⟩), hg⟩
def mm_SR : List (String × Nat × String) := [("PartBox", 51, "the row would be too long"), ("PartBox", 64, "the row has not so many bytes"), ("PartBox", 72, "the row has no such byte"), ("PartBox", 75, "not a byte"), ("PartBox", 85, "not a character of a name"), ("PartBox", 87, "the name would be too long"), ("PartBox", 96, "no name, or that of an entry"), ("PartBox", 193, "the box is full"), ("PartBox", 106, "no name, or that of an entry, or a size below 0"), ("PartBox", 112, "no such entry"), ("PartBox", 145, "nothing of an entry"), ("PartBox", 147, "no such entry, or no such byte of it"), ("PartBox", 162, "not a limit"), ("PartBox", 180, "nothing of a fault")]
def mm_NC : List (String × String) := [("java/lang/IllegalStateException", "java/lang/IllegalArgumentException"), ("java/lang/IllegalStateException", "java/lang/IndexOutOfBoundsException"), ("java/lang/IllegalArgumentException", "java/lang/IllegalStateException"), ("java/lang/IllegalArgumentException", "java/lang/IndexOutOfBoundsException"), ("java/lang/IndexOutOfBoundsException", "java/lang/IllegalStateException"), ("java/lang/IndexOutOfBoundsException", "java/lang/IllegalArgumentException")]
end
section
/-! THE SMALL MACHINE (mm_): a walk of a method over a flat memory of numbered cells. Cell 0 of a memory holds how many cells there are. mm_W says: from here, over every real heap that holds this memory, the method comes to an end with Q. -/
abbrev mm_O : Type := Option Value ⊕ String
abbrev mm_Mem : Type := Nat → va_E
abbrev mm_M : Type := String × ByteArray × Nat × Option FieldType × (Nat × Nat) × List (Nat × Nat × Nat × Nat) × String × Option (Nat × (Nat → Int32))
abbrev mm_G : Type := va_G × (Nat → ClassId)
def mm_v (ad : Nat → Nat) : Value → Value
  | .ref r => .ref (ad r)
  | v => v
def mm_e (ad : Nat → Nat) (x : va_E) : va_E := match x with
  | .inl (c, n, .inr (.inr (.inr (.inr f)))) => .inl (c, n, .inr (.inr (.inr (.inr (fun j => (f j).map ad)))))
  | .inl y => .inl y
  | .inr (ci, fs) => .inr (ci, fs.map (mm_v ad))
def mm_cv (n : Nat) : Value → Prop
  | .ref r => r ≤ n
  | _ => True
def mm_ce (n : Nat) (x : va_E) : Prop := match x with
  | .inl (_, _, .inr (.inr (.inr (.inr f)))) => ∀ j r, f j = some r → r ≤ n
  | .inl _ => True
  | .inr (_, fs) => ∀ v ∈ fs, mm_cv n v
def mm_j : va_E := .inr (1000, [])
def mm_n (m : mm_Mem) : Nat := match m 0 with
  | .inr (n, _) => n
  | .inl _ => 0
def mm_w (ad : Nat → Nat) (m : mm_Mem) : va_W := (List.range (mm_n m)).map (fun r => (ad (r + 1), mm_e ad (m (r + 1))))
def mm_R (D : va_G) (A : Nat → Prop) (ad : Nat → Nat) (m : mm_Mem) (H : Heap) : Prop :=
  va_P D mm_cl (mm_w ad m) H ∧ va_D A (mm_w ad m) ∧ (∀ r, mm_n m < r → m r = mm_j) ∧ ∀ r, 0 < r → mm_ce (mm_n m) (m r)
def mm_push (m : mm_Mem) (x : va_E) : mm_Mem := va_up (va_up m (mm_n m + 1) x) 0 (.inr (mm_n m + 1, []))
theorem mm_v_cat (ad : Nat → Nat) (v : Value) : (mm_v ad v).category = v.category := by cases v <;> rfl
theorem mm_v_ag {n : Nat} {ad ad' : Nat → Nat} (h : ∀ r, r ≤ n → ad' r = ad r) {v : Value} (hv : mm_cv n v) : mm_v ad' v = mm_v ad v := by
  cases v <;> first | rfl | (simp only [mm_v]; rw [h _ hv])
theorem mm_cv_mono {n n' : Nat} (h : n ≤ n') {v : Value} (hv : mm_cv n v) : mm_cv n' v := by
  cases v <;> first | trivial | exact Nat.le_trans hv h
theorem mm_ce_mono {n n' : Nat} (h : n ≤ n') {x : va_E} (hx : mm_ce n x) : mm_ce n' x := by
  rcases x with ⟨c, k, f | f | f | f | f⟩ | ⟨ci, fs⟩
  · trivial
  · trivial
  · trivial
  · trivial
  · exact fun j r hr => Nat.le_trans (hx j r hr) h
  · exact fun v hv => mm_cv_mono h (hx v hv)
theorem mm_e_ag {n : Nat} {ad ad' : Nat → Nat} (h : ∀ r, r ≤ n → ad' r = ad r) {x : va_E} (hx : mm_ce n x) : mm_e ad' x = mm_e ad x := by
  rcases x with ⟨c, k, f | f | f | f | f⟩ | ⟨ci, fs⟩
  · rfl
  · rfl
  · rfl
  · rfl
  · have e : (fun j => (f j).map ad') = fun j => (f j).map ad := by
      funext j
      cases hf : f j with
      | none => rfl
      | some r => simp [h r (hx j r hf)]
    simp only [mm_e, e]
  · have e : fs.map (mm_v ad') = fs.map (mm_v ad) := List.map_congr_left fun v hv => mm_v_ag h (hx v hv)
    simp only [mm_e, e]
theorem mm_st_ag {n : Nat} {ad ad' : Nat → Nat} (h : ∀ r, r ≤ n → ad' r = ad r) {st : List Value} (hx : ∀ v ∈ st, mm_cv n v) : st.map (mm_v ad') = st.map (mm_v ad) := List.map_congr_left fun v hv => mm_v_ag h (hx v hv)
def mm_q (ad : Nat → Nat) (q : Nat × Value) : Nat × Value := (q.1, mm_v ad q.2)
theorem mm_lv_ag {n : Nat} {ad ad' : Nat → Nat} (h : ∀ r, r ≤ n → ad' r = ad r) {lv : List (Nat × Value)} (hx : ∀ q ∈ lv, mm_cv n q.2) : lv.map (mm_q ad') = lv.map (mm_q ad) :=
  List.map_congr_left fun q hq => by unfold mm_q; rw [mm_v_ag h (hx q hq)]
theorem mm_n_up {m : mm_Mem} {r : Nat} {x : va_E} (h0 : r ≠ 0) : mm_n (va_up m r x) = mm_n m := by
  unfold mm_n va_up
  rw [if_neg (fun q => h0 q.symm)]
theorem mm_n_push (m : mm_Mem) (x : va_E) : mm_n (mm_push m x) = mm_n m + 1 := by
  unfold mm_push
  generalize mm_n m + 1 = k
  unfold mm_n va_up
  rw [if_pos rfl]
theorem mm_lt {m : mm_Mem} (hj : ∀ r, mm_n m < r → m r = mm_j) {r : Nat} {x : va_E} (hx : m r = x) (hne : x ≠ mm_j) : r ≤ mm_n m := by
  rcases Nat.lt_or_ge (mm_n m) r with h | h
  · exact absurd (hx.symm.trans (hj r h)) hne
  · exact h
theorem mm_at {ad : Nat → Nat} {m : mm_Mem} (hj : ∀ r, mm_n m < r → m r = mm_j) {r : Nat} (h0 : r ≠ 0) {x : va_E} (hx : m r = x) (hne : x ≠ mm_j) : (mm_w ad m)[r - 1]? = some (ad r, mm_e ad x) := by
  have h1 := mm_lt hj hx hne
  have h2 : r - 1 + 1 = r := by omega
  unfold mm_w
  rw [List.getElem?_map, List.getElem?_range (by omega)]
  simp only [Option.map_some, h2, hx]
theorem mm_set {ad : Nat → Nat} {m : mm_Mem} {r : Nat} (h0 : r ≠ 0) (x : va_E) : (mm_w ad m).set (r - 1) (ad r, mm_e ad x) = mm_w ad (va_up m r x) := by
  apply List.ext_getElem?
  intro i
  unfold mm_w
  rw [mm_n_up h0, List.getElem?_set, List.getElem?_map, List.length_map, List.length_range]
  by_cases hi : r - 1 = i
  · rw [if_pos hi]
    by_cases hl : r - 1 < mm_n m
    · rw [if_pos hl, List.getElem?_map, List.getElem?_range (by omega)]
      have h2 : i + 1 = r := by omega
      simp [h2, va_up]
    · rw [if_neg hl, List.getElem?_map, List.getElem?_eq_none (by rw [List.length_range]; omega)]
      rfl
  · rw [if_neg hi, List.getElem?_map]
    have h2 : i + 1 ≠ r := by omega
    cases hg : (List.range (mm_n m))[i]? with
    | none => rfl
    | some k =>
      have hk : k = i := by
        have := List.getElem?_eq_some_iff.mp hg
        obtain ⟨_, h3⟩ := this
        simpa using h3.symm
      subst hk
      simp [va_up, h2]
theorem mm_put {D : va_G} {A : Nat → Prop} {ad : Nat → Nat} {m : mm_Mem} {H H1 : Heap} {r : Nat} (h0 : r ≠ 0) {y : va_E} (hR : mm_R D A ad m H) (hy : m r = y) (hne : y ≠ mm_j) {x : va_E} (hx : mm_ce (mm_n m) x) (hP : va_P D mm_cl ((mm_w ad m).set (r - 1) (ad r, mm_e ad x)) H1) (hD : va_D A ((mm_w ad m).set (r - 1) (ad r, mm_e ad x))) : mm_R D A ad (va_up m r x) H1 := by
  rw [mm_set h0] at hP hD
  refine ⟨hP, hD, fun k hk => ?_, fun k hk => ?_⟩
  · rw [mm_n_up h0] at hk
    have h1 := mm_lt hR.2.2.1 hy hne
    have : k ≠ r := by omega
    unfold va_up
    rw [if_neg this]
    exact hR.2.2.1 k hk
  · rw [mm_n_up h0]
    unfold va_up
    by_cases hk2 : k = r
    · rw [if_pos hk2]; exact hx
    · rw [if_neg hk2]; exact hR.2.2.2 k hk
theorem mm_grow {D : va_G} {A : Nat → Prop} {ad : Nat → Nat} {m : mm_Mem} {H H1 : Heap} {q : Nat} {x : va_E} (hR : mm_R D A ad m H) (hx : mm_ce (mm_n m) x) (he : mm_e (va_up ad (mm_n m + 1) q) x = x) (hP : va_P D mm_cl (mm_w ad m ++ [(q, x)]) H1) (hD : va_D A (mm_w ad m ++ [(q, x)])) : mm_R D A (va_up ad (mm_n m + 1) q) (mm_push m x) H1 := by
  have hag : ∀ r, r ≤ mm_n m → va_up ad (mm_n m + 1) q r = ad r := fun r hr => by unfold va_up; rw [if_neg (by omega)]
  have key : mm_w ad m ++ [(q, x)] = mm_w (va_up ad (mm_n m + 1) q) (mm_push m x) := by
    unfold mm_w
    rw [mm_n_push, List.range_succ, List.map_append]
    congr 1
    · refine List.map_congr_left fun r hr => ?_
      have hr' : r < mm_n m := List.mem_range.mp hr
      have h1 : mm_push m x (r + 1) = m (r + 1) := by
        unfold mm_push va_up
        rw [if_neg (by omega), if_neg (by omega)]
      rw [h1, hag _ (by omega), mm_e_ag hag (hR.2.2.2 (r + 1) (by omega))]
    · have h1 : mm_push m x (mm_n m + 1) = x := by
        unfold mm_push va_up
        rw [if_neg (by omega), if_pos rfl]
      simp only [List.map_cons, List.map_nil]
      rw [h1, he]
      simp [va_up]
  rw [key] at hP hD
  refine ⟨hP, hD, fun k hk => ?_, fun k hk => ?_⟩
  · rw [mm_n_push] at hk
    unfold mm_push va_up
    rw [if_neg (by omega), if_neg (by omega)]
    exact hR.2.2.1 k (by omega)
  · rw [mm_n_push]
    unfold mm_push va_up
    rw [if_neg (by omega)]
    by_cases hk2 : k = mm_n m + 1
    · rw [if_pos hk2]; exact mm_ce_mono (Nat.le_succ _) hx
    · rw [if_neg hk2]; exact mm_ce_mono (Nat.le_succ _) (hR.2.2.2 k hk)
/-- a static field of references: where it lies, and that it holds a reference; its cell is none of A -/
def mm_S1 (C n d : String) (A : Nat → Prop) (U : State) (H : Heap) : Prop := ∃ (c : ClassId) (k : Class) (i : Nat) (f : Field) (a : Nat) (cell : Cell) (v : Value), U.vm.findClass C = some c ∧ U.fieldFound? C n d = some (c, k, i, f) ∧ f.isStatic = true ∧ k.statics = some a ∧ H[a]? = some cell ∧ cell.vm.isStatics = true ∧ cell.cls = c ∧ k.staticTypes[f.slot]? = some f.type ∧ cell.slots[f.slot]? = some v ∧ v.isRef = true ∧ k.init = .initialized ∧ ¬ A a
theorem mm_S1.moved {C n d : String} {A : Nat → Prop} {u U : State} {H : Heap} (hvm : u.vm.Alike U.vm) (h : mm_S1 C n d A u H) : mm_S1 C n d A U H := by
  obtain ⟨c, k, i, f, a, cell, v, h1, h2, h3, h4, h5, h6, h7, h8, h9, h10, h11, h12⟩ := h
  obtain ⟨k', hi', he⟩ := State.fieldFound?_setVm hvm h2
  exact ⟨c, k', i, f, a, cell, v, by rw [hvm.findClass]; exact h1, hi', h3, by rw [he]; exact h4, h5, h6, h7, by rw [he]; exact h8, h9, h10, by rw [he]; exact h11, h12⟩
theorem mm_S1.kept {C n d : String} {A : Nat → Prop} {U : State} {H H1 : Heap} (h : mm_S1 C n d A U H) (hq : ∀ a : Nat, a < H.size → ¬ A a → H1[a]? = H[a]?) : mm_S1 C n d A U H1 := by
  obtain ⟨c, k, i, f, a, cell, v, h1, h2, h3, h4, h5, h6, h7, h8, h9, h10, h11, h12⟩ := h
  exact ⟨c, k, i, f, a, cell, v, h1, h2, h3, h4, by rw [hq a (Array.getElem?_eq_some_iff.mp h5).1 h12]; exact h5, h6, h7, h8, h9, h10, h11, h12⟩
theorem mm_S1.narrow {C n d : String} {A B : Nat → Prop} {U : State} {H : Heap} (h : mm_S1 C n d A U H) (hAB : ∀ q, q < H.size → B q → A q) : mm_S1 C n d B U H := by
  obtain ⟨c, k, i, f, a, cell, v, h1, h2, h3, h4, h5, h6, h7, h8, h9, h10, h11, h12⟩ := h
  exact ⟨c, k, i, f, a, cell, v, h1, h2, h3, h4, h5, h6, h7, h8, h9, h10, h11, fun z => h12 (hAB _ (Array.getElem?_eq_some_iff.mp h5).1 z)⟩
theorem mm_S1.word {C n d : String} {A : Nat → Prop} {s : State} {args : Array Value} (h : mm_S1 C n d A s s.heap) : (Cond.laysStatic C n d).before args s = true ∧ (Cond.isRef (.static C n d)).before args s = true := by
  obtain ⟨c, k, i, f, a, cell, v, h1, h2, h3, h4, h5, h6, h7, h8, h9, h10, h11, -⟩ := h
  refine ⟨?_, ?_⟩
  · show (Cond.laysStatic C n d).holds args s none s [] = true
    exact Cond.laysStatic_of h1 h2 h3 h4 h5 h6 h7 (Array.getElem?_eq_some_iff.mp h9).1 h8
  · have he : (Term.static C n d).eval args s none [] s = some v := by
      simp [Term.eval, State.fieldNamed?, h2, h3, h4, h5, h6, h9]
    simp only [Cond.before, Cond.holds, Cond.value, he]
    cases v <;> simp_all [Value.isRef]
/-- what holds of the tables and the statics at every state of the run -/
def mm_X (G : mm_G) (A : Nat → Prop) (s : State) : Prop := va_K G.1 mm_cl (mm_tys G.2) s ∧ (∀ w ∈ mm_NW, va_Nw w s) ∧ (∀ q ∈ mm_ST, mm_S1 q.1 q.2.1 q.2.2 A s s.heap) ∧ (∀ q ∈ mm_SR, ∃ a, vk_R q.1 q.2.1 q.2.2 a s) ∧ ∀ q ∈ mm_NC, va_Nc q.1 q.2 s
def mm_C (l : Launch) (G : mm_G) (K : mm_M) (p : Program) (s : State) (mid : MethodId) (args : Array Value) (meth : Method) (c : Code) (A : Nat → Prop) (b0 : Nat) : Prop :=
  p.tables.exec = Jvm.exec ∧ c.code = K.2.1 ∧ c.maxLocals = K.2.2.1 ∧ meth.sig.returnType = K.2.2.2.1 ∧ meth.locks = false ∧ meth.name = K.2.2.2.2.2.2.1 ∧ s.vm.findClass K.1 = some mid.cls ∧ c.exceptionTable.toList = tableOf K.2.2.2.2.2.1 ∧ (∀ w ∈ mm_T, w.before args s = true) ∧ mm_X G A s ∧ (∀ (q : Nat) (cell : Cell), A q → s.heap[q]? = some cell → cell.vm.isStatics = false) ∧ l.stackTraces = false ∧
  (match K.2.2.2.2.2.2.2 with
   | none => True
   | some (L, xs) => va_X b0 L xs s s.heap ∧ b0 < s.heap.size ∧ ¬ A b0)
def mm_room (K : mm_M) (mc ms : Nat) : Room := { frames := K.2.2.2.2.1.1, cells := mc, slots := ms, locals := K.2.2.2.2.1.2 }
def mm_out (s t : State) (ad : Nat → Nat) (n : Nat) (u : mm_O) (o : Outcome) : Prop := match u with
  | .inl v => o = .returned (v.map (mm_v ad)) ∧ ∀ w, v = some w → mm_cv n w
  | .inr E => ∃ (q : Addr) (ce : Cell), o = .threw q ∧ t.heap[q]? = some ce ∧ ce.vm = .none ∧ s.vm.findClass E = some ce.cls
def mm_Q (G : mm_G) (A : Nat → Prop) (n0 : Nat) (ad0 : Nat → Nat) (Q : mm_O → mm_Mem → Prop) (s : State) (o : Outcome) (t : State) : Prop :=
  ∃ (u : mm_O) (m : mm_Mem) (ad : Nat → Nat), Q u m ∧ mm_R G.1 A ad m t.heap ∧ n0 ≤ mm_n m ∧ (∀ r, r ≤ n0 → ad r = ad0 r) ∧ va_F A s t ∧ mm_out s t ad (mm_n m) u o
def mm_Z (G : mm_G) (A : Nat → Prop) (below : List Frame) (s : State) (mc ms n0 : Nat) (ad0 : Nat → Nat) (Q : mm_O → mm_Mem → Prop) : State → Prop := fun t =>
  ∃ o, t.status = .running ∧ Ended t below o ∧ mm_Q G A n0 ad0 Q s o t ∧ ∃ L, s.WarmedH t.vm ∧ s.sameButNew ({ t with vm := s.vm } : State) L mc ms ∧ ∀ q ∈ L, A q.base
/-- the method K stands at pc with these locals and operands over the memory m; b more cells and slots may be made; it comes to an end with Q -/
def mm_W (l : Launch) (G : mm_G) (K : mm_M) (pc : Nat) (lv : List (Nat × Value)) (st : List Value) (b : Nat) (m : mm_Mem) (Q : mm_O → mm_Mem → Prop) : Prop :=
  ∀ (p : Program) (e : Env) (s : State) (mid : MethodId) (args : Array Value) (below : List Frame) (meth : Method) (c : Code) (mc ms n0 : Nat) (ad0 ad : Nat → Nat) (A : Nat → Prop) (H : Heap) (locs : List Loc) (cells slots : Nat) (ls : Array Slot),
    mm_C l G K p s mid args meth c A (ad0 0) → (∀ q, s.heap.size ≤ q → A q) → n0 ≤ mm_n m → (∀ r, r ≤ n0 → ad r = ad0 r) → mm_R G.1 A ad m H → va_S A s.heap H locs → lv_has ls K.2.2.1 (lv.map (mm_q ad)) → (∀ q ∈ lv, mm_cv (mm_n m) q.2) → (∀ v ∈ st, mm_cv (mm_n m) v) → cells + b ≤ mc → slots + b ≤ ms →
    W p l e (mm_room K mc ms) s mid args below meth c H locs cells slots (mm_Z G A below s mc ms n0 ad0 Q) (F0 mid pc ls (st.map (mm_v ad)))
/-- .. and so with an exception of class E thrown at pc -/
def mm_WX (l : Launch) (G : mm_G) (K : mm_M) (pc : Nat) (lv : List (Nat × Value)) (E : String) (b : Nat) (m : mm_Mem) (Q : mm_O → mm_Mem → Prop) : Prop :=
  ∀ (p : Program) (e : Env) (s : State) (mid : MethodId) (args : Array Value) (below : List Frame) (meth : Method) (c : Code) (mc ms n0 : Nat) (ad0 ad : Nat → Nat) (A : Nat → Prop) (H : Heap) (locs : List Loc) (cells slots : Nat) (ls : Array Slot),
    mm_C l G K p s mid args meth c A (ad0 0) → (∀ q, s.heap.size ≤ q → A q) → n0 ≤ mm_n m → (∀ r, r ≤ n0 → ad r = ad0 r) → mm_R G.1 A ad m H → va_S A s.heap H locs → lv_has ls K.2.2.1 (lv.map (mm_q ad)) → (∀ q ∈ lv, mm_cv (mm_n m) q.2) → cells + b ≤ mc → slots + b ≤ ms →
    ∀ (q : Addr) (ce : Cell) (stC : List Value), H[q]? = some ce → ce.vm = .none → s.vm.findClass E = some ce.cls → ∀ T : State, T.heap = H → Stand p l e (mm_room K mc ms) s mid args below meth c T locs cells slots →
      ∃ t, Steps p.tables e below ((T.setTop (F0 mid pc ls stC)).pushFrame (.throwing q)) t ∧ mm_Z G A below s mc ms n0 ad0 Q t
theorem mm_sc {n : Nat} {v : Value} {st : List Value} (hv : mm_cv n v) (h : ∀ w ∈ st, mm_cv n w) : ∀ w ∈ v :: st, mm_cv n w := fun w hw => by
  rcases List.mem_cons.mp hw with rfl | hw
  · exact hv
  · exact h w hw
theorem mm_sd {n : Nat} {v : Value} {st : List Value} (h : ∀ w ∈ v :: st, mm_cv n w) : ∀ w ∈ st, mm_cv n w := fun w hw => h w (List.mem_cons_of_mem _ hw)
theorem mm_sh {n : Nat} {v : Value} {st : List Value} (h : ∀ w ∈ v :: st, mm_cv n w) : mm_cv n v := h v List.mem_cons_self
theorem mm_lg {ls : Array Slot} {nL : Nat} {ad : Nat → Nat} {lv : List (Nat × Value)} (h : lv_has ls nL (lv.map (mm_q ad))) (j : Nat) {i : Nat} {v : Value} (hj : lv[j]? = some (i, v)) : ls[i]? = some (.val (mm_v ad v)) :=
  lv_at h j (by rw [List.getElem?_map, hj]; rfl)
theorem mm_lc {n : Nat} {lv : List (Nat × Value)} (h : ∀ q ∈ lv, mm_cv n q.2) {j i : Nat} {v : Value} (hj : lv[j]? = some (i, v)) : mm_cv n v := h (i, v) (List.mem_of_getElem? hj)
theorem mm_mono {p : Program} {l : Launch} {e : Env} {R : Room} {s : State} {m : MethodId} {args : Array Value} {below : List Frame} {meth : Method} {c : Code} {H : Heap} {locs : List Loc} {cells slots : Nat} {Q Q' : State → Prop} {g : JFrame} (h : ∀ t, Q t → Q' t) (k : W p l e R s m args below meth c H locs cells slots Q g) : W p l e R s m args below meth c H locs cells slots Q' g := fun T hT X => by
  obtain ⟨t, a, b⟩ := k T hT X
  exact ⟨t, a, h t b⟩
theorem mm_ofMQ {G : mm_G} {A : Nat → Prop} {below : List Frame} {args : Array Value} {s : State} {mc ms n0 : Nat} {ad0 : Nat → Nat} {Q : mm_O → mm_Mem → Prop} (t : State) (h : MQ below (fun _ s o t => mm_Q G A n0 ad0 Q s o t) args s mc ms A t) : mm_Z G A below s mc ms n0 ad0 Q t := by
  obtain ⟨o, h1, h2, h3, L, h4, h5⟩ := h
  exact ⟨o, h1, h2, h3, L, h4.2.1, h4.2.2, h5⟩

section MMR
variable {l : Launch} {G : mm_G} {K : mm_M} {pc : Nat} {lv lv2 : List (Nat × Value)} {st : List Value} {b : Nat} {m : mm_Mem} {Q : mm_O → mm_Mem → Prop}
theorem mm_iconst {n : Int} {v : Int32} (hd : decode K.2.1 pc = .ok (.iconst n, 1)) (hv : Int32.ofInt n = v) (h : mm_W l G K (pc + 1) lv (.int v :: st) b m Q) : mm_W l G K pc lv st b m Q := by
  intro p e s mid args below meth c mc ms n0 ad0 ad A H locs cells slots ls C hA hn had hR hS hls hlc hsc hb1 hb2
  exact lv_iconst C.1 C.2.1 hd hv (h p e s mid args below meth c mc ms n0 ad0 ad A H locs cells slots ls C hA hn had hR hS hls hlc (mm_sc trivial hsc) hb1 hb2)
theorem mm_bipush {n : Int} {v : Int32} (hd : decode K.2.1 pc = .ok (.bipush n, 2)) (hv : (Int8.ofInt n).toInt32 = v) (h : mm_W l G K (pc + 2) lv (.int v :: st) b m Q) : mm_W l G K pc lv st b m Q := by
  intro p e s mid args below meth c mc ms n0 ad0 ad A H locs cells slots ls C hA hn had hR hS hls hlc hsc hb1 hb2
  exact lv_bipush C.1 C.2.1 hd hv (h p e s mid args below meth c mc ms n0 ad0 ad A H locs cells slots ls C hA hn had hR hS hls hlc (mm_sc trivial hsc) hb1 hb2)
theorem mm_sipush {n : Int} {v : Int32} (hd : decode K.2.1 pc = .ok (.sipush n, 3)) (hv : (Int16.ofInt n).toInt32 = v) (h : mm_W l G K (pc + 3) lv (.int v :: st) b m Q) : mm_W l G K pc lv st b m Q := by
  intro p e s mid args below meth c mc ms n0 ad0 ad A H locs cells slots ls C hA hn had hR hS hls hlc hsc hb1 hb2
  exact lv_sipush C.1 C.2.1 hd hv (h p e s mid args below meth c mc ms n0 ad0 ad A H locs cells slots ls C hA hn had hR hS hls hlc (mm_sc trivial hsc) hb1 hb2)
theorem mm_lconst {n : Fin 2} {v : Int64} (hd : decode K.2.1 pc = .ok (.lconst n, 1)) (hv : Int64.ofNat (n : Nat) = v) (h : mm_W l G K (pc + 1) lv (.long v :: st) b m Q) : mm_W l G K pc lv st b m Q := by
  intro p e s mid args below meth c mc ms n0 ad0 ad A H locs cells slots ls C hA hn had hR hS hls hlc hsc hb1 hb2
  exact lv_lconst C.1 C.2.1 hd hv (h p e s mid args below meth c mc ms n0 ad0 ad A H locs cells slots ls C hA hn had hR hS hls hlc (mm_sc trivial hsc) hb1 hb2)
theorem mm_ldc {index : Nat} {v : Int32} (hc : Jvm.Cond.constant K.1 index v ∈ mm_T) (hd : decode K.2.1 pc = .ok (.ldc index, 2)) (h : mm_W l G K (pc + 2) lv (.int v :: st) b m Q) : mm_W l G K pc lv st b m Q := by
  intro p e s mid args below meth c mc ms n0 ad0 ad A H locs cells slots ls C hA hn had hR hS hls hlc hsc hb1 hb2
  obtain ⟨hx, hb, -, -, -, -, hown, -, hts, -⟩ := id C
  exact lv_ldc hx hb hown (hts _ hc) hd (h p e s mid args below meth c mc ms n0 ad0 ad A H locs cells slots ls C hA hn had hR hS hls hlc (mm_sc trivial hsc) hb1 hb2)
theorem mm_ldcw {index : Nat} {v : Int32} (hc : Jvm.Cond.constant K.1 index v ∈ mm_T) (hd : decode K.2.1 pc = .ok (.ldc_w index, 3)) (h : mm_W l G K (pc + 3) lv (.int v :: st) b m Q) : mm_W l G K pc lv st b m Q := by
  intro p e s mid args below meth c mc ms n0 ad0 ad A H locs cells slots ls C hA hn had hR hS hls hlc hsc hb1 hb2
  obtain ⟨hx, hb, -, -, -, -, hown, -, hts, -⟩ := id C
  exact lv_ldcw hx hb hown (hts _ hc) hd (h p e s mid args below meth c mc ms n0 ad0 ad A H locs cells slots ls C hA hn had hR hS hls hlc (mm_sc trivial hsc) hb1 hb2)
theorem mm_ldc2 {index : Nat} {v : Int64} (hc : Jvm.Cond.constantLong K.1 index v ∈ mm_T) (hd : decode K.2.1 pc = .ok (.ldc2_w index, 3)) (h : mm_W l G K (pc + 3) lv (.long v :: st) b m Q) : mm_W l G K pc lv st b m Q := by
  intro p e s mid args below meth c mc ms n0 ad0 ad A H locs cells slots ls C hA hn had hR hS hls hlc hsc hb1 hb2
  obtain ⟨hx, hb, -, -, -, -, hown, -, hts, -⟩ := id C
  exact lv_ldc2 hx hb hown (hts _ hc) hd (h p e s mid args below meth c mc ms n0 ad0 ad A H locs cells slots ls C hA hn had hR hS hls hlc (mm_sc trivial hsc) hb1 hb2)
theorem mm_null (hd : decode K.2.1 pc = .ok (.aconst_null, 1)) (h : mm_W l G K (pc + 1) lv (.null :: st) b m Q) : mm_W l G K pc lv st b m Q := by
  intro p e s mid args below meth c mc ms n0 ad0 ad A H locs cells slots ls C hA hn had hR hS hls hlc hsc hb1 hb2
  exact lv_null C.1 C.2.1 hd (h p e s mid args below meth c mc ms n0 ad0 ad A H locs cells slots ls C hA hn had hR hS hls hlc (mm_sc trivial hsc) hb1 hb2)
theorem mm_iload_n (j : Nat) {k : Fin 4} {i : Nat} {x : Int32} (hd : decode K.2.1 pc = .ok (.iload_n k, 1)) (hi : (k : Nat) = i) (hj : lv[j]? = some (i, .int x)) (h : mm_W l G K (pc + 1) lv (.int x :: st) b m Q) : mm_W l G K pc lv st b m Q := by
  intro p e s mid args below meth c mc ms n0 ad0 ad A H locs cells slots ls C hA hn had hR hS hls hlc hsc hb1 hb2
  exact lv_iload_n C.1 C.2.1 hd hi (mm_lg hls j hj) (h p e s mid args below meth c mc ms n0 ad0 ad A H locs cells slots ls C hA hn had hR hS hls hlc (mm_sc trivial hsc) hb1 hb2)
theorem mm_iload (j : Nat) {i : Nat} {x : Int32} (hd : decode K.2.1 pc = .ok (.iload i, 2)) (hj : lv[j]? = some (i, .int x)) (h : mm_W l G K (pc + 2) lv (.int x :: st) b m Q) : mm_W l G K pc lv st b m Q := by
  intro p e s mid args below meth c mc ms n0 ad0 ad A H locs cells slots ls C hA hn had hR hS hls hlc hsc hb1 hb2
  exact lv_iload C.1 C.2.1 hd (mm_lg hls j hj) (h p e s mid args below meth c mc ms n0 ad0 ad A H locs cells slots ls C hA hn had hR hS hls hlc (mm_sc trivial hsc) hb1 hb2)
theorem mm_lload_n (j : Nat) {k : Fin 4} {i : Nat} {x : Int64} (hd : decode K.2.1 pc = .ok (.lload_n k, 1)) (hi : (k : Nat) = i) (hj : lv[j]? = some (i, .long x)) (h : mm_W l G K (pc + 1) lv (.long x :: st) b m Q) : mm_W l G K pc lv st b m Q := by
  intro p e s mid args below meth c mc ms n0 ad0 ad A H locs cells slots ls C hA hn had hR hS hls hlc hsc hb1 hb2
  exact lv_lload_n C.1 C.2.1 hd hi (mm_lg hls j hj) (h p e s mid args below meth c mc ms n0 ad0 ad A H locs cells slots ls C hA hn had hR hS hls hlc (mm_sc trivial hsc) hb1 hb2)
theorem mm_lload (j : Nat) {i : Nat} {x : Int64} (hd : decode K.2.1 pc = .ok (.lload i, 2)) (hj : lv[j]? = some (i, .long x)) (h : mm_W l G K (pc + 2) lv (.long x :: st) b m Q) : mm_W l G K pc lv st b m Q := by
  intro p e s mid args below meth c mc ms n0 ad0 ad A H locs cells slots ls C hA hn had hR hS hls hlc hsc hb1 hb2
  exact lv_lload C.1 C.2.1 hd (mm_lg hls j hj) (h p e s mid args below meth c mc ms n0 ad0 ad A H locs cells slots ls C hA hn had hR hS hls hlc (mm_sc trivial hsc) hb1 hb2)
theorem mm_aload_n (j : Nat) {k : Fin 4} {i x : Nat} (hd : decode K.2.1 pc = .ok (.aload_n k, 1)) (hi : (k : Nat) = i) (hj : lv[j]? = some (i, .ref x)) (h : mm_W l G K (pc + 1) lv (.ref x :: st) b m Q) : mm_W l G K pc lv st b m Q := by
  intro p e s mid args below meth c mc ms n0 ad0 ad A H locs cells slots ls C hA hn had hR hS hls hlc hsc hb1 hb2
  exact lv_aload_n C.1 C.2.1 hd hi (mm_lg hls j hj) (h p e s mid args below meth c mc ms n0 ad0 ad A H locs cells slots ls C hA hn had hR hS hls hlc (mm_sc (mm_lc hlc hj) hsc) hb1 hb2)
theorem mm_aload (j : Nat) {i x : Nat} (hd : decode K.2.1 pc = .ok (.aload i, 2)) (hj : lv[j]? = some (i, .ref x)) (h : mm_W l G K (pc + 2) lv (.ref x :: st) b m Q) : mm_W l G K pc lv st b m Q := by
  intro p e s mid args below meth c mc ms n0 ad0 ad A H locs cells slots ls C hA hn had hR hS hls hlc hsc hb1 hb2
  exact lv_aload C.1 C.2.1 hd (mm_lg hls j hj) (h p e s mid args below meth c mc ms n0 ad0 ad A H locs cells slots ls C hA hn had hR hS hls hlc (mm_sc (mm_lc hlc hj) hsc) hb1 hb2)
theorem mm_aload_nN (j : Nat) {k : Fin 4} {i : Nat} (hd : decode K.2.1 pc = .ok (.aload_n k, 1)) (hi : (k : Nat) = i) (hj : lv[j]? = some (i, .null)) (h : mm_W l G K (pc + 1) lv (.null :: st) b m Q) : mm_W l G K pc lv st b m Q := by
  intro p e s mid args below meth c mc ms n0 ad0 ad A H locs cells slots ls C hA hn had hR hS hls hlc hsc hb1 hb2
  exact lv_aload_nN C.1 C.2.1 hd hi (mm_lg hls j hj) (h p e s mid args below meth c mc ms n0 ad0 ad A H locs cells slots ls C hA hn had hR hS hls hlc (mm_sc trivial hsc) hb1 hb2)
theorem mm_aloadN (j : Nat) {i : Nat} (hd : decode K.2.1 pc = .ok (.aload i, 2)) (hj : lv[j]? = some (i, .null)) (h : mm_W l G K (pc + 2) lv (.null :: st) b m Q) : mm_W l G K pc lv st b m Q := by
  intro p e s mid args below meth c mc ms n0 ad0 ad A H locs cells slots ls C hA hn had hR hS hls hlc hsc hb1 hb2
  exact lv_aloadN C.1 C.2.1 hd (mm_lg hls j hj) (h p e s mid args below meth c mc ms n0 ad0 ad A H locs cells slots ls C hA hn had hR hS hls hlc (mm_sc trivial hsc) hb1 hb2)
end MMR
theorem mm_f1 {ad : Nat → Nat} {lv : List (Nat × Value)} (i : Nat) (v : Value) : (i, mm_v ad v) :: (lv.map (mm_q ad)).filter (fun q => !(q.1 == i) && !(q.1 + 1 == i && q.2.category == 2)) = ((i, v) :: lv.filter (fun q => !(q.1 == i) && !(q.1 + 1 == i && q.2.category == 2))).map (mm_q ad) := by
  rw [List.map_cons, List.filter_map]
  congr 2
  refine List.filter_congr fun q _ => ?_
  simp only [Function.comp, mm_q, mm_v_cat]
theorem mm_f2 {ad : Nat → Nat} {lv : List (Nat × Value)} (i : Nat) (v : Value) : (i, mm_v ad v) :: (lv.map (mm_q ad)).filter (fun q => !(q.1 == i) && (!(q.1 == i + 1) && !(q.1 + 1 == i && q.2.category == 2))) = ((i, v) :: lv.filter (fun q => !(q.1 == i) && (!(q.1 == i + 1) && !(q.1 + 1 == i && q.2.category == 2)))).map (mm_q ad) := by
  rw [List.map_cons, List.filter_map]
  congr 2
  refine List.filter_congr fun q _ => ?_
  simp only [Function.comp, mm_q, mm_v_cat]
theorem mm_fc {n i : Nat} {v : Value} {lv : List (Nat × Value)} {P : Nat × Value → Bool} (h : ∀ q ∈ lv, mm_cv n q.2) (hv : mm_cv n v) : ∀ q ∈ (i, v) :: lv.filter P, mm_cv n q.2 := fun q hq => by
  rcases List.mem_cons.mp hq with rfl | hq
  · exact hv
  · exact h q (List.mem_filter.mp hq).1
section MMS
variable {l : Launch} {G : mm_G} {K : mm_M} {pc : Nat} {lv lv2 : List (Nat × Value)} {st : List Value} {b : Nat} {m : mm_Mem} {Q : mm_O → mm_Mem → Prop}
theorem mm_istore_n {k : Fin 4} {i : Nat} {x : Int32} (hd : decode K.2.1 pc = .ok (.istore_n k, 1)) (hi : (k : Nat) = i) (hn : i < K.2.2.1) (hl : (i, .int x) :: lv.filter (fun q => !(q.1 == i) && !(q.1 + 1 == i && q.2.category == 2)) = lv2) (h : mm_W l G K (pc + 1) lv2 st b m Q) : mm_W l G K pc lv (.int x :: st) b m Q := by
  intro p e s mid args below meth c mc ms n0 ad0 ad A H locs cells slots ls C hA hn0 had hR hS hls hlc hsc hb1 hb2
  subst hl
  exact lv_istore_n C.1 C.2.1 hd hi hls hn (mm_f1 (ad := ad) i (.int x)) (fun ls hls => (h p e s mid args below meth c mc ms n0 ad0 ad A H locs cells slots ls C hA hn0 had hR hS hls (mm_fc hlc trivial) (mm_sd hsc) hb1 hb2))
theorem mm_lstore_n {k : Fin 4} {i : Nat} {x : Int64} (hd : decode K.2.1 pc = .ok (.lstore_n k, 1)) (hi : (k : Nat) = i) (hn : i + 1 < K.2.2.1) (hl : (i, .long x) :: lv.filter (fun q => !(q.1 == i) && (!(q.1 == i + 1) && !(q.1 + 1 == i && q.2.category == 2))) = lv2) (h : mm_W l G K (pc + 1) lv2 st b m Q) : mm_W l G K pc lv (.long x :: st) b m Q := by
  intro p e s mid args below meth c mc ms n0 ad0 ad A H locs cells slots ls C hA hn0 had hR hS hls hlc hsc hb1 hb2
  subst hl
  exact lv_lstore_n C.1 C.2.1 hd hi hls hn (mm_f2 (ad := ad) i (.long x)) (fun ls hls => (h p e s mid args below meth c mc ms n0 ad0 ad A H locs cells slots ls C hA hn0 had hR hS hls (mm_fc hlc trivial) (mm_sd hsc) hb1 hb2))
theorem mm_astore_n {k : Fin 4} {i : Nat} {x : Nat} (hd : decode K.2.1 pc = .ok (.astore_n k, 1)) (hi : (k : Nat) = i) (hn : i < K.2.2.1) (hl : (i, .ref x) :: lv.filter (fun q => !(q.1 == i) && !(q.1 + 1 == i && q.2.category == 2)) = lv2) (h : mm_W l G K (pc + 1) lv2 st b m Q) : mm_W l G K pc lv (.ref x :: st) b m Q := by
  intro p e s mid args below meth c mc ms n0 ad0 ad A H locs cells slots ls C hA hn0 had hR hS hls hlc hsc hb1 hb2
  subst hl
  exact lv_astore_n C.1 C.2.1 hd hi hls hn (mm_f1 (ad := ad) i (.ref x)) (fun ls hls => (h p e s mid args below meth c mc ms n0 ad0 ad A H locs cells slots ls C hA hn0 had hR hS hls (mm_fc hlc (mm_sh hsc)) (mm_sd hsc) hb1 hb2))
theorem mm_astore_nN {k : Fin 4} {i : Nat} (hd : decode K.2.1 pc = .ok (.astore_n k, 1)) (hi : (k : Nat) = i) (hn : i < K.2.2.1) (hl : (i, .null) :: lv.filter (fun q => !(q.1 == i) && !(q.1 + 1 == i && q.2.category == 2)) = lv2) (h : mm_W l G K (pc + 1) lv2 st b m Q) : mm_W l G K pc lv (.null :: st) b m Q := by
  intro p e s mid args below meth c mc ms n0 ad0 ad A H locs cells slots ls C hA hn0 had hR hS hls hlc hsc hb1 hb2
  subst hl
  exact lv_astore_nN C.1 C.2.1 hd hi hls hn (mm_f1 (ad := ad) i (.null)) (fun ls hls => (h p e s mid args below meth c mc ms n0 ad0 ad A H locs cells slots ls C hA hn0 had hR hS hls (mm_fc hlc trivial) (mm_sd hsc) hb1 hb2))
theorem mm_istore {i : Nat} {x : Int32} (hd : decode K.2.1 pc = .ok (.istore i, 2)) (hn : i < K.2.2.1) (hl : (i, .int x) :: lv.filter (fun q => !(q.1 == i) && !(q.1 + 1 == i && q.2.category == 2)) = lv2) (h : mm_W l G K (pc + 2) lv2 st b m Q) : mm_W l G K pc lv (.int x :: st) b m Q := by
  intro p e s mid args below meth c mc ms n0 ad0 ad A H locs cells slots ls C hA hn0 had hR hS hls hlc hsc hb1 hb2
  subst hl
  exact lv_istore C.1 C.2.1 hd hls hn (mm_f1 (ad := ad) i (.int x)) (fun ls hls => (h p e s mid args below meth c mc ms n0 ad0 ad A H locs cells slots ls C hA hn0 had hR hS hls (mm_fc hlc trivial) (mm_sd hsc) hb1 hb2))
theorem mm_lstore {i : Nat} {x : Int64} (hd : decode K.2.1 pc = .ok (.lstore i, 2)) (hn : i + 1 < K.2.2.1) (hl : (i, .long x) :: lv.filter (fun q => !(q.1 == i) && (!(q.1 == i + 1) && !(q.1 + 1 == i && q.2.category == 2))) = lv2) (h : mm_W l G K (pc + 2) lv2 st b m Q) : mm_W l G K pc lv (.long x :: st) b m Q := by
  intro p e s mid args below meth c mc ms n0 ad0 ad A H locs cells slots ls C hA hn0 had hR hS hls hlc hsc hb1 hb2
  subst hl
  exact lv_lstore C.1 C.2.1 hd hls hn (mm_f2 (ad := ad) i (.long x)) (fun ls hls => (h p e s mid args below meth c mc ms n0 ad0 ad A H locs cells slots ls C hA hn0 had hR hS hls (mm_fc hlc trivial) (mm_sd hsc) hb1 hb2))
theorem mm_astore {i : Nat} {x : Nat} (hd : decode K.2.1 pc = .ok (.astore i, 2)) (hn : i < K.2.2.1) (hl : (i, .ref x) :: lv.filter (fun q => !(q.1 == i) && !(q.1 + 1 == i && q.2.category == 2)) = lv2) (h : mm_W l G K (pc + 2) lv2 st b m Q) : mm_W l G K pc lv (.ref x :: st) b m Q := by
  intro p e s mid args below meth c mc ms n0 ad0 ad A H locs cells slots ls C hA hn0 had hR hS hls hlc hsc hb1 hb2
  subst hl
  exact lv_astore C.1 C.2.1 hd hls hn (mm_f1 (ad := ad) i (.ref x)) (fun ls hls => (h p e s mid args below meth c mc ms n0 ad0 ad A H locs cells slots ls C hA hn0 had hR hS hls (mm_fc hlc (mm_sh hsc)) (mm_sd hsc) hb1 hb2))
theorem mm_astoreN {i : Nat} (hd : decode K.2.1 pc = .ok (.astore i, 2)) (hn : i < K.2.2.1) (hl : (i, .null) :: lv.filter (fun q => !(q.1 == i) && !(q.1 + 1 == i && q.2.category == 2)) = lv2) (h : mm_W l G K (pc + 2) lv2 st b m Q) : mm_W l G K pc lv (.null :: st) b m Q := by
  intro p e s mid args below meth c mc ms n0 ad0 ad A H locs cells slots ls C hA hn0 had hR hS hls hlc hsc hb1 hb2
  subst hl
  exact lv_astoreN C.1 C.2.1 hd hls hn (mm_f1 (ad := ad) i (.null)) (fun ls hls => (h p e s mid args below meth c mc ms n0 ad0 ad A H locs cells slots ls C hA hn0 had hR hS hls (mm_fc hlc trivial) (mm_sd hsc) hb1 hb2))
theorem mm_iinc (j : Nat) {i : Nat} {n : Int} {x v : Int32} (hd : decode K.2.1 pc = .ok (.iinc i n, 3)) (hj : lv[j]? = some (i, .int x)) (hv : x + Int32.ofInt n = v) (hn : i < K.2.2.1) (hl : (i, .int v) :: lv.filter (fun q => !(q.1 == i) && !(q.1 + 1 == i && q.2.category == 2)) = lv2) (h : mm_W l G K (pc + 3) lv2 st b m Q) : mm_W l G K pc lv st b m Q := by
  intro p e s mid args below meth c mc ms n0 ad0 ad A H locs cells slots ls C hA hn0 had hR hS hls hlc hsc hb1 hb2
  subst hl
  exact lv_iinc (k := j) C.1 C.2.1 hd hls (by rw [List.getElem?_map, hj]; rfl) hv hn (mm_f1 (ad := ad) i (.int v)) (fun ls hls => (h p e s mid args below meth c mc ms n0 ad0 ad A H locs cells slots ls C hA hn0 had hR hS hls (mm_fc hlc trivial) hsc hb1 hb2))
end MMS
section MMA
variable {l : Launch} {G : mm_G} {K : mm_M} {pc : Nat} {lv lv2 : List (Nat × Value)} {st : List Value} {b : Nat} {m : mm_Mem} {Q : mm_O → mm_Mem → Prop}
theorem mm_iadd {x y : Int32} (hd : decode K.2.1 pc = .ok (.iadd, 1)) (h : mm_W l G K (pc + 1) lv (.int (x + y) :: st) b m Q) : mm_W l G K pc lv (.int y :: .int x :: st) b m Q := by
  intro p e s mid args below meth c mc ms n0 ad0 ad A H locs cells slots ls C hA hn had hR hS hls hlc hsc hb1 hb2
  exact lv_iadd C.1 C.2.1 hd (h p e s mid args below meth c mc ms n0 ad0 ad A H locs cells slots ls C hA hn had hR hS hls hlc (mm_sc trivial (mm_sd (mm_sd hsc))) hb1 hb2)
theorem mm_isub {x y : Int32} (hd : decode K.2.1 pc = .ok (.isub, 1)) (h : mm_W l G K (pc + 1) lv (.int (x - y) :: st) b m Q) : mm_W l G K pc lv (.int y :: .int x :: st) b m Q := by
  intro p e s mid args below meth c mc ms n0 ad0 ad A H locs cells slots ls C hA hn had hR hS hls hlc hsc hb1 hb2
  exact lv_isub C.1 C.2.1 hd (h p e s mid args below meth c mc ms n0 ad0 ad A H locs cells slots ls C hA hn had hR hS hls hlc (mm_sc trivial (mm_sd (mm_sd hsc))) hb1 hb2)
theorem mm_imul {x y : Int32} (hd : decode K.2.1 pc = .ok (.imul, 1)) (h : mm_W l G K (pc + 1) lv (.int (x * y) :: st) b m Q) : mm_W l G K pc lv (.int y :: .int x :: st) b m Q := by
  intro p e s mid args below meth c mc ms n0 ad0 ad A H locs cells slots ls C hA hn had hR hS hls hlc hsc hb1 hb2
  exact lv_imul C.1 C.2.1 hd (h p e s mid args below meth c mc ms n0 ad0 ad A H locs cells slots ls C hA hn had hR hS hls hlc (mm_sc trivial (mm_sd (mm_sd hsc))) hb1 hb2)
theorem mm_iand {x y : Int32} (hd : decode K.2.1 pc = .ok (.iand, 1)) (h : mm_W l G K (pc + 1) lv (.int (x &&& y) :: st) b m Q) : mm_W l G K pc lv (.int y :: .int x :: st) b m Q := by
  intro p e s mid args below meth c mc ms n0 ad0 ad A H locs cells slots ls C hA hn had hR hS hls hlc hsc hb1 hb2
  exact lv_iand C.1 C.2.1 hd (h p e s mid args below meth c mc ms n0 ad0 ad A H locs cells slots ls C hA hn had hR hS hls hlc (mm_sc trivial (mm_sd (mm_sd hsc))) hb1 hb2)
theorem mm_ior {x y : Int32} (hd : decode K.2.1 pc = .ok (.ior, 1)) (h : mm_W l G K (pc + 1) lv (.int (x ||| y) :: st) b m Q) : mm_W l G K pc lv (.int y :: .int x :: st) b m Q := by
  intro p e s mid args below meth c mc ms n0 ad0 ad A H locs cells slots ls C hA hn had hR hS hls hlc hsc hb1 hb2
  exact lv_ior C.1 C.2.1 hd (h p e s mid args below meth c mc ms n0 ad0 ad A H locs cells slots ls C hA hn had hR hS hls hlc (mm_sc trivial (mm_sd (mm_sd hsc))) hb1 hb2)
theorem mm_ixor {x y : Int32} (hd : decode K.2.1 pc = .ok (.ixor, 1)) (h : mm_W l G K (pc + 1) lv (.int (x ^^^ y) :: st) b m Q) : mm_W l G K pc lv (.int y :: .int x :: st) b m Q := by
  intro p e s mid args below meth c mc ms n0 ad0 ad A H locs cells slots ls C hA hn had hR hS hls hlc hsc hb1 hb2
  exact lv_ixor C.1 C.2.1 hd (h p e s mid args below meth c mc ms n0 ad0 ad A H locs cells slots ls C hA hn had hR hS hls hlc (mm_sc trivial (mm_sd (mm_sd hsc))) hb1 hb2)
theorem mm_ishl {x y : Int32} (hd : decode K.2.1 pc = .ok (.ishl, 1)) (h : mm_W l G K (pc + 1) lv (.int (x <<< (y &&& 31)) :: st) b m Q) : mm_W l G K pc lv (.int y :: .int x :: st) b m Q := by
  intro p e s mid args below meth c mc ms n0 ad0 ad A H locs cells slots ls C hA hn had hR hS hls hlc hsc hb1 hb2
  exact lv_ishl C.1 C.2.1 hd (h p e s mid args below meth c mc ms n0 ad0 ad A H locs cells slots ls C hA hn had hR hS hls hlc (mm_sc trivial (mm_sd (mm_sd hsc))) hb1 hb2)
theorem mm_ishr {x y : Int32} (hd : decode K.2.1 pc = .ok (.ishr, 1)) (h : mm_W l G K (pc + 1) lv (.int (x >>> (y &&& 31)) :: st) b m Q) : mm_W l G K pc lv (.int y :: .int x :: st) b m Q := by
  intro p e s mid args below meth c mc ms n0 ad0 ad A H locs cells slots ls C hA hn had hR hS hls hlc hsc hb1 hb2
  exact lv_ishr C.1 C.2.1 hd (h p e s mid args below meth c mc ms n0 ad0 ad A H locs cells slots ls C hA hn had hR hS hls hlc (mm_sc trivial (mm_sd (mm_sd hsc))) hb1 hb2)
theorem mm_iushr {x y : Int32} (hd : decode K.2.1 pc = .ok (.iushr, 1)) (h : mm_W l G K (pc + 1) lv (.int (x.toUInt32 >>> (y.toUInt32 &&& Int32.toUInt32 31)).toInt32 :: st) b m Q) : mm_W l G K pc lv (.int y :: .int x :: st) b m Q := by
  intro p e s mid args below meth c mc ms n0 ad0 ad A H locs cells slots ls C hA hn had hR hS hls hlc hsc hb1 hb2
  exact lv_iushr C.1 C.2.1 hd rfl (h p e s mid args below meth c mc ms n0 ad0 ad A H locs cells slots ls C hA hn had hR hS hls hlc (mm_sc trivial (mm_sd (mm_sd hsc))) hb1 hb2)
theorem mm_irem {x y : Int32} (hd : decode K.2.1 pc = .ok (.irem, 1)) (hy : ¬ y = 0) (h : mm_W l G K (pc + 1) lv (.int (x - x / y * y) :: st) b m Q) : mm_W l G K pc lv (.int y :: .int x :: st) b m Q := by
  intro p e s mid args below meth c mc ms n0 ad0 ad A H locs cells slots ls C hA hn had hR hS hls hlc hsc hb1 hb2
  exact lv_irem C.1 C.2.1 hd hy (h p e s mid args below meth c mc ms n0 ad0 ad A H locs cells slots ls C hA hn had hR hS hls hlc (mm_sc trivial (mm_sd (mm_sd hsc))) hb1 hb2)
theorem mm_ladd {x y : Int64} (hd : decode K.2.1 pc = .ok (.ladd, 1)) (h : mm_W l G K (pc + 1) lv (.long (x + y) :: st) b m Q) : mm_W l G K pc lv (.long y :: .long x :: st) b m Q := by
  intro p e s mid args below meth c mc ms n0 ad0 ad A H locs cells slots ls C hA hn had hR hS hls hlc hsc hb1 hb2
  exact lv_ladd C.1 C.2.1 hd (h p e s mid args below meth c mc ms n0 ad0 ad A H locs cells slots ls C hA hn had hR hS hls hlc (mm_sc trivial (mm_sd (mm_sd hsc))) hb1 hb2)
theorem mm_lsub {x y : Int64} (hd : decode K.2.1 pc = .ok (.lsub, 1)) (h : mm_W l G K (pc + 1) lv (.long (x - y) :: st) b m Q) : mm_W l G K pc lv (.long y :: .long x :: st) b m Q := by
  intro p e s mid args below meth c mc ms n0 ad0 ad A H locs cells slots ls C hA hn had hR hS hls hlc hsc hb1 hb2
  exact lv_lsub C.1 C.2.1 hd (h p e s mid args below meth c mc ms n0 ad0 ad A H locs cells slots ls C hA hn had hR hS hls hlc (mm_sc trivial (mm_sd (mm_sd hsc))) hb1 hb2)
theorem mm_lmul {x y : Int64} (hd : decode K.2.1 pc = .ok (.lmul, 1)) (h : mm_W l G K (pc + 1) lv (.long (x * y) :: st) b m Q) : mm_W l G K pc lv (.long y :: .long x :: st) b m Q := by
  intro p e s mid args below meth c mc ms n0 ad0 ad A H locs cells slots ls C hA hn had hR hS hls hlc hsc hb1 hb2
  exact lv_lmul C.1 C.2.1 hd (h p e s mid args below meth c mc ms n0 ad0 ad A H locs cells slots ls C hA hn had hR hS hls hlc (mm_sc trivial (mm_sd (mm_sd hsc))) hb1 hb2)
theorem mm_land {x y : Int64} (hd : decode K.2.1 pc = .ok (.land, 1)) (h : mm_W l G K (pc + 1) lv (.long (x &&& y) :: st) b m Q) : mm_W l G K pc lv (.long y :: .long x :: st) b m Q := by
  intro p e s mid args below meth c mc ms n0 ad0 ad A H locs cells slots ls C hA hn had hR hS hls hlc hsc hb1 hb2
  exact lv_land C.1 C.2.1 hd (h p e s mid args below meth c mc ms n0 ad0 ad A H locs cells slots ls C hA hn had hR hS hls hlc (mm_sc trivial (mm_sd (mm_sd hsc))) hb1 hb2)
theorem mm_lor {x y : Int64} (hd : decode K.2.1 pc = .ok (.lor, 1)) (h : mm_W l G K (pc + 1) lv (.long (x ||| y) :: st) b m Q) : mm_W l G K pc lv (.long y :: .long x :: st) b m Q := by
  intro p e s mid args below meth c mc ms n0 ad0 ad A H locs cells slots ls C hA hn had hR hS hls hlc hsc hb1 hb2
  exact lv_lor C.1 C.2.1 hd (h p e s mid args below meth c mc ms n0 ad0 ad A H locs cells slots ls C hA hn had hR hS hls hlc (mm_sc trivial (mm_sd (mm_sd hsc))) hb1 hb2)
theorem mm_lxor {x y : Int64} (hd : decode K.2.1 pc = .ok (.lxor, 1)) (h : mm_W l G K (pc + 1) lv (.long (x ^^^ y) :: st) b m Q) : mm_W l G K pc lv (.long y :: .long x :: st) b m Q := by
  intro p e s mid args below meth c mc ms n0 ad0 ad A H locs cells slots ls C hA hn had hR hS hls hlc hsc hb1 hb2
  exact lv_lxor C.1 C.2.1 hd (h p e s mid args below meth c mc ms n0 ad0 ad A H locs cells slots ls C hA hn had hR hS hls hlc (mm_sc trivial (mm_sd (mm_sd hsc))) hb1 hb2)
theorem mm_lcmp {x y : Int64} (hd : decode K.2.1 pc = .ok (.lcmp, 1)) (h : mm_W l G K (pc + 1) lv (.int (lg_cmp x y) :: st) b m Q) : mm_W l G K pc lv (.long y :: .long x :: st) b m Q := by
  intro p e s mid args below meth c mc ms n0 ad0 ad A H locs cells slots ls C hA hn had hR hS hls hlc hsc hb1 hb2
  exact W.lcmp C.1 C.2.1 hd (h p e s mid args below meth c mc ms n0 ad0 ad A H locs cells slots ls C hA hn had hR hS hls hlc (mm_sc trivial (mm_sd (mm_sd hsc))) hb1 hb2)
theorem mm_lshl {x : Int64} {y : Int32} (hd : decode K.2.1 pc = .ok (.lshl, 1)) (h : mm_W l G K (pc + 1) lv (.long (x <<< (y.toInt64 &&& 63)) :: st) b m Q) : mm_W l G K pc lv (.int y :: .long x :: st) b m Q := by
  intro p e s mid args below meth c mc ms n0 ad0 ad A H locs cells slots ls C hA hn had hR hS hls hlc hsc hb1 hb2
  exact lv_lshl C.1 C.2.1 hd rfl (h p e s mid args below meth c mc ms n0 ad0 ad A H locs cells slots ls C hA hn had hR hS hls hlc (mm_sc trivial (mm_sd (mm_sd hsc))) hb1 hb2)
theorem mm_i2l {x : Int32} (hd : decode K.2.1 pc = .ok (.i2l, 1)) (h : mm_W l G K (pc + 1) lv (.long x.toInt64 :: st) b m Q) : mm_W l G K pc lv (.int x :: st) b m Q := by
  intro p e s mid args below meth c mc ms n0 ad0 ad A H locs cells slots ls C hA hn had hR hS hls hlc hsc hb1 hb2
  exact lv_i2l C.1 C.2.1 hd rfl (h p e s mid args below meth c mc ms n0 ad0 ad A H locs cells slots ls C hA hn had hR hS hls hlc (mm_sc trivial (mm_sd hsc)) hb1 hb2)
theorem mm_l2i {x : Int64} (hd : decode K.2.1 pc = .ok (.l2i, 1)) (h : mm_W l G K (pc + 1) lv (.int x.toInt32 :: st) b m Q) : mm_W l G K pc lv (.long x :: st) b m Q := by
  intro p e s mid args below meth c mc ms n0 ad0 ad A H locs cells slots ls C hA hn had hR hS hls hlc hsc hb1 hb2
  exact lv_l2i C.1 C.2.1 hd rfl (h p e s mid args below meth c mc ms n0 ad0 ad A H locs cells slots ls C hA hn had hR hS hls hlc (mm_sc trivial (mm_sd hsc)) hb1 hb2)
theorem mm_i2b {x : Int32} (hd : decode K.2.1 pc = .ok (.i2b, 1)) (h : mm_W l G K (pc + 1) lv (.int x.toInt8.toInt32 :: st) b m Q) : mm_W l G K pc lv (.int x :: st) b m Q := by
  intro p e s mid args below meth c mc ms n0 ad0 ad A H locs cells slots ls C hA hn had hR hS hls hlc hsc hb1 hb2
  exact lv_i2b C.1 C.2.1 hd rfl (h p e s mid args below meth c mc ms n0 ad0 ad A H locs cells slots ls C hA hn had hR hS hls hlc (mm_sc trivial (mm_sd hsc)) hb1 hb2)
theorem mm_ineg {x : Int32} (hd : decode K.2.1 pc = .ok (.ineg, 1)) (h : mm_W l G K (pc + 1) lv (.int (-x) :: st) b m Q) : mm_W l G K pc lv (.int x :: st) b m Q := by
  intro p e s mid args below meth c mc ms n0 ad0 ad A H locs cells slots ls C hA hn had hR hS hls hlc hsc hb1 hb2
  exact lv_ineg C.1 C.2.1 hd (h p e s mid args below meth c mc ms n0 ad0 ad A H locs cells slots ls C hA hn had hR hS hls hlc (mm_sc trivial (mm_sd hsc)) hb1 hb2)
theorem mm_dup {v : Value} (hd : decode K.2.1 pc = .ok (.dup, 1)) (hv : v.category = 1) (h : mm_W l G K (pc + 1) lv (v :: v :: st) b m Q) : mm_W l G K pc lv (v :: st) b m Q := by
  intro p e s mid args below meth c mc ms n0 ad0 ad A H locs cells slots ls C hA hn had hR hS hls hlc hsc hb1 hb2
  exact lv_dup C.1 C.2.1 hd ((mm_v_cat ad v).trans hv) (h p e s mid args below meth c mc ms n0 ad0 ad A H locs cells slots ls C hA hn had hR hS hls hlc (mm_sc (mm_sh hsc) hsc) hb1 hb2)
theorem mm_pop {v : Value} (hd : decode K.2.1 pc = .ok (.pop, 1)) (hv : v.category = 1) (h : mm_W l G K (pc + 1) lv st b m Q) : mm_W l G K pc lv (v :: st) b m Q := by
  intro p e s mid args below meth c mc ms n0 ad0 ad A H locs cells slots ls C hA hn had hR hS hls hlc hsc hb1 hb2
  exact lv_pop C.1 C.2.1 hd ((mm_v_cat ad v).trans hv) (h p e s mid args below meth c mc ms n0 ad0 ad A H locs cells slots ls C hA hn had hR hS hls hlc (mm_sd hsc) hb1 hb2)
theorem mm_pop2 {v : Value} (hd : decode K.2.1 pc = .ok (.pop2, 1)) (hv : v.category = 2) (h : mm_W l G K (pc + 1) lv st b m Q) : mm_W l G K pc lv (v :: st) b m Q := by
  intro p e s mid args below meth c mc ms n0 ad0 ad A H locs cells slots ls C hA hn had hR hS hls hlc hsc hb1 hb2
  exact lv_pop2_2 C.1 C.2.1 hd ((mm_v_cat ad v).trans hv) (h p e s mid args below meth c mc ms n0 ad0 ad A H locs cells slots ls C hA hn had hR hS hls hlc (mm_sd hsc) hb1 hb2)
theorem mm_dup_x1 {v w : Value} (hd : decode K.2.1 pc = .ok (.dup_x1, 1)) (hv : v.category = 1) (hw : w.category = 1) (h : mm_W l G K (pc + 1) lv (v :: w :: v :: st) b m Q) : mm_W l G K pc lv (v :: w :: st) b m Q := by
  intro p e s mid args below meth c mc ms n0 ad0 ad A H locs cells slots ls C hA hn had hR hS hls hlc hsc hb1 hb2
  exact lv_dup_x1 C.1 C.2.1 hd ((mm_v_cat ad v).trans hv) ((mm_v_cat ad w).trans hw) (h p e s mid args below meth c mc ms n0 ad0 ad A H locs cells slots ls C hA hn had hR hS hls hlc (mm_sc (mm_sh hsc) (mm_sc (mm_sh (mm_sd hsc)) (mm_sc (mm_sh hsc) (mm_sd (mm_sd hsc))))) hb1 hb2)
theorem mm_dup_x2 {v w x : Value} (hd : decode K.2.1 pc = .ok (.dup_x2, 1)) (hv : v.category = 1) (hw : w.category = 1) (hx : x.category = 1) (h : mm_W l G K (pc + 1) lv (v :: w :: x :: v :: st) b m Q) : mm_W l G K pc lv (v :: w :: x :: st) b m Q := by
  intro p e s mid args below meth c mc ms n0 ad0 ad A H locs cells slots ls C hA hn had hR hS hls hlc hsc hb1 hb2
  exact lv_dup_x2 C.1 C.2.1 hd ((mm_v_cat ad v).trans hv) ((mm_v_cat ad w).trans hw) ((mm_v_cat ad x).trans hx) (h p e s mid args below meth c mc ms n0 ad0 ad A H locs cells slots ls C hA hn had hR hS hls hlc (mm_sc (mm_sh hsc) (mm_sc (mm_sh (mm_sd hsc)) (mm_sc (mm_sh (mm_sd (mm_sd hsc))) (mm_sc (mm_sh hsc) (mm_sd (mm_sd (mm_sd hsc))))))) hb1 hb2)
theorem mm_dup2 {v w : Value} (hd : decode K.2.1 pc = .ok (.dup2, 1)) (hv : v.category = 1) (hw : w.category = 1) (h : mm_W l G K (pc + 1) lv (v :: w :: v :: w :: st) b m Q) : mm_W l G K pc lv (v :: w :: st) b m Q := by
  intro p e s mid args below meth c mc ms n0 ad0 ad A H locs cells slots ls C hA hn had hR hS hls hlc hsc hb1 hb2
  exact lv_dup2_11 C.1 C.2.1 hd ((mm_v_cat ad v).trans hv) ((mm_v_cat ad w).trans hw) (h p e s mid args below meth c mc ms n0 ad0 ad A H locs cells slots ls C hA hn had hR hS hls hlc (mm_sc (mm_sh hsc) (mm_sc (mm_sh (mm_sd hsc)) hsc)) hb1 hb2)
theorem mm_dup2L {v : Value} (hd : decode K.2.1 pc = .ok (.dup2, 1)) (hv : v.category = 2) (h : mm_W l G K (pc + 1) lv (v :: v :: st) b m Q) : mm_W l G K pc lv (v :: st) b m Q := by
  intro p e s mid args below meth c mc ms n0 ad0 ad A H locs cells slots ls C hA hn had hR hS hls hlc hsc hb1 hb2
  exact lv_dup2_2 C.1 C.2.1 hd ((mm_v_cat ad v).trans hv) (h p e s mid args below meth c mc ms n0 ad0 ad A H locs cells slots ls C hA hn had hR hS hls hlc (mm_sc (mm_sh hsc) hsc) hb1 hb2)
theorem mm_dup2_x1L {v w : Value} (hd : decode K.2.1 pc = .ok (.dup2_x1, 1)) (hv : v.category = 2) (hw : w.category = 1) (h : mm_W l G K (pc + 1) lv (v :: w :: v :: st) b m Q) : mm_W l G K pc lv (v :: w :: st) b m Q := by
  intro p e s mid args below meth c mc ms n0 ad0 ad A H locs cells slots ls C hA hn had hR hS hls hlc hsc hb1 hb2
  exact lv_dup2_x1_2 C.1 C.2.1 hd ((mm_v_cat ad v).trans hv) ((mm_v_cat ad w).trans hw) (h p e s mid args below meth c mc ms n0 ad0 ad A H locs cells slots ls C hA hn had hR hS hls hlc (mm_sc (mm_sh hsc) (mm_sc (mm_sh (mm_sd hsc)) (mm_sc (mm_sh hsc) (mm_sd (mm_sd hsc))))) hb1 hb2)
theorem mm_goto {off : Int} {tgt : Nat} (hd : decode K.2.1 pc = .ok (.goto off, 3)) (ht : (pc : Int) + off = (tgt : Int)) (h : mm_W l G K tgt lv st b m Q) : mm_W l G K pc lv st b m Q := by
  intro p e s mid args below meth c mc ms n0 ad0 ad A H locs cells slots ls C hA hn had hR hS hls hlc hsc hb1 hb2
  exact lv_goto C.1 C.2.1 hd ht (h p e s mid args below meth c mc ms n0 ad0 ad A H locs cells slots ls C hA hn had hR hS hls hlc hsc hb1 hb2)
theorem mm_if_eq {x : Int32} {off : Int} {tgt : Nat} (hd : decode K.2.1 pc = .ok (.ifCond .eq off, 3)) (ht : (pc : Int) + off = (tgt : Int)) (k1 : x = 0 → mm_W l G K tgt lv st b m Q) (k2 : ¬ x = 0 → mm_W l G K (pc + 3) lv st b m Q) : mm_W l G K pc lv (.int x :: st) b m Q := by
  intro p e s mid args below meth c mc ms n0 ad0 ad A H locs cells slots ls C hA hn had hR hS hls hlc hsc hb1 hb2
  exact lv_if_eq C.1 C.2.1 hd ht (fun z => (k1 z p e s mid args below meth c mc ms n0 ad0 ad A H locs cells slots ls C hA hn had hR hS hls hlc (mm_sd hsc) hb1 hb2)) (fun z => (k2 z p e s mid args below meth c mc ms n0 ad0 ad A H locs cells slots ls C hA hn had hR hS hls hlc (mm_sd hsc) hb1 hb2))
theorem mm_icmp_eq {x y : Int32} {off : Int} {tgt : Nat} (hd : decode K.2.1 pc = .ok (.if_icmp .eq off, 3)) (ht : (pc : Int) + off = (tgt : Int)) (k1 : x = y → mm_W l G K tgt lv st b m Q) (k2 : ¬ x = y → mm_W l G K (pc + 3) lv st b m Q) : mm_W l G K pc lv (.int y :: .int x :: st) b m Q := by
  intro p e s mid args below meth c mc ms n0 ad0 ad A H locs cells slots ls C hA hn had hR hS hls hlc hsc hb1 hb2
  exact lv_icmp_eq C.1 C.2.1 hd ht (fun z => (k1 z p e s mid args below meth c mc ms n0 ad0 ad A H locs cells slots ls C hA hn had hR hS hls hlc (mm_sd (mm_sd hsc)) hb1 hb2)) (fun z => (k2 z p e s mid args below meth c mc ms n0 ad0 ad A H locs cells slots ls C hA hn had hR hS hls hlc (mm_sd (mm_sd hsc)) hb1 hb2))
theorem mm_if_ne {x : Int32} {off : Int} {tgt : Nat} (hd : decode K.2.1 pc = .ok (.ifCond .ne off, 3)) (ht : (pc : Int) + off = (tgt : Int)) (k1 : ¬ x = 0 → mm_W l G K tgt lv st b m Q) (k2 : x = 0 → mm_W l G K (pc + 3) lv st b m Q) : mm_W l G K pc lv (.int x :: st) b m Q := by
  intro p e s mid args below meth c mc ms n0 ad0 ad A H locs cells slots ls C hA hn had hR hS hls hlc hsc hb1 hb2
  exact lv_if_ne C.1 C.2.1 hd ht (fun z => (k1 z p e s mid args below meth c mc ms n0 ad0 ad A H locs cells slots ls C hA hn had hR hS hls hlc (mm_sd hsc) hb1 hb2)) (fun z => (k2 z p e s mid args below meth c mc ms n0 ad0 ad A H locs cells slots ls C hA hn had hR hS hls hlc (mm_sd hsc) hb1 hb2))
theorem mm_icmp_ne {x y : Int32} {off : Int} {tgt : Nat} (hd : decode K.2.1 pc = .ok (.if_icmp .ne off, 3)) (ht : (pc : Int) + off = (tgt : Int)) (k1 : ¬ x = y → mm_W l G K tgt lv st b m Q) (k2 : x = y → mm_W l G K (pc + 3) lv st b m Q) : mm_W l G K pc lv (.int y :: .int x :: st) b m Q := by
  intro p e s mid args below meth c mc ms n0 ad0 ad A H locs cells slots ls C hA hn had hR hS hls hlc hsc hb1 hb2
  exact lv_icmp_ne C.1 C.2.1 hd ht (fun z => (k1 z p e s mid args below meth c mc ms n0 ad0 ad A H locs cells slots ls C hA hn had hR hS hls hlc (mm_sd (mm_sd hsc)) hb1 hb2)) (fun z => (k2 z p e s mid args below meth c mc ms n0 ad0 ad A H locs cells slots ls C hA hn had hR hS hls hlc (mm_sd (mm_sd hsc)) hb1 hb2))
theorem mm_if_lt {x : Int32} {off : Int} {tgt : Nat} (hd : decode K.2.1 pc = .ok (.ifCond .lt off, 3)) (ht : (pc : Int) + off = (tgt : Int)) (k1 : x < 0 → mm_W l G K tgt lv st b m Q) (k2 : ¬ x < 0 → mm_W l G K (pc + 3) lv st b m Q) : mm_W l G K pc lv (.int x :: st) b m Q := by
  intro p e s mid args below meth c mc ms n0 ad0 ad A H locs cells slots ls C hA hn had hR hS hls hlc hsc hb1 hb2
  exact lv_if_lt C.1 C.2.1 hd ht (fun z => (k1 z p e s mid args below meth c mc ms n0 ad0 ad A H locs cells slots ls C hA hn had hR hS hls hlc (mm_sd hsc) hb1 hb2)) (fun z => (k2 z p e s mid args below meth c mc ms n0 ad0 ad A H locs cells slots ls C hA hn had hR hS hls hlc (mm_sd hsc) hb1 hb2))
theorem mm_icmp_lt {x y : Int32} {off : Int} {tgt : Nat} (hd : decode K.2.1 pc = .ok (.if_icmp .lt off, 3)) (ht : (pc : Int) + off = (tgt : Int)) (k1 : x < y → mm_W l G K tgt lv st b m Q) (k2 : ¬ x < y → mm_W l G K (pc + 3) lv st b m Q) : mm_W l G K pc lv (.int y :: .int x :: st) b m Q := by
  intro p e s mid args below meth c mc ms n0 ad0 ad A H locs cells slots ls C hA hn had hR hS hls hlc hsc hb1 hb2
  exact lv_icmp_lt C.1 C.2.1 hd ht (fun z => (k1 z p e s mid args below meth c mc ms n0 ad0 ad A H locs cells slots ls C hA hn had hR hS hls hlc (mm_sd (mm_sd hsc)) hb1 hb2)) (fun z => (k2 z p e s mid args below meth c mc ms n0 ad0 ad A H locs cells slots ls C hA hn had hR hS hls hlc (mm_sd (mm_sd hsc)) hb1 hb2))
theorem mm_if_ge {x : Int32} {off : Int} {tgt : Nat} (hd : decode K.2.1 pc = .ok (.ifCond .ge off, 3)) (ht : (pc : Int) + off = (tgt : Int)) (k1 : 0 ≤ x → mm_W l G K tgt lv st b m Q) (k2 : ¬ 0 ≤ x → mm_W l G K (pc + 3) lv st b m Q) : mm_W l G K pc lv (.int x :: st) b m Q := by
  intro p e s mid args below meth c mc ms n0 ad0 ad A H locs cells slots ls C hA hn had hR hS hls hlc hsc hb1 hb2
  exact lv_if_ge C.1 C.2.1 hd ht (fun z => (k1 z p e s mid args below meth c mc ms n0 ad0 ad A H locs cells slots ls C hA hn had hR hS hls hlc (mm_sd hsc) hb1 hb2)) (fun z => (k2 z p e s mid args below meth c mc ms n0 ad0 ad A H locs cells slots ls C hA hn had hR hS hls hlc (mm_sd hsc) hb1 hb2))
theorem mm_icmp_ge {x y : Int32} {off : Int} {tgt : Nat} (hd : decode K.2.1 pc = .ok (.if_icmp .ge off, 3)) (ht : (pc : Int) + off = (tgt : Int)) (k1 : y ≤ x → mm_W l G K tgt lv st b m Q) (k2 : ¬ y ≤ x → mm_W l G K (pc + 3) lv st b m Q) : mm_W l G K pc lv (.int y :: .int x :: st) b m Q := by
  intro p e s mid args below meth c mc ms n0 ad0 ad A H locs cells slots ls C hA hn had hR hS hls hlc hsc hb1 hb2
  exact lv_icmp_ge C.1 C.2.1 hd ht (fun z => (k1 z p e s mid args below meth c mc ms n0 ad0 ad A H locs cells slots ls C hA hn had hR hS hls hlc (mm_sd (mm_sd hsc)) hb1 hb2)) (fun z => (k2 z p e s mid args below meth c mc ms n0 ad0 ad A H locs cells slots ls C hA hn had hR hS hls hlc (mm_sd (mm_sd hsc)) hb1 hb2))
theorem mm_if_gt {x : Int32} {off : Int} {tgt : Nat} (hd : decode K.2.1 pc = .ok (.ifCond .gt off, 3)) (ht : (pc : Int) + off = (tgt : Int)) (k1 : 0 < x → mm_W l G K tgt lv st b m Q) (k2 : ¬ 0 < x → mm_W l G K (pc + 3) lv st b m Q) : mm_W l G K pc lv (.int x :: st) b m Q := by
  intro p e s mid args below meth c mc ms n0 ad0 ad A H locs cells slots ls C hA hn had hR hS hls hlc hsc hb1 hb2
  exact lv_if_gt C.1 C.2.1 hd ht (fun z => (k1 z p e s mid args below meth c mc ms n0 ad0 ad A H locs cells slots ls C hA hn had hR hS hls hlc (mm_sd hsc) hb1 hb2)) (fun z => (k2 z p e s mid args below meth c mc ms n0 ad0 ad A H locs cells slots ls C hA hn had hR hS hls hlc (mm_sd hsc) hb1 hb2))
theorem mm_icmp_gt {x y : Int32} {off : Int} {tgt : Nat} (hd : decode K.2.1 pc = .ok (.if_icmp .gt off, 3)) (ht : (pc : Int) + off = (tgt : Int)) (k1 : y < x → mm_W l G K tgt lv st b m Q) (k2 : ¬ y < x → mm_W l G K (pc + 3) lv st b m Q) : mm_W l G K pc lv (.int y :: .int x :: st) b m Q := by
  intro p e s mid args below meth c mc ms n0 ad0 ad A H locs cells slots ls C hA hn had hR hS hls hlc hsc hb1 hb2
  exact lv_icmp_gt C.1 C.2.1 hd ht (fun z => (k1 z p e s mid args below meth c mc ms n0 ad0 ad A H locs cells slots ls C hA hn had hR hS hls hlc (mm_sd (mm_sd hsc)) hb1 hb2)) (fun z => (k2 z p e s mid args below meth c mc ms n0 ad0 ad A H locs cells slots ls C hA hn had hR hS hls hlc (mm_sd (mm_sd hsc)) hb1 hb2))
theorem mm_if_le {x : Int32} {off : Int} {tgt : Nat} (hd : decode K.2.1 pc = .ok (.ifCond .le off, 3)) (ht : (pc : Int) + off = (tgt : Int)) (k1 : x ≤ 0 → mm_W l G K tgt lv st b m Q) (k2 : ¬ x ≤ 0 → mm_W l G K (pc + 3) lv st b m Q) : mm_W l G K pc lv (.int x :: st) b m Q := by
  intro p e s mid args below meth c mc ms n0 ad0 ad A H locs cells slots ls C hA hn had hR hS hls hlc hsc hb1 hb2
  exact lv_if_le C.1 C.2.1 hd ht (fun z => (k1 z p e s mid args below meth c mc ms n0 ad0 ad A H locs cells slots ls C hA hn had hR hS hls hlc (mm_sd hsc) hb1 hb2)) (fun z => (k2 z p e s mid args below meth c mc ms n0 ad0 ad A H locs cells slots ls C hA hn had hR hS hls hlc (mm_sd hsc) hb1 hb2))
theorem mm_icmp_le {x y : Int32} {off : Int} {tgt : Nat} (hd : decode K.2.1 pc = .ok (.if_icmp .le off, 3)) (ht : (pc : Int) + off = (tgt : Int)) (k1 : x ≤ y → mm_W l G K tgt lv st b m Q) (k2 : ¬ x ≤ y → mm_W l G K (pc + 3) lv st b m Q) : mm_W l G K pc lv (.int y :: .int x :: st) b m Q := by
  intro p e s mid args below meth c mc ms n0 ad0 ad A H locs cells slots ls C hA hn had hR hS hls hlc hsc hb1 hb2
  exact lv_icmp_le C.1 C.2.1 hd ht (fun z => (k1 z p e s mid args below meth c mc ms n0 ad0 ad A H locs cells slots ls C hA hn had hR hS hls hlc (mm_sd (mm_sd hsc)) hb1 hb2)) (fun z => (k2 z p e s mid args below meth c mc ms n0 ad0 ad A H locs cells slots ls C hA hn had hR hS hls hlc (mm_sd (mm_sd hsc)) hb1 hb2))
theorem mm_ifnonnull {r : Nat} {off : Int} {tgt : Nat} (hd : decode K.2.1 pc = .ok (.ifnonnull off, 3)) (ht : (pc : Int) + off = (tgt : Int)) (h : mm_W l G K tgt lv st b m Q) : mm_W l G K pc lv (.ref r :: st) b m Q := by
  intro p e s mid args below meth c mc ms n0 ad0 ad A H locs cells slots ls C hA hn had hR hS hls hlc hsc hb1 hb2
  exact lv_ifnonnull C.1 C.2.1 hd ht (h p e s mid args below meth c mc ms n0 ad0 ad A H locs cells slots ls C hA hn had hR hS hls hlc (mm_sd hsc) hb1 hb2)
theorem mm_ifnull {r : Nat} {off : Int} (hd : decode K.2.1 pc = .ok (.ifnull off, 3)) (h : mm_W l G K (pc + 3) lv st b m Q) : mm_W l G K pc lv (.ref r :: st) b m Q := by
  intro p e s mid args below meth c mc ms n0 ad0 ad A H locs cells slots ls C hA hn had hR hS hls hlc hsc hb1 hb2
  exact lv_ifnull C.1 C.2.1 hd (h p e s mid args below meth c mc ms n0 ad0 ad A H locs cells slots ls C hA hn had hR hS hls hlc (mm_sd hsc) hb1 hb2)
theorem mm_ifnonnullN {off : Int} (hd : decode K.2.1 pc = .ok (.ifnonnull off, 3)) (h : mm_W l G K (pc + 3) lv st b m Q) : mm_W l G K pc lv (.null :: st) b m Q := by
  intro p e s mid args below meth c mc ms n0 ad0 ad A H locs cells slots ls C hA hn had hR hS hls hlc hsc hb1 hb2
  exact lv_ifnonnullN C.1 C.2.1 hd (h p e s mid args below meth c mc ms n0 ad0 ad A H locs cells slots ls C hA hn had hR hS hls hlc (mm_sd hsc) hb1 hb2)
theorem mm_ifnullN {off : Int} {tgt : Nat} (hd : decode K.2.1 pc = .ok (.ifnull off, 3)) (ht : (pc : Int) + off = (tgt : Int)) (h : mm_W l G K tgt lv st b m Q) : mm_W l G K pc lv (.null :: st) b m Q := by
  intro p e s mid args below meth c mc ms n0 ad0 ad A H locs cells slots ls C hA hn had hR hS hls hlc hsc hb1 hb2
  exact lv_ifnullN C.1 C.2.1 hd ht (h p e s mid args below meth c mc ms n0 ad0 ad A H locs cells slots ls C hA hn had hR hS hls hlc (mm_sd hsc) hb1 hb2)
theorem mm_tableOut {dflt lo hi : Int} {offs : Array Int} {len : Nat} {x : Int32} {tgt : Nat} (hd : decode K.2.1 pc = .ok (.tableswitch dflt lo hi offs, len)) (hx : x.toInt < lo ∨ hi < x.toInt) (ht : (pc : Int) + dflt = (tgt : Int)) (h : mm_W l G K tgt lv st b m Q) : mm_W l G K pc lv (.int x :: st) b m Q := by
  intro p e s mid args below meth c mc ms n0 ad0 ad A H locs cells slots ls C hA hn had hR hS hls hlc hsc hb1 hb2
  exact lv_tableOut C.1 C.2.1 hd hx ht (h p e s mid args below meth c mc ms n0 ad0 ad A H locs cells slots ls C hA hn had hR hS hls hlc (mm_sd hsc) hb1 hb2)
theorem mm_tableIn {dflt lo hi : Int} {offs : Array Int} {len : Nat} {x : Int32} {off : Int} {tgt : Nat} (hd : decode K.2.1 pc = .ok (.tableswitch dflt lo hi offs, len)) (h1 : ¬ x.toInt < lo) (h2 : ¬ hi < x.toInt) (ho : offs[(x.toInt - lo).toNat]? = some off) (ht : (pc : Int) + off = (tgt : Int)) (h : mm_W l G K tgt lv st b m Q) : mm_W l G K pc lv (.int x :: st) b m Q := by
  intro p e s mid args below meth c mc ms n0 ad0 ad A H locs cells slots ls C hA hn had hR hS hls hlc hsc hb1 hb2
  exact lv_tableIn C.1 C.2.1 hd h1 h2 ho ht (h p e s mid args below meth c mc ms n0 ad0 ad A H locs cells slots ls C hA hn had hR hS hls hlc (mm_sd hsc) hb1 hb2)
theorem mm_sub (ks : List Nat) (hl : lv_pick lv ks = lv2) (h : mm_W l G K pc lv2 st b m Q) : mm_W l G K pc lv st b m Q := by
  intro p e s mid args below meth c mc ms n0 ad0 ad A H locs cells slots ls C hA hn had hR hS hls hlc hsc hb1 hb2
  subst hl
  have e8 : (lv_pick lv ks).map (mm_q ad) = lv_pick (lv.map (mm_q ad)) ks := by
    unfold lv_pick
    rw [List.map_filterMap]
    congr 1
    funext k
    rw [List.getElem?_map]
  refine h p e s mid args below meth c mc ms n0 ad0 ad A H locs cells slots ls C hA hn had hR hS (by rw [e8]; exact lv_sub hls ks rfl) (fun q hq => ?_) hsc hb1 hb2
  obtain ⟨k, -, hk⟩ := List.mem_filterMap.mp hq
  exact hlc q (List.mem_of_getElem? hk)
theorem mm_less {b2 : Nat} (hb : b2 ≤ b) (h : mm_W l G K pc lv st b2 m Q) : mm_W l G K pc lv st b m Q := by
  intro p e s mid args below meth c mc ms n0 ad0 ad A H locs cells slots ls C hA hn had hR hS hls hlc hsc hb1 hb2
  exact h p e s mid args below meth c mc ms n0 ad0 ad A H locs cells slots ls C hA hn had hR hS hls hlc hsc (by omega) (by omega)
theorem mm_post {Q2 : mm_O → mm_Mem → Prop} (hq : ∀ u m, Q2 u m → Q u m) (h : mm_W l G K pc lv st b m Q2) : mm_W l G K pc lv st b m Q := by
  intro p e s mid args below meth c mc ms n0 ad0 ad A H locs cells slots ls C hA hn had hR hS hls hlc hsc hb1 hb2
  refine mm_mono (fun t ht => ?_) (h p e s mid args below meth c mc ms n0 ad0 ad A H locs cells slots ls C hA hn had hR hS hls hlc hsc hb1 hb2)
  obtain ⟨o, h1, h2, ⟨u, m2, ad2, g1, g2⟩, h3⟩ := ht
  exact ⟨o, h1, h2, ⟨u, m2, ad2, hq u m2 g1, g2⟩, h3⟩
theorem mm_iret {x : Int32} (hd : decode K.2.1 pc = .ok (.ireturn, 1)) (hr : K.2.2.2.1 = some .int) (hq : Q (.inl (some (.int x))) m) : mm_W l G K pc lv (.int x :: []) b m Q := by
  intro p e s mid args below meth c mc ms n0 ad0 ad A H locs cells slots ls C hA hn had hR hS hls hlc hsc hb1 hb2
  exact mm_mono mm_ofMQ (W.widen (k := mc) (n := ms) (by omega) (by omega) (W.iret C.1 C.2.1 (C.2.2.2.1.trans hr) (fun t ht hW => ⟨_, m, ad, hq, by rw [ht]; exact hR, hn, had, hS.F ht, rfl, fun w hw => by cases hw; trivial⟩) hS.2.2 hd C.2.2.2.2.1))
theorem mm_zret {x : Int32} {ty : FieldType} (hd : decode K.2.1 pc = .ok (.ireturn, 1)) (hr : K.2.2.2.1 = some ty) (hx : narrow ty (.int x) = .int x) (hq : Q (.inl (some (.int x))) m) : mm_W l G K pc lv (.int x :: []) b m Q := by
  intro p e s mid args below meth c mc ms n0 ad0 ad A H locs cells slots ls C hA hn had hR hS hls hlc hsc hb1 hb2
  exact mm_mono mm_ofMQ (W.widen (k := mc) (n := ms) (by omega) (by omega) (W.zret C.1 C.2.1 (C.2.2.2.1.trans hr) hx (fun t ht hW => ⟨_, m, ad, hq, by rw [ht]; exact hR, hn, had, hS.F ht, rfl, fun w hw => by cases hw; trivial⟩) hS.2.2 hd C.2.2.2.2.1))
theorem mm_lret {x : Int64} (hd : decode K.2.1 pc = .ok (.lreturn, 1)) (hr : K.2.2.2.1 = some .long) (hq : Q (.inl (some (.long x))) m) : mm_W l G K pc lv (.long x :: []) b m Q := by
  intro p e s mid args below meth c mc ms n0 ad0 ad A H locs cells slots ls C hA hn had hR hS hls hlc hsc hb1 hb2
  exact mm_mono mm_ofMQ (W.widen (k := mc) (n := ms) (by omega) (by omega) (W.lret C.1 C.2.1 (C.2.2.2.1.trans hr) (fun t ht hW => ⟨_, m, ad, hq, by rw [ht]; exact hR, hn, had, hS.F ht, rfl, fun w hw => by cases hw; trivial⟩) hS.2.2 hd C.2.2.2.2.1))
theorem mm_vret (hd : decode K.2.1 pc = .ok (.return_, 1)) (hr : K.2.2.2.1 = none) (hq : Q (.inl none) m) : mm_W l G K pc lv [] b m Q := by
  intro p e s mid args below meth c mc ms n0 ad0 ad A H locs cells slots ls C hA hn had hR hS hls hlc hsc hb1 hb2
  exact mm_mono mm_ofMQ (W.widen (k := mc) (n := ms) (by omega) (by omega) (W.vret C.1 C.2.1 (C.2.2.2.1.trans hr) (fun t ht hW => ⟨_, m, ad, hq, by rw [ht]; exact hR, hn, had, hS.F ht, rfl, fun w hw => by cases hw⟩) hS.2.2 hd C.2.2.2.2.1))
theorem mm_aret {v : Value} {C0 : String} (hd : decode K.2.1 pc = .ok (.areturn, 1)) (hr : K.2.2.2.1 = some (.object C0)) (hv : v = .null ∨ ∃ r, v = .ref r) (hq : Q (.inl (some v)) m) : mm_W l G K pc lv (v :: []) b m Q := by
  intro p e s mid args below meth c mc ms n0 ad0 ad A H locs cells slots ls C hA hn had hR hS hls hlc hsc hb1 hb2
  have hv2 : mm_v ad v = .null ∨ ∃ a, mm_v ad v = .ref a := by
    rcases hv with rfl | ⟨r, rfl⟩
    · exact Or.inl rfl
    · exact Or.inr ⟨_, rfl⟩
  exact mm_mono mm_ofMQ (W.widen (k := mc) (n := ms) (by omega) (by omega) (W.aret (v := mm_v ad v) C.1 C.2.1 (C.2.2.2.1.trans hr) (Or.inl ⟨_, rfl⟩) hv2 (fun t ht hW => ⟨_, m, ad, hq, by rw [ht]; exact hR, hn, had, hS.F ht, rfl, fun w hw => by cases hw; exact mm_sh hsc⟩) hS.2.2 hd C.2.2.2.2.1))
end MMA
end
section
/-- a class of the world: its row of the table, its words, the types of its fields, their names apart -/
def mm_cls (ci : Nat) (Cn : String) (T : u_T) (N : Nat) (ty : Nat → FieldType) : Prop := mm_cl[ci]? = some (Cn, T, N) ∧ (∀ w ∈ u_ws Cn T N, w ∈ mm_T) ∧ (∀ k, k < N → parseFieldDescriptor (T k).2.2.1 = some (ty k)) ∧ ∀ a, a < N → ∀ b, b < N → a ≠ b → (T a).2.1 ≠ (T b).2.1
theorem mm_ni {ci : Nat} {fs : List Value} {q : vw_C} (hc : mm_cl[ci]? = some q) : (Sum.inr (ci, fs) : va_E) ≠ mm_j := fun h => by
  have h1 : ci = 1000 := congrArg Prod.fst (Sum.inr.inj h)
  subst h1
  have h2 : ¬ (1000 < mm_cl.length) := by decide
  exact h2 (List.getElem?_eq_some_iff.mp hc).1
theorem mm_nl {x : ClassId × vp_A} : (Sum.inl x : va_E) ≠ mm_j := fun h => by unfold mm_j at h; cases h
theorem mm_cf {D : va_G} {A : Nat → Prop} {ad : Nat → Nat} {m : mm_Mem} {H : Heap} (hR : mm_R D A ad m H) {r : Nat} (h0 : r ≠ 0) {ci : Nat} {fs : List Value} (hm : m r = .inr (ci, fs)) : ∀ v ∈ fs, mm_cv (mm_n m) v := by
  have h := hR.2.2.2 r (Nat.pos_of_ne_zero h0)
  rw [hm] at h
  exact h
theorem mm_cset {n k : Nat} {fs : List Value} {v : Value} (h : ∀ w ∈ fs, mm_cv n w) (hv : mm_cv n v) : ∀ w ∈ fs.set k v, mm_cv n w := fun w hw => by
  rcases List.mem_or_eq_of_mem_set hw with h1 | h1
  · exact h w h1
  · rw [h1]; exact hv
theorem mm_rf (ad : Nat → Nat) (o : Option Nat) : va_rf (o.map ad) = mm_v ad (va_rf o) := by cases o <;> rfl
theorem mm_ra {U : State} {c1 c2 : ClassId} {ty : FieldType} (h1 : va_RA U c1 ty) (h2 : va_RA U c2 ty) : c1 = c2 := by
  cases ty with
  | object Cn =>
    obtain ⟨_, _, _, _, _, a⟩ := h1
    obtain ⟨_, _, _, _, _, a2⟩ := h2
    exact Option.some.inj (a.symm.trans a2)
  | _ => exact Option.some.inj ((show U.vm.findClass _ = some c1 from h1).symm.trans (show U.vm.findClass _ = some c2 from h2))
theorem mm_lvu {m : mm_Mem} {r : Nat} {x : va_E} (h0 : r ≠ 0) {lv : List (Nat × Value)} (h : ∀ q ∈ lv, mm_cv (mm_n m) q.2) : ∀ q ∈ lv, mm_cv (mm_n (va_up m r x)) q.2 := by rw [mm_n_up h0]; exact h
theorem mm_stu {m : mm_Mem} {r : Nat} {x : va_E} (h0 : r ≠ 0) {st : List Value} (h : ∀ q ∈ st, mm_cv (mm_n m) q) : ∀ q ∈ st, mm_cv (mm_n (va_up m r x)) q := by rw [mm_n_up h0]; exact h
theorem mm_lvp {m : mm_Mem} {x : va_E} {lv : List (Nat × Value)} (h : ∀ q ∈ lv, mm_cv (mm_n m) q.2) : ∀ q ∈ lv, mm_cv (mm_n (mm_push m x)) q.2 := by rw [mm_n_push]; exact fun q hq => mm_cv_mono (Nat.le_succ _) (h q hq)
theorem mm_stp {m : mm_Mem} {x : va_E} {st : List Value} (h : ∀ q ∈ st, mm_cv (mm_n m) q) : ∀ q ∈ st, mm_cv (mm_n (mm_push m x)) q := by rw [mm_n_push]; exact fun q hq => mm_cv_mono (Nat.le_succ _) (h q hq)
section MMH
variable {l : Launch} {G : mm_G} {K : mm_M} {pc : Nat} {lv lv2 : List (Nat × Value)} {st : List Value} {b b2 : Nat} {m : mm_Mem} {Q : mm_O → mm_Mem → Prop}
theorem mm_get {ci : Nat} {Cn : String} {T : u_T} {N idx r : Nat} {ty : Nat → FieldType} {fs : List Value} {v : Value} (hC : mm_cls ci Cn T N ty) (k : Nat) (hk : k < N) (hl : Cond.fieldLink K.1 idx (T k).1 (T k).2.1 (T k).2.2.1 ∈ mm_T) (hd : decode K.2.1 pc = .ok (.getfield idx, 3)) (hm : m r = .inr (ci, fs)) (h0 : r ≠ 0) (hv : fs[k]? = some v) (h : mm_W l G K (pc + 3) lv (v :: st) b m Q) : mm_W l G K pc lv (.ref r :: st) b m Q := by
  intro p e s mid args below meth c mc ms n0 ad0 ad A H locs cells slots ls C hA hn had hR hS hls hlc hsc hb1 hb2
  obtain ⟨hx, hb, -, -, -, -, hown, -, hts, ⟨hK, hNW, -⟩, -⟩ := id C
  exact va_get hx hb hts hC.2.1 hown hK hR.1 (r - 1) (mm_at hR.2.2.1 h0 hm (mm_ni hC.1)) hC.1 k hk (hts _ hl) (fun _ z => z) (show (fs.map (mm_v ad))[k]? = some (mm_v ad v) by rw [List.getElem?_map, hv]; rfl) hd (h p e s mid args below meth c mc ms n0 ad0 ad A H locs cells slots ls C hA hn had hR hS hls hlc (mm_sc (mm_cf hR h0 hm v (List.mem_of_getElem? hv)) (mm_sd hsc)) hb1 hb2)
theorem mm_getN {host : String} {ci : Nat} {Cn : String} {T : u_T} {N idx r : Nat} {ty : Nat → FieldType} {fs : List Value} {v : Value} (hC : mm_cls ci Cn T N ty) (k : Nat) (hk : k < N) (hl : Cond.fieldLinkNest K.1 idx (T k).1 (T k).2.1 (T k).2.2.1 host ∈ mm_NW) (hd : decode K.2.1 pc = .ok (.getfield idx, 3)) (hm : m r = .inr (ci, fs)) (h0 : r ≠ 0) (hv : fs[k]? = some v) (h : mm_W l G K (pc + 3) lv (v :: st) b m Q) : mm_W l G K pc lv (.ref r :: st) b m Q := by
  intro p e s mid args below meth c mc ms n0 ad0 ad A H locs cells slots ls C hA hn had hR hS hls hlc hsc hb1 hb2
  obtain ⟨hx, hb, -, -, -, -, hown, -, hts, ⟨hK, hNW, -⟩, -⟩ := id C
  exact va_getN hx hb hts hC.2.1 hown hK hR.1 (r - 1) (mm_at hR.2.2.1 h0 hm (mm_ni hC.1)) hC.1 k hk ((hNW _ hl).use rfl) (fun _ z => z) (show (fs.map (mm_v ad))[k]? = some (mm_v ad v) by rw [List.getElem?_map, hv]; rfl) hd (h p e s mid args below meth c mc ms n0 ad0 ad A H locs cells slots ls C hA hn had hR hS hls hlc (mm_sc (mm_cf hR h0 hm v (List.mem_of_getElem? hv)) (mm_sd hsc)) hb1 hb2)
theorem mm_putf {ci : Nat} {Cn : String} {T : u_T} {N idx r : Nat} {ty : Nat → FieldType} {fs : List Value} {v : Value} (hC : mm_cls ci Cn T N ty) (k : Nat) (hk : k < N) (hl : Cond.fieldLink K.1 idx (T k).1 (T k).2.1 (T k).2.2.1 ∈ mm_T) (hd : decode K.2.1 pc = .ok (.putfield idx, 3)) (hfin : (T k).2.2.2 = false) (hnr : ∀ ad, narrow (ty k) (mm_v ad v) = mm_v ad v) (hft : ∀ ad, fits (ty k) (mm_v ad v) = true) (hm : m r = .inr (ci, fs)) (h0 : r ≠ 0) (hkl : k < fs.length) (h : mm_W l G K (pc + 3) lv st b (va_up m r (.inr (ci, fs.set k v))) Q) : mm_W l G K pc lv (v :: .ref r :: st) b m Q := by
  intro p e s mid args below meth c mc ms n0 ad0 ad A H locs cells slots ls C hA hn had hR hS hls hlc hsc hb1 hb2
  obtain ⟨hx, hb, -, -, -, -, hown, -, hts, ⟨hK, hNW, -⟩, -⟩ := id C
  refine va_put hx hb hts hC.2.1 ty hC.2.2.1 hC.2.2.2 hown hK hR.1 hR.2.1 hS (r - 1) (mm_at hR.2.2.1 h0 hm (mm_ni hC.1)) hC.1 k hk (hts _ hl) (fun _ z => z) hfin (hC.2.2.1 k hk) (hnr ad) (hft ad) (by rw [List.length_map]; exact hkl) hd (fun H1 locs1 hP hD hS1 => ?_)
  rw [← List.map_set] at hP hD
  exact h p e s mid args below meth c mc ms n0 ad0 ad A H1 locs1 cells slots ls C hA (by rw [mm_n_up h0]; exact hn) had (mm_put h0 hR hm (mm_ni hC.1) (x := .inr (ci, fs.set k v)) (mm_cset (mm_cf hR h0 hm) (mm_sh hsc)) hP hD) hS1 hls (mm_lvu h0 hlc) (mm_stu h0 (mm_sd (mm_sd hsc))) hb1 hb2
theorem mm_putN {host : String} {ci : Nat} {Cn : String} {T : u_T} {N idx r : Nat} {ty : Nat → FieldType} {fs : List Value} {v : Value} (hC : mm_cls ci Cn T N ty) (k : Nat) (hk : k < N) (hl : Cond.fieldLinkNest K.1 idx (T k).1 (T k).2.1 (T k).2.2.1 host ∈ mm_NW) (hd : decode K.2.1 pc = .ok (.putfield idx, 3)) (hfin : (T k).2.2.2 = false) (hnr : ∀ ad, narrow (ty k) (mm_v ad v) = mm_v ad v) (hft : ∀ ad, fits (ty k) (mm_v ad v) = true) (hm : m r = .inr (ci, fs)) (h0 : r ≠ 0) (hkl : k < fs.length) (h : mm_W l G K (pc + 3) lv st b (va_up m r (.inr (ci, fs.set k v))) Q) : mm_W l G K pc lv (v :: .ref r :: st) b m Q := by
  intro p e s mid args below meth c mc ms n0 ad0 ad A H locs cells slots ls C hA hn had hR hS hls hlc hsc hb1 hb2
  obtain ⟨hx, hb, -, -, -, -, hown, -, hts, ⟨hK, hNW, -⟩, -⟩ := id C
  refine va_putN hx hb hts hC.2.1 ty hC.2.2.1 hC.2.2.2 hown hK hR.1 hR.2.1 hS (r - 1) (mm_at hR.2.2.1 h0 hm (mm_ni hC.1)) hC.1 k hk ((hNW _ hl).use rfl) (fun _ z => z) hfin (hC.2.2.1 k hk) (hnr ad) (hft ad) (by rw [List.length_map]; exact hkl) hd (fun H1 locs1 hP hD hS1 => ?_)
  rw [← List.map_set] at hP hD
  exact h p e s mid args below meth c mc ms n0 ad0 ad A H1 locs1 cells slots ls C hA (by rw [mm_n_up h0]; exact hn) had (mm_put h0 hR hm (mm_ni hC.1) (x := .inr (ci, fs.set k v)) (mm_cset (mm_cf hR h0 hm) (mm_sh hsc)) hP hD) hS1 hls (mm_lvu h0 hlc) (mm_stu h0 (mm_sd (mm_sd hsc))) hb1 hb2
theorem mm_putF {ci : Nat} {Cn : String} {T : u_T} {N idx r : Nat} {ty : Nat → FieldType} {fs : List Value} {v : Value} (hC : mm_cls ci Cn T N ty) (k : Nat) (hk : k < N) (hl : Cond.fieldLink K.1 idx (T k).1 (T k).2.1 (T k).2.2.1 ∈ mm_T) (hd : decode K.2.1 pc = .ok (.putfield idx, 3)) (hfin : (T k).2.2.2 = true) (hi : K.2.2.2.2.2.2.1 = "<init>") (hdc : (T k).1 = K.1) (hnr : ∀ ad, narrow (ty k) (mm_v ad v) = mm_v ad v) (hft : ∀ ad, fits (ty k) (mm_v ad v) = true) (hm : m r = .inr (ci, fs)) (h0 : r ≠ 0) (hkl : k < fs.length) (h : mm_W l G K (pc + 3) lv st b (va_up m r (.inr (ci, fs.set k v))) Q) : mm_W l G K pc lv (v :: .ref r :: st) b m Q := by
  intro p e s mid args below meth c mc ms n0 ad0 ad A H locs cells slots ls C hA hn had hR hS hls hlc hsc hb1 hb2
  obtain ⟨hx, hb, -, -, -, -, hown, -, hts, ⟨hK, hNW, -⟩, -⟩ := id C
  refine va_putF hx hb hts hC.2.1 ty hC.2.2.1 hC.2.2.2 hown hK hR.1 hR.2.1 hS (r - 1) (mm_at hR.2.2.1 h0 hm (mm_ni hC.1)) hC.1 k hk (hts _ hl) (fun _ z => z) hfin (C.2.2.2.2.2.1.trans hi) hdc (hC.2.2.1 k hk) (hnr ad) (hft ad) (by rw [List.length_map]; exact hkl) hd (fun H1 locs1 hP hD hS1 => ?_)
  rw [← List.map_set] at hP hD
  exact h p e s mid args below meth c mc ms n0 ad0 ad A H1 locs1 cells slots ls C hA (by rw [mm_n_up h0]; exact hn) had (mm_put h0 hR hm (mm_ni hC.1) (x := .inr (ci, fs.set k v)) (mm_cset (mm_cf hR h0 hm) (mm_sh hsc)) hP hD) hS1 hls (mm_lvu h0 hlc) (mm_stu h0 (mm_sd (mm_sd hsc))) hb1 hb2
theorem mm_bald {r n : Nat} {f : Nat → Int32} {i : Int32} (hd : decode K.2.1 pc = .ok (.baload, 1)) (hm : m r = .inl (G.2 0, n, .inl f)) (h0 : r ≠ 0) (hi : vp_in i n) (h : mm_W l G K (pc + 1) lv (.int (f i.toNatClampNeg) :: st) b m Q) : mm_W l G K pc lv (.int i :: .ref r :: st) b m Q := by
  intro p e s mid args below meth c mc ms n0 ad0 ad A H locs cells slots ls C hA hn had hR hS hls hlc hsc hb1 hb2
  obtain ⟨hx, hb, -, -, -, -, hown, -, hts, ⟨hK, hNW, -⟩, -⟩ := id C
  exact va_bald hx hb hK hR.1 (r - 1) 0 (mm_at hR.2.2.1 h0 hm mm_nl) rfl hi hd (h p e s mid args below meth c mc ms n0 ad0 ad A H locs cells slots ls C hA hn had hR hS hls hlc (mm_sc trivial (mm_sd (mm_sd hsc))) hb1 hb2)
theorem mm_iald {r n : Nat} {f : Nat → Int32} {i : Int32} (hd : decode K.2.1 pc = .ok (.iaload, 1)) (hm : m r = .inl (G.2 1, n, .inl f)) (h0 : r ≠ 0) (hi : vp_in i n) (h : mm_W l G K (pc + 1) lv (.int (f i.toNatClampNeg) :: st) b m Q) : mm_W l G K pc lv (.int i :: .ref r :: st) b m Q := by
  intro p e s mid args below meth c mc ms n0 ad0 ad A H locs cells slots ls C hA hn had hR hS hls hlc hsc hb1 hb2
  obtain ⟨hx, hb, -, -, -, -, hown, -, hts, ⟨hK, hNW, -⟩, -⟩ := id C
  exact va_iald hx hb hK hR.1 (r - 1) 1 (mm_at hR.2.2.1 h0 hm mm_nl) rfl hi hd (h p e s mid args below meth c mc ms n0 ad0 ad A H locs cells slots ls C hA hn had hR hS hls hlc (mm_sc trivial (mm_sd (mm_sd hsc))) hb1 hb2)
theorem mm_lald {r n : Nat} {f : Nat → Int64} {i : Int32} (hd : decode K.2.1 pc = .ok (.laload, 1)) (hm : m r = .inl (G.2 2, n, .inr (.inl f))) (h0 : r ≠ 0) (hi : vp_in i n) (h : mm_W l G K (pc + 1) lv (.long (f i.toNatClampNeg) :: st) b m Q) : mm_W l G K pc lv (.int i :: .ref r :: st) b m Q := by
  intro p e s mid args below meth c mc ms n0 ad0 ad A H locs cells slots ls C hA hn had hR hS hls hlc hsc hb1 hb2
  obtain ⟨hx, hb, -, -, -, -, hown, -, hts, ⟨hK, hNW, -⟩, -⟩ := id C
  exact va_lald hx hb hK hR.1 (r - 1) 2 (mm_at hR.2.2.1 h0 hm mm_nl) rfl hi hd (h p e s mid args below meth c mc ms n0 ad0 ad A H locs cells slots ls C hA hn had hR hS hls hlc (mm_sc trivial (mm_sd (mm_sd hsc))) hb1 hb2)
theorem mm_zald {r n : Nat} {f : Nat → Int32} {i : Int32} (hd : decode K.2.1 pc = .ok (.baload, 1)) (hm : m r = .inl (G.2 3, n, .inl f)) (h0 : r ≠ 0) (hi : vp_in i n) (h : mm_W l G K (pc + 1) lv (.int (f i.toNatClampNeg) :: st) b m Q) : mm_W l G K pc lv (.int i :: .ref r :: st) b m Q := by
  intro p e s mid args below meth c mc ms n0 ad0 ad A H locs cells slots ls C hA hn had hR hS hls hlc hsc hb1 hb2
  obtain ⟨hx, hb, -, -, -, -, hown, -, hts, ⟨hK, hNW, -⟩, -⟩ := id C
  exact va_zald hx hb hK hR.1 (r - 1) 3 (mm_at hR.2.2.1 h0 hm mm_nl) rfl hi hd (h p e s mid args below meth c mc ms n0 ad0 ad A H locs cells slots ls C hA hn had hR hS hls hlc (mm_sc trivial (mm_sd (mm_sd hsc))) hb1 hb2)
theorem mm_bast {r n : Nat} {f : Nat → Int32} {i : Int32} {x : Int32} (hd : decode K.2.1 pc = .ok (.bastore, 1)) (hm : m r = .inl (G.2 0, n, .inl f)) (h0 : r ≠ 0) (hi : vp_in i n) (h : mm_W l G K (pc + 1) lv st b (va_up m r (.inl (G.2 0, n, .inl (upd f i.toNatClampNeg (vp_nar .byte x))))) Q) : mm_W l G K pc lv (.int x :: .int i :: .ref r :: st) b m Q := by
  intro p e s mid args below meth c mc ms n0 ad0 ad A H locs cells slots ls C hA hn had hR hS hls hlc hsc hb1 hb2
  obtain ⟨hx, hb, -, -, -, -, hown, -, hts, ⟨hK, hNW, -⟩, -⟩ := id C
  refine va_bast hx hb hK hR.1 hR.2.1 hS (r - 1) 0 (mm_at hR.2.2.1 h0 hm mm_nl) rfl hi hd (fun H1 locs1 hP hD hS1 => ?_)
  exact h p e s mid args below meth c mc ms n0 ad0 ad A H1 locs1 cells slots ls C hA (by rw [mm_n_up h0]; exact hn) had (mm_put h0 hR hm mm_nl (x := .inl (G.2 0, n, .inl (upd f i.toNatClampNeg (vp_nar .byte x)))) trivial hP hD) hS1 hls (mm_lvu h0 hlc) (mm_stu h0 (mm_sd (mm_sd (mm_sd hsc)))) hb1 hb2
theorem mm_iast {r n : Nat} {f : Nat → Int32} {i : Int32} {x : Int32} (hd : decode K.2.1 pc = .ok (.iastore, 1)) (hm : m r = .inl (G.2 1, n, .inl f)) (h0 : r ≠ 0) (hi : vp_in i n) (h : mm_W l G K (pc + 1) lv st b (va_up m r (.inl (G.2 1, n, .inl (upd f i.toNatClampNeg x)))) Q) : mm_W l G K pc lv (.int x :: .int i :: .ref r :: st) b m Q := by
  intro p e s mid args below meth c mc ms n0 ad0 ad A H locs cells slots ls C hA hn had hR hS hls hlc hsc hb1 hb2
  obtain ⟨hx, hb, -, -, -, -, hown, -, hts, ⟨hK, hNW, -⟩, -⟩ := id C
  refine va_iast hx hb hK hR.1 hR.2.1 hS (r - 1) 1 (mm_at hR.2.2.1 h0 hm mm_nl) rfl hi hd (fun H1 locs1 hP hD hS1 => ?_)
  exact h p e s mid args below meth c mc ms n0 ad0 ad A H1 locs1 cells slots ls C hA (by rw [mm_n_up h0]; exact hn) had (mm_put h0 hR hm mm_nl (x := .inl (G.2 1, n, .inl (upd f i.toNatClampNeg x))) trivial hP hD) hS1 hls (mm_lvu h0 hlc) (mm_stu h0 (mm_sd (mm_sd (mm_sd hsc)))) hb1 hb2
theorem mm_last {r n : Nat} {f : Nat → Int64} {i : Int32} {x : Int64} (hd : decode K.2.1 pc = .ok (.lastore, 1)) (hm : m r = .inl (G.2 2, n, .inr (.inl f))) (h0 : r ≠ 0) (hi : vp_in i n) (h : mm_W l G K (pc + 1) lv st b (va_up m r (.inl (G.2 2, n, .inr (.inl (vp_updL f i.toNatClampNeg x))))) Q) : mm_W l G K pc lv (.long x :: .int i :: .ref r :: st) b m Q := by
  intro p e s mid args below meth c mc ms n0 ad0 ad A H locs cells slots ls C hA hn had hR hS hls hlc hsc hb1 hb2
  obtain ⟨hx, hb, -, -, -, -, hown, -, hts, ⟨hK, hNW, -⟩, -⟩ := id C
  refine va_last hx hb hK hR.1 hR.2.1 hS (r - 1) 2 (mm_at hR.2.2.1 h0 hm mm_nl) rfl hi hd (fun H1 locs1 hP hD hS1 => ?_)
  exact h p e s mid args below meth c mc ms n0 ad0 ad A H1 locs1 cells slots ls C hA (by rw [mm_n_up h0]; exact hn) had (mm_put h0 hR hm mm_nl (x := .inl (G.2 2, n, .inr (.inl (vp_updL f i.toNatClampNeg x)))) trivial hP hD) hS1 hls (mm_lvu h0 hlc) (mm_stu h0 (mm_sd (mm_sd (mm_sd hsc)))) hb1 hb2
theorem mm_zast {r n : Nat} {f : Nat → Int32} {i : Int32} {x : Int32} (hd : decode K.2.1 pc = .ok (.bastore, 1)) (hm : m r = .inl (G.2 3, n, .inl f)) (h0 : r ≠ 0) (hi : vp_in i n) (h : mm_W l G K (pc + 1) lv st b (va_up m r (.inl (G.2 3, n, .inl (upd f i.toNatClampNeg (vp_nar .boolean x))))) Q) : mm_W l G K pc lv (.int x :: .int i :: .ref r :: st) b m Q := by
  intro p e s mid args below meth c mc ms n0 ad0 ad A H locs cells slots ls C hA hn had hR hS hls hlc hsc hb1 hb2
  obtain ⟨hx, hb, -, -, -, -, hown, -, hts, ⟨hK, hNW, -⟩, -⟩ := id C
  refine va_zast hx hb hK hR.1 hR.2.1 hS (r - 1) 3 (mm_at hR.2.2.1 h0 hm mm_nl) rfl hi hd (fun H1 locs1 hP hD hS1 => ?_)
  exact h p e s mid args below meth c mc ms n0 ad0 ad A H1 locs1 cells slots ls C hA (by rw [mm_n_up h0]; exact hn) had (mm_put h0 hR hm mm_nl (x := .inl (G.2 3, n, .inl (upd f i.toNatClampNeg (vp_nar .boolean x)))) trivial hP hD) hS1 hls (mm_lvu h0 hlc) (mm_stu h0 (mm_sd (mm_sd (mm_sd hsc)))) hb1 hb2
theorem mm_aald {r r2 n t : Nat} {Cn : String} {f : Nat → Option Nat} {i : Int32} (ht : (mm_tys G.2)[t]? = some (G.2 t, .object Cn)) (hd : decode K.2.1 pc = .ok (.aaload, 1)) (hm : m r = .inl (G.2 t, n, .inr (.inr (.inr (.inr f))))) (h0 : r ≠ 0) (hi : vp_in i n) (hv : f i.toNatClampNeg = some r2) (h : mm_W l G K (pc + 1) lv (.ref r2 :: st) b m Q) : mm_W l G K pc lv (.int i :: .ref r :: st) b m Q := by
  intro p e s mid args below meth c mc ms n0 ad0 ad A H locs cells slots ls C hA hn had hR hS hls hlc hsc hb1 hb2
  obtain ⟨hx, hb, -, -, -, -, hown, -, hts, ⟨hK, hNW, -⟩, -⟩ := id C
  have hcl : mm_cv (mm_n m) (.ref r2) := by
    have h1 := hR.2.2.2 r (Nat.pos_of_ne_zero h0)
    rw [hm] at h1
    exact h1 _ r2 hv
  have h2 := h p e s mid args below meth c mc ms n0 ad0 ad A H locs cells slots ls C hA hn had hR hS hls hlc (mm_sc hcl (mm_sd (mm_sd hsc))) hb1 hb2
  refine va_aldq hx hb hK hR.1 (r - 1) t (mm_at hR.2.2.1 h0 hm mm_nl) ht hi hd ?_
  rw [hv]
  exact h2
theorem mm_aast {r r2 n t ci : Nat} {q : vw_C} {f : Nat → Option Nat} {i : Int32} {vs : List Value} (ht : (mm_tys G.2)[t]? = some (G.2 t, .object q.1)) (hq : mm_cl[ci]? = some q) (hd : decode K.2.1 pc = .ok (.aastore, 1)) (hm : m r = .inl (G.2 t, n, .inr (.inr (.inr (.inr f))))) (h0 : r ≠ 0) (hm2 : m r2 = .inr (ci, vs)) (h02 : r2 ≠ 0) (hi : vp_in i n) (h : mm_W l G K (pc + 1) lv st b (va_up m r (.inl (G.2 t, n, .inr (.inr (.inr (.inr (va_up f i.toNatClampNeg (some r2)))))))) Q) : mm_W l G K pc lv (.ref r2 :: .int i :: .ref r :: st) b m Q := by
  intro p e s mid args below meth c mc ms n0 ad0 ad A H locs cells slots ls C hA hn had hR hS hls hlc hsc hb1 hb2
  obtain ⟨hx, hb, -, -, -, -, hown, -, hts, ⟨hK, hNW, -⟩, -⟩ := id C
  refine va_astq hx hb hK hR.1 hR.2.1 hS (r - 1) t (r2 - 1) ci (mm_at hR.2.2.1 h0 hm mm_nl) ht (mm_at hR.2.2.1 h02 hm2 (mm_ni hq)) hq hi hd (fun H1 locs1 hP hD hS1 => ?_)
  have e1 : va_up (fun j => (f j).map ad) i.toNatClampNeg (some (ad r2)) = fun j => ((va_up f i.toNatClampNeg (some r2)) j).map ad := by
    funext j
    unfold va_up
    by_cases hj : j = i.toNatClampNeg
    · rw [if_pos hj, if_pos hj]; rfl
    · rw [if_neg hj, if_neg hj]
  rw [e1] at hP hD
  refine h p e s mid args below meth c mc ms n0 ad0 ad A H1 locs1 cells slots ls C hA (by rw [mm_n_up h0]; exact hn) had (mm_put h0 hR hm mm_nl (x := .inl (G.2 t, n, .inr (.inr (.inr (.inr (va_up f i.toNatClampNeg (some r2))))))) ?_ hP hD) hS1 hls (mm_lvu h0 hlc) (mm_stu h0 (mm_sd (mm_sd (mm_sd hsc)))) hb1 hb2
  have h1 := hR.2.2.2 r (Nat.pos_of_ne_zero h0)
  rw [hm] at h1
  intro j r3 hj
  unfold va_up at hj
  by_cases hj2 : j = i.toNatClampNeg
  · rw [if_pos hj2] at hj
    cases hj
    exact mm_sh hsc
  · rw [if_neg hj2] at hj
    exact h1 j r3 hj
theorem mm_alen {r t : Nat} {ty : FieldType} {x : vp_A} (ht : (mm_tys G.2)[t]? = some (G.2 t, ty)) (hd : decode K.2.1 pc = .ok (.arraylength, 1)) (hm : m r = .inl (G.2 t, x)) (h0 : r ≠ 0) (h : mm_W l G K (pc + 1) lv (.int (nI x.1) :: st) b m Q) : mm_W l G K pc lv (.ref r :: st) b m Q := by
  intro p e s mid args below meth c mc ms n0 ad0 ad A H locs cells slots ls C hA hn had hR hS hls hlc hsc hb1 hb2
  obtain ⟨hx, hb, -, -, -, -, hown, -, hts, ⟨hK, hNW, -⟩, -⟩ := id C
  have h2 := h p e s mid args below meth c mc ms n0 ad0 ad A H locs cells slots ls C hA hn had hR hS hls hlc (mm_sc trivial (mm_sd hsc)) hb1 hb2
  obtain ⟨n, f | f | f | f | f⟩ := x
  · exact va_alen hx hb hK hR.1 (r - 1) t (mm_at hR.2.2.1 h0 hm mm_nl) ht rfl hd h2
  · exact va_alen hx hb hK hR.1 (r - 1) t (mm_at hR.2.2.1 h0 hm mm_nl) ht rfl hd h2
  · exact va_alen hx hb hK hR.1 (r - 1) t (mm_at hR.2.2.1 h0 hm mm_nl) ht rfl hd h2
  · exact va_alen hx hb hK hR.1 (r - 1) t (mm_at hR.2.2.1 h0 hm mm_nl) ht rfl hd h2
  · exact va_alen hx hb hK hR.1 (r - 1) t (mm_at hR.2.2.1 h0 hm mm_nl) ht rfl hd h2
theorem mm_sald {n : Nat} {xs : Nat → Int32} {i : Int32} (hs : K.2.2.2.2.2.2.2 = some (n, xs)) (hd : decode K.2.1 pc = .ok (.iaload, 1)) (hi : vp_in i n) (h : mm_W l G K (pc + 1) lv (.int (xs i.toNatClampNeg) :: st) b m Q) : mm_W l G K pc lv (.int i :: .ref 0 :: st) b m Q := by
  intro p e s mid args below meth c mc ms n0 ad0 ad A H locs cells slots ls C hA hn had hR hS hls hlc hsc hb1 hb2
  obtain ⟨hx, hb, -, -, -, -, hown, -, hts, -, -, -, hsc0⟩ := id C
  rw [hs] at hsc0
  obtain ⟨z1, z2, z3⟩ := hsc0
  rw [← had 0 (Nat.zero_le _)] at z1 z2 z3
  exact va_sld hx hb z1 z2 z3 hS hi hd (h p e s mid args below meth c mc ms n0 ad0 ad A H locs cells slots ls C hA hn had hR hS hls hlc (mm_sc trivial (mm_sd (mm_sd hsc))) hb1 hb2)
theorem mm_salen {n : Nat} {xs : Nat → Int32} (hs : K.2.2.2.2.2.2.2 = some (n, xs)) (hd : decode K.2.1 pc = .ok (.arraylength, 1)) (h : mm_W l G K (pc + 1) lv (.int (nI n) :: st) b m Q) : mm_W l G K pc lv (.ref 0 :: st) b m Q := by
  intro p e s mid args below meth c mc ms n0 ad0 ad A H locs cells slots ls C hA hn had hR hS hls hlc hsc hb1 hb2
  obtain ⟨hx, hb, -, -, -, -, hown, -, hts, -, -, -, hsc0⟩ := id C
  rw [hs] at hsc0
  obtain ⟨z1, z2, z3⟩ := hsc0
  rw [← had 0 (Nat.zero_le _)] at z1 z2 z3
  exact va_slen hx hb z1 z2 z3 hS hd (h p e s mid args below meth c mc ms n0 ad0 ad A H locs cells slots ls C hA hn had hR hS hls hlc (mm_sc trivial (mm_sd hsc)) hb1 hb2)
theorem mm_new {ci : Nat} {Cn : String} {T : u_T} {N idx : Nat} {ty : Nat → FieldType} {fs : List Value} (hC : mm_cls ci Cn T N ty) (hcl : Cond.classLink K.1 idx Cn ∈ mm_T) (hin : Cond.instantiable Cn N ∈ mm_T) (hini : Cond.initialized Cn ∈ mm_T) (hfs : ∀ j, j < N → defaultValue (ty j) = vp_V fs j) (hcf : ∀ v ∈ fs, mm_cv 0 v) (hfr : ∀ ad, fs.map (mm_v ad) = fs) (hd : decode K.2.1 pc = .ok (.new idx, 3)) (hbd : N + 1 + b2 ≤ b) (h : mm_W l G K (pc + 3) lv (.ref (mm_n m + 1) :: st) b2 (mm_push m (.inr (ci, fs))) Q) : mm_W l G K pc lv st b m Q := by
  intro p e s mid args below meth c mc ms n0 ad0 ad A H locs cells slots ls C hA hn had hR hS hls hlc hsc hb1 hb2
  obtain ⟨hx, hb, -, -, -, -, hown, -, hts, ⟨hK, hNW, -⟩, -⟩ := id C
  refine va_new (fs := fs) hx hb hts hC.2.1 ty hC.2.2.1 hown (hts _ hcl) (hts _ hin) (hts _ hini) hK hR.1 hR.2.1 hS hA hC.1 hfs (show cells + 1 ≤ mc by omega) (show slots + N ≤ ms by omega) hd (fun q H1 hP hD hS1 => ?_)
  have hag : ∀ r, r ≤ mm_n m → va_up ad (mm_n m + 1) q r = ad r := fun r hr => by unfold va_up; rw [if_neg (by omega)]
  have hq : va_up ad (mm_n m + 1) q (mm_n m + 1) = q := by unfold va_up; rw [if_pos rfl]
  have h2 := h p e s mid args below meth c mc ms n0 ad0 (va_up ad (mm_n m + 1) q) A H1 locs (cells + 1) (slots + N) ls C hA (by rw [mm_n_push]; omega) (fun r hr => (hag r (by omega)).trans (had r hr)) (mm_grow hR (x := .inr (ci, fs)) (fun v hv => mm_cv_mono (Nat.zero_le _) (hcf v hv)) (by show Sum.inr (ci, fs.map _) = _; rw [hfr]) hP hD) hS1 (by rw [mm_lv_ag hag hlc]; exact hls) (mm_lvp hlc) (mm_sc (by rw [mm_n_push]; exact Nat.le_refl _) (mm_stp hsc)) (by omega) (by omega)
  rw [List.map_cons, mm_st_ag hag hsc] at h2
  rw [show mm_v (va_up ad (mm_n m + 1) q) (.ref (mm_n m + 1)) = .ref q by show Value.ref _ = _; rw [hq]] at h2
  exact h2
theorem mm_newa {atype : ArrayType} {t N : Nat} {ty : FieldType} {n : Int32} {a0 : (Nat → Int32) ⊕ (Nat → Int64) ⊕ (Nat → UInt32) ⊕ (Nat → UInt64) ⊕ (Nat → Option Nat)} (harr : Cond.arrayClass (newarray.typeOf atype) ∈ mm_T) (hty : newarray.typeOf atype = ty) (ht : (mm_tys G.2)[t]? = some (G.2 t, ty)) (ha : ∀ cA : ClassId, vp_cell cA (N, a0) = arrV cA N (fun _ => defaultValue ty)) (hce : ∀ k, mm_ce k (.inl (G.2 t, N, a0))) (hme : ∀ ad, mm_e ad (.inl (G.2 t, N, a0)) = .inl (G.2 t, N, a0)) (hd : decode K.2.1 pc = .ok (.newarray atype, 2)) (hn1 : ¬ n < 0) (hN : n.toNatClampNeg = N) (hbytes : N * componentBytes ty ≤ 536870912) (hbd : N + 1 + b2 ≤ b) (h : mm_W l G K (pc + 2) lv (.ref (mm_n m + 1) :: st) b2 (mm_push m (.inl (G.2 t, N, a0))) Q) : mm_W l G K pc lv (.int n :: st) b m Q := by
  intro p e s mid args below meth c mc ms n0 ad0 ad A H locs cells slots ls C hA hn had hR hS hls hlc hsc hb1 hb2
  obtain ⟨hx, hb, -, -, -, -, hown, -, hts, ⟨hK, hNW, -⟩, -⟩ := id C
  refine va_newa (a0 := (N, a0)) hx hb (hts _ harr) hty hK hR.1 hR.2.1 hS hA ha hn1 hN hbytes (show cells + 1 ≤ mc by omega) (show slots + N ≤ ms by omega) hd (fun q cA H1 hK1 hP hD hS1 => ?_)
  have hcA : cA = G.2 t := mm_ra (hK1.2 (mm_tys G.2).length (cA, ty) (by rw [List.getElem?_append_right (Nat.le_refl _), Nat.sub_self]; rfl)).2 (hK.2 t _ ht).2
  subst hcA
  have hag : ∀ r, r ≤ mm_n m → va_up ad (mm_n m + 1) q r = ad r := fun r hr => by unfold va_up; rw [if_neg (by omega)]
  have hq : va_up ad (mm_n m + 1) q (mm_n m + 1) = q := by unfold va_up; rw [if_pos rfl]
  have h2 := h p e s mid args below meth c mc ms n0 ad0 (va_up ad (mm_n m + 1) q) A H1 locs (cells + 1) (slots + N) ls C hA (by rw [mm_n_push]; omega) (fun r hr => (hag r (by omega)).trans (had r hr)) (mm_grow hR (x := .inl (G.2 t, N, a0)) (hce _) (hme _) hP hD) hS1 (by rw [mm_lv_ag hag hlc]; exact hls) (mm_lvp hlc) (mm_sc (by rw [mm_n_push]; exact Nat.le_refl _) (mm_stp (mm_sd hsc))) (by omega) (by omega)
  rw [List.map_cons, mm_st_ag hag (mm_sd hsc)] at h2
  rw [show mm_v (va_up ad (mm_n m + 1) q) (.ref (mm_n m + 1)) = .ref q by show Value.ref _ = _; rw [hq]] at h2
  exact h2
theorem mm_newq {idx t N : Nat} {Cn : String} {n : Int32} (hcl : Cond.classLink K.1 idx Cn ∈ mm_T) (hov : Cond.arrayOver (.object Cn) ∈ mm_NW) (ht : (mm_tys G.2)[t]? = some (G.2 t, .object Cn)) (hd : decode K.2.1 pc = .ok (.anewarray idx, 3)) (hn1 : ¬ n < 0) (hN : n.toNatClampNeg = N) (hbytes : N * 4 ≤ 536870912) (hbd : N + 1 + b2 ≤ b) (h : mm_W l G K (pc + 3) lv (.ref (mm_n m + 1) :: st) b2 (mm_push m (.inl (G.2 t, N, .inr (.inr (.inr (.inr (fun _ => none))))))) Q) : mm_W l G K pc lv (.int n :: st) b m Q := by
  intro p e s mid args below meth c mc ms n0 ad0 ad A H locs cells slots ls C hA hn had hR hS hls hlc hsc hb1 hb2
  obtain ⟨hx, hb, -, -, -, -, hown, -, hts, ⟨hK, hNW, -⟩, -⟩ := id C
  refine va_newq hx hb hown (hts _ hcl) (hNW _ hov) hK hR.1 hR.2.1 hS hA hn1 hN hbytes (show cells + 1 ≤ mc by omega) (show slots + N ≤ ms by omega) hd (fun q cA H1 hK1 hP hD hS1 => ?_)
  have hcA : cA = G.2 t := mm_ra (hK1.2 (mm_tys G.2).length (cA, .object Cn) (by rw [List.getElem?_append_right (Nat.le_refl _), Nat.sub_self]; rfl)).2 (hK.2 t _ ht).2
  subst hcA
  have hag : ∀ r, r ≤ mm_n m → va_up ad (mm_n m + 1) q r = ad r := fun r hr => by unfold va_up; rw [if_neg (by omega)]
  have hq : va_up ad (mm_n m + 1) q (mm_n m + 1) = q := by unfold va_up; rw [if_pos rfl]
  have h2 := h p e s mid args below meth c mc ms n0 ad0 (va_up ad (mm_n m + 1) q) A H1 locs (cells + 1) (slots + N) ls C hA (by rw [mm_n_push]; omega) (fun r hr => (hag r (by omega)).trans (had r hr)) (mm_grow hR (x := .inl (G.2 t, N, .inr (.inr (.inr (.inr (fun _ => none)))))) (fun _ _ z => nomatch z) rfl hP hD) hS1 (by rw [mm_lv_ag hag hlc]; exact hls) (mm_lvp hlc) (mm_sc (by rw [mm_n_push]; exact Nat.le_refl _) (mm_stp (mm_sd hsc))) (by omega) (by omega)
  rw [List.map_cons, mm_st_ag hag (mm_sd hsc)] at h2
  rw [show mm_v (va_up ad (mm_n m + 1) q) (.ref (mm_n m + 1)) = .ref q by show Value.ref _ = _; rw [hq]] at h2
  exact h2
theorem mm_objInit {idx r : Nat} (hl : Cond.methodLink K.1 idx objectInit ∈ mm_T) (hi : Cond.instanceMethod objectInit ∈ mm_T) (hc : Cond.code objectInit ⟨#[0xb1]⟩ 1 none ∈ mm_T) (hd : decode K.2.1 pc = .ok (.invokespecial idx, 3)) (hdep : 1 ≤ K.2.2.2.2.1.1) (hst : (st.map fun v => v.category).sum + 15 ≤ K.2.2.2.2.1.2) (h : mm_W l G K (pc + 3) lv st b m Q) : mm_W l G K pc lv (.ref r :: st) b m Q := by
  intro p e s mid args below meth c mc ms n0 ad0 ad A H locs cells slots ls C hA hn had hR hS hls hlc hsc hb1 hb2
  obtain ⟨hx, hb, -, -, -, -, hown, -, hts, ⟨hK, hNW, -⟩, -⟩ := id C
  have hcs : ((st.map (mm_v ad)).map fun v => v.category).sum + 15 ≤ K.2.2.2.2.1.2 := by
    rw [List.map_map, show ((fun v : Value => v.category) ∘ mm_v ad) = fun v => v.category from funext fun v => mm_v_cat ad v]
    exact hst
  exact W.objInit hx hb hown (hts _ hl) (hts _ hi) (hts _ hc) rfl (hls.1.trans C.2.2.1.symm) rfl hd hdep (by show 2 * 0 + _ + 12 ≤ K.2.2.2.2.1.2; omega) (h p e s mid args below meth c mc ms n0 ad0 ad A H locs cells slots ls C hA hn had hR hS hls hlc (mm_sd hsc) hb1 hb2)
theorem mm_math {idx : Nat} {x y : Int32} (hl : Cond.methodLink K.1 idx Lib.Math.max.name ∈ mm_T) (hs : Cond.static Lib.Math.max.name ∈ mm_T) (hi : Cond.initialized "java/lang/Math" ∈ mm_T) (hc : Cond.code Lib.Math.max.name Lib.Math.max.code 2 (some .int) ∈ mm_T) (hd : decode K.2.1 pc = .ok (.invokestatic idx, 3)) (hdep : 1 ≤ K.2.2.2.2.1.1) (hst : (st.map fun v => v.category).sum + 15 ≤ K.2.2.2.2.1.2) (h : mm_W l G K (pc + 3) lv (.int (if x < y then y else x) :: st) b m Q) : mm_W l G K pc lv (.int y :: .int x :: st) b m Q := by
  intro p e s mid args below meth c mc ms n0 ad0 ad A H locs cells slots ls C hA hn had hR hS hls hlc hsc hb1 hb2
  obtain ⟨hx, hb, -, -, -, -, hown, -, hts, ⟨hK, hNW, -⟩, -⟩ := id C
  have hcs : ((st.map (mm_v ad)).map fun v => v.category).sum + 15 ≤ K.2.2.2.2.1.2 := by
    rw [List.map_map, show ((fun v : Value => v.category) ∘ mm_v ad) = fun v => v.category from funext fun v => mm_v_cat ad v]
    exact hst
  exact va_mmax hx hb (C.2.2.1.trans hls.1.symm) hown (hts _ hl) (hts _ hs) (hts _ hi) (hts _ hc) hdep (by show _ + 13 ≤ K.2.2.2.2.1.2; omega) (show cells ≤ mc by omega) (show slots ≤ ms by omega) hd (h p e s mid args below meth c mc ms n0 ad0 ad A H locs cells slots ls C hA hn had hR hS hls hlc (mm_sc trivial (mm_sd (mm_sd hsc))) hb1 hb2)
theorem mm_copyb {idx r1 r2 n1 n2 t : Nat} {f g : Nat → Int32} {ty : FieldType} {sp dp n : Int32} (ht : (mm_tys G.2)[t]? = some (G.2 t, ty)) (hp : refKind ty = false) (hl : Cond.methodLink K.1 idx arraycopyName ∈ mm_T) (hnt : Cond.native arraycopyName ∈ mm_T) (hs : Cond.static arraycopyName ∈ mm_T) (hi : Cond.initialized "java/lang/System" ∈ mm_T) (hd : decode K.2.1 pc = .ok (.invokestatic idx, 3)) (hdep : 1 ≤ K.2.2.2.2.1.1) (hst : (st.map fun v => v.category).sum + (nativeFrameWords "java/lang/System" "arraycopy" 5 + 11) ≤ K.2.2.2.2.1.2) (hm1 : m r1 = .inl (G.2 t, n1, .inl f)) (h01 : r1 ≠ 0) (hm2 : m r2 = .inl (G.2 t, n2, .inl g)) (h02 : r2 ≠ 0) (h1 : ¬ sp < 0) (h2 : ¬ dp < 0) (h3 : ¬ n < 0) (h4 : sp.toNatClampNeg + n.toNatClampNeg ≤ n1) (h5 : dp.toNatClampNeg + n.toNatClampNeg ≤ n2) (hft : ∀ i, i < n.toNatClampNeg → fits ty (.int (f (sp.toNatClampNeg + i))) = true) (h : mm_W l G K (pc + 3) lv st b (va_up m r2 (.inl (G.2 t, n2, .inl (va_cpy f g sp.toNatClampNeg dp.toNatClampNeg n.toNatClampNeg)))) Q) : mm_W l G K pc lv (.int n :: .int dp :: .ref r2 :: .int sp :: .ref r1 :: st) b m Q := by
  intro p e s mid args below meth c mc ms n0 ad0 ad A H locs cells slots ls C hA hn had hR hS hls hlc hsc hb1 hb2
  obtain ⟨hx, hb, -, -, -, -, hown, -, hts, ⟨hK, hNW, -⟩, -⟩ := id C
  have hcs : ((st.map (mm_v ad)).map fun v => v.category).sum + (nativeFrameWords "java/lang/System" "arraycopy" 5 + 11) ≤ K.2.2.2.2.1.2 := by
    rw [List.map_map, show ((fun v : Value => v.category) ∘ mm_v ad) = fun v => v.category from funext fun v => mm_v_cat ad v]
    exact hst
  refine va_copyi hx hb (C.2.2.1.trans hls.1.symm) hown (hts _ hl) (hts _ hnt) (hts _ hs) (hts _ hi) hK hR.1 hR.2.1 hS (r1 - 1) (r2 - 1) t t (mm_at hR.2.2.1 h01 hm1 mm_nl) (mm_at hR.2.2.1 h02 hm2 mm_nl) ht ht hp h1 h2 h3 h4 h5 hft hdep hcs hd (fun H1 locs1 hP hD hS1 => ?_)
  exact h p e s mid args below meth c mc ms n0 ad0 ad A H1 locs1 cells slots ls C hA (by rw [mm_n_up h02]; exact hn) had (mm_put h02 hR hm2 mm_nl (x := .inl (G.2 t, n2, .inl (va_cpy f g sp.toNatClampNeg dp.toNatClampNeg n.toNatClampNeg))) trivial hP hD) hS1 hls (mm_lvu h02 hlc) (mm_stu h02 (mm_sd (mm_sd (mm_sd (mm_sd (mm_sd hsc)))))) hb1 hb2
end MMH
end
section
/-! calls, throws, handlers -/
theorem mm_la_map (ad : Nat → Nat) : ∀ (vs : List Value) (i : Nat), lv_args i (vs.map (mm_v ad)) = (lv_args i vs).map (mm_q ad)
  | [], _ => rfl
  | v :: vs, i => by
    simp only [List.map_cons, lv_args, mm_v_cat]
    rw [mm_la_map ad vs]
    rfl
theorem mm_la_mem : ∀ (vs : List Value) (i : Nat) (q : Nat × Value), q ∈ lv_args i vs → q.2 ∈ vs
  | [], _, _, h => by cases h
  | v :: vs, i, q, h => by
    simp only [lv_args] at h
    rcases List.mem_cons.mp h with rfl | h
    · exact List.mem_cons_self
    · exact List.mem_cons_of_mem _ (mm_la_mem vs _ q h)
theorem mm_sl_len (ad : Nat → Nat) : ∀ vs : List Value, (lg_sl (vs.map (mm_v ad))).length = (lg_sl vs).length
  | [] => rfl
  | v :: vs => by
    have h := mm_sl_len ad vs
    unfold lg_sl at h ⊢
    simp only [List.map_cons, List.flatMap_cons, List.length_append, mm_v_cat]
    rw [h]
    by_cases hc : v.category = 2
    · simp [hc]
    · simp [hc]
theorem mm_cat_map (ad : Nat → Nat) (st : List Value) : ((st.map (mm_v ad)).map fun v => v.category) = st.map fun v => v.category := by
  rw [List.map_map, show ((fun v : Value => v.category) ∘ mm_v ad) = fun v => v.category from funext fun v => mm_v_cat ad v]
/-- what the tables say of the method y with the record Kc -/
def mm_F (Kc : mm_M) (y : MethodName) (s : State) (mk : MethodId) (mt : Method) (ck : Code) : Prop := s.methodNamed? y = some mk ∧ s.vm.method? mk = some mt ∧ mt.code = some ck ∧ ck.code = Kc.2.1 ∧ ck.maxLocals = Kc.2.2.1 ∧ mt.sig.returnType = Kc.2.2.2.1 ∧ mt.locks = false ∧ mt.name = Kc.2.2.2.2.2.2.1 ∧ s.vm.findClass Kc.1 = some mk.cls ∧ ck.exceptionTable.toList = tableOf Kc.2.2.2.2.2.1 ∧ parseMethodDescriptor y.desc = some mt.sig
/-- the code's word of a method: with its handlers, where it has some -/
def mm_cw (Kc : mm_M) (y : MethodName) : Cond := match Kc.2.2.2.2.2.1 with
  | [] => .code y Kc.2.1 Kc.2.2.1 Kc.2.2.2.1
  | h :: t => .codeWith y Kc.2.1 Kc.2.2.1 Kc.2.2.2.1 (h :: t)
theorem mm_F.of {Kc : mm_M} {y : MethodName} {args : Array Value} {s : State} (h : (mm_cw Kc y).before args s = true) (h1 : Kc.1 = y.cls) (h2 : Kc.2.2.2.2.2.2.1 = y.name) : ∃ mk mt ck, mm_F Kc y s mk mt ck := by
  unfold mm_cw at h
  split at h
  · next hh =>
    obtain ⟨mk, hn⟩ := Cond.code_named h
    obtain ⟨mt, ck, a1, a2, a3, a4, a5, a6, a7, a8⟩ := Cond.code_spec hn h
    refine ⟨mk, mt, ck, hn, a1, a2, a3, a4, a5, a6, (name_of_methodNamed hn a1).1.trans h2.symm, by rw [h1]; exact findClass_of_methodNamed hn, ?_, a8⟩
    rw [hh]
    have h0 : ck.exceptionTable.size = 0 := by simpa [Array.isEmpty] using a7
    exact List.eq_nil_of_length_eq_zero (by simpa using h0)
  · next x t hh =>
    obtain ⟨mk, mt, ck, hn, a1, a2, a3, a4, a5, a6, a7, a8⟩ := Cond.codeWith_spec h
    refine ⟨mk, mt, ck, hn, a1, a2, a3, a4, a6, a7, (name_of_methodNamed hn a1).1.trans h2.symm, by rw [h1]; exact findClass_of_methodNamed hn, ?_, a8⟩
    rw [hh, ← a5, table_eq]
def mm_A (ad : Nat → Nat) (n sz : Nat) (q : Nat) : Prop := (∃ r, 0 < r ∧ r ≤ n ∧ q = ad r) ∨ sz ≤ q
theorem mm_wat {ad : Nat → Nat} {m : mm_Mem} {k : Nat} {x : Nat × va_E} (h : (mm_w ad m)[k]? = some x) : k + 1 ≤ mm_n m ∧ x = (ad (k + 1), mm_e ad (m (k + 1))) := by
  unfold mm_w at h
  rw [List.getElem?_map] at h
  cases hk : (List.range (mm_n m))[k]? with
  | none => rw [hk] at h; cases h
  | some j =>
    rw [hk] at h
    obtain ⟨h1, h2⟩ := List.getElem?_eq_some_iff.mp hk
    rw [List.length_range] at h1
    have hj : j = k := by simpa using h2.symm
    subst hj
    exact ⟨h1, (Option.some.inj h).symm⟩
theorem mm_wat2 {ad : Nat → Nat} {m : mm_Mem} {r : Nat} (h0 : 0 < r) (h : r ≤ mm_n m) : (mm_w ad m)[r - 1]? = some (ad r, mm_e ad (m r)) := by
  have h2 : r - 1 + 1 = r := by omega
  unfold mm_w
  rw [List.getElem?_map, List.getElem?_range (by omega)]
  simp only [Option.map_some, h2]
theorem mm_R.self {D : va_G} {A : Nat → Prop} {ad : Nat → Nat} {m : mm_Mem} {H : Heap} (h : mm_R D A ad m H) (sz : Nat) : mm_R D (mm_A ad (mm_n m) sz) ad m H :=
  ⟨h.1, ⟨h.2.1.1, fun k q hq => by obtain ⟨h1, rfl⟩ := mm_wat hq; exact Or.inl ⟨k + 1, Nat.succ_pos _, h1, rfl⟩⟩, h.2.2⟩
theorem mm_R.wide {D : va_G} {A B : Nat → Prop} {ad : Nat → Nat} {m : mm_Mem} {H : Heap} (h : mm_R D A ad m H) (hAB : ∀ q, A q → B q) : mm_R D B ad m H :=
  ⟨h.1, ⟨h.2.1.1, fun k q hq => hAB _ (h.2.1.2 k q hq)⟩, h.2.2⟩
theorem mm_R.in {D : va_G} {A : Nat → Prop} {ad : Nat → Nat} {m : mm_Mem} {H : Heap} (h : mm_R D A ad m H) {r : Nat} (h0 : 0 < r) (hr : r ≤ mm_n m) : A (ad r) := h.2.1.2 _ _ (mm_wat2 h0 hr)
theorem mm_R.plain {D : va_G} {A : Nat → Prop} {ad : Nat → Nat} {m : mm_Mem} {H : Heap} (h : mm_R D A ad m H) {r : Nat} (h0 : 0 < r) (hr : r ≤ mm_n m) {cell : Cell} (hc : H[ad r]? = some cell) : cell.vm.isStatics = false := by
  have h1 := h.1 _ _ (mm_wat2 (ad := ad) h0 hr)
  generalize mm_e ad (m r) = x at h1
  rcases x with ⟨cA, n, f | f | f | f | f⟩ | o
  · cases Option.some.inj (hc.symm.trans h1); rfl
  · cases Option.some.inj (hc.symm.trans h1); rfl
  · cases Option.some.inj (hc.symm.trans h1); rfl
  · cases Option.some.inj (hc.symm.trans h1); rfl
  · cases Option.some.inj (hc.symm.trans h1); rfl
  · obtain ⟨q, -, cell2, g1, g2, g3, -⟩ := h1
    cases Option.some.inj (hc.symm.trans g1)
    rw [g3]; rfl
theorem mm_warm {w : Cond} (hk : mm_kind w = true) {s U : State} (hW : s.WarmedH U.vm) (h : va_Nw w s) : va_Nw w U := by
  cases w <;> first
    | exact va_Nw.warmF hW h
    | exact va_Nw.warmM hW h
    | exact va_Nw.warmD hW h
    | exact va_Nw.warmC hW h
    | (rename_i t; cases t <;> first | exact va_AO.moved hW.alike h | (cases hk))
    | (cases hk)
theorem mm_Nc_moved {C T : String} {u U : State} (hvm : u.vm.Alike U.vm) (h : va_Nc C T u) : va_Nc C T U := by
  obtain ⟨c, t, h1, h2, h3⟩ := h
  exact ⟨c, t, by rw [hvm.findClass]; exact h1, by rw [hvm.findClass]; exact h2, by rw [hvm.assignable]; exact h3⟩
theorem mm_Xat {G : mm_G} {A B : Nat → Prop} {s U : State} (hX : mm_X G A s) (hW : s.WarmedH U.vm) (hq : ∀ a : Nat, a < s.heap.size → ¬ A a → U.heap[a]? = s.heap[a]?) (hAB : ∀ q, q < U.heap.size → B q → A q) : mm_X G B U := by
  obtain ⟨h1, h2, h3, h4, h5⟩ := hX
  refine ⟨va_K.moved hW.alike h1, fun w hw => mm_warm (mm_NW_ok w hw) hW (h2 w hw), fun q hq2 => ?_, fun q hq2 => ?_, fun q hq2 => mm_Nc_moved hW.alike (h5 q hq2)⟩
  · exact (((h3 q hq2).kept hq).moved hW.alike).narrow hAB
  · obtain ⟨a, ha⟩ := h4 q hq2
    exact ⟨a, vk_R.warm hW ha⟩
theorem mm_weak {p : Program} {e : Env} {g : Frame} {below : List Frame} {S1 S2 : State} (h : Steps p.tables e (g :: below) S1 S2) : Steps p.tables e below S1 S2 := by
  obtain ⟨n, h1, h2⟩ := h
  exact ⟨n, h1, fun k hk => Within.weaken (mid := [g]) (h2 k hk)⟩
set_option maxHeartbeats 1000000 in
/-- a callee is entered, walked by its own row, and left -/
theorem mm_enter {l : Launch} {G : mm_G} {K Kc : mm_M} {pc bc : Nat} {m : mm_Mem} {Qc : mm_O → mm_Mem → Prop} {p : Program} {e : Env} {s : State} {mid : MethodId} {args : Array Value} {below : List Frame} {meth : Method} {c : Code} {mc ms b0 : Nat} {ad : Nat → Nat} {A : Nat → Prop} {H : Heap} {locs : List Loc} {cells slots : Nat} {ls : Array Slot} {T : State}
    (X : Stand p l e (mm_room K mc ms) s mid args below meth c T locs cells slots) (hT : T.heap = H) (C : mm_C l G K p s mid args meth c A b0) (hA : ∀ q, s.heap.size ≤ q → A q) (hR : mm_R G.1 A ad m H) (hS : va_S A s.heap H locs) (hls : ls.size = K.2.2.1)
    {y : MethodName} {mk : MethodId} {mt : Method} {ck : Code} (hF : mm_F Kc y s mk mt ck) (hy : plainName y.cls = true) (hscr : Kc.2.2.2.2.2.2.2 = none) {ig : Instr} (hd : decode K.2.1 pc = .ok (ig, 3)) {stC : List Value} (hst : (stC.map fun v => v.category).sum + (Kc.2.2.1 + 11) + Kc.2.2.2.2.1.2 ≤ K.2.2.2.2.1.2) (hdep : Kc.2.2.2.2.1.1 + 1 ≤ K.2.2.2.2.1.1) (hb1 : cells + bc ≤ mc) (hb2 : slots + bc ≤ ms)
    {as : List Value} (has : ∀ v ∈ as, mm_cv (mm_n m) v) (hlen : (lg_sl as).length ≤ Kc.2.2.1) (hM : mm_W l G Kc 0 (lv_args 0 as) [] bc m Qc) :
    (∃ (v : Option Value) (m2 : mm_Mem) (ad2 : Nat → Nat) (T2 : State) (L : List Loc), Qc (.inl v) m2 ∧ mm_R G.1 A ad2 m2 T2.heap ∧ mm_n m ≤ mm_n m2 ∧ (∀ r, r ≤ mm_n m → ad2 r = ad r) ∧ va_S A s.heap T2.heap (locs ++ L) ∧ Stand p l e (mm_room K mc ms) s mid args below meth c T2 (locs ++ L) (cells + bc) (slots + bc) ∧ (∀ w, v = some w → mm_cv (mm_n m2) w) ∧
      ∀ acts, Steps p.tables e below (doInvoke e (T.setTop (F0 mid pc ls stC)) acts mk (as.map (mm_v ad)).toArray).1 (T2.setTop (F0 mid (pc + 3) ls ((v.map (mm_v ad2)).toList ++ stC)))) ∨
    (∃ (E : String) (m2 : mm_Mem) (ad2 : Nat → Nat) (T2 : State) (L : List Loc) (q : Addr) (ce : Cell), Qc (.inr E) m2 ∧ mm_R G.1 A ad2 m2 T2.heap ∧ mm_n m ≤ mm_n m2 ∧ (∀ r, r ≤ mm_n m → ad2 r = ad r) ∧ va_S A s.heap T2.heap (locs ++ L) ∧ Stand p l e (mm_room K mc ms) s mid args below meth c T2 (locs ++ L) (cells + bc) (slots + bc) ∧ T2.heap[q]? = some ce ∧ ce.vm = .none ∧ s.vm.findClass E = some ce.cls ∧
      ∀ acts, Steps p.tables e below (doInvoke e (T.setTop (F0 mid pc ls stC)) acts mk (as.map (mm_v ad)).toArray).1 ((T2.setTop (F0 mid pc ls stC)).pushFrame (.throwing q))) := by
  obtain ⟨f1, f2, f3, f4, f5, f6, f7, f8, f9, f10, f11⟩ := hF
  obtain ⟨hx, hb, hml, -, -, -, hown, -, hts, hX, hns, hlt, -⟩ := id C
  have hdc : decode c.code (F0 mid pc ls stC).pc = .ok (ig, 3) := by rw [hb]; exact hd
  have hsz : (F0 mid pc ls stC).locals.size = c.maxLocals := hls.trans hml.symm
  have hmk : T.vm.method? mk = some mt := by rw [X.warmed.alike.method?]; exact f2
  have hpk : T.plainMethod mk := X.warmed.plainAt (fun k hk => by
    obtain ⟨k2, hk2, hn2⟩ := className_of_methodNamed f1
    cases hk.symm.trans hk2
    rw [hn2]; exact hy)
  obtain ⟨Y, hdo⟩ := X.into (g := F0 mid pc ls stC) rfl hsz hdc (mk := mk) (methk := mt) (ck := ck) (as.map (mm_v ad)).toArray (R' := mm_room Kc bc bc) hmk f3 f7 hpk hdep (by
    show 2 * 0 + (stC.map fun v => v.category).sum + (ck.maxLocals + 11) + Kc.2.2.2.2.1.2 ≤ K.2.2.2.2.1.2
    rw [f5]; omega) hb1 hb2
  have hhp : (T.calling (F0 mid pc ls stC) mk (as.map (mm_v ad)).toArray).heap = H := hT
  have hvm : (T.calling (F0 mid pc ls stC) mk (as.map (mm_v ad)).toArray).vm = T.vm := rfl
  generalize hs2 : T.calling (F0 mid pc ls stC) mk (as.map (mm_v ad)).toArray = s2 at Y hhp hvm
  have hW2 : s.WarmedH s2.vm := by rw [hvm]; exact X.warmed
  have hAA : ∀ q, mm_A ad (mm_n m) H.size q → A q := fun q hq => by
    rcases hq with ⟨r, h0, h1, rfl⟩ | hq
    · exact hR.in h0 h1
    · exact hA q (Nat.le_trans hS.1 hq)
  have hC2 : mm_C l G Kc p s2 mk (as.map (mm_v ad)).toArray mt ck (mm_A ad (mm_n m) H.size) (ad 0) := by
    refine ⟨hx, f4, f5, f6, f7, f8, by rw [hW2.alike.findClass]; exact f9, f10, fun w hw => word_at hW2 (good_of_word (mm_T_good w hw)) (hts w hw), mm_Xat hX hW2 (fun a h1 h2 => by rw [hhp]; exact hS.2.1 a h1 h2) (fun q _ hq => hAA q hq), fun q cell hq hc => ?_, hlt, by rw [hscr]; trivial⟩
    rw [hhp] at hc
    rcases hq with ⟨r, h0, h1, rfl⟩ | hq
    · exact hR.plain h0 h1 hc
    · exact absurd (Array.getElem?_eq_some_iff.mp hc).1 (Nat.not_lt.mpr hq)
  have hW := hM p e s2 mk (as.map (mm_v ad)).toArray (.java (F0 mid pc ls stC) :: below) mt ck bc bc (mm_n m) ad ad (mm_A ad (mm_n m) H.size) s2.heap [] 0 0 _ hC2 (fun q hq => Or.inr (by rw [hhp] at hq; exact hq)) (Nat.le_refl _) (fun _ _ => rfl) (by rw [hhp]; exact hR.self H.size) va_S.rf (by rw [← mm_la_map]; exact lv_entry (as.map (mm_v ad)) (by rw [mm_sl_len]; exact hlen)) (fun q hq => has _ (mm_la_mem as 0 q hq)) (fun v hv => by cases hv) (by omega) (by omega)
  rw [List.map_nil, ← lg_entry_eq] at hW
  rw [← f5] at hW
  obtain ⟨t, hst1, o, hrun, hend, ⟨u, m2, ad2, hQ, hR2, hn2, had2, hF2, hout⟩, L, hWt, hsm, hL⟩ := hW _ (by rw [← hs2]; rfl) Y
  have hR3 := hR2.wide hAA
  have hS3 : va_S A s.heap t.heap (locs ++ L) := by
    obtain ⟨z1, z2⟩ := hF2
    rw [hhp] at z1 z2
    refine ⟨Nat.le_trans hS.1 z1, fun q h1 h2 => ?_, fun q hq => ?_⟩
    · rw [z2 q (Nat.lt_of_lt_of_le h1 hS.1) (fun h3 => h2 (hAA q h3))]
      exact hS.2.1 q h1 h2
    · rcases List.mem_append.mp hq with h | h
      · exact hS.2.2 q h
      · exact hAA _ (hL q h)
  subst hs2
  rcases u with v | E
  · left
    obtain ⟨rfl, hcv⟩ := hout
    obtain ⟨T2, X2, -, -, ht⟩ := X.outOf (g := F0 mid pc ls stC) rfl hdc hend hWt hsm
    have hh2 : T2.heap = t.heap := by rw [ht]; rfl
    refine ⟨v, m2, ad2, T2, L, hQ, by rw [hh2]; exact hR3, hn2, had2, by rw [hh2]; exact hS3, X2, hcv, fun acts => ?_⟩
    rw [hdo acts]
    have h9 := mm_weak hst1
    rw [ht] at h9
    exact h9
  · right
    obtain ⟨q, ce, rfl, hce, hcv, hcl⟩ := hout
    obtain ⟨T2, X2, -, -, ht⟩ := X.outOfThrown (g := F0 mid pc ls stC) rfl hend hWt hsm
    have hh2 : T2.heap = t.heap := by rw [ht]; rfl
    refine ⟨E, m2, ad2, T2, L, q, ce, hQ, by rw [hh2]; exact hR3, hn2, had2, by rw [hh2]; exact hS3, X2, by rw [hh2]; exact hce, hcv, ?_, fun acts => ?_⟩
    · have h8 : T.vm.findClass E = some ce.cls := hcl
      rw [X.warmed.alike.findClass] at h8
      exact h8
    · rw [hdo acts]
      have h9 := mm_weak hst1
      rw [ht] at h9
      exact h9
abbrev mm_is (u0 : mm_O) (m0 : mm_Mem) : mm_O → mm_Mem → Prop := fun u m => u = u0 ∧ m = m0
theorem mm_eqm {l : Launch} {G : mm_G} {K : mm_M} {pc : Nat} {lv : List (Nat × Value)} {st : List Value} {b : Nat} {m m2 : mm_Mem} {Q : mm_O → mm_Mem → Prop} (e : m2 = m) (h : mm_W l G K pc lv st b m2 Q) : mm_W l G K pc lv st b m Q := e ▸ h
section MMV
variable {l : Launch} {G : mm_G} {K : mm_M} {pc : Nat} {lv lv2 : List (Nat × Value)} {st : List Value} {b : Nat} {m : mm_Mem} {Q : mm_O → mm_Mem → Prop} {v : Value}
theorem mm_aload_nV (j : Nat) {k : Fin 4} {i : Nat} (hd : decode K.2.1 pc = .ok (.aload_n k, 1)) (hi : (k : Nat) = i) (hj : lv[j]? = some (i, v)) (hv : v = .null ∨ ∃ r, v = .ref r) (h : mm_W l G K (pc + 1) lv (v :: st) b m Q) : mm_W l G K pc lv st b m Q := by
  rcases hv with rfl | ⟨r, rfl⟩
  · exact mm_aload_nN j hd hi hj h
  · exact mm_aload_n j hd hi hj h
theorem mm_aloadV (j : Nat) {i : Nat} (hd : decode K.2.1 pc = .ok (.aload i, 2)) (hj : lv[j]? = some (i, v)) (hv : v = .null ∨ ∃ r, v = .ref r) (h : mm_W l G K (pc + 2) lv (v :: st) b m Q) : mm_W l G K pc lv st b m Q := by
  rcases hv with rfl | ⟨r, rfl⟩
  · exact mm_aloadN j hd hj h
  · exact mm_aload j hd hj h
theorem mm_astore_nV {k : Fin 4} {i : Nat} (hd : decode K.2.1 pc = .ok (.astore_n k, 1)) (hi : (k : Nat) = i) (hn : i < K.2.2.1) (hl : (i, v) :: lv.filter (fun q => !(q.1 == i) && !(q.1 + 1 == i && q.2.category == 2)) = lv2) (hv : v = .null ∨ ∃ r, v = .ref r) (h : mm_W l G K (pc + 1) lv2 st b m Q) : mm_W l G K pc lv (v :: st) b m Q := by
  rcases hv with rfl | ⟨r, rfl⟩
  · exact mm_astore_nN hd hi hn hl h
  · exact mm_astore_n hd hi hn hl h
theorem mm_astoreV {i : Nat} (hd : decode K.2.1 pc = .ok (.astore i, 2)) (hn : i < K.2.2.1) (hl : (i, v) :: lv.filter (fun q => !(q.1 == i) && !(q.1 + 1 == i && q.2.category == 2)) = lv2) (hv : v = .null ∨ ∃ r, v = .ref r) (h : mm_W l G K (pc + 2) lv2 st b m Q) : mm_W l G K pc lv (v :: st) b m Q := by
  rcases hv with rfl | ⟨r, rfl⟩
  · exact mm_astoreN hd hn hl h
  · exact mm_astore hd hn hl h
theorem mm_ifnonnullV {off : Int} {tgt : Nat} (hd : decode K.2.1 pc = .ok (.ifnonnull off, 3)) (ht : (pc : Int) + off = (tgt : Int)) (hv : v = .null ∨ ∃ r, v = .ref r) (k1 : ∀ r, v = .ref r → mm_W l G K tgt lv st b m Q) (k2 : v = .null → mm_W l G K (pc + 3) lv st b m Q) : mm_W l G K pc lv (v :: st) b m Q := by
  rcases hv with rfl | ⟨r, rfl⟩
  · exact mm_ifnonnullN hd (k2 rfl)
  · exact mm_ifnonnull hd ht (k1 r rfl)
theorem mm_ifnullV {off : Int} {tgt : Nat} (hd : decode K.2.1 pc = .ok (.ifnull off, 3)) (ht : (pc : Int) + off = (tgt : Int)) (hv : v = .null ∨ ∃ r, v = .ref r) (k1 : ∀ r, v = .ref r → mm_W l G K (pc + 3) lv st b m Q) (k2 : v = .null → mm_W l G K tgt lv st b m Q) : mm_W l G K pc lv (v :: st) b m Q := by
  rcases hv with rfl | ⟨r, rfl⟩
  · exact mm_ifnullN hd ht (k2 rfl)
  · exact mm_ifnull hd (k1 r rfl)
theorem mm_minL {idx : Nat} {x y : Int64} (hl : Cond.methodLink K.1 idx Lib.MathLoose.min_long.x ∈ mm_T) (hs : Cond.static Lib.MathLoose.min_long.x ∈ mm_T) (hi : Cond.initialized "java/lang/Math" ∈ mm_T) (hc : Cond.code Lib.MathLoose.min_long.x Lib.MathLoose.min_long.code 4 (some .long) ∈ mm_T) (hd : decode K.2.1 pc = .ok (.invokestatic idx, 3)) (hdep : 1 ≤ K.2.2.2.2.1.1) (hst : (st.map fun v => v.category).sum + 15 ≤ K.2.2.2.2.1.2) (h : mm_W l G K (pc + 3) lv (.long (if y < x then y else x) :: st) b m Q) : mm_W l G K pc lv (.long y :: .long x :: st) b m Q := by
  intro p e s mid args below meth c mc ms n0 ad0 ad A H locs cells slots ls C hA hn had hR hS hls hlc hsc hb1 hb2
  obtain ⟨hx, hb, -, -, -, -, hown, -, hts, -⟩ := id C
  have hcs : ((st.map (mm_v ad)).map fun v => v.category).sum + 15 ≤ K.2.2.2.2.1.2 := by
    rw [mm_cat_map]
    exact hst
  exact va_mmin_long hx hb (C.2.2.1.trans hls.1.symm) hown (hts _ hl) (hts _ hs) (hts _ hi) (hts _ hc) hdep hcs (show cells ≤ mc by omega) (show slots ≤ ms by omega) hd (h p e s mid args below meth c mc ms n0 ad0 ad A H locs cells slots ls C hA hn had hR hS hls hlc (mm_sc trivial (mm_sd (mm_sd hsc))) hb1 hb2)
end MMV
/-- what a program decides of a callee, once -/
def mm_cal (Kc : mm_M) (y : MethodName) (np : Nat) : Prop := mm_cw Kc y ∈ mm_T ∧ Kc.1 = y.cls ∧ Kc.2.2.2.2.2.2.1 = y.name ∧ plainName y.cls = true ∧ Kc.2.2.2.2.2.2.2 = none ∧ (y.cls ≠ "java/lang/invoke/MethodHandle" ∧ y.cls ≠ "java/lang/invoke/VarHandle") ∧ (parseMethodDescriptor y.desc).map (fun d => d.parameters.length) = some np ∧ Cond.initialized y.cls ∈ mm_T
theorem mm_np {y : MethodName} {np : Nat} (h : (parseMethodDescriptor y.desc).map (fun d => d.parameters.length) = some np) {sig : MethodDescriptor} (hs : parseMethodDescriptor y.desc = some sig) : np = sig.parameters.length := by
  rw [hs] at h
  exact (Option.some.inj h).symm
section MMC
variable {l : Launch} {G : mm_G} {K Kc : mm_M} {pc : Nat} {lv lv2 : List (Nat × Value)} {st as : List Value} {b bc b2 : Nat} {m : mm_Mem} {Q Qc : mm_O → mm_Mem → Prop}
theorem mm_rest {st0 rest : List Value} {n : Nat} (h : ∀ v ∈ st0 ++ rest, mm_cv n v) : ∀ v ∈ rest, mm_cv n v := fun v hv => h v (List.mem_append_right _ hv)
/-- a call of a static method -/
theorem mm_callS {y : MethodName} {idx np : Nat} (hc : mm_cal Kc y np) (hl : Cond.methodLink K.1 idx y ∈ mm_T) (hs : Cond.static y ∈ mm_T) (hd : decode K.2.1 pc = .ok (.invokestatic idx, 3)) (hnp : as.length = np) (hst : (st.map fun v => v.category).sum + (Kc.2.2.1 + 11) + Kc.2.2.2.2.1.2 ≤ K.2.2.2.2.1.2) (hdep : Kc.2.2.2.2.1.1 + 1 ≤ K.2.2.2.2.1.1) (hlen : (lg_sl as).length ≤ Kc.2.2.1) (hbd : bc + b2 ≤ b) (hM : mm_W l G Kc 0 (lv_args 0 as) [] bc m Qc)
    (hx1 : ∀ E m2, Qc (.inr E) m2 → mm_WX l G K pc lv E b2 m2 Q) (h : ∀ v m2, Qc (.inl v) m2 → mm_W l G K (pc + 3) lv (v.toList ++ st) b2 m2 Q) : mm_W l G K pc lv (as.reverse ++ st) b m Q := by
  intro p e s mid args below meth c mc ms n0 ad0 ad A H locs cells slots ls C hA hn had hR hS hls hlc hsc hb1 hb2
  obtain ⟨hx, hb, hml, -, -, -, hown, -, hts, -⟩ := id C
  obtain ⟨c1, c2, c3, c4, c5, c6, c7, c8⟩ := hc
  obtain ⟨mk, mt, ck, hF⟩ := mm_F.of (hts _ c1) c2 c3
  intro T hT X
  obtain ⟨kP, hkP, -⟩ := className_of_methodNamed hF.1
  obtain ⟨vm1, X1, st1⟩ := X.invokestatic hx hown (hts _ hl) hF.1 hF.2.1 (Cond.static_spec hF.1 hF.2.1 (hts _ hs)) hkP (Cond.initialized_spec (findClass_of_methodNamed hF.1) hkP (hts _ c8)) c6 (g := F0 mid pc ls ((as.reverse ++ st).map (mm_v ad))) rfl (argsL := as.map (mm_v ad)) (rest := st.map (mm_v ad)) (by rw [List.length_map, hnp]; exact mm_np c7 hF.2.2.2.2.2.2.2.2.2.2) (by show (as.reverse ++ st).map _ = _; rw [List.map_append, List.map_reverse]) (by rw [hb]; exact hd)
  rcases mm_enter (stC := st.map (mm_v ad)) X1 hT C hA hR hS hls.1 hF c4 c5 hd (by rw [mm_cat_map]; exact hst) hdep (by omega) (by omega) (as := as) (fun v hv => hsc v (List.mem_append_left _ (List.mem_reverse.mpr hv))) hlen hM with ⟨v, m2, ad2, T2, L, hQ, hR2, hn2, had2, hS2, X2, hcv, hgo⟩ | ⟨E, m2, ad2, T2, L, q, ce, hQ, hR2, hn2, had2, hS2, X2, hce, hcv, hcl, hgo⟩
  · have hsr := mm_rest hsc
    obtain ⟨t, a1, a2⟩ := h v m2 hQ p e s mid args below meth c mc ms n0 ad0 ad2 A T2.heap (locs ++ L) (cells + bc) (slots + bc) ls C hA (Nat.le_trans hn hn2) (fun r hr => (had2 r (Nat.le_trans hr hn)).trans (had r hr)) hR2 hS2 (by rw [mm_lv_ag had2 hlc]; exact hls) (fun q hq => mm_cv_mono hn2 (hlc q hq)) (fun w hw => by
      rcases List.mem_append.mp hw with hw | hw
      · exact hcv w (Option.mem_toList.mp hw)
      · exact mm_cv_mono hn2 (hsr w hw)) (by omega) (by omega) T2 rfl X2
    refine ⟨t, st1 t (fun acts => (hgo acts).trans ?_), a2⟩
    rw [List.map_append, mm_st_ag had2 hsr] at a1
    rw [show (v.map (mm_v ad2)).toList = v.toList.map (mm_v ad2) by cases v <;> rfl]
    exact a1
  · obtain ⟨t, a1, a2⟩ := hx1 E m2 hQ p e s mid args below meth c mc ms n0 ad0 ad2 A T2.heap (locs ++ L) (cells + bc) (slots + bc) ls C hA (Nat.le_trans hn hn2) (fun r hr => (had2 r (Nat.le_trans hr hn)).trans (had r hr)) hR2 hS2 (by rw [mm_lv_ag had2 hlc]; exact hls) (fun q hq => mm_cv_mono hn2 (hlc q hq)) (by omega) (by omega) q ce (st.map (mm_v ad)) hce hcv hcl T2 rfl X2
    exact ⟨t, st1 t (fun acts => (hgo acts).trans a1), a2⟩
/-- a call of an instance's method -/
theorem mm_callV {y : MethodName} {idx np r ci : Nat} {fs : List Value} {qc : vw_C} (hc : mm_cal Kc y np) (hl : Cond.methodLink K.1 idx y ∈ mm_T) (hi : Cond.instanceMethod y ∈ mm_T) (hse : Cond.selects y.cls y y ∈ mm_T) (hqc : mm_cl[ci]? = some qc) (hqn : qc.1 = y.cls) (hd : decode K.2.1 pc = .ok (.invokevirtual idx, 3)) (hnp : as.length = np) (hst : (st.map fun v => v.category).sum + (Kc.2.2.1 + 11) + Kc.2.2.2.2.1.2 ≤ K.2.2.2.2.1.2) (hdep : Kc.2.2.2.2.1.1 + 1 ≤ K.2.2.2.2.1.1) (hlen : (lg_sl (.ref r :: as)).length ≤ Kc.2.2.1) (hbd : bc + b2 ≤ b) (hm : m r = .inr (ci, fs)) (h0 : r ≠ 0) (hM : mm_W l G Kc 0 (lv_args 0 (.ref r :: as)) [] bc m Qc)
    (hx1 : ∀ E m2, Qc (.inr E) m2 → mm_WX l G K pc lv E b2 m2 Q) (h : ∀ v m2, Qc (.inl v) m2 → mm_W l G K (pc + 3) lv (v.toList ++ st) b2 m2 Q) : mm_W l G K pc lv (as.reverse ++ .ref r :: st) b m Q := by
  intro p e s mid args below meth c mc ms n0 ad0 ad A H locs cells slots ls C hA hn had hR hS hls hlc hsc hb1 hb2
  obtain ⟨hx, hb, hml, -, -, -, hown, -, hts, ⟨hK, -⟩, -⟩ := id C
  obtain ⟨c1, c2, c3, c4, c5, c6, c7, c8⟩ := hc
  obtain ⟨mk, mt, ck, hF⟩ := mm_F.of (hts _ c1) c2 c3
  obtain ⟨mk2, mt2, hnm2, hmt2, hstM, habM⟩ := Cond.instanceMethod_spec (hts _ hi)
  cases hF.1.symm.trans hnm2
  cases hF.2.1.symm.trans hmt2
  obtain ⟨cellB, hcB, hoB, hclB⟩ := va_recv hK hR.1 hqc (mm_at hR.2.2.1 h0 hm (mm_ni hqc))
  obtain ⟨c2', r2, m2', q1, q2, q3, q4, kP, hkP, hkPi⟩ := Cond.selects_spec (hts _ hse)
  rw [hqn] at hclB
  cases hclB.symm.trans q1
  cases (State.methodFound?_of_named hF.1 c6).symm.trans q2
  cases hF.1.symm.trans q3
  intro T hT X
  have hselP : selectMethod e.platform s.vm cellB.cls mk = .method mk := by rw [Launch.admits_selectMethod X.admits]; exact q4
  obtain ⟨vm1, X1, st1⟩ := X.invokevirtual hx hown (hts _ hl) hF.1 hF.2.1 hstM hkP hkPi c6 (a := ad r) (cell := cellB) (by rw [hT]; exact hcB) (fun z h => by rw [h] at hoB; cases hoB) hselP hF.2.1 habM hkP hkPi (g := F0 mid pc ls ((as.reverse ++ .ref r :: st).map (mm_v ad))) rfl (argsL := as.map (mm_v ad)) (rest := st.map (mm_v ad)) (by rw [List.length_map, hnp]; exact mm_np c7 hF.2.2.2.2.2.2.2.2.2.2) (by show (as.reverse ++ .ref r :: st).map _ = _; rw [List.map_append, List.map_reverse]; rfl) (by rw [hb]; exact hd)
  have hsr : ∀ v ∈ st, mm_cv (mm_n m) v := fun v hv => hsc v (List.mem_append_right _ (List.mem_cons_of_mem _ hv))
  rcases mm_enter (stC := st.map (mm_v ad)) X1 hT C hA hR hS hls.1 hF c4 c5 hd (by rw [mm_cat_map]; exact hst) hdep (by omega) (by omega) (as := .ref r :: as) (mm_sc (hsc _ (List.mem_append_right _ List.mem_cons_self)) (fun v hv => hsc v (List.mem_append_left _ (List.mem_reverse.mpr hv)))) hlen hM with ⟨v, m2, ad2, T2, L, hQ, hR2, hn2, had2, hS2, X2, hcv, hgo⟩ | ⟨E, m2, ad2, T2, L, q, ce, hQ, hR2, hn2, had2, hS2, X2, hce, hcv, hcl, hgo⟩
  · obtain ⟨t, a1, a2⟩ := h v m2 hQ p e s mid args below meth c mc ms n0 ad0 ad2 A T2.heap (locs ++ L) (cells + bc) (slots + bc) ls C hA (Nat.le_trans hn hn2) (fun r hr => (had2 r (Nat.le_trans hr hn)).trans (had r hr)) hR2 hS2 (by rw [mm_lv_ag had2 hlc]; exact hls) (fun q hq => mm_cv_mono hn2 (hlc q hq)) (fun w hw => by
      rcases List.mem_append.mp hw with hw | hw
      · exact hcv w (Option.mem_toList.mp hw)
      · exact mm_cv_mono hn2 (hsr w hw)) (by omega) (by omega) T2 rfl X2
    refine ⟨t, st1 t (fun acts => (hgo acts).trans ?_), a2⟩
    rw [List.map_append, mm_st_ag had2 hsr] at a1
    rw [show (v.map (mm_v ad2)).toList = v.toList.map (mm_v ad2) by cases v <;> rfl]
    exact a1
  · obtain ⟨t, a1, a2⟩ := hx1 E m2 hQ p e s mid args below meth c mc ms n0 ad0 ad2 A T2.heap (locs ++ L) (cells + bc) (slots + bc) ls C hA (Nat.le_trans hn hn2) (fun r hr => (had2 r (Nat.le_trans hr hn)).trans (had r hr)) hR2 hS2 (by rw [mm_lv_ag had2 hlc]; exact hls) (fun q hq => mm_cv_mono hn2 (hlc q hq)) (by omega) (by omega) q ce (st.map (mm_v ad)) hce hcv hcl T2 rfl X2
    exact ⟨t, st1 t (fun acts => (hgo acts).trans a1), a2⟩
/-- a constructor's call -/
theorem mm_callI {y : MethodName} {idx np r : Nat} (hc : mm_cal Kc y np) (hyi : y.name = "<init>") (hh : Kc.2.2.2.2.2.1 = []) (hrt : Kc.2.2.2.1 = none) (hl : Cond.methodLink K.1 idx y ∈ mm_T) (hi : Cond.instanceMethod y ∈ mm_T) (hd : decode K.2.1 pc = .ok (.invokespecial idx, 3)) (hnp : as.length = np) (hst : (st.map fun v => v.category).sum + (Kc.2.2.1 + 11) + Kc.2.2.2.2.1.2 ≤ K.2.2.2.2.1.2) (hdep : Kc.2.2.2.2.1.1 + 1 ≤ K.2.2.2.2.1.1) (hlen : (lg_sl (.ref r :: as)).length ≤ Kc.2.2.1) (hbd : bc + b2 ≤ b) (hM : mm_W l G Kc 0 (lv_args 0 (.ref r :: as)) [] bc m Qc)
    (hx1 : ∀ E m2, Qc (.inr E) m2 → mm_WX l G K pc lv E b2 m2 Q) (h : ∀ v m2, Qc (.inl v) m2 → mm_W l G K (pc + 3) lv (v.toList ++ st) b2 m2 Q) : mm_W l G K pc lv (as.reverse ++ .ref r :: st) b m Q := by
  intro p e s mid args below meth c mc ms n0 ad0 ad A H locs cells slots ls C hA hn had hR hS hls hlc hsc hb1 hb2
  obtain ⟨hx, hb, hml, -, -, -, hown, -, hts, ⟨hK, -⟩, -⟩ := id C
  obtain ⟨c1, c2, c3, c4, c5, c6, c7, c8⟩ := hc
  obtain ⟨mk, mt, ck, hF⟩ := mm_F.of (hts _ c1) c2 c3
  have hcode : (Cond.code y Kc.2.1 Kc.2.2.1 none).before args s = true := by
    have h9 := hts _ c1
    unfold mm_cw at h9
    rw [hh, hrt] at h9
    exact h9
  intro T hT X
  have hpl : e.platform.magicAccessors = ({} : Platform).magicAccessors := by rw [X.admits.platform]
  obtain ⟨mk2, mt2, cM, kP, vm1, hnm2, hmt2, -, -, -, -, -, -, hW1, st1⟩ := Steps.initColdArgs (e := e) X.here hx X.warmed hpl hown hyi c6 (hts _ hl) (hts _ hi) hcode (f := F0 mid pc ls ((as.reverse ++ .ref r :: st).map (mm_v ad))) rfl (argsL := as.map (mm_v ad)) (a := ad r) (rest := st.map (mm_v ad)) (fun sig hs => by rw [List.length_map, hnp]; exact mm_np c7 hs) (by show (as.reverse ++ .ref r :: st).map _ = _; rw [List.map_append, List.map_reverse]; rfl) (by rw [hb]; exact hd)
  cases hF.1.symm.trans hnm2
  have X1 := X.noted hW1
  have hsr : ∀ v ∈ st, mm_cv (mm_n m) v := fun v hv => hsc v (List.mem_append_right _ (List.mem_cons_of_mem _ hv))
  rcases mm_enter (stC := st.map (mm_v ad)) X1 hT C hA hR hS hls.1 hF c4 c5 hd (by rw [mm_cat_map]; exact hst) hdep (by omega) (by omega) (as := .ref r :: as) (mm_sc (hsc _ (List.mem_append_right _ List.mem_cons_self)) (fun v hv => hsc v (List.mem_append_left _ (List.mem_reverse.mpr hv)))) hlen hM with ⟨v, m2, ad2, T2, L, hQ, hR2, hn2, had2, hS2, X2, hcv, hgo⟩ | ⟨E, m2, ad2, T2, L, q, ce, hQ, hR2, hn2, had2, hS2, X2, hce, hcv, hcl, hgo⟩
  · obtain ⟨t, a1, a2⟩ := h v m2 hQ p e s mid args below meth c mc ms n0 ad0 ad2 A T2.heap (locs ++ L) (cells + bc) (slots + bc) ls C hA (Nat.le_trans hn hn2) (fun r hr => (had2 r (Nat.le_trans hr hn)).trans (had r hr)) hR2 hS2 (by rw [mm_lv_ag had2 hlc]; exact hls) (fun q hq => mm_cv_mono hn2 (hlc q hq)) (fun w hw => by
      rcases List.mem_append.mp hw with hw | hw
      · exact hcv w (Option.mem_toList.mp hw)
      · exact mm_cv_mono hn2 (hsr w hw)) (by omega) (by omega) T2 rfl X2
    refine ⟨t, st1 t (fun acts => (hgo acts).trans ?_), a2⟩
    rw [List.map_append, mm_st_ag had2 hsr] at a1
    rw [show (v.map (mm_v ad2)).toList = v.toList.map (mm_v ad2) by cases v <;> rfl]
    exact a1
  · obtain ⟨t, a1, a2⟩ := hx1 E m2 hQ p e s mid args below meth c mc ms n0 ad0 ad2 A T2.heap (locs ++ L) (cells + bc) (slots + bc) ls C hA (Nat.le_trans hn hn2) (fun r hr => (had2 r (Nat.le_trans hr hn)).trans (had r hr)) hR2 hS2 (by rw [mm_lv_ag had2 hlc]; exact hls) (fun q hq => mm_cv_mono hn2 (hlc q hq)) (by omega) (by omega) q ce (st.map (mm_v ad)) hce hcv hcl T2 rfl X2
    exact ⟨t, st1 t (fun acts => (hgo acts).trans a1), a2⟩
/-- an exception that no handler of the method covers leaves it -/
theorem mm_outX {E : String} (hh : (tableOf K.2.2.2.2.2.1).all (fun x => !covers x pc) = true) (hq : Q (.inr E) m) : mm_WX l G K pc lv E b m Q := by
  intro p e s mid args below meth c mc ms n0 ad0 ad A H locs cells slots ls C hA hn had hR hS hls hlc hb1 hb2 q ce stC hce hcv hcl T hT X
  obtain ⟨-, -, -, -, hlk, -, -, hex, -⟩ := id C
  obtain ⟨st1, hrun, hend, hW, hsm⟩ := X.leaveThrown q (g := F0 mid pc ls stC) rfl rfl rfl (outside_of_table hex hh) hlk
  refine ⟨_, st1, .threw q, hrun, hend, ⟨.inr E, m, ad, hq, by show mm_R G.1 A ad m T.heap; rw [hT]; exact hR, hn, had, hS.F hT, q, ce, rfl, by show T.heap[q]? = _; rw [hT]; exact hce, hcv, hcl⟩, locs, hW, hsm.mono (by omega) (by omega), hS.2.2⟩
end MMC
end
section
/-! exceptions: made and thrown, caught; a nest mate's private constructor -/
def mm_sw : List Cond := [.isRef (.static "java/lang/Throwable" "UNASSIGNED_STACK" "[Ljava/lang/StackTraceElement;"), .isRef (.static "java/lang/Throwable" "SUPPRESSED_SENTINEL" "Ljava/util/List;"), .laysStatic "java/lang/Throwable" "UNASSIGNED_STACK" "[Ljava/lang/StackTraceElement;", .laysStatic "java/lang/Throwable" "SUPPRESSED_SENTINEL" "Ljava/util/List;"]
/-- the words of 'throw new cls(text)', all of them at hand -/
def mm_own (own : String) (ic : Nat) (cls : String) (names : List String) : Prop := ∀ w ∈ Bundle.ownAtoms own ic cls names, w ∈ mm_T ∨ w ∈ mm_NW ∨ w ∈ mm_sw
theorem mm_kind_use {w : Cond} (hk : mm_kind w = true) {args : Array Value} {s : State} (h : va_Nw w s) : w.before args s = true := by
  cases w <;> first
    | exact va_Nw.use rfl h
    | (rename_i t; cases t <;> first | exact va_AO.use h | (cases hk))
    | (cases hk)
/-- the frame as it stands, seen as one that is just entered in this heap -/
theorem mm_anew {p : Program} {l : Launch} {e : Env} {R R2 : Room} {s : State} {mid : MethodId} {args : Array Value} {below : List Frame} {meth : Method} {c : Code} {T : State} {locs : List Loc} {cells slots : Nat} (X : Stand p l e R s mid args below meth c T locs cells slots) (h1 : R2.frames ≤ R.frames) (h2 : R2.locals ≤ R.locals) (h3 : cells + R2.cells ≤ R.cells) (h4 : slots + R2.slots ≤ R.slots) : Stand p l e R2 ((T.setVm s.vm).setFrames (.invoking mid args :: below)) mid args below meth c T [] 0 0 := by
  have htop : (T.setVm s.vm).topJava?.isSome := X.here.top
  have hfr : ((T.setVm s.vm).setFrames (.invoking mid args :: below)).frames = .invoking mid args :: below := State.frames_setFrames _ (State.cur_lt_of_top htop)
  obtain ⟨g0, hg0⟩ := X.frames_eq
  have hg1 : (T.setVm s.vm).frames = .java g0 :: below := hg0
  have hlim : e.platform.stackLimits (T.setVm s.vm).me = e.platform.stackLimits s.me := X.limits
  have hby : (T.setVm s.vm).me.stackBytes = s.me.stackBytes := X.bytes
  have hnil : T.heap.toList.drop T.heap.size = [] := List.drop_eq_nil_of_le (Nat.le_of_eq Array.length_toList)
  refine { admits := X.admits, cas := X.cas, clock := X.clock, frames := hfr, room := ?_, hears := X.hears, method := X.method, code := X.code, here := X.here, tail := X.tail, warmed := X.warmed, limits := ?_, bytes := ?_, same := ?_ }
  · have hroom := X.room
    have huse : ((T.setVm s.vm).setFrames (.invoking mid args :: below)).localsInUse = s.localsInUse := by
      rw [State.localsInUse_invoking hfr (meth := meth) (c := c) X.method X.code, State.localsInUse_invoking X.frames X.method X.code]
    have hsz := X.heapSize
    have hus := X.used
    have hbk := X.book
    simp only [State.hasRoom, Bool.and_eq_true, decide_eq_true_eq] at hroom ⊢
    rw [X.frames, List.length_cons] at hroom
    simp only [hfr, huse, List.length_cons, State.stackLimits_setFrames, State.stackBytes_setFrames, hlim, hby]
    obtain ⟨⟨⟨⟨a1, a2, a3, a4, a5, a6⟩, a7⟩, a8⟩, a9⟩ := hroom
    refine ⟨⟨⟨⟨by omega, by omega, by omega, by omega, by omega, a6⟩, ?_⟩, ?_⟩, hbk⟩
    · show T.heap.size + R2.cells ≤ e.platform.maxCells
      omega
    · show T.slotsUsed + R2.slots ≤ e.platform.maxSlots
      omega
  · rw [State.stackLimits_setFrames]
    rfl
  · rw [State.stackBytes_setFrames]
    rfl
  · obtain ⟨t, ht, -⟩ := State.frames_cons hg1
    refine ⟨?_, Nat.le_refl _, Nat.le_refl _, ?_, ?_, fun a c9 h9 => ⟨c9, h9, rfl, rfl, fun _ _ => rfl⟩⟩
    · show T.setVm s.vm = { ((T.setVm s.vm).setFrames (.invoking mid args :: below)).setFrames (T.setVm s.vm).frames with heap := T.heap, slotsUsed := T.slotsUsed }
      rw [State.setFrames_setFrames, State.setFrames_self ht]
      rfl
    · show T.slotsUsed = T.slotsUsed + ((T.heap.toList.drop T.heap.size).map (·.slots.size)).sum
      rw [hnil]
      rfl
    · show ((T.heap.toList.drop T.heap.size).map (·.slots.size)).sum ≤ 0
      rw [hnil]
      exact Nat.le_refl _
/-- what stood before stands as it stood, but for the places written -/
theorem mm_kept {s U : State} {locs : List Loc} {k n : Nat} (h : s.sameButNew ({ U with vm := s.vm } : State) locs k n) : s.heap.size ≤ U.heap.size ∧ ∀ q : Nat, q < s.heap.size → (∀ z ∈ locs, z.base ≠ q) → U.heap[q]? = s.heap[q]? := by
  obtain ⟨-, a2, -, -, -, a6⟩ := h
  refine ⟨a2, fun q hq hz => ?_⟩
  obtain ⟨c9, b1, b2, b3, b4⟩ := a6 q _ (Array.getElem?_eq_getElem hq)
  have hsl : c9.slots = (s.heap[q]).slots := Array.ext_getElem? fun i => b4 i fun hm => hz _ hm rfl
  have hc : c9 = s.heap[q] := by
    rw [hsl] at b2
    exact b2
  rw [show U.heap[q]? = some c9 from b1, hc, Array.getElem?_eq_getElem hq]
theorem mm_sr1 {own tx : String} {k a : Nat} {A : Array Value} {U : State} (h : vk_R own k tx a U) : (Cond.stringRef own k tx).before A U = true := h.1
theorem mm_sr2 {own tx : String} {k a : Nat} {A : Array Value} {U : State} (h : vk_R own k tx a U) : (Term.string own k).eval A U none [] U = some (.ref a) := h.2
section MMT
variable {l : Launch} {G : mm_G} {K Kc : mm_M} {pc : Nat} {lv lv2 : List (Nat × Value)} {st as : List Value} {b bc b2 : Nat} {m : mm_Mem} {Q Qc : mm_O → mm_Mem → Prop}
theorem mm_throwS {cls tx : String} {names : List String} {ik is ic : Nat} (hcl : Cond.classLink K.1 ik cls ∈ mm_T) (hini : Cond.initialized cls ∈ mm_T) (hat : mm_own K.1 ic cls names) (hcf : Bundle.fit cls = true) (hnf : ∀ n ∈ names, Bundle.fit n = true) (hsr : (K.1, is, tx) ∈ mm_SR) (d0 : decode K.2.1 pc = .ok (.new ik, 3)) (d3 : decode K.2.1 (pc + 3) = .ok (.dup, 1)) (d4 : decode K.2.1 (pc + 4) = .ok (.ldc is, 2)) (d6 : decode K.2.1 (pc + 6) = .ok (.invokespecial ic, 3)) (d9 : decode K.2.1 (pc + 9) = .ok (.athrow, 1)) (hh : (tableOf K.2.2.2.2.2.1).all (fun x => !covers x (pc + 9)) = true) (hfr : names.length + 3 < K.2.2.2.2.1.1) (hlo : (st.map fun v => v.category).sum + (13 * (names.length + 1) + 43) ≤ K.2.2.2.2.1.2) (hb7 : 7 ≤ b) (hq : Q (.inr cls) m) : mm_W l G K pc lv st b m Q := by
  intro p e s mid args below meth c mc ms n0 ad0 ad A H locs cells slots ls C hA hn had hR hS hls hlc hsc hb1 hb2
  obtain ⟨hx, hb, hml, -, hlk, -, hown, hex, hts, hX, hns, hlt, -⟩ := id C
  intro T hT X
  have htr : e.platform.stackTraces = false := (show e.platform.stackTraces = l.stackTraces by rw [X.admits.platform]).trans hlt
  have Y := mm_anew X (R2 := { frames := K.2.2.2.2.1.1, locals := K.2.2.2.2.1.2, cells := 1, slots := 6 }) (Nat.le_refl _) (Nat.le_refl _) (show cells + 1 ≤ mc by omega) (show slots + 6 ≤ ms by omega)
  obtain ⟨s2, hs2⟩ : ∃ z, z = (T.setVm s.vm).setFrames (.invoking mid args :: below) := ⟨_, rfl⟩
  rw [← hs2] at Y
  have hvm : s2.vm = s.vm := by rw [hs2]; rfl
  have hhp : s2.heap = H := by rw [hs2]; exact hT
  have hW0 : s.WarmedH s2.vm := by rw [hvm]; exact State.WarmedH.refl s
  have hts2 : ∀ w ∈ mm_T, w.before args s2 = true := fun w hw => word_at hW0 (good_of_word (mm_T_good w hw)) (hts w hw)
  have hX2 : mm_X G A s2 := mm_Xat hX hW0 (fun a h1 h2 => by rw [hhp]; exact hS.2.1 a h1 h2) (fun _ _ h => h)
  have hw : ∀ w ∈ Bundle.ownAtoms K.1 ic cls names, w.before args s2 = true := fun w hw => by
    rcases hat w hw with h1 | h1 | h1
    · exact hts2 w h1
    · exact mm_kind_use (mm_NW_ok w h1) (hX2.2.1 w h1)
    · have z1 := (hX2.2.2.1 ("java/lang/Throwable", "UNASSIGNED_STACK", "[Ljava/lang/StackTraceElement;") (by simp [mm_ST])).word (args := args)
      have z2 := (hX2.2.2.1 ("java/lang/Throwable", "SUPPRESSED_SENTINEL", "Ljava/util/List;") (by simp [mm_ST])).word (args := args)
      simp only [mm_sw, List.mem_cons, List.not_mem_nil, or_false] at h1
      rcases h1 with rfl | rfl | rfl | rfl
      · exact z1.2
      · exact z2.2
      · exact z1.1
      · exact z2.1
  obtain ⟨sa, hsa⟩ := hX2.2.2.2.1 _ hsr
  have hown2 : s2.vm.findClass K.1 = some mid.cls := by rw [hvm]; exact hown
  have hins : (Cond.instantiable cls 6).before args s2 = true := hw _ (by simp [Bundle.ownAtoms])
  obtain ⟨vm1, cX, kX, hfX, hkX, -, -, X1, st1⟩ := Y.newCold hx (own := K.1) (C := cls) (index := ik) (n := 6) hown2 (hts2 _ hcl) hins (hts2 _ hini) (g := F0 mid pc ls (st.map (mm_v ad))) rfl (by rw [hb]; exact d0) (Nat.le_refl _) (Nat.le_refl _)
  generalize hT1 : (T.setVm vm1).pushCell { cls := cX, slots := kX.instanceTypes.map defaultValue, vm := .none } = T1 at X1 st1
  have hcellA : T1.heap[T.heap.size]? = some (freshCell cX kX) := by rw [← hT1]; exact State.heap_pushCell_size _ _
  have hcat : (Value.ref T.heap.size).category = 1 := rfl
  have d3' : decode c.code (pc + 3) = .ok (.dup, 1) := by rw [hb]; exact d3
  have d4' : decode c.code (pc + 4) = .ok (.ldc is, 2) := by rw [hb]; exact d4
  obtain ⟨U, hsteps, hrun, hend, hW, hsame, ce, hce, hO⟩ := X1.ctorThrowS hx htr (own := K.1) (cls := cls) (names := names) (ic := ic) hown2 hcf hnf hw (fun x hx => nomatch hx) hfX hkX hcellA (by rw [hhp, hT]; exact Nat.le_refl _) (msg := .ref sa) rfl
    (g := { method := mid, pc := pc + 6, locals := ls, stack := .ref sa :: .ref T.heap.size :: .ref T.heap.size :: st.map (mm_v ad), locked := none }) rfl (hls.1.trans hml.symm) rfl rfl (rest := st.map (mm_v ad)) rfl (by rw [hb]; exact d6) (by rw [hb]; exact d9) (outside_of_table hex hh) hfr (by
      show 2 * 0 + ((Value.ref T.heap.size :: st.map (mm_v ad)).map fun v => v.category).sum + (13 * (names.length + 1) + 42) ≤ K.2.2.2.2.1.2
      rw [List.map_cons, List.sum_cons, hcat, mm_cat_map]
      omega) hlk
  obtain ⟨f1, f2⟩ := mm_kept hsame
  rw [hhp] at f1 f2
  have hkq : ∀ q : Nat, q < H.size → U.heap[q]? = H[q]? := fun q hq => f2 q hq (fun z hz => nomatch hz)
  have hWs : s.WarmedH U.vm := State.WarmedH.trans hW0 hW
  have hcl2 : s.vm.findClass cls = some ce.cls := by
    have h9 := hO.cls
    rw [hvm] at h9
    exact h9
  have hall : s.sameButNew ({ U with vm := s.vm } : State) locs mc ms := by
    subst hs2
    obtain ⟨e1, e2⟩ := hsame
    rw [State.setFrames_setFrames] at e1
    have h2 : (T.setVm s.vm).sameButNew ({ U with vm := s.vm } : State) [] (0 + 1) (0 + 6) := ⟨e1, e2⟩
    have h3 := X.same.trans h2
    rw [List.append_nil] at h3
    exact h3.mono (by omega) (by omega)
  have hRU : mm_R G.1 A ad m U.heap := ⟨hR.1.kept (fun k x hx => hkq x.1 ((hR.1 k x hx).lt)), hR.2⟩
  have hFU : va_F A s U := ⟨Nat.le_trans hS.1 f1, fun q h1 h2 => by rw [hkq q (Nat.lt_of_lt_of_le h1 hS.1)]; exact hS.2.1 q h1 h2⟩
  refine ⟨U, ?_, .threw T.heap.size, hrun, hend, ⟨.inr cls, m, ad, hq, hRU, hn, had, hFU, T.heap.size, ce, rfl, hce, hO.vm, hcl2⟩, locs, hWs, hall, hS.2.2⟩
  refine st1 _ ?_
  show Steps p.tables e below (T1.setTop { method := mid, pc := pc + 3, locals := ls, stack := .ref T.heap.size :: st.map (mm_v ad), locked := none }) _
  jvm_step X1.here [X1.here.top, hx, d3', Value.category]
  exact X1.ldcString hx (own := K.1) (text := tx) (index := is) (a := sa) hown2 (mm_sr1 hsa) (mm_sr2 hsa) (g := { method := mid, pc := pc + 4, locals := ls, stack := .ref T.heap.size :: .ref T.heap.size :: st.map (mm_v ad), locked := none }) rfl d4' _ hsteps
/-- a private constructor of a nest mate -/
theorem mm_callIN {y : MethodName} {idx np r : Nat} {host : String} (hc : mm_cal Kc y np) (hyi : y.name = "<init>") (hh : Kc.2.2.2.2.2.1 = []) (hrt : Kc.2.2.2.1 = none) (hl : Cond.methodLinkNest K.1 idx y host ∈ mm_NW) (hi : Cond.instanceMethod y ∈ mm_T) (hd : decode K.2.1 pc = .ok (.invokespecial idx, 3)) (hnp : as.length = np) (hst : (st.map fun v => v.category).sum + (Kc.2.2.1 + 11) + Kc.2.2.2.2.1.2 ≤ K.2.2.2.2.1.2) (hdep : Kc.2.2.2.2.1.1 + 1 ≤ K.2.2.2.2.1.1) (hlen : (lg_sl (.ref r :: as)).length ≤ Kc.2.2.1) (hbd : bc + b2 ≤ b) (hM : mm_W l G Kc 0 (lv_args 0 (.ref r :: as)) [] bc m Qc)
    (hx1 : ∀ E m2, Qc (.inr E) m2 → mm_WX l G K pc lv E b2 m2 Q) (h : ∀ v m2, Qc (.inl v) m2 → mm_W l G K (pc + 3) lv (v.toList ++ st) b2 m2 Q) : mm_W l G K pc lv (as.reverse ++ .ref r :: st) b m Q := by
  intro p e s mid args below meth c mc ms n0 ad0 ad A H locs cells slots ls C hA hn had hR hS hls hlc hsc hb1 hb2
  obtain ⟨hx, hb, hml, -, -, -, hown, -, hts, ⟨hK, hNW, -⟩, -⟩ := id C
  obtain ⟨c1, c2, c3, c4, c5, c6, c7, c8⟩ := hc
  obtain ⟨mk, mt, ck, hF⟩ := mm_F.of (hts _ c1) c2 c3
  have hcode : (Cond.code y Kc.2.1 Kc.2.2.1 none).before args s = true := by
    have h9 := hts _ c1
    unfold mm_cw at h9
    rw [hh, hrt] at h9
    exact h9
  intro T hT X
  have hpl : e.platform.magicAccessors = ({} : Platform).magicAccessors := by rw [X.admits.platform]
  obtain ⟨mk2, mt2, cM, kP, vm1, hnm2, hmt2, -, -, -, -, -, -, hW1, st1⟩ := Steps.initColdArgsNest (e := e) X.here hx X.warmed hpl hown hyi c6 ((hNW _ hl).use rfl) (hts _ hi) hcode (f := F0 mid pc ls ((as.reverse ++ .ref r :: st).map (mm_v ad))) rfl (argsL := as.map (mm_v ad)) (a := ad r) (rest := st.map (mm_v ad)) (fun sig hs => by rw [List.length_map, hnp]; exact mm_np c7 hs) (by show (as.reverse ++ .ref r :: st).map _ = _; rw [List.map_append, List.map_reverse]; rfl) (by rw [hb]; exact hd)
  cases hF.1.symm.trans hnm2
  have X1 := X.noted hW1
  have hsr : ∀ v ∈ st, mm_cv (mm_n m) v := fun v hv => hsc v (List.mem_append_right _ (List.mem_cons_of_mem _ hv))
  rcases mm_enter (stC := st.map (mm_v ad)) X1 hT C hA hR hS hls.1 hF c4 c5 hd (by rw [mm_cat_map]; exact hst) hdep (by omega) (by omega) (as := .ref r :: as) (mm_sc (hsc _ (List.mem_append_right _ List.mem_cons_self)) (fun v hv => hsc v (List.mem_append_left _ (List.mem_reverse.mpr hv)))) hlen hM with ⟨v, m2, ad2, T2, L, hQ, hR2, hn2, had2, hS2, X2, hcv, hgo⟩ | ⟨E, m2, ad2, T2, L, q, ce, hQ, hR2, hn2, had2, hS2, X2, hce, hcv, hcl, hgo⟩
  · obtain ⟨t, a1, a2⟩ := h v m2 hQ p e s mid args below meth c mc ms n0 ad0 ad2 A T2.heap (locs ++ L) (cells + bc) (slots + bc) ls C hA (Nat.le_trans hn hn2) (fun r hr => (had2 r (Nat.le_trans hr hn)).trans (had r hr)) hR2 hS2 (by rw [mm_lv_ag had2 hlc]; exact hls) (fun q hq => mm_cv_mono hn2 (hlc q hq)) (fun w hw => by
      rcases List.mem_append.mp hw with hw | hw
      · exact hcv w (Option.mem_toList.mp hw)
      · exact mm_cv_mono hn2 (hsr w hw)) (by omega) (by omega) T2 rfl X2
    refine ⟨t, st1 t (fun acts => (hgo acts).trans ?_), a2⟩
    rw [List.map_append, mm_st_ag had2 hsr] at a1
    rw [show (v.map (mm_v ad2)).toList = v.toList.map (mm_v ad2) by cases v <;> rfl]
    exact a1
  · obtain ⟨t, a1, a2⟩ := hx1 E m2 hQ p e s mid args below meth c mc ms n0 ad0 ad2 A T2.heap (locs ++ L) (cells + bc) (slots + bc) ls C hA (Nat.le_trans hn hn2) (fun r hr => (had2 r (Nat.le_trans hr hn)).trans (had r hr)) hR2 hS2 (by rw [mm_lv_ag had2 hlc]; exact hls) (fun q hq => mm_cv_mono hn2 (hlc q hq)) (by omega) (by omega) q ce (st.map (mm_v ad)) hce hcv hcl T2 rfl X2
    exact ⟨t, st1 t (fun acts => (hgo acts).trans a1), a2⟩
end MMT
end
section
def k_P_init : mm_M := ("PartBox", prog_1_method_1_code, 1, none, (4, 83), [], "<init>", none)
def k_P_feed : mm_M := ("PartBox", prog_1_method_2_code, 6, none, (6, 90), [], "feed", none)
def k_P_end : mm_M := ("PartBox", prog_1_method_3_code, 2, none, (6, 90), [], "end", none)
def k_P_alter : mm_M := ("PartBox", prog_1_method_4_code, 3, none, (6, 90), [], "alter", none)
def k_P_length : mm_M := ("PartBox", prog_1_method_5_code, 1, some .int, (2, 40), [], "length", none)
def k_P_byteAt : mm_M := ("PartBox", prog_1_method_6_code, 3, some .int, (6, 90), [], "byteAt", none)
def k_P_type : mm_M := ("PartBox", prog_1_method_7_code, 5, some .int, (6, 90), [], "type", none)
def k_P_erase : mm_M := ("PartBox", prog_1_method_8_code, 1, none, (2, 41), [], "erase", none)
def k_P_add : mm_M := ("PartBox", prog_1_method_9_code, 1, some .int, (7, 114), [], "add", none)
def k_P_addPacked : mm_M := ("PartBox", prog_1_method_10_code, 3, some .int, (7, 114), [], "addPacked", none)
def k_P_remove : mm_M := ("PartBox", prog_1_method_11_code, 2, none, (6, 90), [], "remove", none)
def k_P_move : mm_M := ("PartBox", prog_1_method_12_code, 3, none, (6, 90), [], "move", none)
def k_P_find : mm_M := ("PartBox", prog_1_method_13_code, 1, some .int, (4, 89), [], "find", none)
def k_P_about : mm_M := ("PartBox", prog_1_method_14_code, 4, some .int, (6, 90), [], "about", none)
def k_P_name : mm_M := ("PartBox", prog_1_method_15_code, 4, some .int, (6, 90), [], "name", none)
def k_P_part : mm_M := ("PartBox", prog_1_method_16_code, 4, some .int, (6, 90), [], "part", none)
def k_P_write : mm_M := ("PartBox", prog_1_method_17_code, 1, some .int, (6, 133), [], "write", none)
def k_P_read : mm_M := ("PartBox", prog_1_method_18_code, 2, some .int, (8, 183), [], "read", none)
def k_P_blame : mm_M := ("PartBox", prog_1_method_19_code, 2, some .int, (6, 90), [], "blame", none)
def k_P_count : mm_M := ("PartBox", prog_1_method_20_code, 1, some .int, (2, 40), [], "count", none)
def k_P_isTypedNameNew : mm_M := ("PartBox", prog_1_method_21_code, 1, some .boolean, (4, 89), [], "isTypedNameNew", none)
def k_P_enter : mm_M := ("PartBox", prog_1_method_22_code, 5, some .int, (6, 90), [], "enter", none)
def k_M_init : mm_M := ("PartBoxModel", prog_11_method_1_code, 1, none, (1, 20), [], "<init>", none)
def k_M_thrown : mm_M := ("PartBoxModel", prog_11_method_2_code, 1, some .int, (1, 20), [], "thrown", none)
def k_M_feed : mm_M := ("PartBoxModel", prog_11_method_3_code, 8, none, (1, 20), [], "feed", none)
def k_M_end : mm_M := ("PartBoxModel", prog_11_method_4_code, 2, none, (1, 20), [], "end", none)
def k_M_alter : mm_M := ("PartBoxModel", prog_11_method_5_code, 3, none, (1, 20), [], "alter", none)
def k_M_length : mm_M := ("PartBoxModel", prog_11_method_6_code, 1, some .int, (1, 20), [], "length", none)
def k_M_byteAt : mm_M := ("PartBoxModel", prog_11_method_7_code, 2, some .int, (1, 20), [], "byteAt", none)
def k_M_type : mm_M := ("PartBoxModel", prog_11_method_8_code, 6, some .int, (1, 20), [], "type", none)
def k_M_erase : mm_M := ("PartBoxModel", prog_11_method_9_code, 1, none, (1, 20), [], "erase", none)
def k_M_small : mm_M := ("PartBoxModel", prog_11_method_10_code, 1, some .int, (1, 20), [], "small", none)
def k_M_nameAt : mm_M := ("PartBoxModel", prog_11_method_11_code, 3, some .int, (1, 20), [], "nameAt", none)
def k_M_isName : mm_M := ("PartBoxModel", prog_11_method_12_code, 8, some .boolean, (2, 42), [], "isName", none)
def k_M_findName : mm_M := ("PartBoxModel", prog_11_method_13_code, 4, some .int, (2, 40), [], "findName", none)
def k_M_checkOf : mm_M := ("PartBoxModel", prog_11_method_14_code, 6, some .int, (1, 20), [], "checkOf", none)
def k_M_put : mm_M := ("PartBoxModel", prog_11_method_15_code, 6, some .int, (1, 20), [], "put", none)
def k_M_refused : mm_M := ("PartBoxModel", prog_11_method_16_code, 2, some .int, (3, 69), [], "refused", none)
def k_M_add : mm_M := ("PartBoxModel", prog_11_method_17_code, 1, some .int, (4, 90), [], "add", none)
def k_M_addPacked : mm_M := ("PartBoxModel", prog_11_method_18_code, 3, some .int, (4, 90), [], "addPacked", none)
def k_M_noEntry : mm_M := ("PartBoxModel", prog_11_method_19_code, 2, some .boolean, (1, 20), [], "noEntry", none)
def k_M_copy : mm_M := ("PartBoxModel", prog_11_method_20_code, 4, none, (1, 20), [], "copy", none)
def k_M_gather : mm_M := ("PartBoxModel", prog_11_method_21_code, 4, none, (1, 20), [], "gather", none)
def k_M_remove : mm_M := ("PartBoxModel", prog_11_method_22_code, 3, none, (2, 43), [], "remove", none)
def k_M_swap : mm_M := ("PartBoxModel", prog_11_method_23_code, 5, none, (1, 20), [], "swap", none)
def k_M_move : mm_M := ("PartBoxModel", prog_11_method_24_code, 5, none, (2, 44), [], "move", none)
def k_M_find : mm_M := ("PartBoxModel", prog_11_method_25_code, 1, some .int, (3, 63), [], "find", none)
def k_M_about : mm_M := ("PartBoxModel", prog_11_method_26_code, 3, some .int, (2, 41), [], "about", none)
def k_M_name : mm_M := ("PartBoxModel", prog_11_method_27_code, 3, some .int, (2, 41), [], "name", none)
def k_M_part : mm_M := ("PartBoxModel", prog_11_method_28_code, 3, some .int, (2, 41), [], "part", none)
def k_M_count : mm_M := ("PartBoxModel", prog_11_method_29_code, 1, some .int, (1, 20), [], "count", none)
def k_M_low : mm_M := ("PartBoxModel", prog_11_method_30_code, 4, none, (1, 20), [], "low", none)
def k_M_middle : mm_M := ("PartBoxModel", prog_11_method_31_code, 2, none, (2, 43), [], "middle", none)
def k_M_writeName : mm_M := ("PartBoxModel", prog_11_method_32_code, 3, none, (2, 43), [], "writeName", none)
def k_M_write : mm_M := ("PartBoxModel", prog_11_method_33_code, 4, some .int, (3, 65), [], "write", none)
def k_M_two : mm_M := ("PartBoxModel", prog_11_method_34_code, 3, some .int, (1, 20), [], "two", none)
def k_M_four : mm_M := ("PartBoxModel", prog_11_method_35_code, 3, some .long, (2, 42), [], "four", none)
def k_M_wrong : mm_M := ("PartBoxModel", prog_11_method_36_code, 5, some .boolean, (1, 20), [], "wrong", none)
def k_M_findEnd : mm_M := ("PartBoxModel", prog_11_method_37_code, 2, some .boolean, (3, 64), [], "findEnd", none)
def k_M_flags : mm_M := ("PartBoxModel", prog_11_method_38_code, 2, some .int, (2, 42), [], "flags", none)
def k_M_method : mm_M := ("PartBoxModel", prog_11_method_39_code, 2, some .int, (2, 42), [], "method", none)
def k_M_many : mm_M := ("PartBoxModel", prog_11_method_40_code, 2, some .long, (3, 64), [], "many", none)
def k_M_size : mm_M := ("PartBoxModel", prog_11_method_41_code, 2, some .long, (3, 64), [], "size", none)
def k_M_nameSize : mm_M := ("PartBoxModel", prog_11_method_42_code, 2, some .int, (2, 42), [], "nameSize", none)
def k_M_sameName : mm_M := ("PartBoxModel", prog_11_method_43_code, 5, some .boolean, (3, 63), [], "sameName", none)
def k_M_readDirectory : mm_M := ("PartBoxModel", prog_11_method_44_code, 12, some .boolean, (4, 87), [], "readDirectory", none)
def k_M_fits : mm_M := ("PartBoxModel", prog_11_method_45_code, 6, some .boolean, (3, 63), [], "fits", none)
def k_M_isHead : mm_M := ("PartBoxModel", prog_11_method_46_code, 7, some .boolean, (4, 88), [], "isHead", none)
def k_M_isBody : mm_M := ("PartBoxModel", prog_11_method_47_code, 6, some .boolean, (4, 85), [], "isBody", none)
def k_M_firstLeft : mm_M := ("PartBoxModel", prog_11_method_48_code, 3, some .int, (1, 20), [], "firstLeft", none)
def k_M_readGaps : mm_M := ("PartBoxModel", prog_11_method_49_code, 4, some .boolean, (2, 44), [], "readGaps", none)
def k_M_isWrong : mm_M := ("PartBoxModel", prog_11_method_50_code, 2, some .boolean, (5, 118), [], "isWrong", none)
def k_M_read : mm_M := ("PartBoxModel", prog_11_method_51_code, 4, some .int, (6, 139), [], "read", none)
def k_M_blame : mm_M := ("PartBoxModel", prog_11_method_52_code, 2, some .int, (1, 20), [], "blame", none)
def k_X_init : mm_M := ("PartBox$Box", prog_2_method_1_code, 2, none, (3, 61), [], "<init>", none)
def k_X_size : mm_M := ("PartBox$Box", prog_2_method_2_code, 1, some .int, (1, 20), [], "size", none)
def k_X_has : mm_M := ("PartBox$Box", prog_2_method_3_code, 2, some .boolean, (1, 20), [], "has", none)
def k_X_pick : mm_M := ("PartBox$Box", prog_2_method_4_code, 2, some (.object "PartBox$Entry"), (2, 41), [], "pick", none)
def k_X_numberOf : mm_M := ("PartBox$Box", prog_2_method_5_code, 4, some .int, (3, 66), [], "numberOf", none)
def k_X_append : mm_M := ("PartBox$Box", prog_2_method_6_code, 5, some (.object "PartBox$Entry"), (3, 65), [], "append", none)
def k_X_clear : mm_M := ("PartBox$Box", prog_2_method_7_code, 1, none, (2, 41), [], "clear", none)
def k_X_drop : mm_M := ("PartBox$Box", prog_2_method_8_code, 5, none, (3, 65), [], "drop", none)
def k_X_shift : mm_M := ("PartBox$Box", prog_2_method_9_code, 5, none, (2, 41), [], "shift", none)
def k_X_writtenLength : mm_M := ("PartBox$Box", prog_2_method_10_code, 3, some .int, (3, 60), [], "writtenLength", none)
def k_X_writeOver : mm_M := ("PartBox$Box", prog_2_method_11_code, 5, none, (5, 109), [], "writeOver", none)
def k_X_lengthWithHead : mm_M := ("PartBox$Box", prog_2_method_12_code, 1, some .int, (2, 40), [], "lengthWithHead", none)
def k_X_writeEntry : mm_M := ("PartBox$Box", prog_2_method_13_code, 3, none, (4, 86), [], "writeEntry", none)
def k_X_writeDirectoryHead : mm_M := ("PartBox$Box", prog_2_method_14_code, 4, none, (4, 86), [], "writeDirectoryHead", none)
def k_X_writeFacts : mm_M := ("PartBox$Box", prog_2_method_15_code, 3, none, (3, 64), [], "writeFacts", none)
def k_X_writeEnd : mm_M := ("PartBox$Box", prog_2_method_16_code, 4, none, (3, 64), [], "writeEnd", none)
def k_B_init : mm_M := ("PartBox$Bytes", prog_3_method_1_code, 2, none, (1, 20), [], "<init>", none)
def k_B_size : mm_M := ("PartBox$Bytes", prog_3_method_2_code, 1, some .int, (1, 20), [], "size", none)
def k_B_free : mm_M := ("PartBox$Bytes", prog_3_method_3_code, 1, some .int, (1, 20), [], "free", none)
def k_B_get : mm_M := ("PartBox$Bytes", prog_3_method_4_code, 2, some .int, (1, 20), [], "get", none)
def k_B_set : mm_M := ("PartBox$Bytes", prog_3_method_5_code, 3, none, (1, 20), [], "set", none)
def k_B_keep : mm_M := ("PartBox$Bytes", prog_3_method_6_code, 2, none, (1, 20), [], "keep", none)
def k_B_push : mm_M := ("PartBox$Bytes", prog_3_method_7_code, 2, none, (1, 20), [], "push", none)
def k_B_pushWord : mm_M := ("PartBox$Bytes", prog_3_method_8_code, 3, none, (2, 41), [], "pushWord", none)
def k_B_pushNumber : mm_M := ("PartBox$Bytes", prog_3_method_9_code, 4, none, (2, 41), [], "pushNumber", none)
def k_B_pushAll : mm_M := ("PartBox$Bytes", prog_3_method_10_code, 4, none, (2, 42), [], "pushAll", none)
def k_B_cut : mm_M := ("PartBox$Bytes", prog_3_method_11_code, 3, none, (2, 42), [], "cut", none)
def k_B_number : mm_M := ("PartBox$Bytes", prog_3_method_12_code, 6, some .long, (2, 42), [], "number", none)
def k_B_hasMark : mm_M := ("PartBox$Bytes", prog_3_method_13_code, 4, some .boolean, (2, 41), [], "hasMark", none)
def k_B_holds : mm_M := ("PartBox$Bytes", prog_3_method_14_code, 3, some .boolean, (1, 20), [], "holds", none)
def k_C_init : mm_M := ("PartBox$Checker", prog_4_method_1_code, 4, none, (1, 20), [], "<init>", none)
def k_C_checkOf : mm_M := ("PartBox$Checker", prog_4_method_2_code, 6, some .int, (2, 41), [], "checkOf", none)
def k_E_init : mm_M := ("PartBox$Entry", prog_5_method_1_code, 1, none, (2, 41), [], "<init>", none)
def k_E_describe : mm_M := ("PartBox$Entry", prog_5_method_2_code, 4, none, (1, 20), [], "describe", none)
def k_F_init : mm_M := ("PartBox$Facts", prog_6_method_1_code, 1, none, (1, 20), [], "<init>", none)
def k_F_takeFrom : mm_M := ("PartBox$Facts", prog_6_method_2_code, 3, none, (3, 67), [], "takeFrom", none)
def k_F_hasTail : mm_M := ("PartBox$Facts", prog_6_method_3_code, 1, some .boolean, (1, 20), [], "hasTail", none)
def k_G_init : mm_M := ("PartBox$Finding", prog_7_method_1_code, 1, none, (2, 40), [], "<init>", none)
def k_G_takeFrom : mm_M := ("PartBox$Finding", prog_7_method_2_code, 4, none, (4, 89), [], "takeFrom", none)
def k_N_isName : mm_M := ("PartBox$Names", prog_8_method_2_code, 6, some .boolean, (3, 64), [], "isName", none)
def k_N_isPiece : mm_M := ("PartBox$Names", prog_8_method_3_code, 4, some .boolean, (2, 41), [], "isPiece", none)
def k_N_areAlike : mm_M := ("PartBox$Names", prog_8_method_4_code, 6, some .boolean, (2, 41), [], "areAlike", none)
def k_N_small : mm_M := ("PartBox$Names", prog_8_method_5_code, 1, some .int, (1, 20), [], "small", none)
def k_R_init : mm_M := ("PartBox$Reader", prog_9_method_1_code, 4, none, (3, 60), [], "<init>", none)
def k_R_findsNoFault : mm_M := ("PartBox$Reader", prog_9_method_2_code, 2, some .boolean, (7, 162), [], "findsNoFault", none)
def k_R_unpackInto : mm_M := ("PartBox$Reader", prog_9_method_3_code, 6, none, (4, 89), [], "unpackInto", none)
def k_R_note : mm_M := ("PartBox$Reader", prog_9_method_4_code, 4, some .boolean, (1, 20), [], "note", none)
def k_R_examineEnd : mm_M := ("PartBox$Reader", prog_9_method_5_code, 11, some .boolean, (4, 88), [], "examineEnd", none)
def k_R_lastEnd : mm_M := ("PartBox$Reader", prog_9_method_6_code, 2, some .int, (3, 67), [], "lastEnd", none)
def k_R_examineDirectory : mm_M := ("PartBox$Reader", prog_9_method_7_code, 5, some .boolean, (6, 138), [], "examineDirectory", none)
def k_R_directoryFault : mm_M := ("PartBox$Reader", prog_9_method_8_code, 7, some .int, (5, 112), [], "directoryFault", none)
def k_R_isNamedBefore : mm_M := ("PartBox$Reader", prog_9_method_9_code, 5, some .boolean, (3, 66), [], "isNamedBefore", none)
def k_R_examineEntries : mm_M := ("PartBox$Reader", prog_9_method_10_code, 4, some .boolean, (5, 114), [], "examineEntries", none)
def k_R_isHeadSound : mm_M := ("PartBox$Reader", prog_9_method_11_code, 6, some .boolean, (4, 89), [], "isHeadSound", none)
def k_R_agrees : mm_M := ("PartBox$Reader", prog_9_method_12_code, 5, some .boolean, (1, 20), [], "agrees", none)
def k_R_areSame : mm_M := ("PartBox$Reader", prog_9_method_13_code, 5, some .boolean, (2, 41), [], "areSame", none)
def k_R_areBytesSound : mm_M := ("PartBox$Reader", prog_9_method_14_code, 5, some .boolean, (3, 67), [], "areBytesSound", none)
def k_R_examinePlaces : mm_M := ("PartBox$Reader", prog_9_method_15_code, 4, some .boolean, (2, 43), [], "examinePlaces", none)
def k_R_orderByHeads : mm_M := ("PartBox$Reader", prog_9_method_16_code, 3, none, (1, 20), [], "orderByHeads", none)
def k_R_examineChecks : mm_M := ("PartBox$Reader", prog_9_method_17_code, 5, some .boolean, (3, 66), [], "examineChecks", none)
def k_L_feed : mm_M := ("PartBoxLaw", method_3_code, 7, some .int, (7, 115), [(0, 11, 14, 13)], "feed", none)
def k_L_end : mm_M := ("PartBoxLaw", method_4_code, 3, some .int, (7, 111), [(0, 5, 8, 19)], "end", none)
def k_L_alter : mm_M := ("PartBoxLaw", method_5_code, 4, some .int, (7, 112), [(0, 6, 9, 25), (0, 6, 12, 19)], "alter", none)
def k_L_byteAt : mm_M := ("PartBoxLaw", method_6_code, 4, some .int, (7, 112), [(0, 9, 12, 25)], "byteAt", none)
def k_L_type : mm_M := ("PartBoxLaw", method_7_code, 4, some .int, (7, 114), [(0, 9, 12, 19), (0, 9, 15, 13)], "type", none)
def k_L_add : mm_M := ("PartBoxLaw", method_8_code, 3, some .int, (8, 134), [(0, 8, 11, 19), (0, 8, 14, 13)], "add", none)
def k_L_addPacked : mm_M := ("PartBoxLaw", method_9_code, 5, some .int, (8, 136), [(0, 10, 13, 19), (0, 10, 17, 13)], "addPacked", none)
def k_L_remove : mm_M := ("PartBoxLaw", method_10_code, 3, some .int, (7, 111), [(0, 5, 8, 25)], "remove", none)
def k_L_move : mm_M := ("PartBoxLaw", method_11_code, 4, some .int, (7, 112), [(0, 6, 9, 25)], "move", none)
def k_L_about : mm_M := ("PartBoxLaw", method_12_code, 5, some .int, (7, 113), [(0, 10, 13, 25), (0, 10, 17, 19)], "about", none)
def k_L_name : mm_M := ("PartBoxLaw", method_13_code, 5, some .int, (7, 113), [(0, 10, 13, 25)], "name", none)
def k_L_part : mm_M := ("PartBoxLaw", method_14_code, 5, some .int, (7, 113), [(0, 10, 13, 25)], "part", none)
def k_L_write : mm_M := ("PartBoxLaw", method_15_code, 3, some .int, (7, 153), [(0, 8, 11, 13)], "write", none)
def k_L_read : mm_M := ("PartBoxLaw", method_16_code, 4, some .int, (9, 204), [(0, 9, 12, 19)], "read", none)
def k_L_blame : mm_M := ("PartBoxLaw", method_17_code, 4, some .int, (7, 111), [(0, 9, 12, 19)], "blame", none)
def k_L_law (ns : Nat) (xs : Nat → Int32) : mm_M := ("PartBoxLaw", code, 7, some .boolean, (11, 414), [], "law", some (ns, xs))
theorem w_0 : (Jvm.Cond.initialized "PartBoxLaw") ∈ mm_T := mm_in 0 (by decide +kernel) (by decide +kernel)
theorem w_1 : (Jvm.Cond.initialized "PartBox") ∈ mm_T := mm_in 1 (by decide +kernel) (by decide +kernel)
theorem w_2 : (Jvm.Cond.initialized "PartBox$Bytes") ∈ mm_T := mm_in 2 (by decide +kernel) (by decide +kernel)
theorem w_3 : (Jvm.Cond.initialized "java/lang/Math") ∈ mm_T := mm_in 3 (by decide +kernel) (by decide +kernel)
theorem w_4 : (Jvm.Cond.initialized "PartBox$Checker") ∈ mm_T := mm_in 4 (by decide +kernel) (by decide +kernel)
theorem w_5 : (Jvm.Cond.initialized "PartBox$Box") ∈ mm_T := mm_in 5 (by decide +kernel) (by decide +kernel)
theorem w_6 : (Jvm.Cond.initialized "PartBox$Entry") ∈ mm_T := mm_in 6 (by decide +kernel) (by decide +kernel)
theorem w_7 : (Jvm.Cond.initialized "PartBox$Reader") ∈ mm_T := mm_in 7 (by decide +kernel) (by decide +kernel)
theorem w_8 : (Jvm.Cond.initialized "PartBox$Finding") ∈ mm_T := mm_in 8 (by decide +kernel) (by decide +kernel)
theorem w_9 : (Jvm.Cond.initialized "PartBox$Facts") ∈ mm_T := mm_in 9 (by decide +kernel) (by decide +kernel)
theorem w_10 : (Jvm.Cond.initialized "PartBoxModel") ∈ mm_T := mm_in 10 (by decide +kernel) (by decide +kernel)
theorem w_14 : (Jvm.Cond.initialized "java/lang/IllegalStateException") ∈ mm_T := mm_in 14 (by decide +kernel) (by decide +kernel)
theorem w_15 : (Jvm.Cond.initialized "java/lang/IllegalArgumentException") ∈ mm_T := mm_in 15 (by decide +kernel) (by decide +kernel)
theorem w_16 : (Jvm.Cond.initialized "java/lang/IndexOutOfBoundsException") ∈ mm_T := mm_in 16 (by decide +kernel) (by decide +kernel)
theorem w_17 : (Jvm.Cond.initialized "PartBox$Names") ∈ mm_T := mm_in 17 (by decide +kernel) (by decide +kernel)
theorem w_18 : (Jvm.Cond.initialized "java/lang/System") ∈ mm_T := mm_in 18 (by decide +kernel) (by decide +kernel)
theorem w_19 : (Jvm.Cond.classLink "PartBoxLaw" (8 : Nat) "PartBox") ∈ mm_T := mm_in 19 (by decide +kernel) (by decide +kernel)
theorem w_20 : (Jvm.Cond.instantiable "PartBox" (5 : Nat)) ∈ mm_T := mm_in 20 (by decide +kernel) (by decide +kernel)
theorem w_21 : (Jvm.Cond.methodLink "PartBoxLaw" (66 : Nat) ({ cls := "PartBox", name := "<init>", desc := "()V" } : Jvm.MethodName)) ∈ mm_T := mm_in 21 (by decide +kernel) (by decide +kernel)
theorem w_22 : (Jvm.Cond.instanceMethod ({ cls := "PartBox", name := "<init>", desc := "()V" } : Jvm.MethodName)) ∈ mm_T := mm_in 22 (by decide +kernel) (by decide +kernel)
theorem w_23 : (Jvm.Cond.code ({ cls := "PartBox", name := "<init>", desc := "()V" } : Jvm.MethodName) prog_1_method_1_code (1 : Nat) (Option.none : Option Jvm.ClassFile.FieldType)) ∈ mm_T := mm_in 23 (by decide +kernel) (by decide +kernel)
theorem w_24 : (Jvm.Cond.methodLink "PartBox" (3 : Nat) ({ cls := "java/lang/Object", name := "<init>", desc := "()V" } : Jvm.MethodName)) ∈ mm_T := mm_in 24 (by decide +kernel) (by decide +kernel)
theorem w_25 : (Jvm.Cond.instanceMethod ({ cls := "java/lang/Object", name := "<init>", desc := "()V" } : Jvm.MethodName)) ∈ mm_T := mm_in 25 (by decide +kernel) (by decide +kernel)
theorem w_26 : (Jvm.Cond.code ({ cls := "java/lang/Object", name := "<init>", desc := "()V" } : Jvm.MethodName) object_method_1_code (1 : Nat) (Option.none : Option Jvm.ClassFile.FieldType)) ∈ mm_T := mm_in 26 (by decide +kernel) (by decide +kernel)
theorem w_27 : (Jvm.Cond.classLink "PartBox" (9 : Nat) "PartBox$Bytes") ∈ mm_T := mm_in 27 (by decide +kernel) (by decide +kernel)
theorem w_28 : (Jvm.Cond.instantiable "PartBox$Bytes" (2 : Nat)) ∈ mm_T := mm_in 28 (by decide +kernel) (by decide +kernel)
theorem w_29 : (Jvm.Cond.constant "PartBox" (11 : Nat) (65536 : Int32)) ∈ mm_T := mm_in 29 (by decide +kernel) (by decide +kernel)
theorem w_30 : (Jvm.Cond.methodLink "PartBox" (12 : Nat) ({ cls := "PartBox$Bytes", name := "<init>", desc := "(I)V" } : Jvm.MethodName)) ∈ mm_T := mm_in 30 (by decide +kernel) (by decide +kernel)
theorem w_31 : (Jvm.Cond.instanceMethod ({ cls := "PartBox$Bytes", name := "<init>", desc := "(I)V" } : Jvm.MethodName)) ∈ mm_T := mm_in 31 (by decide +kernel) (by decide +kernel)
theorem w_32 : (Jvm.Cond.code ({ cls := "PartBox$Bytes", name := "<init>", desc := "(I)V" } : Jvm.MethodName) prog_3_method_1_code (2 : Nat) (Option.none : Option Jvm.ClassFile.FieldType)) ∈ mm_T := mm_in 32 (by decide +kernel) (by decide +kernel)
theorem w_33 : (Jvm.Cond.methodLink "PartBox$Bytes" (3 : Nat) ({ cls := "java/lang/Object", name := "<init>", desc := "()V" } : Jvm.MethodName)) ∈ mm_T := mm_in 33 (by decide +kernel) (by decide +kernel)
theorem w_34 : (Jvm.Cond.methodLink "PartBox$Bytes" (9 : Nat) ({ cls := "java/lang/Math", name := "max", desc := "(II)I" } : Jvm.MethodName)) ∈ mm_T := mm_in 34 (by decide +kernel) (by decide +kernel)
theorem w_35 : (Jvm.Cond.static ({ cls := "java/lang/Math", name := "max", desc := "(II)I" } : Jvm.MethodName)) ∈ mm_T := mm_in 35 (by decide +kernel) (by decide +kernel)
theorem w_36 : (Jvm.Cond.code ({ cls := "java/lang/Math", name := "max", desc := "(II)I" } : Jvm.MethodName) prog_16_method_65_code (2 : Nat) (Option.some Jvm.ClassFile.FieldType.int)) ∈ mm_T := mm_in 36 (by decide +kernel) (by decide +kernel)
theorem w_37 : (Jvm.Cond.fieldLink "PartBox$Bytes" (15 : Nat) "PartBox$Bytes" "cells" "[B") ∈ mm_T := mm_in 37 (by decide +kernel) (by decide +kernel)
theorem w_38 : (Jvm.Cond.fieldLink "PartBox$Bytes" (21 : Nat) "PartBox$Bytes" "used" "I") ∈ mm_T := mm_in 38 (by decide +kernel) (by decide +kernel)
theorem w_39 : (Jvm.Cond.laysFinal "PartBox$Bytes" "PartBox$Bytes" "cells" "[B") ∈ mm_T := mm_in 39 (by decide +kernel) (by decide +kernel)
theorem w_41 : (Jvm.Cond.lays "PartBox$Bytes" "PartBox$Bytes" "used" "I") ∈ mm_T := mm_in 41 (by decide +kernel) (by decide +kernel)
theorem w_44 : (Jvm.Cond.arrayClass Jvm.ClassFile.FieldType.byte) ∈ mm_T := mm_in 44 (by decide +kernel) (by decide +kernel)
theorem w_45 : (Jvm.Cond.classLink "PartBox" (22 : Nat) "PartBox$Checker") ∈ mm_T := mm_in 45 (by decide +kernel) (by decide +kernel)
theorem w_46 : (Jvm.Cond.instantiable "PartBox$Checker" (1 : Nat)) ∈ mm_T := mm_in 46 (by decide +kernel) (by decide +kernel)
theorem w_47 : (Jvm.Cond.methodLink "PartBox" (24 : Nat) ({ cls := "PartBox$Checker", name := "<init>", desc := "()V" } : Jvm.MethodName)) ∈ mm_T := mm_in 47 (by decide +kernel) (by decide +kernel)
theorem w_48 : (Jvm.Cond.instanceMethod ({ cls := "PartBox$Checker", name := "<init>", desc := "()V" } : Jvm.MethodName)) ∈ mm_T := mm_in 48 (by decide +kernel) (by decide +kernel)
theorem w_49 : (Jvm.Cond.code ({ cls := "PartBox$Checker", name := "<init>", desc := "()V" } : Jvm.MethodName) prog_4_method_1_code (4 : Nat) (Option.none : Option Jvm.ClassFile.FieldType)) ∈ mm_T := mm_in 49 (by decide +kernel) (by decide +kernel)
theorem w_50 : (Jvm.Cond.methodLink "PartBox$Checker" (1 : Nat) ({ cls := "java/lang/Object", name := "<init>", desc := "()V" } : Jvm.MethodName)) ∈ mm_T := mm_in 50 (by decide +kernel) (by decide +kernel)
theorem w_51 : (Jvm.Cond.constant "PartBox$Checker" (13 : Nat) (-306674912 : Int32)) ∈ mm_T := mm_in 51 (by decide +kernel) (by decide +kernel)
theorem w_52 : (Jvm.Cond.fieldLink "PartBox$Checker" (7 : Nat) "PartBox$Checker" "eightSteps" "[I") ∈ mm_T := mm_in 52 (by decide +kernel) (by decide +kernel)
theorem w_53 : (Jvm.Cond.laysFinal "PartBox$Checker" "PartBox$Checker" "eightSteps" "[I") ∈ mm_T := mm_in 53 (by decide +kernel) (by decide +kernel)
theorem w_56 : (Jvm.Cond.arrayClass Jvm.ClassFile.FieldType.int) ∈ mm_T := mm_in 56 (by decide +kernel) (by decide +kernel)
theorem w_57 : (Jvm.Cond.classLink "PartBox" (29 : Nat) "PartBox$Box") ∈ mm_T := mm_in 57 (by decide +kernel) (by decide +kernel)
theorem w_58 : (Jvm.Cond.instantiable "PartBox$Box" (3 : Nat)) ∈ mm_T := mm_in 58 (by decide +kernel) (by decide +kernel)
theorem w_59 : (Jvm.Cond.methodLink "PartBox" (31 : Nat) ({ cls := "PartBox$Box", name := "<init>", desc := "()V" } : Jvm.MethodName)) ∈ mm_T := mm_in 59 (by decide +kernel) (by decide +kernel)
theorem w_60 : (Jvm.Cond.instanceMethod ({ cls := "PartBox$Box", name := "<init>", desc := "()V" } : Jvm.MethodName)) ∈ mm_T := mm_in 60 (by decide +kernel) (by decide +kernel)
theorem w_61 : (Jvm.Cond.code ({ cls := "PartBox$Box", name := "<init>", desc := "()V" } : Jvm.MethodName) prog_2_method_1_code (2 : Nat) (Option.none : Option Jvm.ClassFile.FieldType)) ∈ mm_T := mm_in 61 (by decide +kernel) (by decide +kernel)
theorem w_62 : (Jvm.Cond.methodLink "PartBox$Box" (3 : Nat) ({ cls := "java/lang/Object", name := "<init>", desc := "()V" } : Jvm.MethodName)) ∈ mm_T := mm_in 62 (by decide +kernel) (by decide +kernel)
theorem w_63 : (Jvm.Cond.classLink "PartBox$Box" (9 : Nat) "PartBox$Entry") ∈ mm_T := mm_in 63 (by decide +kernel) (by decide +kernel)
theorem w_65 : (Jvm.Cond.instantiable "PartBox$Entry" (6 : Nat)) ∈ mm_T := mm_in 65 (by decide +kernel) (by decide +kernel)
theorem w_66 : (Jvm.Cond.methodLink "PartBox$Box" (17 : Nat) ({ cls := "PartBox$Entry", name := "<init>", desc := "()V" } : Jvm.MethodName)) ∈ mm_T := mm_in 66 (by decide +kernel) (by decide +kernel)
theorem w_67 : (Jvm.Cond.instanceMethod ({ cls := "PartBox$Entry", name := "<init>", desc := "()V" } : Jvm.MethodName)) ∈ mm_T := mm_in 67 (by decide +kernel) (by decide +kernel)
theorem w_68 : (Jvm.Cond.code ({ cls := "PartBox$Entry", name := "<init>", desc := "()V" } : Jvm.MethodName) prog_5_method_1_code (1 : Nat) (Option.none : Option Jvm.ClassFile.FieldType)) ∈ mm_T := mm_in 68 (by decide +kernel) (by decide +kernel)
theorem w_69 : (Jvm.Cond.methodLink "PartBox$Entry" (3 : Nat) ({ cls := "java/lang/Object", name := "<init>", desc := "()V" } : Jvm.MethodName)) ∈ mm_T := mm_in 69 (by decide +kernel) (by decide +kernel)
theorem w_70 : (Jvm.Cond.classLink "PartBox$Entry" (9 : Nat) "PartBox$Bytes") ∈ mm_T := mm_in 70 (by decide +kernel) (by decide +kernel)
theorem w_71 : (Jvm.Cond.methodLink "PartBox$Entry" (11 : Nat) ({ cls := "PartBox$Bytes", name := "<init>", desc := "(I)V" } : Jvm.MethodName)) ∈ mm_T := mm_in 71 (by decide +kernel) (by decide +kernel)
theorem w_72 : (Jvm.Cond.fieldLink "PartBox$Entry" (14 : Nat) "PartBox$Entry" "name" "LPartBox$Bytes;") ∈ mm_T := mm_in 72 (by decide +kernel) (by decide +kernel)
theorem w_76 : (Jvm.Cond.fieldLink "PartBox$Entry" (20 : Nat) "PartBox$Entry" "method" "I") ∈ mm_T := mm_in 76 (by decide +kernel) (by decide +kernel)
theorem w_83 : (Jvm.Cond.fieldLink "PartBox$Entry" (24 : Nat) "PartBox$Entry" "size" "I") ∈ mm_T := mm_in 83 (by decide +kernel) (by decide +kernel)
theorem w_86 : (Jvm.Cond.fieldLink "PartBox$Entry" (27 : Nat) "PartBox$Entry" "check" "I") ∈ mm_T := mm_in 86 (by decide +kernel) (by decide +kernel)
theorem w_89 : (Jvm.Cond.laysFinal "PartBox$Entry" "PartBox$Entry" "name" "LPartBox$Bytes;") ∈ mm_T := mm_in 89 (by decide +kernel) (by decide +kernel)
theorem w_91 : (Jvm.Cond.lays "PartBox$Entry" "PartBox$Entry" "method" "I") ∈ mm_T := mm_in 91 (by decide +kernel) (by decide +kernel)
theorem w_93 : (Jvm.Cond.lays "PartBox$Entry" "PartBox$Entry" "start" "I") ∈ mm_T := mm_in 93 (by decide +kernel) (by decide +kernel)
theorem w_95 : (Jvm.Cond.lays "PartBox$Entry" "PartBox$Entry" "byteCount" "I") ∈ mm_T := mm_in 95 (by decide +kernel) (by decide +kernel)
theorem w_97 : (Jvm.Cond.lays "PartBox$Entry" "PartBox$Entry" "size" "I") ∈ mm_T := mm_in 97 (by decide +kernel) (by decide +kernel)
theorem w_99 : (Jvm.Cond.lays "PartBox$Entry" "PartBox$Entry" "check" "I") ∈ mm_T := mm_in 99 (by decide +kernel) (by decide +kernel)
theorem w_102 : (Jvm.Cond.classLink "PartBox$Box" (18 : Nat) "PartBox$Bytes") ∈ mm_T := mm_in 102 (by decide +kernel) (by decide +kernel)
theorem w_103 : (Jvm.Cond.constant "PartBox$Box" (20 : Nat) (65536 : Int32)) ∈ mm_T := mm_in 103 (by decide +kernel) (by decide +kernel)
theorem w_104 : (Jvm.Cond.methodLink "PartBox$Box" (21 : Nat) ({ cls := "PartBox$Bytes", name := "<init>", desc := "(I)V" } : Jvm.MethodName)) ∈ mm_T := mm_in 104 (by decide +kernel) (by decide +kernel)
theorem w_105 : (Jvm.Cond.fieldLink "PartBox$Box" (11 : Nat) "PartBox$Box" "entries" "[LPartBox$Entry;") ∈ mm_T := mm_in 105 (by decide +kernel) (by decide +kernel)
theorem w_106 : (Jvm.Cond.fieldLink "PartBox$Box" (24 : Nat) "PartBox$Box" "store" "LPartBox$Bytes;") ∈ mm_T := mm_in 106 (by decide +kernel) (by decide +kernel)
theorem w_108 : (Jvm.Cond.fieldLink "PartBox$Box" (28 : Nat) "PartBox$Box" "used" "I") ∈ mm_T := mm_in 108 (by decide +kernel) (by decide +kernel)
theorem w_109 : (Jvm.Cond.laysFinal "PartBox$Box" "PartBox$Box" "entries" "[LPartBox$Entry;") ∈ mm_T := mm_in 109 (by decide +kernel) (by decide +kernel)
theorem w_111 : (Jvm.Cond.laysFinal "PartBox$Box" "PartBox$Box" "store" "LPartBox$Bytes;") ∈ mm_T := mm_in 111 (by decide +kernel) (by decide +kernel)
theorem w_113 : (Jvm.Cond.lays "PartBox$Box" "PartBox$Box" "used" "I") ∈ mm_T := mm_in 113 (by decide +kernel) (by decide +kernel)
theorem w_116 : (Jvm.Cond.classLink "PartBox" (36 : Nat) "PartBox$Reader") ∈ mm_T := mm_in 116 (by decide +kernel) (by decide +kernel)
theorem w_117 : (Jvm.Cond.instantiable "PartBox$Reader" (13 : Nat)) ∈ mm_T := mm_in 117 (by decide +kernel) (by decide +kernel)
theorem w_118 : (Jvm.Cond.methodLink "PartBox" (38 : Nat) ({ cls := "PartBox$Reader", name := "<init>", desc := "(LPartBox$Bytes;LPartBox$Checker;)V" } : Jvm.MethodName)) ∈ mm_T := mm_in 118 (by decide +kernel) (by decide +kernel)
theorem w_119 : (Jvm.Cond.instanceMethod ({ cls := "PartBox$Reader", name := "<init>", desc := "(LPartBox$Bytes;LPartBox$Checker;)V" } : Jvm.MethodName)) ∈ mm_T := mm_in 119 (by decide +kernel) (by decide +kernel)
theorem w_120 : (Jvm.Cond.code ({ cls := "PartBox$Reader", name := "<init>", desc := "(LPartBox$Bytes;LPartBox$Checker;)V" } : Jvm.MethodName) prog_9_method_1_code (4 : Nat) (Option.none : Option Jvm.ClassFile.FieldType)) ∈ mm_T := mm_in 120 (by decide +kernel) (by decide +kernel)
theorem w_121 : (Jvm.Cond.methodLink "PartBox$Reader" (3 : Nat) ({ cls := "java/lang/Object", name := "<init>", desc := "()V" } : Jvm.MethodName)) ∈ mm_T := mm_in 121 (by decide +kernel) (by decide +kernel)
theorem w_122 : (Jvm.Cond.classLink "PartBox$Reader" (19 : Nat) "PartBox$Finding") ∈ mm_T := mm_in 122 (by decide +kernel) (by decide +kernel)
theorem w_124 : (Jvm.Cond.instantiable "PartBox$Finding" (6 : Nat)) ∈ mm_T := mm_in 124 (by decide +kernel) (by decide +kernel)
theorem w_125 : (Jvm.Cond.methodLink "PartBox$Reader" (25 : Nat) ({ cls := "PartBox$Finding", name := "<init>", desc := "()V" } : Jvm.MethodName)) ∈ mm_T := mm_in 125 (by decide +kernel) (by decide +kernel)
theorem w_126 : (Jvm.Cond.instanceMethod ({ cls := "PartBox$Finding", name := "<init>", desc := "()V" } : Jvm.MethodName)) ∈ mm_T := mm_in 126 (by decide +kernel) (by decide +kernel)
theorem w_127 : (Jvm.Cond.code ({ cls := "PartBox$Finding", name := "<init>", desc := "()V" } : Jvm.MethodName) prog_7_method_1_code (1 : Nat) (Option.none : Option Jvm.ClassFile.FieldType)) ∈ mm_T := mm_in 127 (by decide +kernel) (by decide +kernel)
theorem w_128 : (Jvm.Cond.methodLink "PartBox$Finding" (3 : Nat) ({ cls := "java/lang/Object", name := "<init>", desc := "()V" } : Jvm.MethodName)) ∈ mm_T := mm_in 128 (by decide +kernel) (by decide +kernel)
theorem w_129 : (Jvm.Cond.classLink "PartBox$Finding" (9 : Nat) "PartBox$Facts") ∈ mm_T := mm_in 129 (by decide +kernel) (by decide +kernel)
theorem w_130 : (Jvm.Cond.instantiable "PartBox$Facts" (7 : Nat)) ∈ mm_T := mm_in 130 (by decide +kernel) (by decide +kernel)
theorem w_132 : (Jvm.Cond.instanceMethod ({ cls := "PartBox$Facts", name := "<init>", desc := "()V" } : Jvm.MethodName)) ∈ mm_T := mm_in 132 (by decide +kernel) (by decide +kernel)
theorem w_133 : (Jvm.Cond.code ({ cls := "PartBox$Facts", name := "<init>", desc := "()V" } : Jvm.MethodName) prog_6_method_1_code (1 : Nat) (Option.none : Option Jvm.ClassFile.FieldType)) ∈ mm_T := mm_in 133 (by decide +kernel) (by decide +kernel)
theorem w_134 : (Jvm.Cond.methodLink "PartBox$Facts" (3 : Nat) ({ cls := "java/lang/Object", name := "<init>", desc := "()V" } : Jvm.MethodName)) ∈ mm_T := mm_in 134 (by decide +kernel) (by decide +kernel)
theorem w_135 : (Jvm.Cond.fieldLink "PartBox$Facts" (15 : Nat) "PartBox$Facts" "flags" "I") ∈ mm_T := mm_in 135 (by decide +kernel) (by decide +kernel)
theorem w_137 : (Jvm.Cond.fieldLink "PartBox$Facts" (21 : Nat) "PartBox$Facts" "method" "I") ∈ mm_T := mm_in 137 (by decide +kernel) (by decide +kernel)
theorem w_139 : (Jvm.Cond.fieldLink "PartBox$Facts" (24 : Nat) "PartBox$Facts" "check" "J") ∈ mm_T := mm_in 139 (by decide +kernel) (by decide +kernel)
theorem w_141 : (Jvm.Cond.fieldLink "PartBox$Facts" (28 : Nat) "PartBox$Facts" "byteCount" "J") ∈ mm_T := mm_in 141 (by decide +kernel) (by decide +kernel)
theorem w_143 : (Jvm.Cond.fieldLink "PartBox$Facts" (31 : Nat) "PartBox$Facts" "size" "J") ∈ mm_T := mm_in 143 (by decide +kernel) (by decide +kernel)
theorem w_146 : (Jvm.Cond.fieldLink "PartBox$Facts" (34 : Nat) "PartBox$Facts" "nameLength" "I") ∈ mm_T := mm_in 146 (by decide +kernel) (by decide +kernel)
theorem w_149 : (Jvm.Cond.fieldLink "PartBox$Facts" (37 : Nat) "PartBox$Facts" "extraLength" "I") ∈ mm_T := mm_in 149 (by decide +kernel) (by decide +kernel)
theorem w_151 : (Jvm.Cond.lays "PartBox$Facts" "PartBox$Facts" "flags" "I") ∈ mm_T := mm_in 151 (by decide +kernel) (by decide +kernel)
theorem w_153 : (Jvm.Cond.lays "PartBox$Facts" "PartBox$Facts" "method" "I") ∈ mm_T := mm_in 153 (by decide +kernel) (by decide +kernel)
theorem w_155 : (Jvm.Cond.lays "PartBox$Facts" "PartBox$Facts" "check" "J") ∈ mm_T := mm_in 155 (by decide +kernel) (by decide +kernel)
theorem w_157 : (Jvm.Cond.lays "PartBox$Facts" "PartBox$Facts" "byteCount" "J") ∈ mm_T := mm_in 157 (by decide +kernel) (by decide +kernel)
theorem w_159 : (Jvm.Cond.lays "PartBox$Facts" "PartBox$Facts" "size" "J") ∈ mm_T := mm_in 159 (by decide +kernel) (by decide +kernel)
theorem w_161 : (Jvm.Cond.lays "PartBox$Facts" "PartBox$Facts" "nameLength" "I") ∈ mm_T := mm_in 161 (by decide +kernel) (by decide +kernel)
theorem w_163 : (Jvm.Cond.lays "PartBox$Facts" "PartBox$Facts" "extraLength" "I") ∈ mm_T := mm_in 163 (by decide +kernel) (by decide +kernel)
theorem w_166 : (Jvm.Cond.fieldLink "PartBox$Finding" (12 : Nat) "PartBox$Finding" "facts" "LPartBox$Facts;") ∈ mm_T := mm_in 166 (by decide +kernel) (by decide +kernel)
theorem w_168 : (Jvm.Cond.fieldLink "PartBox$Finding" (32 : Nat) "PartBox$Finding" "nameStart" "I") ∈ mm_T := mm_in 168 (by decide +kernel) (by decide +kernel)
theorem w_170 : (Jvm.Cond.fieldLink "PartBox$Finding" (42 : Nat) "PartBox$Finding" "directoryHeadEnd" "I") ∈ mm_T := mm_in 170 (by decide +kernel) (by decide +kernel)
theorem w_172 : (Jvm.Cond.fieldLink "PartBox$Finding" (28 : Nat) "PartBox$Finding" "head" "J") ∈ mm_T := mm_in 172 (by decide +kernel) (by decide +kernel)
theorem w_176 : (Jvm.Cond.laysFinal "PartBox$Finding" "PartBox$Finding" "facts" "LPartBox$Facts;") ∈ mm_T := mm_in 176 (by decide +kernel) (by decide +kernel)
theorem w_178 : (Jvm.Cond.lays "PartBox$Finding" "PartBox$Finding" "nameStart" "I") ∈ mm_T := mm_in 178 (by decide +kernel) (by decide +kernel)
theorem w_180 : (Jvm.Cond.lays "PartBox$Finding" "PartBox$Finding" "directoryHeadEnd" "I") ∈ mm_T := mm_in 180 (by decide +kernel) (by decide +kernel)
theorem w_182 : (Jvm.Cond.lays "PartBox$Finding" "PartBox$Finding" "head" "J") ∈ mm_T := mm_in 182 (by decide +kernel) (by decide +kernel)
theorem w_184 : (Jvm.Cond.lays "PartBox$Finding" "PartBox$Finding" "firstByte" "I") ∈ mm_T := mm_in 184 (by decide +kernel) (by decide +kernel)
theorem w_186 : (Jvm.Cond.lays "PartBox$Finding" "PartBox$Finding" "end" "I") ∈ mm_T := mm_in 186 (by decide +kernel) (by decide +kernel)
theorem w_189 : (Jvm.Cond.classLink "PartBox$Reader" (26 : Nat) "PartBox$Facts") ∈ mm_T := mm_in 189 (by decide +kernel) (by decide +kernel)
theorem w_191 : (Jvm.Cond.fieldLink "PartBox$Reader" (9 : Nat) "PartBox$Reader" "row" "LPartBox$Bytes;") ∈ mm_T := mm_in 191 (by decide +kernel) (by decide +kernel)
theorem w_192 : (Jvm.Cond.fieldLink "PartBox$Reader" (15 : Nat) "PartBox$Reader" "checker" "LPartBox$Checker;") ∈ mm_T := mm_in 192 (by decide +kernel) (by decide +kernel)
theorem w_193 : (Jvm.Cond.fieldLink "PartBox$Reader" (21 : Nat) "PartBox$Reader" "findings" "[LPartBox$Finding;") ∈ mm_T := mm_in 193 (by decide +kernel) (by decide +kernel)
theorem w_194 : (Jvm.Cond.fieldLink "PartBox$Reader" (29 : Nat) "PartBox$Reader" "headFacts" "LPartBox$Facts;") ∈ mm_T := mm_in 194 (by decide +kernel) (by decide +kernel)
theorem w_195 : (Jvm.Cond.fieldLink "PartBox$Reader" (33 : Nat) "PartBox$Reader" "order" "[I") ∈ mm_T := mm_in 195 (by decide +kernel) (by decide +kernel)
theorem w_196 : (Jvm.Cond.fieldLink "PartBox$Reader" (37 : Nat) "PartBox$Reader" "fault" "I") ∈ mm_T := mm_in 196 (by decide +kernel) (by decide +kernel)
theorem w_198 : (Jvm.Cond.fieldLink "PartBox$Reader" (41 : Nat) "PartBox$Reader" "place" "I") ∈ mm_T := mm_in 198 (by decide +kernel) (by decide +kernel)
theorem w_200 : (Jvm.Cond.fieldLink "PartBox$Reader" (44 : Nat) "PartBox$Reader" "entry" "I") ∈ mm_T := mm_in 200 (by decide +kernel) (by decide +kernel)
theorem w_202 : (Jvm.Cond.fieldLink "PartBox$Reader" (124 : Nat) "PartBox$Reader" "endPlace" "I") ∈ mm_T := mm_in 202 (by decide +kernel) (by decide +kernel)
theorem w_203 : (Jvm.Cond.fieldLink "PartBox$Reader" (135 : Nat) "PartBox$Reader" "directoryPlace" "I") ∈ mm_T := mm_in 203 (by decide +kernel) (by decide +kernel)
theorem w_204 : (Jvm.Cond.fieldLink "PartBox$Reader" (73 : Nat) "PartBox$Reader" "found" "I") ∈ mm_T := mm_in 204 (by decide +kernel) (by decide +kernel)
theorem w_205 : (Jvm.Cond.fieldLink "PartBox$Reader" (143 : Nat) "PartBox$Reader" "allBytes" "J") ∈ mm_T := mm_in 205 (by decide +kernel) (by decide +kernel)
theorem w_206 : (Jvm.Cond.fieldLink "PartBox$Reader" (146 : Nat) "PartBox$Reader" "allSizes" "J") ∈ mm_T := mm_in 206 (by decide +kernel) (by decide +kernel)
theorem w_207 : (Jvm.Cond.laysFinal "PartBox$Reader" "PartBox$Reader" "row" "LPartBox$Bytes;") ∈ mm_T := mm_in 207 (by decide +kernel) (by decide +kernel)
theorem w_209 : (Jvm.Cond.laysFinal "PartBox$Reader" "PartBox$Reader" "checker" "LPartBox$Checker;") ∈ mm_T := mm_in 209 (by decide +kernel) (by decide +kernel)
theorem w_211 : (Jvm.Cond.laysFinal "PartBox$Reader" "PartBox$Reader" "findings" "[LPartBox$Finding;") ∈ mm_T := mm_in 211 (by decide +kernel) (by decide +kernel)
theorem w_213 : (Jvm.Cond.laysFinal "PartBox$Reader" "PartBox$Reader" "headFacts" "LPartBox$Facts;") ∈ mm_T := mm_in 213 (by decide +kernel) (by decide +kernel)
theorem w_215 : (Jvm.Cond.laysFinal "PartBox$Reader" "PartBox$Reader" "order" "[I") ∈ mm_T := mm_in 215 (by decide +kernel) (by decide +kernel)
theorem w_217 : (Jvm.Cond.lays "PartBox$Reader" "PartBox$Reader" "fault" "I") ∈ mm_T := mm_in 217 (by decide +kernel) (by decide +kernel)
theorem w_219 : (Jvm.Cond.lays "PartBox$Reader" "PartBox$Reader" "place" "I") ∈ mm_T := mm_in 219 (by decide +kernel) (by decide +kernel)
theorem w_221 : (Jvm.Cond.lays "PartBox$Reader" "PartBox$Reader" "entry" "I") ∈ mm_T := mm_in 221 (by decide +kernel) (by decide +kernel)
theorem w_223 : (Jvm.Cond.lays "PartBox$Reader" "PartBox$Reader" "endPlace" "I") ∈ mm_T := mm_in 223 (by decide +kernel) (by decide +kernel)
theorem w_225 : (Jvm.Cond.lays "PartBox$Reader" "PartBox$Reader" "directoryPlace" "I") ∈ mm_T := mm_in 225 (by decide +kernel) (by decide +kernel)
theorem w_227 : (Jvm.Cond.lays "PartBox$Reader" "PartBox$Reader" "found" "I") ∈ mm_T := mm_in 227 (by decide +kernel) (by decide +kernel)
theorem w_229 : (Jvm.Cond.lays "PartBox$Reader" "PartBox$Reader" "allBytes" "J") ∈ mm_T := mm_in 229 (by decide +kernel) (by decide +kernel)
theorem w_231 : (Jvm.Cond.lays "PartBox$Reader" "PartBox$Reader" "allSizes" "J") ∈ mm_T := mm_in 231 (by decide +kernel) (by decide +kernel)
theorem w_234 : (Jvm.Cond.fieldLink "PartBox" (15 : Nat) "PartBox" "row" "LPartBox$Bytes;") ∈ mm_T := mm_in 234 (by decide +kernel) (by decide +kernel)
theorem w_235 : (Jvm.Cond.fieldLink "PartBox" (19 : Nat) "PartBox" "typed" "LPartBox$Bytes;") ∈ mm_T := mm_in 235 (by decide +kernel) (by decide +kernel)
theorem w_236 : (Jvm.Cond.fieldLink "PartBox" (25 : Nat) "PartBox" "checker" "LPartBox$Checker;") ∈ mm_T := mm_in 236 (by decide +kernel) (by decide +kernel)
theorem w_237 : (Jvm.Cond.fieldLink "PartBox" (32 : Nat) "PartBox" "box" "LPartBox$Box;") ∈ mm_T := mm_in 237 (by decide +kernel) (by decide +kernel)
theorem w_238 : (Jvm.Cond.fieldLink "PartBox" (41 : Nat) "PartBox" "reader" "LPartBox$Reader;") ∈ mm_T := mm_in 238 (by decide +kernel) (by decide +kernel)
theorem w_239 : (Jvm.Cond.laysFinal "PartBox" "PartBox" "row" "LPartBox$Bytes;") ∈ mm_T := mm_in 239 (by decide +kernel) (by decide +kernel)
theorem w_241 : (Jvm.Cond.laysFinal "PartBox" "PartBox" "typed" "LPartBox$Bytes;") ∈ mm_T := mm_in 241 (by decide +kernel) (by decide +kernel)
theorem w_243 : (Jvm.Cond.laysFinal "PartBox" "PartBox" "checker" "LPartBox$Checker;") ∈ mm_T := mm_in 243 (by decide +kernel) (by decide +kernel)
theorem w_245 : (Jvm.Cond.laysFinal "PartBox" "PartBox" "box" "LPartBox$Box;") ∈ mm_T := mm_in 245 (by decide +kernel) (by decide +kernel)
theorem w_247 : (Jvm.Cond.laysFinal "PartBox" "PartBox" "reader" "LPartBox$Reader;") ∈ mm_T := mm_in 247 (by decide +kernel) (by decide +kernel)
theorem w_250 : (Jvm.Cond.methodLink "PartBoxLaw" (87 : Nat) ({ cls := "PartBox", name := "length", desc := "()I" } : Jvm.MethodName)) ∈ mm_T := mm_in 250 (by decide +kernel) (by decide +kernel)
theorem w_251 : (Jvm.Cond.instanceMethod ({ cls := "PartBox", name := "length", desc := "()I" } : Jvm.MethodName)) ∈ mm_T := mm_in 251 (by decide +kernel) (by decide +kernel)
theorem w_252 : (Jvm.Cond.selects "PartBox" ({ cls := "PartBox", name := "length", desc := "()I" } : Jvm.MethodName) ({ cls := "PartBox", name := "length", desc := "()I" } : Jvm.MethodName)) ∈ mm_T := mm_in 252 (by decide +kernel) (by decide +kernel)
theorem w_253 : (Jvm.Cond.code ({ cls := "PartBox", name := "length", desc := "()I" } : Jvm.MethodName) prog_1_method_5_code (1 : Nat) (Option.some Jvm.ClassFile.FieldType.int)) ∈ mm_T := mm_in 253 (by decide +kernel) (by decide +kernel)
theorem w_254 : (Jvm.Cond.methodLink "PartBox" (59 : Nat) ({ cls := "PartBox$Bytes", name := "size", desc := "()I" } : Jvm.MethodName)) ∈ mm_T := mm_in 254 (by decide +kernel) (by decide +kernel)
theorem w_255 : (Jvm.Cond.instanceMethod ({ cls := "PartBox$Bytes", name := "size", desc := "()I" } : Jvm.MethodName)) ∈ mm_T := mm_in 255 (by decide +kernel) (by decide +kernel)
theorem w_256 : (Jvm.Cond.selects "PartBox$Bytes" ({ cls := "PartBox$Bytes", name := "size", desc := "()I" } : Jvm.MethodName) ({ cls := "PartBox$Bytes", name := "size", desc := "()I" } : Jvm.MethodName)) ∈ mm_T := mm_in 256 (by decide +kernel) (by decide +kernel)
theorem w_257 : (Jvm.Cond.code ({ cls := "PartBox$Bytes", name := "size", desc := "()I" } : Jvm.MethodName) prog_3_method_2_code (1 : Nat) (Option.some Jvm.ClassFile.FieldType.int)) ∈ mm_T := mm_in 257 (by decide +kernel) (by decide +kernel)
theorem w_258 : (Jvm.Cond.methodLink "PartBoxLaw" (98 : Nat) ({ cls := "PartBox", name := "erase", desc := "()V" } : Jvm.MethodName)) ∈ mm_T := mm_in 258 (by decide +kernel) (by decide +kernel)
theorem w_259 : (Jvm.Cond.instanceMethod ({ cls := "PartBox", name := "erase", desc := "()V" } : Jvm.MethodName)) ∈ mm_T := mm_in 259 (by decide +kernel) (by decide +kernel)
theorem w_260 : (Jvm.Cond.selects "PartBox" ({ cls := "PartBox", name := "erase", desc := "()V" } : Jvm.MethodName) ({ cls := "PartBox", name := "erase", desc := "()V" } : Jvm.MethodName)) ∈ mm_T := mm_in 260 (by decide +kernel) (by decide +kernel)
theorem w_261 : (Jvm.Cond.code ({ cls := "PartBox", name := "erase", desc := "()V" } : Jvm.MethodName) prog_1_method_8_code (1 : Nat) (Option.none : Option Jvm.ClassFile.FieldType)) ∈ mm_T := mm_in 261 (by decide +kernel) (by decide +kernel)
theorem w_262 : (Jvm.Cond.methodLink "PartBox" (67 : Nat) ({ cls := "PartBox$Bytes", name := "keep", desc := "(I)V" } : Jvm.MethodName)) ∈ mm_T := mm_in 262 (by decide +kernel) (by decide +kernel)
theorem w_263 : (Jvm.Cond.instanceMethod ({ cls := "PartBox$Bytes", name := "keep", desc := "(I)V" } : Jvm.MethodName)) ∈ mm_T := mm_in 263 (by decide +kernel) (by decide +kernel)
theorem w_264 : (Jvm.Cond.selects "PartBox$Bytes" ({ cls := "PartBox$Bytes", name := "keep", desc := "(I)V" } : Jvm.MethodName) ({ cls := "PartBox$Bytes", name := "keep", desc := "(I)V" } : Jvm.MethodName)) ∈ mm_T := mm_in 264 (by decide +kernel) (by decide +kernel)
theorem w_265 : (Jvm.Cond.code ({ cls := "PartBox$Bytes", name := "keep", desc := "(I)V" } : Jvm.MethodName) prog_3_method_6_code (2 : Nat) (Option.none : Option Jvm.ClassFile.FieldType)) ∈ mm_T := mm_in 265 (by decide +kernel) (by decide +kernel)
theorem w_266 : (Jvm.Cond.methodLink "PartBoxLaw" (116 : Nat) ({ cls := "PartBox", name := "find", desc := "()I" } : Jvm.MethodName)) ∈ mm_T := mm_in 266 (by decide +kernel) (by decide +kernel)
theorem w_267 : (Jvm.Cond.instanceMethod ({ cls := "PartBox", name := "find", desc := "()I" } : Jvm.MethodName)) ∈ mm_T := mm_in 267 (by decide +kernel) (by decide +kernel)
theorem w_268 : (Jvm.Cond.selects "PartBox" ({ cls := "PartBox", name := "find", desc := "()I" } : Jvm.MethodName) ({ cls := "PartBox", name := "find", desc := "()I" } : Jvm.MethodName)) ∈ mm_T := mm_in 268 (by decide +kernel) (by decide +kernel)
theorem w_269 : (Jvm.Cond.code ({ cls := "PartBox", name := "find", desc := "()I" } : Jvm.MethodName) prog_1_method_13_code (1 : Nat) (Option.some Jvm.ClassFile.FieldType.int)) ∈ mm_T := mm_in 269 (by decide +kernel) (by decide +kernel)
theorem w_270 : (Jvm.Cond.methodLink "PartBox" (120 : Nat) ({ cls := "PartBox$Box", name := "numberOf", desc := "(LPartBox$Bytes;)I" } : Jvm.MethodName)) ∈ mm_T := mm_in 270 (by decide +kernel) (by decide +kernel)
theorem w_271 : (Jvm.Cond.instanceMethod ({ cls := "PartBox$Box", name := "numberOf", desc := "(LPartBox$Bytes;)I" } : Jvm.MethodName)) ∈ mm_T := mm_in 271 (by decide +kernel) (by decide +kernel)
theorem w_272 : (Jvm.Cond.selects "PartBox$Box" ({ cls := "PartBox$Box", name := "numberOf", desc := "(LPartBox$Bytes;)I" } : Jvm.MethodName) ({ cls := "PartBox$Box", name := "numberOf", desc := "(LPartBox$Bytes;)I" } : Jvm.MethodName)) ∈ mm_T := mm_in 272 (by decide +kernel) (by decide +kernel)
theorem w_273 : (Jvm.Cond.code ({ cls := "PartBox$Box", name := "numberOf", desc := "(LPartBox$Bytes;)I" } : Jvm.MethodName) prog_2_method_5_code (4 : Nat) (Option.some Jvm.ClassFile.FieldType.int)) ∈ mm_T := mm_in 273 (by decide +kernel) (by decide +kernel)
theorem w_274 : (Jvm.Cond.methodLink "PartBox$Box" (39 : Nat) ({ cls := "PartBox$Bytes", name := "size", desc := "()I" } : Jvm.MethodName)) ∈ mm_T := mm_in 274 (by decide +kernel) (by decide +kernel)
theorem w_275 : (Jvm.Cond.methodLink "PartBox$Box" (43 : Nat) ({ cls := "PartBox$Names", name := "areAlike", desc := "(LPartBox$Bytes;ILPartBox$Bytes;II)Z" } : Jvm.MethodName)) ∈ mm_T := mm_in 275 (by decide +kernel) (by decide +kernel)
theorem w_276 : (Jvm.Cond.static ({ cls := "PartBox$Names", name := "areAlike", desc := "(LPartBox$Bytes;ILPartBox$Bytes;II)Z" } : Jvm.MethodName)) ∈ mm_T := mm_in 276 (by decide +kernel) (by decide +kernel)
theorem w_277 : (Jvm.Cond.code ({ cls := "PartBox$Names", name := "areAlike", desc := "(LPartBox$Bytes;ILPartBox$Bytes;II)Z" } : Jvm.MethodName) prog_8_method_4_code (6 : Nat) (Option.some Jvm.ClassFile.FieldType.boolean)) ∈ mm_T := mm_in 277 (by decide +kernel) (by decide +kernel)
theorem w_278 : (Jvm.Cond.methodLink "PartBox$Names" (9 : Nat) ({ cls := "PartBox$Bytes", name := "get", desc := "(I)I" } : Jvm.MethodName)) ∈ mm_T := mm_in 278 (by decide +kernel) (by decide +kernel)
theorem w_279 : (Jvm.Cond.instanceMethod ({ cls := "PartBox$Bytes", name := "get", desc := "(I)I" } : Jvm.MethodName)) ∈ mm_T := mm_in 279 (by decide +kernel) (by decide +kernel)
theorem w_280 : (Jvm.Cond.selects "PartBox$Bytes" ({ cls := "PartBox$Bytes", name := "get", desc := "(I)I" } : Jvm.MethodName) ({ cls := "PartBox$Bytes", name := "get", desc := "(I)I" } : Jvm.MethodName)) ∈ mm_T := mm_in 280 (by decide +kernel) (by decide +kernel)
theorem w_281 : (Jvm.Cond.code ({ cls := "PartBox$Bytes", name := "get", desc := "(I)I" } : Jvm.MethodName) prog_3_method_4_code (2 : Nat) (Option.some Jvm.ClassFile.FieldType.int)) ∈ mm_T := mm_in 281 (by decide +kernel) (by decide +kernel)
theorem w_282 : (Jvm.Cond.methodLink "PartBox$Names" (21 : Nat) ({ cls := "PartBox$Names", name := "small", desc := "(I)I" } : Jvm.MethodName)) ∈ mm_T := mm_in 282 (by decide +kernel) (by decide +kernel)
theorem w_283 : (Jvm.Cond.static ({ cls := "PartBox$Names", name := "small", desc := "(I)I" } : Jvm.MethodName)) ∈ mm_T := mm_in 283 (by decide +kernel) (by decide +kernel)
theorem w_284 : (Jvm.Cond.code ({ cls := "PartBox$Names", name := "small", desc := "(I)I" } : Jvm.MethodName) prog_8_method_5_code (1 : Nat) (Option.some Jvm.ClassFile.FieldType.int)) ∈ mm_T := mm_in 284 (by decide +kernel) (by decide +kernel)
theorem w_285 : (Jvm.Cond.methodLink "PartBoxLaw" (138 : Nat) ({ cls := "PartBox", name := "count", desc := "()I" } : Jvm.MethodName)) ∈ mm_T := mm_in 285 (by decide +kernel) (by decide +kernel)
theorem w_286 : (Jvm.Cond.instanceMethod ({ cls := "PartBox", name := "count", desc := "()I" } : Jvm.MethodName)) ∈ mm_T := mm_in 286 (by decide +kernel) (by decide +kernel)
theorem w_287 : (Jvm.Cond.selects "PartBox" ({ cls := "PartBox", name := "count", desc := "()I" } : Jvm.MethodName) ({ cls := "PartBox", name := "count", desc := "()I" } : Jvm.MethodName)) ∈ mm_T := mm_in 287 (by decide +kernel) (by decide +kernel)
theorem w_288 : (Jvm.Cond.code ({ cls := "PartBox", name := "count", desc := "()I" } : Jvm.MethodName) prog_1_method_20_code (1 : Nat) (Option.some Jvm.ClassFile.FieldType.int)) ∈ mm_T := mm_in 288 (by decide +kernel) (by decide +kernel)
theorem w_289 : (Jvm.Cond.methodLink "PartBox" (182 : Nat) ({ cls := "PartBox$Box", name := "size", desc := "()I" } : Jvm.MethodName)) ∈ mm_T := mm_in 289 (by decide +kernel) (by decide +kernel)
theorem w_290 : (Jvm.Cond.instanceMethod ({ cls := "PartBox$Box", name := "size", desc := "()I" } : Jvm.MethodName)) ∈ mm_T := mm_in 290 (by decide +kernel) (by decide +kernel)
theorem w_291 : (Jvm.Cond.selects "PartBox$Box" ({ cls := "PartBox$Box", name := "size", desc := "()I" } : Jvm.MethodName) ({ cls := "PartBox$Box", name := "size", desc := "()I" } : Jvm.MethodName)) ∈ mm_T := mm_in 291 (by decide +kernel) (by decide +kernel)
theorem w_292 : (Jvm.Cond.code ({ cls := "PartBox$Box", name := "size", desc := "()I" } : Jvm.MethodName) prog_2_method_2_code (1 : Nat) (Option.some Jvm.ClassFile.FieldType.int)) ∈ mm_T := mm_in 292 (by decide +kernel) (by decide +kernel)
theorem w_293 : (Jvm.Cond.methodLink "PartBoxLaw" (70 : Nat) ({ cls := "PartBoxLaw", name := "feed", desc := "(LPartBox;IIIII)I" } : Jvm.MethodName)) ∈ mm_T := mm_in 293 (by decide +kernel) (by decide +kernel)
theorem w_294 : (Jvm.Cond.static ({ cls := "PartBoxLaw", name := "feed", desc := "(LPartBox;IIIII)I" } : Jvm.MethodName)) ∈ mm_T := mm_in 294 (by decide +kernel) (by decide +kernel)
theorem w_295 : (Jvm.Cond.codeWith ({ cls := "PartBoxLaw", name := "feed", desc := "(LPartBox;IIIII)I" } : Jvm.MethodName) method_3_code (7 : Nat) (Option.some Jvm.ClassFile.FieldType.int) [((0 : Nat), (11 : Nat), (14 : Nat), (13 : Nat))]) ∈ mm_T := mm_in 295 (by decide +kernel) (by decide +kernel)
theorem w_297 : (Jvm.Cond.methodLink "PartBoxLaw" (7 : Nat) ({ cls := "PartBox", name := "feed", desc := "(IIIII)V" } : Jvm.MethodName)) ∈ mm_T := mm_in 297 (by decide +kernel) (by decide +kernel)
theorem w_298 : (Jvm.Cond.instanceMethod ({ cls := "PartBox", name := "feed", desc := "(IIIII)V" } : Jvm.MethodName)) ∈ mm_T := mm_in 298 (by decide +kernel) (by decide +kernel)
theorem w_299 : (Jvm.Cond.selects "PartBox" ({ cls := "PartBox", name := "feed", desc := "(IIIII)V" } : Jvm.MethodName) ({ cls := "PartBox", name := "feed", desc := "(IIIII)V" } : Jvm.MethodName)) ∈ mm_T := mm_in 299 (by decide +kernel) (by decide +kernel)
theorem w_300 : (Jvm.Cond.code ({ cls := "PartBox", name := "feed", desc := "(IIIII)V" } : Jvm.MethodName) prog_1_method_2_code (6 : Nat) (Option.none : Option Jvm.ClassFile.FieldType)) ∈ mm_T := mm_in 300 (by decide +kernel) (by decide +kernel)
theorem w_301 : (Jvm.Cond.methodLink "PartBox" (45 : Nat) ({ cls := "PartBox$Bytes", name := "free", desc := "()I" } : Jvm.MethodName)) ∈ mm_T := mm_in 301 (by decide +kernel) (by decide +kernel)
theorem w_302 : (Jvm.Cond.instanceMethod ({ cls := "PartBox$Bytes", name := "free", desc := "()I" } : Jvm.MethodName)) ∈ mm_T := mm_in 302 (by decide +kernel) (by decide +kernel)
theorem w_303 : (Jvm.Cond.selects "PartBox$Bytes" ({ cls := "PartBox$Bytes", name := "free", desc := "()I" } : Jvm.MethodName) ({ cls := "PartBox$Bytes", name := "free", desc := "()I" } : Jvm.MethodName)) ∈ mm_T := mm_in 303 (by decide +kernel) (by decide +kernel)
theorem w_304 : (Jvm.Cond.code ({ cls := "PartBox$Bytes", name := "free", desc := "()I" } : Jvm.MethodName) prog_3_method_3_code (1 : Nat) (Option.some Jvm.ClassFile.FieldType.int)) ∈ mm_T := mm_in 304 (by decide +kernel) (by decide +kernel)
theorem w_305 : (Jvm.Cond.classLink "PartBox" (49 : Nat) "java/lang/IllegalStateException") ∈ mm_T := mm_in 305 (by decide +kernel) (by decide +kernel)
theorem w_372 : (Jvm.Cond.methodLink "PartBox" (56 : Nat) ({ cls := "PartBox$Bytes", name := "pushWord", desc := "(I)V" } : Jvm.MethodName)) ∈ mm_T := mm_in 372 (by decide +kernel) (by decide +kernel)
theorem w_373 : (Jvm.Cond.instanceMethod ({ cls := "PartBox$Bytes", name := "pushWord", desc := "(I)V" } : Jvm.MethodName)) ∈ mm_T := mm_in 373 (by decide +kernel) (by decide +kernel)
theorem w_374 : (Jvm.Cond.selects "PartBox$Bytes" ({ cls := "PartBox$Bytes", name := "pushWord", desc := "(I)V" } : Jvm.MethodName) ({ cls := "PartBox$Bytes", name := "pushWord", desc := "(I)V" } : Jvm.MethodName)) ∈ mm_T := mm_in 374 (by decide +kernel) (by decide +kernel)
theorem w_375 : (Jvm.Cond.code ({ cls := "PartBox$Bytes", name := "pushWord", desc := "(I)V" } : Jvm.MethodName) prog_3_method_8_code (3 : Nat) (Option.none : Option Jvm.ClassFile.FieldType)) ∈ mm_T := mm_in 375 (by decide +kernel) (by decide +kernel)
theorem w_376 : (Jvm.Cond.methodLink "PartBox$Bytes" (25 : Nat) ({ cls := "PartBox$Bytes", name := "push", desc := "(I)V" } : Jvm.MethodName)) ∈ mm_T := mm_in 376 (by decide +kernel) (by decide +kernel)
theorem w_377 : (Jvm.Cond.instanceMethod ({ cls := "PartBox$Bytes", name := "push", desc := "(I)V" } : Jvm.MethodName)) ∈ mm_T := mm_in 377 (by decide +kernel) (by decide +kernel)
theorem w_378 : (Jvm.Cond.selects "PartBox$Bytes" ({ cls := "PartBox$Bytes", name := "push", desc := "(I)V" } : Jvm.MethodName) ({ cls := "PartBox$Bytes", name := "push", desc := "(I)V" } : Jvm.MethodName)) ∈ mm_T := mm_in 378 (by decide +kernel) (by decide +kernel)
theorem w_379 : (Jvm.Cond.code ({ cls := "PartBox$Bytes", name := "push", desc := "(I)V" } : Jvm.MethodName) prog_3_method_7_code (2 : Nat) (Option.none : Option Jvm.ClassFile.FieldType)) ∈ mm_T := mm_in 379 (by decide +kernel) (by decide +kernel)
theorem w_380 : (Jvm.Cond.methodLink "PartBoxLaw" (79 : Nat) ({ cls := "PartBoxLaw", name := "end", desc := "(LPartBox;I)I" } : Jvm.MethodName)) ∈ mm_T := mm_in 380 (by decide +kernel) (by decide +kernel)
theorem w_381 : (Jvm.Cond.static ({ cls := "PartBoxLaw", name := "end", desc := "(LPartBox;I)I" } : Jvm.MethodName)) ∈ mm_T := mm_in 381 (by decide +kernel) (by decide +kernel)
theorem w_382 : (Jvm.Cond.codeWith ({ cls := "PartBoxLaw", name := "end", desc := "(LPartBox;I)I" } : Jvm.MethodName) method_4_code (3 : Nat) (Option.some Jvm.ClassFile.FieldType.int) [((0 : Nat), (5 : Nat), (8 : Nat), (19 : Nat))]) ∈ mm_T := mm_in 382 (by decide +kernel) (by decide +kernel)
theorem w_384 : (Jvm.Cond.methodLink "PartBoxLaw" (15 : Nat) ({ cls := "PartBox", name := "end", desc := "(I)V" } : Jvm.MethodName)) ∈ mm_T := mm_in 384 (by decide +kernel) (by decide +kernel)
theorem w_385 : (Jvm.Cond.instanceMethod ({ cls := "PartBox", name := "end", desc := "(I)V" } : Jvm.MethodName)) ∈ mm_T := mm_in 385 (by decide +kernel) (by decide +kernel)
theorem w_386 : (Jvm.Cond.selects "PartBox" ({ cls := "PartBox", name := "end", desc := "(I)V" } : Jvm.MethodName) ({ cls := "PartBox", name := "end", desc := "(I)V" } : Jvm.MethodName)) ∈ mm_T := mm_in 386 (by decide +kernel) (by decide +kernel)
theorem w_387 : (Jvm.Cond.code ({ cls := "PartBox", name := "end", desc := "(I)V" } : Jvm.MethodName) prog_1_method_3_code (2 : Nat) (Option.none : Option Jvm.ClassFile.FieldType)) ∈ mm_T := mm_in 387 (by decide +kernel) (by decide +kernel)
theorem w_388 : (Jvm.Cond.classLink "PartBox" (62 : Nat) "java/lang/IllegalArgumentException") ∈ mm_T := mm_in 388 (by decide +kernel) (by decide +kernel)
theorem w_404 : (Jvm.Cond.methodLink "PartBoxLaw" (83 : Nat) ({ cls := "PartBoxLaw", name := "alter", desc := "(LPartBox;II)I" } : Jvm.MethodName)) ∈ mm_T := mm_in 404 (by decide +kernel) (by decide +kernel)
theorem w_405 : (Jvm.Cond.static ({ cls := "PartBoxLaw", name := "alter", desc := "(LPartBox;II)I" } : Jvm.MethodName)) ∈ mm_T := mm_in 405 (by decide +kernel) (by decide +kernel)
theorem w_406 : (Jvm.Cond.codeWith ({ cls := "PartBoxLaw", name := "alter", desc := "(LPartBox;II)I" } : Jvm.MethodName) method_5_code (4 : Nat) (Option.some Jvm.ClassFile.FieldType.int) [((0 : Nat), (6 : Nat), (9 : Nat), (25 : Nat)), ((0 : Nat), (6 : Nat), (12 : Nat), (19 : Nat))]) ∈ mm_T := mm_in 406 (by decide +kernel) (by decide +kernel)
theorem w_408 : (Jvm.Cond.methodLink "PartBoxLaw" (21 : Nat) ({ cls := "PartBox", name := "alter", desc := "(II)V" } : Jvm.MethodName)) ∈ mm_T := mm_in 408 (by decide +kernel) (by decide +kernel)
theorem w_409 : (Jvm.Cond.instanceMethod ({ cls := "PartBox", name := "alter", desc := "(II)V" } : Jvm.MethodName)) ∈ mm_T := mm_in 409 (by decide +kernel) (by decide +kernel)
theorem w_410 : (Jvm.Cond.selects "PartBox" ({ cls := "PartBox", name := "alter", desc := "(II)V" } : Jvm.MethodName) ({ cls := "PartBox", name := "alter", desc := "(II)V" } : Jvm.MethodName)) ∈ mm_T := mm_in 410 (by decide +kernel) (by decide +kernel)
theorem w_411 : (Jvm.Cond.code ({ cls := "PartBox", name := "alter", desc := "(II)V" } : Jvm.MethodName) prog_1_method_4_code (3 : Nat) (Option.none : Option Jvm.ClassFile.FieldType)) ∈ mm_T := mm_in 411 (by decide +kernel) (by decide +kernel)
theorem w_412 : (Jvm.Cond.classLink "PartBox" (70 : Nat) "java/lang/IndexOutOfBoundsException") ∈ mm_T := mm_in 412 (by decide +kernel) (by decide +kernel)
theorem w_429 : (Jvm.Cond.methodLink "PartBox" (77 : Nat) ({ cls := "PartBox$Bytes", name := "set", desc := "(II)V" } : Jvm.MethodName)) ∈ mm_T := mm_in 429 (by decide +kernel) (by decide +kernel)
theorem w_430 : (Jvm.Cond.instanceMethod ({ cls := "PartBox$Bytes", name := "set", desc := "(II)V" } : Jvm.MethodName)) ∈ mm_T := mm_in 430 (by decide +kernel) (by decide +kernel)
theorem w_431 : (Jvm.Cond.selects "PartBox$Bytes" ({ cls := "PartBox$Bytes", name := "set", desc := "(II)V" } : Jvm.MethodName) ({ cls := "PartBox$Bytes", name := "set", desc := "(II)V" } : Jvm.MethodName)) ∈ mm_T := mm_in 431 (by decide +kernel) (by decide +kernel)
theorem w_432 : (Jvm.Cond.code ({ cls := "PartBox$Bytes", name := "set", desc := "(II)V" } : Jvm.MethodName) prog_3_method_5_code (3 : Nat) (Option.none : Option Jvm.ClassFile.FieldType)) ∈ mm_T := mm_in 432 (by decide +kernel) (by decide +kernel)
theorem w_433 : (Jvm.Cond.methodLink "PartBoxLaw" (91 : Nat) ({ cls := "PartBoxLaw", name := "byteAt", desc := "(LPartBox;I[J)I" } : Jvm.MethodName)) ∈ mm_T := mm_in 433 (by decide +kernel) (by decide +kernel)
theorem w_434 : (Jvm.Cond.static ({ cls := "PartBoxLaw", name := "byteAt", desc := "(LPartBox;I[J)I" } : Jvm.MethodName)) ∈ mm_T := mm_in 434 (by decide +kernel) (by decide +kernel)
theorem w_435 : (Jvm.Cond.codeWith ({ cls := "PartBoxLaw", name := "byteAt", desc := "(LPartBox;I[J)I" } : Jvm.MethodName) method_6_code (4 : Nat) (Option.some Jvm.ClassFile.FieldType.int) [((0 : Nat), (9 : Nat), (12 : Nat), (25 : Nat))]) ∈ mm_T := mm_in 435 (by decide +kernel) (by decide +kernel)
theorem w_436 : (Jvm.Cond.methodLink "PartBoxLaw" (27 : Nat) ({ cls := "PartBox", name := "byteAt", desc := "(I)I" } : Jvm.MethodName)) ∈ mm_T := mm_in 436 (by decide +kernel) (by decide +kernel)
theorem w_437 : (Jvm.Cond.instanceMethod ({ cls := "PartBox", name := "byteAt", desc := "(I)I" } : Jvm.MethodName)) ∈ mm_T := mm_in 437 (by decide +kernel) (by decide +kernel)
theorem w_438 : (Jvm.Cond.selects "PartBox" ({ cls := "PartBox", name := "byteAt", desc := "(I)I" } : Jvm.MethodName) ({ cls := "PartBox", name := "byteAt", desc := "(I)I" } : Jvm.MethodName)) ∈ mm_T := mm_in 438 (by decide +kernel) (by decide +kernel)
theorem w_439 : (Jvm.Cond.code ({ cls := "PartBox", name := "byteAt", desc := "(I)I" } : Jvm.MethodName) prog_1_method_6_code (3 : Nat) (Option.some Jvm.ClassFile.FieldType.int)) ∈ mm_T := mm_in 439 (by decide +kernel) (by decide +kernel)
theorem w_440 : (Jvm.Cond.methodLink "PartBox" (81 : Nat) ({ cls := "PartBox$Bytes", name := "get", desc := "(I)I" } : Jvm.MethodName)) ∈ mm_T := mm_in 440 (by decide +kernel) (by decide +kernel)
theorem w_441 : (Jvm.Cond.methodLink "PartBoxLaw" (95 : Nat) ({ cls := "PartBoxLaw", name := "type", desc := "(LPartBox;I[J)I" } : Jvm.MethodName)) ∈ mm_T := mm_in 441 (by decide +kernel) (by decide +kernel)
theorem w_442 : (Jvm.Cond.static ({ cls := "PartBoxLaw", name := "type", desc := "(LPartBox;I[J)I" } : Jvm.MethodName)) ∈ mm_T := mm_in 442 (by decide +kernel) (by decide +kernel)
theorem w_443 : (Jvm.Cond.codeWith ({ cls := "PartBoxLaw", name := "type", desc := "(LPartBox;I[J)I" } : Jvm.MethodName) method_7_code (4 : Nat) (Option.some Jvm.ClassFile.FieldType.int) [((0 : Nat), (9 : Nat), (12 : Nat), (19 : Nat)), ((0 : Nat), (9 : Nat), (15 : Nat), (13 : Nat))]) ∈ mm_T := mm_in 443 (by decide +kernel) (by decide +kernel)
theorem w_444 : (Jvm.Cond.methodLink "PartBoxLaw" (31 : Nat) ({ cls := "PartBox", name := "type", desc := "(I)I" } : Jvm.MethodName)) ∈ mm_T := mm_in 444 (by decide +kernel) (by decide +kernel)
theorem w_445 : (Jvm.Cond.instanceMethod ({ cls := "PartBox", name := "type", desc := "(I)I" } : Jvm.MethodName)) ∈ mm_T := mm_in 445 (by decide +kernel) (by decide +kernel)
theorem w_446 : (Jvm.Cond.selects "PartBox" ({ cls := "PartBox", name := "type", desc := "(I)I" } : Jvm.MethodName) ({ cls := "PartBox", name := "type", desc := "(I)I" } : Jvm.MethodName)) ∈ mm_T := mm_in 446 (by decide +kernel) (by decide +kernel)
theorem w_447 : (Jvm.Cond.code ({ cls := "PartBox", name := "type", desc := "(I)I" } : Jvm.MethodName) prog_1_method_7_code (5 : Nat) (Option.some Jvm.ClassFile.FieldType.int)) ∈ mm_T := mm_in 447 (by decide +kernel) (by decide +kernel)
theorem w_450 : (Jvm.Cond.methodLink "PartBox" (89 : Nat) ({ cls := "PartBox$Bytes", name := "push", desc := "(I)V" } : Jvm.MethodName)) ∈ mm_T := mm_in 450 (by decide +kernel) (by decide +kernel)
theorem w_451 : (Jvm.Cond.methodLink "PartBoxLaw" (102 : Nat) ({ cls := "PartBoxLaw", name := "add", desc := "(LPartBox;[J)I" } : Jvm.MethodName)) ∈ mm_T := mm_in 451 (by decide +kernel) (by decide +kernel)
theorem w_452 : (Jvm.Cond.static ({ cls := "PartBoxLaw", name := "add", desc := "(LPartBox;[J)I" } : Jvm.MethodName)) ∈ mm_T := mm_in 452 (by decide +kernel) (by decide +kernel)
theorem w_453 : (Jvm.Cond.codeWith ({ cls := "PartBoxLaw", name := "add", desc := "(LPartBox;[J)I" } : Jvm.MethodName) method_8_code (3 : Nat) (Option.some Jvm.ClassFile.FieldType.int) [((0 : Nat), (8 : Nat), (11 : Nat), (19 : Nat)), ((0 : Nat), (8 : Nat), (14 : Nat), (13 : Nat))]) ∈ mm_T := mm_in 453 (by decide +kernel) (by decide +kernel)
theorem w_454 : (Jvm.Cond.methodLink "PartBoxLaw" (34 : Nat) ({ cls := "PartBox", name := "add", desc := "()I" } : Jvm.MethodName)) ∈ mm_T := mm_in 454 (by decide +kernel) (by decide +kernel)
theorem w_455 : (Jvm.Cond.instanceMethod ({ cls := "PartBox", name := "add", desc := "()I" } : Jvm.MethodName)) ∈ mm_T := mm_in 455 (by decide +kernel) (by decide +kernel)
theorem w_456 : (Jvm.Cond.selects "PartBox" ({ cls := "PartBox", name := "add", desc := "()I" } : Jvm.MethodName) ({ cls := "PartBox", name := "add", desc := "()I" } : Jvm.MethodName)) ∈ mm_T := mm_in 456 (by decide +kernel) (by decide +kernel)
theorem w_457 : (Jvm.Cond.code ({ cls := "PartBox", name := "add", desc := "()I" } : Jvm.MethodName) prog_1_method_9_code (1 : Nat) (Option.some Jvm.ClassFile.FieldType.int)) ∈ mm_T := mm_in 457 (by decide +kernel) (by decide +kernel)
theorem w_458 : (Jvm.Cond.methodLink "PartBox" (92 : Nat) ({ cls := "PartBox", name := "isTypedNameNew", desc := "()Z" } : Jvm.MethodName)) ∈ mm_T := mm_in 458 (by decide +kernel) (by decide +kernel)
theorem w_460 : (Jvm.Cond.instanceMethod ({ cls := "PartBox", name := "isTypedNameNew", desc := "()Z" } : Jvm.MethodName)) ∈ mm_T := mm_in 460 (by decide +kernel) (by decide +kernel)
theorem w_461 : (Jvm.Cond.code ({ cls := "PartBox", name := "isTypedNameNew", desc := "()Z" } : Jvm.MethodName) prog_1_method_21_code (1 : Nat) (Option.some Jvm.ClassFile.FieldType.boolean)) ∈ mm_T := mm_in 461 (by decide +kernel) (by decide +kernel)
theorem w_462 : (Jvm.Cond.methodLink "PartBox" (183 : Nat) ({ cls := "PartBox$Names", name := "isName", desc := "(LPartBox$Bytes;II)Z" } : Jvm.MethodName)) ∈ mm_T := mm_in 462 (by decide +kernel) (by decide +kernel)
theorem w_463 : (Jvm.Cond.static ({ cls := "PartBox$Names", name := "isName", desc := "(LPartBox$Bytes;II)Z" } : Jvm.MethodName)) ∈ mm_T := mm_in 463 (by decide +kernel) (by decide +kernel)
theorem w_464 : (Jvm.Cond.code ({ cls := "PartBox$Names", name := "isName", desc := "(LPartBox$Bytes;II)Z" } : Jvm.MethodName) prog_8_method_2_code (6 : Nat) (Option.some Jvm.ClassFile.FieldType.boolean)) ∈ mm_T := mm_in 464 (by decide +kernel) (by decide +kernel)
theorem w_465 : (Jvm.Cond.methodLink "PartBox$Names" (15 : Nat) ({ cls := "PartBox$Names", name := "isPiece", desc := "(LPartBox$Bytes;II)Z" } : Jvm.MethodName)) ∈ mm_T := mm_in 465 (by decide +kernel) (by decide +kernel)
theorem w_466 : (Jvm.Cond.static ({ cls := "PartBox$Names", name := "isPiece", desc := "(LPartBox$Bytes;II)Z" } : Jvm.MethodName)) ∈ mm_T := mm_in 466 (by decide +kernel) (by decide +kernel)
theorem w_467 : (Jvm.Cond.code ({ cls := "PartBox$Names", name := "isPiece", desc := "(LPartBox$Bytes;II)Z" } : Jvm.MethodName) prog_8_method_3_code (4 : Nat) (Option.some Jvm.ClassFile.FieldType.boolean)) ∈ mm_T := mm_in 467 (by decide +kernel) (by decide +kernel)
theorem w_469 : (Jvm.Cond.methodLink "PartBox" (98 : Nat) ({ cls := "PartBox$Checker", name := "checkOf", desc := "(LPartBox$Bytes;II)I" } : Jvm.MethodName)) ∈ mm_T := mm_in 469 (by decide +kernel) (by decide +kernel)
theorem w_470 : (Jvm.Cond.instanceMethod ({ cls := "PartBox$Checker", name := "checkOf", desc := "(LPartBox$Bytes;II)I" } : Jvm.MethodName)) ∈ mm_T := mm_in 470 (by decide +kernel) (by decide +kernel)
theorem w_471 : (Jvm.Cond.selects "PartBox$Checker" ({ cls := "PartBox$Checker", name := "checkOf", desc := "(LPartBox$Bytes;II)I" } : Jvm.MethodName) ({ cls := "PartBox$Checker", name := "checkOf", desc := "(LPartBox$Bytes;II)I" } : Jvm.MethodName)) ∈ mm_T := mm_in 471 (by decide +kernel) (by decide +kernel)
theorem w_472 : (Jvm.Cond.code ({ cls := "PartBox$Checker", name := "checkOf", desc := "(LPartBox$Bytes;II)I" } : Jvm.MethodName) prog_4_method_2_code (6 : Nat) (Option.some Jvm.ClassFile.FieldType.int)) ∈ mm_T := mm_in 472 (by decide +kernel) (by decide +kernel)
theorem w_473 : (Jvm.Cond.methodLink "PartBox$Checker" (14 : Nat) ({ cls := "PartBox$Bytes", name := "get", desc := "(I)I" } : Jvm.MethodName)) ∈ mm_T := mm_in 473 (by decide +kernel) (by decide +kernel)
theorem w_474 : (Jvm.Cond.methodLink "PartBox" (102 : Nat) ({ cls := "PartBox", name := "enter", desc := "(III)I" } : Jvm.MethodName)) ∈ mm_T := mm_in 474 (by decide +kernel) (by decide +kernel)
theorem w_476 : (Jvm.Cond.instanceMethod ({ cls := "PartBox", name := "enter", desc := "(III)I" } : Jvm.MethodName)) ∈ mm_T := mm_in 476 (by decide +kernel) (by decide +kernel)
theorem w_477 : (Jvm.Cond.code ({ cls := "PartBox", name := "enter", desc := "(III)I" } : Jvm.MethodName) prog_1_method_22_code (5 : Nat) (Option.some Jvm.ClassFile.FieldType.int)) ∈ mm_T := mm_in 477 (by decide +kernel) (by decide +kernel)
theorem w_478 : (Jvm.Cond.methodLink "PartBox" (189 : Nat) ({ cls := "PartBox$Box", name := "append", desc := "(LPartBox$Bytes;II)LPartBox$Entry;" } : Jvm.MethodName)) ∈ mm_T := mm_in 478 (by decide +kernel) (by decide +kernel)
theorem w_479 : (Jvm.Cond.instanceMethod ({ cls := "PartBox$Box", name := "append", desc := "(LPartBox$Bytes;II)LPartBox$Entry;" } : Jvm.MethodName)) ∈ mm_T := mm_in 479 (by decide +kernel) (by decide +kernel)
theorem w_480 : (Jvm.Cond.selects "PartBox$Box" ({ cls := "PartBox$Box", name := "append", desc := "(LPartBox$Bytes;II)LPartBox$Entry;" } : Jvm.MethodName) ({ cls := "PartBox$Box", name := "append", desc := "(LPartBox$Bytes;II)LPartBox$Entry;" } : Jvm.MethodName)) ∈ mm_T := mm_in 480 (by decide +kernel) (by decide +kernel)
theorem w_481 : (Jvm.Cond.code ({ cls := "PartBox$Box", name := "append", desc := "(LPartBox$Bytes;II)LPartBox$Entry;" } : Jvm.MethodName) prog_2_method_6_code (5 : Nat) (Option.some (Jvm.ClassFile.FieldType.object "PartBox$Entry"))) ∈ mm_T := mm_in 481 (by decide +kernel) (by decide +kernel)
theorem w_482 : (Jvm.Cond.methodLink "PartBox$Box" (49 : Nat) ({ cls := "PartBox$Bytes", name := "free", desc := "()I" } : Jvm.MethodName)) ∈ mm_T := mm_in 482 (by decide +kernel) (by decide +kernel)
theorem w_483 : (Jvm.Cond.methodLink "PartBox$Box" (52 : Nat) ({ cls := "PartBox$Bytes", name := "keep", desc := "(I)V" } : Jvm.MethodName)) ∈ mm_T := mm_in 483 (by decide +kernel) (by decide +kernel)
theorem w_484 : (Jvm.Cond.methodLink "PartBox$Box" (61 : Nat) ({ cls := "PartBox$Bytes", name := "pushAll", desc := "(LPartBox$Bytes;II)V" } : Jvm.MethodName)) ∈ mm_T := mm_in 484 (by decide +kernel) (by decide +kernel)
theorem w_485 : (Jvm.Cond.instanceMethod ({ cls := "PartBox$Bytes", name := "pushAll", desc := "(LPartBox$Bytes;II)V" } : Jvm.MethodName)) ∈ mm_T := mm_in 485 (by decide +kernel) (by decide +kernel)
theorem w_486 : (Jvm.Cond.selects "PartBox$Bytes" ({ cls := "PartBox$Bytes", name := "pushAll", desc := "(LPartBox$Bytes;II)V" } : Jvm.MethodName) ({ cls := "PartBox$Bytes", name := "pushAll", desc := "(LPartBox$Bytes;II)V" } : Jvm.MethodName)) ∈ mm_T := mm_in 486 (by decide +kernel) (by decide +kernel)
theorem w_487 : (Jvm.Cond.code ({ cls := "PartBox$Bytes", name := "pushAll", desc := "(LPartBox$Bytes;II)V" } : Jvm.MethodName) prog_3_method_10_code (4 : Nat) (Option.none : Option Jvm.ClassFile.FieldType)) ∈ mm_T := mm_in 487 (by decide +kernel) (by decide +kernel)
theorem w_488 : (Jvm.Cond.methodLink "PartBox$Bytes" (29 : Nat) ({ cls := "PartBox$Bytes", name := "holds", desc := "(II)Z" } : Jvm.MethodName)) ∈ mm_T := mm_in 488 (by decide +kernel) (by decide +kernel)
theorem w_490 : (Jvm.Cond.instanceMethod ({ cls := "PartBox$Bytes", name := "holds", desc := "(II)Z" } : Jvm.MethodName)) ∈ mm_T := mm_in 490 (by decide +kernel) (by decide +kernel)
theorem w_491 : (Jvm.Cond.code ({ cls := "PartBox$Bytes", name := "holds", desc := "(II)Z" } : Jvm.MethodName) prog_3_method_14_code (3 : Nat) (Option.some Jvm.ClassFile.FieldType.boolean)) ∈ mm_T := mm_in 491 (by decide +kernel) (by decide +kernel)
theorem w_492 : (Jvm.Cond.methodLink "PartBox$Bytes" (33 : Nat) ({ cls := "PartBox$Bytes", name := "free", desc := "()I" } : Jvm.MethodName)) ∈ mm_T := mm_in 492 (by decide +kernel) (by decide +kernel)
theorem w_493 : (Jvm.Cond.methodLink "PartBox$Bytes" (37 : Nat) ({ cls := "java/lang/System", name := "arraycopy", desc := "(Ljava/lang/Object;ILjava/lang/Object;II)V" } : Jvm.MethodName)) ∈ mm_T := mm_in 493 (by decide +kernel) (by decide +kernel)
theorem w_494 : (Jvm.Cond.static ({ cls := "java/lang/System", name := "arraycopy", desc := "(Ljava/lang/Object;ILjava/lang/Object;II)V" } : Jvm.MethodName)) ∈ mm_T := mm_in 494 (by decide +kernel) (by decide +kernel)
theorem w_495 : (Jvm.Cond.native ({ cls := "java/lang/System", name := "arraycopy", desc := "(Ljava/lang/Object;ILjava/lang/Object;II)V" } : Jvm.MethodName)) ∈ mm_T := mm_in 495 (by decide +kernel) (by decide +kernel)
theorem w_497 : (Jvm.Cond.methodLink "PartBox" (195 : Nat) ({ cls := "PartBox$Bytes", name := "pushAll", desc := "(LPartBox$Bytes;II)V" } : Jvm.MethodName)) ∈ mm_T := mm_in 497 (by decide +kernel) (by decide +kernel)
theorem w_498 : (Jvm.Cond.methodLink "PartBox" (199 : Nat) ({ cls := "PartBox$Entry", name := "describe", desc := "(III)V" } : Jvm.MethodName)) ∈ mm_T := mm_in 498 (by decide +kernel) (by decide +kernel)
theorem w_499 : (Jvm.Cond.instanceMethod ({ cls := "PartBox$Entry", name := "describe", desc := "(III)V" } : Jvm.MethodName)) ∈ mm_T := mm_in 499 (by decide +kernel) (by decide +kernel)
theorem w_500 : (Jvm.Cond.selects "PartBox$Entry" ({ cls := "PartBox$Entry", name := "describe", desc := "(III)V" } : Jvm.MethodName) ({ cls := "PartBox$Entry", name := "describe", desc := "(III)V" } : Jvm.MethodName)) ∈ mm_T := mm_in 500 (by decide +kernel) (by decide +kernel)
theorem w_501 : (Jvm.Cond.code ({ cls := "PartBox$Entry", name := "describe", desc := "(III)V" } : Jvm.MethodName) prog_5_method_2_code (4 : Nat) (Option.none : Option Jvm.ClassFile.FieldType)) ∈ mm_T := mm_in 501 (by decide +kernel) (by decide +kernel)
theorem w_502 : (Jvm.Cond.methodLink "PartBoxLaw" (106 : Nat) ({ cls := "PartBoxLaw", name := "addPacked", desc := "(LPartBox;II[J)I" } : Jvm.MethodName)) ∈ mm_T := mm_in 502 (by decide +kernel) (by decide +kernel)
theorem w_503 : (Jvm.Cond.static ({ cls := "PartBoxLaw", name := "addPacked", desc := "(LPartBox;II[J)I" } : Jvm.MethodName)) ∈ mm_T := mm_in 503 (by decide +kernel) (by decide +kernel)
theorem w_504 : (Jvm.Cond.codeWith ({ cls := "PartBoxLaw", name := "addPacked", desc := "(LPartBox;II[J)I" } : Jvm.MethodName) method_9_code (5 : Nat) (Option.some Jvm.ClassFile.FieldType.int) [((0 : Nat), (10 : Nat), (13 : Nat), (19 : Nat)), ((0 : Nat), (10 : Nat), (17 : Nat), (13 : Nat))]) ∈ mm_T := mm_in 504 (by decide +kernel) (by decide +kernel)
theorem w_505 : (Jvm.Cond.methodLink "PartBoxLaw" (38 : Nat) ({ cls := "PartBox", name := "addPacked", desc := "(II)I" } : Jvm.MethodName)) ∈ mm_T := mm_in 505 (by decide +kernel) (by decide +kernel)
theorem w_506 : (Jvm.Cond.instanceMethod ({ cls := "PartBox", name := "addPacked", desc := "(II)I" } : Jvm.MethodName)) ∈ mm_T := mm_in 506 (by decide +kernel) (by decide +kernel)
theorem w_507 : (Jvm.Cond.selects "PartBox" ({ cls := "PartBox", name := "addPacked", desc := "(II)I" } : Jvm.MethodName) ({ cls := "PartBox", name := "addPacked", desc := "(II)I" } : Jvm.MethodName)) ∈ mm_T := mm_in 507 (by decide +kernel) (by decide +kernel)
theorem w_508 : (Jvm.Cond.code ({ cls := "PartBox", name := "addPacked", desc := "(II)I" } : Jvm.MethodName) prog_1_method_10_code (3 : Nat) (Option.some Jvm.ClassFile.FieldType.int)) ∈ mm_T := mm_in 508 (by decide +kernel) (by decide +kernel)
theorem w_510 : (Jvm.Cond.methodLink "PartBoxLaw" (110 : Nat) ({ cls := "PartBoxLaw", name := "remove", desc := "(LPartBox;I)I" } : Jvm.MethodName)) ∈ mm_T := mm_in 510 (by decide +kernel) (by decide +kernel)
theorem w_511 : (Jvm.Cond.static ({ cls := "PartBoxLaw", name := "remove", desc := "(LPartBox;I)I" } : Jvm.MethodName)) ∈ mm_T := mm_in 511 (by decide +kernel) (by decide +kernel)
theorem w_512 : (Jvm.Cond.codeWith ({ cls := "PartBoxLaw", name := "remove", desc := "(LPartBox;I)I" } : Jvm.MethodName) method_10_code (3 : Nat) (Option.some Jvm.ClassFile.FieldType.int) [((0 : Nat), (5 : Nat), (8 : Nat), (25 : Nat))]) ∈ mm_T := mm_in 512 (by decide +kernel) (by decide +kernel)
theorem w_513 : (Jvm.Cond.methodLink "PartBoxLaw" (42 : Nat) ({ cls := "PartBox", name := "remove", desc := "(I)V" } : Jvm.MethodName)) ∈ mm_T := mm_in 513 (by decide +kernel) (by decide +kernel)
theorem w_514 : (Jvm.Cond.instanceMethod ({ cls := "PartBox", name := "remove", desc := "(I)V" } : Jvm.MethodName)) ∈ mm_T := mm_in 514 (by decide +kernel) (by decide +kernel)
theorem w_515 : (Jvm.Cond.selects "PartBox" ({ cls := "PartBox", name := "remove", desc := "(I)V" } : Jvm.MethodName) ({ cls := "PartBox", name := "remove", desc := "(I)V" } : Jvm.MethodName)) ∈ mm_T := mm_in 515 (by decide +kernel) (by decide +kernel)
theorem w_516 : (Jvm.Cond.code ({ cls := "PartBox", name := "remove", desc := "(I)V" } : Jvm.MethodName) prog_1_method_11_code (2 : Nat) (Option.none : Option Jvm.ClassFile.FieldType)) ∈ mm_T := mm_in 516 (by decide +kernel) (by decide +kernel)
theorem w_517 : (Jvm.Cond.methodLink "PartBox" (108 : Nat) ({ cls := "PartBox$Box", name := "has", desc := "(I)Z" } : Jvm.MethodName)) ∈ mm_T := mm_in 517 (by decide +kernel) (by decide +kernel)
theorem w_518 : (Jvm.Cond.instanceMethod ({ cls := "PartBox$Box", name := "has", desc := "(I)Z" } : Jvm.MethodName)) ∈ mm_T := mm_in 518 (by decide +kernel) (by decide +kernel)
theorem w_519 : (Jvm.Cond.selects "PartBox$Box" ({ cls := "PartBox$Box", name := "has", desc := "(I)Z" } : Jvm.MethodName) ({ cls := "PartBox$Box", name := "has", desc := "(I)Z" } : Jvm.MethodName)) ∈ mm_T := mm_in 519 (by decide +kernel) (by decide +kernel)
theorem w_520 : (Jvm.Cond.code ({ cls := "PartBox$Box", name := "has", desc := "(I)Z" } : Jvm.MethodName) prog_2_method_3_code (2 : Nat) (Option.some Jvm.ClassFile.FieldType.boolean)) ∈ mm_T := mm_in 520 (by decide +kernel) (by decide +kernel)
theorem w_522 : (Jvm.Cond.methodLink "PartBox" (114 : Nat) ({ cls := "PartBox$Box", name := "drop", desc := "(I)V" } : Jvm.MethodName)) ∈ mm_T := mm_in 522 (by decide +kernel) (by decide +kernel)
theorem w_523 : (Jvm.Cond.instanceMethod ({ cls := "PartBox$Box", name := "drop", desc := "(I)V" } : Jvm.MethodName)) ∈ mm_T := mm_in 523 (by decide +kernel) (by decide +kernel)
theorem w_524 : (Jvm.Cond.selects "PartBox$Box" ({ cls := "PartBox$Box", name := "drop", desc := "(I)V" } : Jvm.MethodName) ({ cls := "PartBox$Box", name := "drop", desc := "(I)V" } : Jvm.MethodName)) ∈ mm_T := mm_in 524 (by decide +kernel) (by decide +kernel)
theorem w_525 : (Jvm.Cond.code ({ cls := "PartBox$Box", name := "drop", desc := "(I)V" } : Jvm.MethodName) prog_2_method_8_code (5 : Nat) (Option.none : Option Jvm.ClassFile.FieldType)) ∈ mm_T := mm_in 525 (by decide +kernel) (by decide +kernel)
theorem w_526 : (Jvm.Cond.methodLink "PartBox$Box" (32 : Nat) ({ cls := "PartBox$Box", name := "has", desc := "(I)Z" } : Jvm.MethodName)) ∈ mm_T := mm_in 526 (by decide +kernel) (by decide +kernel)
theorem w_527 : (Jvm.Cond.methodLink "PartBox$Box" (65 : Nat) ({ cls := "PartBox$Bytes", name := "cut", desc := "(II)V" } : Jvm.MethodName)) ∈ mm_T := mm_in 527 (by decide +kernel) (by decide +kernel)
theorem w_528 : (Jvm.Cond.instanceMethod ({ cls := "PartBox$Bytes", name := "cut", desc := "(II)V" } : Jvm.MethodName)) ∈ mm_T := mm_in 528 (by decide +kernel) (by decide +kernel)
theorem w_529 : (Jvm.Cond.selects "PartBox$Bytes" ({ cls := "PartBox$Bytes", name := "cut", desc := "(II)V" } : Jvm.MethodName) ({ cls := "PartBox$Bytes", name := "cut", desc := "(II)V" } : Jvm.MethodName)) ∈ mm_T := mm_in 529 (by decide +kernel) (by decide +kernel)
theorem w_530 : (Jvm.Cond.code ({ cls := "PartBox$Bytes", name := "cut", desc := "(II)V" } : Jvm.MethodName) prog_3_method_11_code (3 : Nat) (Option.none : Option Jvm.ClassFile.FieldType)) ∈ mm_T := mm_in 530 (by decide +kernel) (by decide +kernel)
theorem w_531 : (Jvm.Cond.methodLink "PartBox$Box" (69 : Nat) ({ cls := "PartBox$Box", name := "shift", desc := "(II)V" } : Jvm.MethodName)) ∈ mm_T := mm_in 531 (by decide +kernel) (by decide +kernel)
theorem w_532 : (Jvm.Cond.instanceMethod ({ cls := "PartBox$Box", name := "shift", desc := "(II)V" } : Jvm.MethodName)) ∈ mm_T := mm_in 532 (by decide +kernel) (by decide +kernel)
theorem w_533 : (Jvm.Cond.selects "PartBox$Box" ({ cls := "PartBox$Box", name := "shift", desc := "(II)V" } : Jvm.MethodName) ({ cls := "PartBox$Box", name := "shift", desc := "(II)V" } : Jvm.MethodName)) ∈ mm_T := mm_in 533 (by decide +kernel) (by decide +kernel)
theorem w_534 : (Jvm.Cond.code ({ cls := "PartBox$Box", name := "shift", desc := "(II)V" } : Jvm.MethodName) prog_2_method_9_code (5 : Nat) (Option.none : Option Jvm.ClassFile.FieldType)) ∈ mm_T := mm_in 534 (by decide +kernel) (by decide +kernel)
theorem w_535 : (Jvm.Cond.methodLink "PartBoxLaw" (113 : Nat) ({ cls := "PartBoxLaw", name := "move", desc := "(LPartBox;II)I" } : Jvm.MethodName)) ∈ mm_T := mm_in 535 (by decide +kernel) (by decide +kernel)
theorem w_536 : (Jvm.Cond.static ({ cls := "PartBoxLaw", name := "move", desc := "(LPartBox;II)I" } : Jvm.MethodName)) ∈ mm_T := mm_in 536 (by decide +kernel) (by decide +kernel)
theorem w_537 : (Jvm.Cond.codeWith ({ cls := "PartBoxLaw", name := "move", desc := "(LPartBox;II)I" } : Jvm.MethodName) method_11_code (4 : Nat) (Option.some Jvm.ClassFile.FieldType.int) [((0 : Nat), (6 : Nat), (9 : Nat), (25 : Nat))]) ∈ mm_T := mm_in 537 (by decide +kernel) (by decide +kernel)
theorem w_538 : (Jvm.Cond.methodLink "PartBoxLaw" (45 : Nat) ({ cls := "PartBox", name := "move", desc := "(II)V" } : Jvm.MethodName)) ∈ mm_T := mm_in 538 (by decide +kernel) (by decide +kernel)
theorem w_539 : (Jvm.Cond.instanceMethod ({ cls := "PartBox", name := "move", desc := "(II)V" } : Jvm.MethodName)) ∈ mm_T := mm_in 539 (by decide +kernel) (by decide +kernel)
theorem w_540 : (Jvm.Cond.selects "PartBox" ({ cls := "PartBox", name := "move", desc := "(II)V" } : Jvm.MethodName) ({ cls := "PartBox", name := "move", desc := "(II)V" } : Jvm.MethodName)) ∈ mm_T := mm_in 540 (by decide +kernel) (by decide +kernel)
theorem w_541 : (Jvm.Cond.code ({ cls := "PartBox", name := "move", desc := "(II)V" } : Jvm.MethodName) prog_1_method_12_code (3 : Nat) (Option.none : Option Jvm.ClassFile.FieldType)) ∈ mm_T := mm_in 541 (by decide +kernel) (by decide +kernel)
theorem w_542 : (Jvm.Cond.methodLink "PartBox" (117 : Nat) ({ cls := "PartBox$Box", name := "shift", desc := "(II)V" } : Jvm.MethodName)) ∈ mm_T := mm_in 542 (by decide +kernel) (by decide +kernel)
theorem w_543 : (Jvm.Cond.methodLink "PartBoxLaw" (120 : Nat) ({ cls := "PartBoxLaw", name := "about", desc := "(LPartBox;II[J)I" } : Jvm.MethodName)) ∈ mm_T := mm_in 543 (by decide +kernel) (by decide +kernel)
theorem w_544 : (Jvm.Cond.static ({ cls := "PartBoxLaw", name := "about", desc := "(LPartBox;II[J)I" } : Jvm.MethodName)) ∈ mm_T := mm_in 544 (by decide +kernel) (by decide +kernel)
theorem w_545 : (Jvm.Cond.codeWith ({ cls := "PartBoxLaw", name := "about", desc := "(LPartBox;II[J)I" } : Jvm.MethodName) method_12_code (5 : Nat) (Option.some Jvm.ClassFile.FieldType.int) [((0 : Nat), (10 : Nat), (13 : Nat), (25 : Nat)), ((0 : Nat), (10 : Nat), (17 : Nat), (19 : Nat))]) ∈ mm_T := mm_in 545 (by decide +kernel) (by decide +kernel)
theorem w_546 : (Jvm.Cond.methodLink "PartBoxLaw" (48 : Nat) ({ cls := "PartBox", name := "about", desc := "(II)I" } : Jvm.MethodName)) ∈ mm_T := mm_in 546 (by decide +kernel) (by decide +kernel)
theorem w_547 : (Jvm.Cond.instanceMethod ({ cls := "PartBox", name := "about", desc := "(II)I" } : Jvm.MethodName)) ∈ mm_T := mm_in 547 (by decide +kernel) (by decide +kernel)
theorem w_548 : (Jvm.Cond.selects "PartBox" ({ cls := "PartBox", name := "about", desc := "(II)I" } : Jvm.MethodName) ({ cls := "PartBox", name := "about", desc := "(II)I" } : Jvm.MethodName)) ∈ mm_T := mm_in 548 (by decide +kernel) (by decide +kernel)
theorem w_549 : (Jvm.Cond.code ({ cls := "PartBox", name := "about", desc := "(II)I" } : Jvm.MethodName) prog_1_method_14_code (4 : Nat) (Option.some Jvm.ClassFile.FieldType.int)) ∈ mm_T := mm_in 549 (by decide +kernel) (by decide +kernel)
theorem w_550 : (Jvm.Cond.methodLink "PartBox" (124 : Nat) ({ cls := "PartBox$Box", name := "pick", desc := "(I)LPartBox$Entry;" } : Jvm.MethodName)) ∈ mm_T := mm_in 550 (by decide +kernel) (by decide +kernel)
theorem w_551 : (Jvm.Cond.instanceMethod ({ cls := "PartBox$Box", name := "pick", desc := "(I)LPartBox$Entry;" } : Jvm.MethodName)) ∈ mm_T := mm_in 551 (by decide +kernel) (by decide +kernel)
theorem w_552 : (Jvm.Cond.selects "PartBox$Box" ({ cls := "PartBox$Box", name := "pick", desc := "(I)LPartBox$Entry;" } : Jvm.MethodName) ({ cls := "PartBox$Box", name := "pick", desc := "(I)LPartBox$Entry;" } : Jvm.MethodName)) ∈ mm_T := mm_in 552 (by decide +kernel) (by decide +kernel)
theorem w_553 : (Jvm.Cond.code ({ cls := "PartBox$Box", name := "pick", desc := "(I)LPartBox$Entry;" } : Jvm.MethodName) prog_2_method_4_code (2 : Nat) (Option.some (Jvm.ClassFile.FieldType.object "PartBox$Entry"))) ∈ mm_T := mm_in 553 (by decide +kernel) (by decide +kernel)
theorem w_555 : (Jvm.Cond.methodLink "PartBoxLaw" (123 : Nat) ({ cls := "PartBoxLaw", name := "name", desc := "(LPartBox;II[J)I" } : Jvm.MethodName)) ∈ mm_T := mm_in 555 (by decide +kernel) (by decide +kernel)
theorem w_556 : (Jvm.Cond.static ({ cls := "PartBoxLaw", name := "name", desc := "(LPartBox;II[J)I" } : Jvm.MethodName)) ∈ mm_T := mm_in 556 (by decide +kernel) (by decide +kernel)
theorem w_557 : (Jvm.Cond.codeWith ({ cls := "PartBoxLaw", name := "name", desc := "(LPartBox;II[J)I" } : Jvm.MethodName) method_13_code (5 : Nat) (Option.some Jvm.ClassFile.FieldType.int) [((0 : Nat), (10 : Nat), (13 : Nat), (25 : Nat))]) ∈ mm_T := mm_in 557 (by decide +kernel) (by decide +kernel)
theorem w_558 : (Jvm.Cond.methodLink "PartBoxLaw" (51 : Nat) ({ cls := "PartBox", name := "name", desc := "(II)I" } : Jvm.MethodName)) ∈ mm_T := mm_in 558 (by decide +kernel) (by decide +kernel)
theorem w_559 : (Jvm.Cond.instanceMethod ({ cls := "PartBox", name := "name", desc := "(II)I" } : Jvm.MethodName)) ∈ mm_T := mm_in 559 (by decide +kernel) (by decide +kernel)
theorem w_560 : (Jvm.Cond.selects "PartBox" ({ cls := "PartBox", name := "name", desc := "(II)I" } : Jvm.MethodName) ({ cls := "PartBox", name := "name", desc := "(II)I" } : Jvm.MethodName)) ∈ mm_T := mm_in 560 (by decide +kernel) (by decide +kernel)
theorem w_561 : (Jvm.Cond.code ({ cls := "PartBox", name := "name", desc := "(II)I" } : Jvm.MethodName) prog_1_method_15_code (4 : Nat) (Option.some Jvm.ClassFile.FieldType.int)) ∈ mm_T := mm_in 561 (by decide +kernel) (by decide +kernel)
theorem w_562 : (Jvm.Cond.methodLink "PartBoxLaw" (126 : Nat) ({ cls := "PartBoxLaw", name := "part", desc := "(LPartBox;II[J)I" } : Jvm.MethodName)) ∈ mm_T := mm_in 562 (by decide +kernel) (by decide +kernel)
theorem w_563 : (Jvm.Cond.static ({ cls := "PartBoxLaw", name := "part", desc := "(LPartBox;II[J)I" } : Jvm.MethodName)) ∈ mm_T := mm_in 563 (by decide +kernel) (by decide +kernel)
theorem w_564 : (Jvm.Cond.codeWith ({ cls := "PartBoxLaw", name := "part", desc := "(LPartBox;II[J)I" } : Jvm.MethodName) method_14_code (5 : Nat) (Option.some Jvm.ClassFile.FieldType.int) [((0 : Nat), (10 : Nat), (13 : Nat), (25 : Nat))]) ∈ mm_T := mm_in 564 (by decide +kernel) (by decide +kernel)
theorem w_565 : (Jvm.Cond.methodLink "PartBoxLaw" (54 : Nat) ({ cls := "PartBox", name := "part", desc := "(II)I" } : Jvm.MethodName)) ∈ mm_T := mm_in 565 (by decide +kernel) (by decide +kernel)
theorem w_566 : (Jvm.Cond.instanceMethod ({ cls := "PartBox", name := "part", desc := "(II)I" } : Jvm.MethodName)) ∈ mm_T := mm_in 566 (by decide +kernel) (by decide +kernel)
theorem w_567 : (Jvm.Cond.selects "PartBox" ({ cls := "PartBox", name := "part", desc := "(II)I" } : Jvm.MethodName) ({ cls := "PartBox", name := "part", desc := "(II)I" } : Jvm.MethodName)) ∈ mm_T := mm_in 567 (by decide +kernel) (by decide +kernel)
theorem w_568 : (Jvm.Cond.code ({ cls := "PartBox", name := "part", desc := "(II)I" } : Jvm.MethodName) prog_1_method_16_code (4 : Nat) (Option.some Jvm.ClassFile.FieldType.int)) ∈ mm_T := mm_in 568 (by decide +kernel) (by decide +kernel)
theorem w_570 : (Jvm.Cond.methodLink "PartBoxLaw" (129 : Nat) ({ cls := "PartBoxLaw", name := "write", desc := "(LPartBox;[J)I" } : Jvm.MethodName)) ∈ mm_T := mm_in 570 (by decide +kernel) (by decide +kernel)
theorem w_571 : (Jvm.Cond.static ({ cls := "PartBoxLaw", name := "write", desc := "(LPartBox;[J)I" } : Jvm.MethodName)) ∈ mm_T := mm_in 571 (by decide +kernel) (by decide +kernel)
theorem w_572 : (Jvm.Cond.codeWith ({ cls := "PartBoxLaw", name := "write", desc := "(LPartBox;[J)I" } : Jvm.MethodName) method_15_code (3 : Nat) (Option.some Jvm.ClassFile.FieldType.int) [((0 : Nat), (8 : Nat), (11 : Nat), (13 : Nat))]) ∈ mm_T := mm_in 572 (by decide +kernel) (by decide +kernel)
theorem w_573 : (Jvm.Cond.methodLink "PartBoxLaw" (57 : Nat) ({ cls := "PartBox", name := "write", desc := "()I" } : Jvm.MethodName)) ∈ mm_T := mm_in 573 (by decide +kernel) (by decide +kernel)
theorem w_574 : (Jvm.Cond.instanceMethod ({ cls := "PartBox", name := "write", desc := "()I" } : Jvm.MethodName)) ∈ mm_T := mm_in 574 (by decide +kernel) (by decide +kernel)
theorem w_575 : (Jvm.Cond.selects "PartBox" ({ cls := "PartBox", name := "write", desc := "()I" } : Jvm.MethodName) ({ cls := "PartBox", name := "write", desc := "()I" } : Jvm.MethodName)) ∈ mm_T := mm_in 575 (by decide +kernel) (by decide +kernel)
theorem w_576 : (Jvm.Cond.code ({ cls := "PartBox", name := "write", desc := "()I" } : Jvm.MethodName) prog_1_method_17_code (1 : Nat) (Option.some Jvm.ClassFile.FieldType.int)) ∈ mm_T := mm_in 576 (by decide +kernel) (by decide +kernel)
theorem w_577 : (Jvm.Cond.methodLink "PartBox" (155 : Nat) ({ cls := "PartBox$Box", name := "writtenLength", desc := "()I" } : Jvm.MethodName)) ∈ mm_T := mm_in 577 (by decide +kernel) (by decide +kernel)
theorem w_578 : (Jvm.Cond.instanceMethod ({ cls := "PartBox$Box", name := "writtenLength", desc := "()I" } : Jvm.MethodName)) ∈ mm_T := mm_in 578 (by decide +kernel) (by decide +kernel)
theorem w_579 : (Jvm.Cond.selects "PartBox$Box" ({ cls := "PartBox$Box", name := "writtenLength", desc := "()I" } : Jvm.MethodName) ({ cls := "PartBox$Box", name := "writtenLength", desc := "()I" } : Jvm.MethodName)) ∈ mm_T := mm_in 579 (by decide +kernel) (by decide +kernel)
theorem w_580 : (Jvm.Cond.code ({ cls := "PartBox$Box", name := "writtenLength", desc := "()I" } : Jvm.MethodName) prog_2_method_10_code (3 : Nat) (Option.some Jvm.ClassFile.FieldType.int)) ∈ mm_T := mm_in 580 (by decide +kernel) (by decide +kernel)
theorem w_581 : (Jvm.Cond.methodLink "PartBox$Box" (72 : Nat) ({ cls := "PartBox$Box", name := "lengthWithHead", desc := "(LPartBox$Entry;)I" } : Jvm.MethodName)) ∈ mm_T := mm_in 581 (by decide +kernel) (by decide +kernel)
theorem w_582 : (Jvm.Cond.static ({ cls := "PartBox$Box", name := "lengthWithHead", desc := "(LPartBox$Entry;)I" } : Jvm.MethodName)) ∈ mm_T := mm_in 582 (by decide +kernel) (by decide +kernel)
theorem w_583 : (Jvm.Cond.code ({ cls := "PartBox$Box", name := "lengthWithHead", desc := "(LPartBox$Entry;)I" } : Jvm.MethodName) prog_2_method_12_code (1 : Nat) (Option.some Jvm.ClassFile.FieldType.int)) ∈ mm_T := mm_in 583 (by decide +kernel) (by decide +kernel)
theorem w_584 : (Jvm.Cond.methodLink "PartBox" (158 : Nat) ({ cls := "PartBox$Box", name := "writeOver", desc := "(LPartBox$Bytes;)V" } : Jvm.MethodName)) ∈ mm_T := mm_in 584 (by decide +kernel) (by decide +kernel)
theorem w_585 : (Jvm.Cond.instanceMethod ({ cls := "PartBox$Box", name := "writeOver", desc := "(LPartBox$Bytes;)V" } : Jvm.MethodName)) ∈ mm_T := mm_in 585 (by decide +kernel) (by decide +kernel)
theorem w_586 : (Jvm.Cond.selects "PartBox$Box" ({ cls := "PartBox$Box", name := "writeOver", desc := "(LPartBox$Bytes;)V" } : Jvm.MethodName) ({ cls := "PartBox$Box", name := "writeOver", desc := "(LPartBox$Bytes;)V" } : Jvm.MethodName)) ∈ mm_T := mm_in 586 (by decide +kernel) (by decide +kernel)
theorem w_587 : (Jvm.Cond.code ({ cls := "PartBox$Box", name := "writeOver", desc := "(LPartBox$Bytes;)V" } : Jvm.MethodName) prog_2_method_11_code (5 : Nat) (Option.none : Option Jvm.ClassFile.FieldType)) ∈ mm_T := mm_in 587 (by decide +kernel) (by decide +kernel)
theorem w_588 : (Jvm.Cond.methodLink "PartBox$Box" (76 : Nat) ({ cls := "PartBox$Box", name := "writeEntry", desc := "(LPartBox$Bytes;LPartBox$Entry;)V" } : Jvm.MethodName)) ∈ mm_T := mm_in 588 (by decide +kernel) (by decide +kernel)
theorem w_590 : (Jvm.Cond.instanceMethod ({ cls := "PartBox$Box", name := "writeEntry", desc := "(LPartBox$Bytes;LPartBox$Entry;)V" } : Jvm.MethodName)) ∈ mm_T := mm_in 590 (by decide +kernel) (by decide +kernel)
theorem w_591 : (Jvm.Cond.code ({ cls := "PartBox$Box", name := "writeEntry", desc := "(LPartBox$Bytes;LPartBox$Entry;)V" } : Jvm.MethodName) prog_2_method_13_code (3 : Nat) (Option.none : Option Jvm.ClassFile.FieldType)) ∈ mm_T := mm_in 591 (by decide +kernel) (by decide +kernel)
theorem w_592 : (Jvm.Cond.constant "PartBox$Box" (88 : Nat) (67324752 : Int32)) ∈ mm_T := mm_in 592 (by decide +kernel) (by decide +kernel)
theorem w_593 : (Jvm.Cond.methodLink "PartBox$Box" (89 : Nat) ({ cls := "PartBox$Bytes", name := "pushNumber", desc := "(II)V" } : Jvm.MethodName)) ∈ mm_T := mm_in 593 (by decide +kernel) (by decide +kernel)
theorem w_594 : (Jvm.Cond.instanceMethod ({ cls := "PartBox$Bytes", name := "pushNumber", desc := "(II)V" } : Jvm.MethodName)) ∈ mm_T := mm_in 594 (by decide +kernel) (by decide +kernel)
theorem w_595 : (Jvm.Cond.selects "PartBox$Bytes" ({ cls := "PartBox$Bytes", name := "pushNumber", desc := "(II)V" } : Jvm.MethodName) ({ cls := "PartBox$Bytes", name := "pushNumber", desc := "(II)V" } : Jvm.MethodName)) ∈ mm_T := mm_in 595 (by decide +kernel) (by decide +kernel)
theorem w_596 : (Jvm.Cond.code ({ cls := "PartBox$Bytes", name := "pushNumber", desc := "(II)V" } : Jvm.MethodName) prog_3_method_9_code (4 : Nat) (Option.none : Option Jvm.ClassFile.FieldType)) ∈ mm_T := mm_in 596 (by decide +kernel) (by decide +kernel)
theorem w_597 : (Jvm.Cond.methodLink "PartBox$Box" (92 : Nat) ({ cls := "PartBox$Box", name := "writeFacts", desc := "(LPartBox$Bytes;LPartBox$Entry;)V" } : Jvm.MethodName)) ∈ mm_T := mm_in 597 (by decide +kernel) (by decide +kernel)
theorem w_599 : (Jvm.Cond.instanceMethod ({ cls := "PartBox$Box", name := "writeFacts", desc := "(LPartBox$Bytes;LPartBox$Entry;)V" } : Jvm.MethodName)) ∈ mm_T := mm_in 599 (by decide +kernel) (by decide +kernel)
theorem w_600 : (Jvm.Cond.code ({ cls := "PartBox$Box", name := "writeFacts", desc := "(LPartBox$Bytes;LPartBox$Entry;)V" } : Jvm.MethodName) prog_2_method_15_code (3 : Nat) (Option.none : Option Jvm.ClassFile.FieldType)) ∈ mm_T := mm_in 600 (by decide +kernel) (by decide +kernel)
theorem w_601 : (Jvm.Cond.methodLink "PartBox$Box" (80 : Nat) ({ cls := "PartBox$Box", name := "writeDirectoryHead", desc := "(LPartBox$Bytes;LPartBox$Entry;I)V" } : Jvm.MethodName)) ∈ mm_T := mm_in 601 (by decide +kernel) (by decide +kernel)
theorem w_603 : (Jvm.Cond.instanceMethod ({ cls := "PartBox$Box", name := "writeDirectoryHead", desc := "(LPartBox$Bytes;LPartBox$Entry;I)V" } : Jvm.MethodName)) ∈ mm_T := mm_in 603 (by decide +kernel) (by decide +kernel)
theorem w_604 : (Jvm.Cond.code ({ cls := "PartBox$Box", name := "writeDirectoryHead", desc := "(LPartBox$Bytes;LPartBox$Entry;I)V" } : Jvm.MethodName) prog_2_method_14_code (4 : Nat) (Option.none : Option Jvm.ClassFile.FieldType)) ∈ mm_T := mm_in 604 (by decide +kernel) (by decide +kernel)
theorem w_605 : (Jvm.Cond.constant "PartBox$Box" (95 : Nat) (33639248 : Int32)) ∈ mm_T := mm_in 605 (by decide +kernel) (by decide +kernel)
theorem w_606 : (Jvm.Cond.methodLink "PartBox$Box" (84 : Nat) ({ cls := "PartBox$Box", name := "writeEnd", desc := "(LPartBox$Bytes;I)V" } : Jvm.MethodName)) ∈ mm_T := mm_in 606 (by decide +kernel) (by decide +kernel)
theorem w_608 : (Jvm.Cond.instanceMethod ({ cls := "PartBox$Box", name := "writeEnd", desc := "(LPartBox$Bytes;I)V" } : Jvm.MethodName)) ∈ mm_T := mm_in 608 (by decide +kernel) (by decide +kernel)
theorem w_609 : (Jvm.Cond.code ({ cls := "PartBox$Box", name := "writeEnd", desc := "(LPartBox$Bytes;I)V" } : Jvm.MethodName) prog_2_method_16_code (4 : Nat) (Option.none : Option Jvm.ClassFile.FieldType)) ∈ mm_T := mm_in 609 (by decide +kernel) (by decide +kernel)
theorem w_610 : (Jvm.Cond.constant "PartBox$Box" (104 : Nat) (101010256 : Int32)) ∈ mm_T := mm_in 610 (by decide +kernel) (by decide +kernel)
theorem w_611 : (Jvm.Cond.methodLink "PartBoxLaw" (132 : Nat) ({ cls := "PartBoxLaw", name := "read", desc := "(LPartBox;I[J)I" } : Jvm.MethodName)) ∈ mm_T := mm_in 611 (by decide +kernel) (by decide +kernel)
theorem w_612 : (Jvm.Cond.static ({ cls := "PartBoxLaw", name := "read", desc := "(LPartBox;I[J)I" } : Jvm.MethodName)) ∈ mm_T := mm_in 612 (by decide +kernel) (by decide +kernel)
theorem w_613 : (Jvm.Cond.codeWith ({ cls := "PartBoxLaw", name := "read", desc := "(LPartBox;I[J)I" } : Jvm.MethodName) method_16_code (4 : Nat) (Option.some Jvm.ClassFile.FieldType.int) [((0 : Nat), (9 : Nat), (12 : Nat), (19 : Nat))]) ∈ mm_T := mm_in 613 (by decide +kernel) (by decide +kernel)
theorem w_614 : (Jvm.Cond.methodLink "PartBoxLaw" (60 : Nat) ({ cls := "PartBox", name := "read", desc := "(I)I" } : Jvm.MethodName)) ∈ mm_T := mm_in 614 (by decide +kernel) (by decide +kernel)
theorem w_615 : (Jvm.Cond.instanceMethod ({ cls := "PartBox", name := "read", desc := "(I)I" } : Jvm.MethodName)) ∈ mm_T := mm_in 615 (by decide +kernel) (by decide +kernel)
theorem w_616 : (Jvm.Cond.selects "PartBox" ({ cls := "PartBox", name := "read", desc := "(I)I" } : Jvm.MethodName) ({ cls := "PartBox", name := "read", desc := "(I)I" } : Jvm.MethodName)) ∈ mm_T := mm_in 616 (by decide +kernel) (by decide +kernel)
theorem w_617 : (Jvm.Cond.code ({ cls := "PartBox", name := "read", desc := "(I)I" } : Jvm.MethodName) prog_1_method_18_code (2 : Nat) (Option.some Jvm.ClassFile.FieldType.int)) ∈ mm_T := mm_in 617 (by decide +kernel) (by decide +kernel)
theorem w_619 : (Jvm.Cond.methodLink "PartBox" (164 : Nat) ({ cls := "PartBox$Reader", name := "findsNoFault", desc := "(I)Z" } : Jvm.MethodName)) ∈ mm_T := mm_in 619 (by decide +kernel) (by decide +kernel)
theorem w_620 : (Jvm.Cond.instanceMethod ({ cls := "PartBox$Reader", name := "findsNoFault", desc := "(I)Z" } : Jvm.MethodName)) ∈ mm_T := mm_in 620 (by decide +kernel) (by decide +kernel)
theorem w_621 : (Jvm.Cond.selects "PartBox$Reader" ({ cls := "PartBox$Reader", name := "findsNoFault", desc := "(I)Z" } : Jvm.MethodName) ({ cls := "PartBox$Reader", name := "findsNoFault", desc := "(I)Z" } : Jvm.MethodName)) ∈ mm_T := mm_in 621 (by decide +kernel) (by decide +kernel)
theorem w_622 : (Jvm.Cond.code ({ cls := "PartBox$Reader", name := "findsNoFault", desc := "(I)Z" } : Jvm.MethodName) prog_9_method_2_code (2 : Nat) (Option.some Jvm.ClassFile.FieldType.boolean)) ∈ mm_T := mm_in 622 (by decide +kernel) (by decide +kernel)
theorem w_623 : (Jvm.Cond.methodLink "PartBox$Reader" (47 : Nat) ({ cls := "PartBox$Reader", name := "note", desc := "(III)Z" } : Jvm.MethodName)) ∈ mm_T := mm_in 623 (by decide +kernel) (by decide +kernel)
theorem w_625 : (Jvm.Cond.instanceMethod ({ cls := "PartBox$Reader", name := "note", desc := "(III)Z" } : Jvm.MethodName)) ∈ mm_T := mm_in 625 (by decide +kernel) (by decide +kernel)
theorem w_626 : (Jvm.Cond.code ({ cls := "PartBox$Reader", name := "note", desc := "(III)Z" } : Jvm.MethodName) prog_9_method_4_code (4 : Nat) (Option.some Jvm.ClassFile.FieldType.boolean)) ∈ mm_T := mm_in 626 (by decide +kernel) (by decide +kernel)
theorem w_627 : (Jvm.Cond.methodLink "PartBox$Reader" (51 : Nat) ({ cls := "PartBox$Reader", name := "examineEnd", desc := "()Z" } : Jvm.MethodName)) ∈ mm_T := mm_in 627 (by decide +kernel) (by decide +kernel)
theorem w_629 : (Jvm.Cond.instanceMethod ({ cls := "PartBox$Reader", name := "examineEnd", desc := "()Z" } : Jvm.MethodName)) ∈ mm_T := mm_in 629 (by decide +kernel) (by decide +kernel)
theorem w_630 : (Jvm.Cond.code ({ cls := "PartBox$Reader", name := "examineEnd", desc := "()Z" } : Jvm.MethodName) prog_9_method_5_code (11 : Nat) (Option.some Jvm.ClassFile.FieldType.boolean)) ∈ mm_T := mm_in 630 (by decide +kernel) (by decide +kernel)
theorem w_631 : (Jvm.Cond.methodLink "PartBox$Reader" (120 : Nat) ({ cls := "PartBox$Reader", name := "lastEnd", desc := "()I" } : Jvm.MethodName)) ∈ mm_T := mm_in 631 (by decide +kernel) (by decide +kernel)
theorem w_633 : (Jvm.Cond.instanceMethod ({ cls := "PartBox$Reader", name := "lastEnd", desc := "()I" } : Jvm.MethodName)) ∈ mm_T := mm_in 633 (by decide +kernel) (by decide +kernel)
theorem w_634 : (Jvm.Cond.code ({ cls := "PartBox$Reader", name := "lastEnd", desc := "()I" } : Jvm.MethodName) prog_9_method_6_code (2 : Nat) (Option.some Jvm.ClassFile.FieldType.int)) ∈ mm_T := mm_in 634 (by decide +kernel) (by decide +kernel)
theorem w_635 : (Jvm.Cond.methodLink "PartBox$Reader" (127 : Nat) ({ cls := "PartBox$Bytes", name := "size", desc := "()I" } : Jvm.MethodName)) ∈ mm_T := mm_in 635 (by decide +kernel) (by decide +kernel)
theorem w_636 : (Jvm.Cond.constant "PartBox$Reader" (138 : Nat) (101010256 : Int32)) ∈ mm_T := mm_in 636 (by decide +kernel) (by decide +kernel)
theorem w_637 : (Jvm.Cond.methodLink "PartBox$Reader" (139 : Nat) ({ cls := "PartBox$Bytes", name := "hasMark", desc := "(II)Z" } : Jvm.MethodName)) ∈ mm_T := mm_in 637 (by decide +kernel) (by decide +kernel)
theorem w_638 : (Jvm.Cond.instanceMethod ({ cls := "PartBox$Bytes", name := "hasMark", desc := "(II)Z" } : Jvm.MethodName)) ∈ mm_T := mm_in 638 (by decide +kernel) (by decide +kernel)
theorem w_639 : (Jvm.Cond.selects "PartBox$Bytes" ({ cls := "PartBox$Bytes", name := "hasMark", desc := "(II)Z" } : Jvm.MethodName) ({ cls := "PartBox$Bytes", name := "hasMark", desc := "(II)Z" } : Jvm.MethodName)) ∈ mm_T := mm_in 639 (by decide +kernel) (by decide +kernel)
theorem w_640 : (Jvm.Cond.code ({ cls := "PartBox$Bytes", name := "hasMark", desc := "(II)Z" } : Jvm.MethodName) prog_3_method_13_code (4 : Nat) (Option.some Jvm.ClassFile.FieldType.boolean)) ∈ mm_T := mm_in 640 (by decide +kernel) (by decide +kernel)
theorem w_641 : (Jvm.Cond.methodLink "PartBox$Bytes" (45 : Nat) ({ cls := "PartBox$Bytes", name := "get", desc := "(I)I" } : Jvm.MethodName)) ∈ mm_T := mm_in 641 (by decide +kernel) (by decide +kernel)
theorem w_642 : (Jvm.Cond.methodLink "PartBox$Reader" (129 : Nat) ({ cls := "PartBox$Bytes", name := "number", desc := "(II)J" } : Jvm.MethodName)) ∈ mm_T := mm_in 642 (by decide +kernel) (by decide +kernel)
theorem w_643 : (Jvm.Cond.instanceMethod ({ cls := "PartBox$Bytes", name := "number", desc := "(II)J" } : Jvm.MethodName)) ∈ mm_T := mm_in 643 (by decide +kernel) (by decide +kernel)
theorem w_644 : (Jvm.Cond.selects "PartBox$Bytes" ({ cls := "PartBox$Bytes", name := "number", desc := "(II)J" } : Jvm.MethodName) ({ cls := "PartBox$Bytes", name := "number", desc := "(II)J" } : Jvm.MethodName)) ∈ mm_T := mm_in 644 (by decide +kernel) (by decide +kernel)
theorem w_645 : (Jvm.Cond.code ({ cls := "PartBox$Bytes", name := "number", desc := "(II)J" } : Jvm.MethodName) prog_3_method_12_code (6 : Nat) (Option.some Jvm.ClassFile.FieldType.long)) ∈ mm_T := mm_in 645 (by decide +kernel) (by decide +kernel)
theorem w_646 : (Jvm.Cond.constantLong "PartBox$Bytes" (43 : Nat) (-1 : Int64)) ∈ mm_T := mm_in 646 (by decide +kernel) (by decide +kernel)
theorem w_647 : (Jvm.Cond.constantLong "PartBox$Reader" (133 : Nat) (64 : Int64)) ∈ mm_T := mm_in 647 (by decide +kernel) (by decide +kernel)
theorem w_648 : (Jvm.Cond.methodLink "PartBox$Reader" (55 : Nat) ({ cls := "PartBox$Reader", name := "examineDirectory", desc := "(I)Z" } : Jvm.MethodName)) ∈ mm_T := mm_in 648 (by decide +kernel) (by decide +kernel)
theorem w_650 : (Jvm.Cond.instanceMethod ({ cls := "PartBox$Reader", name := "examineDirectory", desc := "(I)Z" } : Jvm.MethodName)) ∈ mm_T := mm_in 650 (by decide +kernel) (by decide +kernel)
theorem w_651 : (Jvm.Cond.code ({ cls := "PartBox$Reader", name := "examineDirectory", desc := "(I)Z" } : Jvm.MethodName) prog_9_method_7_code (5 : Nat) (Option.some Jvm.ClassFile.FieldType.boolean)) ∈ mm_T := mm_in 651 (by decide +kernel) (by decide +kernel)
theorem w_652 : (Jvm.Cond.methodLink "PartBox$Reader" (149 : Nat) ({ cls := "PartBox$Reader", name := "directoryFault", desc := "(III)I" } : Jvm.MethodName)) ∈ mm_T := mm_in 652 (by decide +kernel) (by decide +kernel)
theorem w_654 : (Jvm.Cond.instanceMethod ({ cls := "PartBox$Reader", name := "directoryFault", desc := "(III)I" } : Jvm.MethodName)) ∈ mm_T := mm_in 654 (by decide +kernel) (by decide +kernel)
theorem w_655 : (Jvm.Cond.code ({ cls := "PartBox$Reader", name := "directoryFault", desc := "(III)I" } : Jvm.MethodName) prog_9_method_8_code (7 : Nat) (Option.some Jvm.ClassFile.FieldType.int)) ∈ mm_T := mm_in 655 (by decide +kernel) (by decide +kernel)
theorem w_656 : (Jvm.Cond.constant "PartBox$Reader" (156 : Nat) (33639248 : Int32)) ∈ mm_T := mm_in 656 (by decide +kernel) (by decide +kernel)
theorem w_657 : (Jvm.Cond.methodLink "PartBox$Reader" (157 : Nat) ({ cls := "PartBox$Finding", name := "takeFrom", desc := "(LPartBox$Bytes;I)V" } : Jvm.MethodName)) ∈ mm_T := mm_in 657 (by decide +kernel) (by decide +kernel)
theorem w_658 : (Jvm.Cond.instanceMethod ({ cls := "PartBox$Finding", name := "takeFrom", desc := "(LPartBox$Bytes;I)V" } : Jvm.MethodName)) ∈ mm_T := mm_in 658 (by decide +kernel) (by decide +kernel)
theorem w_659 : (Jvm.Cond.selects "PartBox$Finding" ({ cls := "PartBox$Finding", name := "takeFrom", desc := "(LPartBox$Bytes;I)V" } : Jvm.MethodName) ({ cls := "PartBox$Finding", name := "takeFrom", desc := "(LPartBox$Bytes;I)V" } : Jvm.MethodName)) ∈ mm_T := mm_in 659 (by decide +kernel) (by decide +kernel)
theorem w_660 : (Jvm.Cond.code ({ cls := "PartBox$Finding", name := "takeFrom", desc := "(LPartBox$Bytes;I)V" } : Jvm.MethodName) prog_7_method_2_code (4 : Nat) (Option.none : Option Jvm.ClassFile.FieldType)) ∈ mm_T := mm_in 660 (by decide +kernel) (by decide +kernel)
theorem w_661 : (Jvm.Cond.methodLink "PartBox$Finding" (18 : Nat) ({ cls := "PartBox$Facts", name := "takeFrom", desc := "(LPartBox$Bytes;I)V" } : Jvm.MethodName)) ∈ mm_T := mm_in 661 (by decide +kernel) (by decide +kernel)
theorem w_662 : (Jvm.Cond.instanceMethod ({ cls := "PartBox$Facts", name := "takeFrom", desc := "(LPartBox$Bytes;I)V" } : Jvm.MethodName)) ∈ mm_T := mm_in 662 (by decide +kernel) (by decide +kernel)
theorem w_663 : (Jvm.Cond.selects "PartBox$Facts" ({ cls := "PartBox$Facts", name := "takeFrom", desc := "(LPartBox$Bytes;I)V" } : Jvm.MethodName) ({ cls := "PartBox$Facts", name := "takeFrom", desc := "(LPartBox$Bytes;I)V" } : Jvm.MethodName)) ∈ mm_T := mm_in 663 (by decide +kernel) (by decide +kernel)
theorem w_664 : (Jvm.Cond.code ({ cls := "PartBox$Facts", name := "takeFrom", desc := "(LPartBox$Bytes;I)V" } : Jvm.MethodName) prog_6_method_2_code (3 : Nat) (Option.none : Option Jvm.ClassFile.FieldType)) ∈ mm_T := mm_in 664 (by decide +kernel) (by decide +kernel)
theorem w_665 : (Jvm.Cond.methodLink "PartBox$Facts" (9 : Nat) ({ cls := "PartBox$Bytes", name := "number", desc := "(II)J" } : Jvm.MethodName)) ∈ mm_T := mm_in 665 (by decide +kernel) (by decide +kernel)
theorem w_666 : (Jvm.Cond.methodLink "PartBox$Finding" (22 : Nat) ({ cls := "PartBox$Bytes", name := "number", desc := "(II)J" } : Jvm.MethodName)) ∈ mm_T := mm_in 666 (by decide +kernel) (by decide +kernel)
theorem w_667 : (Jvm.Cond.methodLink "PartBox$Reader" (164 : Nat) ({ cls := "PartBox$Names", name := "isName", desc := "(LPartBox$Bytes;II)Z" } : Jvm.MethodName)) ∈ mm_T := mm_in 667 (by decide +kernel) (by decide +kernel)
theorem w_668 : (Jvm.Cond.methodLink "PartBox$Reader" (170 : Nat) ({ cls := "PartBox$Reader", name := "isNamedBefore", desc := "(I)Z" } : Jvm.MethodName)) ∈ mm_T := mm_in 668 (by decide +kernel) (by decide +kernel)
theorem w_670 : (Jvm.Cond.instanceMethod ({ cls := "PartBox$Reader", name := "isNamedBefore", desc := "(I)Z" } : Jvm.MethodName)) ∈ mm_T := mm_in 670 (by decide +kernel) (by decide +kernel)
theorem w_671 : (Jvm.Cond.code ({ cls := "PartBox$Reader", name := "isNamedBefore", desc := "(I)Z" } : Jvm.MethodName) prog_9_method_9_code (5 : Nat) (Option.some Jvm.ClassFile.FieldType.boolean)) ∈ mm_T := mm_in 671 (by decide +kernel) (by decide +kernel)
theorem w_672 : (Jvm.Cond.methodLink "PartBox$Reader" (173 : Nat) ({ cls := "PartBox$Names", name := "areAlike", desc := "(LPartBox$Bytes;ILPartBox$Bytes;II)Z" } : Jvm.MethodName)) ∈ mm_T := mm_in 672 (by decide +kernel) (by decide +kernel)
theorem w_673 : (Jvm.Cond.methodLink "PartBox$Reader" (59 : Nat) ({ cls := "PartBox$Reader", name := "examineEntries", desc := "()Z" } : Jvm.MethodName)) ∈ mm_T := mm_in 673 (by decide +kernel) (by decide +kernel)
theorem w_675 : (Jvm.Cond.instanceMethod ({ cls := "PartBox$Reader", name := "examineEntries", desc := "()Z" } : Jvm.MethodName)) ∈ mm_T := mm_in 675 (by decide +kernel) (by decide +kernel)
theorem w_676 : (Jvm.Cond.code ({ cls := "PartBox$Reader", name := "examineEntries", desc := "()Z" } : Jvm.MethodName) prog_9_method_10_code (4 : Nat) (Option.some Jvm.ClassFile.FieldType.boolean)) ∈ mm_T := mm_in 676 (by decide +kernel) (by decide +kernel)
theorem w_677 : (Jvm.Cond.constantLong "PartBox$Reader" (180 : Nat) (65536 : Int64)) ∈ mm_T := mm_in 677 (by decide +kernel) (by decide +kernel)
theorem w_678 : (Jvm.Cond.methodLink "PartBox$Reader" (182 : Nat) ({ cls := "java/lang/Math", name := "min", desc := "(JJ)J" } : Jvm.MethodName)) ∈ mm_T := mm_in 678 (by decide +kernel) (by decide +kernel)
theorem w_679 : (Jvm.Cond.static ({ cls := "java/lang/Math", name := "min", desc := "(JJ)J" } : Jvm.MethodName)) ∈ mm_T := mm_in 679 (by decide +kernel) (by decide +kernel)
theorem w_680 : (Jvm.Cond.code ({ cls := "java/lang/Math", name := "min", desc := "(JJ)J" } : Jvm.MethodName) prog_16_method_70_code (4 : Nat) (Option.some Jvm.ClassFile.FieldType.long)) ∈ mm_T := mm_in 680 (by decide +kernel) (by decide +kernel)
theorem w_681 : (Jvm.Cond.methodLink "PartBox$Reader" (188 : Nat) ({ cls := "PartBox$Reader", name := "isHeadSound", desc := "(LPartBox$Finding;)Z" } : Jvm.MethodName)) ∈ mm_T := mm_in 681 (by decide +kernel) (by decide +kernel)
theorem w_683 : (Jvm.Cond.instanceMethod ({ cls := "PartBox$Reader", name := "isHeadSound", desc := "(LPartBox$Finding;)Z" } : Jvm.MethodName)) ∈ mm_T := mm_in 683 (by decide +kernel) (by decide +kernel)
theorem w_684 : (Jvm.Cond.code ({ cls := "PartBox$Reader", name := "isHeadSound", desc := "(LPartBox$Finding;)Z" } : Jvm.MethodName) prog_9_method_11_code (6 : Nat) (Option.some Jvm.ClassFile.FieldType.boolean)) ∈ mm_T := mm_in 684 (by decide +kernel) (by decide +kernel)
theorem w_685 : (Jvm.Cond.methodLink "PartBox$Reader" (195 : Nat) ({ cls := "PartBox$Facts", name := "takeFrom", desc := "(LPartBox$Bytes;I)V" } : Jvm.MethodName)) ∈ mm_T := mm_in 685 (by decide +kernel) (by decide +kernel)
theorem w_686 : (Jvm.Cond.methodLink "PartBox$Reader" (199 : Nat) ({ cls := "PartBox$Facts", name := "hasTail", desc := "()Z" } : Jvm.MethodName)) ∈ mm_T := mm_in 686 (by decide +kernel) (by decide +kernel)
theorem w_687 : (Jvm.Cond.instanceMethod ({ cls := "PartBox$Facts", name := "hasTail", desc := "()Z" } : Jvm.MethodName)) ∈ mm_T := mm_in 687 (by decide +kernel) (by decide +kernel)
theorem w_688 : (Jvm.Cond.selects "PartBox$Facts" ({ cls := "PartBox$Facts", name := "hasTail", desc := "()Z" } : Jvm.MethodName) ({ cls := "PartBox$Facts", name := "hasTail", desc := "()Z" } : Jvm.MethodName)) ∈ mm_T := mm_in 688 (by decide +kernel) (by decide +kernel)
theorem w_689 : (Jvm.Cond.code ({ cls := "PartBox$Facts", name := "hasTail", desc := "()Z" } : Jvm.MethodName) prog_6_method_3_code (1 : Nat) (Option.some Jvm.ClassFile.FieldType.boolean)) ∈ mm_T := mm_in 689 (by decide +kernel) (by decide +kernel)
theorem w_690 : (Jvm.Cond.constant "PartBox$Reader" (202 : Nat) (67324752 : Int32)) ∈ mm_T := mm_in 690 (by decide +kernel) (by decide +kernel)
theorem w_691 : (Jvm.Cond.methodLink "PartBox$Reader" (203 : Nat) ({ cls := "PartBox$Reader", name := "areSame", desc := "(III)Z" } : Jvm.MethodName)) ∈ mm_T := mm_in 691 (by decide +kernel) (by decide +kernel)
theorem w_693 : (Jvm.Cond.instanceMethod ({ cls := "PartBox$Reader", name := "areSame", desc := "(III)Z" } : Jvm.MethodName)) ∈ mm_T := mm_in 693 (by decide +kernel) (by decide +kernel)
theorem w_694 : (Jvm.Cond.code ({ cls := "PartBox$Reader", name := "areSame", desc := "(III)Z" } : Jvm.MethodName) prog_9_method_13_code (5 : Nat) (Option.some Jvm.ClassFile.FieldType.boolean)) ∈ mm_T := mm_in 694 (by decide +kernel) (by decide +kernel)
theorem w_695 : (Jvm.Cond.methodLink "PartBox$Reader" (210 : Nat) ({ cls := "PartBox$Bytes", name := "get", desc := "(I)I" } : Jvm.MethodName)) ∈ mm_T := mm_in 695 (by decide +kernel) (by decide +kernel)
theorem w_696 : (Jvm.Cond.methodLink "PartBox$Reader" (206 : Nat) ({ cls := "PartBox$Reader", name := "agrees", desc := "(JJZ)Z" } : Jvm.MethodName)) ∈ mm_T := mm_in 696 (by decide +kernel) (by decide +kernel)
theorem w_697 : (Jvm.Cond.static ({ cls := "PartBox$Reader", name := "agrees", desc := "(JJZ)Z" } : Jvm.MethodName)) ∈ mm_T := mm_in 697 (by decide +kernel) (by decide +kernel)
theorem w_698 : (Jvm.Cond.code ({ cls := "PartBox$Reader", name := "agrees", desc := "(JJZ)Z" } : Jvm.MethodName) prog_9_method_12_code (5 : Nat) (Option.some Jvm.ClassFile.FieldType.boolean)) ∈ mm_T := mm_in 698 (by decide +kernel) (by decide +kernel)
theorem w_699 : (Jvm.Cond.methodLink "PartBox$Reader" (192 : Nat) ({ cls := "PartBox$Reader", name := "areBytesSound", desc := "(LPartBox$Finding;)Z" } : Jvm.MethodName)) ∈ mm_T := mm_in 699 (by decide +kernel) (by decide +kernel)
theorem w_701 : (Jvm.Cond.instanceMethod ({ cls := "PartBox$Reader", name := "areBytesSound", desc := "(LPartBox$Finding;)Z" } : Jvm.MethodName)) ∈ mm_T := mm_in 701 (by decide +kernel) (by decide +kernel)
theorem w_702 : (Jvm.Cond.code ({ cls := "PartBox$Reader", name := "areBytesSound", desc := "(LPartBox$Finding;)Z" } : Jvm.MethodName) prog_9_method_14_code (5 : Nat) (Option.some Jvm.ClassFile.FieldType.boolean)) ∈ mm_T := mm_in 702 (by decide +kernel) (by decide +kernel)
theorem w_703 : (Jvm.Cond.constant "PartBox$Reader" (217 : Nat) (134695760 : Int32)) ∈ mm_T := mm_in 703 (by decide +kernel) (by decide +kernel)
theorem w_704 : (Jvm.Cond.methodLink "PartBox$Reader" (62 : Nat) ({ cls := "PartBox$Reader", name := "examinePlaces", desc := "()Z" } : Jvm.MethodName)) ∈ mm_T := mm_in 704 (by decide +kernel) (by decide +kernel)
theorem w_706 : (Jvm.Cond.instanceMethod ({ cls := "PartBox$Reader", name := "examinePlaces", desc := "()Z" } : Jvm.MethodName)) ∈ mm_T := mm_in 706 (by decide +kernel) (by decide +kernel)
theorem w_707 : (Jvm.Cond.code ({ cls := "PartBox$Reader", name := "examinePlaces", desc := "()Z" } : Jvm.MethodName) prog_9_method_15_code (4 : Nat) (Option.some Jvm.ClassFile.FieldType.boolean)) ∈ mm_T := mm_in 707 (by decide +kernel) (by decide +kernel)
theorem w_708 : (Jvm.Cond.methodLink "PartBox$Reader" (218 : Nat) ({ cls := "PartBox$Reader", name := "orderByHeads", desc := "()V" } : Jvm.MethodName)) ∈ mm_T := mm_in 708 (by decide +kernel) (by decide +kernel)
theorem w_710 : (Jvm.Cond.instanceMethod ({ cls := "PartBox$Reader", name := "orderByHeads", desc := "()V" } : Jvm.MethodName)) ∈ mm_T := mm_in 710 (by decide +kernel) (by decide +kernel)
theorem w_711 : (Jvm.Cond.code ({ cls := "PartBox$Reader", name := "orderByHeads", desc := "()V" } : Jvm.MethodName) prog_9_method_16_code (3 : Nat) (Option.none : Option Jvm.ClassFile.FieldType)) ∈ mm_T := mm_in 711 (by decide +kernel) (by decide +kernel)
theorem w_712 : (Jvm.Cond.methodLink "PartBox$Reader" (65 : Nat) ({ cls := "PartBox$Reader", name := "examineChecks", desc := "()Z" } : Jvm.MethodName)) ∈ mm_T := mm_in 712 (by decide +kernel) (by decide +kernel)
theorem w_714 : (Jvm.Cond.instanceMethod ({ cls := "PartBox$Reader", name := "examineChecks", desc := "()Z" } : Jvm.MethodName)) ∈ mm_T := mm_in 714 (by decide +kernel) (by decide +kernel)
theorem w_715 : (Jvm.Cond.code ({ cls := "PartBox$Reader", name := "examineChecks", desc := "()Z" } : Jvm.MethodName) prog_9_method_17_code (5 : Nat) (Option.some Jvm.ClassFile.FieldType.boolean)) ∈ mm_T := mm_in 715 (by decide +kernel) (by decide +kernel)
theorem w_716 : (Jvm.Cond.methodLink "PartBox$Reader" (221 : Nat) ({ cls := "PartBox$Checker", name := "checkOf", desc := "(LPartBox$Bytes;II)I" } : Jvm.MethodName)) ∈ mm_T := mm_in 716 (by decide +kernel) (by decide +kernel)
theorem w_717 : (Jvm.Cond.methodLink "PartBox" (167 : Nat) ({ cls := "PartBox$Reader", name := "unpackInto", desc := "(LPartBox$Box;)V" } : Jvm.MethodName)) ∈ mm_T := mm_in 717 (by decide +kernel) (by decide +kernel)
theorem w_718 : (Jvm.Cond.instanceMethod ({ cls := "PartBox$Reader", name := "unpackInto", desc := "(LPartBox$Box;)V" } : Jvm.MethodName)) ∈ mm_T := mm_in 718 (by decide +kernel) (by decide +kernel)
theorem w_719 : (Jvm.Cond.selects "PartBox$Reader" ({ cls := "PartBox$Reader", name := "unpackInto", desc := "(LPartBox$Box;)V" } : Jvm.MethodName) ({ cls := "PartBox$Reader", name := "unpackInto", desc := "(LPartBox$Box;)V" } : Jvm.MethodName)) ∈ mm_T := mm_in 719 (by decide +kernel) (by decide +kernel)
theorem w_720 : (Jvm.Cond.code ({ cls := "PartBox$Reader", name := "unpackInto", desc := "(LPartBox$Box;)V" } : Jvm.MethodName) prog_9_method_3_code (6 : Nat) (Option.none : Option Jvm.ClassFile.FieldType)) ∈ mm_T := mm_in 720 (by decide +kernel) (by decide +kernel)
theorem w_721 : (Jvm.Cond.methodLink "PartBox$Reader" (68 : Nat) ({ cls := "PartBox$Box", name := "clear", desc := "()V" } : Jvm.MethodName)) ∈ mm_T := mm_in 721 (by decide +kernel) (by decide +kernel)
theorem w_722 : (Jvm.Cond.instanceMethod ({ cls := "PartBox$Box", name := "clear", desc := "()V" } : Jvm.MethodName)) ∈ mm_T := mm_in 722 (by decide +kernel) (by decide +kernel)
theorem w_723 : (Jvm.Cond.selects "PartBox$Box" ({ cls := "PartBox$Box", name := "clear", desc := "()V" } : Jvm.MethodName) ({ cls := "PartBox$Box", name := "clear", desc := "()V" } : Jvm.MethodName)) ∈ mm_T := mm_in 723 (by decide +kernel) (by decide +kernel)
theorem w_724 : (Jvm.Cond.code ({ cls := "PartBox$Box", name := "clear", desc := "()V" } : Jvm.MethodName) prog_2_method_7_code (1 : Nat) (Option.none : Option Jvm.ClassFile.FieldType)) ∈ mm_T := mm_in 724 (by decide +kernel) (by decide +kernel)
theorem w_725 : (Jvm.Cond.methodLink "PartBox$Reader" (86 : Nat) ({ cls := "PartBox$Box", name := "append", desc := "(LPartBox$Bytes;II)LPartBox$Entry;" } : Jvm.MethodName)) ∈ mm_T := mm_in 725 (by decide +kernel) (by decide +kernel)
theorem w_726 : (Jvm.Cond.methodLink "PartBox$Reader" (101 : Nat) ({ cls := "PartBox$Bytes", name := "pushAll", desc := "(LPartBox$Bytes;II)V" } : Jvm.MethodName)) ∈ mm_T := mm_in 726 (by decide +kernel) (by decide +kernel)
theorem w_727 : (Jvm.Cond.methodLink "PartBox$Reader" (116 : Nat) ({ cls := "PartBox$Entry", name := "describe", desc := "(III)V" } : Jvm.MethodName)) ∈ mm_T := mm_in 727 (by decide +kernel) (by decide +kernel)
theorem w_728 : (Jvm.Cond.methodLink "PartBoxLaw" (135 : Nat) ({ cls := "PartBoxLaw", name := "blame", desc := "(LPartBox;I[J)I" } : Jvm.MethodName)) ∈ mm_T := mm_in 728 (by decide +kernel) (by decide +kernel)
theorem w_729 : (Jvm.Cond.static ({ cls := "PartBoxLaw", name := "blame", desc := "(LPartBox;I[J)I" } : Jvm.MethodName)) ∈ mm_T := mm_in 729 (by decide +kernel) (by decide +kernel)
theorem w_730 : (Jvm.Cond.codeWith ({ cls := "PartBoxLaw", name := "blame", desc := "(LPartBox;I[J)I" } : Jvm.MethodName) method_17_code (4 : Nat) (Option.some Jvm.ClassFile.FieldType.int) [((0 : Nat), (9 : Nat), (12 : Nat), (19 : Nat))]) ∈ mm_T := mm_in 730 (by decide +kernel) (by decide +kernel)
theorem w_731 : (Jvm.Cond.methodLink "PartBoxLaw" (63 : Nat) ({ cls := "PartBox", name := "blame", desc := "(I)I" } : Jvm.MethodName)) ∈ mm_T := mm_in 731 (by decide +kernel) (by decide +kernel)
theorem w_732 : (Jvm.Cond.instanceMethod ({ cls := "PartBox", name := "blame", desc := "(I)I" } : Jvm.MethodName)) ∈ mm_T := mm_in 732 (by decide +kernel) (by decide +kernel)
theorem w_733 : (Jvm.Cond.selects "PartBox" ({ cls := "PartBox", name := "blame", desc := "(I)I" } : Jvm.MethodName) ({ cls := "PartBox", name := "blame", desc := "(I)I" } : Jvm.MethodName)) ∈ mm_T := mm_in 733 (by decide +kernel) (by decide +kernel)
theorem w_734 : (Jvm.Cond.code ({ cls := "PartBox", name := "blame", desc := "(I)I" } : Jvm.MethodName) prog_1_method_19_code (2 : Nat) (Option.some Jvm.ClassFile.FieldType.int)) ∈ mm_T := mm_in 734 (by decide +kernel) (by decide +kernel)
theorem w_736 : (Jvm.Cond.classLink "PartBoxLaw" (67 : Nat) "PartBoxModel") ∈ mm_T := mm_in 736 (by decide +kernel) (by decide +kernel)
theorem w_737 : (Jvm.Cond.instantiable "PartBoxModel" (29 : Nat)) ∈ mm_T := mm_in 737 (by decide +kernel) (by decide +kernel)
theorem w_738 : (Jvm.Cond.methodLink "PartBoxLaw" (69 : Nat) ({ cls := "PartBoxModel", name := "<init>", desc := "()V" } : Jvm.MethodName)) ∈ mm_T := mm_in 738 (by decide +kernel) (by decide +kernel)
theorem w_739 : (Jvm.Cond.instanceMethod ({ cls := "PartBoxModel", name := "<init>", desc := "()V" } : Jvm.MethodName)) ∈ mm_T := mm_in 739 (by decide +kernel) (by decide +kernel)
theorem w_740 : (Jvm.Cond.code ({ cls := "PartBoxModel", name := "<init>", desc := "()V" } : Jvm.MethodName) prog_11_method_1_code (1 : Nat) (Option.none : Option Jvm.ClassFile.FieldType)) ∈ mm_T := mm_in 740 (by decide +kernel) (by decide +kernel)
theorem w_741 : (Jvm.Cond.methodLink "PartBoxModel" (1 : Nat) ({ cls := "java/lang/Object", name := "<init>", desc := "()V" } : Jvm.MethodName)) ∈ mm_T := mm_in 741 (by decide +kernel) (by decide +kernel)
theorem w_742 : (Jvm.Cond.constant "PartBoxModel" (7 : Nat) (65536 : Int32)) ∈ mm_T := mm_in 742 (by decide +kernel) (by decide +kernel)
theorem w_743 : (Jvm.Cond.fieldLink "PartBoxModel" (69 : Nat) "PartBoxModel" "code" "I") ∈ mm_T := mm_in 743 (by decide +kernel) (by decide +kernel)
theorem w_744 : (Jvm.Cond.fieldLink "PartBoxModel" (72 : Nat) "PartBoxModel" "length" "I") ∈ mm_T := mm_in 744 (by decide +kernel) (by decide +kernel)
theorem w_745 : (Jvm.Cond.fieldLink "PartBoxModel" (8 : Nat) "PartBoxModel" "row" "[B") ∈ mm_T := mm_in 745 (by decide +kernel) (by decide +kernel)
theorem w_746 : (Jvm.Cond.fieldLink "PartBoxModel" (75 : Nat) "PartBoxModel" "nameLength" "I") ∈ mm_T := mm_in 746 (by decide +kernel) (by decide +kernel)
theorem w_747 : (Jvm.Cond.fieldLink "PartBoxModel" (14 : Nat) "PartBoxModel" "typed" "[I") ∈ mm_T := mm_in 747 (by decide +kernel) (by decide +kernel)
theorem w_748 : (Jvm.Cond.fieldLink "PartBoxModel" (82 : Nat) "PartBoxModel" "entries" "I") ∈ mm_T := mm_in 748 (by decide +kernel) (by decide +kernel)
theorem w_749 : (Jvm.Cond.fieldLink "PartBoxModel" (18 : Nat) "PartBoxModel" "names" "[I") ∈ mm_T := mm_in 749 (by decide +kernel) (by decide +kernel)
theorem w_750 : (Jvm.Cond.fieldLink "PartBoxModel" (21 : Nat) "PartBoxModel" "nameLengths" "[I") ∈ mm_T := mm_in 750 (by decide +kernel) (by decide +kernel)
theorem w_751 : (Jvm.Cond.fieldLink "PartBoxModel" (24 : Nat) "PartBoxModel" "methods" "[I") ∈ mm_T := mm_in 751 (by decide +kernel) (by decide +kernel)
theorem w_752 : (Jvm.Cond.fieldLink "PartBoxModel" (27 : Nat) "PartBoxModel" "begins" "[I") ∈ mm_T := mm_in 752 (by decide +kernel) (by decide +kernel)
theorem w_753 : (Jvm.Cond.fieldLink "PartBoxModel" (30 : Nat) "PartBoxModel" "lengths" "[I") ∈ mm_T := mm_in 753 (by decide +kernel) (by decide +kernel)
theorem w_754 : (Jvm.Cond.fieldLink "PartBoxModel" (33 : Nat) "PartBoxModel" "sizes" "[I") ∈ mm_T := mm_in 754 (by decide +kernel) (by decide +kernel)
theorem w_755 : (Jvm.Cond.fieldLink "PartBoxModel" (36 : Nat) "PartBoxModel" "checks" "[I") ∈ mm_T := mm_in 755 (by decide +kernel) (by decide +kernel)
theorem w_756 : (Jvm.Cond.fieldLink "PartBoxModel" (90 : Nat) "PartBoxModel" "used" "I") ∈ mm_T := mm_in 756 (by decide +kernel) (by decide +kernel)
theorem w_757 : (Jvm.Cond.fieldLink "PartBoxModel" (39 : Nat) "PartBoxModel" "heap" "[B") ∈ mm_T := mm_in 757 (by decide +kernel) (by decide +kernel)
theorem w_758 : (Jvm.Cond.fieldLink "PartBoxModel" (42 : Nat) "PartBoxModel" "other" "[B") ∈ mm_T := mm_in 758 (by decide +kernel) (by decide +kernel)
theorem w_759 : (Jvm.Cond.fieldLink "PartBoxModel" (151 : Nat) "PartBoxModel" "fault" "I") ∈ mm_T := mm_in 759 (by decide +kernel) (by decide +kernel)
theorem w_760 : (Jvm.Cond.fieldLink "PartBoxModel" (45 : Nat) "PartBoxModel" "place" "I") ∈ mm_T := mm_in 760 (by decide +kernel) (by decide +kernel)
theorem w_761 : (Jvm.Cond.fieldLink "PartBoxModel" (49 : Nat) "PartBoxModel" "entry" "I") ∈ mm_T := mm_in 761 (by decide +kernel) (by decide +kernel)
theorem w_762 : (Jvm.Cond.fieldLink "PartBoxModel" (203 : Nat) "PartBoxModel" "limit" "I") ∈ mm_T := mm_in 762 (by decide +kernel) (by decide +kernel)
theorem w_763 : (Jvm.Cond.fieldLink "PartBoxModel" (154 : Nat) "PartBoxModel" "endPlace" "I") ∈ mm_T := mm_in 763 (by decide +kernel) (by decide +kernel)
theorem w_764 : (Jvm.Cond.fieldLink "PartBoxModel" (170 : Nat) "PartBoxModel" "dirPlace" "J") ∈ mm_T := mm_in 764 (by decide +kernel) (by decide +kernel)
theorem w_765 : (Jvm.Cond.fieldLink "PartBoxModel" (167 : Nat) "PartBoxModel" "heads" "I") ∈ mm_T := mm_in 765 (by decide +kernel) (by decide +kernel)
theorem w_766 : (Jvm.Cond.fieldLink "PartBoxModel" (52 : Nat) "PartBoxModel" "dirAt" "[I") ∈ mm_T := mm_in 766 (by decide +kernel) (by decide +kernel)
theorem w_767 : (Jvm.Cond.fieldLink "PartBoxModel" (55 : Nat) "PartBoxModel" "headAt" "[J") ∈ mm_T := mm_in 767 (by decide +kernel) (by decide +kernel)
theorem w_768 : (Jvm.Cond.fieldLink "PartBoxModel" (59 : Nat) "PartBoxModel" "dataAt" "[J") ∈ mm_T := mm_in 768 (by decide +kernel) (by decide +kernel)
theorem w_769 : (Jvm.Cond.fieldLink "PartBoxModel" (62 : Nat) "PartBoxModel" "tailEnd" "[J") ∈ mm_T := mm_in 769 (by decide +kernel) (by decide +kernel)
theorem w_770 : (Jvm.Cond.fieldLink "PartBoxModel" (65 : Nat) "PartBoxModel" "taken" "[Z") ∈ mm_T := mm_in 770 (by decide +kernel) (by decide +kernel)
theorem w_771 : (Jvm.Cond.fieldLink "PartBoxModel" (127 : Nat) "PartBoxModel" "out" "I") ∈ mm_T := mm_in 771 (by decide +kernel) (by decide +kernel)
theorem w_772 : (Jvm.Cond.lays "PartBoxModel" "PartBoxModel" "code" "I") ∈ mm_T := mm_in 772 (by decide +kernel) (by decide +kernel)
theorem w_774 : (Jvm.Cond.lays "PartBoxModel" "PartBoxModel" "length" "I") ∈ mm_T := mm_in 774 (by decide +kernel) (by decide +kernel)
theorem w_776 : (Jvm.Cond.laysFinal "PartBoxModel" "PartBoxModel" "row" "[B") ∈ mm_T := mm_in 776 (by decide +kernel) (by decide +kernel)
theorem w_778 : (Jvm.Cond.lays "PartBoxModel" "PartBoxModel" "nameLength" "I") ∈ mm_T := mm_in 778 (by decide +kernel) (by decide +kernel)
theorem w_780 : (Jvm.Cond.laysFinal "PartBoxModel" "PartBoxModel" "typed" "[I") ∈ mm_T := mm_in 780 (by decide +kernel) (by decide +kernel)
theorem w_782 : (Jvm.Cond.lays "PartBoxModel" "PartBoxModel" "entries" "I") ∈ mm_T := mm_in 782 (by decide +kernel) (by decide +kernel)
theorem w_784 : (Jvm.Cond.laysFinal "PartBoxModel" "PartBoxModel" "names" "[I") ∈ mm_T := mm_in 784 (by decide +kernel) (by decide +kernel)
theorem w_786 : (Jvm.Cond.laysFinal "PartBoxModel" "PartBoxModel" "nameLengths" "[I") ∈ mm_T := mm_in 786 (by decide +kernel) (by decide +kernel)
theorem w_788 : (Jvm.Cond.laysFinal "PartBoxModel" "PartBoxModel" "methods" "[I") ∈ mm_T := mm_in 788 (by decide +kernel) (by decide +kernel)
theorem w_790 : (Jvm.Cond.laysFinal "PartBoxModel" "PartBoxModel" "begins" "[I") ∈ mm_T := mm_in 790 (by decide +kernel) (by decide +kernel)
theorem w_792 : (Jvm.Cond.laysFinal "PartBoxModel" "PartBoxModel" "lengths" "[I") ∈ mm_T := mm_in 792 (by decide +kernel) (by decide +kernel)
theorem w_794 : (Jvm.Cond.laysFinal "PartBoxModel" "PartBoxModel" "sizes" "[I") ∈ mm_T := mm_in 794 (by decide +kernel) (by decide +kernel)
theorem w_796 : (Jvm.Cond.laysFinal "PartBoxModel" "PartBoxModel" "checks" "[I") ∈ mm_T := mm_in 796 (by decide +kernel) (by decide +kernel)
theorem w_798 : (Jvm.Cond.lays "PartBoxModel" "PartBoxModel" "used" "I") ∈ mm_T := mm_in 798 (by decide +kernel) (by decide +kernel)
theorem w_800 : (Jvm.Cond.lays "PartBoxModel" "PartBoxModel" "heap" "[B") ∈ mm_T := mm_in 800 (by decide +kernel) (by decide +kernel)
theorem w_802 : (Jvm.Cond.lays "PartBoxModel" "PartBoxModel" "other" "[B") ∈ mm_T := mm_in 802 (by decide +kernel) (by decide +kernel)
theorem w_804 : (Jvm.Cond.lays "PartBoxModel" "PartBoxModel" "fault" "I") ∈ mm_T := mm_in 804 (by decide +kernel) (by decide +kernel)
theorem w_806 : (Jvm.Cond.lays "PartBoxModel" "PartBoxModel" "place" "I") ∈ mm_T := mm_in 806 (by decide +kernel) (by decide +kernel)
theorem w_808 : (Jvm.Cond.lays "PartBoxModel" "PartBoxModel" "entry" "I") ∈ mm_T := mm_in 808 (by decide +kernel) (by decide +kernel)
theorem w_810 : (Jvm.Cond.lays "PartBoxModel" "PartBoxModel" "limit" "I") ∈ mm_T := mm_in 810 (by decide +kernel) (by decide +kernel)
theorem w_812 : (Jvm.Cond.lays "PartBoxModel" "PartBoxModel" "endPlace" "I") ∈ mm_T := mm_in 812 (by decide +kernel) (by decide +kernel)
theorem w_814 : (Jvm.Cond.lays "PartBoxModel" "PartBoxModel" "dirPlace" "J") ∈ mm_T := mm_in 814 (by decide +kernel) (by decide +kernel)
theorem w_816 : (Jvm.Cond.lays "PartBoxModel" "PartBoxModel" "heads" "I") ∈ mm_T := mm_in 816 (by decide +kernel) (by decide +kernel)
theorem w_818 : (Jvm.Cond.laysFinal "PartBoxModel" "PartBoxModel" "dirAt" "[I") ∈ mm_T := mm_in 818 (by decide +kernel) (by decide +kernel)
theorem w_820 : (Jvm.Cond.laysFinal "PartBoxModel" "PartBoxModel" "headAt" "[J") ∈ mm_T := mm_in 820 (by decide +kernel) (by decide +kernel)
theorem w_822 : (Jvm.Cond.laysFinal "PartBoxModel" "PartBoxModel" "dataAt" "[J") ∈ mm_T := mm_in 822 (by decide +kernel) (by decide +kernel)
theorem w_824 : (Jvm.Cond.laysFinal "PartBoxModel" "PartBoxModel" "tailEnd" "[J") ∈ mm_T := mm_in 824 (by decide +kernel) (by decide +kernel)
theorem w_826 : (Jvm.Cond.laysFinal "PartBoxModel" "PartBoxModel" "taken" "[Z") ∈ mm_T := mm_in 826 (by decide +kernel) (by decide +kernel)
theorem w_828 : (Jvm.Cond.lays "PartBoxModel" "PartBoxModel" "out" "I") ∈ mm_T := mm_in 828 (by decide +kernel) (by decide +kernel)
theorem w_831 : (Jvm.Cond.arrayClass Jvm.ClassFile.FieldType.long) ∈ mm_T := mm_in 831 (by decide +kernel) (by decide +kernel)
theorem w_832 : (Jvm.Cond.arrayClass Jvm.ClassFile.FieldType.boolean) ∈ mm_T := mm_in 832 (by decide +kernel) (by decide +kernel)
theorem w_833 : (Jvm.Cond.methodLink "PartBoxLaw" (76 : Nat) ({ cls := "PartBoxModel", name := "thrown", desc := "()I" } : Jvm.MethodName)) ∈ mm_T := mm_in 833 (by decide +kernel) (by decide +kernel)
theorem w_834 : (Jvm.Cond.instanceMethod ({ cls := "PartBoxModel", name := "thrown", desc := "()I" } : Jvm.MethodName)) ∈ mm_T := mm_in 834 (by decide +kernel) (by decide +kernel)
theorem w_835 : (Jvm.Cond.selects "PartBoxModel" ({ cls := "PartBoxModel", name := "thrown", desc := "()I" } : Jvm.MethodName) ({ cls := "PartBoxModel", name := "thrown", desc := "()I" } : Jvm.MethodName)) ∈ mm_T := mm_in 835 (by decide +kernel) (by decide +kernel)
theorem w_836 : (Jvm.Cond.code ({ cls := "PartBoxModel", name := "thrown", desc := "()I" } : Jvm.MethodName) prog_11_method_2_code (1 : Nat) (Option.some Jvm.ClassFile.FieldType.int)) ∈ mm_T := mm_in 836 (by decide +kernel) (by decide +kernel)
theorem w_837 : (Jvm.Cond.methodLink "PartBoxLaw" (75 : Nat) ({ cls := "PartBoxModel", name := "feed", desc := "(IIIII)V" } : Jvm.MethodName)) ∈ mm_T := mm_in 837 (by decide +kernel) (by decide +kernel)
theorem w_838 : (Jvm.Cond.instanceMethod ({ cls := "PartBoxModel", name := "feed", desc := "(IIIII)V" } : Jvm.MethodName)) ∈ mm_T := mm_in 838 (by decide +kernel) (by decide +kernel)
theorem w_839 : (Jvm.Cond.selects "PartBoxModel" ({ cls := "PartBoxModel", name := "feed", desc := "(IIIII)V" } : Jvm.MethodName) ({ cls := "PartBoxModel", name := "feed", desc := "(IIIII)V" } : Jvm.MethodName)) ∈ mm_T := mm_in 839 (by decide +kernel) (by decide +kernel)
theorem w_840 : (Jvm.Cond.code ({ cls := "PartBoxModel", name := "feed", desc := "(IIIII)V" } : Jvm.MethodName) prog_11_method_3_code (8 : Nat) (Option.none : Option Jvm.ClassFile.FieldType)) ∈ mm_T := mm_in 840 (by decide +kernel) (by decide +kernel)
theorem w_841 : (Jvm.Cond.methodLink "PartBoxLaw" (82 : Nat) ({ cls := "PartBoxModel", name := "end", desc := "(I)V" } : Jvm.MethodName)) ∈ mm_T := mm_in 841 (by decide +kernel) (by decide +kernel)
theorem w_842 : (Jvm.Cond.instanceMethod ({ cls := "PartBoxModel", name := "end", desc := "(I)V" } : Jvm.MethodName)) ∈ mm_T := mm_in 842 (by decide +kernel) (by decide +kernel)
theorem w_843 : (Jvm.Cond.selects "PartBoxModel" ({ cls := "PartBoxModel", name := "end", desc := "(I)V" } : Jvm.MethodName) ({ cls := "PartBoxModel", name := "end", desc := "(I)V" } : Jvm.MethodName)) ∈ mm_T := mm_in 843 (by decide +kernel) (by decide +kernel)
theorem w_844 : (Jvm.Cond.code ({ cls := "PartBoxModel", name := "end", desc := "(I)V" } : Jvm.MethodName) prog_11_method_4_code (2 : Nat) (Option.none : Option Jvm.ClassFile.FieldType)) ∈ mm_T := mm_in 844 (by decide +kernel) (by decide +kernel)
theorem w_845 : (Jvm.Cond.methodLink "PartBoxLaw" (86 : Nat) ({ cls := "PartBoxModel", name := "alter", desc := "(II)V" } : Jvm.MethodName)) ∈ mm_T := mm_in 845 (by decide +kernel) (by decide +kernel)
theorem w_846 : (Jvm.Cond.instanceMethod ({ cls := "PartBoxModel", name := "alter", desc := "(II)V" } : Jvm.MethodName)) ∈ mm_T := mm_in 846 (by decide +kernel) (by decide +kernel)
theorem w_847 : (Jvm.Cond.selects "PartBoxModel" ({ cls := "PartBoxModel", name := "alter", desc := "(II)V" } : Jvm.MethodName) ({ cls := "PartBoxModel", name := "alter", desc := "(II)V" } : Jvm.MethodName)) ∈ mm_T := mm_in 847 (by decide +kernel) (by decide +kernel)
theorem w_848 : (Jvm.Cond.code ({ cls := "PartBoxModel", name := "alter", desc := "(II)V" } : Jvm.MethodName) prog_11_method_5_code (3 : Nat) (Option.none : Option Jvm.ClassFile.FieldType)) ∈ mm_T := mm_in 848 (by decide +kernel) (by decide +kernel)
theorem w_849 : (Jvm.Cond.methodLink "PartBoxLaw" (90 : Nat) ({ cls := "PartBoxModel", name := "length", desc := "()I" } : Jvm.MethodName)) ∈ mm_T := mm_in 849 (by decide +kernel) (by decide +kernel)
theorem w_850 : (Jvm.Cond.instanceMethod ({ cls := "PartBoxModel", name := "length", desc := "()I" } : Jvm.MethodName)) ∈ mm_T := mm_in 850 (by decide +kernel) (by decide +kernel)
theorem w_851 : (Jvm.Cond.selects "PartBoxModel" ({ cls := "PartBoxModel", name := "length", desc := "()I" } : Jvm.MethodName) ({ cls := "PartBoxModel", name := "length", desc := "()I" } : Jvm.MethodName)) ∈ mm_T := mm_in 851 (by decide +kernel) (by decide +kernel)
theorem w_852 : (Jvm.Cond.code ({ cls := "PartBoxModel", name := "length", desc := "()I" } : Jvm.MethodName) prog_11_method_6_code (1 : Nat) (Option.some Jvm.ClassFile.FieldType.int)) ∈ mm_T := mm_in 852 (by decide +kernel) (by decide +kernel)
theorem w_853 : (Jvm.Cond.methodLink "PartBoxLaw" (94 : Nat) ({ cls := "PartBoxModel", name := "byteAt", desc := "(I)I" } : Jvm.MethodName)) ∈ mm_T := mm_in 853 (by decide +kernel) (by decide +kernel)
theorem w_854 : (Jvm.Cond.instanceMethod ({ cls := "PartBoxModel", name := "byteAt", desc := "(I)I" } : Jvm.MethodName)) ∈ mm_T := mm_in 854 (by decide +kernel) (by decide +kernel)
theorem w_855 : (Jvm.Cond.selects "PartBoxModel" ({ cls := "PartBoxModel", name := "byteAt", desc := "(I)I" } : Jvm.MethodName) ({ cls := "PartBoxModel", name := "byteAt", desc := "(I)I" } : Jvm.MethodName)) ∈ mm_T := mm_in 855 (by decide +kernel) (by decide +kernel)
theorem w_856 : (Jvm.Cond.code ({ cls := "PartBoxModel", name := "byteAt", desc := "(I)I" } : Jvm.MethodName) prog_11_method_7_code (2 : Nat) (Option.some Jvm.ClassFile.FieldType.int)) ∈ mm_T := mm_in 856 (by decide +kernel) (by decide +kernel)
theorem w_857 : (Jvm.Cond.methodLink "PartBoxLaw" (97 : Nat) ({ cls := "PartBoxModel", name := "type", desc := "(I)I" } : Jvm.MethodName)) ∈ mm_T := mm_in 857 (by decide +kernel) (by decide +kernel)
theorem w_858 : (Jvm.Cond.instanceMethod ({ cls := "PartBoxModel", name := "type", desc := "(I)I" } : Jvm.MethodName)) ∈ mm_T := mm_in 858 (by decide +kernel) (by decide +kernel)
theorem w_859 : (Jvm.Cond.selects "PartBoxModel" ({ cls := "PartBoxModel", name := "type", desc := "(I)I" } : Jvm.MethodName) ({ cls := "PartBoxModel", name := "type", desc := "(I)I" } : Jvm.MethodName)) ∈ mm_T := mm_in 859 (by decide +kernel) (by decide +kernel)
theorem w_860 : (Jvm.Cond.code ({ cls := "PartBoxModel", name := "type", desc := "(I)I" } : Jvm.MethodName) prog_11_method_8_code (6 : Nat) (Option.some Jvm.ClassFile.FieldType.int)) ∈ mm_T := mm_in 860 (by decide +kernel) (by decide +kernel)
theorem w_861 : (Jvm.Cond.methodLink "PartBoxLaw" (101 : Nat) ({ cls := "PartBoxModel", name := "erase", desc := "()V" } : Jvm.MethodName)) ∈ mm_T := mm_in 861 (by decide +kernel) (by decide +kernel)
theorem w_862 : (Jvm.Cond.instanceMethod ({ cls := "PartBoxModel", name := "erase", desc := "()V" } : Jvm.MethodName)) ∈ mm_T := mm_in 862 (by decide +kernel) (by decide +kernel)
theorem w_863 : (Jvm.Cond.selects "PartBoxModel" ({ cls := "PartBoxModel", name := "erase", desc := "()V" } : Jvm.MethodName) ({ cls := "PartBoxModel", name := "erase", desc := "()V" } : Jvm.MethodName)) ∈ mm_T := mm_in 863 (by decide +kernel) (by decide +kernel)
theorem w_864 : (Jvm.Cond.code ({ cls := "PartBoxModel", name := "erase", desc := "()V" } : Jvm.MethodName) prog_11_method_9_code (1 : Nat) (Option.none : Option Jvm.ClassFile.FieldType)) ∈ mm_T := mm_in 864 (by decide +kernel) (by decide +kernel)
theorem w_865 : (Jvm.Cond.methodLink "PartBoxLaw" (105 : Nat) ({ cls := "PartBoxModel", name := "add", desc := "()I" } : Jvm.MethodName)) ∈ mm_T := mm_in 865 (by decide +kernel) (by decide +kernel)
theorem w_866 : (Jvm.Cond.instanceMethod ({ cls := "PartBoxModel", name := "add", desc := "()I" } : Jvm.MethodName)) ∈ mm_T := mm_in 866 (by decide +kernel) (by decide +kernel)
theorem w_867 : (Jvm.Cond.selects "PartBoxModel" ({ cls := "PartBoxModel", name := "add", desc := "()I" } : Jvm.MethodName) ({ cls := "PartBoxModel", name := "add", desc := "()I" } : Jvm.MethodName)) ∈ mm_T := mm_in 867 (by decide +kernel) (by decide +kernel)
theorem w_868 : (Jvm.Cond.code ({ cls := "PartBoxModel", name := "add", desc := "()I" } : Jvm.MethodName) prog_11_method_17_code (1 : Nat) (Option.some Jvm.ClassFile.FieldType.int)) ∈ mm_T := mm_in 868 (by decide +kernel) (by decide +kernel)
theorem w_869 : (Jvm.Cond.methodLink "PartBoxModel" (101 : Nat) ({ cls := "PartBoxModel", name := "refused", desc := "(Z)I" } : Jvm.MethodName)) ∈ mm_T := mm_in 869 (by decide +kernel) (by decide +kernel)
theorem w_871 : (Jvm.Cond.instanceMethod ({ cls := "PartBoxModel", name := "refused", desc := "(Z)I" } : Jvm.MethodName)) ∈ mm_T := mm_in 871 (by decide +kernel) (by decide +kernel)
theorem w_872 : (Jvm.Cond.code ({ cls := "PartBoxModel", name := "refused", desc := "(Z)I" } : Jvm.MethodName) prog_11_method_16_code (2 : Nat) (Option.some Jvm.ClassFile.FieldType.int)) ∈ mm_T := mm_in 872 (by decide +kernel) (by decide +kernel)
theorem w_873 : (Jvm.Cond.methodLink "PartBoxModel" (93 : Nat) ({ cls := "PartBoxModel", name := "isName", desc := "(II)Z" } : Jvm.MethodName)) ∈ mm_T := mm_in 873 (by decide +kernel) (by decide +kernel)
theorem w_875 : (Jvm.Cond.instanceMethod ({ cls := "PartBoxModel", name := "isName", desc := "(II)Z" } : Jvm.MethodName)) ∈ mm_T := mm_in 875 (by decide +kernel) (by decide +kernel)
theorem w_876 : (Jvm.Cond.code ({ cls := "PartBoxModel", name := "isName", desc := "(II)Z" } : Jvm.MethodName) prog_11_method_12_code (8 : Nat) (Option.some Jvm.ClassFile.FieldType.boolean)) ∈ mm_T := mm_in 876 (by decide +kernel) (by decide +kernel)
theorem w_877 : (Jvm.Cond.methodLink "PartBoxModel" (78 : Nat) ({ cls := "PartBoxModel", name := "nameAt", desc := "(II)I" } : Jvm.MethodName)) ∈ mm_T := mm_in 877 (by decide +kernel) (by decide +kernel)
theorem w_879 : (Jvm.Cond.instanceMethod ({ cls := "PartBoxModel", name := "nameAt", desc := "(II)I" } : Jvm.MethodName)) ∈ mm_T := mm_in 879 (by decide +kernel) (by decide +kernel)
theorem w_880 : (Jvm.Cond.code ({ cls := "PartBoxModel", name := "nameAt", desc := "(II)I" } : Jvm.MethodName) prog_11_method_11_code (3 : Nat) (Option.some Jvm.ClassFile.FieldType.int)) ∈ mm_T := mm_in 880 (by decide +kernel) (by decide +kernel)
theorem w_881 : (Jvm.Cond.methodLink "PartBoxModel" (97 : Nat) ({ cls := "PartBoxModel", name := "findName", desc := "()I" } : Jvm.MethodName)) ∈ mm_T := mm_in 881 (by decide +kernel) (by decide +kernel)
theorem w_883 : (Jvm.Cond.instanceMethod ({ cls := "PartBoxModel", name := "findName", desc := "()I" } : Jvm.MethodName)) ∈ mm_T := mm_in 883 (by decide +kernel) (by decide +kernel)
theorem w_884 : (Jvm.Cond.code ({ cls := "PartBoxModel", name := "findName", desc := "()I" } : Jvm.MethodName) prog_11_method_13_code (4 : Nat) (Option.some Jvm.ClassFile.FieldType.int)) ∈ mm_T := mm_in 884 (by decide +kernel) (by decide +kernel)
theorem w_885 : (Jvm.Cond.methodLink "PartBoxModel" (85 : Nat) ({ cls := "PartBoxModel", name := "small", desc := "(I)I" } : Jvm.MethodName)) ∈ mm_T := mm_in 885 (by decide +kernel) (by decide +kernel)
theorem w_886 : (Jvm.Cond.static ({ cls := "PartBoxModel", name := "small", desc := "(I)I" } : Jvm.MethodName)) ∈ mm_T := mm_in 886 (by decide +kernel) (by decide +kernel)
theorem w_887 : (Jvm.Cond.code ({ cls := "PartBoxModel", name := "small", desc := "(I)I" } : Jvm.MethodName) prog_11_method_10_code (1 : Nat) (Option.some Jvm.ClassFile.FieldType.int)) ∈ mm_T := mm_in 887 (by decide +kernel) (by decide +kernel)
theorem w_888 : (Jvm.Cond.methodLink "PartBoxModel" (105 : Nat) ({ cls := "PartBoxModel", name := "checkOf", desc := "([BII)I" } : Jvm.MethodName)) ∈ mm_T := mm_in 888 (by decide +kernel) (by decide +kernel)
theorem w_889 : (Jvm.Cond.static ({ cls := "PartBoxModel", name := "checkOf", desc := "([BII)I" } : Jvm.MethodName)) ∈ mm_T := mm_in 889 (by decide +kernel) (by decide +kernel)
theorem w_890 : (Jvm.Cond.code ({ cls := "PartBoxModel", name := "checkOf", desc := "([BII)I" } : Jvm.MethodName) prog_11_method_14_code (6 : Nat) (Option.some Jvm.ClassFile.FieldType.int)) ∈ mm_T := mm_in 890 (by decide +kernel) (by decide +kernel)
theorem w_891 : (Jvm.Cond.constant "PartBoxModel" (89 : Nat) (-306674912 : Int32)) ∈ mm_T := mm_in 891 (by decide +kernel) (by decide +kernel)
theorem w_892 : (Jvm.Cond.methodLink "PartBoxModel" (109 : Nat) ({ cls := "PartBoxModel", name := "put", desc := "(III)I" } : Jvm.MethodName)) ∈ mm_T := mm_in 892 (by decide +kernel) (by decide +kernel)
theorem w_894 : (Jvm.Cond.instanceMethod ({ cls := "PartBoxModel", name := "put", desc := "(III)I" } : Jvm.MethodName)) ∈ mm_T := mm_in 894 (by decide +kernel) (by decide +kernel)
theorem w_895 : (Jvm.Cond.code ({ cls := "PartBoxModel", name := "put", desc := "(III)I" } : Jvm.MethodName) prog_11_method_15_code (6 : Nat) (Option.some Jvm.ClassFile.FieldType.int)) ∈ mm_T := mm_in 895 (by decide +kernel) (by decide +kernel)
theorem w_896 : (Jvm.Cond.methodLink "PartBoxLaw" (109 : Nat) ({ cls := "PartBoxModel", name := "addPacked", desc := "(II)I" } : Jvm.MethodName)) ∈ mm_T := mm_in 896 (by decide +kernel) (by decide +kernel)
theorem w_897 : (Jvm.Cond.instanceMethod ({ cls := "PartBoxModel", name := "addPacked", desc := "(II)I" } : Jvm.MethodName)) ∈ mm_T := mm_in 897 (by decide +kernel) (by decide +kernel)
theorem w_898 : (Jvm.Cond.selects "PartBoxModel" ({ cls := "PartBoxModel", name := "addPacked", desc := "(II)I" } : Jvm.MethodName) ({ cls := "PartBoxModel", name := "addPacked", desc := "(II)I" } : Jvm.MethodName)) ∈ mm_T := mm_in 898 (by decide +kernel) (by decide +kernel)
theorem w_899 : (Jvm.Cond.code ({ cls := "PartBoxModel", name := "addPacked", desc := "(II)I" } : Jvm.MethodName) prog_11_method_18_code (3 : Nat) (Option.some Jvm.ClassFile.FieldType.int)) ∈ mm_T := mm_in 899 (by decide +kernel) (by decide +kernel)
theorem w_900 : (Jvm.Cond.methodLink "PartBoxLaw" (112 : Nat) ({ cls := "PartBoxModel", name := "remove", desc := "(I)V" } : Jvm.MethodName)) ∈ mm_T := mm_in 900 (by decide +kernel) (by decide +kernel)
theorem w_901 : (Jvm.Cond.instanceMethod ({ cls := "PartBoxModel", name := "remove", desc := "(I)V" } : Jvm.MethodName)) ∈ mm_T := mm_in 901 (by decide +kernel) (by decide +kernel)
theorem w_902 : (Jvm.Cond.selects "PartBoxModel" ({ cls := "PartBoxModel", name := "remove", desc := "(I)V" } : Jvm.MethodName) ({ cls := "PartBoxModel", name := "remove", desc := "(I)V" } : Jvm.MethodName)) ∈ mm_T := mm_in 902 (by decide +kernel) (by decide +kernel)
theorem w_903 : (Jvm.Cond.code ({ cls := "PartBoxModel", name := "remove", desc := "(I)V" } : Jvm.MethodName) prog_11_method_22_code (3 : Nat) (Option.none : Option Jvm.ClassFile.FieldType)) ∈ mm_T := mm_in 903 (by decide +kernel) (by decide +kernel)
theorem w_904 : (Jvm.Cond.methodLink "PartBoxModel" (113 : Nat) ({ cls := "PartBoxModel", name := "noEntry", desc := "(I)Z" } : Jvm.MethodName)) ∈ mm_T := mm_in 904 (by decide +kernel) (by decide +kernel)
theorem w_906 : (Jvm.Cond.instanceMethod ({ cls := "PartBoxModel", name := "noEntry", desc := "(I)Z" } : Jvm.MethodName)) ∈ mm_T := mm_in 906 (by decide +kernel) (by decide +kernel)
theorem w_907 : (Jvm.Cond.code ({ cls := "PartBoxModel", name := "noEntry", desc := "(I)Z" } : Jvm.MethodName) prog_11_method_19_code (2 : Nat) (Option.some Jvm.ClassFile.FieldType.boolean)) ∈ mm_T := mm_in 907 (by decide +kernel) (by decide +kernel)
theorem w_908 : (Jvm.Cond.methodLink "PartBoxModel" (117 : Nat) ({ cls := "PartBoxModel", name := "copy", desc := "(II)V" } : Jvm.MethodName)) ∈ mm_T := mm_in 908 (by decide +kernel) (by decide +kernel)
theorem w_910 : (Jvm.Cond.instanceMethod ({ cls := "PartBoxModel", name := "copy", desc := "(II)V" } : Jvm.MethodName)) ∈ mm_T := mm_in 910 (by decide +kernel) (by decide +kernel)
theorem w_911 : (Jvm.Cond.code ({ cls := "PartBoxModel", name := "copy", desc := "(II)V" } : Jvm.MethodName) prog_11_method_20_code (4 : Nat) (Option.none : Option Jvm.ClassFile.FieldType)) ∈ mm_T := mm_in 911 (by decide +kernel) (by decide +kernel)
theorem w_912 : (Jvm.Cond.methodLink "PartBoxModel" (121 : Nat) ({ cls := "PartBoxModel", name := "gather", desc := "()V" } : Jvm.MethodName)) ∈ mm_T := mm_in 912 (by decide +kernel) (by decide +kernel)
theorem w_914 : (Jvm.Cond.instanceMethod ({ cls := "PartBoxModel", name := "gather", desc := "()V" } : Jvm.MethodName)) ∈ mm_T := mm_in 914 (by decide +kernel) (by decide +kernel)
theorem w_915 : (Jvm.Cond.code ({ cls := "PartBoxModel", name := "gather", desc := "()V" } : Jvm.MethodName) prog_11_method_21_code (4 : Nat) (Option.none : Option Jvm.ClassFile.FieldType)) ∈ mm_T := mm_in 915 (by decide +kernel) (by decide +kernel)
theorem w_916 : (Jvm.Cond.methodLink "PartBoxLaw" (115 : Nat) ({ cls := "PartBoxModel", name := "move", desc := "(II)V" } : Jvm.MethodName)) ∈ mm_T := mm_in 916 (by decide +kernel) (by decide +kernel)
theorem w_917 : (Jvm.Cond.instanceMethod ({ cls := "PartBoxModel", name := "move", desc := "(II)V" } : Jvm.MethodName)) ∈ mm_T := mm_in 917 (by decide +kernel) (by decide +kernel)
theorem w_918 : (Jvm.Cond.selects "PartBoxModel" ({ cls := "PartBoxModel", name := "move", desc := "(II)V" } : Jvm.MethodName) ({ cls := "PartBoxModel", name := "move", desc := "(II)V" } : Jvm.MethodName)) ∈ mm_T := mm_in 918 (by decide +kernel) (by decide +kernel)
theorem w_919 : (Jvm.Cond.code ({ cls := "PartBoxModel", name := "move", desc := "(II)V" } : Jvm.MethodName) prog_11_method_24_code (5 : Nat) (Option.none : Option Jvm.ClassFile.FieldType)) ∈ mm_T := mm_in 919 (by decide +kernel) (by decide +kernel)
theorem w_920 : (Jvm.Cond.methodLink "PartBoxModel" (124 : Nat) ({ cls := "PartBoxModel", name := "swap", desc := "(II)V" } : Jvm.MethodName)) ∈ mm_T := mm_in 920 (by decide +kernel) (by decide +kernel)
theorem w_922 : (Jvm.Cond.instanceMethod ({ cls := "PartBoxModel", name := "swap", desc := "(II)V" } : Jvm.MethodName)) ∈ mm_T := mm_in 922 (by decide +kernel) (by decide +kernel)
theorem w_923 : (Jvm.Cond.code ({ cls := "PartBoxModel", name := "swap", desc := "(II)V" } : Jvm.MethodName) prog_11_method_23_code (5 : Nat) (Option.none : Option Jvm.ClassFile.FieldType)) ∈ mm_T := mm_in 923 (by decide +kernel) (by decide +kernel)
theorem w_924 : (Jvm.Cond.methodLink "PartBoxLaw" (119 : Nat) ({ cls := "PartBoxModel", name := "find", desc := "()I" } : Jvm.MethodName)) ∈ mm_T := mm_in 924 (by decide +kernel) (by decide +kernel)
theorem w_925 : (Jvm.Cond.instanceMethod ({ cls := "PartBoxModel", name := "find", desc := "()I" } : Jvm.MethodName)) ∈ mm_T := mm_in 925 (by decide +kernel) (by decide +kernel)
theorem w_926 : (Jvm.Cond.selects "PartBoxModel" ({ cls := "PartBoxModel", name := "find", desc := "()I" } : Jvm.MethodName) ({ cls := "PartBoxModel", name := "find", desc := "()I" } : Jvm.MethodName)) ∈ mm_T := mm_in 926 (by decide +kernel) (by decide +kernel)
theorem w_927 : (Jvm.Cond.code ({ cls := "PartBoxModel", name := "find", desc := "()I" } : Jvm.MethodName) prog_11_method_25_code (1 : Nat) (Option.some Jvm.ClassFile.FieldType.int)) ∈ mm_T := mm_in 927 (by decide +kernel) (by decide +kernel)
theorem w_928 : (Jvm.Cond.methodLink "PartBoxLaw" (122 : Nat) ({ cls := "PartBoxModel", name := "about", desc := "(II)I" } : Jvm.MethodName)) ∈ mm_T := mm_in 928 (by decide +kernel) (by decide +kernel)
theorem w_929 : (Jvm.Cond.instanceMethod ({ cls := "PartBoxModel", name := "about", desc := "(II)I" } : Jvm.MethodName)) ∈ mm_T := mm_in 929 (by decide +kernel) (by decide +kernel)
theorem w_930 : (Jvm.Cond.selects "PartBoxModel" ({ cls := "PartBoxModel", name := "about", desc := "(II)I" } : Jvm.MethodName) ({ cls := "PartBoxModel", name := "about", desc := "(II)I" } : Jvm.MethodName)) ∈ mm_T := mm_in 930 (by decide +kernel) (by decide +kernel)
theorem w_931 : (Jvm.Cond.code ({ cls := "PartBoxModel", name := "about", desc := "(II)I" } : Jvm.MethodName) prog_11_method_26_code (3 : Nat) (Option.some Jvm.ClassFile.FieldType.int)) ∈ mm_T := mm_in 931 (by decide +kernel) (by decide +kernel)
theorem w_932 : (Jvm.Cond.methodLink "PartBoxLaw" (125 : Nat) ({ cls := "PartBoxModel", name := "name", desc := "(II)I" } : Jvm.MethodName)) ∈ mm_T := mm_in 932 (by decide +kernel) (by decide +kernel)
theorem w_933 : (Jvm.Cond.instanceMethod ({ cls := "PartBoxModel", name := "name", desc := "(II)I" } : Jvm.MethodName)) ∈ mm_T := mm_in 933 (by decide +kernel) (by decide +kernel)
theorem w_934 : (Jvm.Cond.selects "PartBoxModel" ({ cls := "PartBoxModel", name := "name", desc := "(II)I" } : Jvm.MethodName) ({ cls := "PartBoxModel", name := "name", desc := "(II)I" } : Jvm.MethodName)) ∈ mm_T := mm_in 934 (by decide +kernel) (by decide +kernel)
theorem w_935 : (Jvm.Cond.code ({ cls := "PartBoxModel", name := "name", desc := "(II)I" } : Jvm.MethodName) prog_11_method_27_code (3 : Nat) (Option.some Jvm.ClassFile.FieldType.int)) ∈ mm_T := mm_in 935 (by decide +kernel) (by decide +kernel)
theorem w_936 : (Jvm.Cond.methodLink "PartBoxLaw" (128 : Nat) ({ cls := "PartBoxModel", name := "part", desc := "(II)I" } : Jvm.MethodName)) ∈ mm_T := mm_in 936 (by decide +kernel) (by decide +kernel)
theorem w_937 : (Jvm.Cond.instanceMethod ({ cls := "PartBoxModel", name := "part", desc := "(II)I" } : Jvm.MethodName)) ∈ mm_T := mm_in 937 (by decide +kernel) (by decide +kernel)
theorem w_938 : (Jvm.Cond.selects "PartBoxModel" ({ cls := "PartBoxModel", name := "part", desc := "(II)I" } : Jvm.MethodName) ({ cls := "PartBoxModel", name := "part", desc := "(II)I" } : Jvm.MethodName)) ∈ mm_T := mm_in 938 (by decide +kernel) (by decide +kernel)
theorem w_939 : (Jvm.Cond.code ({ cls := "PartBoxModel", name := "part", desc := "(II)I" } : Jvm.MethodName) prog_11_method_28_code (3 : Nat) (Option.some Jvm.ClassFile.FieldType.int)) ∈ mm_T := mm_in 939 (by decide +kernel) (by decide +kernel)
theorem w_940 : (Jvm.Cond.methodLink "PartBoxLaw" (141 : Nat) ({ cls := "PartBoxModel", name := "count", desc := "()I" } : Jvm.MethodName)) ∈ mm_T := mm_in 940 (by decide +kernel) (by decide +kernel)
theorem w_941 : (Jvm.Cond.instanceMethod ({ cls := "PartBoxModel", name := "count", desc := "()I" } : Jvm.MethodName)) ∈ mm_T := mm_in 941 (by decide +kernel) (by decide +kernel)
theorem w_942 : (Jvm.Cond.selects "PartBoxModel" ({ cls := "PartBoxModel", name := "count", desc := "()I" } : Jvm.MethodName) ({ cls := "PartBoxModel", name := "count", desc := "()I" } : Jvm.MethodName)) ∈ mm_T := mm_in 942 (by decide +kernel) (by decide +kernel)
theorem w_943 : (Jvm.Cond.code ({ cls := "PartBoxModel", name := "count", desc := "()I" } : Jvm.MethodName) prog_11_method_29_code (1 : Nat) (Option.some Jvm.ClassFile.FieldType.int)) ∈ mm_T := mm_in 943 (by decide +kernel) (by decide +kernel)
theorem w_944 : (Jvm.Cond.methodLink "PartBoxLaw" (131 : Nat) ({ cls := "PartBoxModel", name := "write", desc := "()I" } : Jvm.MethodName)) ∈ mm_T := mm_in 944 (by decide +kernel) (by decide +kernel)
theorem w_945 : (Jvm.Cond.instanceMethod ({ cls := "PartBoxModel", name := "write", desc := "()I" } : Jvm.MethodName)) ∈ mm_T := mm_in 945 (by decide +kernel) (by decide +kernel)
theorem w_946 : (Jvm.Cond.selects "PartBoxModel" ({ cls := "PartBoxModel", name := "write", desc := "()I" } : Jvm.MethodName) ({ cls := "PartBoxModel", name := "write", desc := "()I" } : Jvm.MethodName)) ∈ mm_T := mm_in 946 (by decide +kernel) (by decide +kernel)
theorem w_947 : (Jvm.Cond.code ({ cls := "PartBoxModel", name := "write", desc := "()I" } : Jvm.MethodName) prog_11_method_33_code (4 : Nat) (Option.some Jvm.ClassFile.FieldType.int)) ∈ mm_T := mm_in 947 (by decide +kernel) (by decide +kernel)
theorem w_948 : (Jvm.Cond.constant "PartBoxModel" (133 : Nat) (67324752 : Int32)) ∈ mm_T := mm_in 948 (by decide +kernel) (by decide +kernel)
theorem w_949 : (Jvm.Cond.methodLink "PartBoxModel" (130 : Nat) ({ cls := "PartBoxModel", name := "low", desc := "(II)V" } : Jvm.MethodName)) ∈ mm_T := mm_in 949 (by decide +kernel) (by decide +kernel)
theorem w_951 : (Jvm.Cond.instanceMethod ({ cls := "PartBoxModel", name := "low", desc := "(II)V" } : Jvm.MethodName)) ∈ mm_T := mm_in 951 (by decide +kernel) (by decide +kernel)
theorem w_952 : (Jvm.Cond.code ({ cls := "PartBoxModel", name := "low", desc := "(II)V" } : Jvm.MethodName) prog_11_method_30_code (4 : Nat) (Option.none : Option Jvm.ClassFile.FieldType)) ∈ mm_T := mm_in 952 (by decide +kernel) (by decide +kernel)
theorem w_953 : (Jvm.Cond.methodLink "PartBoxModel" (134 : Nat) ({ cls := "PartBoxModel", name := "middle", desc := "(I)V" } : Jvm.MethodName)) ∈ mm_T := mm_in 953 (by decide +kernel) (by decide +kernel)
theorem w_955 : (Jvm.Cond.instanceMethod ({ cls := "PartBoxModel", name := "middle", desc := "(I)V" } : Jvm.MethodName)) ∈ mm_T := mm_in 955 (by decide +kernel) (by decide +kernel)
theorem w_956 : (Jvm.Cond.code ({ cls := "PartBoxModel", name := "middle", desc := "(I)V" } : Jvm.MethodName) prog_11_method_31_code (2 : Nat) (Option.none : Option Jvm.ClassFile.FieldType)) ∈ mm_T := mm_in 956 (by decide +kernel) (by decide +kernel)
theorem w_957 : (Jvm.Cond.methodLink "PartBoxModel" (138 : Nat) ({ cls := "PartBoxModel", name := "writeName", desc := "(I)V" } : Jvm.MethodName)) ∈ mm_T := mm_in 957 (by decide +kernel) (by decide +kernel)
theorem w_959 : (Jvm.Cond.instanceMethod ({ cls := "PartBoxModel", name := "writeName", desc := "(I)V" } : Jvm.MethodName)) ∈ mm_T := mm_in 959 (by decide +kernel) (by decide +kernel)
theorem w_960 : (Jvm.Cond.code ({ cls := "PartBoxModel", name := "writeName", desc := "(I)V" } : Jvm.MethodName) prog_11_method_32_code (3 : Nat) (Option.none : Option Jvm.ClassFile.FieldType)) ∈ mm_T := mm_in 960 (by decide +kernel) (by decide +kernel)
theorem w_961 : (Jvm.Cond.constant "PartBoxModel" (141 : Nat) (33639248 : Int32)) ∈ mm_T := mm_in 961 (by decide +kernel) (by decide +kernel)
theorem w_962 : (Jvm.Cond.constant "PartBoxModel" (142 : Nat) (101010256 : Int32)) ∈ mm_T := mm_in 962 (by decide +kernel) (by decide +kernel)
theorem w_963 : (Jvm.Cond.methodLink "PartBoxLaw" (134 : Nat) ({ cls := "PartBoxModel", name := "read", desc := "(I)I" } : Jvm.MethodName)) ∈ mm_T := mm_in 963 (by decide +kernel) (by decide +kernel)
theorem w_964 : (Jvm.Cond.instanceMethod ({ cls := "PartBoxModel", name := "read", desc := "(I)I" } : Jvm.MethodName)) ∈ mm_T := mm_in 964 (by decide +kernel) (by decide +kernel)
theorem w_965 : (Jvm.Cond.selects "PartBoxModel" ({ cls := "PartBoxModel", name := "read", desc := "(I)I" } : Jvm.MethodName) ({ cls := "PartBoxModel", name := "read", desc := "(I)I" } : Jvm.MethodName)) ∈ mm_T := mm_in 965 (by decide +kernel) (by decide +kernel)
theorem w_966 : (Jvm.Cond.code ({ cls := "PartBoxModel", name := "read", desc := "(I)I" } : Jvm.MethodName) prog_11_method_51_code (4 : Nat) (Option.some Jvm.ClassFile.FieldType.int)) ∈ mm_T := mm_in 966 (by decide +kernel) (by decide +kernel)
theorem w_967 : (Jvm.Cond.methodLink "PartBoxModel" (253 : Nat) ({ cls := "PartBoxModel", name := "isWrong", desc := "()Z" } : Jvm.MethodName)) ∈ mm_T := mm_in 967 (by decide +kernel) (by decide +kernel)
theorem w_969 : (Jvm.Cond.instanceMethod ({ cls := "PartBoxModel", name := "isWrong", desc := "()Z" } : Jvm.MethodName)) ∈ mm_T := mm_in 969 (by decide +kernel) (by decide +kernel)
theorem w_970 : (Jvm.Cond.code ({ cls := "PartBoxModel", name := "isWrong", desc := "()Z" } : Jvm.MethodName) prog_11_method_50_code (2 : Nat) (Option.some Jvm.ClassFile.FieldType.boolean)) ∈ mm_T := mm_in 970 (by decide +kernel) (by decide +kernel)
theorem w_971 : (Jvm.Cond.methodLink "PartBoxModel" (237 : Nat) ({ cls := "PartBoxModel", name := "findEnd", desc := "()Z" } : Jvm.MethodName)) ∈ mm_T := mm_in 971 (by decide +kernel) (by decide +kernel)
theorem w_973 : (Jvm.Cond.instanceMethod ({ cls := "PartBoxModel", name := "findEnd", desc := "()Z" } : Jvm.MethodName)) ∈ mm_T := mm_in 973 (by decide +kernel) (by decide +kernel)
theorem w_974 : (Jvm.Cond.code ({ cls := "PartBoxModel", name := "findEnd", desc := "()Z" } : Jvm.MethodName) prog_11_method_37_code (2 : Nat) (Option.some Jvm.ClassFile.FieldType.boolean)) ∈ mm_T := mm_in 974 (by decide +kernel) (by decide +kernel)
theorem w_975 : (Jvm.Cond.methodLink "PartBoxModel" (157 : Nat) ({ cls := "PartBoxModel", name := "four", desc := "(J)J" } : Jvm.MethodName)) ∈ mm_T := mm_in 975 (by decide +kernel) (by decide +kernel)
theorem w_977 : (Jvm.Cond.instanceMethod ({ cls := "PartBoxModel", name := "four", desc := "(J)J" } : Jvm.MethodName)) ∈ mm_T := mm_in 977 (by decide +kernel) (by decide +kernel)
theorem w_978 : (Jvm.Cond.code ({ cls := "PartBoxModel", name := "four", desc := "(J)J" } : Jvm.MethodName) prog_11_method_35_code (3 : Nat) (Option.some Jvm.ClassFile.FieldType.long)) ∈ mm_T := mm_in 978 (by decide +kernel) (by decide +kernel)
theorem w_979 : (Jvm.Cond.methodLink "PartBoxModel" (143 : Nat) ({ cls := "PartBoxModel", name := "two", desc := "(J)I" } : Jvm.MethodName)) ∈ mm_T := mm_in 979 (by decide +kernel) (by decide +kernel)
theorem w_981 : (Jvm.Cond.instanceMethod ({ cls := "PartBoxModel", name := "two", desc := "(J)I" } : Jvm.MethodName)) ∈ mm_T := mm_in 981 (by decide +kernel) (by decide +kernel)
theorem w_982 : (Jvm.Cond.code ({ cls := "PartBoxModel", name := "two", desc := "(J)I" } : Jvm.MethodName) prog_11_method_34_code (3 : Nat) (Option.some Jvm.ClassFile.FieldType.int)) ∈ mm_T := mm_in 982 (by decide +kernel) (by decide +kernel)
theorem w_983 : (Jvm.Cond.constantLong "PartBoxModel" (147 : Nat) (65536 : Int64)) ∈ mm_T := mm_in 983 (by decide +kernel) (by decide +kernel)
theorem w_984 : (Jvm.Cond.constantLong "PartBoxModel" (149 : Nat) (2 : Int64)) ∈ mm_T := mm_in 984 (by decide +kernel) (by decide +kernel)
theorem w_985 : (Jvm.Cond.constantLong "PartBoxModel" (161 : Nat) (101010256 : Int64)) ∈ mm_T := mm_in 985 (by decide +kernel) (by decide +kernel)
theorem w_986 : (Jvm.Cond.methodLink "PartBoxModel" (163 : Nat) ({ cls := "PartBoxModel", name := "wrong", desc := "(IJI)Z" } : Jvm.MethodName)) ∈ mm_T := mm_in 986 (by decide +kernel) (by decide +kernel)
theorem w_988 : (Jvm.Cond.instanceMethod ({ cls := "PartBoxModel", name := "wrong", desc := "(IJI)Z" } : Jvm.MethodName)) ∈ mm_T := mm_in 988 (by decide +kernel) (by decide +kernel)
theorem w_989 : (Jvm.Cond.code ({ cls := "PartBoxModel", name := "wrong", desc := "(IJI)Z" } : Jvm.MethodName) prog_11_method_36_code (5 : Nat) (Option.some Jvm.ClassFile.FieldType.boolean)) ∈ mm_T := mm_in 989 (by decide +kernel) (by decide +kernel)
theorem w_990 : (Jvm.Cond.methodLink "PartBoxModel" (241 : Nat) ({ cls := "PartBoxModel", name := "readDirectory", desc := "()Z" } : Jvm.MethodName)) ∈ mm_T := mm_in 990 (by decide +kernel) (by decide +kernel)
theorem w_992 : (Jvm.Cond.instanceMethod ({ cls := "PartBoxModel", name := "readDirectory", desc := "()Z" } : Jvm.MethodName)) ∈ mm_T := mm_in 992 (by decide +kernel) (by decide +kernel)
theorem w_993 : (Jvm.Cond.code ({ cls := "PartBoxModel", name := "readDirectory", desc := "()Z" } : Jvm.MethodName) prog_11_method_44_code (12 : Nat) (Option.some Jvm.ClassFile.FieldType.boolean)) ∈ mm_T := mm_in 993 (by decide +kernel) (by decide +kernel)
theorem w_994 : (Jvm.Cond.constantLong "PartBoxModel" (177 : Nat) (46 : Int64)) ∈ mm_T := mm_in 994 (by decide +kernel) (by decide +kernel)
theorem w_995 : (Jvm.Cond.constantLong "PartBoxModel" (179 : Nat) (33639248 : Int64)) ∈ mm_T := mm_in 995 (by decide +kernel) (by decide +kernel)
theorem w_996 : (Jvm.Cond.methodLink "PartBoxModel" (174 : Nat) ({ cls := "PartBoxModel", name := "nameSize", desc := "(I)I" } : Jvm.MethodName)) ∈ mm_T := mm_in 996 (by decide +kernel) (by decide +kernel)
theorem w_998 : (Jvm.Cond.instanceMethod ({ cls := "PartBoxModel", name := "nameSize", desc := "(I)I" } : Jvm.MethodName)) ∈ mm_T := mm_in 998 (by decide +kernel) (by decide +kernel)
theorem w_999 : (Jvm.Cond.code ({ cls := "PartBoxModel", name := "nameSize", desc := "(I)I" } : Jvm.MethodName) prog_11_method_42_code (2 : Nat) (Option.some Jvm.ClassFile.FieldType.int)) ∈ mm_T := mm_in 999 (by decide +kernel) (by decide +kernel)
theorem w_1000 : (Jvm.Cond.constantLong "PartBoxModel" (181 : Nat) (30 : Int64)) ∈ mm_T := mm_in 1000 (by decide +kernel) (by decide +kernel)
theorem w_1001 : (Jvm.Cond.constantLong "PartBoxModel" (183 : Nat) (32 : Int64)) ∈ mm_T := mm_in 1001 (by decide +kernel) (by decide +kernel)
theorem w_1002 : (Jvm.Cond.methodLink "PartBoxModel" (185 : Nat) ({ cls := "PartBoxModel", name := "flags", desc := "(I)I" } : Jvm.MethodName)) ∈ mm_T := mm_in 1002 (by decide +kernel) (by decide +kernel)
theorem w_1004 : (Jvm.Cond.instanceMethod ({ cls := "PartBoxModel", name := "flags", desc := "(I)I" } : Jvm.MethodName)) ∈ mm_T := mm_in 1004 (by decide +kernel) (by decide +kernel)
theorem w_1005 : (Jvm.Cond.code ({ cls := "PartBoxModel", name := "flags", desc := "(I)I" } : Jvm.MethodName) prog_11_method_38_code (2 : Nat) (Option.some Jvm.ClassFile.FieldType.int)) ∈ mm_T := mm_in 1005 (by decide +kernel) (by decide +kernel)
theorem w_1006 : (Jvm.Cond.methodLink "PartBoxModel" (188 : Nat) ({ cls := "PartBoxModel", name := "method", desc := "(I)I" } : Jvm.MethodName)) ∈ mm_T := mm_in 1006 (by decide +kernel) (by decide +kernel)
theorem w_1008 : (Jvm.Cond.instanceMethod ({ cls := "PartBoxModel", name := "method", desc := "(I)I" } : Jvm.MethodName)) ∈ mm_T := mm_in 1008 (by decide +kernel) (by decide +kernel)
theorem w_1009 : (Jvm.Cond.code ({ cls := "PartBoxModel", name := "method", desc := "(I)I" } : Jvm.MethodName) prog_11_method_39_code (2 : Nat) (Option.some Jvm.ClassFile.FieldType.int)) ∈ mm_T := mm_in 1009 (by decide +kernel) (by decide +kernel)
theorem w_1010 : (Jvm.Cond.constantLong "PartBoxModel" (191 : Nat) (34 : Int64)) ∈ mm_T := mm_in 1010 (by decide +kernel) (by decide +kernel)
theorem w_1011 : (Jvm.Cond.methodLink "PartBoxModel" (193 : Nat) ({ cls := "PartBoxModel", name := "sameName", desc := "(II)Z" } : Jvm.MethodName)) ∈ mm_T := mm_in 1011 (by decide +kernel) (by decide +kernel)
theorem w_1013 : (Jvm.Cond.instanceMethod ({ cls := "PartBoxModel", name := "sameName", desc := "(II)Z" } : Jvm.MethodName)) ∈ mm_T := mm_in 1013 (by decide +kernel) (by decide +kernel)
theorem w_1014 : (Jvm.Cond.code ({ cls := "PartBoxModel", name := "sameName", desc := "(II)Z" } : Jvm.MethodName) prog_11_method_43_code (5 : Nat) (Option.some Jvm.ClassFile.FieldType.boolean)) ∈ mm_T := mm_in 1014 (by decide +kernel) (by decide +kernel)
theorem w_1015 : (Jvm.Cond.methodLink "PartBoxModel" (196 : Nat) ({ cls := "PartBoxModel", name := "many", desc := "(I)J" } : Jvm.MethodName)) ∈ mm_T := mm_in 1015 (by decide +kernel) (by decide +kernel)
theorem w_1017 : (Jvm.Cond.instanceMethod ({ cls := "PartBoxModel", name := "many", desc := "(I)J" } : Jvm.MethodName)) ∈ mm_T := mm_in 1017 (by decide +kernel) (by decide +kernel)
theorem w_1018 : (Jvm.Cond.code ({ cls := "PartBoxModel", name := "many", desc := "(I)J" } : Jvm.MethodName) prog_11_method_40_code (2 : Nat) (Option.some Jvm.ClassFile.FieldType.long)) ∈ mm_T := mm_in 1018 (by decide +kernel) (by decide +kernel)
theorem w_1019 : (Jvm.Cond.methodLink "PartBoxModel" (200 : Nat) ({ cls := "PartBoxModel", name := "size", desc := "(I)J" } : Jvm.MethodName)) ∈ mm_T := mm_in 1019 (by decide +kernel) (by decide +kernel)
theorem w_1021 : (Jvm.Cond.instanceMethod ({ cls := "PartBoxModel", name := "size", desc := "(I)J" } : Jvm.MethodName)) ∈ mm_T := mm_in 1021 (by decide +kernel) (by decide +kernel)
theorem w_1022 : (Jvm.Cond.code ({ cls := "PartBoxModel", name := "size", desc := "(I)J" } : Jvm.MethodName) prog_11_method_41_code (2 : Nat) (Option.some Jvm.ClassFile.FieldType.long)) ∈ mm_T := mm_in 1022 (by decide +kernel) (by decide +kernel)
theorem w_1023 : (Jvm.Cond.constantLong "PartBoxModel" (206 : Nat) (42 : Int64)) ∈ mm_T := mm_in 1023 (by decide +kernel) (by decide +kernel)
theorem w_1024 : (Jvm.Cond.methodLink "PartBoxModel" (244 : Nat) ({ cls := "PartBoxModel", name := "isHead", desc := "(I)Z" } : Jvm.MethodName)) ∈ mm_T := mm_in 1024 (by decide +kernel) (by decide +kernel)
theorem w_1026 : (Jvm.Cond.instanceMethod ({ cls := "PartBoxModel", name := "isHead", desc := "(I)Z" } : Jvm.MethodName)) ∈ mm_T := mm_in 1026 (by decide +kernel) (by decide +kernel)
theorem w_1027 : (Jvm.Cond.code ({ cls := "PartBoxModel", name := "isHead", desc := "(I)Z" } : Jvm.MethodName) prog_11_method_46_code (7 : Nat) (Option.some Jvm.ClassFile.FieldType.boolean)) ∈ mm_T := mm_in 1027 (by decide +kernel) (by decide +kernel)
theorem w_1028 : (Jvm.Cond.constantLong "PartBoxModel" (208 : Nat) (67324752 : Int64)) ∈ mm_T := mm_in 1028 (by decide +kernel) (by decide +kernel)
theorem w_1029 : (Jvm.Cond.constantLong "PartBoxModel" (210 : Nat) (26 : Int64)) ∈ mm_T := mm_in 1029 (by decide +kernel) (by decide +kernel)
theorem w_1030 : (Jvm.Cond.constantLong "PartBoxModel" (212 : Nat) (28 : Int64)) ∈ mm_T := mm_in 1030 (by decide +kernel) (by decide +kernel)
theorem w_1031 : (Jvm.Cond.constantLong "PartBoxModel" (214 : Nat) (6 : Int64)) ∈ mm_T := mm_in 1031 (by decide +kernel) (by decide +kernel)
theorem w_1032 : (Jvm.Cond.constantLong "PartBoxModel" (216 : Nat) (8 : Int64)) ∈ mm_T := mm_in 1032 (by decide +kernel) (by decide +kernel)
theorem w_1033 : (Jvm.Cond.constantLong "PartBoxModel" (218 : Nat) (14 : Int64)) ∈ mm_T := mm_in 1033 (by decide +kernel) (by decide +kernel)
theorem w_1034 : (Jvm.Cond.methodLink "PartBoxModel" (220 : Nat) ({ cls := "PartBoxModel", name := "fits", desc := "(IJJ)Z" } : Jvm.MethodName)) ∈ mm_T := mm_in 1034 (by decide +kernel) (by decide +kernel)
theorem w_1036 : (Jvm.Cond.instanceMethod ({ cls := "PartBoxModel", name := "fits", desc := "(IJJ)Z" } : Jvm.MethodName)) ∈ mm_T := mm_in 1036 (by decide +kernel) (by decide +kernel)
theorem w_1037 : (Jvm.Cond.code ({ cls := "PartBoxModel", name := "fits", desc := "(IJJ)Z" } : Jvm.MethodName) prog_11_method_45_code (6 : Nat) (Option.some Jvm.ClassFile.FieldType.boolean)) ∈ mm_T := mm_in 1037 (by decide +kernel) (by decide +kernel)
theorem w_1038 : (Jvm.Cond.constantLong "PartBoxModel" (224 : Nat) (18 : Int64)) ∈ mm_T := mm_in 1038 (by decide +kernel) (by decide +kernel)
theorem w_1039 : (Jvm.Cond.constantLong "PartBoxModel" (226 : Nat) (22 : Int64)) ∈ mm_T := mm_in 1039 (by decide +kernel) (by decide +kernel)
theorem w_1040 : (Jvm.Cond.methodLink "PartBoxModel" (247 : Nat) ({ cls := "PartBoxModel", name := "isBody", desc := "(I)Z" } : Jvm.MethodName)) ∈ mm_T := mm_in 1040 (by decide +kernel) (by decide +kernel)
theorem w_1042 : (Jvm.Cond.instanceMethod ({ cls := "PartBoxModel", name := "isBody", desc := "(I)Z" } : Jvm.MethodName)) ∈ mm_T := mm_in 1042 (by decide +kernel) (by decide +kernel)
theorem w_1043 : (Jvm.Cond.code ({ cls := "PartBoxModel", name := "isBody", desc := "(I)Z" } : Jvm.MethodName) prog_11_method_47_code (6 : Nat) (Option.some Jvm.ClassFile.FieldType.boolean)) ∈ mm_T := mm_in 1043 (by decide +kernel) (by decide +kernel)
theorem w_1044 : (Jvm.Cond.constantLong "PartBoxModel" (228 : Nat) (4 : Int64)) ∈ mm_T := mm_in 1044 (by decide +kernel) (by decide +kernel)
theorem w_1045 : (Jvm.Cond.constantLong "PartBoxModel" (230 : Nat) (134695760 : Int64)) ∈ mm_T := mm_in 1045 (by decide +kernel) (by decide +kernel)
theorem w_1046 : (Jvm.Cond.constantLong "PartBoxModel" (232 : Nat) (12 : Int64)) ∈ mm_T := mm_in 1046 (by decide +kernel) (by decide +kernel)
theorem w_1047 : (Jvm.Cond.methodLink "PartBoxModel" (250 : Nat) ({ cls := "PartBoxModel", name := "readGaps", desc := "()Z" } : Jvm.MethodName)) ∈ mm_T := mm_in 1047 (by decide +kernel) (by decide +kernel)
theorem w_1049 : (Jvm.Cond.instanceMethod ({ cls := "PartBoxModel", name := "readGaps", desc := "()Z" } : Jvm.MethodName)) ∈ mm_T := mm_in 1049 (by decide +kernel) (by decide +kernel)
theorem w_1050 : (Jvm.Cond.code ({ cls := "PartBoxModel", name := "readGaps", desc := "()Z" } : Jvm.MethodName) prog_11_method_49_code (4 : Nat) (Option.some Jvm.ClassFile.FieldType.boolean)) ∈ mm_T := mm_in 1050 (by decide +kernel) (by decide +kernel)
theorem w_1051 : (Jvm.Cond.methodLink "PartBoxModel" (234 : Nat) ({ cls := "PartBoxModel", name := "firstLeft", desc := "()I" } : Jvm.MethodName)) ∈ mm_T := mm_in 1051 (by decide +kernel) (by decide +kernel)
theorem w_1053 : (Jvm.Cond.instanceMethod ({ cls := "PartBoxModel", name := "firstLeft", desc := "()I" } : Jvm.MethodName)) ∈ mm_T := mm_in 1053 (by decide +kernel) (by decide +kernel)
theorem w_1054 : (Jvm.Cond.code ({ cls := "PartBoxModel", name := "firstLeft", desc := "()I" } : Jvm.MethodName) prog_11_method_48_code (3 : Nat) (Option.some Jvm.ClassFile.FieldType.int)) ∈ mm_T := mm_in 1054 (by decide +kernel) (by decide +kernel)
theorem w_1055 : (Jvm.Cond.methodLink "PartBoxLaw" (137 : Nat) ({ cls := "PartBoxModel", name := "blame", desc := "(I)I" } : Jvm.MethodName)) ∈ mm_T := mm_in 1055 (by decide +kernel) (by decide +kernel)
theorem w_1056 : (Jvm.Cond.instanceMethod ({ cls := "PartBoxModel", name := "blame", desc := "(I)I" } : Jvm.MethodName)) ∈ mm_T := mm_in 1056 (by decide +kernel) (by decide +kernel)
theorem w_1057 : (Jvm.Cond.selects "PartBoxModel" ({ cls := "PartBoxModel", name := "blame", desc := "(I)I" } : Jvm.MethodName) ({ cls := "PartBoxModel", name := "blame", desc := "(I)I" } : Jvm.MethodName)) ∈ mm_T := mm_in 1057 (by decide +kernel) (by decide +kernel)
theorem w_1058 : (Jvm.Cond.code ({ cls := "PartBoxModel", name := "blame", desc := "(I)I" } : Jvm.MethodName) prog_11_method_52_code (2 : Nat) (Option.some Jvm.ClassFile.FieldType.int)) ∈ mm_T := mm_in 1058 (by decide +kernel) (by decide +kernel)
theorem nw_64 : (Jvm.Cond.arrayOver (Jvm.ClassFile.FieldType.object "PartBox$Entry")) ∈ mm_NW := mm_inN 64 (by decide +kernel) (by decide +kernel)
theorem nw_73 : (Jvm.Cond.fieldLinkNest "PartBox$Reader" (90 : Nat) "PartBox$Entry" "name" "LPartBox$Bytes;" "PartBox") ∈ mm_NW := mm_inN 73 (by decide +kernel) (by decide +kernel)
theorem nw_74 : (Jvm.Cond.fieldLinkNest "PartBox$Box" (36 : Nat) "PartBox$Entry" "name" "LPartBox$Bytes;" "PartBox") ∈ mm_NW := mm_inN 74 (by decide +kernel) (by decide +kernel)
theorem nw_75 : (Jvm.Cond.fieldLinkNest "PartBox" (142 : Nat) "PartBox$Entry" "name" "LPartBox$Bytes;" "PartBox") ∈ mm_NW := mm_inN 75 (by decide +kernel) (by decide +kernel)
theorem nw_77 : (Jvm.Cond.fieldLinkNest "PartBox" (128 : Nat) "PartBox$Entry" "method" "I" "PartBox") ∈ mm_NW := mm_inN 77 (by decide +kernel) (by decide +kernel)
theorem nw_78 : (Jvm.Cond.fieldLinkNest "PartBox$Box" (96 : Nat) "PartBox$Entry" "method" "I" "PartBox") ∈ mm_NW := mm_inN 78 (by decide +kernel) (by decide +kernel)
theorem nw_79 : (Jvm.Cond.fieldLinkNest "PartBox$Box" (55 : Nat) "PartBox$Entry" "start" "I" "PartBox") ∈ mm_NW := mm_inN 79 (by decide +kernel) (by decide +kernel)
theorem nw_80 : (Jvm.Cond.fieldLinkNest "PartBox" (152 : Nat) "PartBox$Entry" "start" "I" "PartBox") ∈ mm_NW := mm_inN 80 (by decide +kernel) (by decide +kernel)
theorem nw_81 : (Jvm.Cond.fieldLinkNest "PartBox$Box" (58 : Nat) "PartBox$Entry" "byteCount" "I" "PartBox") ∈ mm_NW := mm_inN 81 (by decide +kernel) (by decide +kernel)
theorem nw_82 : (Jvm.Cond.fieldLinkNest "PartBox" (134 : Nat) "PartBox$Entry" "byteCount" "I" "PartBox") ∈ mm_NW := mm_inN 82 (by decide +kernel) (by decide +kernel)
theorem nw_84 : (Jvm.Cond.fieldLinkNest "PartBox" (137 : Nat) "PartBox$Entry" "size" "I" "PartBox") ∈ mm_NW := mm_inN 84 (by decide +kernel) (by decide +kernel)
theorem nw_85 : (Jvm.Cond.fieldLinkNest "PartBox$Box" (102 : Nat) "PartBox$Entry" "size" "I" "PartBox") ∈ mm_NW := mm_inN 85 (by decide +kernel) (by decide +kernel)
theorem nw_87 : (Jvm.Cond.fieldLinkNest "PartBox" (139 : Nat) "PartBox$Entry" "check" "I" "PartBox") ∈ mm_NW := mm_inN 87 (by decide +kernel) (by decide +kernel)
theorem nw_88 : (Jvm.Cond.fieldLinkNest "PartBox$Box" (99 : Nat) "PartBox$Entry" "check" "I" "PartBox") ∈ mm_NW := mm_inN 88 (by decide +kernel) (by decide +kernel)
theorem nw_107 : (Jvm.Cond.fieldLinkNest "PartBox" (149 : Nat) "PartBox$Box" "store" "LPartBox$Bytes;" "PartBox") ∈ mm_NW := mm_inN 107 (by decide +kernel) (by decide +kernel)
theorem nw_123 : (Jvm.Cond.arrayOver (Jvm.ClassFile.FieldType.object "PartBox$Finding")) ∈ mm_NW := mm_inN 123 (by decide +kernel) (by decide +kernel)
theorem nw_131 : (Jvm.Cond.methodLinkNest "PartBox$Finding" (11 : Nat) ({ cls := "PartBox$Facts", name := "<init>", desc := "()V" } : Jvm.MethodName) "PartBox") ∈ mm_NW := mm_inN 131 (by decide +kernel) (by decide +kernel)
theorem nw_136 : (Jvm.Cond.fieldLinkNest "PartBox$Reader" (161 : Nat) "PartBox$Facts" "flags" "I" "PartBox") ∈ mm_NW := mm_inN 136 (by decide +kernel) (by decide +kernel)
theorem nw_138 : (Jvm.Cond.fieldLinkNest "PartBox$Reader" (107 : Nat) "PartBox$Facts" "method" "I" "PartBox") ∈ mm_NW := mm_inN 138 (by decide +kernel) (by decide +kernel)
theorem nw_140 : (Jvm.Cond.fieldLinkNest "PartBox$Reader" (113 : Nat) "PartBox$Facts" "check" "J" "PartBox") ∈ mm_NW := mm_inN 140 (by decide +kernel) (by decide +kernel)
theorem nw_142 : (Jvm.Cond.fieldLinkNest "PartBox$Reader" (82 : Nat) "PartBox$Facts" "byteCount" "J" "PartBox") ∈ mm_NW := mm_inN 142 (by decide +kernel) (by decide +kernel)
theorem nw_144 : (Jvm.Cond.fieldLinkNest "PartBox$Reader" (110 : Nat) "PartBox$Facts" "size" "J" "PartBox") ∈ mm_NW := mm_inN 144 (by decide +kernel) (by decide +kernel)
theorem nw_145 : (Jvm.Cond.fieldLinkNest "PartBox$Finding" (36 : Nat) "PartBox$Facts" "nameLength" "I" "PartBox") ∈ mm_NW := mm_inN 145 (by decide +kernel) (by decide +kernel)
theorem nw_147 : (Jvm.Cond.fieldLinkNest "PartBox$Reader" (98 : Nat) "PartBox$Facts" "nameLength" "I" "PartBox") ∈ mm_NW := mm_inN 147 (by decide +kernel) (by decide +kernel)
theorem nw_148 : (Jvm.Cond.fieldLinkNest "PartBox$Finding" (39 : Nat) "PartBox$Facts" "extraLength" "I" "PartBox") ∈ mm_NW := mm_inN 148 (by decide +kernel) (by decide +kernel)
theorem nw_150 : (Jvm.Cond.fieldLinkNest "PartBox$Reader" (196 : Nat) "PartBox$Facts" "extraLength" "I" "PartBox") ∈ mm_NW := mm_inN 150 (by decide +kernel) (by decide +kernel)
theorem nw_167 : (Jvm.Cond.fieldLinkNest "PartBox$Reader" (76 : Nat) "PartBox$Finding" "facts" "LPartBox$Facts;" "PartBox") ∈ mm_NW := mm_inN 167 (by decide +kernel) (by decide +kernel)
theorem nw_169 : (Jvm.Cond.fieldLinkNest "PartBox$Reader" (95 : Nat) "PartBox$Finding" "nameStart" "I" "PartBox") ∈ mm_NW := mm_inN 169 (by decide +kernel) (by decide +kernel)
theorem nw_171 : (Jvm.Cond.fieldLinkNest "PartBox$Reader" (153 : Nat) "PartBox$Finding" "directoryHeadEnd" "I" "PartBox") ∈ mm_NW := mm_inN 171 (by decide +kernel) (by decide +kernel)
theorem nw_173 : (Jvm.Cond.fieldLinkNest "PartBox$Reader" (177 : Nat) "PartBox$Finding" "head" "J" "PartBox") ∈ mm_NW := mm_inN 173 (by decide +kernel) (by decide +kernel)
theorem nw_174 : (Jvm.Cond.fieldLinkNest "PartBox$Reader" (79 : Nat) "PartBox$Finding" "firstByte" "I" "PartBox") ∈ mm_NW := mm_inN 174 (by decide +kernel) (by decide +kernel)
theorem nw_175 : (Jvm.Cond.fieldLinkNest "PartBox$Reader" (214 : Nat) "PartBox$Finding" "end" "I" "PartBox") ∈ mm_NW := mm_inN 175 (by decide +kernel) (by decide +kernel)
theorem nw_190 : (Jvm.Cond.methodLinkNest "PartBox$Reader" (28 : Nat) ({ cls := "PartBox$Facts", name := "<init>", desc := "()V" } : Jvm.MethodName) "PartBox") ∈ mm_NW := mm_inN 190 (by decide +kernel) (by decide +kernel)
theorem nw_197 : (Jvm.Cond.fieldLinkNest "PartBox" (171 : Nat) "PartBox$Reader" "fault" "I" "PartBox") ∈ mm_NW := mm_inN 197 (by decide +kernel) (by decide +kernel)
theorem nw_199 : (Jvm.Cond.fieldLinkNest "PartBox" (174 : Nat) "PartBox$Reader" "place" "I" "PartBox") ∈ mm_NW := mm_inN 199 (by decide +kernel) (by decide +kernel)
theorem nw_201 : (Jvm.Cond.fieldLinkNest "PartBox" (177 : Nat) "PartBox$Reader" "entry" "I" "PartBox") ∈ mm_NW := mm_inN 201 (by decide +kernel) (by decide +kernel)
theorem v_P_enter : Jvm.Cond.selects "PartBox" ({ cls := "PartBox", name := "enter", desc := "(III)I" } : Jvm.MethodName) ({ cls := "PartBox", name := "enter", desc := "(III)I" } : Jvm.MethodName) ∈ mm_T := mm_inS (q := (({ cls := "PartBox", name := "enter", desc := "(III)I" } : Jvm.MethodName), 5)) 2 (by decide +kernel) (by decide +kernel)
theorem v_P_isTypedNameNew : Jvm.Cond.selects "PartBox" ({ cls := "PartBox", name := "isTypedNameNew", desc := "()Z" } : Jvm.MethodName) ({ cls := "PartBox", name := "isTypedNameNew", desc := "()Z" } : Jvm.MethodName) ∈ mm_T := mm_inS (q := (({ cls := "PartBox", name := "isTypedNameNew", desc := "()Z" } : Jvm.MethodName), 5)) 1 (by decide +kernel) (by decide +kernel)
theorem v_X_writeDirectoryHead : Jvm.Cond.selects "PartBox$Box" ({ cls := "PartBox$Box", name := "writeDirectoryHead", desc := "(LPartBox$Bytes;LPartBox$Entry;I)V" } : Jvm.MethodName) ({ cls := "PartBox$Box", name := "writeDirectoryHead", desc := "(LPartBox$Bytes;LPartBox$Entry;I)V" } : Jvm.MethodName) ∈ mm_T := mm_inS (q := (({ cls := "PartBox$Box", name := "writeDirectoryHead", desc := "(LPartBox$Bytes;LPartBox$Entry;I)V" } : Jvm.MethodName), 3)) 6 (by decide +kernel) (by decide +kernel)
theorem v_X_writeEnd : Jvm.Cond.selects "PartBox$Box" ({ cls := "PartBox$Box", name := "writeEnd", desc := "(LPartBox$Bytes;I)V" } : Jvm.MethodName) ({ cls := "PartBox$Box", name := "writeEnd", desc := "(LPartBox$Bytes;I)V" } : Jvm.MethodName) ∈ mm_T := mm_inS (q := (({ cls := "PartBox$Box", name := "writeEnd", desc := "(LPartBox$Bytes;I)V" } : Jvm.MethodName), 3)) 7 (by decide +kernel) (by decide +kernel)
theorem v_X_writeEntry : Jvm.Cond.selects "PartBox$Box" ({ cls := "PartBox$Box", name := "writeEntry", desc := "(LPartBox$Bytes;LPartBox$Entry;)V" } : Jvm.MethodName) ({ cls := "PartBox$Box", name := "writeEntry", desc := "(LPartBox$Bytes;LPartBox$Entry;)V" } : Jvm.MethodName) ∈ mm_T := mm_inS (q := (({ cls := "PartBox$Box", name := "writeEntry", desc := "(LPartBox$Bytes;LPartBox$Entry;)V" } : Jvm.MethodName), 3)) 4 (by decide +kernel) (by decide +kernel)
theorem v_X_writeFacts : Jvm.Cond.selects "PartBox$Box" ({ cls := "PartBox$Box", name := "writeFacts", desc := "(LPartBox$Bytes;LPartBox$Entry;)V" } : Jvm.MethodName) ({ cls := "PartBox$Box", name := "writeFacts", desc := "(LPartBox$Bytes;LPartBox$Entry;)V" } : Jvm.MethodName) ∈ mm_T := mm_inS (q := (({ cls := "PartBox$Box", name := "writeFacts", desc := "(LPartBox$Bytes;LPartBox$Entry;)V" } : Jvm.MethodName), 3)) 5 (by decide +kernel) (by decide +kernel)
theorem v_B_holds : Jvm.Cond.selects "PartBox$Bytes" ({ cls := "PartBox$Bytes", name := "holds", desc := "(II)Z" } : Jvm.MethodName) ({ cls := "PartBox$Bytes", name := "holds", desc := "(II)Z" } : Jvm.MethodName) ∈ mm_T := mm_inS (q := (({ cls := "PartBox$Bytes", name := "holds", desc := "(II)Z" } : Jvm.MethodName), 2)) 3 (by decide +kernel) (by decide +kernel)
theorem v_R_areBytesSound : Jvm.Cond.selects "PartBox$Reader" ({ cls := "PartBox$Reader", name := "areBytesSound", desc := "(LPartBox$Finding;)Z" } : Jvm.MethodName) ({ cls := "PartBox$Reader", name := "areBytesSound", desc := "(LPartBox$Finding;)Z" } : Jvm.MethodName) ∈ mm_T := mm_inS (q := (({ cls := "PartBox$Reader", name := "areBytesSound", desc := "(LPartBox$Finding;)Z" } : Jvm.MethodName), 13)) 17 (by decide +kernel) (by decide +kernel)
theorem v_R_areSame : Jvm.Cond.selects "PartBox$Reader" ({ cls := "PartBox$Reader", name := "areSame", desc := "(III)Z" } : Jvm.MethodName) ({ cls := "PartBox$Reader", name := "areSame", desc := "(III)Z" } : Jvm.MethodName) ∈ mm_T := mm_inS (q := (({ cls := "PartBox$Reader", name := "areSame", desc := "(III)Z" } : Jvm.MethodName), 13)) 16 (by decide +kernel) (by decide +kernel)
theorem v_R_directoryFault : Jvm.Cond.selects "PartBox$Reader" ({ cls := "PartBox$Reader", name := "directoryFault", desc := "(III)I" } : Jvm.MethodName) ({ cls := "PartBox$Reader", name := "directoryFault", desc := "(III)I" } : Jvm.MethodName) ∈ mm_T := mm_inS (q := (({ cls := "PartBox$Reader", name := "directoryFault", desc := "(III)I" } : Jvm.MethodName), 13)) 12 (by decide +kernel) (by decide +kernel)
theorem v_R_examineChecks : Jvm.Cond.selects "PartBox$Reader" ({ cls := "PartBox$Reader", name := "examineChecks", desc := "()Z" } : Jvm.MethodName) ({ cls := "PartBox$Reader", name := "examineChecks", desc := "()Z" } : Jvm.MethodName) ∈ mm_T := mm_inS (q := (({ cls := "PartBox$Reader", name := "examineChecks", desc := "()Z" } : Jvm.MethodName), 13)) 20 (by decide +kernel) (by decide +kernel)
theorem v_R_examineDirectory : Jvm.Cond.selects "PartBox$Reader" ({ cls := "PartBox$Reader", name := "examineDirectory", desc := "(I)Z" } : Jvm.MethodName) ({ cls := "PartBox$Reader", name := "examineDirectory", desc := "(I)Z" } : Jvm.MethodName) ∈ mm_T := mm_inS (q := (({ cls := "PartBox$Reader", name := "examineDirectory", desc := "(I)Z" } : Jvm.MethodName), 13)) 11 (by decide +kernel) (by decide +kernel)
theorem v_R_examineEnd : Jvm.Cond.selects "PartBox$Reader" ({ cls := "PartBox$Reader", name := "examineEnd", desc := "()Z" } : Jvm.MethodName) ({ cls := "PartBox$Reader", name := "examineEnd", desc := "()Z" } : Jvm.MethodName) ∈ mm_T := mm_inS (q := (({ cls := "PartBox$Reader", name := "examineEnd", desc := "()Z" } : Jvm.MethodName), 13)) 9 (by decide +kernel) (by decide +kernel)
theorem v_R_examineEntries : Jvm.Cond.selects "PartBox$Reader" ({ cls := "PartBox$Reader", name := "examineEntries", desc := "()Z" } : Jvm.MethodName) ({ cls := "PartBox$Reader", name := "examineEntries", desc := "()Z" } : Jvm.MethodName) ∈ mm_T := mm_inS (q := (({ cls := "PartBox$Reader", name := "examineEntries", desc := "()Z" } : Jvm.MethodName), 13)) 14 (by decide +kernel) (by decide +kernel)
theorem v_R_examinePlaces : Jvm.Cond.selects "PartBox$Reader" ({ cls := "PartBox$Reader", name := "examinePlaces", desc := "()Z" } : Jvm.MethodName) ({ cls := "PartBox$Reader", name := "examinePlaces", desc := "()Z" } : Jvm.MethodName) ∈ mm_T := mm_inS (q := (({ cls := "PartBox$Reader", name := "examinePlaces", desc := "()Z" } : Jvm.MethodName), 13)) 18 (by decide +kernel) (by decide +kernel)
theorem v_R_isHeadSound : Jvm.Cond.selects "PartBox$Reader" ({ cls := "PartBox$Reader", name := "isHeadSound", desc := "(LPartBox$Finding;)Z" } : Jvm.MethodName) ({ cls := "PartBox$Reader", name := "isHeadSound", desc := "(LPartBox$Finding;)Z" } : Jvm.MethodName) ∈ mm_T := mm_inS (q := (({ cls := "PartBox$Reader", name := "isHeadSound", desc := "(LPartBox$Finding;)Z" } : Jvm.MethodName), 13)) 15 (by decide +kernel) (by decide +kernel)
theorem v_R_isNamedBefore : Jvm.Cond.selects "PartBox$Reader" ({ cls := "PartBox$Reader", name := "isNamedBefore", desc := "(I)Z" } : Jvm.MethodName) ({ cls := "PartBox$Reader", name := "isNamedBefore", desc := "(I)Z" } : Jvm.MethodName) ∈ mm_T := mm_inS (q := (({ cls := "PartBox$Reader", name := "isNamedBefore", desc := "(I)Z" } : Jvm.MethodName), 13)) 13 (by decide +kernel) (by decide +kernel)
theorem v_R_lastEnd : Jvm.Cond.selects "PartBox$Reader" ({ cls := "PartBox$Reader", name := "lastEnd", desc := "()I" } : Jvm.MethodName) ({ cls := "PartBox$Reader", name := "lastEnd", desc := "()I" } : Jvm.MethodName) ∈ mm_T := mm_inS (q := (({ cls := "PartBox$Reader", name := "lastEnd", desc := "()I" } : Jvm.MethodName), 13)) 10 (by decide +kernel) (by decide +kernel)
theorem v_R_note : Jvm.Cond.selects "PartBox$Reader" ({ cls := "PartBox$Reader", name := "note", desc := "(III)Z" } : Jvm.MethodName) ({ cls := "PartBox$Reader", name := "note", desc := "(III)Z" } : Jvm.MethodName) ∈ mm_T := mm_inS (q := (({ cls := "PartBox$Reader", name := "note", desc := "(III)Z" } : Jvm.MethodName), 13)) 8 (by decide +kernel) (by decide +kernel)
theorem v_R_orderByHeads : Jvm.Cond.selects "PartBox$Reader" ({ cls := "PartBox$Reader", name := "orderByHeads", desc := "()V" } : Jvm.MethodName) ({ cls := "PartBox$Reader", name := "orderByHeads", desc := "()V" } : Jvm.MethodName) ∈ mm_T := mm_inS (q := (({ cls := "PartBox$Reader", name := "orderByHeads", desc := "()V" } : Jvm.MethodName), 13)) 19 (by decide +kernel) (by decide +kernel)
theorem v_M_copy : Jvm.Cond.selects "PartBoxModel" ({ cls := "PartBoxModel", name := "copy", desc := "(II)V" } : Jvm.MethodName) ({ cls := "PartBoxModel", name := "copy", desc := "(II)V" } : Jvm.MethodName) ∈ mm_T := mm_inS (q := (({ cls := "PartBoxModel", name := "copy", desc := "(II)V" } : Jvm.MethodName), 29)) 27 (by decide +kernel) (by decide +kernel)
theorem v_M_findEnd : Jvm.Cond.selects "PartBoxModel" ({ cls := "PartBoxModel", name := "findEnd", desc := "()Z" } : Jvm.MethodName) ({ cls := "PartBoxModel", name := "findEnd", desc := "()Z" } : Jvm.MethodName) ∈ mm_T := mm_inS (q := (({ cls := "PartBoxModel", name := "findEnd", desc := "()Z" } : Jvm.MethodName), 29)) 34 (by decide +kernel) (by decide +kernel)
theorem v_M_findName : Jvm.Cond.selects "PartBoxModel" ({ cls := "PartBoxModel", name := "findName", desc := "()I" } : Jvm.MethodName) ({ cls := "PartBoxModel", name := "findName", desc := "()I" } : Jvm.MethodName) ∈ mm_T := mm_inS (q := (({ cls := "PartBoxModel", name := "findName", desc := "()I" } : Jvm.MethodName), 29)) 24 (by decide +kernel) (by decide +kernel)
theorem v_M_firstLeft : Jvm.Cond.selects "PartBoxModel" ({ cls := "PartBoxModel", name := "firstLeft", desc := "()I" } : Jvm.MethodName) ({ cls := "PartBoxModel", name := "firstLeft", desc := "()I" } : Jvm.MethodName) ∈ mm_T := mm_inS (q := (({ cls := "PartBoxModel", name := "firstLeft", desc := "()I" } : Jvm.MethodName), 29)) 49 (by decide +kernel) (by decide +kernel)
theorem v_M_fits : Jvm.Cond.selects "PartBoxModel" ({ cls := "PartBoxModel", name := "fits", desc := "(IJJ)Z" } : Jvm.MethodName) ({ cls := "PartBoxModel", name := "fits", desc := "(IJJ)Z" } : Jvm.MethodName) ∈ mm_T := mm_inS (q := (({ cls := "PartBoxModel", name := "fits", desc := "(IJJ)Z" } : Jvm.MethodName), 29)) 46 (by decide +kernel) (by decide +kernel)
theorem v_M_flags : Jvm.Cond.selects "PartBoxModel" ({ cls := "PartBoxModel", name := "flags", desc := "(I)I" } : Jvm.MethodName) ({ cls := "PartBoxModel", name := "flags", desc := "(I)I" } : Jvm.MethodName) ∈ mm_T := mm_inS (q := (({ cls := "PartBoxModel", name := "flags", desc := "(I)I" } : Jvm.MethodName), 29)) 40 (by decide +kernel) (by decide +kernel)
theorem v_M_four : Jvm.Cond.selects "PartBoxModel" ({ cls := "PartBoxModel", name := "four", desc := "(J)J" } : Jvm.MethodName) ({ cls := "PartBoxModel", name := "four", desc := "(J)J" } : Jvm.MethodName) ∈ mm_T := mm_inS (q := (({ cls := "PartBoxModel", name := "four", desc := "(J)J" } : Jvm.MethodName), 29)) 35 (by decide +kernel) (by decide +kernel)
theorem v_M_gather : Jvm.Cond.selects "PartBoxModel" ({ cls := "PartBoxModel", name := "gather", desc := "()V" } : Jvm.MethodName) ({ cls := "PartBoxModel", name := "gather", desc := "()V" } : Jvm.MethodName) ∈ mm_T := mm_inS (q := (({ cls := "PartBoxModel", name := "gather", desc := "()V" } : Jvm.MethodName), 29)) 28 (by decide +kernel) (by decide +kernel)
theorem v_M_isBody : Jvm.Cond.selects "PartBoxModel" ({ cls := "PartBoxModel", name := "isBody", desc := "(I)Z" } : Jvm.MethodName) ({ cls := "PartBoxModel", name := "isBody", desc := "(I)Z" } : Jvm.MethodName) ∈ mm_T := mm_inS (q := (({ cls := "PartBoxModel", name := "isBody", desc := "(I)Z" } : Jvm.MethodName), 29)) 47 (by decide +kernel) (by decide +kernel)
theorem v_M_isHead : Jvm.Cond.selects "PartBoxModel" ({ cls := "PartBoxModel", name := "isHead", desc := "(I)Z" } : Jvm.MethodName) ({ cls := "PartBoxModel", name := "isHead", desc := "(I)Z" } : Jvm.MethodName) ∈ mm_T := mm_inS (q := (({ cls := "PartBoxModel", name := "isHead", desc := "(I)Z" } : Jvm.MethodName), 29)) 45 (by decide +kernel) (by decide +kernel)
theorem v_M_isName : Jvm.Cond.selects "PartBoxModel" ({ cls := "PartBoxModel", name := "isName", desc := "(II)Z" } : Jvm.MethodName) ({ cls := "PartBoxModel", name := "isName", desc := "(II)Z" } : Jvm.MethodName) ∈ mm_T := mm_inS (q := (({ cls := "PartBoxModel", name := "isName", desc := "(II)Z" } : Jvm.MethodName), 29)) 22 (by decide +kernel) (by decide +kernel)
theorem v_M_isWrong : Jvm.Cond.selects "PartBoxModel" ({ cls := "PartBoxModel", name := "isWrong", desc := "()Z" } : Jvm.MethodName) ({ cls := "PartBoxModel", name := "isWrong", desc := "()Z" } : Jvm.MethodName) ∈ mm_T := mm_inS (q := (({ cls := "PartBoxModel", name := "isWrong", desc := "()Z" } : Jvm.MethodName), 29)) 33 (by decide +kernel) (by decide +kernel)
theorem v_M_low : Jvm.Cond.selects "PartBoxModel" ({ cls := "PartBoxModel", name := "low", desc := "(II)V" } : Jvm.MethodName) ({ cls := "PartBoxModel", name := "low", desc := "(II)V" } : Jvm.MethodName) ∈ mm_T := mm_inS (q := (({ cls := "PartBoxModel", name := "low", desc := "(II)V" } : Jvm.MethodName), 29)) 30 (by decide +kernel) (by decide +kernel)
theorem v_M_many : Jvm.Cond.selects "PartBoxModel" ({ cls := "PartBoxModel", name := "many", desc := "(I)J" } : Jvm.MethodName) ({ cls := "PartBoxModel", name := "many", desc := "(I)J" } : Jvm.MethodName) ∈ mm_T := mm_inS (q := (({ cls := "PartBoxModel", name := "many", desc := "(I)J" } : Jvm.MethodName), 29)) 43 (by decide +kernel) (by decide +kernel)
theorem v_M_method : Jvm.Cond.selects "PartBoxModel" ({ cls := "PartBoxModel", name := "method", desc := "(I)I" } : Jvm.MethodName) ({ cls := "PartBoxModel", name := "method", desc := "(I)I" } : Jvm.MethodName) ∈ mm_T := mm_inS (q := (({ cls := "PartBoxModel", name := "method", desc := "(I)I" } : Jvm.MethodName), 29)) 41 (by decide +kernel) (by decide +kernel)
theorem v_M_middle : Jvm.Cond.selects "PartBoxModel" ({ cls := "PartBoxModel", name := "middle", desc := "(I)V" } : Jvm.MethodName) ({ cls := "PartBoxModel", name := "middle", desc := "(I)V" } : Jvm.MethodName) ∈ mm_T := mm_inS (q := (({ cls := "PartBoxModel", name := "middle", desc := "(I)V" } : Jvm.MethodName), 29)) 31 (by decide +kernel) (by decide +kernel)
theorem v_M_nameAt : Jvm.Cond.selects "PartBoxModel" ({ cls := "PartBoxModel", name := "nameAt", desc := "(II)I" } : Jvm.MethodName) ({ cls := "PartBoxModel", name := "nameAt", desc := "(II)I" } : Jvm.MethodName) ∈ mm_T := mm_inS (q := (({ cls := "PartBoxModel", name := "nameAt", desc := "(II)I" } : Jvm.MethodName), 29)) 23 (by decide +kernel) (by decide +kernel)
theorem v_M_nameSize : Jvm.Cond.selects "PartBoxModel" ({ cls := "PartBoxModel", name := "nameSize", desc := "(I)I" } : Jvm.MethodName) ({ cls := "PartBoxModel", name := "nameSize", desc := "(I)I" } : Jvm.MethodName) ∈ mm_T := mm_inS (q := (({ cls := "PartBoxModel", name := "nameSize", desc := "(I)I" } : Jvm.MethodName), 29)) 39 (by decide +kernel) (by decide +kernel)
theorem v_M_noEntry : Jvm.Cond.selects "PartBoxModel" ({ cls := "PartBoxModel", name := "noEntry", desc := "(I)Z" } : Jvm.MethodName) ({ cls := "PartBoxModel", name := "noEntry", desc := "(I)Z" } : Jvm.MethodName) ∈ mm_T := mm_inS (q := (({ cls := "PartBoxModel", name := "noEntry", desc := "(I)Z" } : Jvm.MethodName), 29)) 26 (by decide +kernel) (by decide +kernel)
theorem v_M_put : Jvm.Cond.selects "PartBoxModel" ({ cls := "PartBoxModel", name := "put", desc := "(III)I" } : Jvm.MethodName) ({ cls := "PartBoxModel", name := "put", desc := "(III)I" } : Jvm.MethodName) ∈ mm_T := mm_inS (q := (({ cls := "PartBoxModel", name := "put", desc := "(III)I" } : Jvm.MethodName), 29)) 25 (by decide +kernel) (by decide +kernel)
theorem v_M_readDirectory : Jvm.Cond.selects "PartBoxModel" ({ cls := "PartBoxModel", name := "readDirectory", desc := "()Z" } : Jvm.MethodName) ({ cls := "PartBoxModel", name := "readDirectory", desc := "()Z" } : Jvm.MethodName) ∈ mm_T := mm_inS (q := (({ cls := "PartBoxModel", name := "readDirectory", desc := "()Z" } : Jvm.MethodName), 29)) 38 (by decide +kernel) (by decide +kernel)
theorem v_M_readGaps : Jvm.Cond.selects "PartBoxModel" ({ cls := "PartBoxModel", name := "readGaps", desc := "()Z" } : Jvm.MethodName) ({ cls := "PartBoxModel", name := "readGaps", desc := "()Z" } : Jvm.MethodName) ∈ mm_T := mm_inS (q := (({ cls := "PartBoxModel", name := "readGaps", desc := "()Z" } : Jvm.MethodName), 29)) 48 (by decide +kernel) (by decide +kernel)
theorem v_M_refused : Jvm.Cond.selects "PartBoxModel" ({ cls := "PartBoxModel", name := "refused", desc := "(Z)I" } : Jvm.MethodName) ({ cls := "PartBoxModel", name := "refused", desc := "(Z)I" } : Jvm.MethodName) ∈ mm_T := mm_inS (q := (({ cls := "PartBoxModel", name := "refused", desc := "(Z)I" } : Jvm.MethodName), 29)) 21 (by decide +kernel) (by decide +kernel)
theorem v_M_sameName : Jvm.Cond.selects "PartBoxModel" ({ cls := "PartBoxModel", name := "sameName", desc := "(II)Z" } : Jvm.MethodName) ({ cls := "PartBoxModel", name := "sameName", desc := "(II)Z" } : Jvm.MethodName) ∈ mm_T := mm_inS (q := (({ cls := "PartBoxModel", name := "sameName", desc := "(II)Z" } : Jvm.MethodName), 29)) 42 (by decide +kernel) (by decide +kernel)
theorem v_M_size : Jvm.Cond.selects "PartBoxModel" ({ cls := "PartBoxModel", name := "size", desc := "(I)J" } : Jvm.MethodName) ({ cls := "PartBoxModel", name := "size", desc := "(I)J" } : Jvm.MethodName) ∈ mm_T := mm_inS (q := (({ cls := "PartBoxModel", name := "size", desc := "(I)J" } : Jvm.MethodName), 29)) 44 (by decide +kernel) (by decide +kernel)
theorem v_M_swap : Jvm.Cond.selects "PartBoxModel" ({ cls := "PartBoxModel", name := "swap", desc := "(II)V" } : Jvm.MethodName) ({ cls := "PartBoxModel", name := "swap", desc := "(II)V" } : Jvm.MethodName) ∈ mm_T := mm_inS (q := (({ cls := "PartBoxModel", name := "swap", desc := "(II)V" } : Jvm.MethodName), 29)) 29 (by decide +kernel) (by decide +kernel)
theorem v_M_two : Jvm.Cond.selects "PartBoxModel" ({ cls := "PartBoxModel", name := "two", desc := "(J)I" } : Jvm.MethodName) ({ cls := "PartBoxModel", name := "two", desc := "(J)I" } : Jvm.MethodName) ∈ mm_T := mm_inS (q := (({ cls := "PartBoxModel", name := "two", desc := "(J)I" } : Jvm.MethodName), 29)) 36 (by decide +kernel) (by decide +kernel)
theorem v_M_writeName : Jvm.Cond.selects "PartBoxModel" ({ cls := "PartBoxModel", name := "writeName", desc := "(I)V" } : Jvm.MethodName) ({ cls := "PartBoxModel", name := "writeName", desc := "(I)V" } : Jvm.MethodName) ∈ mm_T := mm_inS (q := (({ cls := "PartBoxModel", name := "writeName", desc := "(I)V" } : Jvm.MethodName), 29)) 32 (by decide +kernel) (by decide +kernel)
theorem v_M_wrong : Jvm.Cond.selects "PartBoxModel" ({ cls := "PartBoxModel", name := "wrong", desc := "(IJI)Z" } : Jvm.MethodName) ({ cls := "PartBoxModel", name := "wrong", desc := "(IJI)Z" } : Jvm.MethodName) ∈ mm_T := mm_inS (q := (({ cls := "PartBoxModel", name := "wrong", desc := "(IJI)Z" } : Jvm.MethodName), 29)) 37 (by decide +kernel) (by decide +kernel)
theorem ch_P : ∀ w ∈ u_ws R_P T_P 5, w ∈ mm_T := List.forall_mem_cons.mpr ⟨w_239, List.forall_mem_cons.mpr ⟨w_241, List.forall_mem_cons.mpr ⟨w_243, List.forall_mem_cons.mpr ⟨w_245, List.forall_mem_cons.mpr ⟨w_247, fun _ h => absurd h List.not_mem_nil⟩⟩⟩⟩⟩
theorem cc_P : mm_cls 0 R_P T_P 5 ty_P := ⟨rfl, ch_P, by decide +kernel, by decide +kernel⟩
theorem df_P : ∀ j, j < 5 → defaultValue (ty_P j) = vp_V [.null, .null, .null, .null, .null] j := by decide +kernel
theorem dz_P : ∀ v ∈ ([.null, .null, .null, .null, .null] : List Value), mm_cv 0 v := by intro v hv; simp only [List.mem_cons, List.not_mem_nil, or_false] at hv; rcases hv with rfl | rfl | rfl | rfl | rfl <;> trivial
theorem ch_X : ∀ w ∈ u_ws R_X T_X 3, w ∈ mm_T := List.forall_mem_cons.mpr ⟨w_109, List.forall_mem_cons.mpr ⟨w_111, List.forall_mem_cons.mpr ⟨w_113, fun _ h => absurd h List.not_mem_nil⟩⟩⟩
theorem cc_X : mm_cls 1 R_X T_X 3 ty_X := ⟨rfl, ch_X, by decide +kernel, by decide +kernel⟩
theorem df_X : ∀ j, j < 3 → defaultValue (ty_X j) = vp_V [.null, .null, .int 0] j := by decide +kernel
theorem dz_X : ∀ v ∈ ([.null, .null, .int 0] : List Value), mm_cv 0 v := by intro v hv; simp only [List.mem_cons, List.not_mem_nil, or_false] at hv; rcases hv with rfl | rfl | rfl <;> trivial
theorem ch_B : ∀ w ∈ u_ws R_B T_B 2, w ∈ mm_T := List.forall_mem_cons.mpr ⟨w_39, List.forall_mem_cons.mpr ⟨w_41, fun _ h => absurd h List.not_mem_nil⟩⟩
theorem cc_B : mm_cls 2 R_B T_B 2 ty_B := ⟨rfl, ch_B, by decide +kernel, by decide +kernel⟩
theorem df_B : ∀ j, j < 2 → defaultValue (ty_B j) = vp_V [.null, .int 0] j := by decide +kernel
theorem dz_B : ∀ v ∈ ([.null, .int 0] : List Value), mm_cv 0 v := by intro v hv; simp only [List.mem_cons, List.not_mem_nil, or_false] at hv; rcases hv with rfl | rfl <;> trivial
theorem ch_C : ∀ w ∈ u_ws R_C T_C 1, w ∈ mm_T := List.forall_mem_cons.mpr ⟨w_53, fun _ h => absurd h List.not_mem_nil⟩
theorem cc_C : mm_cls 3 R_C T_C 1 ty_C := ⟨rfl, ch_C, by decide +kernel, by decide +kernel⟩
theorem df_C : ∀ j, j < 1 → defaultValue (ty_C j) = vp_V [.null] j := by decide +kernel
theorem dz_C : ∀ v ∈ ([.null] : List Value), mm_cv 0 v := by intro v hv; simp only [List.mem_cons, List.not_mem_nil, or_false] at hv; subst hv; trivial
theorem ch_E : ∀ w ∈ u_ws R_E T_E 6, w ∈ mm_T := List.forall_mem_cons.mpr ⟨w_89, List.forall_mem_cons.mpr ⟨w_91, List.forall_mem_cons.mpr ⟨w_93, List.forall_mem_cons.mpr ⟨w_95, List.forall_mem_cons.mpr ⟨w_97, List.forall_mem_cons.mpr ⟨w_99, fun _ h => absurd h List.not_mem_nil⟩⟩⟩⟩⟩⟩
theorem cc_E : mm_cls 4 R_E T_E 6 ty_E := ⟨rfl, ch_E, by decide +kernel, by decide +kernel⟩
theorem df_E : ∀ j, j < 6 → defaultValue (ty_E j) = vp_V [.null, .int 0, .int 0, .int 0, .int 0, .int 0] j := by decide +kernel
theorem dz_E : ∀ v ∈ ([.null, .int 0, .int 0, .int 0, .int 0, .int 0] : List Value), mm_cv 0 v := by intro v hv; simp only [List.mem_cons, List.not_mem_nil, or_false] at hv; rcases hv with rfl | rfl | rfl | rfl | rfl | rfl <;> trivial
theorem ch_F : ∀ w ∈ u_ws R_F T_F 7, w ∈ mm_T := List.forall_mem_cons.mpr ⟨w_151, List.forall_mem_cons.mpr ⟨w_153, List.forall_mem_cons.mpr ⟨w_155, List.forall_mem_cons.mpr ⟨w_157, List.forall_mem_cons.mpr ⟨w_159, List.forall_mem_cons.mpr ⟨w_161, List.forall_mem_cons.mpr ⟨w_163, fun _ h => absurd h List.not_mem_nil⟩⟩⟩⟩⟩⟩⟩
theorem cc_F : mm_cls 5 R_F T_F 7 ty_F := ⟨rfl, ch_F, by decide +kernel, by decide +kernel⟩
theorem df_F : ∀ j, j < 7 → defaultValue (ty_F j) = vp_V [.int 0, .int 0, .long 0, .long 0, .long 0, .int 0, .int 0] j := by decide +kernel
theorem dz_F : ∀ v ∈ ([.int 0, .int 0, .long 0, .long 0, .long 0, .int 0, .int 0] : List Value), mm_cv 0 v := by intro v hv; simp only [List.mem_cons, List.not_mem_nil, or_false] at hv; rcases hv with rfl | rfl | rfl | rfl | rfl | rfl | rfl <;> trivial
theorem ch_G : ∀ w ∈ u_ws R_G T_G 6, w ∈ mm_T := List.forall_mem_cons.mpr ⟨w_176, List.forall_mem_cons.mpr ⟨w_178, List.forall_mem_cons.mpr ⟨w_180, List.forall_mem_cons.mpr ⟨w_182, List.forall_mem_cons.mpr ⟨w_184, List.forall_mem_cons.mpr ⟨w_186, fun _ h => absurd h List.not_mem_nil⟩⟩⟩⟩⟩⟩
theorem cc_G : mm_cls 6 R_G T_G 6 ty_G := ⟨rfl, ch_G, by decide +kernel, by decide +kernel⟩
theorem df_G : ∀ j, j < 6 → defaultValue (ty_G j) = vp_V [.null, .int 0, .int 0, .long 0, .int 0, .int 0] j := by decide +kernel
theorem dz_G : ∀ v ∈ ([.null, .int 0, .int 0, .long 0, .int 0, .int 0] : List Value), mm_cv 0 v := by intro v hv; simp only [List.mem_cons, List.not_mem_nil, or_false] at hv; rcases hv with rfl | rfl | rfl | rfl | rfl | rfl <;> trivial
theorem ch_R : ∀ w ∈ u_ws R_R T_R 13, w ∈ mm_T := List.forall_mem_cons.mpr ⟨w_207, List.forall_mem_cons.mpr ⟨w_209, List.forall_mem_cons.mpr ⟨w_211, List.forall_mem_cons.mpr ⟨w_213, List.forall_mem_cons.mpr ⟨w_215, List.forall_mem_cons.mpr ⟨w_217, List.forall_mem_cons.mpr ⟨w_219, List.forall_mem_cons.mpr ⟨w_221, List.forall_mem_cons.mpr ⟨w_223, List.forall_mem_cons.mpr ⟨w_225, List.forall_mem_cons.mpr ⟨w_227, List.forall_mem_cons.mpr ⟨w_229, List.forall_mem_cons.mpr ⟨w_231, fun _ h => absurd h List.not_mem_nil⟩⟩⟩⟩⟩⟩⟩⟩⟩⟩⟩⟩⟩
theorem cc_R : mm_cls 7 R_R T_R 13 ty_R := ⟨rfl, ch_R, by decide +kernel, by decide +kernel⟩
theorem df_R : ∀ j, j < 13 → defaultValue (ty_R j) = vp_V [.null, .null, .null, .null, .null, .int 0, .int 0, .int 0, .int 0, .int 0, .int 0, .long 0, .long 0] j := by decide +kernel
theorem dz_R : ∀ v ∈ ([.null, .null, .null, .null, .null, .int 0, .int 0, .int 0, .int 0, .int 0, .int 0, .long 0, .long 0] : List Value), mm_cv 0 v := by intro v hv; simp only [List.mem_cons, List.not_mem_nil, or_false] at hv; rcases hv with rfl | rfl | rfl | rfl | rfl | rfl | rfl | rfl | rfl | rfl | rfl | rfl | rfl <;> trivial
theorem ch_M : ∀ w ∈ u_ws R_M T_M 29, w ∈ mm_T := List.forall_mem_cons.mpr ⟨w_772, List.forall_mem_cons.mpr ⟨w_774, List.forall_mem_cons.mpr ⟨w_776, List.forall_mem_cons.mpr ⟨w_778, List.forall_mem_cons.mpr ⟨w_780, List.forall_mem_cons.mpr ⟨w_782, List.forall_mem_cons.mpr ⟨w_784, List.forall_mem_cons.mpr ⟨w_786, List.forall_mem_cons.mpr ⟨w_788, List.forall_mem_cons.mpr ⟨w_790, List.forall_mem_cons.mpr ⟨w_792, List.forall_mem_cons.mpr ⟨w_794, List.forall_mem_cons.mpr ⟨w_796, List.forall_mem_cons.mpr ⟨w_798, List.forall_mem_cons.mpr ⟨w_800, List.forall_mem_cons.mpr ⟨w_802, List.forall_mem_cons.mpr ⟨w_804, List.forall_mem_cons.mpr ⟨w_806, List.forall_mem_cons.mpr ⟨w_808, List.forall_mem_cons.mpr ⟨w_810, List.forall_mem_cons.mpr ⟨w_812, List.forall_mem_cons.mpr ⟨w_814, List.forall_mem_cons.mpr ⟨w_816, List.forall_mem_cons.mpr ⟨w_818, List.forall_mem_cons.mpr ⟨w_820, List.forall_mem_cons.mpr ⟨w_822, List.forall_mem_cons.mpr ⟨w_824, List.forall_mem_cons.mpr ⟨w_826, List.forall_mem_cons.mpr ⟨w_828, fun _ h => absurd h List.not_mem_nil⟩⟩⟩⟩⟩⟩⟩⟩⟩⟩⟩⟩⟩⟩⟩⟩⟩⟩⟩⟩⟩⟩⟩⟩⟩⟩⟩⟩⟩
theorem cc_M : mm_cls 8 R_M T_M 29 ty_M := ⟨rfl, ch_M, by decide +kernel, by decide +kernel⟩
theorem df_M : ∀ j, j < 29 → defaultValue (ty_M j) = vp_V [.int 0, .int 0, .null, .int 0, .null, .int 0, .null, .null, .null, .null, .null, .null, .null, .int 0, .null, .null, .int 0, .int 0, .int 0, .int 0, .int 0, .long 0, .int 0, .null, .null, .null, .null, .null, .int 0] j := by decide +kernel
theorem dz_M : ∀ v ∈ ([.int 0, .int 0, .null, .int 0, .null, .int 0, .null, .null, .null, .null, .null, .null, .null, .int 0, .null, .null, .int 0, .int 0, .int 0, .int 0, .int 0, .long 0, .int 0, .null, .null, .null, .null, .null, .int 0] : List Value), mm_cv 0 v := by intro v hv; simp only [List.mem_cons, List.not_mem_nil, or_false] at hv; rcases hv with rfl | rfl | rfl | rfl | rfl | rfl | rfl | rfl | rfl | rfl | rfl | rfl | rfl | rfl | rfl | rfl | rfl | rfl | rfl | rfl | rfl | rfl | rfl | rfl | rfl | rfl | rfl | rfl | rfl <;> trivial
theorem ca_P_init : mm_cal k_P_init ({ cls := "PartBox", name := "<init>", desc := "()V" } : Jvm.MethodName) 0 := ⟨w_23, rfl, rfl, by decide +kernel, rfl, ⟨by decide, by decide⟩, by decide +kernel, w_1⟩
theorem ca_P_feed : mm_cal k_P_feed ({ cls := "PartBox", name := "feed", desc := "(IIIII)V" } : Jvm.MethodName) 5 := ⟨w_300, rfl, rfl, by decide +kernel, rfl, ⟨by decide, by decide⟩, by decide +kernel, w_1⟩
theorem ca_P_end : mm_cal k_P_end ({ cls := "PartBox", name := "end", desc := "(I)V" } : Jvm.MethodName) 1 := ⟨w_387, rfl, rfl, by decide +kernel, rfl, ⟨by decide, by decide⟩, by decide +kernel, w_1⟩
theorem ca_P_alter : mm_cal k_P_alter ({ cls := "PartBox", name := "alter", desc := "(II)V" } : Jvm.MethodName) 2 := ⟨w_411, rfl, rfl, by decide +kernel, rfl, ⟨by decide, by decide⟩, by decide +kernel, w_1⟩
theorem ca_P_length : mm_cal k_P_length ({ cls := "PartBox", name := "length", desc := "()I" } : Jvm.MethodName) 0 := ⟨w_253, rfl, rfl, by decide +kernel, rfl, ⟨by decide, by decide⟩, by decide +kernel, w_1⟩
theorem ca_P_byteAt : mm_cal k_P_byteAt ({ cls := "PartBox", name := "byteAt", desc := "(I)I" } : Jvm.MethodName) 1 := ⟨w_439, rfl, rfl, by decide +kernel, rfl, ⟨by decide, by decide⟩, by decide +kernel, w_1⟩
theorem ca_P_type : mm_cal k_P_type ({ cls := "PartBox", name := "type", desc := "(I)I" } : Jvm.MethodName) 1 := ⟨w_447, rfl, rfl, by decide +kernel, rfl, ⟨by decide, by decide⟩, by decide +kernel, w_1⟩
theorem ca_P_erase : mm_cal k_P_erase ({ cls := "PartBox", name := "erase", desc := "()V" } : Jvm.MethodName) 0 := ⟨w_261, rfl, rfl, by decide +kernel, rfl, ⟨by decide, by decide⟩, by decide +kernel, w_1⟩
theorem ca_P_add : mm_cal k_P_add ({ cls := "PartBox", name := "add", desc := "()I" } : Jvm.MethodName) 0 := ⟨w_457, rfl, rfl, by decide +kernel, rfl, ⟨by decide, by decide⟩, by decide +kernel, w_1⟩
theorem ca_P_addPacked : mm_cal k_P_addPacked ({ cls := "PartBox", name := "addPacked", desc := "(II)I" } : Jvm.MethodName) 2 := ⟨w_508, rfl, rfl, by decide +kernel, rfl, ⟨by decide, by decide⟩, by decide +kernel, w_1⟩
theorem ca_P_remove : mm_cal k_P_remove ({ cls := "PartBox", name := "remove", desc := "(I)V" } : Jvm.MethodName) 1 := ⟨w_516, rfl, rfl, by decide +kernel, rfl, ⟨by decide, by decide⟩, by decide +kernel, w_1⟩
theorem ca_P_move : mm_cal k_P_move ({ cls := "PartBox", name := "move", desc := "(II)V" } : Jvm.MethodName) 2 := ⟨w_541, rfl, rfl, by decide +kernel, rfl, ⟨by decide, by decide⟩, by decide +kernel, w_1⟩
theorem ca_P_find : mm_cal k_P_find ({ cls := "PartBox", name := "find", desc := "()I" } : Jvm.MethodName) 0 := ⟨w_269, rfl, rfl, by decide +kernel, rfl, ⟨by decide, by decide⟩, by decide +kernel, w_1⟩
theorem ca_P_about : mm_cal k_P_about ({ cls := "PartBox", name := "about", desc := "(II)I" } : Jvm.MethodName) 2 := ⟨w_549, rfl, rfl, by decide +kernel, rfl, ⟨by decide, by decide⟩, by decide +kernel, w_1⟩
theorem ca_P_name : mm_cal k_P_name ({ cls := "PartBox", name := "name", desc := "(II)I" } : Jvm.MethodName) 2 := ⟨w_561, rfl, rfl, by decide +kernel, rfl, ⟨by decide, by decide⟩, by decide +kernel, w_1⟩
theorem ca_P_part : mm_cal k_P_part ({ cls := "PartBox", name := "part", desc := "(II)I" } : Jvm.MethodName) 2 := ⟨w_568, rfl, rfl, by decide +kernel, rfl, ⟨by decide, by decide⟩, by decide +kernel, w_1⟩
theorem ca_P_write : mm_cal k_P_write ({ cls := "PartBox", name := "write", desc := "()I" } : Jvm.MethodName) 0 := ⟨w_576, rfl, rfl, by decide +kernel, rfl, ⟨by decide, by decide⟩, by decide +kernel, w_1⟩
theorem ca_P_read : mm_cal k_P_read ({ cls := "PartBox", name := "read", desc := "(I)I" } : Jvm.MethodName) 1 := ⟨w_617, rfl, rfl, by decide +kernel, rfl, ⟨by decide, by decide⟩, by decide +kernel, w_1⟩
theorem ca_P_blame : mm_cal k_P_blame ({ cls := "PartBox", name := "blame", desc := "(I)I" } : Jvm.MethodName) 1 := ⟨w_734, rfl, rfl, by decide +kernel, rfl, ⟨by decide, by decide⟩, by decide +kernel, w_1⟩
theorem ca_P_count : mm_cal k_P_count ({ cls := "PartBox", name := "count", desc := "()I" } : Jvm.MethodName) 0 := ⟨w_288, rfl, rfl, by decide +kernel, rfl, ⟨by decide, by decide⟩, by decide +kernel, w_1⟩
theorem ca_P_isTypedNameNew : mm_cal k_P_isTypedNameNew ({ cls := "PartBox", name := "isTypedNameNew", desc := "()Z" } : Jvm.MethodName) 0 := ⟨w_461, rfl, rfl, by decide +kernel, rfl, ⟨by decide, by decide⟩, by decide +kernel, w_1⟩
theorem ca_P_enter : mm_cal k_P_enter ({ cls := "PartBox", name := "enter", desc := "(III)I" } : Jvm.MethodName) 3 := ⟨w_477, rfl, rfl, by decide +kernel, rfl, ⟨by decide, by decide⟩, by decide +kernel, w_1⟩
theorem ca_M_init : mm_cal k_M_init ({ cls := "PartBoxModel", name := "<init>", desc := "()V" } : Jvm.MethodName) 0 := ⟨w_740, rfl, rfl, by decide +kernel, rfl, ⟨by decide, by decide⟩, by decide +kernel, w_10⟩
theorem ca_M_thrown : mm_cal k_M_thrown ({ cls := "PartBoxModel", name := "thrown", desc := "()I" } : Jvm.MethodName) 0 := ⟨w_836, rfl, rfl, by decide +kernel, rfl, ⟨by decide, by decide⟩, by decide +kernel, w_10⟩
theorem ca_M_feed : mm_cal k_M_feed ({ cls := "PartBoxModel", name := "feed", desc := "(IIIII)V" } : Jvm.MethodName) 5 := ⟨w_840, rfl, rfl, by decide +kernel, rfl, ⟨by decide, by decide⟩, by decide +kernel, w_10⟩
theorem ca_M_end : mm_cal k_M_end ({ cls := "PartBoxModel", name := "end", desc := "(I)V" } : Jvm.MethodName) 1 := ⟨w_844, rfl, rfl, by decide +kernel, rfl, ⟨by decide, by decide⟩, by decide +kernel, w_10⟩
theorem ca_M_alter : mm_cal k_M_alter ({ cls := "PartBoxModel", name := "alter", desc := "(II)V" } : Jvm.MethodName) 2 := ⟨w_848, rfl, rfl, by decide +kernel, rfl, ⟨by decide, by decide⟩, by decide +kernel, w_10⟩
theorem ca_M_length : mm_cal k_M_length ({ cls := "PartBoxModel", name := "length", desc := "()I" } : Jvm.MethodName) 0 := ⟨w_852, rfl, rfl, by decide +kernel, rfl, ⟨by decide, by decide⟩, by decide +kernel, w_10⟩
theorem ca_M_byteAt : mm_cal k_M_byteAt ({ cls := "PartBoxModel", name := "byteAt", desc := "(I)I" } : Jvm.MethodName) 1 := ⟨w_856, rfl, rfl, by decide +kernel, rfl, ⟨by decide, by decide⟩, by decide +kernel, w_10⟩
theorem ca_M_type : mm_cal k_M_type ({ cls := "PartBoxModel", name := "type", desc := "(I)I" } : Jvm.MethodName) 1 := ⟨w_860, rfl, rfl, by decide +kernel, rfl, ⟨by decide, by decide⟩, by decide +kernel, w_10⟩
theorem ca_M_erase : mm_cal k_M_erase ({ cls := "PartBoxModel", name := "erase", desc := "()V" } : Jvm.MethodName) 0 := ⟨w_864, rfl, rfl, by decide +kernel, rfl, ⟨by decide, by decide⟩, by decide +kernel, w_10⟩
theorem ca_M_small : mm_cal k_M_small ({ cls := "PartBoxModel", name := "small", desc := "(I)I" } : Jvm.MethodName) 1 := ⟨w_887, rfl, rfl, by decide +kernel, rfl, ⟨by decide, by decide⟩, by decide +kernel, w_10⟩
theorem ca_M_nameAt : mm_cal k_M_nameAt ({ cls := "PartBoxModel", name := "nameAt", desc := "(II)I" } : Jvm.MethodName) 2 := ⟨w_880, rfl, rfl, by decide +kernel, rfl, ⟨by decide, by decide⟩, by decide +kernel, w_10⟩
theorem ca_M_isName : mm_cal k_M_isName ({ cls := "PartBoxModel", name := "isName", desc := "(II)Z" } : Jvm.MethodName) 2 := ⟨w_876, rfl, rfl, by decide +kernel, rfl, ⟨by decide, by decide⟩, by decide +kernel, w_10⟩
theorem ca_M_findName : mm_cal k_M_findName ({ cls := "PartBoxModel", name := "findName", desc := "()I" } : Jvm.MethodName) 0 := ⟨w_884, rfl, rfl, by decide +kernel, rfl, ⟨by decide, by decide⟩, by decide +kernel, w_10⟩
theorem ca_M_checkOf : mm_cal k_M_checkOf ({ cls := "PartBoxModel", name := "checkOf", desc := "([BII)I" } : Jvm.MethodName) 3 := ⟨w_890, rfl, rfl, by decide +kernel, rfl, ⟨by decide, by decide⟩, by decide +kernel, w_10⟩
theorem ca_M_put : mm_cal k_M_put ({ cls := "PartBoxModel", name := "put", desc := "(III)I" } : Jvm.MethodName) 3 := ⟨w_895, rfl, rfl, by decide +kernel, rfl, ⟨by decide, by decide⟩, by decide +kernel, w_10⟩
theorem ca_M_refused : mm_cal k_M_refused ({ cls := "PartBoxModel", name := "refused", desc := "(Z)I" } : Jvm.MethodName) 1 := ⟨w_872, rfl, rfl, by decide +kernel, rfl, ⟨by decide, by decide⟩, by decide +kernel, w_10⟩
theorem ca_M_add : mm_cal k_M_add ({ cls := "PartBoxModel", name := "add", desc := "()I" } : Jvm.MethodName) 0 := ⟨w_868, rfl, rfl, by decide +kernel, rfl, ⟨by decide, by decide⟩, by decide +kernel, w_10⟩
theorem ca_M_addPacked : mm_cal k_M_addPacked ({ cls := "PartBoxModel", name := "addPacked", desc := "(II)I" } : Jvm.MethodName) 2 := ⟨w_899, rfl, rfl, by decide +kernel, rfl, ⟨by decide, by decide⟩, by decide +kernel, w_10⟩
theorem ca_M_noEntry : mm_cal k_M_noEntry ({ cls := "PartBoxModel", name := "noEntry", desc := "(I)Z" } : Jvm.MethodName) 1 := ⟨w_907, rfl, rfl, by decide +kernel, rfl, ⟨by decide, by decide⟩, by decide +kernel, w_10⟩
theorem ca_M_copy : mm_cal k_M_copy ({ cls := "PartBoxModel", name := "copy", desc := "(II)V" } : Jvm.MethodName) 2 := ⟨w_911, rfl, rfl, by decide +kernel, rfl, ⟨by decide, by decide⟩, by decide +kernel, w_10⟩
theorem ca_M_gather : mm_cal k_M_gather ({ cls := "PartBoxModel", name := "gather", desc := "()V" } : Jvm.MethodName) 0 := ⟨w_915, rfl, rfl, by decide +kernel, rfl, ⟨by decide, by decide⟩, by decide +kernel, w_10⟩
theorem ca_M_remove : mm_cal k_M_remove ({ cls := "PartBoxModel", name := "remove", desc := "(I)V" } : Jvm.MethodName) 1 := ⟨w_903, rfl, rfl, by decide +kernel, rfl, ⟨by decide, by decide⟩, by decide +kernel, w_10⟩
theorem ca_M_swap : mm_cal k_M_swap ({ cls := "PartBoxModel", name := "swap", desc := "(II)V" } : Jvm.MethodName) 2 := ⟨w_923, rfl, rfl, by decide +kernel, rfl, ⟨by decide, by decide⟩, by decide +kernel, w_10⟩
theorem ca_M_move : mm_cal k_M_move ({ cls := "PartBoxModel", name := "move", desc := "(II)V" } : Jvm.MethodName) 2 := ⟨w_919, rfl, rfl, by decide +kernel, rfl, ⟨by decide, by decide⟩, by decide +kernel, w_10⟩
theorem ca_M_find : mm_cal k_M_find ({ cls := "PartBoxModel", name := "find", desc := "()I" } : Jvm.MethodName) 0 := ⟨w_927, rfl, rfl, by decide +kernel, rfl, ⟨by decide, by decide⟩, by decide +kernel, w_10⟩
theorem ca_M_about : mm_cal k_M_about ({ cls := "PartBoxModel", name := "about", desc := "(II)I" } : Jvm.MethodName) 2 := ⟨w_931, rfl, rfl, by decide +kernel, rfl, ⟨by decide, by decide⟩, by decide +kernel, w_10⟩
theorem ca_M_name : mm_cal k_M_name ({ cls := "PartBoxModel", name := "name", desc := "(II)I" } : Jvm.MethodName) 2 := ⟨w_935, rfl, rfl, by decide +kernel, rfl, ⟨by decide, by decide⟩, by decide +kernel, w_10⟩
theorem ca_M_part : mm_cal k_M_part ({ cls := "PartBoxModel", name := "part", desc := "(II)I" } : Jvm.MethodName) 2 := ⟨w_939, rfl, rfl, by decide +kernel, rfl, ⟨by decide, by decide⟩, by decide +kernel, w_10⟩
theorem ca_M_count : mm_cal k_M_count ({ cls := "PartBoxModel", name := "count", desc := "()I" } : Jvm.MethodName) 0 := ⟨w_943, rfl, rfl, by decide +kernel, rfl, ⟨by decide, by decide⟩, by decide +kernel, w_10⟩
theorem ca_M_low : mm_cal k_M_low ({ cls := "PartBoxModel", name := "low", desc := "(II)V" } : Jvm.MethodName) 2 := ⟨w_952, rfl, rfl, by decide +kernel, rfl, ⟨by decide, by decide⟩, by decide +kernel, w_10⟩
theorem ca_M_middle : mm_cal k_M_middle ({ cls := "PartBoxModel", name := "middle", desc := "(I)V" } : Jvm.MethodName) 1 := ⟨w_956, rfl, rfl, by decide +kernel, rfl, ⟨by decide, by decide⟩, by decide +kernel, w_10⟩
theorem ca_M_writeName : mm_cal k_M_writeName ({ cls := "PartBoxModel", name := "writeName", desc := "(I)V" } : Jvm.MethodName) 1 := ⟨w_960, rfl, rfl, by decide +kernel, rfl, ⟨by decide, by decide⟩, by decide +kernel, w_10⟩
theorem ca_M_write : mm_cal k_M_write ({ cls := "PartBoxModel", name := "write", desc := "()I" } : Jvm.MethodName) 0 := ⟨w_947, rfl, rfl, by decide +kernel, rfl, ⟨by decide, by decide⟩, by decide +kernel, w_10⟩
theorem ca_M_two : mm_cal k_M_two ({ cls := "PartBoxModel", name := "two", desc := "(J)I" } : Jvm.MethodName) 1 := ⟨w_982, rfl, rfl, by decide +kernel, rfl, ⟨by decide, by decide⟩, by decide +kernel, w_10⟩
theorem ca_M_four : mm_cal k_M_four ({ cls := "PartBoxModel", name := "four", desc := "(J)J" } : Jvm.MethodName) 1 := ⟨w_978, rfl, rfl, by decide +kernel, rfl, ⟨by decide, by decide⟩, by decide +kernel, w_10⟩
theorem ca_M_wrong : mm_cal k_M_wrong ({ cls := "PartBoxModel", name := "wrong", desc := "(IJI)Z" } : Jvm.MethodName) 3 := ⟨w_989, rfl, rfl, by decide +kernel, rfl, ⟨by decide, by decide⟩, by decide +kernel, w_10⟩
theorem ca_M_findEnd : mm_cal k_M_findEnd ({ cls := "PartBoxModel", name := "findEnd", desc := "()Z" } : Jvm.MethodName) 0 := ⟨w_974, rfl, rfl, by decide +kernel, rfl, ⟨by decide, by decide⟩, by decide +kernel, w_10⟩
theorem ca_M_flags : mm_cal k_M_flags ({ cls := "PartBoxModel", name := "flags", desc := "(I)I" } : Jvm.MethodName) 1 := ⟨w_1005, rfl, rfl, by decide +kernel, rfl, ⟨by decide, by decide⟩, by decide +kernel, w_10⟩
theorem ca_M_method : mm_cal k_M_method ({ cls := "PartBoxModel", name := "method", desc := "(I)I" } : Jvm.MethodName) 1 := ⟨w_1009, rfl, rfl, by decide +kernel, rfl, ⟨by decide, by decide⟩, by decide +kernel, w_10⟩
theorem ca_M_many : mm_cal k_M_many ({ cls := "PartBoxModel", name := "many", desc := "(I)J" } : Jvm.MethodName) 1 := ⟨w_1018, rfl, rfl, by decide +kernel, rfl, ⟨by decide, by decide⟩, by decide +kernel, w_10⟩
theorem ca_M_size : mm_cal k_M_size ({ cls := "PartBoxModel", name := "size", desc := "(I)J" } : Jvm.MethodName) 1 := ⟨w_1022, rfl, rfl, by decide +kernel, rfl, ⟨by decide, by decide⟩, by decide +kernel, w_10⟩
theorem ca_M_nameSize : mm_cal k_M_nameSize ({ cls := "PartBoxModel", name := "nameSize", desc := "(I)I" } : Jvm.MethodName) 1 := ⟨w_999, rfl, rfl, by decide +kernel, rfl, ⟨by decide, by decide⟩, by decide +kernel, w_10⟩
theorem ca_M_sameName : mm_cal k_M_sameName ({ cls := "PartBoxModel", name := "sameName", desc := "(II)Z" } : Jvm.MethodName) 2 := ⟨w_1014, rfl, rfl, by decide +kernel, rfl, ⟨by decide, by decide⟩, by decide +kernel, w_10⟩
theorem ca_M_readDirectory : mm_cal k_M_readDirectory ({ cls := "PartBoxModel", name := "readDirectory", desc := "()Z" } : Jvm.MethodName) 0 := ⟨w_993, rfl, rfl, by decide +kernel, rfl, ⟨by decide, by decide⟩, by decide +kernel, w_10⟩
theorem ca_M_fits : mm_cal k_M_fits ({ cls := "PartBoxModel", name := "fits", desc := "(IJJ)Z" } : Jvm.MethodName) 3 := ⟨w_1037, rfl, rfl, by decide +kernel, rfl, ⟨by decide, by decide⟩, by decide +kernel, w_10⟩
theorem ca_M_isHead : mm_cal k_M_isHead ({ cls := "PartBoxModel", name := "isHead", desc := "(I)Z" } : Jvm.MethodName) 1 := ⟨w_1027, rfl, rfl, by decide +kernel, rfl, ⟨by decide, by decide⟩, by decide +kernel, w_10⟩
theorem ca_M_isBody : mm_cal k_M_isBody ({ cls := "PartBoxModel", name := "isBody", desc := "(I)Z" } : Jvm.MethodName) 1 := ⟨w_1043, rfl, rfl, by decide +kernel, rfl, ⟨by decide, by decide⟩, by decide +kernel, w_10⟩
theorem ca_M_firstLeft : mm_cal k_M_firstLeft ({ cls := "PartBoxModel", name := "firstLeft", desc := "()I" } : Jvm.MethodName) 0 := ⟨w_1054, rfl, rfl, by decide +kernel, rfl, ⟨by decide, by decide⟩, by decide +kernel, w_10⟩
theorem ca_M_readGaps : mm_cal k_M_readGaps ({ cls := "PartBoxModel", name := "readGaps", desc := "()Z" } : Jvm.MethodName) 0 := ⟨w_1050, rfl, rfl, by decide +kernel, rfl, ⟨by decide, by decide⟩, by decide +kernel, w_10⟩
theorem ca_M_isWrong : mm_cal k_M_isWrong ({ cls := "PartBoxModel", name := "isWrong", desc := "()Z" } : Jvm.MethodName) 0 := ⟨w_970, rfl, rfl, by decide +kernel, rfl, ⟨by decide, by decide⟩, by decide +kernel, w_10⟩
theorem ca_M_read : mm_cal k_M_read ({ cls := "PartBoxModel", name := "read", desc := "(I)I" } : Jvm.MethodName) 1 := ⟨w_966, rfl, rfl, by decide +kernel, rfl, ⟨by decide, by decide⟩, by decide +kernel, w_10⟩
theorem ca_M_blame : mm_cal k_M_blame ({ cls := "PartBoxModel", name := "blame", desc := "(I)I" } : Jvm.MethodName) 1 := ⟨w_1058, rfl, rfl, by decide +kernel, rfl, ⟨by decide, by decide⟩, by decide +kernel, w_10⟩
theorem ca_X_init : mm_cal k_X_init ({ cls := "PartBox$Box", name := "<init>", desc := "()V" } : Jvm.MethodName) 0 := ⟨w_61, rfl, rfl, by decide +kernel, rfl, ⟨by decide, by decide⟩, by decide +kernel, w_5⟩
theorem ca_X_size : mm_cal k_X_size ({ cls := "PartBox$Box", name := "size", desc := "()I" } : Jvm.MethodName) 0 := ⟨w_292, rfl, rfl, by decide +kernel, rfl, ⟨by decide, by decide⟩, by decide +kernel, w_5⟩
theorem ca_X_has : mm_cal k_X_has ({ cls := "PartBox$Box", name := "has", desc := "(I)Z" } : Jvm.MethodName) 1 := ⟨w_520, rfl, rfl, by decide +kernel, rfl, ⟨by decide, by decide⟩, by decide +kernel, w_5⟩
theorem ca_X_pick : mm_cal k_X_pick ({ cls := "PartBox$Box", name := "pick", desc := "(I)LPartBox$Entry;" } : Jvm.MethodName) 1 := ⟨w_553, rfl, rfl, by decide +kernel, rfl, ⟨by decide, by decide⟩, by decide +kernel, w_5⟩
theorem ca_X_numberOf : mm_cal k_X_numberOf ({ cls := "PartBox$Box", name := "numberOf", desc := "(LPartBox$Bytes;)I" } : Jvm.MethodName) 1 := ⟨w_273, rfl, rfl, by decide +kernel, rfl, ⟨by decide, by decide⟩, by decide +kernel, w_5⟩
theorem ca_X_append : mm_cal k_X_append ({ cls := "PartBox$Box", name := "append", desc := "(LPartBox$Bytes;II)LPartBox$Entry;" } : Jvm.MethodName) 3 := ⟨w_481, rfl, rfl, by decide +kernel, rfl, ⟨by decide, by decide⟩, by decide +kernel, w_5⟩
theorem ca_X_clear : mm_cal k_X_clear ({ cls := "PartBox$Box", name := "clear", desc := "()V" } : Jvm.MethodName) 0 := ⟨w_724, rfl, rfl, by decide +kernel, rfl, ⟨by decide, by decide⟩, by decide +kernel, w_5⟩
theorem ca_X_drop : mm_cal k_X_drop ({ cls := "PartBox$Box", name := "drop", desc := "(I)V" } : Jvm.MethodName) 1 := ⟨w_525, rfl, rfl, by decide +kernel, rfl, ⟨by decide, by decide⟩, by decide +kernel, w_5⟩
theorem ca_X_shift : mm_cal k_X_shift ({ cls := "PartBox$Box", name := "shift", desc := "(II)V" } : Jvm.MethodName) 2 := ⟨w_534, rfl, rfl, by decide +kernel, rfl, ⟨by decide, by decide⟩, by decide +kernel, w_5⟩
theorem ca_X_writtenLength : mm_cal k_X_writtenLength ({ cls := "PartBox$Box", name := "writtenLength", desc := "()I" } : Jvm.MethodName) 0 := ⟨w_580, rfl, rfl, by decide +kernel, rfl, ⟨by decide, by decide⟩, by decide +kernel, w_5⟩
theorem ca_X_writeOver : mm_cal k_X_writeOver ({ cls := "PartBox$Box", name := "writeOver", desc := "(LPartBox$Bytes;)V" } : Jvm.MethodName) 1 := ⟨w_587, rfl, rfl, by decide +kernel, rfl, ⟨by decide, by decide⟩, by decide +kernel, w_5⟩
theorem ca_X_lengthWithHead : mm_cal k_X_lengthWithHead ({ cls := "PartBox$Box", name := "lengthWithHead", desc := "(LPartBox$Entry;)I" } : Jvm.MethodName) 1 := ⟨w_583, rfl, rfl, by decide +kernel, rfl, ⟨by decide, by decide⟩, by decide +kernel, w_5⟩
theorem ca_X_writeEntry : mm_cal k_X_writeEntry ({ cls := "PartBox$Box", name := "writeEntry", desc := "(LPartBox$Bytes;LPartBox$Entry;)V" } : Jvm.MethodName) 2 := ⟨w_591, rfl, rfl, by decide +kernel, rfl, ⟨by decide, by decide⟩, by decide +kernel, w_5⟩
theorem ca_X_writeDirectoryHead : mm_cal k_X_writeDirectoryHead ({ cls := "PartBox$Box", name := "writeDirectoryHead", desc := "(LPartBox$Bytes;LPartBox$Entry;I)V" } : Jvm.MethodName) 3 := ⟨w_604, rfl, rfl, by decide +kernel, rfl, ⟨by decide, by decide⟩, by decide +kernel, w_5⟩
theorem ca_X_writeFacts : mm_cal k_X_writeFacts ({ cls := "PartBox$Box", name := "writeFacts", desc := "(LPartBox$Bytes;LPartBox$Entry;)V" } : Jvm.MethodName) 2 := ⟨w_600, rfl, rfl, by decide +kernel, rfl, ⟨by decide, by decide⟩, by decide +kernel, w_5⟩
theorem ca_X_writeEnd : mm_cal k_X_writeEnd ({ cls := "PartBox$Box", name := "writeEnd", desc := "(LPartBox$Bytes;I)V" } : Jvm.MethodName) 2 := ⟨w_609, rfl, rfl, by decide +kernel, rfl, ⟨by decide, by decide⟩, by decide +kernel, w_5⟩
theorem ca_B_init : mm_cal k_B_init ({ cls := "PartBox$Bytes", name := "<init>", desc := "(I)V" } : Jvm.MethodName) 1 := ⟨w_32, rfl, rfl, by decide +kernel, rfl, ⟨by decide, by decide⟩, by decide +kernel, w_2⟩
theorem ca_B_size : mm_cal k_B_size ({ cls := "PartBox$Bytes", name := "size", desc := "()I" } : Jvm.MethodName) 0 := ⟨w_257, rfl, rfl, by decide +kernel, rfl, ⟨by decide, by decide⟩, by decide +kernel, w_2⟩
theorem ca_B_free : mm_cal k_B_free ({ cls := "PartBox$Bytes", name := "free", desc := "()I" } : Jvm.MethodName) 0 := ⟨w_304, rfl, rfl, by decide +kernel, rfl, ⟨by decide, by decide⟩, by decide +kernel, w_2⟩
theorem ca_B_get : mm_cal k_B_get ({ cls := "PartBox$Bytes", name := "get", desc := "(I)I" } : Jvm.MethodName) 1 := ⟨w_281, rfl, rfl, by decide +kernel, rfl, ⟨by decide, by decide⟩, by decide +kernel, w_2⟩
theorem ca_B_set : mm_cal k_B_set ({ cls := "PartBox$Bytes", name := "set", desc := "(II)V" } : Jvm.MethodName) 2 := ⟨w_432, rfl, rfl, by decide +kernel, rfl, ⟨by decide, by decide⟩, by decide +kernel, w_2⟩
theorem ca_B_keep : mm_cal k_B_keep ({ cls := "PartBox$Bytes", name := "keep", desc := "(I)V" } : Jvm.MethodName) 1 := ⟨w_265, rfl, rfl, by decide +kernel, rfl, ⟨by decide, by decide⟩, by decide +kernel, w_2⟩
theorem ca_B_push : mm_cal k_B_push ({ cls := "PartBox$Bytes", name := "push", desc := "(I)V" } : Jvm.MethodName) 1 := ⟨w_379, rfl, rfl, by decide +kernel, rfl, ⟨by decide, by decide⟩, by decide +kernel, w_2⟩
theorem ca_B_pushWord : mm_cal k_B_pushWord ({ cls := "PartBox$Bytes", name := "pushWord", desc := "(I)V" } : Jvm.MethodName) 1 := ⟨w_375, rfl, rfl, by decide +kernel, rfl, ⟨by decide, by decide⟩, by decide +kernel, w_2⟩
theorem ca_B_pushNumber : mm_cal k_B_pushNumber ({ cls := "PartBox$Bytes", name := "pushNumber", desc := "(II)V" } : Jvm.MethodName) 2 := ⟨w_596, rfl, rfl, by decide +kernel, rfl, ⟨by decide, by decide⟩, by decide +kernel, w_2⟩
theorem ca_B_pushAll : mm_cal k_B_pushAll ({ cls := "PartBox$Bytes", name := "pushAll", desc := "(LPartBox$Bytes;II)V" } : Jvm.MethodName) 3 := ⟨w_487, rfl, rfl, by decide +kernel, rfl, ⟨by decide, by decide⟩, by decide +kernel, w_2⟩
theorem ca_B_cut : mm_cal k_B_cut ({ cls := "PartBox$Bytes", name := "cut", desc := "(II)V" } : Jvm.MethodName) 2 := ⟨w_530, rfl, rfl, by decide +kernel, rfl, ⟨by decide, by decide⟩, by decide +kernel, w_2⟩
theorem ca_B_number : mm_cal k_B_number ({ cls := "PartBox$Bytes", name := "number", desc := "(II)J" } : Jvm.MethodName) 2 := ⟨w_645, rfl, rfl, by decide +kernel, rfl, ⟨by decide, by decide⟩, by decide +kernel, w_2⟩
theorem ca_B_hasMark : mm_cal k_B_hasMark ({ cls := "PartBox$Bytes", name := "hasMark", desc := "(II)Z" } : Jvm.MethodName) 2 := ⟨w_640, rfl, rfl, by decide +kernel, rfl, ⟨by decide, by decide⟩, by decide +kernel, w_2⟩
theorem ca_B_holds : mm_cal k_B_holds ({ cls := "PartBox$Bytes", name := "holds", desc := "(II)Z" } : Jvm.MethodName) 2 := ⟨w_491, rfl, rfl, by decide +kernel, rfl, ⟨by decide, by decide⟩, by decide +kernel, w_2⟩
theorem ca_C_init : mm_cal k_C_init ({ cls := "PartBox$Checker", name := "<init>", desc := "()V" } : Jvm.MethodName) 0 := ⟨w_49, rfl, rfl, by decide +kernel, rfl, ⟨by decide, by decide⟩, by decide +kernel, w_4⟩
theorem ca_C_checkOf : mm_cal k_C_checkOf ({ cls := "PartBox$Checker", name := "checkOf", desc := "(LPartBox$Bytes;II)I" } : Jvm.MethodName) 3 := ⟨w_472, rfl, rfl, by decide +kernel, rfl, ⟨by decide, by decide⟩, by decide +kernel, w_4⟩
theorem ca_E_init : mm_cal k_E_init ({ cls := "PartBox$Entry", name := "<init>", desc := "()V" } : Jvm.MethodName) 0 := ⟨w_68, rfl, rfl, by decide +kernel, rfl, ⟨by decide, by decide⟩, by decide +kernel, w_6⟩
theorem ca_E_describe : mm_cal k_E_describe ({ cls := "PartBox$Entry", name := "describe", desc := "(III)V" } : Jvm.MethodName) 3 := ⟨w_501, rfl, rfl, by decide +kernel, rfl, ⟨by decide, by decide⟩, by decide +kernel, w_6⟩
theorem ca_F_init : mm_cal k_F_init ({ cls := "PartBox$Facts", name := "<init>", desc := "()V" } : Jvm.MethodName) 0 := ⟨w_133, rfl, rfl, by decide +kernel, rfl, ⟨by decide, by decide⟩, by decide +kernel, w_9⟩
theorem ca_F_takeFrom : mm_cal k_F_takeFrom ({ cls := "PartBox$Facts", name := "takeFrom", desc := "(LPartBox$Bytes;I)V" } : Jvm.MethodName) 2 := ⟨w_664, rfl, rfl, by decide +kernel, rfl, ⟨by decide, by decide⟩, by decide +kernel, w_9⟩
theorem ca_F_hasTail : mm_cal k_F_hasTail ({ cls := "PartBox$Facts", name := "hasTail", desc := "()Z" } : Jvm.MethodName) 0 := ⟨w_689, rfl, rfl, by decide +kernel, rfl, ⟨by decide, by decide⟩, by decide +kernel, w_9⟩
theorem ca_G_init : mm_cal k_G_init ({ cls := "PartBox$Finding", name := "<init>", desc := "()V" } : Jvm.MethodName) 0 := ⟨w_127, rfl, rfl, by decide +kernel, rfl, ⟨by decide, by decide⟩, by decide +kernel, w_8⟩
theorem ca_G_takeFrom : mm_cal k_G_takeFrom ({ cls := "PartBox$Finding", name := "takeFrom", desc := "(LPartBox$Bytes;I)V" } : Jvm.MethodName) 2 := ⟨w_660, rfl, rfl, by decide +kernel, rfl, ⟨by decide, by decide⟩, by decide +kernel, w_8⟩
theorem ca_N_isName : mm_cal k_N_isName ({ cls := "PartBox$Names", name := "isName", desc := "(LPartBox$Bytes;II)Z" } : Jvm.MethodName) 3 := ⟨w_464, rfl, rfl, by decide +kernel, rfl, ⟨by decide, by decide⟩, by decide +kernel, w_17⟩
theorem ca_N_isPiece : mm_cal k_N_isPiece ({ cls := "PartBox$Names", name := "isPiece", desc := "(LPartBox$Bytes;II)Z" } : Jvm.MethodName) 3 := ⟨w_467, rfl, rfl, by decide +kernel, rfl, ⟨by decide, by decide⟩, by decide +kernel, w_17⟩
theorem ca_N_areAlike : mm_cal k_N_areAlike ({ cls := "PartBox$Names", name := "areAlike", desc := "(LPartBox$Bytes;ILPartBox$Bytes;II)Z" } : Jvm.MethodName) 5 := ⟨w_277, rfl, rfl, by decide +kernel, rfl, ⟨by decide, by decide⟩, by decide +kernel, w_17⟩
theorem ca_N_small : mm_cal k_N_small ({ cls := "PartBox$Names", name := "small", desc := "(I)I" } : Jvm.MethodName) 1 := ⟨w_284, rfl, rfl, by decide +kernel, rfl, ⟨by decide, by decide⟩, by decide +kernel, w_17⟩
theorem ca_R_init : mm_cal k_R_init ({ cls := "PartBox$Reader", name := "<init>", desc := "(LPartBox$Bytes;LPartBox$Checker;)V" } : Jvm.MethodName) 2 := ⟨w_120, rfl, rfl, by decide +kernel, rfl, ⟨by decide, by decide⟩, by decide +kernel, w_7⟩
theorem ca_R_findsNoFault : mm_cal k_R_findsNoFault ({ cls := "PartBox$Reader", name := "findsNoFault", desc := "(I)Z" } : Jvm.MethodName) 1 := ⟨w_622, rfl, rfl, by decide +kernel, rfl, ⟨by decide, by decide⟩, by decide +kernel, w_7⟩
theorem ca_R_unpackInto : mm_cal k_R_unpackInto ({ cls := "PartBox$Reader", name := "unpackInto", desc := "(LPartBox$Box;)V" } : Jvm.MethodName) 1 := ⟨w_720, rfl, rfl, by decide +kernel, rfl, ⟨by decide, by decide⟩, by decide +kernel, w_7⟩
theorem ca_R_note : mm_cal k_R_note ({ cls := "PartBox$Reader", name := "note", desc := "(III)Z" } : Jvm.MethodName) 3 := ⟨w_626, rfl, rfl, by decide +kernel, rfl, ⟨by decide, by decide⟩, by decide +kernel, w_7⟩
theorem ca_R_examineEnd : mm_cal k_R_examineEnd ({ cls := "PartBox$Reader", name := "examineEnd", desc := "()Z" } : Jvm.MethodName) 0 := ⟨w_630, rfl, rfl, by decide +kernel, rfl, ⟨by decide, by decide⟩, by decide +kernel, w_7⟩
theorem ca_R_lastEnd : mm_cal k_R_lastEnd ({ cls := "PartBox$Reader", name := "lastEnd", desc := "()I" } : Jvm.MethodName) 0 := ⟨w_634, rfl, rfl, by decide +kernel, rfl, ⟨by decide, by decide⟩, by decide +kernel, w_7⟩
theorem ca_R_examineDirectory : mm_cal k_R_examineDirectory ({ cls := "PartBox$Reader", name := "examineDirectory", desc := "(I)Z" } : Jvm.MethodName) 1 := ⟨w_651, rfl, rfl, by decide +kernel, rfl, ⟨by decide, by decide⟩, by decide +kernel, w_7⟩
theorem ca_R_directoryFault : mm_cal k_R_directoryFault ({ cls := "PartBox$Reader", name := "directoryFault", desc := "(III)I" } : Jvm.MethodName) 3 := ⟨w_655, rfl, rfl, by decide +kernel, rfl, ⟨by decide, by decide⟩, by decide +kernel, w_7⟩
theorem ca_R_isNamedBefore : mm_cal k_R_isNamedBefore ({ cls := "PartBox$Reader", name := "isNamedBefore", desc := "(I)Z" } : Jvm.MethodName) 1 := ⟨w_671, rfl, rfl, by decide +kernel, rfl, ⟨by decide, by decide⟩, by decide +kernel, w_7⟩
theorem ca_R_examineEntries : mm_cal k_R_examineEntries ({ cls := "PartBox$Reader", name := "examineEntries", desc := "()Z" } : Jvm.MethodName) 0 := ⟨w_676, rfl, rfl, by decide +kernel, rfl, ⟨by decide, by decide⟩, by decide +kernel, w_7⟩
theorem ca_R_isHeadSound : mm_cal k_R_isHeadSound ({ cls := "PartBox$Reader", name := "isHeadSound", desc := "(LPartBox$Finding;)Z" } : Jvm.MethodName) 1 := ⟨w_684, rfl, rfl, by decide +kernel, rfl, ⟨by decide, by decide⟩, by decide +kernel, w_7⟩
theorem ca_R_agrees : mm_cal k_R_agrees ({ cls := "PartBox$Reader", name := "agrees", desc := "(JJZ)Z" } : Jvm.MethodName) 3 := ⟨w_698, rfl, rfl, by decide +kernel, rfl, ⟨by decide, by decide⟩, by decide +kernel, w_7⟩
theorem ca_R_areSame : mm_cal k_R_areSame ({ cls := "PartBox$Reader", name := "areSame", desc := "(III)Z" } : Jvm.MethodName) 3 := ⟨w_694, rfl, rfl, by decide +kernel, rfl, ⟨by decide, by decide⟩, by decide +kernel, w_7⟩
theorem ca_R_areBytesSound : mm_cal k_R_areBytesSound ({ cls := "PartBox$Reader", name := "areBytesSound", desc := "(LPartBox$Finding;)Z" } : Jvm.MethodName) 1 := ⟨w_702, rfl, rfl, by decide +kernel, rfl, ⟨by decide, by decide⟩, by decide +kernel, w_7⟩
theorem ca_R_examinePlaces : mm_cal k_R_examinePlaces ({ cls := "PartBox$Reader", name := "examinePlaces", desc := "()Z" } : Jvm.MethodName) 0 := ⟨w_707, rfl, rfl, by decide +kernel, rfl, ⟨by decide, by decide⟩, by decide +kernel, w_7⟩
theorem ca_R_orderByHeads : mm_cal k_R_orderByHeads ({ cls := "PartBox$Reader", name := "orderByHeads", desc := "()V" } : Jvm.MethodName) 0 := ⟨w_711, rfl, rfl, by decide +kernel, rfl, ⟨by decide, by decide⟩, by decide +kernel, w_7⟩
theorem ca_R_examineChecks : mm_cal k_R_examineChecks ({ cls := "PartBox$Reader", name := "examineChecks", desc := "()Z" } : Jvm.MethodName) 0 := ⟨w_715, rfl, rfl, by decide +kernel, rfl, ⟨by decide, by decide⟩, by decide +kernel, w_7⟩
theorem ca_L_feed : mm_cal k_L_feed ({ cls := "PartBoxLaw", name := "feed", desc := "(LPartBox;IIIII)I" } : Jvm.MethodName) 6 := ⟨w_295, rfl, rfl, by decide +kernel, rfl, ⟨by decide, by decide⟩, by decide +kernel, w_0⟩
theorem ca_L_end : mm_cal k_L_end ({ cls := "PartBoxLaw", name := "end", desc := "(LPartBox;I)I" } : Jvm.MethodName) 2 := ⟨w_382, rfl, rfl, by decide +kernel, rfl, ⟨by decide, by decide⟩, by decide +kernel, w_0⟩
theorem ca_L_alter : mm_cal k_L_alter ({ cls := "PartBoxLaw", name := "alter", desc := "(LPartBox;II)I" } : Jvm.MethodName) 3 := ⟨w_406, rfl, rfl, by decide +kernel, rfl, ⟨by decide, by decide⟩, by decide +kernel, w_0⟩
theorem ca_L_byteAt : mm_cal k_L_byteAt ({ cls := "PartBoxLaw", name := "byteAt", desc := "(LPartBox;I[J)I" } : Jvm.MethodName) 3 := ⟨w_435, rfl, rfl, by decide +kernel, rfl, ⟨by decide, by decide⟩, by decide +kernel, w_0⟩
theorem ca_L_type : mm_cal k_L_type ({ cls := "PartBoxLaw", name := "type", desc := "(LPartBox;I[J)I" } : Jvm.MethodName) 3 := ⟨w_443, rfl, rfl, by decide +kernel, rfl, ⟨by decide, by decide⟩, by decide +kernel, w_0⟩
theorem ca_L_add : mm_cal k_L_add ({ cls := "PartBoxLaw", name := "add", desc := "(LPartBox;[J)I" } : Jvm.MethodName) 2 := ⟨w_453, rfl, rfl, by decide +kernel, rfl, ⟨by decide, by decide⟩, by decide +kernel, w_0⟩
theorem ca_L_addPacked : mm_cal k_L_addPacked ({ cls := "PartBoxLaw", name := "addPacked", desc := "(LPartBox;II[J)I" } : Jvm.MethodName) 4 := ⟨w_504, rfl, rfl, by decide +kernel, rfl, ⟨by decide, by decide⟩, by decide +kernel, w_0⟩
theorem ca_L_remove : mm_cal k_L_remove ({ cls := "PartBoxLaw", name := "remove", desc := "(LPartBox;I)I" } : Jvm.MethodName) 2 := ⟨w_512, rfl, rfl, by decide +kernel, rfl, ⟨by decide, by decide⟩, by decide +kernel, w_0⟩
theorem ca_L_move : mm_cal k_L_move ({ cls := "PartBoxLaw", name := "move", desc := "(LPartBox;II)I" } : Jvm.MethodName) 3 := ⟨w_537, rfl, rfl, by decide +kernel, rfl, ⟨by decide, by decide⟩, by decide +kernel, w_0⟩
theorem ca_L_about : mm_cal k_L_about ({ cls := "PartBoxLaw", name := "about", desc := "(LPartBox;II[J)I" } : Jvm.MethodName) 4 := ⟨w_545, rfl, rfl, by decide +kernel, rfl, ⟨by decide, by decide⟩, by decide +kernel, w_0⟩
theorem ca_L_name : mm_cal k_L_name ({ cls := "PartBoxLaw", name := "name", desc := "(LPartBox;II[J)I" } : Jvm.MethodName) 4 := ⟨w_557, rfl, rfl, by decide +kernel, rfl, ⟨by decide, by decide⟩, by decide +kernel, w_0⟩
theorem ca_L_part : mm_cal k_L_part ({ cls := "PartBoxLaw", name := "part", desc := "(LPartBox;II[J)I" } : Jvm.MethodName) 4 := ⟨w_564, rfl, rfl, by decide +kernel, rfl, ⟨by decide, by decide⟩, by decide +kernel, w_0⟩
theorem ca_L_write : mm_cal k_L_write ({ cls := "PartBoxLaw", name := "write", desc := "(LPartBox;[J)I" } : Jvm.MethodName) 2 := ⟨w_572, rfl, rfl, by decide +kernel, rfl, ⟨by decide, by decide⟩, by decide +kernel, w_0⟩
theorem ca_L_read : mm_cal k_L_read ({ cls := "PartBoxLaw", name := "read", desc := "(LPartBox;I[J)I" } : Jvm.MethodName) 3 := ⟨w_613, rfl, rfl, by decide +kernel, rfl, ⟨by decide, by decide⟩, by decide +kernel, w_0⟩
theorem ca_L_blame : mm_cal k_L_blame ({ cls := "PartBoxLaw", name := "blame", desc := "(LPartBox;I[J)I" } : Jvm.MethodName) 3 := ⟨w_730, rfl, rfl, by decide +kernel, rfl, ⟨by decide, by decide⟩, by decide +kernel, w_0⟩
end
section
theorem d_B_init_0 : decode prog_3_method_1_code 0 = .ok (.aload_n 0, 1) := by decide +kernel
theorem d_B_init_1 : decode prog_3_method_1_code 1 = .ok (.invokespecial 3, 3) := by decide +kernel
theorem d_B_init_4 : decode prog_3_method_1_code 4 = .ok (.aload_n 0, 1) := by decide +kernel
theorem d_B_init_5 : decode prog_3_method_1_code 5 = .ok (.iconst 0, 1) := by decide +kernel
theorem d_B_init_6 : decode prog_3_method_1_code 6 = .ok (.iload_n 1, 1) := by decide +kernel
theorem d_B_init_7 : decode prog_3_method_1_code 7 = .ok (.invokestatic 9, 3) := by decide +kernel
theorem d_B_init_10 : decode prog_3_method_1_code 10 = .ok (.newarray .byte, 2) := by decide +kernel
theorem d_B_init_12 : decode prog_3_method_1_code 12 = .ok (.putfield 15, 3) := by decide +kernel
theorem d_B_init_15 : decode prog_3_method_1_code 15 = .ok (.aload_n 0, 1) := by decide +kernel
theorem d_B_init_16 : decode prog_3_method_1_code 16 = .ok (.iconst 0, 1) := by decide +kernel
theorem d_B_init_17 : decode prog_3_method_1_code 17 = .ok (.putfield 21, 3) := by decide +kernel
theorem d_B_init_20 : decode prog_3_method_1_code 20 = .ok (.return_, 1) := by decide +kernel
theorem d_B_size_0 : decode prog_3_method_2_code 0 = .ok (.aload_n 0, 1) := by decide +kernel
theorem d_B_size_1 : decode prog_3_method_2_code 1 = .ok (.getfield 21, 3) := by decide +kernel
theorem d_B_size_4 : decode prog_3_method_2_code 4 = .ok (.ireturn, 1) := by decide +kernel
theorem d_B_free_0 : decode prog_3_method_3_code 0 = .ok (.aload_n 0, 1) := by decide +kernel
theorem d_B_free_1 : decode prog_3_method_3_code 1 = .ok (.getfield 15, 3) := by decide +kernel
theorem d_B_free_4 : decode prog_3_method_3_code 4 = .ok (.arraylength, 1) := by decide +kernel
theorem d_B_free_5 : decode prog_3_method_3_code 5 = .ok (.aload_n 0, 1) := by decide +kernel
theorem d_B_free_6 : decode prog_3_method_3_code 6 = .ok (.getfield 21, 3) := by decide +kernel
theorem d_B_free_9 : decode prog_3_method_3_code 9 = .ok (.isub, 1) := by decide +kernel
theorem d_B_free_10 : decode prog_3_method_3_code 10 = .ok (.ireturn, 1) := by decide +kernel
theorem d_B_get_0 : decode prog_3_method_4_code 0 = .ok (.iload_n 1, 1) := by decide +kernel
theorem d_B_get_1 : decode prog_3_method_4_code 1 = .ok (.ifCond .lt 11, 3) := by decide +kernel
theorem d_B_get_4 : decode prog_3_method_4_code 4 = .ok (.iload_n 1, 1) := by decide +kernel
theorem d_B_get_5 : decode prog_3_method_4_code 5 = .ok (.aload_n 0, 1) := by decide +kernel
theorem d_B_get_6 : decode prog_3_method_4_code 6 = .ok (.getfield 21, 3) := by decide +kernel
theorem d_B_get_9 : decode prog_3_method_4_code 9 = .ok (.if_icmp .lt 7, 3) := by decide +kernel
theorem d_B_get_12 : decode prog_3_method_4_code 12 = .ok (.iconst (-1), 1) := by decide +kernel
theorem d_B_get_13 : decode prog_3_method_4_code 13 = .ok (.goto 13, 3) := by decide +kernel
theorem d_B_get_16 : decode prog_3_method_4_code 16 = .ok (.aload_n 0, 1) := by decide +kernel
theorem d_B_get_17 : decode prog_3_method_4_code 17 = .ok (.getfield 15, 3) := by decide +kernel
theorem d_B_get_20 : decode prog_3_method_4_code 20 = .ok (.iload_n 1, 1) := by decide +kernel
theorem d_B_get_21 : decode prog_3_method_4_code 21 = .ok (.baload, 1) := by decide +kernel
theorem d_B_get_22 : decode prog_3_method_4_code 22 = .ok (.sipush 255, 3) := by decide +kernel
theorem d_B_get_25 : decode prog_3_method_4_code 25 = .ok (.iand, 1) := by decide +kernel
theorem d_B_get_26 : decode prog_3_method_4_code 26 = .ok (.ireturn, 1) := by decide +kernel
theorem d_B_set_0 : decode prog_3_method_5_code 0 = .ok (.iload_n 1, 1) := by decide +kernel
theorem d_B_set_1 : decode prog_3_method_5_code 1 = .ok (.ifCond .lt 19, 3) := by decide +kernel
theorem d_B_set_4 : decode prog_3_method_5_code 4 = .ok (.iload_n 1, 1) := by decide +kernel
theorem d_B_set_5 : decode prog_3_method_5_code 5 = .ok (.aload_n 0, 1) := by decide +kernel
theorem d_B_set_6 : decode prog_3_method_5_code 6 = .ok (.getfield 21, 3) := by decide +kernel
theorem d_B_set_9 : decode prog_3_method_5_code 9 = .ok (.if_icmp .ge 11, 3) := by decide +kernel
theorem d_B_set_12 : decode prog_3_method_5_code 12 = .ok (.aload_n 0, 1) := by decide +kernel
theorem d_B_set_13 : decode prog_3_method_5_code 13 = .ok (.getfield 15, 3) := by decide +kernel
theorem d_B_set_16 : decode prog_3_method_5_code 16 = .ok (.iload_n 1, 1) := by decide +kernel
theorem d_B_set_17 : decode prog_3_method_5_code 17 = .ok (.iload_n 2, 1) := by decide +kernel
theorem d_B_set_18 : decode prog_3_method_5_code 18 = .ok (.i2b, 1) := by decide +kernel
theorem d_B_set_19 : decode prog_3_method_5_code 19 = .ok (.bastore, 1) := by decide +kernel
theorem d_B_set_20 : decode prog_3_method_5_code 20 = .ok (.return_, 1) := by decide +kernel
theorem d_B_keep_0 : decode prog_3_method_6_code 0 = .ok (.iload_n 1, 1) := by decide +kernel
theorem d_B_keep_1 : decode prog_3_method_6_code 1 = .ok (.ifCond .lt 16, 3) := by decide +kernel
theorem d_B_keep_4 : decode prog_3_method_6_code 4 = .ok (.iload_n 1, 1) := by decide +kernel
theorem d_B_keep_5 : decode prog_3_method_6_code 5 = .ok (.aload_n 0, 1) := by decide +kernel
theorem d_B_keep_6 : decode prog_3_method_6_code 6 = .ok (.getfield 21, 3) := by decide +kernel
theorem d_B_keep_9 : decode prog_3_method_6_code 9 = .ok (.if_icmp .gt 8, 3) := by decide +kernel
theorem d_B_keep_12 : decode prog_3_method_6_code 12 = .ok (.aload_n 0, 1) := by decide +kernel
theorem d_B_keep_13 : decode prog_3_method_6_code 13 = .ok (.iload_n 1, 1) := by decide +kernel
theorem d_B_keep_14 : decode prog_3_method_6_code 14 = .ok (.putfield 21, 3) := by decide +kernel
theorem d_B_keep_17 : decode prog_3_method_6_code 17 = .ok (.return_, 1) := by decide +kernel
theorem d_B_push_0 : decode prog_3_method_7_code 0 = .ok (.aload_n 0, 1) := by decide +kernel
theorem d_B_push_1 : decode prog_3_method_7_code 1 = .ok (.getfield 21, 3) := by decide +kernel
theorem d_B_push_4 : decode prog_3_method_7_code 4 = .ok (.aload_n 0, 1) := by decide +kernel
theorem d_B_push_5 : decode prog_3_method_7_code 5 = .ok (.getfield 15, 3) := by decide +kernel
theorem d_B_push_8 : decode prog_3_method_7_code 8 = .ok (.arraylength, 1) := by decide +kernel
theorem d_B_push_9 : decode prog_3_method_7_code 9 = .ok (.if_icmp .ge 24, 3) := by decide +kernel
theorem d_B_push_12 : decode prog_3_method_7_code 12 = .ok (.aload_n 0, 1) := by decide +kernel
theorem d_B_push_13 : decode prog_3_method_7_code 13 = .ok (.getfield 15, 3) := by decide +kernel
theorem d_B_push_16 : decode prog_3_method_7_code 16 = .ok (.aload_n 0, 1) := by decide +kernel
theorem d_B_push_17 : decode prog_3_method_7_code 17 = .ok (.getfield 21, 3) := by decide +kernel
theorem d_B_push_20 : decode prog_3_method_7_code 20 = .ok (.iload_n 1, 1) := by decide +kernel
theorem d_B_push_21 : decode prog_3_method_7_code 21 = .ok (.i2b, 1) := by decide +kernel
theorem d_B_push_22 : decode prog_3_method_7_code 22 = .ok (.bastore, 1) := by decide +kernel
theorem d_B_push_23 : decode prog_3_method_7_code 23 = .ok (.aload_n 0, 1) := by decide +kernel
theorem d_B_push_24 : decode prog_3_method_7_code 24 = .ok (.dup, 1) := by decide +kernel
theorem d_B_push_25 : decode prog_3_method_7_code 25 = .ok (.getfield 21, 3) := by decide +kernel
theorem d_B_push_28 : decode prog_3_method_7_code 28 = .ok (.iconst 1, 1) := by decide +kernel
theorem d_B_push_29 : decode prog_3_method_7_code 29 = .ok (.iadd, 1) := by decide +kernel
theorem d_B_push_30 : decode prog_3_method_7_code 30 = .ok (.putfield 21, 3) := by decide +kernel
theorem d_B_push_33 : decode prog_3_method_7_code 33 = .ok (.return_, 1) := by decide +kernel
theorem d_B_pushWord_0 : decode prog_3_method_8_code 0 = .ok (.bipush 24, 2) := by decide +kernel
theorem d_B_pushWord_2 : decode prog_3_method_8_code 2 = .ok (.istore_n 2, 1) := by decide +kernel
theorem d_B_pushWord_3 : decode prog_3_method_8_code 3 = .ok (.iload_n 2, 1) := by decide +kernel
theorem d_B_pushWord_4 : decode prog_3_method_8_code 4 = .ok (.ifCond .lt 16, 3) := by decide +kernel
theorem d_B_pushWord_7 : decode prog_3_method_8_code 7 = .ok (.aload_n 0, 1) := by decide +kernel
theorem d_B_pushWord_8 : decode prog_3_method_8_code 8 = .ok (.iload_n 1, 1) := by decide +kernel
theorem d_B_pushWord_9 : decode prog_3_method_8_code 9 = .ok (.iload_n 2, 1) := by decide +kernel
theorem d_B_pushWord_10 : decode prog_3_method_8_code 10 = .ok (.iushr, 1) := by decide +kernel
theorem d_B_pushWord_11 : decode prog_3_method_8_code 11 = .ok (.invokevirtual 25, 3) := by decide +kernel
theorem d_B_pushWord_14 : decode prog_3_method_8_code 14 = .ok (.iinc 2 (-8), 3) := by decide +kernel
theorem d_B_pushWord_17 : decode prog_3_method_8_code 17 = .ok (.goto (-14), 3) := by decide +kernel
theorem d_B_pushWord_20 : decode prog_3_method_8_code 20 = .ok (.return_, 1) := by decide +kernel
theorem d_B_pushNumber_0 : decode prog_3_method_9_code 0 = .ok (.iconst 0, 1) := by decide +kernel
theorem d_B_pushNumber_1 : decode prog_3_method_9_code 1 = .ok (.istore_n 3, 1) := by decide +kernel
theorem d_B_pushNumber_2 : decode prog_3_method_9_code 2 = .ok (.iload_n 3, 1) := by decide +kernel
theorem d_B_pushNumber_3 : decode prog_3_method_9_code 3 = .ok (.iload_n 2, 1) := by decide +kernel
theorem d_B_pushNumber_4 : decode prog_3_method_9_code 4 = .ok (.if_icmp .ge 24, 3) := by decide +kernel
theorem d_B_pushNumber_7 : decode prog_3_method_9_code 7 = .ok (.iload_n 3, 1) := by decide +kernel
theorem d_B_pushNumber_8 : decode prog_3_method_9_code 8 = .ok (.iconst 4, 1) := by decide +kernel
theorem d_B_pushNumber_9 : decode prog_3_method_9_code 9 = .ok (.if_icmp .ge 19, 3) := by decide +kernel
theorem d_B_pushNumber_12 : decode prog_3_method_9_code 12 = .ok (.aload_n 0, 1) := by decide +kernel
theorem d_B_pushNumber_13 : decode prog_3_method_9_code 13 = .ok (.iload_n 1, 1) := by decide +kernel
theorem d_B_pushNumber_14 : decode prog_3_method_9_code 14 = .ok (.bipush 8, 2) := by decide +kernel
theorem d_B_pushNumber_16 : decode prog_3_method_9_code 16 = .ok (.iload_n 3, 1) := by decide +kernel
theorem d_B_pushNumber_17 : decode prog_3_method_9_code 17 = .ok (.imul, 1) := by decide +kernel
theorem d_B_pushNumber_18 : decode prog_3_method_9_code 18 = .ok (.iushr, 1) := by decide +kernel
theorem d_B_pushNumber_19 : decode prog_3_method_9_code 19 = .ok (.invokevirtual 25, 3) := by decide +kernel
theorem d_B_pushNumber_22 : decode prog_3_method_9_code 22 = .ok (.iinc 3 1, 3) := by decide +kernel
theorem d_B_pushNumber_25 : decode prog_3_method_9_code 25 = .ok (.goto (-23), 3) := by decide +kernel
theorem d_B_pushNumber_28 : decode prog_3_method_9_code 28 = .ok (.return_, 1) := by decide +kernel
theorem d_B_pushAll_0 : decode prog_3_method_10_code 0 = .ok (.aload_n 1, 1) := by decide +kernel
theorem d_B_pushAll_1 : decode prog_3_method_10_code 1 = .ok (.iload_n 2, 1) := by decide +kernel
theorem d_B_pushAll_2 : decode prog_3_method_10_code 2 = .ok (.iload_n 3, 1) := by decide +kernel
theorem d_B_pushAll_3 : decode prog_3_method_10_code 3 = .ok (.invokevirtual 29, 3) := by decide +kernel
theorem d_B_pushAll_6 : decode prog_3_method_10_code 6 = .ok (.ifCond .eq 38, 3) := by decide +kernel
theorem d_B_pushAll_9 : decode prog_3_method_10_code 9 = .ok (.iload_n 3, 1) := by decide +kernel
theorem d_B_pushAll_10 : decode prog_3_method_10_code 10 = .ok (.aload_n 0, 1) := by decide +kernel
theorem d_B_pushAll_11 : decode prog_3_method_10_code 11 = .ok (.invokevirtual 33, 3) := by decide +kernel
theorem d_B_pushAll_14 : decode prog_3_method_10_code 14 = .ok (.if_icmp .gt 30, 3) := by decide +kernel
theorem d_B_pushAll_17 : decode prog_3_method_10_code 17 = .ok (.aload_n 1, 1) := by decide +kernel
theorem d_B_pushAll_18 : decode prog_3_method_10_code 18 = .ok (.getfield 15, 3) := by decide +kernel
theorem d_B_pushAll_21 : decode prog_3_method_10_code 21 = .ok (.iload_n 2, 1) := by decide +kernel
theorem d_B_pushAll_22 : decode prog_3_method_10_code 22 = .ok (.aload_n 0, 1) := by decide +kernel
theorem d_B_pushAll_23 : decode prog_3_method_10_code 23 = .ok (.getfield 15, 3) := by decide +kernel
theorem d_B_pushAll_26 : decode prog_3_method_10_code 26 = .ok (.aload_n 0, 1) := by decide +kernel
theorem d_B_pushAll_27 : decode prog_3_method_10_code 27 = .ok (.getfield 21, 3) := by decide +kernel
theorem d_B_pushAll_30 : decode prog_3_method_10_code 30 = .ok (.iload_n 3, 1) := by decide +kernel
theorem d_B_pushAll_31 : decode prog_3_method_10_code 31 = .ok (.invokestatic 37, 3) := by decide +kernel
theorem d_B_pushAll_34 : decode prog_3_method_10_code 34 = .ok (.aload_n 0, 1) := by decide +kernel
theorem d_B_pushAll_35 : decode prog_3_method_10_code 35 = .ok (.dup, 1) := by decide +kernel
theorem d_B_pushAll_36 : decode prog_3_method_10_code 36 = .ok (.getfield 21, 3) := by decide +kernel
theorem d_B_pushAll_39 : decode prog_3_method_10_code 39 = .ok (.iload_n 3, 1) := by decide +kernel
theorem d_B_pushAll_40 : decode prog_3_method_10_code 40 = .ok (.iadd, 1) := by decide +kernel
theorem d_B_pushAll_41 : decode prog_3_method_10_code 41 = .ok (.putfield 21, 3) := by decide +kernel
theorem d_B_pushAll_44 : decode prog_3_method_10_code 44 = .ok (.return_, 1) := by decide +kernel
theorem d_B_cut_0 : decode prog_3_method_11_code 0 = .ok (.aload_n 0, 1) := by decide +kernel
theorem d_B_cut_1 : decode prog_3_method_11_code 1 = .ok (.iload_n 1, 1) := by decide +kernel
theorem d_B_cut_2 : decode prog_3_method_11_code 2 = .ok (.iload_n 2, 1) := by decide +kernel
theorem d_B_cut_3 : decode prog_3_method_11_code 3 = .ok (.invokevirtual 29, 3) := by decide +kernel
theorem d_B_cut_6 : decode prog_3_method_11_code 6 = .ok (.ifCond .eq 36, 3) := by decide +kernel
theorem d_B_cut_9 : decode prog_3_method_11_code 9 = .ok (.aload_n 0, 1) := by decide +kernel
theorem d_B_cut_10 : decode prog_3_method_11_code 10 = .ok (.getfield 15, 3) := by decide +kernel
theorem d_B_cut_13 : decode prog_3_method_11_code 13 = .ok (.iload_n 1, 1) := by decide +kernel
theorem d_B_cut_14 : decode prog_3_method_11_code 14 = .ok (.iload_n 2, 1) := by decide +kernel
theorem d_B_cut_15 : decode prog_3_method_11_code 15 = .ok (.iadd, 1) := by decide +kernel
theorem d_B_cut_16 : decode prog_3_method_11_code 16 = .ok (.aload_n 0, 1) := by decide +kernel
theorem d_B_cut_17 : decode prog_3_method_11_code 17 = .ok (.getfield 15, 3) := by decide +kernel
theorem d_B_cut_20 : decode prog_3_method_11_code 20 = .ok (.iload_n 1, 1) := by decide +kernel
theorem d_B_cut_21 : decode prog_3_method_11_code 21 = .ok (.aload_n 0, 1) := by decide +kernel
theorem d_B_cut_22 : decode prog_3_method_11_code 22 = .ok (.getfield 21, 3) := by decide +kernel
theorem d_B_cut_25 : decode prog_3_method_11_code 25 = .ok (.iload_n 1, 1) := by decide +kernel
theorem d_B_cut_26 : decode prog_3_method_11_code 26 = .ok (.isub, 1) := by decide +kernel
theorem d_B_cut_27 : decode prog_3_method_11_code 27 = .ok (.iload_n 2, 1) := by decide +kernel
theorem d_B_cut_28 : decode prog_3_method_11_code 28 = .ok (.isub, 1) := by decide +kernel
theorem d_B_cut_29 : decode prog_3_method_11_code 29 = .ok (.invokestatic 37, 3) := by decide +kernel
theorem d_B_cut_32 : decode prog_3_method_11_code 32 = .ok (.aload_n 0, 1) := by decide +kernel
theorem d_B_cut_33 : decode prog_3_method_11_code 33 = .ok (.dup, 1) := by decide +kernel
theorem d_B_cut_34 : decode prog_3_method_11_code 34 = .ok (.getfield 21, 3) := by decide +kernel
theorem d_B_cut_37 : decode prog_3_method_11_code 37 = .ok (.iload_n 2, 1) := by decide +kernel
theorem d_B_cut_38 : decode prog_3_method_11_code 38 = .ok (.isub, 1) := by decide +kernel
theorem d_B_cut_39 : decode prog_3_method_11_code 39 = .ok (.putfield 21, 3) := by decide +kernel
theorem d_B_cut_42 : decode prog_3_method_11_code 42 = .ok (.return_, 1) := by decide +kernel
theorem d_B_number_0 : decode prog_3_method_12_code 0 = .ok (.aload_n 0, 1) := by decide +kernel
theorem d_B_number_1 : decode prog_3_method_12_code 1 = .ok (.iload_n 1, 1) := by decide +kernel
theorem d_B_number_2 : decode prog_3_method_12_code 2 = .ok (.iload_n 2, 1) := by decide +kernel
theorem d_B_number_3 : decode prog_3_method_12_code 3 = .ok (.invokevirtual 29, 3) := by decide +kernel
theorem d_B_number_6 : decode prog_3_method_12_code 6 = .ok (.ifCond .ne 7, 3) := by decide +kernel
theorem d_B_number_9 : decode prog_3_method_12_code 9 = .ok (.ldc2_w 43, 3) := by decide +kernel
theorem d_B_number_12 : decode prog_3_method_12_code 12 = .ok (.lreturn, 1) := by decide +kernel
theorem d_B_number_13 : decode prog_3_method_12_code 13 = .ok (.lconst 0, 1) := by decide +kernel
theorem d_B_number_14 : decode prog_3_method_12_code 14 = .ok (.lstore_n 3, 1) := by decide +kernel
theorem d_B_number_15 : decode prog_3_method_12_code 15 = .ok (.iload_n 2, 1) := by decide +kernel
theorem d_B_number_16 : decode prog_3_method_12_code 16 = .ok (.iconst 1, 1) := by decide +kernel
theorem d_B_number_17 : decode prog_3_method_12_code 17 = .ok (.isub, 1) := by decide +kernel
theorem d_B_number_18 : decode prog_3_method_12_code 18 = .ok (.istore 5, 2) := by decide +kernel
theorem d_B_number_20 : decode prog_3_method_12_code 20 = .ok (.iload 5, 2) := by decide +kernel
theorem d_B_number_22 : decode prog_3_method_12_code 22 = .ok (.ifCond .lt 24, 3) := by decide +kernel
theorem d_B_number_25 : decode prog_3_method_12_code 25 = .ok (.lload_n 3, 1) := by decide +kernel
theorem d_B_number_26 : decode prog_3_method_12_code 26 = .ok (.bipush 8, 2) := by decide +kernel
theorem d_B_number_28 : decode prog_3_method_12_code 28 = .ok (.lshl, 1) := by decide +kernel
theorem d_B_number_29 : decode prog_3_method_12_code 29 = .ok (.aload_n 0, 1) := by decide +kernel
theorem d_B_number_30 : decode prog_3_method_12_code 30 = .ok (.iload_n 1, 1) := by decide +kernel
theorem d_B_number_31 : decode prog_3_method_12_code 31 = .ok (.iload 5, 2) := by decide +kernel
theorem d_B_number_33 : decode prog_3_method_12_code 33 = .ok (.iadd, 1) := by decide +kernel
theorem d_B_number_34 : decode prog_3_method_12_code 34 = .ok (.invokevirtual 45, 3) := by decide +kernel
theorem d_B_number_37 : decode prog_3_method_12_code 37 = .ok (.i2l, 1) := by decide +kernel
theorem d_B_number_38 : decode prog_3_method_12_code 38 = .ok (.lor, 1) := by decide +kernel
theorem d_B_number_39 : decode prog_3_method_12_code 39 = .ok (.lstore_n 3, 1) := by decide +kernel
theorem d_B_number_40 : decode prog_3_method_12_code 40 = .ok (.iinc 5 (-1), 3) := by decide +kernel
theorem d_B_number_43 : decode prog_3_method_12_code 43 = .ok (.goto (-23), 3) := by decide +kernel
theorem d_B_number_46 : decode prog_3_method_12_code 46 = .ok (.lload_n 3, 1) := by decide +kernel
theorem d_B_number_47 : decode prog_3_method_12_code 47 = .ok (.lreturn, 1) := by decide +kernel
theorem d_B_hasMark_0 : decode prog_3_method_13_code 0 = .ok (.iconst 0, 1) := by decide +kernel
theorem d_B_hasMark_1 : decode prog_3_method_13_code 1 = .ok (.istore_n 3, 1) := by decide +kernel
theorem d_B_hasMark_2 : decode prog_3_method_13_code 2 = .ok (.iload_n 3, 1) := by decide +kernel
theorem d_B_hasMark_3 : decode prog_3_method_13_code 3 = .ok (.iconst 4, 1) := by decide +kernel
theorem d_B_hasMark_4 : decode prog_3_method_13_code 4 = .ok (.if_icmp .ge 31, 3) := by decide +kernel
theorem d_B_hasMark_7 : decode prog_3_method_13_code 7 = .ok (.aload_n 0, 1) := by decide +kernel
theorem d_B_hasMark_8 : decode prog_3_method_13_code 8 = .ok (.iload_n 1, 1) := by decide +kernel
theorem d_B_hasMark_9 : decode prog_3_method_13_code 9 = .ok (.iload_n 3, 1) := by decide +kernel
theorem d_B_hasMark_10 : decode prog_3_method_13_code 10 = .ok (.iadd, 1) := by decide +kernel
theorem d_B_hasMark_11 : decode prog_3_method_13_code 11 = .ok (.invokevirtual 45, 3) := by decide +kernel
theorem d_B_hasMark_14 : decode prog_3_method_13_code 14 = .ok (.iload_n 2, 1) := by decide +kernel
theorem d_B_hasMark_15 : decode prog_3_method_13_code 15 = .ok (.bipush 8, 2) := by decide +kernel
theorem d_B_hasMark_17 : decode prog_3_method_13_code 17 = .ok (.iload_n 3, 1) := by decide +kernel
theorem d_B_hasMark_18 : decode prog_3_method_13_code 18 = .ok (.imul, 1) := by decide +kernel
theorem d_B_hasMark_19 : decode prog_3_method_13_code 19 = .ok (.iushr, 1) := by decide +kernel
theorem d_B_hasMark_20 : decode prog_3_method_13_code 20 = .ok (.sipush 255, 3) := by decide +kernel
theorem d_B_hasMark_23 : decode prog_3_method_13_code 23 = .ok (.iand, 1) := by decide +kernel
theorem d_B_hasMark_24 : decode prog_3_method_13_code 24 = .ok (.if_icmp .eq 5, 3) := by decide +kernel
theorem d_B_hasMark_27 : decode prog_3_method_13_code 27 = .ok (.iconst 0, 1) := by decide +kernel
theorem d_B_hasMark_28 : decode prog_3_method_13_code 28 = .ok (.ireturn, 1) := by decide +kernel
theorem d_B_hasMark_29 : decode prog_3_method_13_code 29 = .ok (.iinc 3 1, 3) := by decide +kernel
theorem d_B_hasMark_32 : decode prog_3_method_13_code 32 = .ok (.goto (-30), 3) := by decide +kernel
theorem d_B_hasMark_35 : decode prog_3_method_13_code 35 = .ok (.iconst 1, 1) := by decide +kernel
theorem d_B_hasMark_36 : decode prog_3_method_13_code 36 = .ok (.ireturn, 1) := by decide +kernel
theorem d_B_holds_0 : decode prog_3_method_14_code 0 = .ok (.iload_n 1, 1) := by decide +kernel
theorem d_B_holds_1 : decode prog_3_method_14_code 1 = .ok (.ifCond .lt 29, 3) := by decide +kernel
theorem d_B_holds_4 : decode prog_3_method_14_code 4 = .ok (.iload_n 2, 1) := by decide +kernel
theorem d_B_holds_5 : decode prog_3_method_14_code 5 = .ok (.ifCond .lt 25, 3) := by decide +kernel
theorem d_B_holds_8 : decode prog_3_method_14_code 8 = .ok (.iload_n 2, 1) := by decide +kernel
theorem d_B_holds_9 : decode prog_3_method_14_code 9 = .ok (.aload_n 0, 1) := by decide +kernel
theorem d_B_holds_10 : decode prog_3_method_14_code 10 = .ok (.getfield 21, 3) := by decide +kernel
theorem d_B_holds_13 : decode prog_3_method_14_code 13 = .ok (.if_icmp .gt 17, 3) := by decide +kernel
theorem d_B_holds_16 : decode prog_3_method_14_code 16 = .ok (.iload_n 1, 1) := by decide +kernel
theorem d_B_holds_17 : decode prog_3_method_14_code 17 = .ok (.aload_n 0, 1) := by decide +kernel
theorem d_B_holds_18 : decode prog_3_method_14_code 18 = .ok (.getfield 21, 3) := by decide +kernel
theorem d_B_holds_21 : decode prog_3_method_14_code 21 = .ok (.iload_n 2, 1) := by decide +kernel
theorem d_B_holds_22 : decode prog_3_method_14_code 22 = .ok (.isub, 1) := by decide +kernel
theorem d_B_holds_23 : decode prog_3_method_14_code 23 = .ok (.if_icmp .gt 7, 3) := by decide +kernel
theorem d_B_holds_26 : decode prog_3_method_14_code 26 = .ok (.iconst 1, 1) := by decide +kernel
theorem d_B_holds_27 : decode prog_3_method_14_code 27 = .ok (.goto 4, 3) := by decide +kernel
theorem d_B_holds_30 : decode prog_3_method_14_code 30 = .ok (.iconst 0, 1) := by decide +kernel
theorem d_B_holds_31 : decode prog_3_method_14_code 31 = .ok (.ireturn, 1) := by decide +kernel
theorem t_B_init_0 {l : Launch} {G : mm_G} {b : Nat} {m : mm_Mem} {Q : mm_O → mm_Mem → Prop} {r0 : Nat} {x1 : Int32} {b_1 : Nat} {n_2 : Nat} {fs_7 : List Value} {fs_11 : List Value} (k3 : ¬ (if 0 < x1 then x1 else 0) < 0) (k4 : (if 0 < x1 then x1 else 0).toNatClampNeg = n_2) (k5 : n_2 * 8 ≤ 536870912) (hb6 : n_2 + 1 + b_1 ≤ b) (g8 : mm_push m (.inl (G.2 0, n_2, .inl (fun _ => 0))) r0 = .inr (2, fs_7)) (z9 : r0 ≠ 0) (l10 : 0 < fs_7.length) (g12 : va_up (mm_push m (.inl (G.2 0, n_2, .inl (fun _ => 0)))) r0 (.inr (2, fs_7.set 0 (.ref (mm_n m + 1)))) r0 = .inr (2, fs_11)) (l13 : 1 < fs_11.length) (h14 : Q (.inl none) (va_up (va_up (mm_push m (.inl (G.2 0, n_2, .inl (fun _ => 0)))) r0 (.inr (2, fs_7.set 0 (.ref (mm_n m + 1))))) r0 (.inr (2, fs_11.set 1 (.int 0))))) : mm_W l G k_B_init 0 [(0, .ref r0), (1, .int x1)] [] b m Q := by
  refine mm_aload_n 0 (i := 0) d_B_init_0 rfl rfl ?_
  refine mm_objInit w_33 w_25 w_26 d_B_init_1 (Nat.le_of_ble_eq_true rfl) (Nat.le_of_ble_eq_true rfl) ?_
  refine mm_aload_n 0 (i := 0) d_B_init_4 rfl rfl ?_
  refine mm_iconst d_B_init_5 (v := 0) (by decide) ?_
  refine mm_iload_n 1 (i := 1) d_B_init_6 rfl rfl ?_
  refine mm_math w_34 w_35 w_3 w_36 d_B_init_7 (Nat.le_of_ble_eq_true rfl) (Nat.le_of_ble_eq_true rfl) ?_
  refine mm_newa (t := 0) (ty := .byte) (a0 := .inl (fun _ => 0)) (atype := .byte) w_44 rfl rfl (fun _ => rfl) (fun _ => trivial) (fun _ => rfl) d_B_init_10 k3 k4 (Nat.le_trans (Nat.mul_le_mul_left _ (by decide)) k5) hb6 ?_
  refine mm_putF cc_B 0 (by decide) w_37 d_B_init_12 rfl rfl rfl (fun _ => rfl) (fun _ => rfl) g8 z9 l10 ?_
  refine mm_aload_n 0 (i := 0) d_B_init_15 rfl rfl ?_
  refine mm_iconst d_B_init_16 (v := 0) (by decide) ?_
  refine mm_putf cc_B 1 (by decide) w_38 d_B_init_17 rfl (fun _ => rfl) (fun _ => rfl) g12 z9 l13 ?_
  exact mm_vret d_B_init_20 rfl h14
theorem t_B_size_0 {l : Launch} {G : mm_G} {b : Nat} {m : mm_Mem} {Q : mm_O → mm_Mem → Prop} {r0 : Nat} {fs_1 : List Value} {u_4 : Int32} (g2 : m r0 = .inr (2, fs_1)) (z3 : r0 ≠ 0) (v5 : fs_1[1]? = some (.int u_4)) (h6 : Q (.inl (some (.int u_4))) m) : mm_W l G k_B_size 0 [(0, .ref r0)] [] b m Q := by
  refine mm_aload_n 0 (i := 0) d_B_size_0 rfl rfl ?_
  refine mm_get cc_B 1 (by decide) w_38 d_B_size_1 g2 z3 v5 ?_
  exact mm_iret d_B_size_4 rfl h6
theorem t_B_free_0 {l : Launch} {G : mm_G} {b : Nat} {m : mm_Mem} {Q : mm_O → mm_Mem → Prop} {r0 : Nat} {fs_1 : List Value} {q_4 : Nat} {n_6 : Nat} {f_7 : Nat → Int32} {u_10 : Int32} (g2 : m r0 = .inr (2, fs_1)) (z3 : r0 ≠ 0) (v5 : fs_1[0]? = some (.ref q_4)) (a8 : m q_4 = .inl (G.2 0, n_6, .inl f_7)) (z9 : q_4 ≠ 0) (v11 : fs_1[1]? = some (.int u_10)) (h12 : Q (.inl (some (.int ((nI n_6) - u_10)))) m) : mm_W l G k_B_free 0 [(0, .ref r0)] [] b m Q := by
  refine mm_aload_n 0 (i := 0) d_B_free_0 rfl rfl ?_
  refine mm_get cc_B 0 (by decide) w_37 d_B_free_1 g2 z3 v5 ?_
  refine mm_alen rfl d_B_free_4 a8 z9 ?_
  refine mm_aload_n 0 (i := 0) d_B_free_5 rfl rfl ?_
  refine mm_get cc_B 1 (by decide) w_38 d_B_free_6 g2 z3 v11 ?_
  refine mm_isub d_B_free_9 ?_
  exact mm_iret d_B_free_10 rfl h12
theorem t_B_get_0 {l : Launch} {G : mm_G} {b : Nat} {m : mm_Mem} {Q : mm_O → mm_Mem → Prop} {r0 : Nat} {x1 : Int32} (h1 : (x1 < 0) → mm_W l G k_B_get 12 [] [] b m Q) (h2 : (¬ x1 < 0) → mm_W l G k_B_get 4 [(0, .ref r0), (1, .int x1)] [] b m Q) : mm_W l G k_B_get 0 [(0, .ref r0), (1, .int x1)] [] b m Q := by
  refine mm_iload_n 1 (i := 1) d_B_get_0 rfl rfl ?_
  exact mm_if_lt (tgt := 12) d_B_get_1 (by decide) (fun c => mm_sub [] rfl (h1 c)) (fun c => mm_sub [0, 1] rfl (h2 c))
theorem t_B_get_4 {l : Launch} {G : mm_G} {b : Nat} {m : mm_Mem} {Q : mm_O → mm_Mem → Prop} {r0 : Nat} {x1 : Int32} {fs_1 : List Value} {u_4 : Int32} (g2 : m r0 = .inr (2, fs_1)) (z3 : r0 ≠ 0) (v5 : fs_1[1]? = some (.int u_4)) (h6 : (x1 < u_4) → mm_W l G k_B_get 16 [(0, .ref r0), (1, .int x1)] [] b m Q) (h7 : (¬ x1 < u_4) → mm_W l G k_B_get 12 [] [] b m Q) : mm_W l G k_B_get 4 [(0, .ref r0), (1, .int x1)] [] b m Q := by
  refine mm_iload_n 1 (i := 1) d_B_get_4 rfl rfl ?_
  refine mm_aload_n 0 (i := 0) d_B_get_5 rfl rfl ?_
  refine mm_get cc_B 1 (by decide) w_38 d_B_get_6 g2 z3 v5 ?_
  exact mm_icmp_lt (tgt := 16) d_B_get_9 (by decide) (fun c => mm_sub [0, 1] rfl (h6 c)) (fun c => mm_sub [] rfl (h7 c))
theorem t_B_get_12 {l : Launch} {G : mm_G} {b : Nat} {m : mm_Mem} {Q : mm_O → mm_Mem → Prop}  (h1 : mm_W l G k_B_get 26 [] [.int ((-1))] b m Q) : mm_W l G k_B_get 12 [] [] b m Q := by
  refine mm_iconst d_B_get_12 (v := (-1)) (by decide) ?_
  refine mm_goto (tgt := 26) d_B_get_13 (by decide) ?_
  exact mm_sub [] rfl h1
theorem t_B_get_16 {l : Launch} {G : mm_G} {b : Nat} {m : mm_Mem} {Q : mm_O → mm_Mem → Prop} {r0 : Nat} {x1 : Int32} {fs_1 : List Value} {q_4 : Nat} {n_6 : Nat} {f_7 : Nat → Int32} (g2 : m r0 = .inr (2, fs_1)) (z3 : r0 ≠ 0) (v5 : fs_1[0]? = some (.ref q_4)) (a8 : m q_4 = .inl (G.2 0, n_6, .inl f_7)) (z9 : q_4 ≠ 0) (i10 : vp_in x1 n_6) (h11 : mm_W l G k_B_get 26 [] [.int ((f_7 x1.toNatClampNeg) &&& 255)] b m Q) : mm_W l G k_B_get 16 [(0, .ref r0), (1, .int x1)] [] b m Q := by
  refine mm_aload_n 0 (i := 0) d_B_get_16 rfl rfl ?_
  refine mm_get cc_B 0 (by decide) w_37 d_B_get_17 g2 z3 v5 ?_
  refine mm_iload_n 1 (i := 1) d_B_get_20 rfl rfl ?_
  refine mm_bald d_B_get_21 a8 z9 i10 ?_
  refine mm_sipush d_B_get_22 (v := 255) (by decide) ?_
  refine mm_iand d_B_get_25 ?_
  exact mm_sub [] rfl h11
theorem t_B_get_26 {l : Launch} {G : mm_G} {b : Nat} {m : mm_Mem} {Q : mm_O → mm_Mem → Prop} {xs0 : Int32} (h1 : Q (.inl (some (.int xs0))) m) : mm_W l G k_B_get 26 [] [.int xs0] b m Q := by
  exact mm_iret d_B_get_26 rfl h1
theorem t_B_set_0 {l : Launch} {G : mm_G} {b : Nat} {m : mm_Mem} {Q : mm_O → mm_Mem → Prop} {r0 : Nat} {x1 : Int32} {x2 : Int32} (h1 : (x1 < 0) → mm_W l G k_B_set 20 [] [] b m Q) (h2 : (¬ x1 < 0) → mm_W l G k_B_set 4 [(0, .ref r0), (1, .int x1), (2, .int x2)] [] b m Q) : mm_W l G k_B_set 0 [(0, .ref r0), (1, .int x1), (2, .int x2)] [] b m Q := by
  refine mm_iload_n 1 (i := 1) d_B_set_0 rfl rfl ?_
  exact mm_if_lt (tgt := 20) d_B_set_1 (by decide) (fun c => mm_sub [] rfl (h1 c)) (fun c => mm_sub [0, 1, 2] rfl (h2 c))
theorem t_B_set_4 {l : Launch} {G : mm_G} {b : Nat} {m : mm_Mem} {Q : mm_O → mm_Mem → Prop} {r0 : Nat} {x1 : Int32} {x2 : Int32} {fs_1 : List Value} {u_4 : Int32} (g2 : m r0 = .inr (2, fs_1)) (z3 : r0 ≠ 0) (v5 : fs_1[1]? = some (.int u_4)) (h6 : (u_4 ≤ x1) → mm_W l G k_B_set 20 [] [] b m Q) (h7 : (¬ u_4 ≤ x1) → mm_W l G k_B_set 12 [(0, .ref r0), (1, .int x1), (2, .int x2)] [] b m Q) : mm_W l G k_B_set 4 [(0, .ref r0), (1, .int x1), (2, .int x2)] [] b m Q := by
  refine mm_iload_n 1 (i := 1) d_B_set_4 rfl rfl ?_
  refine mm_aload_n 0 (i := 0) d_B_set_5 rfl rfl ?_
  refine mm_get cc_B 1 (by decide) w_38 d_B_set_6 g2 z3 v5 ?_
  exact mm_icmp_ge (tgt := 20) d_B_set_9 (by decide) (fun c => mm_sub [] rfl (h6 c)) (fun c => mm_sub [0, 1, 2] rfl (h7 c))
theorem t_B_set_12 {l : Launch} {G : mm_G} {b : Nat} {m : mm_Mem} {Q : mm_O → mm_Mem → Prop} {r0 : Nat} {x1 : Int32} {x2 : Int32} {fs_1 : List Value} {q_4 : Nat} {n_6 : Nat} {f_7 : Nat → Int32} (g2 : m r0 = .inr (2, fs_1)) (z3 : r0 ≠ 0) (v5 : fs_1[0]? = some (.ref q_4)) (a8 : m q_4 = .inl (G.2 0, n_6, .inl f_7)) (z9 : q_4 ≠ 0) (i10 : vp_in x1 n_6) (h11 : mm_W l G k_B_set 20 [] [] b (va_up m q_4 (.inl (G.2 0, n_6, .inl (upd f_7 x1.toNatClampNeg (vp_nar .byte x2.toInt8.toInt32))))) Q) : mm_W l G k_B_set 12 [(0, .ref r0), (1, .int x1), (2, .int x2)] [] b m Q := by
  refine mm_aload_n 0 (i := 0) d_B_set_12 rfl rfl ?_
  refine mm_get cc_B 0 (by decide) w_37 d_B_set_13 g2 z3 v5 ?_
  refine mm_iload_n 1 (i := 1) d_B_set_16 rfl rfl ?_
  refine mm_iload_n 2 (i := 2) d_B_set_17 rfl rfl ?_
  refine mm_i2b d_B_set_18 ?_
  refine mm_bast d_B_set_19 a8 z9 i10 ?_
  exact mm_sub [] rfl h11
theorem t_B_set_20 {l : Launch} {G : mm_G} {b : Nat} {m : mm_Mem} {Q : mm_O → mm_Mem → Prop}  (h1 : Q (.inl none) m) : mm_W l G k_B_set 20 [] [] b m Q := by
  exact mm_vret d_B_set_20 rfl h1
theorem t_B_keep_0 {l : Launch} {G : mm_G} {b : Nat} {m : mm_Mem} {Q : mm_O → mm_Mem → Prop} {r0 : Nat} {x1 : Int32} (h1 : (x1 < 0) → mm_W l G k_B_keep 17 [] [] b m Q) (h2 : (¬ x1 < 0) → mm_W l G k_B_keep 4 [(0, .ref r0), (1, .int x1)] [] b m Q) : mm_W l G k_B_keep 0 [(0, .ref r0), (1, .int x1)] [] b m Q := by
  refine mm_iload_n 1 (i := 1) d_B_keep_0 rfl rfl ?_
  exact mm_if_lt (tgt := 17) d_B_keep_1 (by decide) (fun c => mm_sub [] rfl (h1 c)) (fun c => mm_sub [0, 1] rfl (h2 c))
theorem t_B_keep_4 {l : Launch} {G : mm_G} {b : Nat} {m : mm_Mem} {Q : mm_O → mm_Mem → Prop} {r0 : Nat} {x1 : Int32} {fs_1 : List Value} {u_4 : Int32} (g2 : m r0 = .inr (2, fs_1)) (z3 : r0 ≠ 0) (v5 : fs_1[1]? = some (.int u_4)) (h6 : (u_4 < x1) → mm_W l G k_B_keep 17 [] [] b m Q) (h7 : (¬ u_4 < x1) → mm_W l G k_B_keep 12 [(0, .ref r0), (1, .int x1)] [] b m Q) : mm_W l G k_B_keep 4 [(0, .ref r0), (1, .int x1)] [] b m Q := by
  refine mm_iload_n 1 (i := 1) d_B_keep_4 rfl rfl ?_
  refine mm_aload_n 0 (i := 0) d_B_keep_5 rfl rfl ?_
  refine mm_get cc_B 1 (by decide) w_38 d_B_keep_6 g2 z3 v5 ?_
  exact mm_icmp_gt (tgt := 17) d_B_keep_9 (by decide) (fun c => mm_sub [] rfl (h6 c)) (fun c => mm_sub [0, 1] rfl (h7 c))
theorem t_B_keep_12 {l : Launch} {G : mm_G} {b : Nat} {m : mm_Mem} {Q : mm_O → mm_Mem → Prop} {r0 : Nat} {x1 : Int32} {fs_1 : List Value} (g2 : m r0 = .inr (2, fs_1)) (z3 : r0 ≠ 0) (l4 : 1 < fs_1.length) (h5 : mm_W l G k_B_keep 17 [] [] b (va_up m r0 (.inr (2, fs_1.set 1 (.int x1)))) Q) : mm_W l G k_B_keep 12 [(0, .ref r0), (1, .int x1)] [] b m Q := by
  refine mm_aload_n 0 (i := 0) d_B_keep_12 rfl rfl ?_
  refine mm_iload_n 1 (i := 1) d_B_keep_13 rfl rfl ?_
  refine mm_putf cc_B 1 (by decide) w_38 d_B_keep_14 rfl (fun _ => rfl) (fun _ => rfl) g2 z3 l4 ?_
  exact mm_sub [] rfl h5
theorem t_B_keep_17 {l : Launch} {G : mm_G} {b : Nat} {m : mm_Mem} {Q : mm_O → mm_Mem → Prop}  (h1 : Q (.inl none) m) : mm_W l G k_B_keep 17 [] [] b m Q := by
  exact mm_vret d_B_keep_17 rfl h1
theorem t_B_push_0 {l : Launch} {G : mm_G} {b : Nat} {m : mm_Mem} {Q : mm_O → mm_Mem → Prop} {r0 : Nat} {x1 : Int32} {fs_1 : List Value} {u_4 : Int32} {q_6 : Nat} {n_8 : Nat} {f_9 : Nat → Int32} (g2 : m r0 = .inr (2, fs_1)) (z3 : r0 ≠ 0) (v5 : fs_1[1]? = some (.int u_4)) (v7 : fs_1[0]? = some (.ref q_6)) (a10 : m q_6 = .inl (G.2 0, n_8, .inl f_9)) (z11 : q_6 ≠ 0) (h12 : ((nI n_8) ≤ u_4) → mm_W l G k_B_push 33 [] [] b m Q) (h13 : (¬ (nI n_8) ≤ u_4) → mm_W l G k_B_push 12 [(0, .ref r0), (1, .int x1)] [] b m Q) : mm_W l G k_B_push 0 [(0, .ref r0), (1, .int x1)] [] b m Q := by
  refine mm_aload_n 0 (i := 0) d_B_push_0 rfl rfl ?_
  refine mm_get cc_B 1 (by decide) w_38 d_B_push_1 g2 z3 v5 ?_
  refine mm_aload_n 0 (i := 0) d_B_push_4 rfl rfl ?_
  refine mm_get cc_B 0 (by decide) w_37 d_B_push_5 g2 z3 v7 ?_
  refine mm_alen rfl d_B_push_8 a10 z11 ?_
  exact mm_icmp_ge (tgt := 33) d_B_push_9 (by decide) (fun c => mm_sub [] rfl (h12 c)) (fun c => mm_sub [0, 1] rfl (h13 c))
theorem t_B_push_12 {l : Launch} {G : mm_G} {b : Nat} {m : mm_Mem} {Q : mm_O → mm_Mem → Prop} {r0 : Nat} {x1 : Int32} {fs_1 : List Value} {q_4 : Nat} {u_6 : Int32} {n_8 : Nat} {f_9 : Nat → Int32} {fs_13 : List Value} {u_15 : Int32} {m_18 : mm_Mem} (g2 : m r0 = .inr (2, fs_1)) (z3 : r0 ≠ 0) (v5 : fs_1[0]? = some (.ref q_4)) (v7 : fs_1[1]? = some (.int u_6)) (a10 : m q_4 = .inl (G.2 0, n_8, .inl f_9)) (z11 : q_4 ≠ 0) (i12 : vp_in u_6 n_8) (g14 : va_up m q_4 (.inl (G.2 0, n_8, .inl (upd f_9 u_6.toNatClampNeg (vp_nar .byte x1.toInt8.toInt32)))) r0 = .inr (2, fs_13)) (v16 : fs_13[1]? = some (.int u_15)) (l17 : 1 < fs_13.length) (q19 : m_18 = va_up (va_up m q_4 (.inl (G.2 0, n_8, .inl (upd f_9 u_6.toNatClampNeg (vp_nar .byte x1.toInt8.toInt32))))) r0 (.inr (2, fs_13.set 1 (.int (u_15 + 1))))) (h20 : mm_W l G k_B_push 33 [] [] b m_18 Q) : mm_W l G k_B_push 12 [(0, .ref r0), (1, .int x1)] [] b m Q := by
  refine mm_aload_n 0 (i := 0) d_B_push_12 rfl rfl ?_
  refine mm_get cc_B 0 (by decide) w_37 d_B_push_13 g2 z3 v5 ?_
  refine mm_aload_n 0 (i := 0) d_B_push_16 rfl rfl ?_
  refine mm_get cc_B 1 (by decide) w_38 d_B_push_17 g2 z3 v7 ?_
  refine mm_iload_n 1 (i := 1) d_B_push_20 rfl rfl ?_
  refine mm_i2b d_B_push_21 ?_
  refine mm_bast d_B_push_22 a10 z11 i12 ?_
  refine mm_aload_n 0 (i := 0) d_B_push_23 rfl rfl ?_
  refine mm_dup d_B_push_24 rfl ?_
  refine mm_get cc_B 1 (by decide) w_38 d_B_push_25 g14 z3 v16 ?_
  refine mm_iconst d_B_push_28 (v := 1) (by decide) ?_
  refine mm_iadd d_B_push_29 ?_
  refine mm_putf cc_B 1 (by decide) w_38 d_B_push_30 rfl (fun _ => rfl) (fun _ => rfl) g14 z3 l17 ?_
  refine mm_eqm q19 ?_
  exact mm_sub [] rfl h20
theorem t_B_push_33 {l : Launch} {G : mm_G} {b : Nat} {m : mm_Mem} {Q : mm_O → mm_Mem → Prop}  (h1 : Q (.inl none) m) : mm_W l G k_B_push 33 [] [] b m Q := by
  exact mm_vret d_B_push_33 rfl h1
theorem t_B_pushWord_0 {l : Launch} {G : mm_G} {b : Nat} {m : mm_Mem} {Q : mm_O → mm_Mem → Prop} {r0 : Nat} {x1 : Int32} (h1 : mm_W l G k_B_pushWord 3 [(0, .ref r0), (1, .int x1), (2, .int 24)] [] b m Q) : mm_W l G k_B_pushWord 0 [(0, .ref r0), (1, .int x1)] [] b m Q := by
  refine mm_bipush d_B_pushWord_0 (v := 24) (by decide) ?_
  refine mm_istore_n (i := 2) d_B_pushWord_2 rfl (Nat.le_of_ble_eq_true rfl) (lv2 := [(2, .int 24), (0, .ref r0), (1, .int x1)]) rfl ?_
  exact mm_sub [1, 2, 0] rfl h1
theorem t_B_pushWord_3 {l : Launch} {G : mm_G} {b : Nat} {m : mm_Mem} {Q : mm_O → mm_Mem → Prop} {r0 : Nat} {x1 : Int32} {x2 : Int32} (h1 : (x2 < 0) → mm_W l G k_B_pushWord 20 [] [] b m Q) (h2 : (¬ x2 < 0) → mm_W l G k_B_pushWord 7 [(0, .ref r0), (1, .int x1), (2, .int x2)] [] b m Q) : mm_W l G k_B_pushWord 3 [(0, .ref r0), (1, .int x1), (2, .int x2)] [] b m Q := by
  refine mm_iload_n 2 (i := 2) d_B_pushWord_3 rfl rfl ?_
  exact mm_if_lt (tgt := 20) d_B_pushWord_4 (by decide) (fun c => mm_sub [] rfl (h1 c)) (fun c => mm_sub [0, 1, 2] rfl (h2 c))
theorem t_B_pushWord_7 {l : Launch} {G : mm_G} {b : Nat} {m : mm_Mem} {Q : mm_O → mm_Mem → Prop} {r0 : Nat} {x1 : Int32} {x2 : Int32} {b_1 : Nat} {b_2 : Nat} {m_4 : mm_Mem} {fs_5 : List Value} (hb3 : b_1 + b_2 ≤ b) (g6 : m r0 = .inr (2, fs_5)) (z7 : r0 ≠ 0) (M8 : mm_W l G k_B_push 0 (lv_args 0 [.ref r0, .int ((x1.toUInt32 >>> (x2.toUInt32 &&& Int32.toUInt32 31)).toInt32)]) [] b_1 m (mm_is (.inl none) m_4)) (h9 : mm_W l G k_B_pushWord 3 [(0, .ref r0), (1, .int x1), (2, .int (x2 + (-8)))] [] b_2 m_4 Q) : mm_W l G k_B_pushWord 7 [(0, .ref r0), (1, .int x1), (2, .int x2)] [] b m Q := by
  refine mm_aload_n 0 (i := 0) d_B_pushWord_7 rfl rfl ?_
  refine mm_iload_n 1 (i := 1) d_B_pushWord_8 rfl rfl ?_
  refine mm_iload_n 2 (i := 2) d_B_pushWord_9 rfl rfl ?_
  refine mm_iushr d_B_pushWord_10 ?_
  refine mm_callV (as := [.int ((x1.toUInt32 >>> (x2.toUInt32 &&& Int32.toUInt32 31)).toInt32)]) (st := []) (b2 := b_2) ca_B_push w_376 w_377 w_378 cc_B.1 rfl d_B_pushWord_11 rfl (Nat.le_of_ble_eq_true rfl) (Nat.le_of_ble_eq_true rfl) (Nat.le_of_ble_eq_true rfl) hb3 g6 z7 M8 (fun E _ ⟨c, _⟩ => nomatch c) (fun v _ ⟨c, e⟩ => ?_)
  cases c
  rw [e]
  show mm_W l G k_B_pushWord 14 [(0, .ref r0), (1, .int x1), (2, .int x2)] [] b_2 m_4 Q
  refine mm_iinc 2 (i := 2) d_B_pushWord_14 rfl (v := x2 + (-8)) rfl (Nat.le_of_ble_eq_true rfl) (lv2 := [(2, .int (x2 + (-8))), (0, .ref r0), (1, .int x1)]) rfl ?_
  refine mm_goto (tgt := 3) d_B_pushWord_17 (by decide) ?_
  exact mm_sub [1, 2, 0] rfl h9
theorem t_B_pushWord_20 {l : Launch} {G : mm_G} {b : Nat} {m : mm_Mem} {Q : mm_O → mm_Mem → Prop}  (h1 : Q (.inl none) m) : mm_W l G k_B_pushWord 20 [] [] b m Q := by
  exact mm_vret d_B_pushWord_20 rfl h1
theorem t_B_pushNumber_0 {l : Launch} {G : mm_G} {b : Nat} {m : mm_Mem} {Q : mm_O → mm_Mem → Prop} {r0 : Nat} {x1 : Int32} {x2 : Int32} (h1 : mm_W l G k_B_pushNumber 2 [(0, .ref r0), (1, .int x1), (2, .int x2), (3, .int 0)] [] b m Q) : mm_W l G k_B_pushNumber 0 [(0, .ref r0), (1, .int x1), (2, .int x2)] [] b m Q := by
  refine mm_iconst d_B_pushNumber_0 (v := 0) (by decide) ?_
  refine mm_istore_n (i := 3) d_B_pushNumber_1 rfl (Nat.le_of_ble_eq_true rfl) (lv2 := [(3, .int 0), (0, .ref r0), (1, .int x1), (2, .int x2)]) rfl ?_
  exact mm_sub [1, 2, 3, 0] rfl h1
theorem t_B_pushNumber_2 {l : Launch} {G : mm_G} {b : Nat} {m : mm_Mem} {Q : mm_O → mm_Mem → Prop} {r0 : Nat} {x1 : Int32} {x2 : Int32} {x3 : Int32} (h1 : (x2 ≤ x3) → mm_W l G k_B_pushNumber 28 [] [] b m Q) (h2 : (¬ x2 ≤ x3) → mm_W l G k_B_pushNumber 7 [(0, .ref r0), (1, .int x1), (2, .int x2), (3, .int x3)] [] b m Q) : mm_W l G k_B_pushNumber 2 [(0, .ref r0), (1, .int x1), (2, .int x2), (3, .int x3)] [] b m Q := by
  refine mm_iload_n 3 (i := 3) d_B_pushNumber_2 rfl rfl ?_
  refine mm_iload_n 2 (i := 2) d_B_pushNumber_3 rfl rfl ?_
  exact mm_icmp_ge (tgt := 28) d_B_pushNumber_4 (by decide) (fun c => mm_sub [] rfl (h1 c)) (fun c => mm_sub [0, 1, 2, 3] rfl (h2 c))
theorem t_B_pushNumber_7 {l : Launch} {G : mm_G} {b : Nat} {m : mm_Mem} {Q : mm_O → mm_Mem → Prop} {r0 : Nat} {x1 : Int32} {x2 : Int32} {x3 : Int32} (h1 : (4 ≤ x3) → mm_W l G k_B_pushNumber 28 [] [] b m Q) (h2 : (¬ 4 ≤ x3) → mm_W l G k_B_pushNumber 12 [(0, .ref r0), (1, .int x1), (2, .int x2), (3, .int x3)] [] b m Q) : mm_W l G k_B_pushNumber 7 [(0, .ref r0), (1, .int x1), (2, .int x2), (3, .int x3)] [] b m Q := by
  refine mm_iload_n 3 (i := 3) d_B_pushNumber_7 rfl rfl ?_
  refine mm_iconst d_B_pushNumber_8 (v := 4) (by decide) ?_
  exact mm_icmp_ge (tgt := 28) d_B_pushNumber_9 (by decide) (fun c => mm_sub [] rfl (h1 c)) (fun c => mm_sub [0, 1, 2, 3] rfl (h2 c))
theorem t_B_pushNumber_12 {l : Launch} {G : mm_G} {b : Nat} {m : mm_Mem} {Q : mm_O → mm_Mem → Prop} {r0 : Nat} {x1 : Int32} {x2 : Int32} {x3 : Int32} {b_1 : Nat} {b_2 : Nat} {m_4 : mm_Mem} {fs_5 : List Value} (hb3 : b_1 + b_2 ≤ b) (g6 : m r0 = .inr (2, fs_5)) (z7 : r0 ≠ 0) (M8 : mm_W l G k_B_push 0 (lv_args 0 [.ref r0, .int ((x1.toUInt32 >>> ((8 * x3).toUInt32 &&& Int32.toUInt32 31)).toInt32)]) [] b_1 m (mm_is (.inl none) m_4)) (h9 : mm_W l G k_B_pushNumber 2 [(0, .ref r0), (1, .int x1), (2, .int x2), (3, .int (x3 + 1))] [] b_2 m_4 Q) : mm_W l G k_B_pushNumber 12 [(0, .ref r0), (1, .int x1), (2, .int x2), (3, .int x3)] [] b m Q := by
  refine mm_aload_n 0 (i := 0) d_B_pushNumber_12 rfl rfl ?_
  refine mm_iload_n 1 (i := 1) d_B_pushNumber_13 rfl rfl ?_
  refine mm_bipush d_B_pushNumber_14 (v := 8) (by decide) ?_
  refine mm_iload_n 3 (i := 3) d_B_pushNumber_16 rfl rfl ?_
  refine mm_imul d_B_pushNumber_17 ?_
  refine mm_iushr d_B_pushNumber_18 ?_
  refine mm_callV (as := [.int ((x1.toUInt32 >>> ((8 * x3).toUInt32 &&& Int32.toUInt32 31)).toInt32)]) (st := []) (b2 := b_2) ca_B_push w_376 w_377 w_378 cc_B.1 rfl d_B_pushNumber_19 rfl (Nat.le_of_ble_eq_true rfl) (Nat.le_of_ble_eq_true rfl) (Nat.le_of_ble_eq_true rfl) hb3 g6 z7 M8 (fun E _ ⟨c, _⟩ => nomatch c) (fun v _ ⟨c, e⟩ => ?_)
  cases c
  rw [e]
  show mm_W l G k_B_pushNumber 22 [(0, .ref r0), (1, .int x1), (2, .int x2), (3, .int x3)] [] b_2 m_4 Q
  refine mm_iinc 3 (i := 3) d_B_pushNumber_22 rfl (v := x3 + 1) rfl (Nat.le_of_ble_eq_true rfl) (lv2 := [(3, .int (x3 + 1)), (0, .ref r0), (1, .int x1), (2, .int x2)]) rfl ?_
  refine mm_goto (tgt := 2) d_B_pushNumber_25 (by decide) ?_
  exact mm_sub [1, 2, 3, 0] rfl h9
theorem t_B_pushNumber_28 {l : Launch} {G : mm_G} {b : Nat} {m : mm_Mem} {Q : mm_O → mm_Mem → Prop}  (h1 : Q (.inl none) m) : mm_W l G k_B_pushNumber 28 [] [] b m Q := by
  exact mm_vret d_B_pushNumber_28 rfl h1
theorem t_B_pushAll_0 {l : Launch} {G : mm_G} {b : Nat} {m : mm_Mem} {Q : mm_O → mm_Mem → Prop} {r0 : Nat} {r1 : Nat} {x2 : Int32} {x3 : Int32} {b_1 : Nat} {b_2 : Nat} {m_4 : mm_Mem} {x_5 : Int32} {fs_6 : List Value} (hb3 : b_1 + b_2 ≤ b) (g7 : m r1 = .inr (2, fs_6)) (z8 : r1 ≠ 0) (M9 : mm_W l G k_B_holds 0 (lv_args 0 [.ref r1, .int x2, .int x3]) [] b_1 m (mm_is (.inl (some (.int x_5))) m_4)) (h10 : (x_5 = 0) → mm_W l G k_B_pushAll 44 [] [] b_2 m_4 Q) (h11 : (¬ x_5 = 0) → mm_W l G k_B_pushAll 9 [(0, .ref r0), (1, .ref r1), (2, .int x2), (3, .int x3)] [] b_2 m_4 Q) : mm_W l G k_B_pushAll 0 [(0, .ref r0), (1, .ref r1), (2, .int x2), (3, .int x3)] [] b m Q := by
  refine mm_aload_n 1 (i := 1) d_B_pushAll_0 rfl rfl ?_
  refine mm_iload_n 2 (i := 2) d_B_pushAll_1 rfl rfl ?_
  refine mm_iload_n 3 (i := 3) d_B_pushAll_2 rfl rfl ?_
  refine mm_callV (as := [.int x2, .int x3]) (st := []) (b2 := b_2) ca_B_holds w_488 w_490 v_B_holds cc_B.1 rfl d_B_pushAll_3 rfl (Nat.le_of_ble_eq_true rfl) (Nat.le_of_ble_eq_true rfl) (Nat.le_of_ble_eq_true rfl) hb3 g7 z8 M9 (fun E _ ⟨c, _⟩ => nomatch c) (fun v _ ⟨c, e⟩ => ?_)
  cases c
  rw [e]
  show mm_W l G k_B_pushAll 6 [(0, .ref r0), (1, .ref r1), (2, .int x2), (3, .int x3)] [.int x_5] b_2 m_4 Q
  exact mm_if_eq (tgt := 44) d_B_pushAll_6 (by decide) (fun c => mm_sub [] rfl (h10 c)) (fun c => mm_sub [0, 1, 2, 3] rfl (h11 c))
theorem t_B_pushAll_9 {l : Launch} {G : mm_G} {b : Nat} {m : mm_Mem} {Q : mm_O → mm_Mem → Prop} {r0 : Nat} {r1 : Nat} {x2 : Int32} {x3 : Int32} {b_1 : Nat} {b_2 : Nat} {m_4 : mm_Mem} {x_5 : Int32} {fs_6 : List Value} (hb3 : b_1 + b_2 ≤ b) (g7 : m r0 = .inr (2, fs_6)) (z8 : r0 ≠ 0) (M9 : mm_W l G k_B_free 0 (lv_args 0 [.ref r0]) [] b_1 m (mm_is (.inl (some (.int x_5))) m_4)) (h10 : (x_5 < x3) → mm_W l G k_B_pushAll 44 [] [] b_2 m_4 Q) (h11 : (¬ x_5 < x3) → mm_W l G k_B_pushAll 17 [(0, .ref r0), (1, .ref r1), (2, .int x2), (3, .int x3)] [] b_2 m_4 Q) : mm_W l G k_B_pushAll 9 [(0, .ref r0), (1, .ref r1), (2, .int x2), (3, .int x3)] [] b m Q := by
  refine mm_iload_n 3 (i := 3) d_B_pushAll_9 rfl rfl ?_
  refine mm_aload_n 0 (i := 0) d_B_pushAll_10 rfl rfl ?_
  refine mm_callV (as := []) (st := [.int x3]) (b2 := b_2) ca_B_free w_492 w_302 w_303 cc_B.1 rfl d_B_pushAll_11 rfl (Nat.le_of_ble_eq_true rfl) (Nat.le_of_ble_eq_true rfl) (Nat.le_of_ble_eq_true rfl) hb3 g7 z8 M9 (fun E _ ⟨c, _⟩ => nomatch c) (fun v _ ⟨c, e⟩ => ?_)
  cases c
  rw [e]
  show mm_W l G k_B_pushAll 14 [(0, .ref r0), (1, .ref r1), (2, .int x2), (3, .int x3)] [.int x_5, .int x3] b_2 m_4 Q
  exact mm_icmp_gt (tgt := 44) d_B_pushAll_14 (by decide) (fun c => mm_sub [] rfl (h10 c)) (fun c => mm_sub [0, 1, 2, 3] rfl (h11 c))
theorem t_B_pushAll_17 {l : Launch} {G : mm_G} {b : Nat} {m : mm_Mem} {Q : mm_O → mm_Mem → Prop} {r0 : Nat} {r1 : Nat} {x2 : Int32} {x3 : Int32} {fs_1 : List Value} {q_4 : Nat} {fs_6 : List Value} {q_9 : Nat} {u_11 : Int32} {n_13 : Nat} {f_14 : Nat → Int32} {n_16 : Nat} {f_17 : Nat → Int32} {fs_27 : List Value} {u_29 : Int32} {m_32 : mm_Mem} (g2 : m r1 = .inr (2, fs_1)) (z3 : r1 ≠ 0) (v5 : fs_1[0]? = some (.ref q_4)) (g7 : m r0 = .inr (2, fs_6)) (z8 : r0 ≠ 0) (v10 : fs_6[0]? = some (.ref q_9)) (v12 : fs_6[1]? = some (.int u_11)) (a15 : m q_4 = .inl (G.2 0, n_13, .inl f_14)) (a18 : m q_9 = .inl (G.2 0, n_16, .inl f_17)) (z19 : q_4 ≠ 0) (z20 : q_9 ≠ 0) (k21 : ¬ x2 < 0) (k22 : ¬ u_11 < 0) (k23 : ¬ x3 < 0) (k24 : x2.toNatClampNeg + x3.toNatClampNeg ≤ n_13) (k25 : u_11.toNatClampNeg + x3.toNatClampNeg ≤ n_16) (k26 : ∀ i, i < x3.toNatClampNeg → fits .byte (.int (f_14 (x2.toNatClampNeg + i))) = true) (g28 : va_up m q_9 (.inl (G.2 0, n_16, .inl (va_cpy f_14 f_17 x2.toNatClampNeg u_11.toNatClampNeg x3.toNatClampNeg))) r0 = .inr (2, fs_27)) (v30 : fs_27[1]? = some (.int u_29)) (l31 : 1 < fs_27.length) (q33 : m_32 = va_up (va_up m q_9 (.inl (G.2 0, n_16, .inl (va_cpy f_14 f_17 x2.toNatClampNeg u_11.toNatClampNeg x3.toNatClampNeg)))) r0 (.inr (2, fs_27.set 1 (.int (u_29 + x3))))) (h34 : mm_W l G k_B_pushAll 44 [] [] b m_32 Q) : mm_W l G k_B_pushAll 17 [(0, .ref r0), (1, .ref r1), (2, .int x2), (3, .int x3)] [] b m Q := by
  refine mm_aload_n 1 (i := 1) d_B_pushAll_17 rfl rfl ?_
  refine mm_get cc_B 0 (by decide) w_37 d_B_pushAll_18 g2 z3 v5 ?_
  refine mm_iload_n 2 (i := 2) d_B_pushAll_21 rfl rfl ?_
  refine mm_aload_n 0 (i := 0) d_B_pushAll_22 rfl rfl ?_
  refine mm_get cc_B 0 (by decide) w_37 d_B_pushAll_23 g7 z8 v10 ?_
  refine mm_aload_n 0 (i := 0) d_B_pushAll_26 rfl rfl ?_
  refine mm_get cc_B 1 (by decide) w_38 d_B_pushAll_27 g7 z8 v12 ?_
  refine mm_iload_n 3 (i := 3) d_B_pushAll_30 rfl rfl ?_
  refine mm_copyb (t := 0) rfl rfl w_493 w_495 w_494 w_18 d_B_pushAll_31 (Nat.le_of_ble_eq_true rfl) (Nat.le_of_ble_eq_true rfl) a15 z19 a18 z20 k21 k22 k23 k24 k25 k26 ?_
  refine mm_aload_n 0 (i := 0) d_B_pushAll_34 rfl rfl ?_
  refine mm_dup d_B_pushAll_35 rfl ?_
  refine mm_get cc_B 1 (by decide) w_38 d_B_pushAll_36 g28 z8 v30 ?_
  refine mm_iload_n 3 (i := 3) d_B_pushAll_39 rfl rfl ?_
  refine mm_iadd d_B_pushAll_40 ?_
  refine mm_putf cc_B 1 (by decide) w_38 d_B_pushAll_41 rfl (fun _ => rfl) (fun _ => rfl) g28 z8 l31 ?_
  refine mm_eqm q33 ?_
  exact mm_sub [] rfl h34
theorem t_B_pushAll_44 {l : Launch} {G : mm_G} {b : Nat} {m : mm_Mem} {Q : mm_O → mm_Mem → Prop}  (h1 : Q (.inl none) m) : mm_W l G k_B_pushAll 44 [] [] b m Q := by
  exact mm_vret d_B_pushAll_44 rfl h1
theorem t_B_cut_0 {l : Launch} {G : mm_G} {b : Nat} {m : mm_Mem} {Q : mm_O → mm_Mem → Prop} {r0 : Nat} {x1 : Int32} {x2 : Int32} {b_1 : Nat} {b_2 : Nat} {m_4 : mm_Mem} {x_5 : Int32} {fs_6 : List Value} (hb3 : b_1 + b_2 ≤ b) (g7 : m r0 = .inr (2, fs_6)) (z8 : r0 ≠ 0) (M9 : mm_W l G k_B_holds 0 (lv_args 0 [.ref r0, .int x1, .int x2]) [] b_1 m (mm_is (.inl (some (.int x_5))) m_4)) (h10 : (x_5 = 0) → mm_W l G k_B_cut 42 [] [] b_2 m_4 Q) (h11 : (¬ x_5 = 0) → mm_W l G k_B_cut 9 [(0, .ref r0), (1, .int x1), (2, .int x2)] [] b_2 m_4 Q) : mm_W l G k_B_cut 0 [(0, .ref r0), (1, .int x1), (2, .int x2)] [] b m Q := by
  refine mm_aload_n 0 (i := 0) d_B_cut_0 rfl rfl ?_
  refine mm_iload_n 1 (i := 1) d_B_cut_1 rfl rfl ?_
  refine mm_iload_n 2 (i := 2) d_B_cut_2 rfl rfl ?_
  refine mm_callV (as := [.int x1, .int x2]) (st := []) (b2 := b_2) ca_B_holds w_488 w_490 v_B_holds cc_B.1 rfl d_B_cut_3 rfl (Nat.le_of_ble_eq_true rfl) (Nat.le_of_ble_eq_true rfl) (Nat.le_of_ble_eq_true rfl) hb3 g7 z8 M9 (fun E _ ⟨c, _⟩ => nomatch c) (fun v _ ⟨c, e⟩ => ?_)
  cases c
  rw [e]
  show mm_W l G k_B_cut 6 [(0, .ref r0), (1, .int x1), (2, .int x2)] [.int x_5] b_2 m_4 Q
  exact mm_if_eq (tgt := 42) d_B_cut_6 (by decide) (fun c => mm_sub [] rfl (h10 c)) (fun c => mm_sub [0, 1, 2] rfl (h11 c))
theorem t_B_cut_9 {l : Launch} {G : mm_G} {b : Nat} {m : mm_Mem} {Q : mm_O → mm_Mem → Prop} {r0 : Nat} {x1 : Int32} {x2 : Int32} {fs_1 : List Value} {q_4 : Nat} {u_6 : Int32} {n_8 : Nat} {f_9 : Nat → Int32} {fs_18 : List Value} {u_20 : Int32} {m_23 : mm_Mem} (g2 : m r0 = .inr (2, fs_1)) (z3 : r0 ≠ 0) (v5 : fs_1[0]? = some (.ref q_4)) (v7 : fs_1[1]? = some (.int u_6)) (a10 : m q_4 = .inl (G.2 0, n_8, .inl f_9)) (z11 : q_4 ≠ 0) (k12 : ¬ (x1 + x2) < 0) (k13 : ¬ x1 < 0) (k14 : ¬ ((u_6 - x1) - x2) < 0) (k15 : (x1 + x2).toNatClampNeg + ((u_6 - x1) - x2).toNatClampNeg ≤ n_8) (k16 : x1.toNatClampNeg + ((u_6 - x1) - x2).toNatClampNeg ≤ n_8) (k17 : ∀ i, i < ((u_6 - x1) - x2).toNatClampNeg → fits .byte (.int (f_9 ((x1 + x2).toNatClampNeg + i))) = true) (g19 : va_up m q_4 (.inl (G.2 0, n_8, .inl (va_cpy f_9 f_9 (x1 + x2).toNatClampNeg x1.toNatClampNeg ((u_6 - x1) - x2).toNatClampNeg))) r0 = .inr (2, fs_18)) (v21 : fs_18[1]? = some (.int u_20)) (l22 : 1 < fs_18.length) (q24 : m_23 = va_up (va_up m q_4 (.inl (G.2 0, n_8, .inl (va_cpy f_9 f_9 (x1 + x2).toNatClampNeg x1.toNatClampNeg ((u_6 - x1) - x2).toNatClampNeg)))) r0 (.inr (2, fs_18.set 1 (.int (u_20 - x2))))) (h25 : mm_W l G k_B_cut 42 [] [] b m_23 Q) : mm_W l G k_B_cut 9 [(0, .ref r0), (1, .int x1), (2, .int x2)] [] b m Q := by
  refine mm_aload_n 0 (i := 0) d_B_cut_9 rfl rfl ?_
  refine mm_get cc_B 0 (by decide) w_37 d_B_cut_10 g2 z3 v5 ?_
  refine mm_iload_n 1 (i := 1) d_B_cut_13 rfl rfl ?_
  refine mm_iload_n 2 (i := 2) d_B_cut_14 rfl rfl ?_
  refine mm_iadd d_B_cut_15 ?_
  refine mm_aload_n 0 (i := 0) d_B_cut_16 rfl rfl ?_
  refine mm_get cc_B 0 (by decide) w_37 d_B_cut_17 g2 z3 v5 ?_
  refine mm_iload_n 1 (i := 1) d_B_cut_20 rfl rfl ?_
  refine mm_aload_n 0 (i := 0) d_B_cut_21 rfl rfl ?_
  refine mm_get cc_B 1 (by decide) w_38 d_B_cut_22 g2 z3 v7 ?_
  refine mm_iload_n 1 (i := 1) d_B_cut_25 rfl rfl ?_
  refine mm_isub d_B_cut_26 ?_
  refine mm_iload_n 2 (i := 2) d_B_cut_27 rfl rfl ?_
  refine mm_isub d_B_cut_28 ?_
  refine mm_copyb (t := 0) rfl rfl w_493 w_495 w_494 w_18 d_B_cut_29 (Nat.le_of_ble_eq_true rfl) (Nat.le_of_ble_eq_true rfl) a10 z11 a10 z11 k12 k13 k14 k15 k16 k17 ?_
  refine mm_aload_n 0 (i := 0) d_B_cut_32 rfl rfl ?_
  refine mm_dup d_B_cut_33 rfl ?_
  refine mm_get cc_B 1 (by decide) w_38 d_B_cut_34 g19 z3 v21 ?_
  refine mm_iload_n 2 (i := 2) d_B_cut_37 rfl rfl ?_
  refine mm_isub d_B_cut_38 ?_
  refine mm_putf cc_B 1 (by decide) w_38 d_B_cut_39 rfl (fun _ => rfl) (fun _ => rfl) g19 z3 l22 ?_
  refine mm_eqm q24 ?_
  exact mm_sub [] rfl h25
theorem t_B_cut_42 {l : Launch} {G : mm_G} {b : Nat} {m : mm_Mem} {Q : mm_O → mm_Mem → Prop}  (h1 : Q (.inl none) m) : mm_W l G k_B_cut 42 [] [] b m Q := by
  exact mm_vret d_B_cut_42 rfl h1
theorem t_B_number_0 {l : Launch} {G : mm_G} {b : Nat} {m : mm_Mem} {Q : mm_O → mm_Mem → Prop} {r0 : Nat} {x1 : Int32} {x2 : Int32} {b_1 : Nat} {b_2 : Nat} {m_4 : mm_Mem} {x_5 : Int32} {fs_6 : List Value} (hb3 : b_1 + b_2 ≤ b) (g7 : m r0 = .inr (2, fs_6)) (z8 : r0 ≠ 0) (M9 : mm_W l G k_B_holds 0 (lv_args 0 [.ref r0, .int x1, .int x2]) [] b_1 m (mm_is (.inl (some (.int x_5))) m_4)) (h10 : (¬ x_5 = 0) → mm_W l G k_B_number 13 [(0, .ref r0), (1, .int x1), (2, .int x2)] [] b_2 m_4 Q) (h11 : (x_5 = 0) → mm_W l G k_B_number 9 [] [] b_2 m_4 Q) : mm_W l G k_B_number 0 [(0, .ref r0), (1, .int x1), (2, .int x2)] [] b m Q := by
  refine mm_aload_n 0 (i := 0) d_B_number_0 rfl rfl ?_
  refine mm_iload_n 1 (i := 1) d_B_number_1 rfl rfl ?_
  refine mm_iload_n 2 (i := 2) d_B_number_2 rfl rfl ?_
  refine mm_callV (as := [.int x1, .int x2]) (st := []) (b2 := b_2) ca_B_holds w_488 w_490 v_B_holds cc_B.1 rfl d_B_number_3 rfl (Nat.le_of_ble_eq_true rfl) (Nat.le_of_ble_eq_true rfl) (Nat.le_of_ble_eq_true rfl) hb3 g7 z8 M9 (fun E _ ⟨c, _⟩ => nomatch c) (fun v _ ⟨c, e⟩ => ?_)
  cases c
  rw [e]
  show mm_W l G k_B_number 6 [(0, .ref r0), (1, .int x1), (2, .int x2)] [.int x_5] b_2 m_4 Q
  exact mm_if_ne (tgt := 13) d_B_number_6 (by decide) (fun c => mm_sub [0, 1, 2] rfl (h10 c)) (fun c => mm_sub [] rfl (h11 c))
theorem t_B_number_9 {l : Launch} {G : mm_G} {b : Nat} {m : mm_Mem} {Q : mm_O → mm_Mem → Prop}  (h1 : Q (.inl (some (.long ((-1))))) m) : mm_W l G k_B_number 9 [] [] b m Q := by
  refine mm_ldc2 (v := (-1)) w_646 d_B_number_9 ?_
  exact mm_lret d_B_number_12 rfl h1
theorem t_B_number_13 {l : Launch} {G : mm_G} {b : Nat} {m : mm_Mem} {Q : mm_O → mm_Mem → Prop} {r0 : Nat} {x1 : Int32} {x2 : Int32} (h1 : mm_W l G k_B_number 20 [(0, .ref r0), (1, .int x1), (3, .long 0), (5, .int (x2 - 1))] [] b m Q) : mm_W l G k_B_number 13 [(0, .ref r0), (1, .int x1), (2, .int x2)] [] b m Q := by
  refine mm_lconst d_B_number_13 (v := 0) (by decide) ?_
  refine mm_lstore_n (i := 3) d_B_number_14 rfl (Nat.le_of_ble_eq_true rfl) (lv2 := [(3, .long 0), (0, .ref r0), (1, .int x1), (2, .int x2)]) rfl ?_
  refine mm_iload_n 3 (i := 2) d_B_number_15 rfl rfl ?_
  refine mm_iconst d_B_number_16 (v := 1) (by decide) ?_
  refine mm_isub d_B_number_17 ?_
  refine mm_istore (i := 5) d_B_number_18 (Nat.le_of_ble_eq_true rfl) (lv2 := [(5, .int (x2 - 1)), (3, .long 0), (0, .ref r0), (1, .int x1), (2, .int x2)]) rfl ?_
  exact mm_sub [2, 3, 1, 0] rfl h1
theorem t_B_number_20 {l : Launch} {G : mm_G} {b : Nat} {m : mm_Mem} {Q : mm_O → mm_Mem → Prop} {r0 : Nat} {x1 : Int32} {y3 : Int64} {x5 : Int32} (h1 : (x5 < 0) → mm_W l G k_B_number 46 [(3, .long y3)] [] b m Q) (h2 : (¬ x5 < 0) → mm_W l G k_B_number 25 [(0, .ref r0), (1, .int x1), (3, .long y3), (5, .int x5)] [] b m Q) : mm_W l G k_B_number 20 [(0, .ref r0), (1, .int x1), (3, .long y3), (5, .int x5)] [] b m Q := by
  refine mm_iload 3 (i := 5) d_B_number_20 rfl ?_
  exact mm_if_lt (tgt := 46) d_B_number_22 (by decide) (fun c => mm_sub [2] rfl (h1 c)) (fun c => mm_sub [0, 1, 2, 3] rfl (h2 c))
theorem t_B_number_25 {l : Launch} {G : mm_G} {b : Nat} {m : mm_Mem} {Q : mm_O → mm_Mem → Prop} {r0 : Nat} {x1 : Int32} {y3 : Int64} {x5 : Int32} {b_1 : Nat} {b_2 : Nat} {m_4 : mm_Mem} {x_5 : Int32} {fs_6 : List Value} (hb3 : b_1 + b_2 ≤ b) (g7 : m r0 = .inr (2, fs_6)) (z8 : r0 ≠ 0) (M9 : mm_W l G k_B_get 0 (lv_args 0 [.ref r0, .int (x1 + x5)]) [] b_1 m (mm_is (.inl (some (.int x_5))) m_4)) (h10 : mm_W l G k_B_number 20 [(0, .ref r0), (1, .int x1), (3, .long ((y3 <<< ((8 : Int32).toInt64 &&& 63)) ||| x_5.toInt64)), (5, .int (x5 + (-1)))] [] b_2 m_4 Q) : mm_W l G k_B_number 25 [(0, .ref r0), (1, .int x1), (3, .long y3), (5, .int x5)] [] b m Q := by
  refine mm_lload_n 2 (i := 3) d_B_number_25 rfl rfl ?_
  refine mm_bipush d_B_number_26 (v := 8) (by decide) ?_
  refine mm_lshl d_B_number_28 ?_
  refine mm_aload_n 0 (i := 0) d_B_number_29 rfl rfl ?_
  refine mm_iload_n 1 (i := 1) d_B_number_30 rfl rfl ?_
  refine mm_iload 3 (i := 5) d_B_number_31 rfl ?_
  refine mm_iadd d_B_number_33 ?_
  refine mm_callV (as := [.int (x1 + x5)]) (st := [.long (y3 <<< ((8 : Int32).toInt64 &&& 63))]) (b2 := b_2) ca_B_get w_641 w_279 w_280 cc_B.1 rfl d_B_number_34 rfl (Nat.le_of_ble_eq_true rfl) (Nat.le_of_ble_eq_true rfl) (Nat.le_of_ble_eq_true rfl) hb3 g7 z8 M9 (fun E _ ⟨c, _⟩ => nomatch c) (fun v _ ⟨c, e⟩ => ?_)
  cases c
  rw [e]
  show mm_W l G k_B_number 37 [(0, .ref r0), (1, .int x1), (3, .long y3), (5, .int x5)] [.int x_5, .long (y3 <<< ((8 : Int32).toInt64 &&& 63))] b_2 m_4 Q
  refine mm_i2l d_B_number_37 ?_
  refine mm_lor d_B_number_38 ?_
  refine mm_lstore_n (i := 3) d_B_number_39 rfl (Nat.le_of_ble_eq_true rfl) (lv2 := [(3, .long ((y3 <<< ((8 : Int32).toInt64 &&& 63)) ||| x_5.toInt64)), (0, .ref r0), (1, .int x1), (5, .int x5)]) rfl ?_
  refine mm_iinc 3 (i := 5) d_B_number_40 rfl (v := x5 + (-1)) rfl (Nat.le_of_ble_eq_true rfl) (lv2 := [(5, .int (x5 + (-1))), (3, .long ((y3 <<< ((8 : Int32).toInt64 &&& 63)) ||| x_5.toInt64)), (0, .ref r0), (1, .int x1)]) rfl ?_
  refine mm_goto (tgt := 20) d_B_number_43 (by decide) ?_
  exact mm_sub [2, 3, 1, 0] rfl h10
theorem t_B_number_46 {l : Launch} {G : mm_G} {b : Nat} {m : mm_Mem} {Q : mm_O → mm_Mem → Prop} {y3 : Int64} (h1 : Q (.inl (some (.long y3))) m) : mm_W l G k_B_number 46 [(3, .long y3)] [] b m Q := by
  refine mm_lload_n 0 (i := 3) d_B_number_46 rfl rfl ?_
  exact mm_lret d_B_number_47 rfl h1
theorem t_B_hasMark_0 {l : Launch} {G : mm_G} {b : Nat} {m : mm_Mem} {Q : mm_O → mm_Mem → Prop} {r0 : Nat} {x1 : Int32} {x2 : Int32} (h1 : mm_W l G k_B_hasMark 2 [(0, .ref r0), (1, .int x1), (2, .int x2), (3, .int 0)] [] b m Q) : mm_W l G k_B_hasMark 0 [(0, .ref r0), (1, .int x1), (2, .int x2)] [] b m Q := by
  refine mm_iconst d_B_hasMark_0 (v := 0) (by decide) ?_
  refine mm_istore_n (i := 3) d_B_hasMark_1 rfl (Nat.le_of_ble_eq_true rfl) (lv2 := [(3, .int 0), (0, .ref r0), (1, .int x1), (2, .int x2)]) rfl ?_
  exact mm_sub [1, 2, 3, 0] rfl h1
theorem t_B_hasMark_2 {l : Launch} {G : mm_G} {b : Nat} {m : mm_Mem} {Q : mm_O → mm_Mem → Prop} {r0 : Nat} {x1 : Int32} {x2 : Int32} {x3 : Int32} (h1 : (4 ≤ x3) → mm_W l G k_B_hasMark 35 [] [] b m Q) (h2 : (¬ 4 ≤ x3) → mm_W l G k_B_hasMark 7 [(0, .ref r0), (1, .int x1), (2, .int x2), (3, .int x3)] [] b m Q) : mm_W l G k_B_hasMark 2 [(0, .ref r0), (1, .int x1), (2, .int x2), (3, .int x3)] [] b m Q := by
  refine mm_iload_n 3 (i := 3) d_B_hasMark_2 rfl rfl ?_
  refine mm_iconst d_B_hasMark_3 (v := 4) (by decide) ?_
  exact mm_icmp_ge (tgt := 35) d_B_hasMark_4 (by decide) (fun c => mm_sub [] rfl (h1 c)) (fun c => mm_sub [0, 1, 2, 3] rfl (h2 c))
theorem t_B_hasMark_7 {l : Launch} {G : mm_G} {b : Nat} {m : mm_Mem} {Q : mm_O → mm_Mem → Prop} {r0 : Nat} {x1 : Int32} {x2 : Int32} {x3 : Int32} {b_1 : Nat} {b_2 : Nat} {m_4 : mm_Mem} {x_5 : Int32} {fs_6 : List Value} (hb3 : b_1 + b_2 ≤ b) (g7 : m r0 = .inr (2, fs_6)) (z8 : r0 ≠ 0) (M9 : mm_W l G k_B_get 0 (lv_args 0 [.ref r0, .int (x1 + x3)]) [] b_1 m (mm_is (.inl (some (.int x_5))) m_4)) (h10 : (x_5 = (((x2.toUInt32 >>> ((8 * x3).toUInt32 &&& Int32.toUInt32 31)).toInt32) &&& 255)) → mm_W l G k_B_hasMark 29 [(0, .ref r0), (1, .int x1), (2, .int x2), (3, .int x3)] [] b_2 m_4 Q) (h11 : (¬ x_5 = (((x2.toUInt32 >>> ((8 * x3).toUInt32 &&& Int32.toUInt32 31)).toInt32) &&& 255)) → mm_W l G k_B_hasMark 27 [] [] b_2 m_4 Q) : mm_W l G k_B_hasMark 7 [(0, .ref r0), (1, .int x1), (2, .int x2), (3, .int x3)] [] b m Q := by
  refine mm_aload_n 0 (i := 0) d_B_hasMark_7 rfl rfl ?_
  refine mm_iload_n 1 (i := 1) d_B_hasMark_8 rfl rfl ?_
  refine mm_iload_n 3 (i := 3) d_B_hasMark_9 rfl rfl ?_
  refine mm_iadd d_B_hasMark_10 ?_
  refine mm_callV (as := [.int (x1 + x3)]) (st := []) (b2 := b_2) ca_B_get w_641 w_279 w_280 cc_B.1 rfl d_B_hasMark_11 rfl (Nat.le_of_ble_eq_true rfl) (Nat.le_of_ble_eq_true rfl) (Nat.le_of_ble_eq_true rfl) hb3 g7 z8 M9 (fun E _ ⟨c, _⟩ => nomatch c) (fun v _ ⟨c, e⟩ => ?_)
  cases c
  rw [e]
  show mm_W l G k_B_hasMark 14 [(0, .ref r0), (1, .int x1), (2, .int x2), (3, .int x3)] [.int x_5] b_2 m_4 Q
  refine mm_iload_n 2 (i := 2) d_B_hasMark_14 rfl rfl ?_
  refine mm_bipush d_B_hasMark_15 (v := 8) (by decide) ?_
  refine mm_iload_n 3 (i := 3) d_B_hasMark_17 rfl rfl ?_
  refine mm_imul d_B_hasMark_18 ?_
  refine mm_iushr d_B_hasMark_19 ?_
  refine mm_sipush d_B_hasMark_20 (v := 255) (by decide) ?_
  refine mm_iand d_B_hasMark_23 ?_
  exact mm_icmp_eq (tgt := 29) d_B_hasMark_24 (by decide) (fun c => mm_sub [0, 1, 2, 3] rfl (h10 c)) (fun c => mm_sub [] rfl (h11 c))
theorem t_B_hasMark_27 {l : Launch} {G : mm_G} {b : Nat} {m : mm_Mem} {Q : mm_O → mm_Mem → Prop}  (h1 : Q (.inl (some (.int 0))) m) (hn2 : narrow .boolean (.int 0) = .int 0) : mm_W l G k_B_hasMark 27 [] [] b m Q := by
  refine mm_iconst d_B_hasMark_27 (v := 0) (by decide) ?_
  exact mm_zret d_B_hasMark_28 rfl hn2 h1
theorem t_B_hasMark_29 {l : Launch} {G : mm_G} {b : Nat} {m : mm_Mem} {Q : mm_O → mm_Mem → Prop} {r0 : Nat} {x1 : Int32} {x2 : Int32} {x3 : Int32} (h1 : mm_W l G k_B_hasMark 2 [(0, .ref r0), (1, .int x1), (2, .int x2), (3, .int (x3 + 1))] [] b m Q) : mm_W l G k_B_hasMark 29 [(0, .ref r0), (1, .int x1), (2, .int x2), (3, .int x3)] [] b m Q := by
  refine mm_iinc 3 (i := 3) d_B_hasMark_29 rfl (v := x3 + 1) rfl (Nat.le_of_ble_eq_true rfl) (lv2 := [(3, .int (x3 + 1)), (0, .ref r0), (1, .int x1), (2, .int x2)]) rfl ?_
  refine mm_goto (tgt := 2) d_B_hasMark_32 (by decide) ?_
  exact mm_sub [1, 2, 3, 0] rfl h1
theorem t_B_hasMark_35 {l : Launch} {G : mm_G} {b : Nat} {m : mm_Mem} {Q : mm_O → mm_Mem → Prop}  (h1 : Q (.inl (some (.int 1))) m) (hn2 : narrow .boolean (.int 1) = .int 1) : mm_W l G k_B_hasMark 35 [] [] b m Q := by
  refine mm_iconst d_B_hasMark_35 (v := 1) (by decide) ?_
  exact mm_zret d_B_hasMark_36 rfl hn2 h1
theorem t_B_holds_0 {l : Launch} {G : mm_G} {b : Nat} {m : mm_Mem} {Q : mm_O → mm_Mem → Prop} {r0 : Nat} {x1 : Int32} {x2 : Int32} (h1 : (x1 < 0) → mm_W l G k_B_holds 30 [] [] b m Q) (h2 : (¬ x1 < 0) → mm_W l G k_B_holds 4 [(0, .ref r0), (1, .int x1), (2, .int x2)] [] b m Q) : mm_W l G k_B_holds 0 [(0, .ref r0), (1, .int x1), (2, .int x2)] [] b m Q := by
  refine mm_iload_n 1 (i := 1) d_B_holds_0 rfl rfl ?_
  exact mm_if_lt (tgt := 30) d_B_holds_1 (by decide) (fun c => mm_sub [] rfl (h1 c)) (fun c => mm_sub [0, 1, 2] rfl (h2 c))
theorem t_B_holds_4 {l : Launch} {G : mm_G} {b : Nat} {m : mm_Mem} {Q : mm_O → mm_Mem → Prop} {r0 : Nat} {x1 : Int32} {x2 : Int32} (h1 : (x2 < 0) → mm_W l G k_B_holds 30 [] [] b m Q) (h2 : (¬ x2 < 0) → mm_W l G k_B_holds 8 [(0, .ref r0), (1, .int x1), (2, .int x2)] [] b m Q) : mm_W l G k_B_holds 4 [(0, .ref r0), (1, .int x1), (2, .int x2)] [] b m Q := by
  refine mm_iload_n 2 (i := 2) d_B_holds_4 rfl rfl ?_
  exact mm_if_lt (tgt := 30) d_B_holds_5 (by decide) (fun c => mm_sub [] rfl (h1 c)) (fun c => mm_sub [0, 1, 2] rfl (h2 c))
theorem t_B_holds_8 {l : Launch} {G : mm_G} {b : Nat} {m : mm_Mem} {Q : mm_O → mm_Mem → Prop} {r0 : Nat} {x1 : Int32} {x2 : Int32} {fs_1 : List Value} {u_4 : Int32} (g2 : m r0 = .inr (2, fs_1)) (z3 : r0 ≠ 0) (v5 : fs_1[1]? = some (.int u_4)) (h6 : (u_4 < x2) → mm_W l G k_B_holds 30 [] [] b m Q) (h7 : (¬ u_4 < x2) → mm_W l G k_B_holds 16 [(0, .ref r0), (1, .int x1), (2, .int x2)] [] b m Q) : mm_W l G k_B_holds 8 [(0, .ref r0), (1, .int x1), (2, .int x2)] [] b m Q := by
  refine mm_iload_n 2 (i := 2) d_B_holds_8 rfl rfl ?_
  refine mm_aload_n 0 (i := 0) d_B_holds_9 rfl rfl ?_
  refine mm_get cc_B 1 (by decide) w_38 d_B_holds_10 g2 z3 v5 ?_
  exact mm_icmp_gt (tgt := 30) d_B_holds_13 (by decide) (fun c => mm_sub [] rfl (h6 c)) (fun c => mm_sub [0, 1, 2] rfl (h7 c))
theorem t_B_holds_16 {l : Launch} {G : mm_G} {b : Nat} {m : mm_Mem} {Q : mm_O → mm_Mem → Prop} {r0 : Nat} {x1 : Int32} {x2 : Int32} {fs_1 : List Value} {u_4 : Int32} (g2 : m r0 = .inr (2, fs_1)) (z3 : r0 ≠ 0) (v5 : fs_1[1]? = some (.int u_4)) (h6 : ((u_4 - x2) < x1) → mm_W l G k_B_holds 30 [] [] b m Q) (h7 : (¬ (u_4 - x2) < x1) → mm_W l G k_B_holds 26 [] [] b m Q) : mm_W l G k_B_holds 16 [(0, .ref r0), (1, .int x1), (2, .int x2)] [] b m Q := by
  refine mm_iload_n 1 (i := 1) d_B_holds_16 rfl rfl ?_
  refine mm_aload_n 0 (i := 0) d_B_holds_17 rfl rfl ?_
  refine mm_get cc_B 1 (by decide) w_38 d_B_holds_18 g2 z3 v5 ?_
  refine mm_iload_n 2 (i := 2) d_B_holds_21 rfl rfl ?_
  refine mm_isub d_B_holds_22 ?_
  exact mm_icmp_gt (tgt := 30) d_B_holds_23 (by decide) (fun c => mm_sub [] rfl (h6 c)) (fun c => mm_sub [] rfl (h7 c))
theorem t_B_holds_26 {l : Launch} {G : mm_G} {b : Nat} {m : mm_Mem} {Q : mm_O → mm_Mem → Prop}  (h1 : mm_W l G k_B_holds 31 [] [.int 1] b m Q) : mm_W l G k_B_holds 26 [] [] b m Q := by
  refine mm_iconst d_B_holds_26 (v := 1) (by decide) ?_
  refine mm_goto (tgt := 31) d_B_holds_27 (by decide) ?_
  exact mm_sub [] rfl h1
theorem t_B_holds_30 {l : Launch} {G : mm_G} {b : Nat} {m : mm_Mem} {Q : mm_O → mm_Mem → Prop}  (h1 : mm_W l G k_B_holds 31 [] [.int 0] b m Q) : mm_W l G k_B_holds 30 [] [] b m Q := by
  refine mm_iconst d_B_holds_30 (v := 0) (by decide) ?_
  exact mm_sub [] rfl h1
theorem t_B_holds_31 {l : Launch} {G : mm_G} {b : Nat} {m : mm_Mem} {Q : mm_O → mm_Mem → Prop} {xs0 : Int32} (h1 : Q (.inl (some (.int xs0))) m) (hn2 : narrow .boolean (.int xs0) = .int xs0) : mm_W l G k_B_holds 31 [] [.int xs0] b m Q := by
  exact mm_zret d_B_holds_31 rfl hn2 h1
end
