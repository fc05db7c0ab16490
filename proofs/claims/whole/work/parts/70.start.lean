def R_law : String := "PartBoxLaw"
def lw_P (b : Addr) (xs : List Int32) (args : Array Value) (s : State) : Prop := args = #[.ref b] ∧ s.IntsAt b xs ∧ xs.length ≤ 3072 ∧ (Jvm.Cond.and given_1 narrow_1).before args s = true
def lw_Q (_ : Array Value) (s : State) (o : Outcome) (t : State) : Prop := o = .returned (some (.int 1)) ∧ Framed s o t [] 601024 7293034
def lw_Z (below : List Frame) (a : Array Value) (s : State) : State → Prop := fun t => ∃ o, t.status = .running ∧ Ended t below o ∧ lw_Q a s o t
/-- the law's own end, with 1 on the stack, nothing written that was there before, its room as the claim has it -/
theorem lw_ret {p : Program} {l : Launch} {e : Env} {s : State} {m : MethodId} {below : List Frame} {meth : Method} {c : Code} {b : Nat} (hx : p.tables.exec = Jvm.exec) (hb : c.code = code) (hr : meth.sig.returnType = ret) (hlocks : meth.locks = false) {pc : Nat} {H : Heap} {ls : Array Slot} (hdg : decode code pc = .ok (.ireturn, 1)) : W p l e room_1 s m #[Value.ref b] below meth c H [] 601024 7293034 (lw_Z below #[Value.ref b] s) (F0 m pc ls [.int 1]) := by
  intro T hT X
  obtain ⟨fs, hret, hrun, hended, hW, hframe⟩ := X.leave (v := some (.int 1)) (hlocks := hlocks) (fun h => by rw [hr] at h; cases h)
  have hmeth' : T.vm.method? m = some meth := X.method'
  refine ⟨T.setFrames fs, ?_, .returned (some (.int 1)), hrun, hended, rfl, ⟨_, rfl⟩, hW, hframe⟩
  jvm_step X.here [X.here.top, hx, hb, hdg, hmeth', hr, ret, narrow_b1]
  (try refine ⟨rfl, ?_⟩); (try refine ⟨rfl, ?_⟩)
  first | (intro acts; rw [hret _ acts rfl rfl rfl]) | rw [hret _ _ rfl rfl rfl]
  exact Steps.refl _
/-- what holds at the law's entry: the machine, the code, the tables' words (any of lw_tbl by 'hts w (by decide +kernel)'), the script of L ints xs at the cell b, what the Statement gives of the start (any of its parts by flat_of_before) -/
def lw_At (p : Program) (s : State) (m : MethodId) (meth : Method) (c : Code) (b L : Nat) (xs : Nat → Int32) : Prop :=
  p.tables.exec = Jvm.exec ∧ c.code = code ∧ meth.sig.returnType = ret ∧ c.maxLocals = 7 ∧ s.vm.findClass R_law = some m.cls ∧ (∀ w ∈ lw_tbl, w.before #[Value.ref b] s = true) ∧ va_X b L xs s s.heap ∧ b < s.heap.size ∧ meth.locks = false ∧ (Jvm.Cond.and given_1 narrow_1).before #[Value.ref b] s = true
theorem st_in {w : Cond} (i : Nat) (h : tables_1[i]? = some w) : w ∈ lw_tbl := List.mem_append_right _ (List.mem_of_getElem? h)
theorem st_fl {w : Cond} {args : Array Value} {s : State} (hg : (Jvm.Cond.and given_1 narrow_1).before args s = true) (i : Nat) (h : (flatC (Jvm.Cond.and given_1 narrow_1))[i]? = some w) : w.before args s = true := flat_of_before _ hg w (List.mem_of_getElem? h)
theorem st_s0 {b0 : Addr} {s : State} (hts : ∀ w ∈ lw_tbl, w.before #[Value.ref b0] s = true) (hg : (Jvm.Cond.and given_1 narrow_1).before #[Value.ref b0] s = true) : ∃ a, vk_R "PartBox" 51 "the row would be too long" a s := by
  obtain ⟨a, -, -, -, h, -⟩ := Cond.exactly_spec (st_fl (w := Jvm.Cond.exactly (Jvm.Term.string "PartBox" (51 : Nat)) "java/lang/String") hg 39 (by decide +kernel))
  exact ⟨a, vk_R.of (hts (Jvm.Cond.stringRef "PartBox" (51 : Nat) "the row would be too long") (st_in 346 (by decide +kernel))) h⟩
theorem st_s1 {b0 : Addr} {s : State} (hts : ∀ w ∈ lw_tbl, w.before #[Value.ref b0] s = true) (hg : (Jvm.Cond.and given_1 narrow_1).before #[Value.ref b0] s = true) : ∃ a, vk_R "PartBox" 64 "the row has not so many bytes" a s := by
  obtain ⟨a, -, -, -, h, -⟩ := Cond.exactly_spec (st_fl (w := Jvm.Cond.exactly (Jvm.Term.string "PartBox" (64 : Nat)) "java/lang/String") hg 68 (by decide +kernel))
  exact ⟨a, vk_R.of (hts (Jvm.Cond.stringRef "PartBox" (64 : Nat) "the row has not so many bytes") (st_in 397 (by decide +kernel))) h⟩
theorem st_s2 {b0 : Addr} {s : State} (hts : ∀ w ∈ lw_tbl, w.before #[Value.ref b0] s = true) (hg : (Jvm.Cond.and given_1 narrow_1).before #[Value.ref b0] s = true) : ∃ a, vk_R "PartBox" 72 "the row has no such byte" a s := by
  obtain ⟨a, -, -, -, h, -⟩ := Cond.exactly_spec (st_fl (w := Jvm.Cond.exactly (Jvm.Term.string "PartBox" (72 : Nat)) "java/lang/String") hg 102 (by decide +kernel))
  exact ⟨a, vk_R.of (hts (Jvm.Cond.stringRef "PartBox" (72 : Nat) "the row has no such byte") (st_in 421 (by decide +kernel))) h⟩
theorem st_s3 {b0 : Addr} {s : State} (hts : ∀ w ∈ lw_tbl, w.before #[Value.ref b0] s = true) (hg : (Jvm.Cond.and given_1 narrow_1).before #[Value.ref b0] s = true) : ∃ a, vk_R "PartBox" 75 "not a byte" a s := by
  obtain ⟨a, -, -, -, h, -⟩ := Cond.exactly_spec (st_fl (w := Jvm.Cond.exactly (Jvm.Term.string "PartBox" (75 : Nat)) "java/lang/String") hg 132 (by decide +kernel))
  exact ⟨a, vk_R.of (hts (Jvm.Cond.stringRef "PartBox" (75 : Nat) "not a byte") (st_in 428 (by decide +kernel))) h⟩
theorem st_s4 {b0 : Addr} {s : State} (hts : ∀ w ∈ lw_tbl, w.before #[Value.ref b0] s = true) (hg : (Jvm.Cond.and given_1 narrow_1).before #[Value.ref b0] s = true) : ∃ a, vk_R "PartBox" 85 "not a character of a name" a s := by
  obtain ⟨a, -, -, -, h, -⟩ := Cond.exactly_spec (st_fl (w := Jvm.Cond.exactly (Jvm.Term.string "PartBox" (85 : Nat)) "java/lang/String") hg 149 (by decide +kernel))
  exact ⟨a, vk_R.of (hts (Jvm.Cond.stringRef "PartBox" (85 : Nat) "not a character of a name") (st_in 448 (by decide +kernel))) h⟩
theorem st_s5 {b0 : Addr} {s : State} (hts : ∀ w ∈ lw_tbl, w.before #[Value.ref b0] s = true) (hg : (Jvm.Cond.and given_1 narrow_1).before #[Value.ref b0] s = true) : ∃ a, vk_R "PartBox" 87 "the name would be too long" a s := by
  obtain ⟨a, -, -, -, h, -⟩ := Cond.exactly_spec (st_fl (w := Jvm.Cond.exactly (Jvm.Term.string "PartBox" (87 : Nat)) "java/lang/String") hg 182 (by decide +kernel))
  exact ⟨a, vk_R.of (hts (Jvm.Cond.stringRef "PartBox" (87 : Nat) "the name would be too long") (st_in 449 (by decide +kernel))) h⟩
theorem st_s6 {b0 : Addr} {s : State} (hts : ∀ w ∈ lw_tbl, w.before #[Value.ref b0] s = true) (hg : (Jvm.Cond.and given_1 narrow_1).before #[Value.ref b0] s = true) : ∃ a, vk_R "PartBox" 96 "no name, or that of an entry" a s := by
  obtain ⟨a, -, -, -, h, -⟩ := Cond.exactly_spec (st_fl (w := Jvm.Cond.exactly (Jvm.Term.string "PartBox" (96 : Nat)) "java/lang/String") hg 217 (by decide +kernel))
  exact ⟨a, vk_R.of (hts (Jvm.Cond.stringRef "PartBox" (96 : Nat) "no name, or that of an entry") (st_in 468 (by decide +kernel))) h⟩
theorem st_s7 {b0 : Addr} {s : State} (hts : ∀ w ∈ lw_tbl, w.before #[Value.ref b0] s = true) (hg : (Jvm.Cond.and given_1 narrow_1).before #[Value.ref b0] s = true) : ∃ a, vk_R "PartBox" 193 "the box is full" a s := by
  obtain ⟨a, -, -, -, h, -⟩ := Cond.exactly_spec (st_fl (w := Jvm.Cond.exactly (Jvm.Term.string "PartBox" (193 : Nat)) "java/lang/String") hg 255 (by decide +kernel))
  exact ⟨a, vk_R.of (hts (Jvm.Cond.stringRef "PartBox" (193 : Nat) "the box is full") (st_in 496 (by decide +kernel))) h⟩
theorem st_s8 {b0 : Addr} {s : State} (hts : ∀ w ∈ lw_tbl, w.before #[Value.ref b0] s = true) (hg : (Jvm.Cond.and given_1 narrow_1).before #[Value.ref b0] s = true) : ∃ a, vk_R "PartBox" 106 "no name, or that of an entry, or a size below 0" a s := by
  obtain ⟨a, -, -, -, h, -⟩ := Cond.exactly_spec (st_fl (w := Jvm.Cond.exactly (Jvm.Term.string "PartBox" (106 : Nat)) "java/lang/String") hg 281 (by decide +kernel))
  exact ⟨a, vk_R.of (hts (Jvm.Cond.stringRef "PartBox" (106 : Nat) "no name, or that of an entry, or a size below 0") (st_in 509 (by decide +kernel))) h⟩
theorem st_s9 {b0 : Addr} {s : State} (hts : ∀ w ∈ lw_tbl, w.before #[Value.ref b0] s = true) (hg : (Jvm.Cond.and given_1 narrow_1).before #[Value.ref b0] s = true) : ∃ a, vk_R "PartBox" 112 "no such entry" a s := by
  obtain ⟨a, -, -, -, h, -⟩ := Cond.exactly_spec (st_fl (w := Jvm.Cond.exactly (Jvm.Term.string "PartBox" (112 : Nat)) "java/lang/String") hg 340 (by decide +kernel))
  exact ⟨a, vk_R.of (hts (Jvm.Cond.stringRef "PartBox" (112 : Nat) "no such entry") (st_in 521 (by decide +kernel))) h⟩
theorem st_s10 {b0 : Addr} {s : State} (hts : ∀ w ∈ lw_tbl, w.before #[Value.ref b0] s = true) (hg : (Jvm.Cond.and given_1 narrow_1).before #[Value.ref b0] s = true) : ∃ a, vk_R "PartBox" 145 "nothing of an entry" a s := by
  obtain ⟨a, -, -, -, h, -⟩ := Cond.exactly_spec (st_fl (w := Jvm.Cond.exactly (Jvm.Term.string "PartBox" (145 : Nat)) "java/lang/String") hg 366 (by decide +kernel))
  exact ⟨a, vk_R.of (hts (Jvm.Cond.stringRef "PartBox" (145 : Nat) "nothing of an entry") (st_in 554 (by decide +kernel))) h⟩
theorem st_s11 {b0 : Addr} {s : State} (hts : ∀ w ∈ lw_tbl, w.before #[Value.ref b0] s = true) (hg : (Jvm.Cond.and given_1 narrow_1).before #[Value.ref b0] s = true) : ∃ a, vk_R "PartBox" 147 "no such entry, or no such byte of it" a s := by
  obtain ⟨a, -, -, -, h, -⟩ := Cond.exactly_spec (st_fl (w := Jvm.Cond.exactly (Jvm.Term.string "PartBox" (147 : Nat)) "java/lang/String") hg 399 (by decide +kernel))
  exact ⟨a, vk_R.of (hts (Jvm.Cond.stringRef "PartBox" (147 : Nat) "no such entry, or no such byte of it") (st_in 569 (by decide +kernel))) h⟩
theorem st_s12 {b0 : Addr} {s : State} (hts : ∀ w ∈ lw_tbl, w.before #[Value.ref b0] s = true) (hg : (Jvm.Cond.and given_1 narrow_1).before #[Value.ref b0] s = true) : ∃ a, vk_R "PartBox" 162 "not a limit" a s := by
  obtain ⟨a, -, -, -, h, -⟩ := Cond.exactly_spec (st_fl (w := Jvm.Cond.exactly (Jvm.Term.string "PartBox" (162 : Nat)) "java/lang/String") hg 450 (by decide +kernel))
  exact ⟨a, vk_R.of (hts (Jvm.Cond.stringRef "PartBox" (162 : Nat) "not a limit") (st_in 618 (by decide +kernel))) h⟩
theorem st_s13 {b0 : Addr} {s : State} (hts : ∀ w ∈ lw_tbl, w.before #[Value.ref b0] s = true) (hg : (Jvm.Cond.and given_1 narrow_1).before #[Value.ref b0] s = true) : ∃ a, vk_R "PartBox" 180 "nothing of a fault" a s := by
  obtain ⟨a, -, -, -, h, -⟩ := Cond.exactly_spec (st_fl (w := Jvm.Cond.exactly (Jvm.Term.string "PartBox" (180 : Nat)) "java/lang/String") hg 477 (by decide +kernel))
  exact ⟨a, vk_R.of (hts (Jvm.Cond.stringRef "PartBox" (180 : Nat) "nothing of a fault") (st_in 735 (by decide +kernel))) h⟩
theorem st_c0 {b0 : Addr} {s : State} (hg : (Jvm.Cond.and given_1 narrow_1).before #[Value.ref b0] s = true) : va_Nc "java/lang/IllegalStateException" "java/lang/IllegalArgumentException" s := va_Nc.of (st_fl (w := Jvm.Cond.not (Jvm.Cond.castable "java/lang/IllegalStateException" "java/lang/IllegalArgumentException")) hg 26 (by decide +kernel))
theorem st_c1 {b0 : Addr} {s : State} (hg : (Jvm.Cond.and given_1 narrow_1).before #[Value.ref b0] s = true) : va_Nc "java/lang/IllegalStateException" "java/lang/IndexOutOfBoundsException" s := va_Nc.of (st_fl (w := Jvm.Cond.not (Jvm.Cond.castable "java/lang/IllegalStateException" "java/lang/IndexOutOfBoundsException")) hg 37 (by decide +kernel))
theorem st_c2 {b0 : Addr} {s : State} (hg : (Jvm.Cond.and given_1 narrow_1).before #[Value.ref b0] s = true) : va_Nc "java/lang/IllegalArgumentException" "java/lang/IllegalStateException" s := va_Nc.of (st_fl (w := Jvm.Cond.not (Jvm.Cond.castable "java/lang/IllegalArgumentException" "java/lang/IllegalStateException")) hg 15 (by decide +kernel))
theorem st_c3 {b0 : Addr} {s : State} (hg : (Jvm.Cond.and given_1 narrow_1).before #[Value.ref b0] s = true) : va_Nc "java/lang/IllegalArgumentException" "java/lang/IndexOutOfBoundsException" s := va_Nc.of (st_fl (w := Jvm.Cond.not (Jvm.Cond.castable "java/lang/IllegalArgumentException" "java/lang/IndexOutOfBoundsException")) hg 38 (by decide +kernel))
theorem st_c4 {b0 : Addr} {s : State} (hg : (Jvm.Cond.and given_1 narrow_1).before #[Value.ref b0] s = true) : va_Nc "java/lang/IndexOutOfBoundsException" "java/lang/IllegalStateException" s := va_Nc.of (st_fl (w := Jvm.Cond.not (Jvm.Cond.castable "java/lang/IndexOutOfBoundsException" "java/lang/IllegalStateException")) hg 16 (by decide +kernel))
theorem st_c5 {b0 : Addr} {s : State} (hg : (Jvm.Cond.and given_1 narrow_1).before #[Value.ref b0] s = true) : va_Nc "java/lang/IndexOutOfBoundsException" "java/lang/IllegalArgumentException" s := va_Nc.of (st_fl (w := Jvm.Cond.not (Jvm.Cond.castable "java/lang/IndexOutOfBoundsException" "java/lang/IllegalArgumentException")) hg 27 (by decide +kernel))
theorem st_S1 {args : Array Value} {s : State} {C n d : String} {A : Nat → Prop} (hl : (Cond.laysStatic C n d).before args s = true) (hini : (Cond.initialized C).before args s = true) (h : (Cond.isRef (.static C n d)).before args s = true) (hA : ∀ a : Nat, a < s.heap.size → ¬ A a) : mm_S1 C n d A s s.heap := by
  obtain ⟨v, hv, hr⟩ := Cond.isRef_spec h
  obtain ⟨c, k, i, f, a, cell, hc, hi, hst, ha, hcell, hs, hcls, hlt, hty⟩ := Cond.laysStatic_spec hl
  obtain ⟨hst', a', cell', ha', hcell', -, hslot⟩ := Term.static_spec hi hv
  cases ha.symm.trans ha'
  cases hcell.symm.trans hcell'
  exact ⟨c, k, i, f, a, cell, v, hc, hi, hst, ha, hcell, hs, hcls, hty, hslot, hr, Cond.initialized_spec hc (State.fieldFound?_spec hi).1 hini, hA a (Array.getElem?_eq_some_iff.mp hcell).1⟩
theorem st_NW {args : Array Value} {s : State} (hts : ∀ w ∈ lw_tbl, w.before args s = true) : ∀ w ∈ mm_NW, va_Nw w s := by
  intro w hw
  have hk := mm_NW_ok w hw
  have hin : w ∈ lw_tbl := List.mem_append_right _ (List.mem_filter.mp hw).1
  have hb := hts w hin
  cases w with
  | arrayOver ty =>
    cases ty with
    | object C => exact va_AO.of hb
    | _ => exact Bool.noConfusion (show false = true from hk)
  | _ => first | exact va_Nw.of rfl hb | exact Bool.noConfusion (show false = true from hk)
theorem st_ar {args : Array Value} {s : State} {ty : FieldType} (h : (Cond.arrayClass ty).before args s = true) (hn : ∀ C, ty ≠ .object C) : ∃ cA, ArrOfT s cA ty ∧ va_RA s cA ty := by
  obtain ⟨cA, kA, comp, h1, h2, h3⟩ := Cond.arrayClass_spec h
  refine ⟨cA, fun n z => ⟨fun k h => (by cases h), kA, h2, comp, h3⟩, ?_⟩
  cases ty <;> first | exact h1 | exact absurd rfl (hn _)
theorem st_ao {args : Array Value} {s : State} {C : String} (h : (Cond.arrayOver (.object C)).before args s = true) : ∃ cA, ArrOfT s cA (.object C) ∧ va_RA s cA (.object C) := by
  obtain ⟨comp, cA, kA, h1, h2, h3, h4, h5⟩ := Cond.arrayOver_spec h
  exact ⟨cA, fun n z => ⟨fun k h => (by cases h), kA, h3, comp, h4⟩, kA, comp, h3, h4, h1, h5⟩
theorem st_new {s t : State} {L : List Loc} {mc ms : Nat} (h : s.sameButNew t L mc ms) (hL : ∀ q ∈ L, s.heap.size ≤ q.base) : s.sameButNew t [] mc ms := by
  obtain ⟨h1, h2, h3, h4, h5, h6⟩ := h
  refine ⟨h1, h2, h3, h4, h5, fun a c hc => ?_⟩
  obtain ⟨c', g1, g2, g3, g4⟩ := h6 a c hc
  refine ⟨c', g1, g2, g3, fun i _ => g4 i (fun z => ?_)⟩
  have z1 := hL _ z
  have z2 := (Array.getElem?_eq_some_iff.mp hc).1
  exact absurd z2 (Nat.not_lt.mpr z1)
theorem st_K {b0 : Addr} {s : State} (hts : ∀ w ∈ lw_tbl, w.before #[Value.ref b0] s = true) : ∃ G : mm_G, va_K G.1 mm_cl (mm_tys G.2) s := by
  have htT : ∀ w ∈ mm_T, w.before #[Value.ref b0] s = true := fun w hw => hts w (List.mem_filter.mp hw).1
  obtain ⟨c0, i0, K0⟩ := u_known (C := R_P) (T := T_P) (N := 5) (n := 5) htT ch_P (hts (Jvm.Cond.instantiable "PartBox" (5 : Nat)) (st_in 20 (by decide +kernel)))
  obtain ⟨c1, i1, K1⟩ := u_known (C := R_X) (T := T_X) (N := 3) (n := 3) htT ch_X (hts (Jvm.Cond.instantiable "PartBox$Box" (3 : Nat)) (st_in 58 (by decide +kernel)))
  obtain ⟨c2, i2, K2⟩ := u_known (C := R_B) (T := T_B) (N := 2) (n := 2) htT ch_B (hts (Jvm.Cond.instantiable "PartBox$Bytes" (2 : Nat)) (st_in 28 (by decide +kernel)))
  obtain ⟨c3, i3, K3⟩ := u_known (C := R_C) (T := T_C) (N := 1) (n := 1) htT ch_C (hts (Jvm.Cond.instantiable "PartBox$Checker" (1 : Nat)) (st_in 46 (by decide +kernel)))
  obtain ⟨c4, i4, K4⟩ := u_known (C := R_E) (T := T_E) (N := 6) (n := 6) htT ch_E (hts (Jvm.Cond.instantiable "PartBox$Entry" (6 : Nat)) (st_in 65 (by decide +kernel)))
  obtain ⟨c5, i5, K5⟩ := u_known (C := R_F) (T := T_F) (N := 7) (n := 7) htT ch_F (hts (Jvm.Cond.instantiable "PartBox$Facts" (7 : Nat)) (st_in 130 (by decide +kernel)))
  obtain ⟨c6, i6, K6⟩ := u_known (C := R_G) (T := T_G) (N := 6) (n := 6) htT ch_G (hts (Jvm.Cond.instantiable "PartBox$Finding" (6 : Nat)) (st_in 124 (by decide +kernel)))
  obtain ⟨c7, i7, K7⟩ := u_known (C := R_R) (T := T_R) (N := 13) (n := 13) htT ch_R (hts (Jvm.Cond.instantiable "PartBox$Reader" (13 : Nat)) (st_in 117 (by decide +kernel)))
  obtain ⟨c8, i8, K8⟩ := u_known (C := R_M) (T := T_M) (N := 29) (n := 29) htT ch_M (hts (Jvm.Cond.instantiable "PartBoxModel" (29 : Nat)) (st_in 737 (by decide +kernel)))
  obtain ⟨a0, A0⟩ := st_ar (ty := .byte) (hts (Jvm.Cond.arrayClass Jvm.ClassFile.FieldType.byte) (st_in 44 (by decide +kernel))) (fun _ h => by cases h)
  obtain ⟨a1, A1⟩ := st_ar (ty := .int) (hts (Jvm.Cond.arrayClass Jvm.ClassFile.FieldType.int) (st_in 56 (by decide +kernel))) (fun _ h => by cases h)
  obtain ⟨a2, A2⟩ := st_ar (ty := .long) (hts (Jvm.Cond.arrayClass Jvm.ClassFile.FieldType.long) (st_in 831 (by decide +kernel))) (fun _ h => by cases h)
  obtain ⟨a3, A3⟩ := st_ar (ty := .boolean) (hts (Jvm.Cond.arrayClass Jvm.ClassFile.FieldType.boolean) (st_in 832 (by decide +kernel))) (fun _ h => by cases h)
  obtain ⟨a4, A4⟩ := st_ao (C := "PartBox$Entry") (hts (Jvm.Cond.arrayOver (Jvm.ClassFile.FieldType.object "PartBox$Entry")) (st_in 64 (by decide +kernel)))
  obtain ⟨a5, A5⟩ := st_ao (C := "PartBox$Finding") (hts (Jvm.Cond.arrayOver (Jvm.ClassFile.FieldType.object "PartBox$Finding")) (st_in 123 (by decide +kernel)))
  refine ⟨((fun k => if k = 0 then c0 else if k = 1 then c1 else if k = 2 then c2 else if k = 3 then c3 else if k = 4 then c4 else if k = 5 then c5 else if k = 6 then c6 else if k = 7 then c7 else c8, fun k => if k = 0 then i0 else if k = 1 then i1 else if k = 2 then i2 else if k = 3 then i3 else if k = 4 then i4 else if k = 5 then i5 else if k = 6 then i6 else if k = 7 then i7 else i8), fun k => if k = 0 then a0 else if k = 1 then a1 else if k = 2 then a2 else if k = 3 then a3 else if k = 4 then a4 else a5), ?_, ?_⟩
  · intro k q hq
    match k, hq with
    | 0, hq => cases hq; exact K0
    | 1, hq => cases hq; exact K1
    | 2, hq => cases hq; exact K2
    | 3, hq => cases hq; exact K3
    | 4, hq => cases hq; exact K4
    | 5, hq => cases hq; exact K5
    | 6, hq => cases hq; exact K6
    | 7, hq => cases hq; exact K7
    | 8, hq => cases hq; exact K8
    | k + 9, hq => simp [mm_cl] at hq
  · intro k q hq
    match k, hq with
    | 0, hq => cases hq; exact A0
    | 1, hq => cases hq; exact A1
    | 2, hq => cases hq; exact A2
    | 3, hq => cases hq; exact A3
    | 4, hq => cases hq; exact A4
    | 5, hq => cases hq; exact A5
    | k + 6, hq => simp [mm_tys] at hq
/-- from the entry, for every script of at most 3072 ints, the law comes to its end with true -/
theorem whole_start {p : Program} {e : Env} {s : State} {m : MethodId} {below : List Frame} {meth : Method} {c : Code} (l : Launch) {b L : Nat} {xs : Nat → Int32} (hL : L ≤ 3072) (C0 : lw_At p s m meth c b L xs) (hnm : meth.name = "law") (hex : c.exceptionTable.toList = tableOf []) (htr : l.stackTraces = false) : W p l e room_1 s m #[Value.ref b] below meth c s.heap [] 0 0 (lw_Z below #[Value.ref b] s) (entryFrame m ([Value.ref b] : List Value).toArray 7) := by
  obtain ⟨hx, hb, hr, hml, hown, hts, hX, hbl, hlocks, hgv⟩ := C0
  obtain ⟨G, hK⟩ := st_K hts
  have hAn : ∀ a : Nat, a < s.heap.size → ¬ (fun q : Nat => s.heap.size ≤ q) a := fun a h => Nat.not_le.mpr h
  have hXX : mm_X G (fun q : Nat => s.heap.size ≤ q) s := by
    refine ⟨hK, st_NW hts, ?_, ?_, ?_⟩
    · exact List.forall_mem_cons.mpr ⟨st_S1 (hts (Jvm.Cond.laysStatic "java/lang/Throwable" "UNASSIGNED_STACK" "[Ljava/lang/StackTraceElement;") (st_in 332 (by decide +kernel))) (hts (Jvm.Cond.initialized "java/lang/Throwable") (st_in 11 (by decide +kernel))) (st_fl (w := Jvm.Cond.isRef (Jvm.Term.static "java/lang/Throwable" "UNASSIGNED_STACK" "[Ljava/lang/StackTraceElement;")) hgv 4 (by decide +kernel)) hAn, List.forall_mem_cons.mpr ⟨st_S1 (hts (Jvm.Cond.laysStatic "java/lang/Throwable" "SUPPRESSED_SENTINEL" "Ljava/util/List;") (st_in 334 (by decide +kernel))) (hts (Jvm.Cond.initialized "java/lang/Throwable") (st_in 11 (by decide +kernel))) (st_fl (w := Jvm.Cond.isRef (Jvm.Term.static "java/lang/Throwable" "SUPPRESSED_SENTINEL" "Ljava/util/List;")) hgv 5 (by decide +kernel)) hAn, fun _ h => absurd h List.not_mem_nil⟩⟩
    · exact List.forall_mem_cons.mpr ⟨st_s0 hts hgv, List.forall_mem_cons.mpr ⟨st_s1 hts hgv, List.forall_mem_cons.mpr ⟨st_s2 hts hgv, List.forall_mem_cons.mpr ⟨st_s3 hts hgv, List.forall_mem_cons.mpr ⟨st_s4 hts hgv, List.forall_mem_cons.mpr ⟨st_s5 hts hgv, List.forall_mem_cons.mpr ⟨st_s6 hts hgv, List.forall_mem_cons.mpr ⟨st_s7 hts hgv, List.forall_mem_cons.mpr ⟨st_s8 hts hgv, List.forall_mem_cons.mpr ⟨st_s9 hts hgv, List.forall_mem_cons.mpr ⟨st_s10 hts hgv, List.forall_mem_cons.mpr ⟨st_s11 hts hgv, List.forall_mem_cons.mpr ⟨st_s12 hts hgv, List.forall_mem_cons.mpr ⟨st_s13 hts hgv, fun _ h => absurd h List.not_mem_nil⟩⟩⟩⟩⟩⟩⟩⟩⟩⟩⟩⟩⟩⟩
    · exact List.forall_mem_cons.mpr ⟨st_c0 hgv, List.forall_mem_cons.mpr ⟨st_c1 hgv, List.forall_mem_cons.mpr ⟨st_c2 hgv, List.forall_mem_cons.mpr ⟨st_c3 hgv, List.forall_mem_cons.mpr ⟨st_c4 hgv, List.forall_mem_cons.mpr ⟨st_c5 hgv, fun _ h => absurd h List.not_mem_nil⟩⟩⟩⟩⟩⟩
  have hC : mm_C l G (k_L_law L xs) p s m #[Value.ref b] meth c (fun q : Nat => s.heap.size ≤ q) b := ⟨hx, hb, hml, hr, hlocks, hnm, hown, hex, fun w hw => hts w (List.mem_filter.mp hw).1, hXX, fun q cell hq hc => absurd (Array.getElem?_eq_some_iff.mp hc).1 (Nat.not_lt.mpr hq), htr, hX, hbl, hAn b hbl⟩
  have hl := lv_entry ([.ref b]) (n := 7) (Nat.le_of_ble_eq_true rfl)
  rw [lg_entry_eq]
  generalize (lg_sl ([.ref b]) ++ List.replicate (7 - (lg_sl ([.ref b])).length) Slot.unset).toArray = ls at hl ⊢
  have hl : lv_has ls 7 [(0, .ref b)] := hl
  have hn0 : mm_n (va_up (fun _ => mm_j) 0 (.inr (0, []))) = 0 := rfl
  have hR : mm_R G.1 (fun q : Nat => s.heap.size ≤ q) (fun _ => b) (va_up (fun _ => mm_j) 0 (.inr (0, []))) s.heap := by
    refine ⟨fun k q h => ?_, ⟨fun i j p q h => ?_, fun k q h => ?_⟩, fun r hr => up_n (by omega), fun r hr => ?_⟩
    · exact absurd h (by simp [mm_w, hn0])
    · exact absurd h (by simp [mm_w, hn0])
    · exact absurd h (by simp [mm_w, hn0])
    · rw [up_n (by omega)]
      exact fun v hv => absurd hv List.not_mem_nil
  have hw := law_all (l := l) (G := G) (ns := L) (xs := xs) (m := va_up (fun _ => mm_j) 0 (.inr (0, []))) (b := 400000) (by omega) hn0 (by omega) p e s m #[Value.ref b] below meth c 601024 7293034 0 (fun _ => b) (fun _ => b) (fun q : Nat => s.heap.size ≤ q) s.heap [] 0 0 ls hC (fun _ h => h) (Nat.zero_le _) (fun _ _ => rfl) hR va_S.rf hl (fun q hq => by rcases List.mem_singleton.mp hq with rfl; exact Nat.zero_le _) (fun _ h => absurd h List.not_mem_nil) (by omega) (by omega)
  refine mm_mono (fun t ht => ?_) hw
  obtain ⟨o, h1, h2, ⟨u, m2, ad, hu, -, -, -, -, hout⟩, Lc, h4, h5, h6⟩ := ht
  rw [hu] at hout
  have ho : o = .returned (some (.int 1)) := hout.1
  exact ⟨o, h1, h2, ho, ⟨_, ho⟩, h4, st_new h5 h6⟩
set_option maxHeartbeats 4000000 in
theorem lw_walk (l : Launch) (htr : l.stackTraces = false) (b : Addr) (xs : List Int32) : MetFree l x (headSpec (Jvm.Cond.code x code maxLocals ret :: tables_1) room_1) (lw_P b xs) (fun _ _ _ _ _ => True) lw_Q := by
  refine MetFree.of_bodyS (code := code) (maxLocals := maxLocals) (ret := ret) (by decide) ?_ ?_
  · intro args s m h hn
    obtain ⟨meth, c, h1, h2, h3, h4, h5, h6, -, -⟩ := Cond.code_spec hn (atoms_spec (ws := Jvm.Cond.code x code maxLocals ret :: tables_1) h _ List.mem_cons_self)
    exact ⟨meth, c, h1, h2, h3, h4, h5, h6⟩
  · intro p e s m args below meth c s₁ B hml0 hP _
    obtain ⟨rfl, hx, hbd, hgv⟩ := hP
    obtain ⟨scr, harrAt, hlist, hof, hsmall⟩ := hx
    obtain ⟨hcb, hkn, -, -⟩ := State.arrayAt?_spec harrAt
    have hown : s.vm.findClass R_law = some m.cls := findClass_of_methodNamed B.named
    have hts0 : ∀ c ∈ (Jvm.Cond.code x code maxLocals ret :: tables_1), c.before #[Value.ref b] s = true := atoms_spec (ws := Jvm.Cond.code x code maxLocals ret :: tables_1) B.pre
    have hts : ∀ w ∈ lw_tbl, w.before #[Value.ref b] s = true := k2_hts_sels lw_privs (fun w hw => hts0 w (List.mem_cons_of_mem _ hw)) lw_privs_ok
    have hml : c.maxLocals = 7 := B.maxLocals_eq (hts0 _ List.mem_cons_self)
    have X₀ : Stand p l e room_1 s m #[Value.ref b] below meth c s₁ [] 0 0 := Stand.of_body B
    have hh0 : s₁.heap = s.heap := by rw [B.state]; rfl
    have hsz : scr.slots.size = xs.length := by rw [← Array.length_toList, hlist, List.length_map]
    have hval : ∀ j : Nat, j < xs.length → scr.slots[j]? = some (.int (xs.getD j 0)) := fun j hj => by
      rw [← Array.getElem?_toList, hlist]
      simp [hj]
    have hbl : b < s.heap.size := (Array.getElem?_eq_some_iff.mp hcb).1
    have hX : va_X b xs.length (fun j => xs.getD j 0) s s.heap := ⟨scr, hcb, hof, hkn, hsz, hval⟩
    have K : W p l e room_1 s m #[Value.ref b] below meth c s₁.heap [] 0 0 (lw_Z below #[Value.ref b] s) (entryFrame m ([Value.ref b] : List Value).toArray 7) := by
      rw [hh0]
      have hcw : (mm_cw (k_L_law 0 (fun _ => 0)) x).before #[Value.ref b] s = true := hts0 _ List.mem_cons_self
      obtain ⟨mk, mt, ck, f1, f2, f3, -, -, -, -, f8, -, f10, -⟩ := mm_F.of hcw rfl rfl
      cases f1.symm.trans B.named
      have hvm : s₁.vm = s.vm := by rw [B.state]; rfl
      have g1 : s.vm.method? m = some meth := by rw [← hvm]; exact X₀.method'
      cases f2.symm.trans g1
      cases f3.symm.trans X₀.code
      exact whole_start l hbd ⟨B.exec, B.bytes, B.returns, hml, hown, hts, hX, hbl, B.notSynchronized, hgv⟩ f8 f10 htr
    obtain ⟨t, a1, o, b1, b2, b3⟩ := K s₁ rfl X₀
    exact ⟨t, o, a1, b1, b2, b3⟩
theorem lw_pre_spec {args : Array Value} {s : State} (h : (Jvm.Cond.and given_1 narrow_1).before args s = true) (hr : rest_1_c.before args s = true) : ∃ (b : Addr) (xs : List Int32), lw_P b xs args s := by
  have hs := flat_of_before _ h
  have hq := flat_of_before _ hr
  have hc : (Cond.count 1).before args s = true := hs _ (by decide +kernel)
  have harr : (Cond.arrayOf (.arg 0) .int).before args s = true := hs _ (by decide +kernel)
  have hle : (Cond.le (.length (.arg 0)) (.int 3072)).before args s = true := hs _ (by decide +kernel)
  have hlen : (Cond.isInt (.length (.arg 0))).before args s = true := hq _ (by decide +kernel)
  have hall : (Cond.all (.arg 0) (.isInt (.elem (.arg 0) (.index 0)))).before args s = true := hq _ (by decide +kernel)
  obtain ⟨b, xs, hb, hx⟩ := State.ints_of_pre rfl harr hlen hall
  have hsm : xs.length < 2 ^ 31 := hx.choose_spec.2.2.2
  have hev : (Term.length (.arg 0)).eval args s none [] s = some (.int xs.length.toInt32) := hx.length_eval hb
  have hv := Cond.le_ints hev (show (Term.int 3072).eval args s none [] s = some (.int 3072) from rfl)
  have hd : xs.length.toInt32 ≤ 3072 := by
    simpa [Cond.before, Cond.holds, hv] using hle
  have hN : xs.length ≤ 3072 := (Int32.ofNat_le_ofNat hsm (by decide)).mp (show Int32.ofNat xs.length ≤ Int32.ofNat 3072 from hd)
  exact ⟨b, xs, Cond.one_arg hc (show args[0]? = some (.ref b) from hb), hx, hN, h⟩
theorem lw_comes (l : Launch) (htr : l.stackTraces = false) : Comes l x (Jvm.Cond.code x code maxLocals ret :: tables_1) room_1 (fun tb e args s => Calls_1 tb e args s ∧ rest_1 tb e args s ∧ Pre_1 tb e args s)
    (fun _ _ args s o t => lw_Q args s o t) := by
  intro p e ha hc hk s m args below hf hfit hheap happ hpre
  obtain ⟨b, xs, hP⟩ := lw_pre_spec hpre.2.2 hpre.2.1
  obtain ⟨k, o, h1, h2, h3, hQ⟩ := lw_walk l htr b xs p e ha hc hk s m args below hf ((Spec.applies_iff_loose hf).mp happ).1 hP trivial
  exact ⟨k, o, h1, h2, h3, hQ⟩
theorem lw_frame {s t : State} {o : Outcome} {args : Array Value} (h : Framed s o t [] 601024 7293034) :
    Framed s o t (fieldLocs frame_1_writes args s ++ arrayLocs frame_1_arrays args s ++ staticLocs frame_1_statics s) 601024 7293034 := h
theorem lw_limb (L : Cond) (hL : ∀ (args : Array Value) (s t : State), L.after args s (.returned (some (.int 1))) t = true) :
    ArmFor flags0 classFile x code maxLocals ret World_1 tables_1 room_1 Calls_1 rest_1 Pre_1
      (fun tb e a s o t => postC L tb e a s o t ∧ Framed s o t (fieldLocs frame_1_writes a s ++ arrayLocs frame_1_arrays a s ++ staticLocs frame_1_statics s) 601024 7293034) := by
  intro l hfl _ _ p e ha hc hk s m args below hf hfit hheap happ hpre
  have htr : l.stackTraces = false := by
    unfold Launch.stackTraces
    rw [hfl]
    decide +kernel
  obtain ⟨k, o, h1, h2, h3, rfl, hF⟩ := lw_comes l htr p e ha hc hk s m args below hf hfit hheap happ hpre
  exact ⟨k, _, h1, h2, h3, hL args s _, lw_frame hF⟩
theorem i_vc : Claimed_1_1 ∧ Claimed_1_2 := ⟨lw_limb limb_1_1 (fun args s t => by simp [limb_1_1, Cond.after, Cond.holds, Cond.value]), lw_limb limb_1_2 (fun args s t => Cond.after_iff.mpr (by
  first | (rw [show limb_1_2 = Cond.eq .result (.int 1) from rfl, Cond.eq_ints (x := 1) (y := 1) rfl rfl]; simp; done) | (simp [limb_1_2, Cond.value, Term.eval]; done)))⟩
