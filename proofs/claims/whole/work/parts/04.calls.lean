/-! calls, throws, handlers -/
theorem mm_la_map (ad : Nat → Nat) : ∀ (vs : List Value) (i : Nat), lv_args i (vs.map (mm_v ad)) = (lv_args i vs).map (mm_q ad)
  | [], _ => rfl
  | v :: vs, i => by
    simp only [List.map_cons, lv_args, mm_v_cat]
    rw [mm_la_map ad vs]
    rfl
theorem mm_la_mem : ∀ (vs : List Value) (i : Nat) (q : Nat × Value), q ∈ lv_args i vs → q.2 ∈ vs
  | [], _, _, h => by cases h
  | v :: vs, i, q, h => by
    simp only [lv_args] at h
    rcases List.mem_cons.mp h with rfl | h
    · exact List.mem_cons_self
    · exact List.mem_cons_of_mem _ (mm_la_mem vs _ q h)
theorem mm_sl_len (ad : Nat → Nat) : ∀ vs : List Value, (lg_sl (vs.map (mm_v ad))).length = (lg_sl vs).length
  | [] => rfl
  | v :: vs => by
    have h := mm_sl_len ad vs
    unfold lg_sl at h ⊢
    simp only [List.map_cons, List.flatMap_cons, List.length_append, mm_v_cat]
    rw [h]
    by_cases hc : v.category = 2
    · simp [hc]
    · simp [hc]
theorem mm_cat_map (ad : Nat → Nat) (st : List Value) : ((st.map (mm_v ad)).map fun v => v.category) = st.map fun v => v.category := by
  rw [List.map_map, show ((fun v : Value => v.category) ∘ mm_v ad) = fun v => v.category from funext fun v => mm_v_cat ad v]
/-- what the tables say of the method y with the record Kc -/
def mm_F (Kc : mm_M) (y : MethodName) (s : State) (mk : MethodId) (mt : Method) (ck : Code) : Prop := s.methodNamed? y = some mk ∧ s.vm.method? mk = some mt ∧ mt.code = some ck ∧ ck.code = Kc.2.1 ∧ ck.maxLocals = Kc.2.2.1 ∧ mt.sig.returnType = Kc.2.2.2.1 ∧ mt.locks = false ∧ mt.name = Kc.2.2.2.2.2.2.1 ∧ s.vm.findClass Kc.1 = some mk.cls ∧ ck.exceptionTable.toList = tableOf Kc.2.2.2.2.2.1 ∧ parseMethodDescriptor y.desc = some mt.sig
/-- the code's word of a method: with its handlers, where it has some -/
def mm_cw (Kc : mm_M) (y : MethodName) : Cond := match Kc.2.2.2.2.2.1 with
  | [] => .code y Kc.2.1 Kc.2.2.1 Kc.2.2.2.1
  | h :: t => .codeWith y Kc.2.1 Kc.2.2.1 Kc.2.2.2.1 (h :: t)
theorem mm_F.of {Kc : mm_M} {y : MethodName} {args : Array Value} {s : State} (h : (mm_cw Kc y).before args s = true) (h1 : Kc.1 = y.cls) (h2 : Kc.2.2.2.2.2.2.1 = y.name) : ∃ mk mt ck, mm_F Kc y s mk mt ck := by
  unfold mm_cw at h
  split at h
  · next hh =>
    obtain ⟨mk, hn⟩ := Cond.code_named h
    obtain ⟨mt, ck, a1, a2, a3, a4, a5, a6, a7, a8⟩ := Cond.code_spec hn h
    refine ⟨mk, mt, ck, hn, a1, a2, a3, a4, a5, a6, (name_of_methodNamed hn a1).1.trans h2.symm, by rw [h1]; exact findClass_of_methodNamed hn, ?_, a8⟩
    rw [hh]
    have h0 : ck.exceptionTable.size = 0 := by simpa [Array.isEmpty] using a7
    exact List.eq_nil_of_length_eq_zero (by simpa using h0)
  · next x t hh =>
    obtain ⟨mk, mt, ck, hn, a1, a2, a3, a4, a5, a6, a7, a8⟩ := Cond.codeWith_spec h
    refine ⟨mk, mt, ck, hn, a1, a2, a3, a4, a6, a7, (name_of_methodNamed hn a1).1.trans h2.symm, by rw [h1]; exact findClass_of_methodNamed hn, ?_, a8⟩
    rw [hh, ← a5, table_eq]
def mm_A (ad : Nat → Nat) (n sz : Nat) (q : Nat) : Prop := (∃ r, 0 < r ∧ r ≤ n ∧ q = ad r) ∨ sz ≤ q
theorem mm_wat {ad : Nat → Nat} {m : mm_Mem} {k : Nat} {x : Nat × va_E} (h : (mm_w ad m)[k]? = some x) : k + 1 ≤ mm_n m ∧ x = (ad (k + 1), mm_e ad (m (k + 1))) := by
  unfold mm_w at h
  rw [List.getElem?_map] at h
  cases hk : (List.range (mm_n m))[k]? with
  | none => rw [hk] at h; cases h
  | some j =>
    rw [hk] at h
    obtain ⟨h1, h2⟩ := List.getElem?_eq_some_iff.mp hk
    rw [List.length_range] at h1
    have hj : j = k := by simpa using h2.symm
    subst hj
    exact ⟨h1, (Option.some.inj h).symm⟩
theorem mm_wat2 {ad : Nat → Nat} {m : mm_Mem} {r : Nat} (h0 : 0 < r) (h : r ≤ mm_n m) : (mm_w ad m)[r - 1]? = some (ad r, mm_e ad (m r)) := by
  have h2 : r - 1 + 1 = r := by omega
  unfold mm_w
  rw [List.getElem?_map, List.getElem?_range (by omega)]
  simp only [Option.map_some, h2]
theorem mm_R.self {D : va_G} {A : Nat → Prop} {ad : Nat → Nat} {m : mm_Mem} {H : Heap} (h : mm_R D A ad m H) (sz : Nat) : mm_R D (mm_A ad (mm_n m) sz) ad m H :=
  ⟨h.1, ⟨h.2.1.1, fun k q hq => by obtain ⟨h1, rfl⟩ := mm_wat hq; exact Or.inl ⟨k + 1, Nat.succ_pos _, h1, rfl⟩⟩, h.2.2⟩
theorem mm_R.wide {D : va_G} {A B : Nat → Prop} {ad : Nat → Nat} {m : mm_Mem} {H : Heap} (h : mm_R D A ad m H) (hAB : ∀ q, A q → B q) : mm_R D B ad m H :=
  ⟨h.1, ⟨h.2.1.1, fun k q hq => hAB _ (h.2.1.2 k q hq)⟩, h.2.2⟩
theorem mm_R.in {D : va_G} {A : Nat → Prop} {ad : Nat → Nat} {m : mm_Mem} {H : Heap} (h : mm_R D A ad m H) {r : Nat} (h0 : 0 < r) (hr : r ≤ mm_n m) : A (ad r) := h.2.1.2 _ _ (mm_wat2 h0 hr)
theorem mm_R.plain {D : va_G} {A : Nat → Prop} {ad : Nat → Nat} {m : mm_Mem} {H : Heap} (h : mm_R D A ad m H) {r : Nat} (h0 : 0 < r) (hr : r ≤ mm_n m) {cell : Cell} (hc : H[ad r]? = some cell) : cell.vm.isStatics = false := by
  have h1 := h.1 _ _ (mm_wat2 (ad := ad) h0 hr)
  generalize mm_e ad (m r) = x at h1
  rcases x with ⟨cA, n, f | f | f | f | f⟩ | o
  · cases Option.some.inj (hc.symm.trans h1); rfl
  · cases Option.some.inj (hc.symm.trans h1); rfl
  · cases Option.some.inj (hc.symm.trans h1); rfl
  · cases Option.some.inj (hc.symm.trans h1); rfl
  · cases Option.some.inj (hc.symm.trans h1); rfl
  · obtain ⟨q, -, cell2, g1, g2, g3, -⟩ := h1
    cases Option.some.inj (hc.symm.trans g1)
    rw [g3]; rfl
theorem mm_warm {w : Cond} (hk : mm_kind w = true) {s U : State} (hW : s.WarmedH U.vm) (h : va_Nw w s) : va_Nw w U := by
  cases w <;> first
    | exact va_Nw.warmF hW h
    | exact va_Nw.warmM hW h
    | exact va_Nw.warmD hW h
    | exact va_Nw.warmC hW h
    | (rename_i t; cases t <;> first | exact va_AO.moved hW.alike h | (cases hk))
    | (cases hk)
theorem mm_Nc_moved {C T : String} {u U : State} (hvm : u.vm.Alike U.vm) (h : va_Nc C T u) : va_Nc C T U := by
  obtain ⟨c, t, h1, h2, h3⟩ := h
  exact ⟨c, t, by rw [hvm.findClass]; exact h1, by rw [hvm.findClass]; exact h2, by rw [hvm.assignable]; exact h3⟩
theorem mm_Xat {G : mm_G} {A B : Nat → Prop} {s U : State} (hX : mm_X G A s) (hW : s.WarmedH U.vm) (hq : ∀ a : Nat, a < s.heap.size → ¬ A a → U.heap[a]? = s.heap[a]?) (hAB : ∀ q, q < U.heap.size → B q → A q) : mm_X G B U := by
  obtain ⟨h1, h2, h3, h4, h5⟩ := hX
  refine ⟨va_K.moved hW.alike h1, fun w hw => mm_warm (mm_NW_ok w hw) hW (h2 w hw), fun q hq2 => ?_, fun q hq2 => ?_, fun q hq2 => mm_Nc_moved hW.alike (h5 q hq2)⟩
  · exact (((h3 q hq2).kept hq).moved hW.alike).narrow hAB
  · obtain ⟨a, ha⟩ := h4 q hq2
    exact ⟨a, vk_R.warm hW ha⟩
theorem mm_weak {p : Program} {e : Env} {g : Frame} {below : List Frame} {S1 S2 : State} (h : Steps p.tables e (g :: below) S1 S2) : Steps p.tables e below S1 S2 := by
  obtain ⟨n, h1, h2⟩ := h
  exact ⟨n, h1, fun k hk => Within.weaken (mid := [g]) (h2 k hk)⟩
set_option maxHeartbeats 1000000 in
/-- a callee is entered, walked by its own row, and left -/
theorem mm_enter {l : Launch} {G : mm_G} {K Kc : mm_M} {pc bc : Nat} {m : mm_Mem} {Qc : mm_O → mm_Mem → Prop} {p : Program} {e : Env} {s : State} {mid : MethodId} {args : Array Value} {below : List Frame} {meth : Method} {c : Code} {mc ms b0 : Nat} {ad : Nat → Nat} {A : Nat → Prop} {H : Heap} {locs : List Loc} {cells slots : Nat} {ls : Array Slot} {T : State}
    (X : Stand p l e (mm_room K mc ms) s mid args below meth c T locs cells slots) (hT : T.heap = H) (C : mm_C l G K p s mid args meth c A b0) (hA : ∀ q, s.heap.size ≤ q → A q) (hR : mm_R G.1 A ad m H) (hS : va_S A s.heap H locs) (hls : ls.size = K.2.2.1)
    {y : MethodName} {mk : MethodId} {mt : Method} {ck : Code} (hF : mm_F Kc y s mk mt ck) (hy : plainName y.cls = true) (hscr : Kc.2.2.2.2.2.2.2 = none) {ig : Instr} (hd : decode K.2.1 pc = .ok (ig, 3)) {stC : List Value} (hst : (stC.map fun v => v.category).sum + (Kc.2.2.1 + 11) + Kc.2.2.2.2.1.2 ≤ K.2.2.2.2.1.2) (hdep : Kc.2.2.2.2.1.1 + 1 ≤ K.2.2.2.2.1.1) (hb1 : cells + bc ≤ mc) (hb2 : slots + bc ≤ ms)
    {as : List Value} (has : ∀ v ∈ as, mm_cv (mm_n m) v) (hlen : (lg_sl as).length ≤ Kc.2.2.1) (hM : mm_W l G Kc 0 (lv_args 0 as) [] bc m Qc) :
    (∃ (v : Option Value) (m2 : mm_Mem) (ad2 : Nat → Nat) (T2 : State) (L : List Loc), Qc (.inl v) m2 ∧ mm_R G.1 A ad2 m2 T2.heap ∧ mm_n m ≤ mm_n m2 ∧ (∀ r, r ≤ mm_n m → ad2 r = ad r) ∧ va_S A s.heap T2.heap (locs ++ L) ∧ Stand p l e (mm_room K mc ms) s mid args below meth c T2 (locs ++ L) (cells + bc) (slots + bc) ∧ (∀ w, v = some w → mm_cv (mm_n m2) w) ∧
      ∀ acts, Steps p.tables e below (doInvoke e (T.setTop (F0 mid pc ls stC)) acts mk (as.map (mm_v ad)).toArray).1 (T2.setTop (F0 mid (pc + 3) ls ((v.map (mm_v ad2)).toList ++ stC)))) ∨
    (∃ (E : String) (m2 : mm_Mem) (ad2 : Nat → Nat) (T2 : State) (L : List Loc) (q : Addr) (ce : Cell), Qc (.inr E) m2 ∧ mm_R G.1 A ad2 m2 T2.heap ∧ mm_n m ≤ mm_n m2 ∧ (∀ r, r ≤ mm_n m → ad2 r = ad r) ∧ va_S A s.heap T2.heap (locs ++ L) ∧ Stand p l e (mm_room K mc ms) s mid args below meth c T2 (locs ++ L) (cells + bc) (slots + bc) ∧ T2.heap[q]? = some ce ∧ ce.vm = .none ∧ s.vm.findClass E = some ce.cls ∧
      ∀ acts, Steps p.tables e below (doInvoke e (T.setTop (F0 mid pc ls stC)) acts mk (as.map (mm_v ad)).toArray).1 ((T2.setTop (F0 mid pc ls stC)).pushFrame (.throwing q))) := by
  obtain ⟨f1, f2, f3, f4, f5, f6, f7, f8, f9, f10, f11⟩ := hF
  obtain ⟨hx, hb, hml, -, -, -, hown, -, hts, hX, hns, hlt, -⟩ := id C
  have hdc : decode c.code (F0 mid pc ls stC).pc = .ok (ig, 3) := by rw [hb]; exact hd
  have hsz : (F0 mid pc ls stC).locals.size = c.maxLocals := hls.trans hml.symm
  have hmk : T.vm.method? mk = some mt := by rw [X.warmed.alike.method?]; exact f2
  have hpk : T.plainMethod mk := X.warmed.plainAt (fun k hk => by
    obtain ⟨k2, hk2, hn2⟩ := className_of_methodNamed f1
    cases hk.symm.trans hk2
    rw [hn2]; exact hy)
  obtain ⟨Y, hdo⟩ := X.into (g := F0 mid pc ls stC) rfl hsz hdc (mk := mk) (methk := mt) (ck := ck) (as.map (mm_v ad)).toArray (R' := mm_room Kc bc bc) hmk f3 f7 hpk hdep (by
    show 2 * 0 + (stC.map fun v => v.category).sum + (ck.maxLocals + 11) + Kc.2.2.2.2.1.2 ≤ K.2.2.2.2.1.2
    rw [f5]; omega) hb1 hb2
  have hhp : (T.calling (F0 mid pc ls stC) mk (as.map (mm_v ad)).toArray).heap = H := hT
  have hvm : (T.calling (F0 mid pc ls stC) mk (as.map (mm_v ad)).toArray).vm = T.vm := rfl
  generalize hs2 : T.calling (F0 mid pc ls stC) mk (as.map (mm_v ad)).toArray = s2 at Y hhp hvm
  have hW2 : s.WarmedH s2.vm := by rw [hvm]; exact X.warmed
  have hAA : ∀ q, mm_A ad (mm_n m) H.size q → A q := fun q hq => by
    rcases hq with ⟨r, h0, h1, rfl⟩ | hq
    · exact hR.in h0 h1
    · exact hA q (Nat.le_trans hS.1 hq)
  have hC2 : mm_C l G Kc p s2 mk (as.map (mm_v ad)).toArray mt ck (mm_A ad (mm_n m) H.size) (ad 0) := by
    refine ⟨hx, f4, f5, f6, f7, f8, by rw [hW2.alike.findClass]; exact f9, f10, fun w hw => word_at hW2 (good_of_word (mm_T_good w hw)) (hts w hw), mm_Xat hX hW2 (fun a h1 h2 => by rw [hhp]; exact hS.2.1 a h1 h2) (fun q _ hq => hAA q hq), fun q cell hq hc => ?_, hlt, by rw [hscr]; trivial⟩
    rw [hhp] at hc
    rcases hq with ⟨r, h0, h1, rfl⟩ | hq
    · exact hR.plain h0 h1 hc
    · exact absurd (Array.getElem?_eq_some_iff.mp hc).1 (Nat.not_lt.mpr hq)
  have hW := hM p e s2 mk (as.map (mm_v ad)).toArray (.java (F0 mid pc ls stC) :: below) mt ck bc bc (mm_n m) ad ad (mm_A ad (mm_n m) H.size) s2.heap [] 0 0 _ hC2 (fun q hq => Or.inr (by rw [hhp] at hq; exact hq)) (Nat.le_refl _) (fun _ _ => rfl) (by rw [hhp]; exact hR.self H.size) va_S.rf (by rw [← mm_la_map]; exact lv_entry (as.map (mm_v ad)) (by rw [mm_sl_len]; exact hlen)) (fun q hq => has _ (mm_la_mem as 0 q hq)) (fun v hv => by cases hv) (by omega) (by omega)
  rw [List.map_nil, ← lg_entry_eq] at hW
  rw [← f5] at hW
  obtain ⟨t, hst1, o, hrun, hend, ⟨u, m2, ad2, hQ, hR2, hn2, had2, hF2, hout⟩, L, hWt, hsm, hL⟩ := hW _ (by rw [← hs2]; rfl) Y
  have hR3 := hR2.wide hAA
  have hS3 : va_S A s.heap t.heap (locs ++ L) := by
    obtain ⟨z1, z2⟩ := hF2
    rw [hhp] at z1 z2
    refine ⟨Nat.le_trans hS.1 z1, fun q h1 h2 => ?_, fun q hq => ?_⟩
    · rw [z2 q (Nat.lt_of_lt_of_le h1 hS.1) (fun h3 => h2 (hAA q h3))]
      exact hS.2.1 q h1 h2
    · rcases List.mem_append.mp hq with h | h
      · exact hS.2.2 q h
      · exact hAA _ (hL q h)
  subst hs2
  rcases u with v | E
  · left
    obtain ⟨rfl, hcv⟩ := hout
    obtain ⟨T2, X2, -, -, ht⟩ := X.outOf (g := F0 mid pc ls stC) rfl hdc hend hWt hsm
    have hh2 : T2.heap = t.heap := by rw [ht]; rfl
    refine ⟨v, m2, ad2, T2, L, hQ, by rw [hh2]; exact hR3, hn2, had2, by rw [hh2]; exact hS3, X2, hcv, fun acts => ?_⟩
    rw [hdo acts]
    have h9 := mm_weak hst1
    rw [ht] at h9
    exact h9
  · right
    obtain ⟨q, ce, rfl, hce, hcv, hcl⟩ := hout
    obtain ⟨T2, X2, -, -, ht⟩ := X.outOfThrown (g := F0 mid pc ls stC) rfl hend hWt hsm
    have hh2 : T2.heap = t.heap := by rw [ht]; rfl
    refine ⟨E, m2, ad2, T2, L, q, ce, hQ, by rw [hh2]; exact hR3, hn2, had2, by rw [hh2]; exact hS3, X2, by rw [hh2]; exact hce, hcv, ?_, fun acts => ?_⟩
    · have h8 : T.vm.findClass E = some ce.cls := hcl
      rw [X.warmed.alike.findClass] at h8
      exact h8
    · rw [hdo acts]
      have h9 := mm_weak hst1
      rw [ht] at h9
      exact h9
abbrev mm_is (u0 : mm_O) (m0 : mm_Mem) : mm_O → mm_Mem → Prop := fun u m => u = u0 ∧ m = m0
theorem mm_eqm {l : Launch} {G : mm_G} {K : mm_M} {pc : Nat} {lv : List (Nat × Value)} {st : List Value} {b : Nat} {m m2 : mm_Mem} {Q : mm_O → mm_Mem → Prop} (e : m2 = m) (h : mm_W l G K pc lv st b m2 Q) : mm_W l G K pc lv st b m Q := e ▸ h
section MMV
variable {l : Launch} {G : mm_G} {K : mm_M} {pc : Nat} {lv lv2 : List (Nat × Value)} {st : List Value} {b : Nat} {m : mm_Mem} {Q : mm_O → mm_Mem → Prop} {v : Value}
theorem mm_aload_nV (j : Nat) {k : Fin 4} {i : Nat} (hd : decode K.2.1 pc = .ok (.aload_n k, 1)) (hi : (k : Nat) = i) (hj : lv[j]? = some (i, v)) (hv : v = .null ∨ ∃ r, v = .ref r) (h : mm_W l G K (pc + 1) lv (v :: st) b m Q) : mm_W l G K pc lv st b m Q := by
  rcases hv with rfl | ⟨r, rfl⟩
  · exact mm_aload_nN j hd hi hj h
  · exact mm_aload_n j hd hi hj h
theorem mm_aloadV (j : Nat) {i : Nat} (hd : decode K.2.1 pc = .ok (.aload i, 2)) (hj : lv[j]? = some (i, v)) (hv : v = .null ∨ ∃ r, v = .ref r) (h : mm_W l G K (pc + 2) lv (v :: st) b m Q) : mm_W l G K pc lv st b m Q := by
  rcases hv with rfl | ⟨r, rfl⟩
  · exact mm_aloadN j hd hj h
  · exact mm_aload j hd hj h
theorem mm_astore_nV {k : Fin 4} {i : Nat} (hd : decode K.2.1 pc = .ok (.astore_n k, 1)) (hi : (k : Nat) = i) (hn : i < K.2.2.1) (hl : (i, v) :: lv.filter (fun q => !(q.1 == i) && !(q.1 + 1 == i && q.2.category == 2)) = lv2) (hv : v = .null ∨ ∃ r, v = .ref r) (h : mm_W l G K (pc + 1) lv2 st b m Q) : mm_W l G K pc lv (v :: st) b m Q := by
  rcases hv with rfl | ⟨r, rfl⟩
  · exact mm_astore_nN hd hi hn hl h
  · exact mm_astore_n hd hi hn hl h
theorem mm_astoreV {i : Nat} (hd : decode K.2.1 pc = .ok (.astore i, 2)) (hn : i < K.2.2.1) (hl : (i, v) :: lv.filter (fun q => !(q.1 == i) && !(q.1 + 1 == i && q.2.category == 2)) = lv2) (hv : v = .null ∨ ∃ r, v = .ref r) (h : mm_W l G K (pc + 2) lv2 st b m Q) : mm_W l G K pc lv (v :: st) b m Q := by
  rcases hv with rfl | ⟨r, rfl⟩
  · exact mm_astoreN hd hn hl h
  · exact mm_astore hd hn hl h
theorem mm_ifnonnullV {off : Int} {tgt : Nat} (hd : decode K.2.1 pc = .ok (.ifnonnull off, 3)) (ht : (pc : Int) + off = (tgt : Int)) (hv : v = .null ∨ ∃ r, v = .ref r) (k1 : ∀ r, v = .ref r → mm_W l G K tgt lv st b m Q) (k2 : v = .null → mm_W l G K (pc + 3) lv st b m Q) : mm_W l G K pc lv (v :: st) b m Q := by
  rcases hv with rfl | ⟨r, rfl⟩
  · exact mm_ifnonnullN hd (k2 rfl)
  · exact mm_ifnonnull hd ht (k1 r rfl)
theorem mm_ifnullV {off : Int} {tgt : Nat} (hd : decode K.2.1 pc = .ok (.ifnull off, 3)) (ht : (pc : Int) + off = (tgt : Int)) (hv : v = .null ∨ ∃ r, v = .ref r) (k1 : ∀ r, v = .ref r → mm_W l G K (pc + 3) lv st b m Q) (k2 : v = .null → mm_W l G K tgt lv st b m Q) : mm_W l G K pc lv (v :: st) b m Q := by
  rcases hv with rfl | ⟨r, rfl⟩
  · exact mm_ifnullN hd ht (k2 rfl)
  · exact mm_ifnull hd (k1 r rfl)
theorem mm_minL {idx : Nat} {x y : Int64} (hl : Cond.methodLink K.1 idx Lib.MathLoose.min_long.x ∈ mm_T) (hs : Cond.static Lib.MathLoose.min_long.x ∈ mm_T) (hi : Cond.initialized "java/lang/Math" ∈ mm_T) (hc : Cond.code Lib.MathLoose.min_long.x Lib.MathLoose.min_long.code 4 (some .long) ∈ mm_T) (hd : decode K.2.1 pc = .ok (.invokestatic idx, 3)) (hdep : 1 ≤ K.2.2.2.2.1.1) (hst : (st.map fun v => v.category).sum + 15 ≤ K.2.2.2.2.1.2) (h : mm_W l G K (pc + 3) lv (.long (if y < x then y else x) :: st) b m Q) : mm_W l G K pc lv (.long y :: .long x :: st) b m Q := by
  intro p e s mid args below meth c mc ms n0 ad0 ad A H locs cells slots ls C hA hn had hR hS hls hlc hsc hb1 hb2
  obtain ⟨hx, hb, -, -, -, -, hown, -, hts, -⟩ := id C
  have hcs : ((st.map (mm_v ad)).map fun v => v.category).sum + 15 ≤ K.2.2.2.2.1.2 := by
    rw [mm_cat_map]
    exact hst
  exact va_mmin_long hx hb (C.2.2.1.trans hls.1.symm) hown (hts _ hl) (hts _ hs) (hts _ hi) (hts _ hc) hdep hcs (show cells ≤ mc by omega) (show slots ≤ ms by omega) hd (h p e s mid args below meth c mc ms n0 ad0 ad A H locs cells slots ls C hA hn had hR hS hls hlc (mm_sc trivial (mm_sd (mm_sd hsc))) hb1 hb2)
end MMV
/-- what a program decides of a callee, once -/
def mm_cal (Kc : mm_M) (y : MethodName) (np : Nat) : Prop := mm_cw Kc y ∈ mm_T ∧ Kc.1 = y.cls ∧ Kc.2.2.2.2.2.2.1 = y.name ∧ plainName y.cls = true ∧ Kc.2.2.2.2.2.2.2 = none ∧ (y.cls ≠ "java/lang/invoke/MethodHandle" ∧ y.cls ≠ "java/lang/invoke/VarHandle") ∧ (parseMethodDescriptor y.desc).map (fun d => d.parameters.length) = some np ∧ Cond.initialized y.cls ∈ mm_T
theorem mm_np {y : MethodName} {np : Nat} (h : (parseMethodDescriptor y.desc).map (fun d => d.parameters.length) = some np) {sig : MethodDescriptor} (hs : parseMethodDescriptor y.desc = some sig) : np = sig.parameters.length := by
  rw [hs] at h
  exact (Option.some.inj h).symm
section MMC
variable {l : Launch} {G : mm_G} {K Kc : mm_M} {pc : Nat} {lv lv2 : List (Nat × Value)} {st as : List Value} {b bc b2 : Nat} {m : mm_Mem} {Q Qc : mm_O → mm_Mem → Prop}
theorem mm_rest {st0 rest : List Value} {n : Nat} (h : ∀ v ∈ st0 ++ rest, mm_cv n v) : ∀ v ∈ rest, mm_cv n v := fun v hv => h v (List.mem_append_right _ hv)
/-- a call of a static method -/
theorem mm_callS {y : MethodName} {idx np : Nat} (hc : mm_cal Kc y np) (hl : Cond.methodLink K.1 idx y ∈ mm_T) (hs : Cond.static y ∈ mm_T) (hd : decode K.2.1 pc = .ok (.invokestatic idx, 3)) (hnp : as.length = np) (hst : (st.map fun v => v.category).sum + (Kc.2.2.1 + 11) + Kc.2.2.2.2.1.2 ≤ K.2.2.2.2.1.2) (hdep : Kc.2.2.2.2.1.1 + 1 ≤ K.2.2.2.2.1.1) (hlen : (lg_sl as).length ≤ Kc.2.2.1) (hbd : bc + b2 ≤ b) (hM : mm_W l G Kc 0 (lv_args 0 as) [] bc m Qc)
    (hx1 : ∀ E m2, Qc (.inr E) m2 → mm_WX l G K pc lv E b2 m2 Q) (h : ∀ v m2, Qc (.inl v) m2 → mm_W l G K (pc + 3) lv (v.toList ++ st) b2 m2 Q) : mm_W l G K pc lv (as.reverse ++ st) b m Q := by
  intro p e s mid args below meth c mc ms n0 ad0 ad A H locs cells slots ls C hA hn had hR hS hls hlc hsc hb1 hb2
  obtain ⟨hx, hb, hml, -, -, -, hown, -, hts, -⟩ := id C
  obtain ⟨c1, c2, c3, c4, c5, c6, c7, c8⟩ := hc
  obtain ⟨mk, mt, ck, hF⟩ := mm_F.of (hts _ c1) c2 c3
  intro T hT X
  obtain ⟨kP, hkP, -⟩ := className_of_methodNamed hF.1
  obtain ⟨vm1, X1, st1⟩ := X.invokestatic hx hown (hts _ hl) hF.1 hF.2.1 (Cond.static_spec hF.1 hF.2.1 (hts _ hs)) hkP (Cond.initialized_spec (findClass_of_methodNamed hF.1) hkP (hts _ c8)) c6 (g := F0 mid pc ls ((as.reverse ++ st).map (mm_v ad))) rfl (argsL := as.map (mm_v ad)) (rest := st.map (mm_v ad)) (by rw [List.length_map, hnp]; exact mm_np c7 hF.2.2.2.2.2.2.2.2.2.2) (by show (as.reverse ++ st).map _ = _; rw [List.map_append, List.map_reverse]) (by rw [hb]; exact hd)
  rcases mm_enter (stC := st.map (mm_v ad)) X1 hT C hA hR hS hls.1 hF c4 c5 hd (by rw [mm_cat_map]; exact hst) hdep (by omega) (by omega) (as := as) (fun v hv => hsc v (List.mem_append_left _ (List.mem_reverse.mpr hv))) hlen hM with ⟨v, m2, ad2, T2, L, hQ, hR2, hn2, had2, hS2, X2, hcv, hgo⟩ | ⟨E, m2, ad2, T2, L, q, ce, hQ, hR2, hn2, had2, hS2, X2, hce, hcv, hcl, hgo⟩
  · have hsr := mm_rest hsc
    obtain ⟨t, a1, a2⟩ := h v m2 hQ p e s mid args below meth c mc ms n0 ad0 ad2 A T2.heap (locs ++ L) (cells + bc) (slots + bc) ls C hA (Nat.le_trans hn hn2) (fun r hr => (had2 r (Nat.le_trans hr hn)).trans (had r hr)) hR2 hS2 (by rw [mm_lv_ag had2 hlc]; exact hls) (fun q hq => mm_cv_mono hn2 (hlc q hq)) (fun w hw => by
      rcases List.mem_append.mp hw with hw | hw
      · exact hcv w (Option.mem_toList.mp hw)
      · exact mm_cv_mono hn2 (hsr w hw)) (by omega) (by omega) T2 rfl X2
    refine ⟨t, st1 t (fun acts => (hgo acts).trans ?_), a2⟩
    rw [List.map_append, mm_st_ag had2 hsr] at a1
    rw [show (v.map (mm_v ad2)).toList = v.toList.map (mm_v ad2) by cases v <;> rfl]
    exact a1
  · obtain ⟨t, a1, a2⟩ := hx1 E m2 hQ p e s mid args below meth c mc ms n0 ad0 ad2 A T2.heap (locs ++ L) (cells + bc) (slots + bc) ls C hA (Nat.le_trans hn hn2) (fun r hr => (had2 r (Nat.le_trans hr hn)).trans (had r hr)) hR2 hS2 (by rw [mm_lv_ag had2 hlc]; exact hls) (fun q hq => mm_cv_mono hn2 (hlc q hq)) (by omega) (by omega) q ce (st.map (mm_v ad)) hce hcv hcl T2 rfl X2
    exact ⟨t, st1 t (fun acts => (hgo acts).trans a1), a2⟩
/-- a call of an instance's method -/
theorem mm_callV {y : MethodName} {idx np r ci : Nat} {fs : List Value} {qc : vw_C} (hc : mm_cal Kc y np) (hl : Cond.methodLink K.1 idx y ∈ mm_T) (hi : Cond.instanceMethod y ∈ mm_T) (hse : Cond.selects y.cls y y ∈ mm_T) (hqc : mm_cl[ci]? = some qc) (hqn : qc.1 = y.cls) (hd : decode K.2.1 pc = .ok (.invokevirtual idx, 3)) (hnp : as.length = np) (hst : (st.map fun v => v.category).sum + (Kc.2.2.1 + 11) + Kc.2.2.2.2.1.2 ≤ K.2.2.2.2.1.2) (hdep : Kc.2.2.2.2.1.1 + 1 ≤ K.2.2.2.2.1.1) (hlen : (lg_sl (.ref r :: as)).length ≤ Kc.2.2.1) (hbd : bc + b2 ≤ b) (hm : m r = .inr (ci, fs)) (h0 : r ≠ 0) (hM : mm_W l G Kc 0 (lv_args 0 (.ref r :: as)) [] bc m Qc)
    (hx1 : ∀ E m2, Qc (.inr E) m2 → mm_WX l G K pc lv E b2 m2 Q) (h : ∀ v m2, Qc (.inl v) m2 → mm_W l G K (pc + 3) lv (v.toList ++ st) b2 m2 Q) : mm_W l G K pc lv (as.reverse ++ .ref r :: st) b m Q := by
  intro p e s mid args below meth c mc ms n0 ad0 ad A H locs cells slots ls C hA hn had hR hS hls hlc hsc hb1 hb2
  obtain ⟨hx, hb, hml, -, -, -, hown, -, hts, ⟨hK, -⟩, -⟩ := id C
  obtain ⟨c1, c2, c3, c4, c5, c6, c7, c8⟩ := hc
  obtain ⟨mk, mt, ck, hF⟩ := mm_F.of (hts _ c1) c2 c3
  obtain ⟨mk2, mt2, hnm2, hmt2, hstM, habM⟩ := Cond.instanceMethod_spec (hts _ hi)
  cases hF.1.symm.trans hnm2
  cases hF.2.1.symm.trans hmt2
  obtain ⟨cellB, hcB, hoB, hclB⟩ := va_recv hK hR.1 hqc (mm_at hR.2.2.1 h0 hm (mm_ni hqc))
  obtain ⟨c2', r2, m2', q1, q2, q3, q4, kP, hkP, hkPi⟩ := Cond.selects_spec (hts _ hse)
  rw [hqn] at hclB
  cases hclB.symm.trans q1
  cases (State.methodFound?_of_named hF.1 c6).symm.trans q2
  cases hF.1.symm.trans q3
  intro T hT X
  have hselP : selectMethod e.platform s.vm cellB.cls mk = .method mk := by rw [Launch.admits_selectMethod X.admits]; exact q4
  obtain ⟨vm1, X1, st1⟩ := X.invokevirtual hx hown (hts _ hl) hF.1 hF.2.1 hstM hkP hkPi c6 (a := ad r) (cell := cellB) (by rw [hT]; exact hcB) (fun z h => by rw [h] at hoB; cases hoB) hselP hF.2.1 habM hkP hkPi (g := F0 mid pc ls ((as.reverse ++ .ref r :: st).map (mm_v ad))) rfl (argsL := as.map (mm_v ad)) (rest := st.map (mm_v ad)) (by rw [List.length_map, hnp]; exact mm_np c7 hF.2.2.2.2.2.2.2.2.2.2) (by show (as.reverse ++ .ref r :: st).map _ = _; rw [List.map_append, List.map_reverse]; rfl) (by rw [hb]; exact hd)
  have hsr : ∀ v ∈ st, mm_cv (mm_n m) v := fun v hv => hsc v (List.mem_append_right _ (List.mem_cons_of_mem _ hv))
  rcases mm_enter (stC := st.map (mm_v ad)) X1 hT C hA hR hS hls.1 hF c4 c5 hd (by rw [mm_cat_map]; exact hst) hdep (by omega) (by omega) (as := .ref r :: as) (mm_sc (hsc _ (List.mem_append_right _ List.mem_cons_self)) (fun v hv => hsc v (List.mem_append_left _ (List.mem_reverse.mpr hv)))) hlen hM with ⟨v, m2, ad2, T2, L, hQ, hR2, hn2, had2, hS2, X2, hcv, hgo⟩ | ⟨E, m2, ad2, T2, L, q, ce, hQ, hR2, hn2, had2, hS2, X2, hce, hcv, hcl, hgo⟩
  · obtain ⟨t, a1, a2⟩ := h v m2 hQ p e s mid args below meth c mc ms n0 ad0 ad2 A T2.heap (locs ++ L) (cells + bc) (slots + bc) ls C hA (Nat.le_trans hn hn2) (fun r hr => (had2 r (Nat.le_trans hr hn)).trans (had r hr)) hR2 hS2 (by rw [mm_lv_ag had2 hlc]; exact hls) (fun q hq => mm_cv_mono hn2 (hlc q hq)) (fun w hw => by
      rcases List.mem_append.mp hw with hw | hw
      · exact hcv w (Option.mem_toList.mp hw)
      · exact mm_cv_mono hn2 (hsr w hw)) (by omega) (by omega) T2 rfl X2
    refine ⟨t, st1 t (fun acts => (hgo acts).trans ?_), a2⟩
    rw [List.map_append, mm_st_ag had2 hsr] at a1
    rw [show (v.map (mm_v ad2)).toList = v.toList.map (mm_v ad2) by cases v <;> rfl]
    exact a1
  · obtain ⟨t, a1, a2⟩ := hx1 E m2 hQ p e s mid args below meth c mc ms n0 ad0 ad2 A T2.heap (locs ++ L) (cells + bc) (slots + bc) ls C hA (Nat.le_trans hn hn2) (fun r hr => (had2 r (Nat.le_trans hr hn)).trans (had r hr)) hR2 hS2 (by rw [mm_lv_ag had2 hlc]; exact hls) (fun q hq => mm_cv_mono hn2 (hlc q hq)) (by omega) (by omega) q ce (st.map (mm_v ad)) hce hcv hcl T2 rfl X2
    exact ⟨t, st1 t (fun acts => (hgo acts).trans a1), a2⟩
/-- a constructor's call -/
theorem mm_callI {y : MethodName} {idx np r : Nat} (hc : mm_cal Kc y np) (hyi : y.name = "<init>") (hh : Kc.2.2.2.2.2.1 = []) (hrt : Kc.2.2.2.1 = none) (hl : Cond.methodLink K.1 idx y ∈ mm_T) (hi : Cond.instanceMethod y ∈ mm_T) (hd : decode K.2.1 pc = .ok (.invokespecial idx, 3)) (hnp : as.length = np) (hst : (st.map fun v => v.category).sum + (Kc.2.2.1 + 11) + Kc.2.2.2.2.1.2 ≤ K.2.2.2.2.1.2) (hdep : Kc.2.2.2.2.1.1 + 1 ≤ K.2.2.2.2.1.1) (hlen : (lg_sl (.ref r :: as)).length ≤ Kc.2.2.1) (hbd : bc + b2 ≤ b) (hM : mm_W l G Kc 0 (lv_args 0 (.ref r :: as)) [] bc m Qc)
    (hx1 : ∀ E m2, Qc (.inr E) m2 → mm_WX l G K pc lv E b2 m2 Q) (h : ∀ v m2, Qc (.inl v) m2 → mm_W l G K (pc + 3) lv (v.toList ++ st) b2 m2 Q) : mm_W l G K pc lv (as.reverse ++ .ref r :: st) b m Q := by
  intro p e s mid args below meth c mc ms n0 ad0 ad A H locs cells slots ls C hA hn had hR hS hls hlc hsc hb1 hb2
  obtain ⟨hx, hb, hml, -, -, -, hown, -, hts, ⟨hK, -⟩, -⟩ := id C
  obtain ⟨c1, c2, c3, c4, c5, c6, c7, c8⟩ := hc
  obtain ⟨mk, mt, ck, hF⟩ := mm_F.of (hts _ c1) c2 c3
  have hcode : (Cond.code y Kc.2.1 Kc.2.2.1 none).before args s = true := by
    have h9 := hts _ c1
    unfold mm_cw at h9
    rw [hh, hrt] at h9
    exact h9
  intro T hT X
  have hpl : e.platform.magicAccessors = ({} : Platform).magicAccessors := by rw [X.admits.platform]
  obtain ⟨mk2, mt2, cM, kP, vm1, hnm2, hmt2, -, -, -, -, -, -, hW1, st1⟩ := Steps.initColdArgs (e := e) X.here hx X.warmed hpl hown hyi c6 (hts _ hl) (hts _ hi) hcode (f := F0 mid pc ls ((as.reverse ++ .ref r :: st).map (mm_v ad))) rfl (argsL := as.map (mm_v ad)) (a := ad r) (rest := st.map (mm_v ad)) (fun sig hs => by rw [List.length_map, hnp]; exact mm_np c7 hs) (by show (as.reverse ++ .ref r :: st).map _ = _; rw [List.map_append, List.map_reverse]; rfl) (by rw [hb]; exact hd)
  cases hF.1.symm.trans hnm2
  have X1 := X.noted hW1
  have hsr : ∀ v ∈ st, mm_cv (mm_n m) v := fun v hv => hsc v (List.mem_append_right _ (List.mem_cons_of_mem _ hv))
  rcases mm_enter (stC := st.map (mm_v ad)) X1 hT C hA hR hS hls.1 hF c4 c5 hd (by rw [mm_cat_map]; exact hst) hdep (by omega) (by omega) (as := .ref r :: as) (mm_sc (hsc _ (List.mem_append_right _ List.mem_cons_self)) (fun v hv => hsc v (List.mem_append_left _ (List.mem_reverse.mpr hv)))) hlen hM with ⟨v, m2, ad2, T2, L, hQ, hR2, hn2, had2, hS2, X2, hcv, hgo⟩ | ⟨E, m2, ad2, T2, L, q, ce, hQ, hR2, hn2, had2, hS2, X2, hce, hcv, hcl, hgo⟩
  · obtain ⟨t, a1, a2⟩ := h v m2 hQ p e s mid args below meth c mc ms n0 ad0 ad2 A T2.heap (locs ++ L) (cells + bc) (slots + bc) ls C hA (Nat.le_trans hn hn2) (fun r hr => (had2 r (Nat.le_trans hr hn)).trans (had r hr)) hR2 hS2 (by rw [mm_lv_ag had2 hlc]; exact hls) (fun q hq => mm_cv_mono hn2 (hlc q hq)) (fun w hw => by
      rcases List.mem_append.mp hw with hw | hw
      · exact hcv w (Option.mem_toList.mp hw)
      · exact mm_cv_mono hn2 (hsr w hw)) (by omega) (by omega) T2 rfl X2
    refine ⟨t, st1 t (fun acts => (hgo acts).trans ?_), a2⟩
    rw [List.map_append, mm_st_ag had2 hsr] at a1
    rw [show (v.map (mm_v ad2)).toList = v.toList.map (mm_v ad2) by cases v <;> rfl]
    exact a1
  · obtain ⟨t, a1, a2⟩ := hx1 E m2 hQ p e s mid args below meth c mc ms n0 ad0 ad2 A T2.heap (locs ++ L) (cells + bc) (slots + bc) ls C hA (Nat.le_trans hn hn2) (fun r hr => (had2 r (Nat.le_trans hr hn)).trans (had r hr)) hR2 hS2 (by rw [mm_lv_ag had2 hlc]; exact hls) (fun q hq => mm_cv_mono hn2 (hlc q hq)) (by omega) (by omega) q ce (st.map (mm_v ad)) hce hcv hcl T2 rfl X2
    exact ⟨t, st1 t (fun acts => (hgo acts).trans a1), a2⟩
/-- an exception that no handler of the method covers leaves it -/
theorem mm_outX {E : String} (hh : (tableOf K.2.2.2.2.2.1).all (fun x => !covers x pc) = true) (hq : Q (.inr E) m) : mm_WX l G K pc lv E b m Q := by
  intro p e s mid args below meth c mc ms n0 ad0 ad A H locs cells slots ls C hA hn had hR hS hls hlc hb1 hb2 q ce stC hce hcv hcl T hT X
  obtain ⟨-, -, -, -, hlk, -, -, hex, -⟩ := id C
  obtain ⟨st1, hrun, hend, hW, hsm⟩ := X.leaveThrown q (g := F0 mid pc ls stC) rfl rfl rfl (outside_of_table hex hh) hlk
  refine ⟨_, st1, .threw q, hrun, hend, ⟨.inr E, m, ad, hq, by show mm_R G.1 A ad m T.heap; rw [hT]; exact hR, hn, had, hS.F hT, q, ce, rfl, by show T.heap[q]? = _; rw [hT]; exact hce, hcv, hcl⟩, locs, hW, hsm.mono (by omega) (by omega), hS.2.2⟩
end MMC
