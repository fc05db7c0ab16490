/-- a class of the world: its row of the table, its words, the types of its fields, their names apart -/
def mm_cls (ci : Nat) (Cn : String) (T : u_T) (N : Nat) (ty : Nat → FieldType) : Prop := mm_cl[ci]? = some (Cn, T, N) ∧ (∀ w ∈ u_ws Cn T N, w ∈ mm_T) ∧ (∀ k, k < N → parseFieldDescriptor (T k).2.2.1 = some (ty k)) ∧ ∀ a, a < N → ∀ b, b < N → a ≠ b → (T a).2.1 ≠ (T b).2.1
theorem mm_ni {ci : Nat} {fs : List Value} {q : vw_C} (hc : mm_cl[ci]? = some q) : (Sum.inr (ci, fs) : va_E) ≠ mm_j := fun h => by
  have h1 : ci = 1000 := congrArg Prod.fst (Sum.inr.inj h)
  subst h1
  have h2 : ¬ (1000 < mm_cl.length) := by decide
  exact h2 (List.getElem?_eq_some_iff.mp hc).1
theorem mm_nl {x : ClassId × vp_A} : (Sum.inl x : va_E) ≠ mm_j := fun h => by unfold mm_j at h; cases h
theorem mm_cf {D : va_G} {A : Nat → Prop} {ad : Nat → Nat} {m : mm_Mem} {H : Heap} (hR : mm_R D A ad m H) {r : Nat} (h0 : r ≠ 0) {ci : Nat} {fs : List Value} (hm : m r = .inr (ci, fs)) : ∀ v ∈ fs, mm_cv (mm_n m) v := by
  have h := hR.2.2.2 r (Nat.pos_of_ne_zero h0)
  rw [hm] at h
  exact h
theorem mm_cset {n k : Nat} {fs : List Value} {v : Value} (h : ∀ w ∈ fs, mm_cv n w) (hv : mm_cv n v) : ∀ w ∈ fs.set k v, mm_cv n w := fun w hw => by
  rcases List.mem_or_eq_of_mem_set hw with h1 | h1
  · exact h w h1
  · rw [h1]; exact hv
theorem mm_rf (ad : Nat → Nat) (o : Option Nat) : va_rf (o.map ad) = mm_v ad (va_rf o) := by cases o <;> rfl
theorem mm_ra {U : State} {c1 c2 : ClassId} {ty : FieldType} (h1 : va_RA U c1 ty) (h2 : va_RA U c2 ty) : c1 = c2 := by
  cases ty with
  | object Cn =>
    obtain ⟨_, _, _, _, _, a⟩ := h1
    obtain ⟨_, _, _, _, _, a2⟩ := h2
    exact Option.some.inj (a.symm.trans a2)
  | _ => exact Option.some.inj ((show U.vm.findClass _ = some c1 from h1).symm.trans (show U.vm.findClass _ = some c2 from h2))
theorem mm_lvu {m : mm_Mem} {r : Nat} {x : va_E} (h0 : r ≠ 0) {lv : List (Nat × Value)} (h : ∀ q ∈ lv, mm_cv (mm_n m) q.2) : ∀ q ∈ lv, mm_cv (mm_n (va_up m r x)) q.2 := by rw [mm_n_up h0]; exact h
theorem mm_stu {m : mm_Mem} {r : Nat} {x : va_E} (h0 : r ≠ 0) {st : List Value} (h : ∀ q ∈ st, mm_cv (mm_n m) q) : ∀ q ∈ st, mm_cv (mm_n (va_up m r x)) q := by rw [mm_n_up h0]; exact h
theorem mm_lvp {m : mm_Mem} {x : va_E} {lv : List (Nat × Value)} (h : ∀ q ∈ lv, mm_cv (mm_n m) q.2) : ∀ q ∈ lv, mm_cv (mm_n (mm_push m x)) q.2 := by rw [mm_n_push]; exact fun q hq => mm_cv_mono (Nat.le_succ _) (h q hq)
theorem mm_stp {m : mm_Mem} {x : va_E} {st : List Value} (h : ∀ q ∈ st, mm_cv (mm_n m) q) : ∀ q ∈ st, mm_cv (mm_n (mm_push m x)) q := by rw [mm_n_push]; exact fun q hq => mm_cv_mono (Nat.le_succ _) (h q hq)
section MMH
variable {l : Launch} {G : mm_G} {K : mm_M} {pc : Nat} {lv lv2 : List (Nat × Value)} {st : List Value} {b b2 : Nat} {m : mm_Mem} {Q : mm_O → mm_Mem → Prop}
theorem mm_get {ci : Nat} {Cn : String} {T : u_T} {N idx r : Nat} {ty : Nat → FieldType} {fs : List Value} {v : Value} (hC : mm_cls ci Cn T N ty) (k : Nat) (hk : k < N) (hl : Cond.fieldLink K.1 idx (T k).1 (T k).2.1 (T k).2.2.1 ∈ mm_T) (hd : decode K.2.1 pc = .ok (.getfield idx, 3)) (hm : m r = .inr (ci, fs)) (h0 : r ≠ 0) (hv : fs[k]? = some v) (h : mm_W l G K (pc + 3) lv (v :: st) b m Q) : mm_W l G K pc lv (.ref r :: st) b m Q := by
  intro p e s mid args below meth c mc ms n0 ad0 ad A H locs cells slots ls C hA hn had hR hS hls hlc hsc hb1 hb2
  obtain ⟨hx, hb, -, -, -, -, hown, -, hts, ⟨hK, hNW, -⟩, -⟩ := id C
  exact va_get hx hb hts hC.2.1 hown hK hR.1 (r - 1) (mm_at hR.2.2.1 h0 hm (mm_ni hC.1)) hC.1 k hk (hts _ hl) (fun _ z => z) (show (fs.map (mm_v ad))[k]? = some (mm_v ad v) by rw [List.getElem?_map, hv]; rfl) hd (h p e s mid args below meth c mc ms n0 ad0 ad A H locs cells slots ls C hA hn had hR hS hls hlc (mm_sc (mm_cf hR h0 hm v (List.mem_of_getElem? hv)) (mm_sd hsc)) hb1 hb2)
theorem mm_getN {host : String} {ci : Nat} {Cn : String} {T : u_T} {N idx r : Nat} {ty : Nat → FieldType} {fs : List Value} {v : Value} (hC : mm_cls ci Cn T N ty) (k : Nat) (hk : k < N) (hl : Cond.fieldLinkNest K.1 idx (T k).1 (T k).2.1 (T k).2.2.1 host ∈ mm_NW) (hd : decode K.2.1 pc = .ok (.getfield idx, 3)) (hm : m r = .inr (ci, fs)) (h0 : r ≠ 0) (hv : fs[k]? = some v) (h : mm_W l G K (pc + 3) lv (v :: st) b m Q) : mm_W l G K pc lv (.ref r :: st) b m Q := by
  intro p e s mid args below meth c mc ms n0 ad0 ad A H locs cells slots ls C hA hn had hR hS hls hlc hsc hb1 hb2
  obtain ⟨hx, hb, -, -, -, -, hown, -, hts, ⟨hK, hNW, -⟩, -⟩ := id C
  exact va_getN hx hb hts hC.2.1 hown hK hR.1 (r - 1) (mm_at hR.2.2.1 h0 hm (mm_ni hC.1)) hC.1 k hk ((hNW _ hl).use rfl) (fun _ z => z) (show (fs.map (mm_v ad))[k]? = some (mm_v ad v) by rw [List.getElem?_map, hv]; rfl) hd (h p e s mid args below meth c mc ms n0 ad0 ad A H locs cells slots ls C hA hn had hR hS hls hlc (mm_sc (mm_cf hR h0 hm v (List.mem_of_getElem? hv)) (mm_sd hsc)) hb1 hb2)
theorem mm_putf {ci : Nat} {Cn : String} {T : u_T} {N idx r : Nat} {ty : Nat → FieldType} {fs : List Value} {v : Value} (hC : mm_cls ci Cn T N ty) (k : Nat) (hk : k < N) (hl : Cond.fieldLink K.1 idx (T k).1 (T k).2.1 (T k).2.2.1 ∈ mm_T) (hd : decode K.2.1 pc = .ok (.putfield idx, 3)) (hfin : (T k).2.2.2 = false) (hnr : ∀ ad, narrow (ty k) (mm_v ad v) = mm_v ad v) (hft : ∀ ad, fits (ty k) (mm_v ad v) = true) (hm : m r = .inr (ci, fs)) (h0 : r ≠ 0) (hkl : k < fs.length) (h : mm_W l G K (pc + 3) lv st b (va_up m r (.inr (ci, fs.set k v))) Q) : mm_W l G K pc lv (v :: .ref r :: st) b m Q := by
  intro p e s mid args below meth c mc ms n0 ad0 ad A H locs cells slots ls C hA hn had hR hS hls hlc hsc hb1 hb2
  obtain ⟨hx, hb, -, -, -, -, hown, -, hts, ⟨hK, hNW, -⟩, -⟩ := id C
  refine va_put hx hb hts hC.2.1 ty hC.2.2.1 hC.2.2.2 hown hK hR.1 hR.2.1 hS (r - 1) (mm_at hR.2.2.1 h0 hm (mm_ni hC.1)) hC.1 k hk (hts _ hl) (fun _ z => z) hfin (hC.2.2.1 k hk) (hnr ad) (hft ad) (by rw [List.length_map]; exact hkl) hd (fun H1 locs1 hP hD hS1 => ?_)
  rw [← List.map_set] at hP hD
  exact h p e s mid args below meth c mc ms n0 ad0 ad A H1 locs1 cells slots ls C hA (by rw [mm_n_up h0]; exact hn) had (mm_put h0 hR hm (mm_ni hC.1) (x := .inr (ci, fs.set k v)) (mm_cset (mm_cf hR h0 hm) (mm_sh hsc)) hP hD) hS1 hls (mm_lvu h0 hlc) (mm_stu h0 (mm_sd (mm_sd hsc))) hb1 hb2
theorem mm_putN {host : String} {ci : Nat} {Cn : String} {T : u_T} {N idx r : Nat} {ty : Nat → FieldType} {fs : List Value} {v : Value} (hC : mm_cls ci Cn T N ty) (k : Nat) (hk : k < N) (hl : Cond.fieldLinkNest K.1 idx (T k).1 (T k).2.1 (T k).2.2.1 host ∈ mm_NW) (hd : decode K.2.1 pc = .ok (.putfield idx, 3)) (hfin : (T k).2.2.2 = false) (hnr : ∀ ad, narrow (ty k) (mm_v ad v) = mm_v ad v) (hft : ∀ ad, fits (ty k) (mm_v ad v) = true) (hm : m r = .inr (ci, fs)) (h0 : r ≠ 0) (hkl : k < fs.length) (h : mm_W l G K (pc + 3) lv st b (va_up m r (.inr (ci, fs.set k v))) Q) : mm_W l G K pc lv (v :: .ref r :: st) b m Q := by
  intro p e s mid args below meth c mc ms n0 ad0 ad A H locs cells slots ls C hA hn had hR hS hls hlc hsc hb1 hb2
  obtain ⟨hx, hb, -, -, -, -, hown, -, hts, ⟨hK, hNW, -⟩, -⟩ := id C
  refine va_putN hx hb hts hC.2.1 ty hC.2.2.1 hC.2.2.2 hown hK hR.1 hR.2.1 hS (r - 1) (mm_at hR.2.2.1 h0 hm (mm_ni hC.1)) hC.1 k hk ((hNW _ hl).use rfl) (fun _ z => z) hfin (hC.2.2.1 k hk) (hnr ad) (hft ad) (by rw [List.length_map]; exact hkl) hd (fun H1 locs1 hP hD hS1 => ?_)
  rw [← List.map_set] at hP hD
  exact h p e s mid args below meth c mc ms n0 ad0 ad A H1 locs1 cells slots ls C hA (by rw [mm_n_up h0]; exact hn) had (mm_put h0 hR hm (mm_ni hC.1) (x := .inr (ci, fs.set k v)) (mm_cset (mm_cf hR h0 hm) (mm_sh hsc)) hP hD) hS1 hls (mm_lvu h0 hlc) (mm_stu h0 (mm_sd (mm_sd hsc))) hb1 hb2
theorem mm_putF {ci : Nat} {Cn : String} {T : u_T} {N idx r : Nat} {ty : Nat → FieldType} {fs : List Value} {v : Value} (hC : mm_cls ci Cn T N ty) (k : Nat) (hk : k < N) (hl : Cond.fieldLink K.1 idx (T k).1 (T k).2.1 (T k).2.2.1 ∈ mm_T) (hd : decode K.2.1 pc = .ok (.putfield idx, 3)) (hfin : (T k).2.2.2 = true) (hi : K.2.2.2.2.2.2.1 = "<init>") (hdc : (T k).1 = K.1) (hnr : ∀ ad, narrow (ty k) (mm_v ad v) = mm_v ad v) (hft : ∀ ad, fits (ty k) (mm_v ad v) = true) (hm : m r = .inr (ci, fs)) (h0 : r ≠ 0) (hkl : k < fs.length) (h : mm_W l G K (pc + 3) lv st b (va_up m r (.inr (ci, fs.set k v))) Q) : mm_W l G K pc lv (v :: .ref r :: st) b m Q := by
  intro p e s mid args below meth c mc ms n0 ad0 ad A H locs cells slots ls C hA hn had hR hS hls hlc hsc hb1 hb2
  obtain ⟨hx, hb, -, -, -, -, hown, -, hts, ⟨hK, hNW, -⟩, -⟩ := id C
  refine va_putF hx hb hts hC.2.1 ty hC.2.2.1 hC.2.2.2 hown hK hR.1 hR.2.1 hS (r - 1) (mm_at hR.2.2.1 h0 hm (mm_ni hC.1)) hC.1 k hk (hts _ hl) (fun _ z => z) hfin (C.2.2.2.2.2.1.trans hi) hdc (hC.2.2.1 k hk) (hnr ad) (hft ad) (by rw [List.length_map]; exact hkl) hd (fun H1 locs1 hP hD hS1 => ?_)
  rw [← List.map_set] at hP hD
  exact h p e s mid args below meth c mc ms n0 ad0 ad A H1 locs1 cells slots ls C hA (by rw [mm_n_up h0]; exact hn) had (mm_put h0 hR hm (mm_ni hC.1) (x := .inr (ci, fs.set k v)) (mm_cset (mm_cf hR h0 hm) (mm_sh hsc)) hP hD) hS1 hls (mm_lvu h0 hlc) (mm_stu h0 (mm_sd (mm_sd hsc))) hb1 hb2
theorem mm_bald {r n : Nat} {f : Nat → Int32} {i : Int32} (hd : decode K.2.1 pc = .ok (.baload, 1)) (hm : m r = .inl (G.2 0, n, .inl f)) (h0 : r ≠ 0) (hi : vp_in i n) (h : mm_W l G K (pc + 1) lv (.int (f i.toNatClampNeg) :: st) b m Q) : mm_W l G K pc lv (.int i :: .ref r :: st) b m Q := by
  intro p e s mid args below meth c mc ms n0 ad0 ad A H locs cells slots ls C hA hn had hR hS hls hlc hsc hb1 hb2
  obtain ⟨hx, hb, -, -, -, -, hown, -, hts, ⟨hK, hNW, -⟩, -⟩ := id C
  exact va_bald hx hb hK hR.1 (r - 1) 0 (mm_at hR.2.2.1 h0 hm mm_nl) rfl hi hd (h p e s mid args below meth c mc ms n0 ad0 ad A H locs cells slots ls C hA hn had hR hS hls hlc (mm_sc trivial (mm_sd (mm_sd hsc))) hb1 hb2)
theorem mm_iald {r n : Nat} {f : Nat → Int32} {i : Int32} (hd : decode K.2.1 pc = .ok (.iaload, 1)) (hm : m r = .inl (G.2 1, n, .inl f)) (h0 : r ≠ 0) (hi : vp_in i n) (h : mm_W l G K (pc + 1) lv (.int (f i.toNatClampNeg) :: st) b m Q) : mm_W l G K pc lv (.int i :: .ref r :: st) b m Q := by
  intro p e s mid args below meth c mc ms n0 ad0 ad A H locs cells slots ls C hA hn had hR hS hls hlc hsc hb1 hb2
  obtain ⟨hx, hb, -, -, -, -, hown, -, hts, ⟨hK, hNW, -⟩, -⟩ := id C
  exact va_iald hx hb hK hR.1 (r - 1) 1 (mm_at hR.2.2.1 h0 hm mm_nl) rfl hi hd (h p e s mid args below meth c mc ms n0 ad0 ad A H locs cells slots ls C hA hn had hR hS hls hlc (mm_sc trivial (mm_sd (mm_sd hsc))) hb1 hb2)
theorem mm_lald {r n : Nat} {f : Nat → Int64} {i : Int32} (hd : decode K.2.1 pc = .ok (.laload, 1)) (hm : m r = .inl (G.2 2, n, .inr (.inl f))) (h0 : r ≠ 0) (hi : vp_in i n) (h : mm_W l G K (pc + 1) lv (.long (f i.toNatClampNeg) :: st) b m Q) : mm_W l G K pc lv (.int i :: .ref r :: st) b m Q := by
  intro p e s mid args below meth c mc ms n0 ad0 ad A H locs cells slots ls C hA hn had hR hS hls hlc hsc hb1 hb2
  obtain ⟨hx, hb, -, -, -, -, hown, -, hts, ⟨hK, hNW, -⟩, -⟩ := id C
  exact va_lald hx hb hK hR.1 (r - 1) 2 (mm_at hR.2.2.1 h0 hm mm_nl) rfl hi hd (h p e s mid args below meth c mc ms n0 ad0 ad A H locs cells slots ls C hA hn had hR hS hls hlc (mm_sc trivial (mm_sd (mm_sd hsc))) hb1 hb2)
theorem mm_zald {r n : Nat} {f : Nat → Int32} {i : Int32} (hd : decode K.2.1 pc = .ok (.baload, 1)) (hm : m r = .inl (G.2 3, n, .inl f)) (h0 : r ≠ 0) (hi : vp_in i n) (h : mm_W l G K (pc + 1) lv (.int (f i.toNatClampNeg) :: st) b m Q) : mm_W l G K pc lv (.int i :: .ref r :: st) b m Q := by
  intro p e s mid args below meth c mc ms n0 ad0 ad A H locs cells slots ls C hA hn had hR hS hls hlc hsc hb1 hb2
  obtain ⟨hx, hb, -, -, -, -, hown, -, hts, ⟨hK, hNW, -⟩, -⟩ := id C
  exact va_zald hx hb hK hR.1 (r - 1) 3 (mm_at hR.2.2.1 h0 hm mm_nl) rfl hi hd (h p e s mid args below meth c mc ms n0 ad0 ad A H locs cells slots ls C hA hn had hR hS hls hlc (mm_sc trivial (mm_sd (mm_sd hsc))) hb1 hb2)
theorem mm_bast {r n : Nat} {f : Nat → Int32} {i : Int32} {x : Int32} (hd : decode K.2.1 pc = .ok (.bastore, 1)) (hm : m r = .inl (G.2 0, n, .inl f)) (h0 : r ≠ 0) (hi : vp_in i n) (h : mm_W l G K (pc + 1) lv st b (va_up m r (.inl (G.2 0, n, .inl (upd f i.toNatClampNeg (vp_nar .byte x))))) Q) : mm_W l G K pc lv (.int x :: .int i :: .ref r :: st) b m Q := by
  intro p e s mid args below meth c mc ms n0 ad0 ad A H locs cells slots ls C hA hn had hR hS hls hlc hsc hb1 hb2
  obtain ⟨hx, hb, -, -, -, -, hown, -, hts, ⟨hK, hNW, -⟩, -⟩ := id C
  refine va_bast hx hb hK hR.1 hR.2.1 hS (r - 1) 0 (mm_at hR.2.2.1 h0 hm mm_nl) rfl hi hd (fun H1 locs1 hP hD hS1 => ?_)
  exact h p e s mid args below meth c mc ms n0 ad0 ad A H1 locs1 cells slots ls C hA (by rw [mm_n_up h0]; exact hn) had (mm_put h0 hR hm mm_nl (x := .inl (G.2 0, n, .inl (upd f i.toNatClampNeg (vp_nar .byte x)))) trivial hP hD) hS1 hls (mm_lvu h0 hlc) (mm_stu h0 (mm_sd (mm_sd (mm_sd hsc)))) hb1 hb2
theorem mm_iast {r n : Nat} {f : Nat → Int32} {i : Int32} {x : Int32} (hd : decode K.2.1 pc = .ok (.iastore, 1)) (hm : m r = .inl (G.2 1, n, .inl f)) (h0 : r ≠ 0) (hi : vp_in i n) (h : mm_W l G K (pc + 1) lv st b (va_up m r (.inl (G.2 1, n, .inl (upd f i.toNatClampNeg x)))) Q) : mm_W l G K pc lv (.int x :: .int i :: .ref r :: st) b m Q := by
  intro p e s mid args below meth c mc ms n0 ad0 ad A H locs cells slots ls C hA hn had hR hS hls hlc hsc hb1 hb2
  obtain ⟨hx, hb, -, -, -, -, hown, -, hts, ⟨hK, hNW, -⟩, -⟩ := id C
  refine va_iast hx hb hK hR.1 hR.2.1 hS (r - 1) 1 (mm_at hR.2.2.1 h0 hm mm_nl) rfl hi hd (fun H1 locs1 hP hD hS1 => ?_)
  exact h p e s mid args below meth c mc ms n0 ad0 ad A H1 locs1 cells slots ls C hA (by rw [mm_n_up h0]; exact hn) had (mm_put h0 hR hm mm_nl (x := .inl (G.2 1, n, .inl (upd f i.toNatClampNeg x))) trivial hP hD) hS1 hls (mm_lvu h0 hlc) (mm_stu h0 (mm_sd (mm_sd (mm_sd hsc)))) hb1 hb2
theorem mm_last {r n : Nat} {f : Nat → Int64} {i : Int32} {x : Int64} (hd : decode K.2.1 pc = .ok (.lastore, 1)) (hm : m r = .inl (G.2 2, n, .inr (.inl f))) (h0 : r ≠ 0) (hi : vp_in i n) (h : mm_W l G K (pc + 1) lv st b (va_up m r (.inl (G.2 2, n, .inr (.inl (vp_updL f i.toNatClampNeg x))))) Q) : mm_W l G K pc lv (.long x :: .int i :: .ref r :: st) b m Q := by
  intro p e s mid args below meth c mc ms n0 ad0 ad A H locs cells slots ls C hA hn had hR hS hls hlc hsc hb1 hb2
  obtain ⟨hx, hb, -, -, -, -, hown, -, hts, ⟨hK, hNW, -⟩, -⟩ := id C
  refine va_last hx hb hK hR.1 hR.2.1 hS (r - 1) 2 (mm_at hR.2.2.1 h0 hm mm_nl) rfl hi hd (fun H1 locs1 hP hD hS1 => ?_)
  exact h p e s mid args below meth c mc ms n0 ad0 ad A H1 locs1 cells slots ls C hA (by rw [mm_n_up h0]; exact hn) had (mm_put h0 hR hm mm_nl (x := .inl (G.2 2, n, .inr (.inl (vp_updL f i.toNatClampNeg x)))) trivial hP hD) hS1 hls (mm_lvu h0 hlc) (mm_stu h0 (mm_sd (mm_sd (mm_sd hsc)))) hb1 hb2
theorem mm_zast {r n : Nat} {f : Nat → Int32} {i : Int32} {x : Int32} (hd : decode K.2.1 pc = .ok (.bastore, 1)) (hm : m r = .inl (G.2 3, n, .inl f)) (h0 : r ≠ 0) (hi : vp_in i n) (h : mm_W l G K (pc + 1) lv st b (va_up m r (.inl (G.2 3, n, .inl (upd f i.toNatClampNeg (vp_nar .boolean x))))) Q) : mm_W l G K pc lv (.int x :: .int i :: .ref r :: st) b m Q := by
  intro p e s mid args below meth c mc ms n0 ad0 ad A H locs cells slots ls C hA hn had hR hS hls hlc hsc hb1 hb2
  obtain ⟨hx, hb, -, -, -, -, hown, -, hts, ⟨hK, hNW, -⟩, -⟩ := id C
  refine va_zast hx hb hK hR.1 hR.2.1 hS (r - 1) 3 (mm_at hR.2.2.1 h0 hm mm_nl) rfl hi hd (fun H1 locs1 hP hD hS1 => ?_)
  exact h p e s mid args below meth c mc ms n0 ad0 ad A H1 locs1 cells slots ls C hA (by rw [mm_n_up h0]; exact hn) had (mm_put h0 hR hm mm_nl (x := .inl (G.2 3, n, .inl (upd f i.toNatClampNeg (vp_nar .boolean x)))) trivial hP hD) hS1 hls (mm_lvu h0 hlc) (mm_stu h0 (mm_sd (mm_sd (mm_sd hsc)))) hb1 hb2
theorem mm_aald {r r2 n t : Nat} {Cn : String} {f : Nat → Option Nat} {i : Int32} (ht : (mm_tys G.2)[t]? = some (G.2 t, .object Cn)) (hd : decode K.2.1 pc = .ok (.aaload, 1)) (hm : m r = .inl (G.2 t, n, .inr (.inr (.inr (.inr f))))) (h0 : r ≠ 0) (hi : vp_in i n) (hv : f i.toNatClampNeg = some r2) (h : mm_W l G K (pc + 1) lv (.ref r2 :: st) b m Q) : mm_W l G K pc lv (.int i :: .ref r :: st) b m Q := by
  intro p e s mid args below meth c mc ms n0 ad0 ad A H locs cells slots ls C hA hn had hR hS hls hlc hsc hb1 hb2
  obtain ⟨hx, hb, -, -, -, -, hown, -, hts, ⟨hK, hNW, -⟩, -⟩ := id C
  have hcl : mm_cv (mm_n m) (.ref r2) := by
    have h1 := hR.2.2.2 r (Nat.pos_of_ne_zero h0)
    rw [hm] at h1
    exact h1 _ r2 hv
  have h2 := h p e s mid args below meth c mc ms n0 ad0 ad A H locs cells slots ls C hA hn had hR hS hls hlc (mm_sc hcl (mm_sd (mm_sd hsc))) hb1 hb2
  refine va_aldq hx hb hK hR.1 (r - 1) t (mm_at hR.2.2.1 h0 hm mm_nl) ht hi hd ?_
  rw [hv]
  exact h2
theorem mm_aast {r r2 n t ci : Nat} {q : vw_C} {f : Nat → Option Nat} {i : Int32} {vs : List Value} (ht : (mm_tys G.2)[t]? = some (G.2 t, .object q.1)) (hq : mm_cl[ci]? = some q) (hd : decode K.2.1 pc = .ok (.aastore, 1)) (hm : m r = .inl (G.2 t, n, .inr (.inr (.inr (.inr f))))) (h0 : r ≠ 0) (hm2 : m r2 = .inr (ci, vs)) (h02 : r2 ≠ 0) (hi : vp_in i n) (h : mm_W l G K (pc + 1) lv st b (va_up m r (.inl (G.2 t, n, .inr (.inr (.inr (.inr (va_up f i.toNatClampNeg (some r2)))))))) Q) : mm_W l G K pc lv (.ref r2 :: .int i :: .ref r :: st) b m Q := by
  intro p e s mid args below meth c mc ms n0 ad0 ad A H locs cells slots ls C hA hn had hR hS hls hlc hsc hb1 hb2
  obtain ⟨hx, hb, -, -, -, -, hown, -, hts, ⟨hK, hNW, -⟩, -⟩ := id C
  refine va_astq hx hb hK hR.1 hR.2.1 hS (r - 1) t (r2 - 1) ci (mm_at hR.2.2.1 h0 hm mm_nl) ht (mm_at hR.2.2.1 h02 hm2 (mm_ni hq)) hq hi hd (fun H1 locs1 hP hD hS1 => ?_)
  have e1 : va_up (fun j => (f j).map ad) i.toNatClampNeg (some (ad r2)) = fun j => ((va_up f i.toNatClampNeg (some r2)) j).map ad := by
    funext j
    unfold va_up
    by_cases hj : j = i.toNatClampNeg
    · rw [if_pos hj, if_pos hj]; rfl
    · rw [if_neg hj, if_neg hj]
  rw [e1] at hP hD
  refine h p e s mid args below meth c mc ms n0 ad0 ad A H1 locs1 cells slots ls C hA (by rw [mm_n_up h0]; exact hn) had (mm_put h0 hR hm mm_nl (x := .inl (G.2 t, n, .inr (.inr (.inr (.inr (va_up f i.toNatClampNeg (some r2))))))) ?_ hP hD) hS1 hls (mm_lvu h0 hlc) (mm_stu h0 (mm_sd (mm_sd (mm_sd hsc)))) hb1 hb2
  have h1 := hR.2.2.2 r (Nat.pos_of_ne_zero h0)
  rw [hm] at h1
  intro j r3 hj
  unfold va_up at hj
  by_cases hj2 : j = i.toNatClampNeg
  · rw [if_pos hj2] at hj
    cases hj
    exact mm_sh hsc
  · rw [if_neg hj2] at hj
    exact h1 j r3 hj
theorem mm_alen {r t : Nat} {ty : FieldType} {x : vp_A} (ht : (mm_tys G.2)[t]? = some (G.2 t, ty)) (hd : decode K.2.1 pc = .ok (.arraylength, 1)) (hm : m r = .inl (G.2 t, x)) (h0 : r ≠ 0) (h : mm_W l G K (pc + 1) lv (.int (nI x.1) :: st) b m Q) : mm_W l G K pc lv (.ref r :: st) b m Q := by
  intro p e s mid args below meth c mc ms n0 ad0 ad A H locs cells slots ls C hA hn had hR hS hls hlc hsc hb1 hb2
  obtain ⟨hx, hb, -, -, -, -, hown, -, hts, ⟨hK, hNW, -⟩, -⟩ := id C
  have h2 := h p e s mid args below meth c mc ms n0 ad0 ad A H locs cells slots ls C hA hn had hR hS hls hlc (mm_sc trivial (mm_sd hsc)) hb1 hb2
  obtain ⟨n, f | f | f | f | f⟩ := x
  · exact va_alen hx hb hK hR.1 (r - 1) t (mm_at hR.2.2.1 h0 hm mm_nl) ht rfl hd h2
  · exact va_alen hx hb hK hR.1 (r - 1) t (mm_at hR.2.2.1 h0 hm mm_nl) ht rfl hd h2
  · exact va_alen hx hb hK hR.1 (r - 1) t (mm_at hR.2.2.1 h0 hm mm_nl) ht rfl hd h2
  · exact va_alen hx hb hK hR.1 (r - 1) t (mm_at hR.2.2.1 h0 hm mm_nl) ht rfl hd h2
  · exact va_alen hx hb hK hR.1 (r - 1) t (mm_at hR.2.2.1 h0 hm mm_nl) ht rfl hd h2
theorem mm_sald {n : Nat} {xs : Nat → Int32} {i : Int32} (hs : K.2.2.2.2.2.2.2 = some (n, xs)) (hd : decode K.2.1 pc = .ok (.iaload, 1)) (hi : vp_in i n) (h : mm_W l G K (pc + 1) lv (.int (xs i.toNatClampNeg) :: st) b m Q) : mm_W l G K pc lv (.int i :: .ref 0 :: st) b m Q := by
  intro p e s mid args below meth c mc ms n0 ad0 ad A H locs cells slots ls C hA hn had hR hS hls hlc hsc hb1 hb2
  obtain ⟨hx, hb, -, -, -, -, hown, -, hts, -, -, -, hsc0⟩ := id C
  rw [hs] at hsc0
  obtain ⟨z1, z2, z3⟩ := hsc0
  rw [← had 0 (Nat.zero_le _)] at z1 z2 z3
  exact va_sld hx hb z1 z2 z3 hS hi hd (h p e s mid args below meth c mc ms n0 ad0 ad A H locs cells slots ls C hA hn had hR hS hls hlc (mm_sc trivial (mm_sd (mm_sd hsc))) hb1 hb2)
theorem mm_salen {n : Nat} {xs : Nat → Int32} (hs : K.2.2.2.2.2.2.2 = some (n, xs)) (hd : decode K.2.1 pc = .ok (.arraylength, 1)) (h : mm_W l G K (pc + 1) lv (.int (nI n) :: st) b m Q) : mm_W l G K pc lv (.ref 0 :: st) b m Q := by
  intro p e s mid args below meth c mc ms n0 ad0 ad A H locs cells slots ls C hA hn had hR hS hls hlc hsc hb1 hb2
  obtain ⟨hx, hb, -, -, -, -, hown, -, hts, -, -, -, hsc0⟩ := id C
  rw [hs] at hsc0
  obtain ⟨z1, z2, z3⟩ := hsc0
  rw [← had 0 (Nat.zero_le _)] at z1 z2 z3
  exact va_slen hx hb z1 z2 z3 hS hd (h p e s mid args below meth c mc ms n0 ad0 ad A H locs cells slots ls C hA hn had hR hS hls hlc (mm_sc trivial (mm_sd hsc)) hb1 hb2)
theorem mm_new {ci : Nat} {Cn : String} {T : u_T} {N idx : Nat} {ty : Nat → FieldType} {fs : List Value} (hC : mm_cls ci Cn T N ty) (hcl : Cond.classLink K.1 idx Cn ∈ mm_T) (hin : Cond.instantiable Cn N ∈ mm_T) (hini : Cond.initialized Cn ∈ mm_T) (hfs : ∀ j, j < N → defaultValue (ty j) = vp_V fs j) (hcf : ∀ v ∈ fs, mm_cv 0 v) (hfr : ∀ ad, fs.map (mm_v ad) = fs) (hd : decode K.2.1 pc = .ok (.new idx, 3)) (hbd : N + 1 + b2 ≤ b) (h : mm_W l G K (pc + 3) lv (.ref (mm_n m + 1) :: st) b2 (mm_push m (.inr (ci, fs))) Q) : mm_W l G K pc lv st b m Q := by
  intro p e s mid args below meth c mc ms n0 ad0 ad A H locs cells slots ls C hA hn had hR hS hls hlc hsc hb1 hb2
  obtain ⟨hx, hb, -, -, -, -, hown, -, hts, ⟨hK, hNW, -⟩, -⟩ := id C
  refine va_new (fs := fs) hx hb hts hC.2.1 ty hC.2.2.1 hown (hts _ hcl) (hts _ hin) (hts _ hini) hK hR.1 hR.2.1 hS hA hC.1 hfs (show cells + 1 ≤ mc by omega) (show slots + N ≤ ms by omega) hd (fun q H1 hP hD hS1 => ?_)
  have hag : ∀ r, r ≤ mm_n m → va_up ad (mm_n m + 1) q r = ad r := fun r hr => by unfold va_up; rw [if_neg (by omega)]
  have hq : va_up ad (mm_n m + 1) q (mm_n m + 1) = q := by unfold va_up; rw [if_pos rfl]
  have h2 := h p e s mid args below meth c mc ms n0 ad0 (va_up ad (mm_n m + 1) q) A H1 locs (cells + 1) (slots + N) ls C hA (by rw [mm_n_push]; omega) (fun r hr => (hag r (by omega)).trans (had r hr)) (mm_grow hR (x := .inr (ci, fs)) (fun v hv => mm_cv_mono (Nat.zero_le _) (hcf v hv)) (by show Sum.inr (ci, fs.map _) = _; rw [hfr]) hP hD) hS1 (by rw [mm_lv_ag hag hlc]; exact hls) (mm_lvp hlc) (mm_sc (by rw [mm_n_push]; exact Nat.le_refl _) (mm_stp hsc)) (by omega) (by omega)
  rw [List.map_cons, mm_st_ag hag hsc] at h2
  rw [show mm_v (va_up ad (mm_n m + 1) q) (.ref (mm_n m + 1)) = .ref q by show Value.ref _ = _; rw [hq]] at h2
  exact h2
theorem mm_newa {atype : ArrayType} {t N : Nat} {ty : FieldType} {n : Int32} {a0 : (Nat → Int32) ⊕ (Nat → Int64) ⊕ (Nat → UInt32) ⊕ (Nat → UInt64) ⊕ (Nat → Option Nat)} (harr : Cond.arrayClass (newarray.typeOf atype) ∈ mm_T) (hty : newarray.typeOf atype = ty) (ht : (mm_tys G.2)[t]? = some (G.2 t, ty)) (ha : ∀ cA : ClassId, vp_cell cA (N, a0) = arrV cA N (fun _ => defaultValue ty)) (hce : ∀ k, mm_ce k (.inl (G.2 t, N, a0))) (hme : ∀ ad, mm_e ad (.inl (G.2 t, N, a0)) = .inl (G.2 t, N, a0)) (hd : decode K.2.1 pc = .ok (.newarray atype, 2)) (hn1 : ¬ n < 0) (hN : n.toNatClampNeg = N) (hbytes : N * componentBytes ty ≤ 536870912) (hbd : N + 1 + b2 ≤ b) (h : mm_W l G K (pc + 2) lv (.ref (mm_n m + 1) :: st) b2 (mm_push m (.inl (G.2 t, N, a0))) Q) : mm_W l G K pc lv (.int n :: st) b m Q := by
  intro p e s mid args below meth c mc ms n0 ad0 ad A H locs cells slots ls C hA hn had hR hS hls hlc hsc hb1 hb2
  obtain ⟨hx, hb, -, -, -, -, hown, -, hts, ⟨hK, hNW, -⟩, -⟩ := id C
  refine va_newa (a0 := (N, a0)) hx hb (hts _ harr) hty hK hR.1 hR.2.1 hS hA ha hn1 hN hbytes (show cells + 1 ≤ mc by omega) (show slots + N ≤ ms by omega) hd (fun q cA H1 hK1 hP hD hS1 => ?_)
  have hcA : cA = G.2 t := mm_ra (hK1.2 (mm_tys G.2).length (cA, ty) (by rw [List.getElem?_append_right (Nat.le_refl _), Nat.sub_self]; rfl)).2 (hK.2 t _ ht).2
  subst hcA
  have hag : ∀ r, r ≤ mm_n m → va_up ad (mm_n m + 1) q r = ad r := fun r hr => by unfold va_up; rw [if_neg (by omega)]
  have hq : va_up ad (mm_n m + 1) q (mm_n m + 1) = q := by unfold va_up; rw [if_pos rfl]
  have h2 := h p e s mid args below meth c mc ms n0 ad0 (va_up ad (mm_n m + 1) q) A H1 locs (cells + 1) (slots + N) ls C hA (by rw [mm_n_push]; omega) (fun r hr => (hag r (by omega)).trans (had r hr)) (mm_grow hR (x := .inl (G.2 t, N, a0)) (hce _) (hme _) hP hD) hS1 (by rw [mm_lv_ag hag hlc]; exact hls) (mm_lvp hlc) (mm_sc (by rw [mm_n_push]; exact Nat.le_refl _) (mm_stp (mm_sd hsc))) (by omega) (by omega)
  rw [List.map_cons, mm_st_ag hag (mm_sd hsc)] at h2
  rw [show mm_v (va_up ad (mm_n m + 1) q) (.ref (mm_n m + 1)) = .ref q by show Value.ref _ = _; rw [hq]] at h2
  exact h2
theorem mm_newq {idx t N : Nat} {Cn : String} {n : Int32} (hcl : Cond.classLink K.1 idx Cn ∈ mm_T) (hov : Cond.arrayOver (.object Cn) ∈ mm_NW) (ht : (mm_tys G.2)[t]? = some (G.2 t, .object Cn)) (hd : decode K.2.1 pc = .ok (.anewarray idx, 3)) (hn1 : ¬ n < 0) (hN : n.toNatClampNeg = N) (hbytes : N * 4 ≤ 536870912) (hbd : N + 1 + b2 ≤ b) (h : mm_W l G K (pc + 3) lv (.ref (mm_n m + 1) :: st) b2 (mm_push m (.inl (G.2 t, N, .inr (.inr (.inr (.inr (fun _ => none))))))) Q) : mm_W l G K pc lv (.int n :: st) b m Q := by
  intro p e s mid args below meth c mc ms n0 ad0 ad A H locs cells slots ls C hA hn had hR hS hls hlc hsc hb1 hb2
  obtain ⟨hx, hb, -, -, -, -, hown, -, hts, ⟨hK, hNW, -⟩, -⟩ := id C
  refine va_newq hx hb hown (hts _ hcl) (hNW _ hov) hK hR.1 hR.2.1 hS hA hn1 hN hbytes (show cells + 1 ≤ mc by omega) (show slots + N ≤ ms by omega) hd (fun q cA H1 hK1 hP hD hS1 => ?_)
  have hcA : cA = G.2 t := mm_ra (hK1.2 (mm_tys G.2).length (cA, .object Cn) (by rw [List.getElem?_append_right (Nat.le_refl _), Nat.sub_self]; rfl)).2 (hK.2 t _ ht).2
  subst hcA
  have hag : ∀ r, r ≤ mm_n m → va_up ad (mm_n m + 1) q r = ad r := fun r hr => by unfold va_up; rw [if_neg (by omega)]
  have hq : va_up ad (mm_n m + 1) q (mm_n m + 1) = q := by unfold va_up; rw [if_pos rfl]
  have h2 := h p e s mid args below meth c mc ms n0 ad0 (va_up ad (mm_n m + 1) q) A H1 locs (cells + 1) (slots + N) ls C hA (by rw [mm_n_push]; omega) (fun r hr => (hag r (by omega)).trans (had r hr)) (mm_grow hR (x := .inl (G.2 t, N, .inr (.inr (.inr (.inr (fun _ => none)))))) (fun _ _ z => nomatch z) rfl hP hD) hS1 (by rw [mm_lv_ag hag hlc]; exact hls) (mm_lvp hlc) (mm_sc (by rw [mm_n_push]; exact Nat.le_refl _) (mm_stp (mm_sd hsc))) (by omega) (by omega)
  rw [List.map_cons, mm_st_ag hag (mm_sd hsc)] at h2
  rw [show mm_v (va_up ad (mm_n m + 1) q) (.ref (mm_n m + 1)) = .ref q by show Value.ref _ = _; rw [hq]] at h2
  exact h2
theorem mm_objInit {idx r : Nat} (hl : Cond.methodLink K.1 idx objectInit ∈ mm_T) (hi : Cond.instanceMethod objectInit ∈ mm_T) (hc : Cond.code objectInit ⟨#[0xb1]⟩ 1 none ∈ mm_T) (hd : decode K.2.1 pc = .ok (.invokespecial idx, 3)) (hdep : 1 ≤ K.2.2.2.2.1.1) (hst : (st.map fun v => v.category).sum + 15 ≤ K.2.2.2.2.1.2) (h : mm_W l G K (pc + 3) lv st b m Q) : mm_W l G K pc lv (.ref r :: st) b m Q := by
  intro p e s mid args below meth c mc ms n0 ad0 ad A H locs cells slots ls C hA hn had hR hS hls hlc hsc hb1 hb2
  obtain ⟨hx, hb, -, -, -, -, hown, -, hts, ⟨hK, hNW, -⟩, -⟩ := id C
  have hcs : ((st.map (mm_v ad)).map fun v => v.category).sum + 15 ≤ K.2.2.2.2.1.2 := by
    rw [List.map_map, show ((fun v : Value => v.category) ∘ mm_v ad) = fun v => v.category from funext fun v => mm_v_cat ad v]
    exact hst
  exact W.objInit hx hb hown (hts _ hl) (hts _ hi) (hts _ hc) rfl (hls.1.trans C.2.2.1.symm) rfl hd hdep (by show 2 * 0 + _ + 12 ≤ K.2.2.2.2.1.2; omega) (h p e s mid args below meth c mc ms n0 ad0 ad A H locs cells slots ls C hA hn had hR hS hls hlc (mm_sd hsc) hb1 hb2)
theorem mm_math {idx : Nat} {x y : Int32} (hl : Cond.methodLink K.1 idx Lib.Math.max.name ∈ mm_T) (hs : Cond.static Lib.Math.max.name ∈ mm_T) (hi : Cond.initialized "java/lang/Math" ∈ mm_T) (hc : Cond.code Lib.Math.max.name Lib.Math.max.code 2 (some .int) ∈ mm_T) (hd : decode K.2.1 pc = .ok (.invokestatic idx, 3)) (hdep : 1 ≤ K.2.2.2.2.1.1) (hst : (st.map fun v => v.category).sum + 15 ≤ K.2.2.2.2.1.2) (h : mm_W l G K (pc + 3) lv (.int (if x < y then y else x) :: st) b m Q) : mm_W l G K pc lv (.int y :: .int x :: st) b m Q := by
  intro p e s mid args below meth c mc ms n0 ad0 ad A H locs cells slots ls C hA hn had hR hS hls hlc hsc hb1 hb2
  obtain ⟨hx, hb, -, -, -, -, hown, -, hts, ⟨hK, hNW, -⟩, -⟩ := id C
  have hcs : ((st.map (mm_v ad)).map fun v => v.category).sum + 15 ≤ K.2.2.2.2.1.2 := by
    rw [List.map_map, show ((fun v : Value => v.category) ∘ mm_v ad) = fun v => v.category from funext fun v => mm_v_cat ad v]
    exact hst
  exact va_mmax hx hb (C.2.2.1.trans hls.1.symm) hown (hts _ hl) (hts _ hs) (hts _ hi) (hts _ hc) hdep (by show _ + 13 ≤ K.2.2.2.2.1.2; omega) (show cells ≤ mc by omega) (show slots ≤ ms by omega) hd (h p e s mid args below meth c mc ms n0 ad0 ad A H locs cells slots ls C hA hn had hR hS hls hlc (mm_sc trivial (mm_sd (mm_sd hsc))) hb1 hb2)
theorem mm_copyb {idx r1 r2 n1 n2 t : Nat} {f g : Nat → Int32} {ty : FieldType} {sp dp n : Int32} (ht : (mm_tys G.2)[t]? = some (G.2 t, ty)) (hp : refKind ty = false) (hl : Cond.methodLink K.1 idx arraycopyName ∈ mm_T) (hnt : Cond.native arraycopyName ∈ mm_T) (hs : Cond.static arraycopyName ∈ mm_T) (hi : Cond.initialized "java/lang/System" ∈ mm_T) (hd : decode K.2.1 pc = .ok (.invokestatic idx, 3)) (hdep : 1 ≤ K.2.2.2.2.1.1) (hst : (st.map fun v => v.category).sum + (nativeFrameWords "java/lang/System" "arraycopy" 5 + 11) ≤ K.2.2.2.2.1.2) (hm1 : m r1 = .inl (G.2 t, n1, .inl f)) (h01 : r1 ≠ 0) (hm2 : m r2 = .inl (G.2 t, n2, .inl g)) (h02 : r2 ≠ 0) (h1 : ¬ sp < 0) (h2 : ¬ dp < 0) (h3 : ¬ n < 0) (h4 : sp.toNatClampNeg + n.toNatClampNeg ≤ n1) (h5 : dp.toNatClampNeg + n.toNatClampNeg ≤ n2) (hft : ∀ i, i < n.toNatClampNeg → fits ty (.int (f (sp.toNatClampNeg + i))) = true) (h : mm_W l G K (pc + 3) lv st b (va_up m r2 (.inl (G.2 t, n2, .inl (va_cpy f g sp.toNatClampNeg dp.toNatClampNeg n.toNatClampNeg)))) Q) : mm_W l G K pc lv (.int n :: .int dp :: .ref r2 :: .int sp :: .ref r1 :: st) b m Q := by
  intro p e s mid args below meth c mc ms n0 ad0 ad A H locs cells slots ls C hA hn had hR hS hls hlc hsc hb1 hb2
  obtain ⟨hx, hb, -, -, -, -, hown, -, hts, ⟨hK, hNW, -⟩, -⟩ := id C
  have hcs : ((st.map (mm_v ad)).map fun v => v.category).sum + (nativeFrameWords "java/lang/System" "arraycopy" 5 + 11) ≤ K.2.2.2.2.1.2 := by
    rw [List.map_map, show ((fun v : Value => v.category) ∘ mm_v ad) = fun v => v.category from funext fun v => mm_v_cat ad v]
    exact hst
  refine va_copyi hx hb (C.2.2.1.trans hls.1.symm) hown (hts _ hl) (hts _ hnt) (hts _ hs) (hts _ hi) hK hR.1 hR.2.1 hS (r1 - 1) (r2 - 1) t t (mm_at hR.2.2.1 h01 hm1 mm_nl) (mm_at hR.2.2.1 h02 hm2 mm_nl) ht ht hp h1 h2 h3 h4 h5 hft hdep hcs hd (fun H1 locs1 hP hD hS1 => ?_)
  exact h p e s mid args below meth c mc ms n0 ad0 ad A H1 locs1 cells slots ls C hA (by rw [mm_n_up h02]; exact hn) had (mm_put h02 hR hm2 mm_nl (x := .inl (G.2 t, n2, .inl (va_cpy f g sp.toNatClampNeg dp.toNatClampNeg n.toNatClampNeg))) trivial hP hD) hS1 hls (mm_lvu h02 hlc) (mm_stu h02 (mm_sd (mm_sd (mm_sd (mm_sd (mm_sd hsc)))))) hb1 hb2
end MMH
