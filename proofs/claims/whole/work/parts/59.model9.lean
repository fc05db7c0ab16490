/-! the model's reading: its leaves, the end, names alike -/
theorem le4_2 (f : Nat → Int32) (a : Nat) : le f a 4 = le f a 2 + 65536 * le f (a + 2) 2 := by
  rw [le_ub, le_ub2, le_ub2, show a + 2 + 1 = a + 3 from rfl]
  omega
section MO9
variable {l : Launch} {G : mm_G} {m : mm_Mem} {b : Nat} {S : St} {c0 : Int32} {hp ot : Nat} {c u tu k us9 : Int32} {t : Int32 × Int32 × Int32} {x : Int32 × Int32 × Int64 × Int32 × Int32} {A : Nat → Nat → Int32} {hf f D : Nat → Int32} {fs : List Value}
theorem s_M_two (h1 : m 336 = .inr (8, fs)) (k2 : fs[2]? = some (.ref 337)) (h2 : m 337 = aB G f) {a : Nat} (ha : a + 2 ≤ 65536) : mm_W l G k_M_two 0 (lv_args 0 [.ref 336, .long (lN a)]) [] b m (mm_is (.inl (some (.int (nI (le f a 2))))) m) := by
  refine t_M_two_0 h1 (by omega) k2 h2 (by omega) (by rw [lN_i]; exact vp_in_nI (by omega) (by omega)) (by rw [lN_i, nI_1]; exact vp_in_nI (by omega) (by omega)) ⟨?_, rfl⟩
  rw [lN_i, nI_1, nI_clamp (by omega), nI_clamp (by omega), ub_and, ub_and, show (256 : Int32) = nI 256 from rfl, nI_mul, nI_add, le_ub2]
theorem s_M_four (h1 : m 336 = .inr (8, fs)) (k2 : fs[2]? = some (.ref 337)) (h2 : m 337 = aB G f) {a : Nat} (ha : a + 4 ≤ 65536) : mm_W l G k_M_four 0 (lv_args 0 [.ref 336, .long (lN a)]) [] b m (mm_is (.inl (some (.long (lN (le f a 4))))) m) := by
  have hB := s_M_two (l := l) (b := 0) h1 k2 h2 (a := a + 2) (by omega)
  rw [← lN_add] at hB
  have l1 := le2 f a
  have l2 := le2 f (a + 2)
  refine t_M_four_0 (Nat.le_of_eq (Nat.zero_add _)) h1 (by omega) (s_M_two h1 k2 h2 (by omega)) (Nat.le_of_eq (Nat.zero_add _)) h1 hB ⟨?_, rfl⟩
  rw [nI_l (by omega), nI_l (by omega), show (65536 : Int64) = lN 65536 from rfl, lN_mul, lN_add, le4_2]
theorem s_M_twoI (h1 : m 336 = .inr (8, fs)) (k2 : fs[2]? = some (.ref 337)) (h2 : m 337 = aB G f) {a : Nat} (n : Nat) (ha : a + n + 2 ≤ 65536) : mm_W l G k_M_two 0 (lv_args 0 [.ref 336, .long ((nI a + nI n).toInt64)]) [] b m (mm_is (.inl (some (.int (nI (le f (a + n) 2))))) m) := by
  rw [nI_add, nI_l (by omega)]
  exact s_M_two h1 k2 h2 ha
theorem s_M_fourI (h1 : m 336 = .inr (8, fs)) (k2 : fs[2]? = some (.ref 337)) (h2 : m 337 = aB G f) {a : Nat} (n : Nat) (ha : a + n + 4 ≤ 65536) : mm_W l G k_M_four 0 (lv_args 0 [.ref 336, .long ((nI a + nI n).toInt64)]) [] b m (mm_is (.inl (some (.long (lN (le f (a + n) 4))))) m) := by
  rw [nI_add, nI_l (by omega)]
  exact s_M_four h1 k2 h2 ha
theorem s_M_twoL (h1 : m 336 = .inr (8, fs)) (k2 : fs[2]? = some (.ref 337)) (h2 : m 337 = aB G f) {a : Nat} (n : Nat) (ha : a + n + 2 ≤ 65536) : mm_W l G k_M_two 0 (lv_args 0 [.ref 336, .long (lN a + lN n)]) [] b m (mm_is (.inl (some (.int (nI (le f (a + n) 2))))) m) := by
  rw [lN_add]
  exact s_M_two h1 k2 h2 ha
theorem s_M_fourL (h1 : m 336 = .inr (8, fs)) (k2 : fs[2]? = some (.ref 337)) (h2 : m 337 = aB G f) {a : Nat} (n : Nat) (ha : a + n + 4 ≤ 65536) : mm_W l G k_M_four 0 (lv_args 0 [.ref 336, .long (lN a + lN n)]) [] b m (mm_is (.inl (some (.long (lN (le f (a + n) 4))))) m) := by
  rw [lN_add]
  exact s_M_four h1 k2 h2 ha
theorem s_M_wrong (h1 : m 336 = .inr (8, ML hp ot c u tu k us9 t x)) (w : Int32) {a : Nat} (ha : a < 4294967296) (e : Int32) : mm_W l G k_M_wrong 0 (lv_args 0 [.ref 336, .int w, .long (lN a), .int e]) [] b m (mm_is (.inl (some (.int 1))) (va_up m 336 (.inr (8, ML hp ot c u tu k us9 (w, nI (mn a), e) x)))) := by
  have hfin : ∀ y : Int64, y.toInt32 = nI (mn a) → mm_W l G k_M_wrong 21 [(0, .ref 336), (4, .int e)] [.long y, .ref 336] b (va_up m 336 (.inr (8, (ML hp ot c u tu k us9 t x).set 16 (.int w)))) (mm_is (.inl (some (.int 1))) (va_up m 336 (.inr (8, ML hp ot c u tu k us9 (w, nI (mn a), e) x)))) := by
    intro y hy
    refine t_M_wrong_21 up_s (by omega) (Nat.le_of_ble_eq_true rfl) up_s (by omega) (Nat.le_of_ble_eq_true rfl) ⟨rfl, ?_⟩ rfl
    rw [hy, up_uu, up_uu]
    rfl
  refine t_M_wrong_0 h1 (by omega) (Nat.le_of_ble_eq_true rfl) (fun z => t_M_wrong_20 (hfin _ ?_)) (fun z => t_M_wrong_14 (hfin _ ?_))
  · rw [lg_cmp_le, show (65536 : Int64) = lN 65536 from rfl, lN_leB (by omega) (by omega)] at z
    unfold mn
    rw [if_neg (by omega)]
    exact lN_i a
  · rw [lg_cmp_le, show (65536 : Int64) = lN 65536 from rfl, lN_leB (by omega) (by omega)] at z
    unfold mn
    rw [if_pos (by omega)]
    exact lN_i 65536
theorem adr {i v : Nat} (hi : i < 64) (hD : D i = nI v) (n : Nat) (hv : v + n < 2 ^ 30) : (D (nI i).toNatClampNeg + nI n).toInt64 = lN (v + n) := by
  rw [nI_clamp (by omega), hD, nI_add, nI_l (by omega)]
theorem s_M_flags (h1 : m 336 = .inr (8, fs)) (k2 : fs[2]? = some (.ref 337)) (k23 : fs[23]? = some (.ref 348)) (h2 : m 337 = aB G f) (h8 : m 348 = aI G D) {i v : Nat} (hi : i < 64) (hD : D i = nI v) (hv : v + 46 ≤ 65536) : mm_W l G k_M_flags 0 (lv_args 0 [.ref 336, .int (nI i)]) [] b m (mm_is (.inl (some (.int (nI (le f (v + 8) 2))))) m) := by
  have hM := s_M_two (l := l) (b := 0) h1 k2 h2 (a := v + 8) (by omega)
  rw [← adr hi hD 8 (by omega)] at hM
  exact t_M_flags_0 h1 (by omega) k23 h8 (by omega) (vp_in_nI (by omega) (by omega)) (Nat.le_of_eq (Nat.zero_add _)) hM ⟨rfl, rfl⟩
theorem s_M_method (h1 : m 336 = .inr (8, fs)) (k2 : fs[2]? = some (.ref 337)) (k23 : fs[23]? = some (.ref 348)) (h2 : m 337 = aB G f) (h8 : m 348 = aI G D) {i v : Nat} (hi : i < 64) (hD : D i = nI v) (hv : v + 46 ≤ 65536) : mm_W l G k_M_method 0 (lv_args 0 [.ref 336, .int (nI i)]) [] b m (mm_is (.inl (some (.int (nI (le f (v + 10) 2))))) m) := by
  have hM := s_M_two (l := l) (b := 0) h1 k2 h2 (a := v + 10) (by omega)
  rw [← adr hi hD 10 (by omega)] at hM
  exact t_M_method_0 h1 (by omega) k23 h8 (by omega) (vp_in_nI (by omega) (by omega)) (Nat.le_of_eq (Nat.zero_add _)) hM ⟨rfl, rfl⟩
theorem s_M_many (h1 : m 336 = .inr (8, fs)) (k2 : fs[2]? = some (.ref 337)) (k23 : fs[23]? = some (.ref 348)) (h2 : m 337 = aB G f) (h8 : m 348 = aI G D) {i v : Nat} (hi : i < 64) (hD : D i = nI v) (hv : v + 46 ≤ 65536) : mm_W l G k_M_many 0 (lv_args 0 [.ref 336, .int (nI i)]) [] b m (mm_is (.inl (some (.long (lN (le f (v + 20) 4))))) m) := by
  have hM := s_M_four (l := l) (b := 0) h1 k2 h2 (a := v + 20) (by omega)
  have e := adr hi hD 20 (by omega)
  have hM2 : mm_W l G k_M_four 0 (lv_args 0 [.ref 336, .long ((D (nI i).toNatClampNeg + nI 20).toInt64)]) [] 0 m (mm_is (.inl (some (.long (lN (le f (v + 20) 4))))) m) := by rw [e]; exact hM
  exact t_M_many_0 h1 (by omega) k23 h8 (by omega) (vp_in_nI (by omega) (by omega)) (Nat.le_of_eq (Nat.zero_add _)) hM2 ⟨rfl, rfl⟩
theorem s_M_size (h1 : m 336 = .inr (8, fs)) (k2 : fs[2]? = some (.ref 337)) (k23 : fs[23]? = some (.ref 348)) (h2 : m 337 = aB G f) (h8 : m 348 = aI G D) {i v : Nat} (hi : i < 64) (hD : D i = nI v) (hv : v + 46 ≤ 65536) : mm_W l G k_M_size 0 (lv_args 0 [.ref 336, .int (nI i)]) [] b m (mm_is (.inl (some (.long (lN (le f (v + 24) 4))))) m) := by
  have hM := s_M_four (l := l) (b := 0) h1 k2 h2 (a := v + 24) (by omega)
  have e := adr hi hD 24 (by omega)
  have hM2 : mm_W l G k_M_four 0 (lv_args 0 [.ref 336, .long ((D (nI i).toNatClampNeg + nI 24).toInt64)]) [] 0 m (mm_is (.inl (some (.long (lN (le f (v + 24) 4))))) m) := by rw [e]; exact hM
  exact t_M_size_0 h1 (by omega) k23 h8 (by omega) (vp_in_nI (by omega) (by omega)) (Nat.le_of_eq (Nat.zero_add _)) hM2 ⟨rfl, rfl⟩
theorem s_M_nameSize (h1 : m 336 = .inr (8, fs)) (k2 : fs[2]? = some (.ref 337)) (k23 : fs[23]? = some (.ref 348)) (h2 : m 337 = aB G f) (h8 : m 348 = aI G D) {i v : Nat} (hi : i < 64) (hD : D i = nI v) (hv : v + 46 ≤ 65536) : mm_W l G k_M_nameSize 0 (lv_args 0 [.ref 336, .int (nI i)]) [] b m (mm_is (.inl (some (.int (nI (le f (v + 28) 2))))) m) := by
  have hM := s_M_two (l := l) (b := 0) h1 k2 h2 (a := v + 28) (by omega)
  rw [← adr hi hD 28 (by omega)] at hM
  exact t_M_nameSize_0 h1 (by omega) k23 h8 (by omega) (vp_in_nI (by omega) (by omega)) (Nat.le_of_eq (Nat.zero_add _)) hM ⟨rfl, rfl⟩
/-- the check that a head in the directory tells -/
theorem s_M_dck (h1 : m 336 = .inr (8, fs)) (k2 : fs[2]? = some (.ref 337)) (h2 : m 337 = aB G f) {i v : Nat} (hi : i < 64) (hD : D i = nI v) (hv : v + 46 ≤ 65536) : mm_W l G k_M_four 0 (lv_args 0 [.ref 336, .long ((D (nI i).toNatClampNeg + 16).toInt64)]) [] b m (mm_is (.inl (some (.long (lN (le f (v + 16) 4))))) m) := by
  have e := adr hi hD 16 (by omega)
  rw [show (16 : Int32) = nI 16 from rfl, e]
  exact s_M_four h1 k2 h2 (by omega)
theorem s_M_sameName (h1 : m 336 = .inr (8, fs)) (k2 : fs[2]? = some (.ref 337)) (k23 : fs[23]? = some (.ref 348)) (h2 : m 337 = aB G f) (h8 : m 348 = aI G D) {i j v w : Nat} (hi : i < 64) (hj : j < 64) (hv : D i = nI v) (hw : D j = nI w) (bv : v + 46 + le f (v + 28) 2 ≤ 65536) (bw : w + 46 + le f (w + 28) 2 ≤ 65536) : mm_W l G k_M_sameName 0 (lv_args 0 [.ref 336, .int (nI i), .int (nI j)]) [] b m (mm_is (.inl (some (.int (bp (alk (le f (w + 28) 2) (fun q => ub (f (w + 46 + q))) (le f (v + 28) 2) (fun q => ub (f (v + 46 + q))) = true))))) m) := by
  have hsm : ∀ x, x < 256 → sm x < 1000 := fun x hx => by unfold sm; split <;> omega
  have l1 := le2 f (v + 28)
  have l2 := le2 f (w + 28)
  have ea : ∀ {i v : Nat}, i < 64 → D i = nI v → D (nI i).toNatClampNeg + 46 = nI (v + 46) := by
    intro i v hi hD
    rw [nI_clamp (by omega), hD, show (46 : Int32) = nI 46 from rfl, nI_add]
  have L : ∀ r q (sa : Prop), q + r = le f (v + 28) 2 → (sa ↔ (le f (w + 28) 2 = le f (v + 28) 2 ∧ ∀ e, e < q → sm (ub (f (w + 46 + e))) = sm (ub (f (v + 46 + e))))) → mm_W l G k_M_sameName 22 [(0, .ref 336), (1, .int (nI i)), (2, .int (nI j)), (3, .int (bp sa)), (4, .int (nI q))] [] b m (mm_is (.inl (some (.int (bp (alk (le f (w + 28) 2) (fun q => ub (f (w + 46 + q))) (le f (v + 28) 2) (fun q => ub (f (v + 46 + q))) = true))))) m) := by
    intro r
    induction r with
    | zero =>
      intro q sa hq hsa
      have e1 : sa ↔ alk (le f (w + 28) 2) (fun q => ub (f (w + 46 + q))) (le f (v + 28) 2) (fun q => ub (f (v + 46 + q))) = true := by
        rw [hsa]
        unfold alk
        rw [decide_eq_true_iff, show q = le f (v + 28) 2 by omega]
      rw [bp_iff e1]
      refine t_M_sameName_22 (Nat.le_of_eq (Nat.zero_add _)) h1 (by omega) (s_M_nameSize h1 k2 k23 h2 h8 hi hv (by omega)) (fun _ => t_M_sameName_87 ⟨rfl, rfl⟩ (bp_nar _)) (fun z => absurd (nI_le (by omega) (by omega)) z)
    | succ r ih =>
      intro q sa hq hsa
      refine t_M_sameName_22 (Nat.le_of_eq (Nat.zero_add _)) h1 (by omega) (s_M_nameSize h1 k2 k23 h2 h8 hi hv (by omega)) (fun z => absurd z (nI_ge (by omega) (by omega))) (fun _ => t_M_sameName_32 (fun z => ?_) (fun z => ?_))
      · have z := bp_0.mp z
        have e1 : ¬ alk (le f (w + 28) 2) (fun q => ub (f (w + 46 + q))) (le f (v + 28) 2) (fun q => ub (f (v + 46 + q))) = true := by
          unfold alk
          rw [decide_eq_true_iff]
          exact fun q => z (hsa.mpr ⟨q.1, fun j hj => q.2 j (by omega)⟩)
        rw [bp_f e1, bp_f z]
        exact t_M_sameName_87 ⟨rfl, rfl⟩ rfl
      · have z := hsa.mp (bp_n0 z)
        have hA := nameR (l := l) (b := 0) h1 k2 h2 (a := v + 46) (j := q) (by omega)
        have hB := nameR (l := l) (b := 0) h1 k2 h2 (a := w + 46) (j := q) (by omega)
        rw [← ea hi hv] at hA
        rw [← ea hj hw] at hB
        have b1 := ub_lt (f (v + 46 + q))
        have b2 := ub_lt (f (w + 46 + q))
        have s1 := hsm _ b1
        have s2 := hsm _ b2
        refine t_M_sameName_36 h1 (by omega) k23 h8 (by omega) (vp_in_nI (by omega) (by omega)) (Nat.le_of_eq (Nat.zero_add _)) hA (Nat.le_of_eq (Nat.zero_add _)) (s_M_small (by omega)) h1 k23 h8 (by omega) (vp_in_nI (by omega) (by omega)) (Nat.le_of_eq (Nat.zero_add _)) hB (Nat.le_of_eq (Nat.zero_add _)) (s_M_small (by omega)) (fun w1 => ?_) (fun w1 => ?_)
        · have w1 : ¬ sm (ub (f (v + 46 + q))) = sm (ub (f (w + 46 + q))) := fun e => w1 (by rw [e])
          refine t_M_sameName_79 (t_M_sameName_80 ?_)
          rw [nI_1]
          have h := ih (q + 1) False (by omega) ⟨False.elim, fun e => w1 (e.2 q (by omega)).symm⟩
          rw [bp_f (fun q => q)] at h
          exact h
        · have w1 : sm (ub (f (v + 46 + q))) = sm (ub (f (w + 46 + q))) := (nI_eq (by omega) (by omega)).mp w1
          refine t_M_sameName_75 (t_M_sameName_80 ?_)
          rw [nI_1]
          have h := ih (q + 1) True (by omega) ⟨fun _ => ⟨z.1, fun e he => by
            by_cases g : e = q
            · rw [g]; exact w1.symm
            · exact z.2 e (by omega)⟩, fun _ => trivial⟩
          rw [bp_t trivial] at h
          exact h
  have hend : ∀ sa : Prop, (sa ↔ le f (w + 28) 2 = le f (v + 28) 2) → mm_W l G k_M_sameName 18 [(0, .ref 336), (1, .int (nI i)), (2, .int (nI j))] [.int (bp sa)] b m (mm_is (.inl (some (.int (bp (alk (le f (w + 28) 2) (fun q => ub (f (w + 46 + q))) (le f (v + 28) 2) (fun q => ub (f (v + 46 + q))) = true))))) m) := by
    intro sa hsa
    exact t_M_sameName_18 (L (le f (v + 28) 2) 0 sa (by omega) ⟨fun q => ⟨hsa.mp q, fun e he => absurd he (by omega)⟩, fun q => hsa.mpr q.1⟩)
  refine t_M_sameName_0 (Nat.le_of_eq (Nat.zero_add _)) h1 (by omega) (s_M_nameSize h1 k2 k23 h2 h8 hi hv (by omega)) (Nat.le_of_eq (Nat.zero_add _)) h1 (s_M_nameSize h1 k2 k23 h2 h8 hj hw (by omega)) (fun z => ?_) (fun z => ?_)
  · have h := hend False ⟨False.elim, fun q => z (by rw [q])⟩
    rw [bp_f (fun q => q)] at h
    exact t_M_sameName_17 h
  · have z := (nI_eq (by omega) (by omega)).mp z
    have h := hend True ⟨fun _ => z.symm, fun _ => trivial⟩
    rw [bp_t trivial] at h
    exact t_M_sameName_13 h
/-- findEnd -/
theorem s_M_findEnd {U : Nat} (h1 : m 336 = .inr (8, ML hp ot c (nI U) tu k us9 t x)) (h2 : m 337 = aB G f) (hU : U ≤ 65536) : mm_W l G k_M_findEnd 0 (lv_args 0 [.ref 336]) [] b m (fun v m2 => (∀ a, a ≠ 336 → m2 a = m a) ∧ ((∃ (r : Int32 × Int32 × Int32) (y : Int32 × Int64 × Int32), ((lend f U (U - 21) = none ∧ r = (1, nI U, -1)) ∨ ∃ p, lend f U (U - 21) = some p ∧ ebad f p ∧ r = (2, nI p, -1)) ∧ v = .inl (some (.int 1)) ∧ m2 336 = .inr (8, ML hp ot c (nI U) tu k us9 r (x.1, y.1, y.2.1, y.2.2, x.2.2.2.2))) ∨ ∃ p, lend f U (U - 21) = some p ∧ ¬ ebad f p ∧ v = .inl (some (.int 0)) ∧ m2 336 = .inr (8, ML hp ot c (nI U) tu k us9 t (x.1, nI p, lN (le f (p + 16) 4), nI (le f (p + 10) 2), x.2.2.2.2)))) := by
  generalize hQ : (fun (v : mm_O) (m2 : mm_Mem) => (∀ a, a ≠ 336 → m2 a = m a) ∧ ((∃ (r : Int32 × Int32 × Int32) (y : Int32 × Int64 × Int32), ((lend f U (U - 21) = none ∧ r = (1, nI U, -1)) ∨ ∃ p, lend f U (U - 21) = some p ∧ ebad f p ∧ r = (2, nI p, -1)) ∧ v = .inl (some (.int 1)) ∧ m2 336 = .inr (8, ML hp ot c (nI U) tu k us9 r (x.1, y.1, y.2.1, y.2.2, x.2.2.2.2))) ∨ ∃ p, lend f U (U - 21) = some p ∧ ¬ ebad f p ∧ v = .inl (some (.int 0)) ∧ m2 336 = .inr (8, ML hp ot c (nI U) tu k us9 t (x.1, nI p, lN (le f (p + 16) 4), nI (le f (p + 10) 2), x.2.2.2.2)))) = Q
  have hneg : ∀ M (ep : Int32), ep < 0 → lend f U (U - 21) = none → M 336 = .inr (8, ML hp ot c (nI U) tu k us9 t (x.1, ep, x.2.2.1, x.2.2.2.1, x.2.2.2.2)) → (∀ a, a ≠ 336 → M a = m a) → mm_W l G k_M_findEnd 11 [(0, .ref 336)] [] b M Q := by
    intro M ep hep hl e1 eO
    have hW := s_M_wrong (l := l) (G := G) (b := 0) e1 1 (a := U) (by omega) (-1)
    rw [← nI_l (by omega)] at hW
    refine t_M_findEnd_11 e1 (by omega) rfl (fun _ => t_M_findEnd_74 e1 (by omega) rfl (fun z => absurd hep (i_nlt.mpr z)) (fun _ => t_M_findEnd_81 e1 (by omega) rfl (Nat.le_of_eq (Nat.zero_add _)) hW ?_ rfl)) (fun z => absurd hep z)
    rw [← hQ]
    refine ⟨fun a ha => (up_n ha).trans (eO a ha), Or.inl ⟨(1, nI U, -1), (ep, x.2.2.1, x.2.2.2.1), Or.inl ⟨hl, rfl⟩, rfl, ?_⟩⟩
    rw [up_s, show mn U = U by unfold mn; rw [if_neg (by omega)]]
  have hgood : ∀ M p, p + 22 ≤ U → lend f U (U - 21) = some p → M 336 = .inr (8, ML hp ot c (nI U) tu k us9 t (x.1, nI p, x.2.2.1, x.2.2.2.1, x.2.2.2.2)) → (∀ a, a ≠ 336 → M a = m a) → mm_W l G k_M_findEnd 74 [(0, .ref 336)] [] b M Q := by
    intro M p hp22 hl e1 eO
    refine t_M_findEnd_74 e1 (by omega) rfl (fun _ => ?_) (fun z => absurd (nI_pos' (by omega)) z)
    have e2 := (eO 337 (by omega)).trans h2
    have l8 := le2 f (p + 8)
    have l10 := le2 f (p + 10)
    have l4 := le2 f (p + 4)
    have l6 := le2 f (p + 6)
    have l16 := le4 f (p + 16)
    have l12 := le4 f (p + 12)
    have e44 := le4_2 f (p + 4)
    rw [show p + 4 + 2 = p + 6 from rfl] at e44
    have hbad : ∀ M, ebad f p → M 336 = .inr (8, ML hp ot c (nI U) tu k us9 t (x.1, nI p, lN (le f (p + 16) 4), nI (le f (p + 8) 2), x.2.2.2.2)) → (∀ a, a ≠ 336 → M a = m a) → mm_W l G k_M_findEnd 208 [(0, .ref 336)] [] b M Q := by
      intro M hb e1 eO
      have hW := s_M_wrong (l := l) (G := G) (b := 0) e1 2 (a := p) (by omega) (-1)
      rw [← nI_l (by omega)] at hW
      refine t_M_findEnd_208 (t_M_findEnd_213 (fun z => absurd z (by decide)) (fun _ => t_M_findEnd_218 e1 (by omega) rfl (Nat.le_of_eq (Nat.zero_add _)) hW (fun z => absurd z (by decide)) (fun _ => t_M_findEnd_232 (t_M_findEnd_237 ?_ rfl))))
      rw [← hQ]
      refine ⟨fun a ha => (up_n ha).trans (eO a ha), Or.inl ⟨(2, nI p, -1), (nI p, lN (le f (p + 16) 4), nI (le f (p + 8) 2)), Or.inr ⟨p, hl, hb, rfl⟩, rfl, ?_⟩⟩
      rw [up_s, show mn p = p by unfold mn; rw [if_neg (by omega)]]
    have hrest : ∀ M, M 336 = .inr (8, ML hp ot c (nI U) tu k us9 t (x.1, nI p, lN (le f (p + 16) 4), nI (le f (p + 8) 2), x.2.2.2.2)) → (∀ a, a ≠ 336 → M a = m a) → le f (p + 4) 2 = 0 → mm_W l G k_M_findEnd 139 [(0, .ref 336)] [] b M Q := by
      intro M e1 eO z4
      have e2 := (eO 337 (by omega)).trans h2
      refine t_M_findEnd_139 e1 (by omega) rfl (Nat.le_of_eq (Nat.zero_add _)) (s_M_twoI e1 rfl e2 6 (by omega)) (fun z => hbad M (Or.inl (fun q => z ?_)) e1 eO) (fun z => ?_)
      · rw [show le f (p + 6) 2 = 0 by omega]
        rfl
      · have z6 : le f (p + 6) 2 = 0 := (nI_eq (b := 0) (by omega) (by omega)).mp z
        refine t_M_findEnd_154 e1 (by omega) rfl (Nat.le_of_eq (Nat.zero_add _)) (s_M_twoI e1 rfl e2 10 (by omega)) e1 rfl (fun z => hbad M (Or.inr (Or.inl (fun q => z (by rw [q])))) e1 eO) (fun z => ?_)
        have z10 : le f (p + 10) 2 = le f (p + 8) 2 := (nI_eq (by omega) (by omega)).mp z
        refine t_M_findEnd_173 e1 (by omega) rfl (fun z => hbad M (Or.inr (Or.inr (Or.inl ?_))) e1 eO) (fun z => ?_)
        · rw [z10]
          exact (nI_ltI (a := 64) (by omega) (by omega)).mp z
        · have z64 : ¬ 64 < le f (p + 8) 2 := fun q => z ((nI_ltI (a := 64) (by omega) (by omega)).mpr q)
          refine t_M_findEnd_182 e1 (by omega) rfl rfl (Nat.le_of_eq (Nat.zero_add _)) (s_M_fourI e1 rfl e2 12 (by omega)) e1 rfl (fun z => ?_) (fun z => hbad M (Or.inr (Or.inr (Or.inr (fun q => z ?_)))) e1 eO)
          · rw [lg_cmp_eq, lN_add, nI_l (by omega), lN_eqB (by omega) (by omega)] at z
            refine t_M_findEnd_212 (t_M_findEnd_213 (fun _ => t_M_findEnd_236 (t_M_findEnd_237 ?_ rfl)) (fun z => absurd rfl z))
            rw [← hQ]
            refine ⟨eO, Or.inr ⟨p, hl, ?_, rfl, ?_⟩⟩
            · unfold ebad
              omega
            · rw [e1, z10]
          · rw [lg_cmp_eq, lN_add, nI_l (by omega), lN_eqB (by omega) (by omega)]
            exact q
    refine t_M_findEnd_93 e1 (by omega) rfl (Nat.le_of_eq (Nat.zero_add _)) (s_M_twoI e1 rfl e2 8 (by omega)) e1 (Nat.le_of_ble_eq_true rfl) up_s rfl (Nat.le_of_eq (Nat.zero_add _)) (s_M_fourI up_s rfl ((up_n (by omega)).trans e2) 16 (by omega)) up_s (Nat.le_of_ble_eq_true rfl) up_s rfl (Nat.le_of_eq (Nat.zero_add _)) (s_M_twoI up_s rfl ((up_n (by omega)).trans ((up_n (by omega)).trans e2)) 4 (by omega)) (fun z => hbad _ (Or.inl (fun q => z ?_)) up_s (fun a ha => (up_n ha).trans ((up_n ha).trans (eO a ha)))) (fun z => hrest _ up_s (fun a ha => (up_n ha).trans ((up_n ha).trans (eO a ha))) ((nI_eq (b := 0) (by omega) (by omega)).mp z))
    rw [show le f (p + 4) 2 = 0 by omega]
    rfl
  have L : ∀ n M, n ≤ U - 21 → lend f U (U - 21) = lend f U n → M 336 = .inr (8, ML hp ot c (nI U) tu k us9 t (x.1, nI n - 1, x.2.2.1, x.2.2.2.1, x.2.2.2.2)) → (∀ a, a ≠ 336 → M a = m a) → mm_W l G k_M_findEnd 11 [(0, .ref 336)] [] b M Q := by
    intro n
    induction n with
    | zero =>
      intro M hn hl e1 eO
      exact hneg M (nI 0 - 1) (by decide) hl e1 eO
    | succ n ih =>
      intro M hn hl e1 eO
      rw [nI_pred] at e1
      have e2 := (eO 337 (by omega)).trans h2
      have l1 := le4 f n
      have l2 := le2 f (n + 20)
      have hgo : ¬ (le f n 4 = 101010256 ∧ n + 22 + le f (n + 20) 2 = U) → mm_W l G k_M_findEnd 61 [(0, .ref 336)] [] b M Q := by
        intro hz
        refine t_M_findEnd_61 e1 (by omega) rfl (Nat.le_of_ble_eq_true rfl) (ih _ (by omega) ?_ up_s (fun a ha => (up_n ha).trans (eO a ha)))
        rw [hl, lend, ifc_f hz]
      have hM := s_M_four (l := l) (b := 0) e1 rfl e2 (a := n) (by omega)
      rw [← nI_l (show n < 2 ^ 31 by omega)] at hM
      refine t_M_findEnd_11 e1 (by omega) rfl (fun z => absurd z (i_nlt.mpr (nI_pos' (by omega)))) (fun _ => t_M_findEnd_18 e1 (by omega) rfl (Nat.le_of_eq (Nat.zero_add _)) hM (fun z => hgo (fun q => z ?_)) (fun z => ?_))
      · rw [lg_cmp_eq, q.1]
        rfl
      · rw [lg_cmp_eq, show (101010256 : Int64) = lN 101010256 from rfl, lN_eqB (by omega) (by omega)] at z
        refine t_M_findEnd_34 e1 (by omega) rfl (Nat.le_of_eq (Nat.zero_add _)) (s_M_twoI e1 rfl e2 20 (by omega)) e1 rfl (fun y => ?_) (fun y => hgo (fun q => y ?_))
        · rw [show (22 : Int32) = nI 22 from rfl, nI_add, nI_add, nI_eq (by omega) (by omega)] at y
          exact hgood M n (by omega) (by rw [hl, lend, ifc_t ⟨z, y⟩]) e1 eO
        · rw [show (22 : Int32) = nI 22 from rfl, nI_add, nI_add, q.2]
  refine t_M_findEnd_0 h1 (by omega) rfl (Nat.le_of_ble_eq_true rfl) ?_
  by_cases hU22 : U < 22
  · refine hneg _ (nI U - 22) ?_ (by rw [show U - 21 = 0 by omega]; rfl) up_s (fun a ha => up_n ha)
    have : ∀ n : Nat, n < 22 → nI n - 22 < 0 := by decide +kernel
    exact this U hU22
  · have e : nI U - 22 = nI (U - 21) - 1 := by
      rw [show U - 21 = (U - 22) + 1 by omega, nI_pred]
      exact pk_sub (b := 22) (by omega)
    rw [e]
    exact L (U - 21) _ (Nat.le_refl _) rfl up_s (fun a ha => up_n ha)
end MO9
