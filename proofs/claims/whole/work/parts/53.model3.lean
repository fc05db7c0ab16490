/-! the model's methods: finding, type, looks at entries -/
theorem nI_mul (a b : Nat) : nI a * nI b = nI (a * b) := (Int32.ofNat_mul a b).symm
theorem nI_64 (a b : Nat) : 64 * nI a + nI b = nI (64 * a + b) := by
  rw [show (64 : Int32) = nI 64 from rfl, nI_mul, nI_add]
section MO3
variable {l : Launch} {G : mm_G} {m : mm_Mem} {b : Nat} {S : St} {c0 : Int32} {hp ot : Nat} {x : Int32 × Int32 × Int64 × Int32 × Int32} {A : Nat → Nat → Int32} {hf : Nat → Int32}
theorem L_M_findIn (W : MW G m S c0 hp ot x A hf) {e : Nat} (he : e < S.2.2.1.1) {Q : mm_O → mm_Mem → Prop} (H : mm_W l G k_M_findName 81 [(0, .ref 336), (1, .int (nI e)), (2, .int (bp (alk (S.2.2.1.2 e).1.2 (S.2.2.1.2 e).1.1 S.2.1.2 S.2.1.1 = true)))] [] b m Q) : ∀ w k (sa : Prop), k + w = S.2.1.2 → (sa ↔ ((S.2.2.1.2 e).1.2 = S.2.1.2 ∧ ∀ j, j < k → sm ((S.2.2.1.2 e).1.1 j) = sm (S.2.1.1 j))) → mm_W l G k_M_findName 31 [(0, .ref 336), (1, .int (nI e)), (2, .int (bp sa)), (3, .int (nI k))] [] b m Q := by
  obtain ⟨h1, h2, h3, ⟨n1, n2, -⟩, hB, hS⟩ := W
  have hk := hB.2.1
  obtain ⟨q1, q2, q3, -⟩ := hB.1 e he
  have htu := hS.2.1
  have hsm : ∀ x, x < 256 → sm x < 1000 := fun x hx => by unfold sm; split <;> omega
  intro w
  induction w with
  | zero =>
    intro k sa hkw hsa
    have hkt : k = S.2.1.2 := by omega
    subst hkt
    have e1 : sa ↔ alk (S.2.2.1.2 e).1.2 (S.2.2.1.2 e).1.1 S.2.1.2 S.2.1.1 = true := by
      rw [hsa]
      unfold alk
      rw [decide_eq_true_iff]
    rw [bp_iff e1]
    exact t_M_findName_31 h1 (by omega) rfl (fun _ => H) (fun z => absurd (nI_le (Nat.le_refl _) (by omega)) z)
  | succ w ih =>
    intro k sa hkw hsa
    refine t_M_findName_31 h1 (by omega) rfl (fun z => absurd z (nI_ge (by omega) (by omega))) (fun _ => ?_)
    refine t_M_findName_39 (fun z => ?_) (fun z => ?_)
    · have z := bp_0.mp z
      have e1 : ¬ alk (S.2.2.1.2 e).1.2 (S.2.2.1.2 e).1.1 S.2.1.2 S.2.1.1 = true := by
        unfold alk
        rw [decide_eq_true_iff]
        exact fun q => z (hsa.mpr ⟨q.1, fun j hj => q.2 j (by omega)⟩)
      rw [bp_f e1] at H
      rw [bp_f z]
      exact H
    · have z := hsa.mp (bp_n0 z)
      obtain ⟨r1, r2⟩ := q3 k (by omega)
      have r3 := hS.2.2.1 k
      have hM1 := s_M_small (l := l) (G := G) (b := 0) (m := m) (x := (S.2.2.1.2 e).1.1 k) (by omega)
      rw [← r1] at hM1
      have ea : (64 * nI e + nI k).toNatClampNeg = 64 * e + k := by rw [nI_64, nI_clamp (by omega)]
      rw [← ea] at hM1
      have hM2 := s_M_small (l := l) (G := G) (b := 0) (m := m) (x := S.2.1.1 k) (by omega)
      have eb : nI (S.2.1.1 k) = (fun j => nI (S.2.1.1 j)) (nI k).toNatClampNeg := by
        show _ = nI (S.2.1.1 (nI k).toNatClampNeg)
        rw [nI_clamp (by omega)]
      rw [eb] at hM2
      have s1 := hsm _ (show (S.2.2.1.2 e).1.1 k < 256 by omega)
      have s2 := hsm _ (show S.2.1.1 k < 256 by omega)
      refine t_M_findName_43 h1 (by omega) rfl n1 (by omega) (by rw [nI_64]; exact vp_in_nI (by omega) (by omega)) (Nat.le_of_eq (Nat.zero_add _)) hM1 h1 rfl h3 (by omega) (vp_in_nI (by omega) (by omega)) (Nat.le_of_eq (Nat.zero_add _)) hM2 (fun w1 => ?_) (fun w1 => ?_)
      · have w1 : ¬ sm ((S.2.2.1.2 e).1.1 k) = sm (S.2.1.1 k) := fun q => w1 (by rw [q])
        refine t_M_findName_73 (t_M_findName_74 ?_)
        rw [nI_1]
        have h := ih (k + 1) False (by omega) ⟨False.elim, fun q => w1 (q.2 k (by omega))⟩
        rw [bp_f (fun q => q)] at h
        exact h
      · have w1 : sm ((S.2.2.1.2 e).1.1 k) = sm (S.2.1.1 k) := (nI_eq (by omega) (by omega)).mp w1
        refine t_M_findName_69 (t_M_findName_74 ?_)
        rw [nI_1]
        have h := ih (k + 1) True (by omega) ⟨fun _ => ⟨z.1, fun j hj => by
          by_cases q : j = k
          · rw [q]; exact w1
          · exact z.2 j (by omega)⟩, fun _ => trivial⟩
        rw [bp_t trivial] at h
        exact h
theorem L_M_findName (W : MW G m S c0 hp ot x A hf) : ∀ w e, e + w = S.2.2.1.1 → mm_W l G k_M_findName 2 [(0, .ref 336), (1, .int (nI e))] [] b m (mm_is (.inl (some (.int (nof (fun i => alk (S.2.2.1.2 i).1.2 (S.2.2.1.2 i).1.1 S.2.1.2 S.2.1.1) w e)))) m) := by
  have W0 := W
  obtain ⟨h1, h2, h3, ⟨n1, n2, -⟩, hB, hS⟩ := W0
  have hk := hB.2.1
  have htu := hS.2.1
  intro w
  induction w with
  | zero =>
    intro e he
    exact t_M_findName_2 h1 (by omega) rfl (fun _ => t_M_findName_93 ⟨rfl, rfl⟩) (fun z => absurd (nI_le (by omega) (by omega)) z)
  | succ w ih =>
    intro e he
    refine t_M_findName_2 h1 (by omega) rfl (fun z => absurd z (nI_ge (by omega) (by omega))) (fun _ => ?_)
    obtain ⟨q1, q2, q3, -⟩ := hB.1 e (by omega)
    have H : mm_W l G k_M_findName 81 [(0, .ref 336), (1, .int (nI e)), (2, .int (bp (alk (S.2.2.1.2 e).1.2 (S.2.2.1.2 e).1.1 S.2.1.2 S.2.1.1 = true)))] [] b m (mm_is (.inl (some (.int (nof (fun i => alk (S.2.2.1.2 i).1.2 (S.2.2.1.2 i).1.1 S.2.1.2 S.2.1.1) (w + 1) e)))) m) := by
      refine t_M_findName_81 (fun z => ?_) (fun z => ?_)
      · have z := Bool.eq_false_iff.mpr (bp_0.mp z)
        refine t_M_findName_87 ?_
        rw [nI_1]
        simp only [nof, z, if_false, Bool.false_eq_true]
        exact ih (e + 1) (by omega)
      · have z := bp_n0 z
        refine t_M_findName_85 ⟨?_, rfl⟩
        simp only [nof, z, if_true]
    have ec : (nI e).toNatClampNeg = e := nI_clamp (by omega)
    refine t_M_findName_10 h1 (by omega) rfl (n2 340 (by omega) (by omega)) (by omega) (vp_in_nI (by omega) (by omega)) rfl (fun z => ?_) (fun z => ?_)
    · rw [ec, q1] at z
      have z : ¬ (S.2.2.1.2 e).1.2 = S.2.1.2 := fun q => z (by rw [q])
      have h := L_M_findIn W (show e < S.2.2.1.1 by omega) H S.2.1.2 0 False (by omega) ⟨False.elim, fun q => z q.1⟩
      rw [bp_f (fun q => q)] at h
      exact t_M_findName_27 (t_M_findName_28 h)
    · rw [ec, q1] at z
      have z : (S.2.2.1.2 e).1.2 = S.2.1.2 := (nI_eq (by omega) (by omega)).mp z
      have h := L_M_findIn W (show e < S.2.2.1.1 by omega) H S.2.1.2 0 True (by omega) ⟨fun _ => ⟨z, fun j hj => absurd hj (by omega)⟩, fun _ => trivial⟩
      rw [bp_t trivial] at h
      exact t_M_findName_23 (t_M_findName_28 h)
theorem s_M_findName (W : MW G m S c0 hp ot x A hf) : mm_W l G k_M_findName 0 (lv_args 0 [.ref 336]) [] b m (mm_is (.inl (some (.int (fnd S)))) m) :=
  t_M_findName_0 (L_M_findName W S.2.2.1.1 0 (by omega))
theorem m_find (h : MP G m S c0) : MO l G k_M_find [] b m false (o_find S) := by
  obtain ⟨hp, ot, x, A, hf, W⟩ := h
  have W2 := MW_h W 0 S.2.2.2 x
  exact t_M_find_0 W.1 (by omega) (Nat.le_of_ble_eq_true rfl) (Nat.le_of_eq (Nat.zero_add _)) up_s (s_M_findName W2) ⟨rfl, MO_c W 0⟩
theorem s_M_noEntry (W : MW G m S c0 hp ot x A hf) (y : Int32) : mm_W l G k_M_noEntry 0 (lv_args 0 [.ref 336, .int y]) [] b m (mm_is (.inl (some (.int (bp (¬ hs y S.2.2.1.1))))) m) := by
  refine t_M_noEntry_0 (fun z => ?_) (fun z => t_M_noEntry_4 W.1 (by omega) rfl (fun w => ?_) (fun w => ?_))
  · refine t_M_noEntry_12 (t_M_noEntry_17 ⟨?_, rfl⟩ rfl)
    rw [bp_t (fun q => q.1 z)]
  · refine t_M_noEntry_16 (t_M_noEntry_17 ⟨?_, rfl⟩ rfl)
    rw [bp_f (fun q => q ⟨z, i_nle.mpr w⟩)]
  · refine t_M_noEntry_12 (t_M_noEntry_17 ⟨?_, rfl⟩ rfl)
    rw [bp_t (fun q => q.2 (i_nlt.mp w))]
theorem m_blame (h : MP G m S c0) (y : Int32) : MO l G k_M_blame [.int y] b m false (o_blame S y) := by
  obtain ⟨hp, ot, x, A, hf, W⟩ := h
  have hno : (y < 0 ∨ 2 < y) → mm_W l G k_M_blame 10 [(0, .ref 336), (1, .int y)] [.ref 336] b m (fun v m2 => v = .inl (some (.int (o_blame S y).2.1)) ∧ FR 336 352 m m2 ∧ MP G m2 (o_blame S y).2.2 (nI (o_blame S y).1)) := by
    intro q
    have hr : o_blame S y = (1, 0, S) := if_pos q
    rw [hr]
    exact t_M_blame_10 (t_M_blame_15 W.1 (by omega) (Nat.le_of_ble_eq_true rfl) up_s (by omega) rfl (fun z => absurd z (by decide)) (fun _ => t_M_blame_25 ⟨rfl, MO_c W 1⟩))
  refine t_M_blame_0 (fun z => hno (Or.inl z)) (fun z => t_M_blame_5 (fun w => ?_) (fun w => hno (Or.inr (i_nle.mp w))))
  have hr : o_blame S y = (0, (if y = 0 then S.2.2.2.1 else if y = 1 then S.2.2.2.2.1 else S.2.2.2.2.2), S) := if_neg (by rintro (q | q); exact z q; exact i_nlt.mpr w q)
  rw [hr]
  refine t_M_blame_14 (t_M_blame_15 W.1 (by omega) (Nat.le_of_ble_eq_true rfl) up_s (by omega) rfl (fun _ => ?_) (fun z => absurd (by decide) z))
  refine t_M_blame_27 (fun z1 => ?_) (fun z1 => ?_)
  · rw [if_neg z1]
    refine t_M_blame_38 (fun z2 => ?_) (fun z2 => ?_)
    · rw [if_neg z2]
      exact t_M_blame_50 up_s (by omega) rfl (t_M_blame_54 ⟨rfl, MO_c W 0⟩)
    · rw [if_pos z2]
      exact t_M_blame_43 up_s (by omega) rfl (t_M_blame_54 ⟨rfl, MO_c W 0⟩)
  · rw [if_pos z1]
    exact t_M_blame_31 up_s (by omega) rfl (t_M_blame_54 ⟨rfl, MO_c W 0⟩)
theorem m_about (h : MP G m S c0) (y w : Int32) : MO l G k_M_about [.int y, .int w] b m false (o_about S y w) := by
  obtain ⟨hp, ot, x, A, hf, W⟩ := h
  have hB := W.2.2.2.2.1
  have hk := hB.2.1
  refine t_M_about_0 (Nat.le_of_eq (Nat.zero_add _)) W.1 (by omega) (s_M_noEntry W y) (fun z => ?_) (fun z => ?_)
  · have z := Classical.not_not.mp (bp_0.mp z)
    have hr2 : o_about S y w = if w < 0 ∨ 4 < w then (2, 0, S) else (0, abt (S.2.2.1.2 y.toNatClampNeg) w, S) := if_pos z
    have hno : (w < 0 ∨ 4 < w) → mm_W l G k_M_about 22 [(0, .ref 336), (1, .int y), (2, .int w)] [.ref 336] b m (fun v m2 => v = .inl (some (.int (o_about S y w).2.1)) ∧ FR 336 352 m m2 ∧ MP G m2 (o_about S y w).2.2 (nI (o_about S y w).1)) := by
      intro q
      have hr : o_about S y w = (2, 0, S) := by rw [hr2, if_pos q]
      rw [hr]
      exact t_M_about_22 (t_M_about_27 W.1 (by omega) (Nat.le_of_ble_eq_true rfl) up_s (by omega) rfl (fun z => absurd z (by decide)) (fun _ => t_M_about_37 ⟨rfl, MO_c W 2⟩))
    refine t_M_about_13 (fun z1 => hno (Or.inl z1)) (fun z1 => t_M_about_17 (fun z2 => ?_) (fun z2 => hno (Or.inr (i_nle.mp z2))))
    have hr : o_about S y w = (0, abt (S.2.2.1.2 y.toNatClampNeg) w, S) := by rw [hr2, if_neg (by rintro (q | q); exact z1 q; exact i_nlt.mpr z2 q)]
    rw [hr]
    obtain ⟨i, hi, rfl⟩ := hs_nat (by omega) z
    obtain ⟨q1, q2, q3, q4, q5, q6, q7, -⟩ := hB.1 i hi
    have ec : (nI i).toNatClampNeg = i := nI_clamp (by omega)
    have n2 := W.2.2.2.1.2.1
    refine t_M_about_26 (t_M_about_27 W.1 (by omega) (Nat.le_of_ble_eq_true rfl) up_s (by omega) rfl (fun _ => ?_) (fun z => absurd (by decide) z))
    rw [ec]
    unfold abt
    refine t_M_about_39 (fun y1 => ?_) (fun y1 => ?_)
    · rw [if_neg y1]
      refine t_M_about_52 (fun y2 => ?_) (fun y2 => ?_)
      · rw [if_neg y2]
        refine t_M_about_66 (fun y3 => ?_) (fun y3 => ?_)
        · rw [if_neg y3]
          refine t_M_about_80 (fun y4 => ?_) (fun y4 => ?_)
          · rw [if_neg y4]
            exact t_M_about_94 up_s (by omega) rfl ((up_n (by omega)).trans (n2 340 (by omega) (by omega))) (by omega) (vp_in_nI (by omega) (by omega)) (t_M_about_100 ⟨by rw [ec, q1]; rfl, MO_c W 0⟩)
          · rw [if_pos y4]
            exact t_M_about_85 up_s (by omega) rfl ((up_n (by omega)).trans (n2 345 (by omega) (by omega))) (by omega) (vp_in_nI (by omega) (by omega)) (t_M_about_100 ⟨by rw [ec, q7]; rfl, MO_c W 0⟩)
        · rw [if_pos y3]
          exact t_M_about_71 up_s (by omega) rfl ((up_n (by omega)).trans (n2 344 (by omega) (by omega))) (by omega) (vp_in_nI (by omega) (by omega)) (t_M_about_100 ⟨by rw [ec, q6]; rfl, MO_c W 0⟩)
      · rw [if_pos y2]
        exact t_M_about_57 up_s (by omega) rfl ((up_n (by omega)).trans (n2 343 (by omega) (by omega))) (by omega) (vp_in_nI (by omega) (by omega)) (t_M_about_100 ⟨by rw [ec, q5]; rfl, MO_c W 0⟩)
    · rw [if_pos y1]
      exact t_M_about_43 up_s (by omega) rfl ((up_n (by omega)).trans (n2 341 (by omega) (by omega))) (by omega) (vp_in_nI (by omega) (by omega)) (t_M_about_100 ⟨by rw [ec, q4]; rfl, MO_c W 0⟩)
  · have z := bp_n0 z
    have hr : o_about S y w = (1, 0, S) := if_neg z
    rw [hr]
    exact t_M_about_9 (t_M_about_27 W.1 (by omega) (Nat.le_of_ble_eq_true rfl) up_s (by omega) rfl (fun z => absurd z (by decide)) (fun _ => t_M_about_37 ⟨rfl, MO_c W 1⟩))
theorem m_name (h : MP G m S c0) (y w : Int32) : MO l G k_M_name [.int y, .int w] b m false (o_name S y w) := by
  obtain ⟨hp, ot, x, A, hf, W⟩ := h
  have hB := W.2.2.2.2.1
  have hk := hB.2.1
  refine t_M_name_0 (Nat.le_of_eq (Nat.zero_add _)) W.1 (by omega) (s_M_noEntry W y) (fun z => ?_) (fun z => ?_)
  · have z := Classical.not_not.mp (bp_0.mp z)
    obtain ⟨i, hi, rfl⟩ := hs_nat (by omega) z
    obtain ⟨q1, q2, q3, -⟩ := hB.1 i hi
    have ec : (nI i).toNatClampNeg = i := nI_clamp (by omega)
    have hr : o_name S (nI i) w = (0, (if w < 0 ∨ nI (S.2.2.1.2 i).1.2 ≤ w then -1 else nI ((S.2.2.1.2 i).1.1 w.toNatClampNeg)), S) := by
      unfold o_name
      rw [if_pos z, ec]
    rw [hr]
    have n2 := W.2.2.2.1.2.1
    have n1 := W.2.2.2.1.1
    refine t_M_name_13 (t_M_name_14 W.1 (by omega) (Nat.le_of_ble_eq_true rfl) up_s (by omega) rfl (fun _ => ?_) (fun z => absurd (by decide) z))
    refine t_M_name_28 (fun z1 => ?_) (fun z1 => t_M_name_32 up_s (by omega) rfl ((up_n (by omega)).trans (n2 340 (by omega) (by omega))) (by omega) (vp_in_nI (by omega) (by omega)) (fun z2 => ?_) (fun z2 => ?_))
    · rw [if_pos (Or.inl z1)]
      exact t_M_name_42 (t_M_name_57 ⟨rfl, MO_c W 0⟩)
    · rw [ec, q1] at z2
      rw [if_neg (show ¬ (w < 0 ∨ nI (S.2.2.1.2 i).1.2 ≤ w) by rintro (q | q); exact z1 q; exact i_nle.mpr z2 q)]
      obtain ⟨j, hj, rfl⟩ := hs_nat (k := (S.2.2.1.2 i).1.2) (by omega) ⟨z1, i_nle.mpr z2⟩
      refine t_M_name_46 up_s (by omega) rfl ((up_n (by omega)).trans n1) (by omega) (by rw [nI_64]; exact vp_in_nI (by omega) (by omega)) (t_M_name_57 ⟨?_, MO_c W 0⟩)
      rw [nI_64, nI_clamp (by omega), nI_clamp (by omega), (q3 j hj).1]
      rfl
    · rw [ec, q1] at z2
      rw [if_pos (Or.inr (i_nlt.mp z2))]
      exact t_M_name_42 (t_M_name_57 ⟨rfl, MO_c W 0⟩)
  · have z := bp_n0 z
    have hr : o_name S y w = (1, 0, S) := if_neg z
    rw [hr]
    exact t_M_name_9 (t_M_name_14 W.1 (by omega) (Nat.le_of_ble_eq_true rfl) up_s (by omega) rfl (fun z => absurd z (by decide)) (fun _ => t_M_name_24 (t_M_name_57 ⟨rfl, MO_c W 1⟩)))
theorem m_part (h : MP G m S c0) (y w : Int32) : MO l G k_M_part [.int y, .int w] b m false (o_part S y w) := by
  obtain ⟨hp, ot, x, A, hf, W⟩ := h
  have hB := W.2.2.2.2.1
  have hk := hB.2.1
  have hno : ¬ (hs y S.2.2.1.1 ∧ hs w (S.2.2.1.2 y.toNatClampNeg).2.1.2) → mm_W l G k_M_part 23 [(0, .ref 336), (1, .int y), (2, .int w)] [.ref 336] b m (fun v m2 => v = .inl (some (.int (o_part S y w).2.1)) ∧ FR 336 352 m m2 ∧ MP G m2 (o_part S y w).2.2 (nI (o_part S y w).1)) := by
    intro q
    have hr : o_part S y w = (1, 0, S) := if_neg q
    rw [hr]
    exact t_M_part_23 (t_M_part_28 W.1 (by omega) (Nat.le_of_ble_eq_true rfl) up_s (by omega) rfl (fun z => absurd z (by decide)) (fun _ => t_M_part_38 (t_M_part_59 ⟨rfl, MO_c W 1⟩)))
  refine t_M_part_0 (Nat.le_of_eq (Nat.zero_add _)) W.1 (by omega) (s_M_noEntry W y) (fun z => hno (fun q => bp_n0 z q.1)) (fun z => ?_)
  have z := Classical.not_not.mp (bp_0.mp z)
  obtain ⟨i, hi, rfl⟩ := hs_nat (by omega) z
  obtain ⟨q1, q2, q3, q4, q5, q6, q7, g, q8, q9, qa⟩ := hB.1 i hi
  have hus := hB.2.2.1
  have ec : (nI i).toNatClampNeg = i := nI_clamp (by omega)
  rw [ec] at hno
  have n2 := W.2.2.2.1.2.1
  refine t_M_part_9 (fun z1 => hno (fun q => q.2.1 z1)) (fun z1 => t_M_part_13 W.1 (by omega) rfl (n2 343 (by omega) (by omega)) (by omega) (vp_in_nI (by omega) (by omega)) (fun z2 => ?_) (fun z2 => ?_))
  · rw [ec, q5] at z2
    have hj : hs w (S.2.2.1.2 i).2.1.2 := ⟨z1, i_nle.mpr z2⟩
    have hr : o_part S (nI i) w = (0, (S.2.2.1.2 i).2.1.1 w.toNatClampNeg &&& 255, S) := by
      unfold o_part
      rw [ec, if_pos ⟨z, hj⟩]
    rw [hr]
    obtain ⟨j, hj2, rfl⟩ := hs_nat (by omega) hj
    have hsw := W.2.2.2.1.2.2.2.2.2
    have hsw2 : hp ≠ 336 ∧ hp ≠ 0 := by unfold sw at hsw; omega
    refine t_M_part_27 (t_M_part_28 W.1 (by omega) (Nat.le_of_ble_eq_true rfl) up_s (by omega) rfl (fun _ => ?_) (fun z => absurd (by decide) z))
    refine t_M_part_42 up_s (by omega) rfl rfl ((up_n (by omega)).trans (n2 342 (by omega) (by omega))) (by omega) (vp_in_nI (by omega) (by omega)) ((up_n hsw2.1).trans W.2.2.2.1.2.2.1) (by omega) (by rw [ec, q8, nI_add]; exact vp_in_nI (by omega) (by omega)) (t_M_part_59 ⟨?_, MO_c W 0⟩)
    rw [ec, q8, nI_add, nI_clamp (by omega), nI_clamp (by omega), qa j hj2]
    rfl
  · rw [ec, q5] at z2
    exact hno (fun q => q.2.2 (i_nlt.mp z2))
end MO3
