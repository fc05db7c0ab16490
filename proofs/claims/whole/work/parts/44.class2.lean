/-! the object's methods, going on -/
section CL2
variable {l : Launch} {G : mm_G} {m : mm_Mem} {b : Nat} {S : St}
theorem p_remove (C : CP G m S) (h7 : 7 ≤ b) (x : Int32) : CO l G k_P_remove [.int x] b m xB true (o_remove S x) := by
  obtain ⟨o, e, n, s, P, A⟩ := C.2.2.2.2.2.1
  have hk := P.2.2.2.2.2
  refine t_P_remove_0 C.1 (by omega) rfl (Nat.le_of_eq (Nat.zero_add _)) P.1 (by omega) (s_X_has P x) (fun z => ?_) (fun z => ?_)
  · have z := b1_n0 z
    have hr : o_remove S x = (0, 0, S.1, S.2.1, (S.2.2.1.1 - 1, dl S.2.2.1.2 x.toNatClampNeg), S.2.2.2) := if_pos z
    rw [hr]
    obtain ⟨i, hi, rfl⟩ := hs_nat (by omega) z
    rw [nI_clamp (by omega)]
    have hin : ∀ j, j < S.2.2.1.1 → (e (o j)).2.1 + (e (o j)).2.2.1 ≤ s.2 := fun j hj => (A.2.1 j hj).2.2.2.2.2.2.1
    have hap : ∀ j, j < S.2.2.1.1 → (e (o i)).2.1 < (e (o j)).2.1 → (e (o i)).2.2.1 ≤ (e (o j)).2.1 := by
      intro j hj q
      by_cases q2 : i = j
      · subst q2; omega
      · have := A.2.2.1 i j hi hj q2
        unfold ap at this
        omega
    refine t_P_remove_21 C.1 (by omega) rfl (Nat.le_of_eq (Nat.zero_add _)) P.1 (by omega) (s_X_drop P A.1 hi hin hap) (fun E n hn => ?_) (fun v n2 hn => ?_)
    · cases hn.1
    · obtain ⟨e1, F1, e2, he, P2⟩ := hn
      exact ⟨by cases e1; rfl, t_P_remove_29 ⟨rfl, FR_wide F1 (by omega) (by omega), CP_box C F1 ⟨_, _, _, _, P2, AB_drop A hk hi he⟩⟩⟩
  · exact t_P_remove_11 (CO_no (K := k_P_remove) (as := []) (ex := xB) (c := 1) C (if_neg (b1_0.mp z)) (by omega)) h7
theorem p_move (C : CP G m S) (h7 : 7 ≤ b) (x y : Int32) : CO l G k_P_move [.int x, .int y] b m xB true (o_move S x y) := by
  obtain ⟨o, e, n, s, P, A⟩ := C.2.2.2.2.2.1
  have hk := P.2.2.2.2.2
  have hno : ¬ (hs x S.2.2.1.1 ∧ hs y S.2.2.1.1) → mm_W l G k_P_move 22 [] [] b m (fun v m2 => v = rv xB true (o_move S x y) ∧ FR 1 335 m m2 ∧ CP G m2 (o_move S x y).2.2) := fun q => t_P_move_22 (CO_no (K := k_P_move) (as := []) (ex := xB) (c := 1) C (if_neg q) (by omega)) h7
  refine t_P_move_0 C.1 (by omega) rfl (Nat.le_of_eq (Nat.zero_add _)) P.1 (by omega) (s_X_has P x) (fun z => hno (fun q => b1_0.mp z q.1)) (fun z => ?_)
  refine t_P_move_11 C.1 (by omega) rfl (Nat.le_of_eq (Nat.zero_add _)) P.1 (by omega) (s_X_has P y) (fun w => ?_) (fun w => hno (fun q => b1_0.mp w q.2))
  have z := b1_n0 z
  have w := b1_n0 w
  have hr : o_move S x y = (0, 0, S.1, S.2.1, (S.2.2.1.1, mv S.2.2.1.2 x.toNatClampNeg y.toNatClampNeg), S.2.2.2) := if_pos ⟨z, w⟩
  rw [hr]
  obtain ⟨i, hi, rfl⟩ := hs_nat (by omega) z
  obtain ⟨j, hj, rfl⟩ := hs_nat (by omega) w
  rw [nI_clamp (by omega), nI_clamp (by omega)]
  obtain ⟨F, p2, p3⟩ := P.2.1
  have F1 : FR 8 203 m (va_up m 9 (arE G (mv F i j))) := FR_up (by omega) (by omega)
  exact t_P_move_32 C.1 (by omega) rfl (Nat.le_of_eq (Nat.zero_add _)) P.1 (by omega) (s_X_shift P p2 p3 hi hj) ⟨rfl, FR_wide F1 (by omega) (by omega), CP_box C F1 ⟨_, _, _, _, PB_shift P p3 hi hj, AB_mv A hk hi hj⟩⟩
theorem p_about (C : CP G m S) (h7 : 7 ≤ b) (x y : Int32) : CO l G k_P_about [.int x, .int y] b m xBA false (o_about S x y) := by
  obtain ⟨o, e, n, s, P, A⟩ := C.2.2.2.2.2.1
  have hk := P.2.2.2.2.2
  have hM := s_X_pick (l := l) (b := 0) P x
  by_cases q : hs x S.2.2.1.1
  · rw [if_pos q] at hM
    refine t_P_about_0 C.1 (by omega) rfl (Nat.le_of_eq (Nat.zero_add _)) P.1 (by omega) hM (Or.inr ⟨_, rfl⟩) (fun r hr => ?_) (fun z => nomatch z)
    obtain ⟨i, hi, rfl⟩ := hs_nat (by omega) q
    have hc : (nI i).toNatClampNeg = i := nI_clamp (by omega)
    obtain ⟨b1, b2, b3, b4, b5, b6, b7, b8⟩ := A.2.1 i hi
    have ho := P.2.2.1 i (by omega)
    obtain ⟨a1, a2⟩ := P.2.2.2.1 (o i) ho
    have hr2 : o_about S (nI i) y = if y < 0 ∨ 4 < y then (2, 0, S) else (0, abt (S.2.2.1.2 i) y, S) := by
      unfold o_about
      rw [if_pos q, hc]
    rw [hr2]
    rw [hc] at hr ⊢
    refine t_P_about_23 (fun z => ?_) (fun z => ?_) (fun z => ?_) (fun z => ?_) (fun z => ?_) (fun z => ?_)
    · subst z
      exact t_P_about_60 a1 (by omega) rfl ⟨by rw [b3]; rfl, FR_refl, C⟩
    · subst z
      exact t_P_about_65 a1 (by omega) rfl ⟨by rw [b4]; rfl, FR_refl, C⟩
    · subst z
      exact t_P_about_70 a1 (by omega) rfl ⟨by rw [b5]; rfl, FR_refl, C⟩
    · subst z
      exact t_P_about_75 a1 (by omega) rfl ⟨by rw [b6]; rfl, FR_refl, C⟩
    · subst z
      exact t_P_about_80 a1 (by omega) rfl (Nat.le_of_eq (Nat.zero_add _)) a2.1 (by omega) (s_B_size a2) ⟨by rw [b1]; rfl, FR_refl, C⟩
    · refine t_P_about_88 (CO_no (K := k_P_about) (as := []) (ex := xBA) (c := 2) C (if_pos ?_) (by omega)) h7
      rw [Int32.lt_iff_toInt_lt, Int32.lt_iff_toInt_lt]
      exact z
  · rw [if_neg q] at hM
    refine t_P_about_0 C.1 (by omega) rfl (Nat.le_of_eq (Nat.zero_add _)) P.1 (by omega) hM (Or.inl rfl) (fun r hr => nomatch hr) (fun _ => ?_)
    exact t_P_about_13 (CO_no (K := k_P_about) (as := []) (ex := xBA) (c := 1) C (if_neg q) (by omega)) h7
theorem p_name (C : CP G m S) (h7 : 7 ≤ b) (x y : Int32) : CO l G k_P_name [.int x, .int y] b m xB false (o_name S x y) := by
  obtain ⟨o, e, n, s, P, A⟩ := C.2.2.2.2.2.1
  have hk := P.2.2.2.2.2
  have hM := s_X_pick (l := l) (b := 0) P x
  by_cases q : hs x S.2.2.1.1
  · rw [if_pos q] at hM
    refine t_P_name_0 C.1 (by omega) rfl (Nat.le_of_eq (Nat.zero_add _)) P.1 (by omega) hM (Or.inr ⟨_, rfl⟩) (fun r hr => ?_) (fun z => nomatch z)
    obtain ⟨i, hi, rfl⟩ := hs_nat (by omega) q
    have hc : (nI i).toNatClampNeg = i := nI_clamp (by omega)
    obtain ⟨b1, b2, -⟩ := A.2.1 i hi
    have ho := P.2.2.1 i (by omega)
    obtain ⟨a1, a2⟩ := P.2.2.2.1 (o i) ho
    have hr2 : o_name S (nI i) y = (0, (if y < 0 ∨ nI (S.2.2.1.2 i).1.2 ≤ y then -1 else nI ((S.2.2.1.2 i).1.1 y.toNatClampNeg)), S) := by
      unfold o_name
      rw [if_pos q, hc]
    rw [hr2]
    rw [hc] at hr ⊢
    have eg : bget (n (o i)).1 (n (o i)).2 y = if y < 0 ∨ nI (S.2.2.1.2 i).1.2 ≤ y then -1 else nI ((S.2.2.1.2 i).1.1 y.toNatClampNeg) := by
      unfold bget
      rw [b1]
      by_cases q2 : y < 0 ∨ nI (S.2.2.1.2 i).1.2 ≤ y
      · rw [if_pos q2, if_pos q2]
      · rw [if_neg q2, if_neg q2]
        have hl := a2.2.2.2.2.2.1
        rw [b1] at hl
        obtain ⟨j, hj, rfl⟩ := hs_nat (x := y) (k := (S.2.2.1.2 i).1.2) (by omega) ⟨fun z => q2 (Or.inl z), fun z => q2 (Or.inr z)⟩
        rw [nI_clamp (by omega), (b2 j hj).1, ub_and, ub_nI (by have := (b2 j hj).2; omega)]
    have hg := s_B_get (l := l) (b := 0) a2 y
    rw [eg] at hg
    exact t_P_name_23 a1 (by omega) rfl (Nat.le_of_eq (Nat.zero_add _)) a2.1 (by omega) hg ⟨rfl, FR_refl, C⟩
  · rw [if_neg q] at hM
    refine t_P_name_0 C.1 (by omega) rfl (Nat.le_of_eq (Nat.zero_add _)) P.1 (by omega) hM (Or.inl rfl) (fun r hr => nomatch hr) (fun _ => ?_)
    exact t_P_name_13 (CO_no (K := k_P_name) (as := []) (ex := xB) (c := 1) C (if_neg q) (by omega)) h7
theorem p_part (C : CP G m S) (h7 : 7 ≤ b) (x y : Int32) : CO l G k_P_part [.int x, .int y] b m xB false (o_part S x y) := by
  obtain ⟨o, e, n, s, P, A⟩ := C.2.2.2.2.2.1
  have hk := P.2.2.2.2.2
  have hM := s_X_pick (l := l) (b := 0) P x
  have hno : ¬ (hs x S.2.2.1.1 ∧ hs y (S.2.2.1.2 x.toNatClampNeg).2.1.2) → mm_W l G k_P_part 25 [] [] b m (fun v m2 => v = rv xB false (o_part S x y) ∧ FR 1 335 m m2 ∧ CP G m2 (o_part S x y).2.2) := fun q => t_P_part_25 (CO_no (K := k_P_part) (as := []) (ex := xB) (c := 1) C (if_neg q) (by omega)) h7
  by_cases q : hs x S.2.2.1.1
  · rw [if_pos q] at hM
    refine t_P_part_0 C.1 (by omega) rfl (Nat.le_of_eq (Nat.zero_add _)) P.1 (by omega) hM (Or.inr ⟨_, rfl⟩) (fun r hr => ?_) (fun z => nomatch z)
    obtain ⟨i, hi, rfl⟩ := hs_nat (by omega) q
    have hc : (nI i).toNatClampNeg = i := nI_clamp (by omega)
    obtain ⟨b1, b2, b3, b4, b5, b6, b7, b8⟩ := A.2.1 i hi
    have ho := P.2.2.1 i (by omega)
    obtain ⟨a1, a2⟩ := P.2.2.2.1 (o i) ho
    have S6 := P.2.2.2.2.1
    have hu := S6.2.2.2.2.2.1
    rw [hc] at hno hr ⊢
    refine t_P_part_13 (fun z => hno (fun q2 => q2.2.1 z)) (fun z => ?_)
    refine t_P_part_17 a1 (by omega) rfl (fun w => ?_) (fun w => hno (fun q2 => q2.2.2 (by rw [← b4]; exact i_nlt.mp w)))
    have hj : hs y (S.2.2.1.2 i).2.1.2 := ⟨z, by rw [← b4]; exact i_nle.mpr w⟩
    have hr2 : o_part S (nI i) y = (0, (S.2.2.1.2 i).2.1.1 y.toNatClampNeg &&& 255, S) := by
      unfold o_part
      rw [hc, if_pos ⟨q, hj⟩]
    rw [hr2]
    obtain ⟨j, hj2, rfl⟩ := hs_nat (by omega) hj
    have eg : bget s.1 s.2 (nI (e (o i)).2.1 + nI j) = (S.2.2.1.2 i).2.1.1 (nI j).toNatClampNeg &&& 255 := by
      rw [nI_add, bget_in (by omega) (by omega), nI_clamp (by omega), b8 j hj2, ub_and]
    have hg := s_B_get (l := l) (b := 0) S6 (nI (e (o i)).2.1 + nI j)
    rw [eg] at hg
    exact t_P_part_35 C.1 (by omega) rfl P.1 (by omega) rfl a1 (by omega) rfl (Nat.le_of_eq (Nat.zero_add _)) S6.1 (by omega) hg ⟨rfl, FR_refl, C⟩
  · rw [if_neg q] at hM
    exact t_P_part_0 C.1 (by omega) rfl (Nat.le_of_eq (Nat.zero_add _)) P.1 (by omega) hM (Or.inl rfl) (fun r hr => nomatch hr) (fun _ => hno (fun q2 => q q2.1))
theorem sum_bound {g : Nat → Nat} {M : Nat} (h : ∀ i, g i ≤ M) : ∀ k, sum g k ≤ k * M := by
  intro k
  induction k with
  | zero => simp [sum]
  | succ k ih =>
    simp only [sum]
    rw [Nat.succ_mul]
    have := h k
    omega
theorem sum_bnd {g : Nat → Nat} {M : Nat} : ∀ k, (∀ i, i < k → g i ≤ M) → sum g k ≤ k * M := by
  intro k
  induction k with
  | zero => intro _; simp [sum]
  | succ k ih =>
    intro h
    simp only [sum]
    rw [Nat.succ_mul]
    have := h k (by omega)
    have := ih (fun i hi => h i (by omega))
    omega
theorem p_write (C : CP G m S) (h7 : 7 ≤ b) : CO l G k_P_write [] b m xI false (o_write S) := by
  obtain ⟨o, e, n, s, P, A⟩ := C.2.2.2.2.2.1
  have hk := P.2.2.2.2.2
  have B := C.2.1
  have hu := B.2.2.2.2.2.1
  have hs6 := P.2.2.2.2.1.2.2.2.2.2.1
  have hz := AB_zt A
  have hzl : zt S.2.2.1.1 S.2.2.1.2 ≤ 22 + 64 * 70000 := by
    rw [← hz]
    have h1 := sum_bnd (g := fun i => wlen o e n i + (46 + (n (o i)).2)) (M := 70000) S.2.2.1.1 (fun i hi => by
      have h2 := (A.2.1 i hi).2.2.2.2.2.2.1
      have h3 := (P.2.2.2.1 (o i) (P.2.2.1 i (by omega))).2.2.2.2.2.2.1
      unfold wlen
      omega)
    have h4 : S.2.2.1.1 * 70000 ≤ 64 * 70000 := Nat.mul_le_mul_right _ hk
    omega
  have hM := s_X_writtenLength (l := l) (b := 0) P
  rw [hz] at hM
  refine t_P_write_0 C.1 (by omega) rfl (Nat.le_of_eq (Nat.zero_add _)) P.1 (by omega) hM (fun z => ?_) (fun z => ?_)
  · have z : zt S.2.2.1.1 S.2.2.1.2 ≤ 65536 := (nI_leI (b := 65536) (by omega) (by omega)).mp z
    have hr : o_write S = (0, nI (zt S.2.2.1.1 S.2.2.1.2), (app S.1.1 0 (zw S.2.2.1.1 S.2.2.1.2), zt S.2.2.1.1 S.2.2.1.2), S.2) := if_neg (by omega)
    rw [hr]
    have hW := s_X_writeOver (l := l) (b := 0) P B (fun i hi => (A.2.1 i hi).2.2.2.2.2.2.1) (by rw [hz]; exact z)
    have hlen : (zw S.2.2.1.1 S.2.2.1.2).length = zt S.2.2.1.1 S.2.2.1.2 := by rw [← AB_zw A, wall_len, hz]
    have hokb : okb (zw S.2.2.1.1 S.2.2.1.2) := by
      rw [← AB_zw A]
      unfold wall
      refine okb_app (okb_cat (k := S.2.2.1.1) (fun i hi => okb_hd1 (P.2.2.2.1 (o i) (P.2.2.1 i (by omega))).2.2.2.2.2.2.2.2 P.2.2.2.2.1.2.2.2.2.2.2.2) _ (Nat.le_refl _)) (okb_app (okb_cat (k := S.2.2.1.1) (fun i hi => okb_hd2 (P.2.2.2.1 (o i) (P.2.2.1 i (by omega))).2.2.2.2.2.2.2.2) _ (Nat.le_refl _)) ?_)
      unfold hd3
      exact okb_app (nb_tb _ _) (okb_app (nb_tb _ _) (okb_app (nb_tb _ _) (okb_app (nb_tb _ _) (okb_app (nb_tb _ _) (okb_app (nb_tb _ _) (nb_tb _ _))))))
    have eM : BT G m 2 3 65536 S.1.1 0 (wall S.2.2.1.1 o e n s) = BS G m 2 3 65536 (app S.1.1 0 (zw S.2.2.1.1 S.2.2.1.2)) (zt S.2.2.1.1 S.2.2.1.2) := by
      unfold BT
      rw [AB_zw A, hlen, Nat.zero_add]
    rw [eM] at hW
    have C2 := CP_row C (f := app S.1.1 0 (zw S.2.2.1.1 S.2.2.1.2)) (u := zt S.2.2.1.1 S.2.2.1.2) (by omega) (app_tb B.2.2.2.2.2.2.2 hokb)
    exact t_P_write_22 C.1 (by omega) rfl rfl (Nat.le_of_eq (Nat.zero_add _)) P.1 (by omega) hW C2.1 rfl (Nat.le_of_eq (Nat.zero_add _)) C2.2.1.1 (by omega) (s_B_size C2.2.1) ⟨rfl, FR_BS (by omega) (by omega) (by omega) (by omega), C2⟩
  · have z : ¬ zt S.2.2.1.1 S.2.2.1.2 ≤ 65536 := fun q => z ((nI_leI (b := 65536) (by omega) (by omega)).mpr q)
    exact t_P_write_12 (CO_no (K := k_P_write) (as := []) (ex := xI) (c := 1) C (if_pos (by omega)) (by omega)) h7
end CL2
