/-! the object's methods keep their contracts -/
theorem seg_eq {f g : Nat → Int32} {s t n : Nat} (h : ∀ j, j < n → f (s + j) = g (t + j)) : seg f s n = seg g t n := by
  unfold seg
  exact List.map_congr_left (fun j hj => h j (List.mem_range.mp hj))
theorem cat_eq {g h : Nat → List Int32} : ∀ {k}, (∀ i, i < k → g i = h i) → cat g k = cat h k := by
  intro k
  induction k with
  | zero => intro _; rfl
  | succ k ih =>
    intro q
    simp only [cat]
    rw [ih (fun i hi => q i (by omega)), q k (by omega)]
theorem EM_hd1 {x : Ef} {y s : Nf} {z : En} (h : EM x y s z) : hd1 x y s = hd1 (zf z) (zn z) z.2.1 := by
  obtain ⟨b1, b2, b3, b4, b5, b6, b7, b8⟩ := h
  have e1 : seg y.1 0 y.2 = seg (zn z).1 0 (zn z).2 := by
    rw [b1]
    exact seg_eq (fun j hj => by rw [Nat.zero_add]; exact (b2 j hj).1)
  have e2 : seg s.1 x.2.1 x.2.2.1 = seg z.2.1.1 (zf z).2.1 (zf z).2.2.1 := by
    rw [b4]
    exact seg_eq (fun j hj => by rw [b8 j hj]; show _ = z.2.1.1 (0 + j); rw [Nat.zero_add])
  have e3 : fct x y.2 = fct (zf z) (zn z).2 := by
    unfold fct
    rw [b3, b4, b5, b6, b1]
    rfl
  unfold hd1
  rw [e1, e2, e3]
theorem EM_hd2 {x : Ef} {y s : Nf} {z : En} (h : EM x y s z) (p : Nat) : hd2 x y p = hd2 (zf z) (zn z) p := by
  obtain ⟨b1, b2, b3, b4, b5, b6, b7, b8⟩ := h
  have e1 : seg y.1 0 y.2 = seg (zn z).1 0 (zn z).2 := by
    rw [b1]
    exact seg_eq (fun j hj => by rw [Nat.zero_add]; exact (b2 j hj).1)
  have e3 : fct x y.2 = fct (zf z) (zn z).2 := by
    unfold fct
    rw [b3, b4, b5, b6, b1]
    rfl
  unfold hd2
  rw [e1, e3]
section ABW
variable {k : Nat} {o : Nat → Nat} {e : Nat → Ef} {n : Nat → Nf} {s : Nf} {E : Nat → En}
theorem AB_wlen (A : AB k o e n s E) {i : Nat} (hi : i < k) : wlen o e n i = zl E i ∧ (n (o i)).2 = (E i).1.2 := by
  obtain ⟨b1, b2, b3, b4, -⟩ := A.2.1 i hi
  unfold wlen zl
  rw [b1, b4]
  exact ⟨rfl, rfl⟩
theorem AB_zt (A : AB k o e n s E) : 22 + sum (fun i => wlen o e n i + (46 + (n (o i)).2)) k = zt k E := by
  unfold zt
  congr 1
  exact sum_eq (fun i hi => by rw [(AB_wlen A hi).1, (AB_wlen A hi).2])
theorem AB_zw (A : AB k o e n s E) : wall k o e n s = zw k E := by
  unfold wall zw
  have s1 : ∀ i, i ≤ k → sum (wlen o e n) i = sum (zl E) i := fun i hi => sum_eq (fun j hj => (AB_wlen A (by omega)).1)
  have s2 : sum (fun i => 46 + (n (o i)).2) k = sum (fun i => 46 + (E i).1.2) k := sum_eq (fun j hj => by rw [(AB_wlen A hj).2])
  rw [s2, s1 k (Nat.le_refl _), cat_eq (g := fun i => hd1 (e (o i)) (n (o i)) s) (h := fun i => hd1 (zf (E i)) (zn (E i)) (E i).2.1) (fun i hi => EM_hd1 (A.2.1 i hi)), cat_eq (g := fun i => hd2 (e (o i)) (n (o i)) (sum (wlen o e n) i)) (h := fun i => hd2 (zf (E i)) (zn (E i)) (sum (zl E) i)) (fun i hi => by rw [s1 i (by omega)]; exact EM_hd2 (A.2.1 i hi) _)]
end ABW
section CLS
variable {l : Launch} {G : mm_G} {m : mm_Mem} {b : Nat} {S : St}
theorem CO_no {K : mm_M} {as : List Value} {ex : Nat → String} {vd : Bool} {r : Rs} {c : Nat} (C : CP G m S) (hr : r = (c, 0, S)) (hc : c ≠ 0) : (Sum.inr (ex c) : mm_O) = rv ex vd r ∧ FR 1 335 m m ∧ CP G m r.2.2 := by
  subst hr
  refine ⟨?_, FR_refl, C⟩
  unfold rv
  rw [if_neg hc]
theorem pw {f : Nat → Int32} {u : Nat} {ys : List Int32} (B : BY G m 2 3 65536 f u) (hy : okb ys) (hl : u + ys.length + 4 ≤ 65536) (w : Int32) : mm_W l G k_B_pushWord 0 (lv_args 0 [.ref 2, .int w]) [] b (BT G m 2 3 65536 f u ys) (mm_is (.inl none) (BT G m 2 3 65536 f u (ys ++ w4 w))) := by
  have hf := B.2.2.2.2.2.2.2
  have h := s_B_pushWord (l := l) (b := b) (BL_BT B hf hy (by omega)) hf hy hl w
  rw [BT_BT (by omega)] at h
  exact h
theorem okb_w4 (w : Int32) : okb (w4 w) := by
  intro x hx
  unfold w4 at hx
  simp only [List.mem_cons, List.not_mem_nil, or_false] at hx
  rcases hx with rfl | rfl | rfl | rfl <;> exact tb_tb _
theorem p_feed (C : CP G m S) (h7 : 7 ≤ b) (a1 a2 a3 a4 a5 : Int32) : CO l G k_P_feed [.int a1, .int a2, .int a3, .int a4, .int a5] b m xI true (o_feed S a1 a2 a3 a4 a5) := by
  have B := C.2.1
  have hu := B.2.2.2.2.2.1
  have hf := B.2.2.2.2.2.2.2
  refine t_P_feed_0 C.1 (by omega) rfl (Nat.le_of_eq (Nat.zero_add _)) B.1 (by omega) (s_B_free B) (fun z => ?_) (fun z => ?_)
  · have z : 20 ≤ 65536 - S.1.2 := (nI_leI (a := 20) (by omega) (by omega)).mp z
    have hr : o_feed S a1 a2 a3 a4 a5 = (0, 0, (app S.1.1 S.1.2 (w4 a1 ++ (w4 a2 ++ (w4 a3 ++ (w4 a4 ++ w4 a5)))), S.1.2 + 20), S.2) := if_neg (by omega)
    have e0 : BT G m 2 3 65536 S.1.1 S.1.2 [] = m := BS_id (BL_nil B)
    have o1 : okb ([] ++ w4 a1) := okb_app okb_nil (okb_w4 _)
    have o2 := okb_app o1 (okb_w4 a2)
    have o3 := okb_app o2 (okb_w4 a3)
    have o4 := okb_app o3 (okb_w4 a4)
    have o5 := okb_app o4 (okb_w4 a5)
    have c1 : ∀ ys, BT G m 2 3 65536 S.1.1 S.1.2 ys 1 = .inr (0, [.ref 2, .ref 4, .ref 6, .ref 8, .ref 204]) := fun ys => (BS_o (by omega) (by omega)).trans C.1
    have c2 : ∀ ys, BT G m 2 3 65536 S.1.1 S.1.2 ys 2 = .inr (2, [.ref 3, .int (nI (S.1.2 + ys.length))]) := fun ys => BS_r
    have l4 : ∀ w, (w4 w).length = 4 := fun w => rfl
    refine mm_eqm e0 ?_
    refine t_P_feed_22 (c1 _) (by omega) rfl (Nat.le_of_eq (Nat.zero_add _)) (c2 _) (by omega) (pw B okb_nil (by simp; omega) _) (c1 _) rfl (Nat.le_of_eq (Nat.zero_add _)) (c2 _) (by omega) (pw B o1 (by simp only [List.length_append, l4, List.length_nil]; omega) _) (c1 _) rfl (Nat.le_of_eq (Nat.zero_add _)) (c2 _) (by omega) (pw B o2 (by simp only [List.length_append, l4, List.length_nil]; omega) _) (c1 _) rfl (Nat.le_of_eq (Nat.zero_add _)) (c2 _) (by omega) (pw B o3 (by simp only [List.length_append, l4, List.length_nil]; omega) _) (c1 _) rfl (Nat.le_of_eq (Nat.zero_add _)) (c2 _) (by omega) (pw B o4 (by simp only [List.length_append, l4, List.length_nil]; omega) _) ?_
    rw [hr]
    have eM : BT G m 2 3 65536 S.1.1 S.1.2 ([] ++ w4 a1 ++ w4 a2 ++ w4 a3 ++ w4 a4 ++ w4 a5) = BS G m 2 3 65536 (app S.1.1 S.1.2 (w4 a1 ++ (w4 a2 ++ (w4 a3 ++ (w4 a4 ++ w4 a5))))) (S.1.2 + 20) := by
      unfold BT
      simp only [List.length_append, l4, List.length_nil, List.nil_append, List.append_assoc]
    rw [eM]
    refine ⟨rfl, FR_BS (by omega) (by omega) (by omega) (by omega), CP_row C (by omega) (app_tb hf ?_)⟩
    simp only [List.nil_append, List.append_assoc] at o5
    exact o5
  · have z : ¬ 20 ≤ 65536 - S.1.2 := fun q => z ((nI_leI (a := 20) (by omega) (by omega)).mpr q)
    exact t_P_feed_12 (CO_no (K := k_P_feed) (as := []) (ex := xI) C (if_pos (by omega)) (by omega)) h7
theorem i_nat {x : Int32} {N : Nat} (h0 : ¬ x < 0) (h1 : x ≤ nI N) (hN : N < 2 ^ 30) : ∃ i, i ≤ N ∧ x = nI i := by
  rw [Int32.lt_iff_toInt_lt, Int32.toInt_zero] at h0
  rw [Int32.le_iff_toInt_le, nI_toInt (by omega)] at h1
  refine ⟨x.toInt.toNat, by omega, ?_⟩
  rw [← Int32.toInt_inj, nI_toInt (by omega)]
  omega
theorem p_end (C : CP G m S) (h7 : 7 ≤ b) (x : Int32) : CO l G k_P_end [.int x] b m xA true (o_end S x) := by
  have B := C.2.1
  have hu := B.2.2.2.2.2.1
  refine t_P_end_0 (fun z => ?_) (fun z => ?_)
  · exact t_P_end_15 (CO_no (K := k_P_end) (as := []) (ex := xA) C (if_pos (Or.inl z)) (by omega)) h7
  · refine t_P_end_4 C.1 (by omega) rfl (Nat.le_of_eq (Nat.zero_add _)) B.1 (by omega) (s_B_size B) (fun w => ?_) (fun w => ?_)
    · have hr : o_end S x = (0, 0, (S.1.1, x.toNatClampNeg), S.2) := if_neg (by rintro (q | q); exact z q; exact i_nlt.mpr w q)
      rw [hr]
      obtain ⟨i, hi, rfl⟩ := i_nat z w (by omega)
      rw [nI_clamp (by omega)]
      exact t_P_end_25 C.1 (by omega) rfl (Nat.le_of_eq (Nat.zero_add _)) B.1 (by omega) (s_B_keep B hi) ⟨rfl, FR_BS (by omega) (by omega) (by omega) (by omega), CP_row C (by omega) B.2.2.2.2.2.2.2⟩
    · exact t_P_end_15 (CO_no (K := k_P_end) (as := []) (ex := xA) C (if_pos (Or.inr (i_nle.mp w))) (by omega)) h7
theorem p_alter (C : CP G m S) (h7 : 7 ≤ b) (x y : Int32) : CO l G k_P_alter [.int x, .int y] b m xBA true (o_alter S x y) := by
  have B := C.2.1
  have hu := B.2.2.2.2.2.1
  refine t_P_alter_0 (fun z => ?_) (fun z => ?_)
  · exact t_P_alter_15 (CO_no (K := k_P_alter) (as := []) (ex := xBA) (c := 1) C (if_pos (Or.inl z)) (by omega)) h7
  · refine t_P_alter_4 C.1 (by omega) rfl (Nat.le_of_eq (Nat.zero_add _)) B.1 (by omega) (s_B_size B) (fun w => ?_) (fun w => ?_)
    · have hr1 : ¬ (x < 0 ∨ nI S.1.2 ≤ x) := by rintro (q | q); exact z q; exact i_nle.mpr w q
      have hno : (y < 0 ∨ 255 < y) → mm_W l G k_P_alter 36 [] [] b m (fun v m2 => v = rv xBA true (o_alter S x y) ∧ FR 1 335 m m2 ∧ CP G m2 (o_alter S x y).2.2) := fun q => t_P_alter_36 (CO_no (K := k_P_alter) (as := []) (ex := xBA) (c := 2) C (by unfold o_alter; rw [if_neg hr1, if_pos q]) (by omega)) h7
      refine t_P_alter_25 (fun w2 => hno (Or.inl w2)) (fun w2 => t_P_alter_29 (fun w3 => ?_) (fun w3 => hno (Or.inr (i_nle.mp w3))))
      have hr : o_alter S x y = (0, 0, (upd S.1.1 x.toNatClampNeg (tb y), S.1.2), S.2) := by
        unfold o_alter
        rw [if_neg hr1, if_neg (by rintro (q | q); exact w2 q; exact i_nlt.mpr w3 q)]
      rw [hr]
      obtain ⟨i, hi, rfl⟩ := hs_nat (k := S.1.2) (by omega) ⟨z, i_nle.mpr w⟩
      rw [nI_clamp (by omega)]
      exact t_P_alter_46 C.1 (by omega) rfl (Nat.le_of_eq (Nat.zero_add _)) B.1 (by omega) (s_B_set B hi y) ⟨rfl, FR_BS (by omega) (by omega) (by omega) (by omega), CP_row C (by omega) (upd_tb B.2.2.2.2.2.2.2 _ _)⟩
    · exact t_P_alter_15 (CO_no (K := k_P_alter) (as := []) (ex := xBA) (c := 1) C (if_pos (Or.inr (i_nlt.mp w))) (by omega)) h7
theorem p_length (C : CP G m S) : CO l G k_P_length [] b m xI false (o_length S) := t_P_length_0 C.1 (by omega) rfl (Nat.le_of_eq (Nat.zero_add _)) C.2.1.1 (by omega) (s_B_size C.2.1) ⟨rfl, FR_refl, C⟩
theorem p_byteAt (C : CP G m S) (h7 : 7 ≤ b) (x : Int32) : CO l G k_P_byteAt [.int x] b m xB false (o_byteAt S x) := by
  have B := C.2.1
  have hu := B.2.2.2.2.2.1
  by_cases q : x < 0 ∨ nI S.1.2 ≤ x
  · have e : bget S.1.1 S.1.2 x = -1 := if_pos q
    have hg := s_B_get (l := l) (b := 0) B x
    rw [e] at hg
    refine t_P_byteAt_0 C.1 (by omega) rfl (Nat.le_of_eq (Nat.zero_add _)) B.1 (by omega) hg (fun z => absurd rfl z) (fun _ => ?_)
    exact t_P_byteAt_14 (CO_no (K := k_P_byteAt) (as := []) (ex := xB) (c := 1) C (if_pos q) (by omega)) h7
  · have e : bget S.1.1 S.1.2 x = S.1.1 x.toNatClampNeg &&& 255 := if_neg q
    have hr : o_byteAt S x = (0, S.1.1 x.toNatClampNeg &&& 255, S) := if_neg q
    have hg := s_B_get (l := l) (b := 0) B x
    rw [e] at hg
    refine t_P_byteAt_0 C.1 (by omega) rfl (Nat.le_of_eq (Nat.zero_add _)) B.1 (by omega) hg (fun z => ?_) (fun z => ?_)
    · rw [hr]
      exact t_P_byteAt_24 ⟨rfl, FR_refl, C⟩
    · rw [ub_and] at z
      exact absurd z (nI_m1 (by have := ub_lt (S.1.1 x.toNatClampNeg); omega))
theorem p_erase (C : CP G m S) : CO l G k_P_erase [] b m xI true (o_erase S) := by
  have B := C.2.2.1
  exact t_P_erase_0 C.1 (by omega) rfl (Nat.le_of_eq (Nat.zero_add _)) B.1 (by omega) (s_B_keep B (n := 0) (by omega)) ⟨rfl, FR_BS (by omega) (by omega) (by omega) (by omega), CP_typed C (by omega) (fun _ => rfl) B.2.2.2.2.2.2.2 C.2.2.2.1⟩
theorem p_count (C : CP G m S) : CO l G k_P_count [] b m xI false (o_count S) := by
  obtain ⟨o, e, n, s, P, A⟩ := C.2.2.2.2.2.1
  exact t_P_count_0 C.1 (by omega) rfl (Nat.le_of_eq (Nat.zero_add _)) P.1 (by omega) (s_X_size P) ⟨rfl, FR_refl, C⟩
theorem nof_eq {p q : Nat → Bool} : ∀ w i, (∀ j, i ≤ j → j < i + w → p j = q j) → nof p w i = nof q w i := by
  intro w
  induction w with
  | zero => intro i _; rfl
  | succ w ih =>
    intro i h
    simp only [nof]
    rw [h i (by omega) (by omega), ih (i + 1) (fun j h1 h2 => h j (by omega) (by omega))]
theorem alk_eq {n1 n2 : Nat} {f1 f2 g1 g2 : Nat → Nat} (h1 : ∀ j, j < n1 → f1 j = g1 j) (h2 : ∀ j, j < n2 → f2 j = g2 j) : alk n1 f1 n2 f2 = alk n1 g1 n2 g2 := by
  unfold alk
  rw [decide_eq_decide]
  constructor
  · intro ⟨a1, a2⟩
    exact ⟨a1, fun j hj => by rw [← h1 j (by omega), ← h2 j hj]; exact a2 j hj⟩
  · intro ⟨a1, a2⟩
    exact ⟨a1, fun j hj => by rw [h1 j (by omega), h2 j hj]; exact a2 j hj⟩
theorem ub_nI {c : Nat} (h : c < 256) : ub (nI c) = c := by
  unfold ub
  rw [pk_tn (by omega)]
  omega
theorem AB_fnd {o : Nat → Nat} {e : Nat → Ef} {n : Nat → Nf} {s : Nf} (A : AB S.2.2.1.1 o e n s S.2.2.1.2) (h128 : ∀ j, S.2.1.1 j < 128) : nof (fun i => alk (n (o i)).2 (fun j => ub ((n (o i)).1 j)) S.2.1.2 (fun j => ub (nI (S.2.1.1 j)))) S.2.2.1.1 0 = fnd S := by
  unfold fnd
  refine nof_eq _ _ (fun i _ hi => ?_)
  obtain ⟨b1, b2, -⟩ := A.2.1 i (by omega)
  rw [b1]
  refine alk_eq (fun j hj => ?_) (fun j hj => ?_)
  · rw [(b2 j hj).1]
    exact ub_nI (by have := (b2 j hj).2; omega)
  · exact ub_nI (by have := h128 j; omega)
theorem p_find (C : CP G m S) : CO l G k_P_find [] b m xI false (o_find S) := by
  obtain ⟨o, e, n, s, P, A⟩ := C.2.2.2.2.2.1
  have hM := s_X_numberOf (l := l) (b := 0) P C.2.2.1
  rw [AB_fnd A C.2.2.2.1] at hM
  exact t_P_find_0 C.1 (by omega) rfl rfl (Nat.le_of_eq (Nat.zero_add _)) P.1 (by omega) hM ⟨rfl, FR_refl, C⟩
theorem p_blame (C : CP G m S) (h7 : 7 ≤ b) (x : Int32) : CO l G k_P_blame [.int x] b m xA false (o_blame S x) := by
  obtain ⟨x8, y8, z8, a8, c8, h4⟩ := C.2.2.2.2.2.2.2
  refine t_P_blame_0 (fun z => ?_) (fun z => ?_) (fun z => ?_) (fun z => ?_)
  · subst z
    exact t_P_blame_28 C.1 (by omega) rfl h4 (by omega) rfl ⟨rfl, FR_refl, C⟩
  · subst z
    exact t_P_blame_36 C.1 (by omega) rfl h4 (by omega) rfl ⟨rfl, FR_refl, C⟩
  · subst z
    exact t_P_blame_44 C.1 (by omega) rfl h4 (by omega) rfl ⟨rfl, FR_refl, C⟩
  · refine t_P_blame_52 (CO_no (K := k_P_blame) (as := []) (ex := xA) (c := 1) C (if_pos ?_) (by omega)) h7
    rw [Int32.lt_iff_toInt_lt, Int32.lt_iff_toInt_lt]
    exact z
end CLS
