/-! the object's methods: type, add, addPacked, read -/
section CL3
variable {l : Launch} {G : mm_G} {m : mm_Mem} {b : Nat} {S : St}
theorem s_P_new (C : CP G m S) : mm_W l G k_P_isTypedNameNew 0 (lv_args 0 [.ref 1]) [] b m (fun v m2 => v = .inl (some (.int (bp (¬ refd S)))) ∧ m2 = m) := by
  obtain ⟨o, e, n, s, P, A⟩ := C.2.2.2.2.2.1
  have B := C.2.2.1
  have hM := s_X_numberOf (l := l) (b := 0) P B
  rw [AB_fnd A C.2.2.2.1] at hM
  have hN := s_N_isName (l := l) (b := 0) B (s := 0) (n := S.2.1.2) (by omega)
  have eN : (fun j => ub (nI (S.2.1.1 (0 + j)))) = S.2.1.1 := by
    funext j
    rw [Nat.zero_add]
    exact ub_nI (by have := C.2.2.2.1 j; omega)
  rw [eN] at hN
  refine t_P_isTypedNameNew_0 C.1 (by omega) rfl (Nat.le_of_eq (Nat.zero_add _)) B.1 (by omega) (s_B_size B) (Nat.le_of_eq (Nat.zero_add _)) hN (fun z => ?_) (fun z => ?_)
  · have z := b1_0.mp z
    refine t_P_isTypedNameNew_37 (t_P_isTypedNameNew_38 ⟨?_, rfl⟩ rfl)
    rw [bp_f (fun q => q (Or.inl z))]
  · have z := b1_n0 z
    refine t_P_isTypedNameNew_18 C.1 (by omega) rfl rfl (Nat.le_of_eq (Nat.zero_add _)) P.1 (by omega) hM (fun w => ?_) (fun w => ?_)
    · refine t_P_isTypedNameNew_37 (t_P_isTypedNameNew_38 ⟨?_, rfl⟩ rfl)
      rw [bp_f (fun q => q (Or.inr w))]
    · refine t_P_isTypedNameNew_33 (t_P_isTypedNameNew_38 ⟨?_, rfl⟩ rfl)
      rw [bp_t]
      rintro (q | q)
      · exact q z
      · exact q w
theorem s_P_enter (C : CP G m S) (h7 : 7 ≤ b) (me sz ck : Int32) : mm_W l G k_P_enter 0 (lv_args 0 [.ref 1, .int me, .int sz, .int ck]) [] b m (fun v m2 => (full S ∧ v = .inr "java/lang/IllegalStateException" ∧ m2 = m) ∨ (¬ full S ∧ v = .inl (some (.int (nI S.2.2.1.1))) ∧ FR 8 203 m m2 ∧ CP G m2 (put S me sz ck))) := by
  obtain ⟨o, e, n, s, P, A⟩ := C.2.2.2.2.2.1
  have B := C.2.1
  have hu := B.2.2.2.2.2.1
  have hk := P.2.2.2.2.2
  have B4 := C.2.2.1
  have hu4 := B4.2.2.2.2.2.1
  have hsum : s.2 = sum (fun i => (S.2.2.1.2 i).2.1.2) S.2.2.1.1 := A.2.2.2
  by_cases hf : full S
  · have hM := s_X_appendN (l := l) (b := 0) P (a := 0) (c := S.1.2) (by omega) (by unfold full at hf; rw [hsum]; exact hf)
    refine t_P_enter_0 C.1 (by omega) rfl rfl (Nat.le_of_eq (Nat.zero_add _)) B.1 (by omega) (s_B_size B) (Nat.le_of_eq (Nat.zero_add _)) P.1 (by omega) hM (fun E n hn => ?_) (fun v n2 hn => ?_)
    · cases hn.1
    · obtain ⟨e1, rfl⟩ := hn
      refine ⟨.null, by cases e1; rfl, t_P_enter_19 (Or.inl rfl) (fun r hr => nomatch hr) (fun _ => ?_)⟩
      exact t_P_enter_26 (Or.inl ⟨hf, rfl, rfl⟩) h7
  · have hf2 : S.2.2.1.1 < 64 ∧ s.2 + S.1.2 ≤ 65536 := by unfold full at hf; rw [hsum]; omega
    have hM := s_X_append (l := l) (b := 0) P B (a := 0) (c := S.1.2) (by omega) hf2.1 hf2.2
    refine t_P_enter_0 C.1 (by omega) rfl rfl (Nat.le_of_eq (Nat.zero_add _)) B.1 (by omega) (s_B_size B) (Nat.le_of_eq (Nat.zero_add _)) P.1 (by omega) hM (fun E n hn => ?_) (fun v m1 hn => ?_)
    · cases hn.1
    · obtain ⟨e1, F1, P1⟩ := hn
      refine ⟨.ref (10 + 3 * o S.2.2.1.1), by cases e1; rfl, t_P_enter_19 (Or.inr ⟨_, rfl⟩) (fun r hr => ?_) (fun z => nomatch z)⟩
      have ho := P.2.2.1 S.2.2.1.1 hf2.1
      obtain ⟨c1, c2⟩ := P1.2.2.2.1 (o S.2.2.1.1) ho
      rw [vup_s] at c1 c2
      have B1 := BY_fr B4 F1 (by omega) (by omega)
      have hPA := s_B_pushAll (l := l) (b := 0) (BL_nil c2) B1 (by omega) (by omega) (by omega) (by omega) (s := 0) (n := S.2.1.2) (by omega) (by simp; omega)
      rw [List.nil_append] at hPA
      have eBT : ∀ mm : mm_Mem, BT G mm (11 + 3 * o S.2.2.1.1) (12 + 3 * o S.2.2.1.1) 64 (n (o S.2.2.1.1)).1 0 (seg (fun j => nI (S.2.1.1 j)) 0 S.2.1.2) = BS G mm (11 + 3 * o S.2.2.1.1) (12 + 3 * o S.2.2.1.1) 64 (app (n (o S.2.2.1.1)).1 0 (seg (fun j => nI (S.2.1.1 j)) 0 S.2.1.2)) S.2.1.2 := fun mm => by unfold BT; rw [seg_len, Nat.zero_add]
      have hPA2 : mm_W l G k_B_pushAll 0 (lv_args 0 [.ref (11 + 3 * o S.2.2.1.1), .ref 4, .int (nI 0), .int (nI S.2.1.2)]) [] 0 m1 (mm_is (.inl none) (BS G m1 (11 + 3 * o S.2.2.1.1) (12 + 3 * o S.2.2.1.1) 64 (app (n (o S.2.2.1.1)).1 0 (seg (fun j => nI (S.2.1.1 j)) 0 S.2.1.2)) S.2.1.2)) := by
        rw [← eBT]
        exact hPA
      have hgb := app_tb (k := 0) c2.2.2.2.2.2.2.2 (seg_tb B4.2.2.2.2.2.2.2 0 S.2.1.2)
      have c3 : BS G m1 (11 + 3 * o S.2.2.1.1) (12 + 3 * o S.2.2.1.1) 64 (app (n (o S.2.2.1.1)).1 0 (seg (fun j => nI (S.2.1.1 j)) 0 S.2.1.2)) S.2.1.2 (10 + 3 * o S.2.2.1.1) = .inr (4, PE (o S.2.2.1.1) ((e (o S.2.2.1.1)).1, s.2, S.1.2, (e (o S.2.2.1.1)).2.2.2.1, (e (o S.2.2.1.1)).2.2.2.2)) := (BS_o (by omega) (by omega)).trans c1
      have P3 := PB_fill (g := app (n (o S.2.2.1.1)).1 0 (seg (fun j => nI (S.2.1.1 j)) 0 S.2.1.2)) (v := S.2.1.2) (a := s.2) P1 ho (by omega) hgb me sz ck
      have A3 := AB_add A hf2.1 (f := S.1.1) (g := app (n (o S.2.2.1.1)).1 0 (seg (fun j => nI (S.2.1.1 j)) 0 S.2.1.2)) (a := 0) (c := S.1.2) (nl := S.2.1.2) (nm := S.2.1.1) me sz ck (fun j hj => by
        have e0 := app_seg (g := (n (o S.2.2.1.1)).1) (f := fun j => nI (S.2.1.1 j)) (k := 0) (s := 0) (n := S.2.1.2) hj
        rw [Nat.zero_add] at e0
        exact ⟨e0, C.2.2.2.1 j⟩)
      have F3 : FR 8 203 m (va_up (BS G m1 (11 + 3 * o S.2.2.1.1) (12 + 3 * o S.2.2.1.1) 64 (app (n (o S.2.2.1.1)).1 0 (seg (fun j => nI (S.2.1.1 j)) 0 S.2.1.2)) S.2.1.2) (10 + 3 * o S.2.2.1.1) (.inr (4, PE (o S.2.2.1.1) (me, s.2, S.1.2, sz, ck)))) := FR_tr F1 (FR_tr (FR_BS (by omega) (by omega) (by omega) (by omega)) (FR_up (by omega) (by omega)))
      have C3 := CP_box C F3 ⟨_, _, _, _, P3, A3⟩
      refine t_P_enter_36 c1 (by omega) rfl ((F1 1 (by omega)).trans C.1) (by omega) rfl (Nat.le_of_eq (Nat.zero_add _)) B1.1 (by omega) (s_B_size B1) (Nat.le_of_eq (Nat.zero_add _)) c2.1 (by omega) hPA2 (Nat.le_of_eq (Nat.zero_add _)) c3 (s_E_describe c3 (by omega) me sz ck) C3.1 rfl (Nat.le_of_eq (Nat.zero_add _)) P3.1 (by omega) (s_X_size P3) (Or.inr ⟨hf, by rw [nI_pred], F3, C3⟩)
theorem p_add (C : CP G m S) (h7 : 7 ≤ b) : CO l G k_P_add [] b m xAI false (o_add S) := by
  have B := C.2.1
  obtain ⟨T, K⟩ := C.2.2.2.2.1
  refine t_P_add_0 (Nat.le_of_eq (Nat.zero_add _)) C.1 (by omega) (s_P_new C) (fun E n hn => ?_) (fun v n hn => ?_)
  · cases hn.1
  · obtain ⟨e1, rfl⟩ := hn
    refine ⟨bp (¬ refd S), by cases e1; rfl, t_P_add_4 (fun z => ?_) (fun z => ?_)⟩
    · have z := bp_n0 z
      have hM := s_P_enter (l := l) (b := 7) C (Nat.le_refl _) 0 (nI S.1.2) (crc S.1.1 0 S.1.2 ^^^ (-1))
      refine t_P_add_17 C.1 (by omega) rfl (Nat.le_of_eq (Nat.zero_add _)) B.1 (by omega) (s_B_size B) C.1 rfl rfl (Nat.le_of_eq (Nat.zero_add _)) B.1 (by omega) (s_B_size B) (Nat.le_of_eq (Nat.zero_add _)) K.1 (by omega) (s_C_checkOf K B (s := 0) (n := S.1.2) (by omega)) (show 7 + (b - 7) ≤ b by omega) C.1 hM (fun E n2 hn => ?_) (fun v n2 hn => ?_)
      · rcases hn with ⟨q1, q2, rfl⟩ | ⟨-, q, -⟩
        · cases q2
          have hr : o_add S = (2, 0, S) := by unfold o_add; rw [ifc_f z, ifc_t q1]
          exact mm_outX rfl (CO_no (K := k_P_add) (as := []) (ex := xAI) (c := 2) C hr (by omega))
        · cases q
      · rcases hn with ⟨-, q, -⟩ | ⟨q1, q2, F1, C2⟩
        · cases q
        · have hr : o_add S = (0, nI S.2.2.1.1, put S 0 (nI S.1.2) (crc S.1.1 0 S.1.2 ^^^ (-1))) := by unfold o_add; rw [ifc_f z, ifc_f q1]
          rw [hr]
          exact ⟨_, by cases q2; rfl, t_P_add_48 ⟨rfl, FR_wide F1 (by omega) (by omega), C2⟩⟩
    · have z := bp_0.mp z
      have hr : o_add S = (1, 0, S) := ifc_t (Classical.not_not.mp z)
      exact t_P_add_7 (CO_no (K := k_P_add) (as := []) (ex := xAI) (c := 1) C hr (by omega)) h7
theorem p_addPacked (C : CP G m S) (h7 : 7 ≤ b) (x y : Int32) : CO l G k_P_addPacked [.int x, .int y] b m xAI false (o_addPacked S x y) := by
  have hno : (refd S ∨ x < 0) → mm_W l G k_P_addPacked 11 [] [] b m (fun v m2 => v = rv xAI false (o_addPacked S x y) ∧ FR 1 335 m m2 ∧ CP G m2 (o_addPacked S x y).2.2) := fun q => t_P_addPacked_11 (CO_no (K := k_P_addPacked) (as := []) (ex := xAI) (c := 1) C (ifc_t q) (by omega)) h7
  refine t_P_addPacked_0 (Nat.le_of_eq (Nat.zero_add _)) C.1 (by omega) (s_P_new C) (fun E n hn => ?_) (fun v n hn => ?_)
  · cases hn.1
  · obtain ⟨e1, rfl⟩ := hn
    refine ⟨bp (¬ refd S), by cases e1; rfl, t_P_addPacked_4 (fun z => hno (Or.inl (Classical.not_not.mp (bp_0.mp z)))) (fun z => ?_)⟩
    have z := bp_n0 z
    refine t_P_addPacked_7 (fun w => ?_) (fun w => hno (Or.inr (i_nle.mp w)))
    have hnr : ¬ (refd S ∨ x < 0) := by
      rintro (q | q)
      · exact z q
      · exact i_nlt.mpr w q
    refine t_P_addPacked_21 (show 7 + (b - 7) ≤ b by omega) C.1 (by omega) (s_P_enter (b := 7) C (Nat.le_refl _) 8 x y) (fun E n2 hn => ?_) (fun v n2 hn => ?_)
    · rcases hn with ⟨q1, q2, rfl⟩ | ⟨-, q, -⟩
      · cases q2
        have hr : o_addPacked S x y = (2, 0, S) := by unfold o_addPacked; rw [ifc_f hnr, ifc_t q1]
        exact mm_outX rfl (CO_no (K := k_P_addPacked) (as := []) (ex := xAI) (c := 2) C hr (by omega))
      · cases q
    · rcases hn with ⟨-, q, -⟩ | ⟨q1, q2, F1, C2⟩
      · cases q
      · have hr : o_addPacked S x y = (0, nI S.2.2.1.1, put S 8 x y) := by unfold o_addPacked; rw [ifc_f hnr, ifc_f q1]
        rw [hr]
        exact ⟨_, by cases q2; rfl, t_P_addPacked_29 ⟨rfl, FR_wide F1 (by omega) (by omega), C2⟩⟩
/-- read(x): by an order of the heads -/
theorem p_read (C : CP G m S) (h7 : 7 ≤ b) (x : Int32) : mm_W l G k_P_read 0 (lv_args 0 [.ref 1, .int x]) [] b m (fun v m2 => ∃ q, (¬ (x < 0 ∨ 65536 < x) → spq S.1.1 S.1.2 x.toNatClampNeg q) ∧ v = rv xA false (o_read S x q) ∧ FR 1 335 m m2 ∧ CP G m2 (o_read S x q).2.2) := by
  have B := C.2.1
  have hu := B.2.2.2.2.2.1
  obtain ⟨T, K⟩ := C.2.2.2.2.1
  obtain ⟨o, e, n, s, P, A⟩ := C.2.2.2.2.2.1
  have hR := C.2.2.2.2.2.2.1
  obtain ⟨x8, y8, z8, a8, c8, h4⟩ := C.2.2.2.2.2.2.2
  have hno : (x < 0 ∨ 65536 < x) → mm_W l G k_P_read 10 [] [] b m (fun v m2 => ∃ q, (¬ (x < 0 ∨ 65536 < x) → spq S.1.1 S.1.2 x.toNatClampNeg q) ∧ v = rv xA false (o_read S x q) ∧ FR 1 335 m m2 ∧ CP G m2 (o_read S x q).2.2) := by
    intro q
    exact t_P_read_10 ⟨fun _ => 0, fun z => absurd q z, CO_no (K := k_P_read) (as := []) (ex := xA) (c := 1) C (if_pos q) (by omega)⟩ h7
  refine t_P_read_0 (fun z => hno (Or.inl z)) (fun z => t_P_read_4 (fun w => ?_) (fun w => hno (Or.inr (i_nle.mp w))))
  have hok : ¬ (x < 0 ∨ 65536 < x) := by
    rintro (q | q)
    · exact z q
    · exact i_nlt.mpr w q
  obtain ⟨lim, hlim, rfl⟩ := i_nat (N := 65536) z w (by omega)
  have hc : (nI lim).toNatClampNeg = lim := nI_clamp (by omega)
  have hor : ∀ q, o_read S (nI lim) q = o_rd S (rd S.1.1 S.1.2 lim q) := fun q => by
    unfold o_read
    rw [if_neg hok, hc]
  refine t_P_read_20 C.1 (by omega) rfl (Nat.le_of_eq (Nat.zero_add _)) h4 (by omega) (s_R_findsNoFault hR K B h4 hlim) (fun E n hn => ?_) (fun v m1 hn => ?_)
  · rcases hn with ⟨-, -, q, -, ⟨r, -, e1, -⟩ | ⟨-, e1, -⟩⟩ <;> cases e1
  · obtain ⟨F1, R1, q, hq, ⟨r, e1, e2, x1, x2, x3, x4, x5, h41⟩ | ⟨e1, e2, p, x4, x5, ⟨g1, g2, g3, g4, g5⟩, D, E, h41⟩⟩ := hn
    · have C1 := CP_reader C F1 R1 ⟨_, _, _, _, _, h41⟩
      refine ⟨0, by cases e2; rfl, t_P_read_28 (fun _ => ?_) (fun z => absurd rfl z)⟩
      refine t_P_read_42 C1.1 (by omega) rfl h41 (by omega) rfl ⟨q, fun _ => by rw [hc]; exact hq, ?_⟩
      rw [hor, e1]
      exact ⟨rfl, FR_wide F1 (by omega) (by omega), C1⟩
    · have C1 := CP_reader C F1 R1 ⟨_, _, _, _, _, h41⟩
      refine ⟨1, by cases e2; rfl, t_P_read_28 (fun z => absurd z (by decide)) (fun _ => ?_)⟩
      have hp := lend_lt g1
      obtain ⟨hh, hd, h8⟩ := ebad_n g2
      have P1 := PB_eq P (fun a h1 h2 => F1 a (by omega))
      have hbe : ∀ j, j < le S.1.1 (p + 10) 2 → bend S.1.1 (le S.1.1 (p + 16) 4) j ≤ S.1.2 := fun j hj => by have := (bok_le (g4 j hj).2).1; omega
      have hnm : ∀ j, j < le S.1.1 (p + 10) 2 → isNm (dnm S.1.1 (le S.1.1 (p + 16) 4) j) (dnl S.1.1 (le S.1.1 (p + 16) 4) j) = true := fun j hj => by
        have k3 := (dflt_0 (g3 j hj)).2.2.1
        cases hb : isNm (dnm S.1.1 (le S.1.1 (p + 16) 4) j) (dnl S.1.1 (le S.1.1 (p + 16) 4) j) with
        | true => rfl
        | false => exact absurd (Or.inl hb) k3
      have hsum : sum (dbc S.1.1 (le S.1.1 (p + 16) 4)) (le S.1.1 (p + 10) 2) ≤ 65536 := by
        by_cases q0 : le S.1.1 (p + 10) 2 = 0
        · rw [q0]; simp [sum]
        · have h1 := (dbc_le (g3 (le S.1.1 (p + 10) 2 - 1) (by omega))).1
          rw [show le S.1.1 (p + 10) 2 - 1 + 1 = le S.1.1 (p + 10) 2 by omega] at h1
          omega
      refine t_P_read_31 C1.1 (by omega) rfl rfl (Nat.le_of_eq (Nat.zero_add _)) h41 (by omega) (s_R_unpackInto (f := S.1.1) (u := S.1.2) R1 C1.2.1 h41 D E hh (by omega) hbe hnm hsum P1 A) (fun E n hn => ?_) (fun v m2 hn => ?_)
      · cases hn.1
      · obtain ⟨e3, F2, hPA⟩ := hn
        have C2 := CP_box C1 F2 hPA
        refine ⟨by cases e3; rfl, t_P_read_42 C2.1 (by omega) rfl ((F2 204 (by omega)).trans h41) (by omega) rfl ⟨q, fun _ => by rw [hc]; exact hq, ?_⟩⟩
        have eg : got S = (le S.1.1 (p + 10) 2, re S.1.1 (le S.1.1 (p + 16) 4)) := by
          unfold got
          rw [g1]
        have er : o_rd S none = (0, 0, S.1, S.2.1, (le S.1.1 (p + 10) 2, re S.1.1 (le S.1.1 (p + 16) 4)), 0, -1, -1) := by
          show (0, 0, S.1, S.2.1, got S, 0, -1, -1) = _
          rw [eg]
        rw [hor, e1, er]
        exact ⟨rfl, FR_tr (FR_wide F1 (by omega) (by omega)) (FR_wide F2 (by omega) (by omega)), C2⟩
/-- one letter of type's first walk -/
theorem ty1 (w : Int32) (k : Int32) (c : Nat) {Q : mm_O → mm_Mem → Prop} (h7 : 7 ≤ b) (H : bl (lt w k) = false → mm_W l G k_P_type 50 [(0, .ref 1), (1, .int w), (2, .int (nI (c + lc (lt w k)))), (3, .int k)] [] b m Q) (Hb : bl (lt w k) = true → Q (.inr "java/lang/IllegalArgumentException") m) : mm_W l G k_P_type 9 [(0, .ref 1), (1, .int w), (2, .int (nI c)), (3, .int k)] [] b m Q := by
  have hl := ub_lt (sh w k)
  have el : sh w k &&& 255 = nI (lt w k) := ub_and _
  have e0 : nI (lt w k) = 0 ↔ lt w k = 0 := nI_eq (b := 0) (by unfold lt; omega) (by omega)
  refine t_P_type_9 (fun z => ?_) (fun z => ?_)
  · have z := e0.mp (el.symm.trans z)
    have h := H (by unfold bl; simp [z])
    unfold lc at h
    rw [if_pos z] at h
    exact h
  · have z : ¬ lt w k = 0 := fun q => z (el.trans (e0.mpr q))
    rw [show ((w.toUInt32 >>> (k.toUInt32 &&& Int32.toUInt32 31)).toInt32 &&& 255) = nI (lt w k) from el]
    refine t_P_type_23 (fun z2 => ?_) (fun z2 => ?_)
    · have z2 : lt w k < 33 := (nI_ltI (b := 33) (by unfold lt; omega) (by omega)).mp z2
      exact t_P_type_37 (Hb (by unfold bl; simp [z, z2])) h7
    · have z2 : ¬ lt w k < 33 := fun q => z2 ((nI_ltI (b := 33) (by unfold lt; omega) (by omega)).mpr q)
      refine t_P_type_30 (fun z3 => ?_) (fun z3 => ?_)
      · have z3 : lt w k ≤ 126 := (nI_leI (b := 126) (by unfold lt; omega) (by omega)).mp z3
        have h := H (by unfold bl; simp [z2]; omega)
        unfold lc at h
        rw [if_neg z] at h
        refine t_P_type_47 ?_
        rw [nI_1]
        exact h
      · have z3 : ¬ lt w k ≤ 126 := fun q => z3 ((nI_leI (b := 126) (by unfold lt; omega) (by omega)).mpr q)
        exact t_P_type_37 (Hb (by unfold bl; simp [z]; omega)) h7
theorem pt_lt {T : (Nat → Nat) × Nat} {c : Nat} (h : ∀ j, T.1 j < 128) (hc : bl c = false) : ∀ j, (pt T c).1 j < 128 := by
  intro j
  unfold pt
  by_cases q : c = 0
  · rw [if_pos q]; exact h j
  · rw [if_neg q]
    show va_up T.1 T.2 c j < 128
    by_cases q2 : j = T.2
    · rw [q2, vup_s]
      unfold bl at hc
      simp [q] at hc
      omega
    · rw [vup_n q2]; exact h j
theorem pt_n (T : (Nat → Nat) × Nat) (c : Nat) : (pt T c).2 = T.2 + lc c := by
  unfold pt lc
  by_cases q : c = 0
  · rw [if_pos q, if_pos q]; rfl
  · rw [if_neg q, if_neg q]
theorem tb_small {c : Nat} (h : c < 128) : tb (nI c) = nI c := by
  unfold tb
  rw [← Int32.toInt_inj, Int8.toInt_toInt32, Int32.toInt_toInt8, nI_toInt (by omega)]
  exact Int.bmod_eq_of_le (by omega) (by omega)
/-- one letter of type's second walk -/
theorem ty2 (C : CP G m S) (w : Int32) (k : Int32) (T : (Nat → Nat) × Nat) (hT : ∀ j, T.1 j < 128) (hb : bl (lt w k) = false) (hn : T.2 + lc (lt w k) ≤ 64) {Q : mm_O → mm_Mem → Prop} (H : mm_W l G k_P_type 107 [(0, .ref 1), (1, .int w), (3, .int k)] [] b (BS G m 4 5 64 (fun j => nI ((pt T (lt w k)).1 j)) (pt T (lt w k)).2) Q) : mm_W l G k_P_type 84 [(0, .ref 1), (1, .int w), (3, .int k)] [] b (BS G m 4 5 64 (fun j => nI (T.1 j)) T.2) Q := by
  have hl := ub_lt (sh w k)
  have el : sh w k &&& 255 = nI (lt w k) := ub_and _
  have e0 : nI (lt w k) = 0 ↔ lt w k = 0 := nI_eq (b := 0) (by unfold lt; omega) (by omega)
  refine t_P_type_84 (fun z => ?_) (fun z => ?_)
  · have z := e0.mp (el.symm.trans z)
    have e : pt T (lt w k) = T := if_pos z
    rw [e] at H
    exact H
  · have z : ¬ lt w k = 0 := fun q => z (el.trans (e0.mpr q))
    rw [show ((w.toUInt32 >>> (k.toUInt32 &&& Int32.toUInt32 31)).toInt32 &&& 255) = nI (lt w k) from el]
    have e : pt T (lt w k) = (va_up T.1 T.2 (lt w k), T.2 + 1) := if_neg z
    have h1 : lt w k < 128 := by
      unfold bl at hb
      simp [z] at hb
      omega
    unfold lc at hn
    rw [if_neg z] at hn
    have C1 := CP_typed (f := fun j => nI (T.1 j)) (g := T.1) (u := T.2) C (by omega) (fun _ => rfl) (fun j => by have := tb_small (hT j); unfold tb at this; exact this) hT
    have hP := s_B_push (l := l) (b := 0) C1.2.2.1 (show T.2 < 64 by omega) (nI (lt w k))
    have eU : BS G (BS G m 4 5 64 (fun j => nI (T.1 j)) T.2) 4 5 64 (upd (fun j => nI (T.1 j)) T.2 (tb (nI (lt w k)))) (T.2 + 1) = BS G m 4 5 64 (fun j => nI ((pt T (lt w k)).1 j)) (pt T (lt w k)).2 := by
      rw [BS_BS (by omega), e, tb_small h1]
      congr 1
      funext j
      show upd (fun j => nI (T.1 j)) T.2 (nI (lt w k)) j = nI (va_up T.1 T.2 (lt w k) j)
      by_cases q : j = T.2
      · rw [q, upd_s, vup_s]
      · rw [upd_n q, vup_n q]
    have hP2 : mm_W l G k_B_push 0 (lv_args 0 [.ref 4, .int (nI (lt w k))]) [] 0 (BS G m 4 5 64 (fun j => nI (T.1 j)) T.2) (mm_is (.inl none) (BS G m 4 5 64 (fun j => nI ((pt T (lt w k)).1 j)) (pt T (lt w k)).2)) := by
      rw [← eU]
      exact hP
    exact t_P_type_98 C1.1 (by omega) rfl (Nat.le_of_eq (Nat.zero_add _)) C1.2.2.1.1 (by omega) hP2 H
theorem p_type (C : CP G m S) (h7 : 7 ≤ b) (w : Int32) : CO l G k_P_type [.int w] b m xAI false (o_type S w) := by
  have B := C.2.2.1
  have hu := B.2.2.2.2.2.1
  have hbad : (bl (lt w 24) = true ∨ bl (lt w 16) = true ∨ bl (lt w 8) = true ∨ bl (lt w 0) = true) → (Sum.inr "java/lang/IllegalArgumentException" : mm_O) = rv xAI false (o_type S w) ∧ FR 1 335 m m ∧ CP G m (o_type S w).2.2 := fun q => CO_no (K := k_P_type) (as := []) (ex := xAI) (c := 1) C (if_pos q) (by omega)
  refine t_P_type_0 (t_P_type_5 (fun z => absurd z (by decide)) (fun _ => ?_))
  refine ty1 w 24 0 h7 (fun b1 => t_P_type_50 (t_P_type_5 (fun z => absurd z (by decide)) (fun _ => ?_))) (fun q => hbad (Or.inl q))
  refine ty1 w 16 _ h7 (fun b2 => t_P_type_50 (t_P_type_5 (fun z => absurd z (by decide)) (fun _ => ?_))) (fun q => hbad (Or.inr (Or.inl q)))
  refine ty1 w 8 _ h7 (fun b3 => t_P_type_50 (t_P_type_5 (fun z => absurd z (by decide)) (fun _ => ?_))) (fun q => hbad (Or.inr (Or.inr (Or.inl q))))
  refine ty1 w 0 _ h7 (fun b4 => t_P_type_50 (t_P_type_5 (fun _ => ?_) (fun z => absurd (by decide) z))) (fun q => hbad (Or.inr (Or.inr (Or.inr q))))
  have hnb : ¬ (bl (lt w 24) = true ∨ bl (lt w 16) = true ∨ bl (lt w 8) = true ∨ bl (lt w 0) = true) := by
    rw [b1, b2, b3, b4]
    decide
  have l1 : ∀ c, lc c ≤ 1 := fun c => by unfold lc; split <;> omega
  have n1 := l1 (lt w 24)
  have n2 := l1 (lt w 16)
  have n3 := l1 (lt w 8)
  have n4 := l1 (lt w 0)
  refine t_P_type_56 C.1 (by omega) rfl (Nat.le_of_eq (Nat.zero_add _)) B.1 (by omega) (s_B_free B) (fun z => ?_) (fun z => ?_)
  · have z := (nI_leI (by omega) (by omega)).mp z
    have hr : o_type S w = (0, nI (S.2.1.2 + (lc (lt w 24) + lc (lt w 16) + lc (lt w 8) + lc (lt w 0))), S.1, pt (pt (pt (pt S.2.1 (lt w 24)) (lt w 16)) (lt w 8)) (lt w 0), S.2.2) := by
      unfold o_type
      rw [if_neg hnb, if_neg (by omega)]
    rw [hr]
    have t1 := pt_lt C.2.2.2.1 b1
    have t2 := pt_lt t1 b2
    have t3 := pt_lt t2 b3
    have t4 := pt_lt t3 b4
    have m1 := pt_n S.2.1 (lt w 24)
    have m2 := pt_n (pt S.2.1 (lt w 24)) (lt w 16)
    have m3 := pt_n (pt (pt S.2.1 (lt w 24)) (lt w 16)) (lt w 8)
    have m4 := pt_n (pt (pt (pt S.2.1 (lt w 24)) (lt w 16)) (lt w 8)) (lt w 0)
    have e0 : BS G m 4 5 64 (fun j => nI (S.2.1.1 j)) S.2.1.2 = m := BS_id B
    refine mm_eqm e0 ?_
    refine t_P_type_77 (t_P_type_80 (fun z => absurd z (by decide)) (fun _ => ?_))
    refine ty2 C w 24 S.2.1 C.2.2.2.1 b1 (by omega) (t_P_type_107 (t_P_type_80 (fun z => absurd z (by decide)) (fun _ => ?_)))
    refine ty2 C w 16 _ t1 b2 (by omega) (t_P_type_107 (t_P_type_80 (fun z => absurd z (by decide)) (fun _ => ?_)))
    refine ty2 C w 8 _ t2 b3 (by omega) (t_P_type_107 (t_P_type_80 (fun z => absurd z (by decide)) (fun _ => ?_)))
    refine ty2 C w 0 _ t3 b4 (by omega) (t_P_type_107 (t_P_type_80 (fun _ => ?_) (fun z => absurd (by decide) z)))
    have C1 := CP_typed (f := fun j => nI ((pt (pt (pt (pt S.2.1 (lt w 24)) (lt w 16)) (lt w 8)) (lt w 0)).1 j)) (g := (pt (pt (pt (pt S.2.1 (lt w 24)) (lt w 16)) (lt w 8)) (lt w 0)).1) (u := (pt (pt (pt (pt S.2.1 (lt w 24)) (lt w 16)) (lt w 8)) (lt w 0)).2) C (by omega) (fun _ => rfl) (fun j => by have := tb_small (t4 j); unfold tb at this; exact this) t4
    refine t_P_type_113 C1.1 (by omega) rfl (Nat.le_of_eq (Nat.zero_add _)) C1.2.2.1.1 (by omega) (s_B_size C1.2.2.1) ⟨?_, FR_BS (by omega) (by omega) (by omega) (by omega), C1⟩
    have e1 : (pt (pt (pt (pt S.2.1 (lt w 24)) (lt w 16)) (lt w 8)) (lt w 0)).2 = S.2.1.2 + (lc (lt w 24) + lc (lt w 16) + lc (lt w 8) + lc (lt w 0)) := by omega
    rw [show ((S.1, ((pt (pt (pt (pt S.2.1 (lt w 24)) (lt w 16)) (lt w 8)) (lt w 0)).1, (pt (pt (pt (pt S.2.1 (lt w 24)) (lt w 16)) (lt w 8)) (lt w 0)).2), S.2.2) : St).2.1.2 = S.2.1.2 + (lc (lt w 24) + lc (lt w 16) + lc (lt w 8) + lc (lt w 0)) from e1]
    rfl
  · have z := fun q => z ((nI_leI (by omega) (by omega)).mpr q)
    have hr : o_type S w = (2, 0, S) := by
      unfold o_type
      rw [if_neg hnb, if_pos (by have := Nat.lt_of_not_le z; omega)]
    exact t_P_type_67 (CO_no (K := k_P_type) (as := []) (ex := xAI) (c := 2) C hr (by omega)) h7
end CL3
