/-! the reader: its cells 204 .. 335, the end and the directory -/
def RF (t : Int32 × Int32 × Int32) (x y z : Int32) (a b : Int64) : List Value := [.ref 2, .ref 6, .ref 205, .ref 334, .ref 335, .int t.1, .int t.2.1, .int t.2.2, .int x, .int y, .int z, .long a, .long b]
abbrev arG (G : mm_G) (F : Nat → Option Nat) : va_E := .inl (G.2 5, 64, .inr (.inr (.inr (.inr F))))
def RS (G : mm_G) (m : mm_Mem) : Prop := (∃ F, m 205 = arG G F ∧ ∀ j, j < 64 → F j = some (206 + 2 * j)) ∧ (∀ j, j < 64 → (∃ w1 w2 w3 w4 w5, m (206 + 2 * j) = .inr (6, [.ref (207 + 2 * j), w1, w2, w3, w4, w5])) ∧ ∃ v0 v1 v2 v3 v4 v5 v6, m (207 + 2 * j) = .inr (5, [v0, v1, v2, v3, v4, v5, v6])) ∧ (∃ v0 v1 v2 v3 v4 v5 v6, m 334 = .inr (5, [v0, v1, v2, v3, v4, v5, v6])) ∧ ∃ od, m 335 = .inl (G.2 1, 64, .inl od)
/-- what the directory has given of the first h entries -/
def FD (m : mm_Mem) (f : Nat → Int32) (p d h : Nat) : Prop := ∀ j, j < h → (∃ fb en, m (206 + 2 * j) = .inr (6, GL (207 + 2 * j) f (dp f d j) fb en)) ∧ m (207 + 2 * j) = .inr (5, FL f (dp f d j + 6)) ∧ dp f d (j + 1) ≤ p
noncomputable def endr (f : Nat → Int32) (u : Nat) : Fl := match lend f u (u - 21) with
  | none => some (1, nI u, -1)
  | some p => ifc (ebad f p) (some (2, nI p, -1)) none
def oi (o : Option Nat) : Int32 := match o with
  | none => -1
  | some p => nI p
section RDR
variable {l : Launch} {G : mm_G} {m m2 : mm_Mem} {b : Nat} {f : Nat → Int32} {u : Nat} {t : Int32 × Int32 × Int32} {x y z : Int32} {ab az : Int64}
theorem RS_eq (R : RS G m) (h : ∀ a, 205 ≤ a → a ≤ 335 → m2 a = m a) : RS G m2 := by
  obtain ⟨⟨F, r1, r2⟩, r3, ⟨v0, v1, v2, v3, v4, v5, v6, r4⟩, od, r5⟩ := R
  refine ⟨⟨F, (h _ (by omega) (by omega)).trans r1, r2⟩, fun j hj => ?_, ⟨v0, v1, v2, v3, v4, v5, v6, (h _ (by omega) (by omega)).trans r4⟩, od, (h _ (by omega) (by omega)).trans r5⟩
  obtain ⟨⟨w1, w2, w3, w4, w5, a1⟩, v0, v1, v2, v3, v4, v5, v6, a2⟩ := r3 j hj
  exact ⟨⟨w1, w2, w3, w4, w5, (h _ (by omega) (by omega)).trans a1⟩, v0, v1, v2, v3, v4, v5, v6, (h _ (by omega) (by omega)).trans a2⟩
theorem RS_4 (R : RS G m) {x : va_E} : RS G (va_up m 204 x) := RS_eq R (fun a h1 h2 => up_n (by omega))
theorem FD_4 {p d h : Nat} (R : FD m f p d h) {x : va_E} : FD (va_up m 204 x) f p d h := by
  intro j hj
  obtain ⟨⟨fb, en, a1⟩, a2, a3⟩ := R j hj
  exact ⟨⟨fb, en, (up_n (by omega)).trans a1⟩, (up_n (by omega)).trans a2, a3⟩
theorem RS_G (R : RS G m) {i : Nat} (hi : i < 64) {w1 w2 w3 w4 w5 : Value} : RS G (va_up m (206 + 2 * i) (.inr (6, [.ref (207 + 2 * i), w1, w2, w3, w4, w5]))) := by
  obtain ⟨⟨F, r1, r2⟩, r3, ⟨v0, v1, v2, v3, v4, v5, v6, r4⟩, od, r5⟩ := R
  refine ⟨⟨F, (up_n (by omega)).trans r1, r2⟩, fun j hj => ?_, ⟨v0, v1, v2, v3, v4, v5, v6, (up_n (by omega)).trans r4⟩, od, (up_n (by omega)).trans r5⟩
  obtain ⟨⟨a1, a2, a3, a4, a5, a6⟩, v0, v1, v2, v3, v4, v5, v6, a7⟩ := r3 j hj
  refine ⟨?_, v0, v1, v2, v3, v4, v5, v6, (up_n (by omega)).trans a7⟩
  by_cases q : j = i
  · subst q
    exact ⟨w1, w2, w3, w4, w5, up_s⟩
  · exact ⟨a1, a2, a3, a4, a5, (up_n (by omega)).trans a6⟩
theorem RS_F (R : RS G m) {i : Nat} (hi : i < 64) {w0 w1 w2 w3 w4 w5 w6 : Value} : RS G (va_up m (207 + 2 * i) (.inr (5, [w0, w1, w2, w3, w4, w5, w6]))) := by
  obtain ⟨⟨F, r1, r2⟩, r3, ⟨v0, v1, v2, v3, v4, v5, v6, r4⟩, od, r5⟩ := R
  refine ⟨⟨F, (up_n (by omega)).trans r1, r2⟩, fun j hj => ?_, ⟨v0, v1, v2, v3, v4, v5, v6, (up_n (by omega)).trans r4⟩, od, (up_n (by omega)).trans r5⟩
  obtain ⟨⟨a1, a2, a3, a4, a5, a6⟩, v0, v1, v2, v3, v4, v5, v6, a7⟩ := r3 j hj
  refine ⟨⟨a1, a2, a3, a4, a5, (up_n (by omega)).trans a6⟩, ?_⟩
  by_cases q : j = i
  · subst q
    exact ⟨w0, w1, w2, w3, w4, w5, w6, up_s⟩
  · exact ⟨v0, v1, v2, v3, v4, v5, v6, (up_n (by omega)).trans a7⟩
theorem RS_334 (R : RS G m) {w0 w1 w2 w3 w4 w5 w6 : Value} : RS G (va_up m 334 (.inr (5, [w0, w1, w2, w3, w4, w5, w6]))) := by
  obtain ⟨⟨F, r1, r2⟩, r3, -, od, r5⟩ := R
  refine ⟨⟨F, (up_n (by omega)).trans r1, r2⟩, fun j hj => ?_, ⟨w0, w1, w2, w3, w4, w5, w6, up_s⟩, od, (up_n (by omega)).trans r5⟩
  obtain ⟨⟨a1, a2, a3, a4, a5, a6⟩, v0, v1, v2, v3, v4, v5, v6, a7⟩ := r3 j hj
  exact ⟨⟨a1, a2, a3, a4, a5, (up_n (by omega)).trans a6⟩, v0, v1, v2, v3, v4, v5, v6, (up_n (by omega)).trans a7⟩
theorem RS_335 (R : RS G m) {od2 : Nat → Int32} : RS G (va_up m 335 (.inl (G.2 1, 64, .inl od2))) := by
  obtain ⟨⟨F, r1, r2⟩, r3, ⟨v0, v1, v2, v3, v4, v5, v6, r4⟩, -⟩ := R
  refine ⟨⟨F, (up_n (by omega)).trans r1, r2⟩, fun j hj => ?_, ⟨v0, v1, v2, v3, v4, v5, v6, (up_n (by omega)).trans r4⟩, od2, up_s⟩
  obtain ⟨⟨a1, a2, a3, a4, a5, a6⟩, v0, v1, v2, v3, v4, v5, v6, a7⟩ := r3 j hj
  exact ⟨⟨a1, a2, a3, a4, a5, (up_n (by omega)).trans a6⟩, v0, v1, v2, v3, v4, v5, v6, (up_n (by omega)).trans a7⟩
theorem s_R_note (h : m 204 = .inr (7, RF t x y z ab az)) (i j k : Int32) : mm_W l G k_R_note 0 (lv_args 0 [.ref 204, .int i, .int j, .int k]) [] b m (mm_is (.inl (some (.int 0))) (va_up m 204 (.inr (7, RF (i, j, k) x y z ab az)))) := by
  refine t_R_note_0 h (by omega) (Nat.le_of_ble_eq_true rfl) up_s (Nat.le_of_ble_eq_true rfl) up_s (Nat.le_of_ble_eq_true rfl) ⟨rfl, ?_⟩ rfl
  rw [up_uu, up_uu]
  rfl
theorem hmark (B : BY G m 2 3 65536 f u) {a : Nat} (ha : a < 2 ^ 30) (x : Int32) : mm_W l G k_B_hasMark 0 (lv_args 0 [.ref 2, .int (nI a), .int x]) [] b m (mm_is (.inl (some (.int (bp (mk f u a x 4))))) m) := by
  haveI := Classical.propDecidable (mk f u a x 4)
  have h := s_B_hasMark (l := l) (b := b) B ha x
  rw [bp_b1] at h
  exact h
theorem L_R_lastEnd (h : m 204 = .inr (7, RF t x y z ab az)) (B : BY G m 2 3 65536 f u) : ∀ a, a + 21 ≤ u → mm_W l G k_R_lastEnd 11 [(0, .ref 204), (1, .int (nI a - 1))] [] b m (mm_is (.inl (some (.int (oi (lend f u a))))) m) := by
  have hu := B.2.2.2.2.2.1
  intro a
  induction a with
  | zero =>
    intro _
    exact t_R_lastEnd_11 (fun _ => t_R_lastEnd_66 ⟨rfl, rfl⟩) (fun z => absurd (by decide) z)
  | succ a ih =>
    intro ha
    rw [nI_pred]
    have hgo : ∀ (_ : lend f u (a + 1) = lend f u a), mm_W l G k_R_lastEnd 60 [(0, .ref 204), (1, .int (nI a))] [] b m (mm_is (.inl (some (.int (oi (lend f u (a + 1)))))) m) := by
      intro q
      refine t_R_lastEnd_60 ?_
      rw [i_m1, q]
      exact ih (by omega)
    refine t_R_lastEnd_11 (fun z => absurd z (nI_pos (by omega))) (fun _ => ?_)
    have l2 := le2 f (a + 20)
    refine t_R_lastEnd_15 h (by omega) rfl (Nat.le_of_eq (Nat.zero_add _)) B.1 (by omega) (hmark B (a := a) (by omega) 101010256) (fun z => ?_) (fun z => ?_)
    · have z := bp_0.mp z
      rw [mk_end (by omega) (by omega)] at z
      exact hgo (ifc_f (fun q => z q.1))
    · have z := bp_n0 z
      rw [mk_end (by omega) (by omega)] at z
      have e1 : (nI a + 22).toInt64 + lN (le f (a + 20) 2) = lN (a + 22 + le f (a + 20) 2) := by
        rw [show (22 : Int32) = nI 22 from rfl, nI_add, nI_l (by omega), lN_add]
      refine t_R_lastEnd_28 h (by omega) rfl (Nat.le_of_eq (Nat.zero_add _)) B.1 (by omega) (num_at B a 20 2 (by omega) (by omega)) h rfl (Nat.le_of_eq (Nat.zero_add _)) B.1 (by omega) (s_B_size B) (fun w => ?_) (fun w => ?_)
      · rw [e1, lg_cmp_eq, nI_l (by omega), lN_eqB (by omega) (by omega)] at w
        exact hgo (ifc_f (fun q => w q.2))
      · rw [e1, lg_cmp_eq, nI_l (by omega), lN_eqB (by omega) (by omega)] at w
        refine t_R_lastEnd_58 ⟨?_, rfl⟩
        rw [lend, ifc_t ⟨z, w⟩]
        rfl
theorem s_R_lastEnd (h : m 204 = .inr (7, RF t x y z ab az)) (B : BY G m 2 3 65536 f u) : mm_W l G k_R_lastEnd 0 (lv_args 0 [.ref 204]) [] b m (mm_is (.inl (some (.int (oi (lend f u (u - 21)))))) m) := by
  have hu := B.2.2.2.2.2.1
  refine t_R_lastEnd_0 h (by omega) rfl (Nat.le_of_eq (Nat.zero_add _)) B.1 (by omega) (s_B_size B) ?_
  by_cases q : 22 ≤ u
  · have e : nI u - 22 = nI (u - 21) - 1 := by
      rw [show u - 21 = (u - 22) + 1 by omega, nI_pred]
      exact pk_sub (b := 22) q
    rw [e]
    exact L_R_lastEnd h B (u - 21) (by omega)
  · refine t_R_lastEnd_11 (fun _ => ?_) (fun z => ?_)
    · refine t_R_lastEnd_66 ⟨?_, rfl⟩
      rw [show u - 21 = 0 by omega]
      rfl
    · refine absurd ?_ z
      rw [Int32.lt_iff_toInt_lt, show (22 : Int32) = nI 22 from rfl, pk_sub_toInt (by omega) (by omega), Int32.toInt_zero]
      omega
theorem nI_m1 {n : Nat} (h : n < 2 ^ 31) : ¬ nI n = -1 := fun q => nI_pos h (by rw [q]; decide)
/-- examineEnd -/
theorem s_R_examineEnd (h : m 204 = .inr (7, RF t x y z ab az)) (B : BY G m 2 3 65536 f u) : mm_W l G k_R_examineEnd 0 (lv_args 0 [.ref 204]) [] b m (fun v m2 => (∃ r w, endr f u = some r ∧ v = .inl (some (.int 0)) ∧ m2 = va_up m 204 (.inr (7, RF r w y z ab az))) ∨ ∃ p, lend f u (u - 21) = some p ∧ ¬ ebad f p ∧ v = .inl (some (.int 1)) ∧ m2 = va_up m 204 (.inr (7, RF t (nI p) (nI (le f (p + 16) 4)) (nI (le f (p + 10) 2)) ab az))) := by
  have hu := B.2.2.2.2.2.1
  have B1 : ∀ q, BY G (va_up m 204 q) 2 3 65536 f u := fun q => BY_up B (by omega) (by omega)
  refine t_R_examineEnd_0 (Nat.le_of_eq (Nat.zero_add _)) h (by omega) (s_R_lastEnd h B) h (Nat.le_of_ble_eq_true rfl) up_s rfl (fun w => ?_) (fun w => ?_)
  · cases hl : lend f u (u - 21) with
    | none => rw [hl] at w; exact absurd rfl w
    | some p =>
      have hp := lend_lt hl
      rw [show oi (some p) = nI p from rfl]
      have hRF : (RF t x y z ab az).set 8 (.int (nI p)) = RF t (nI p) y z ab az := rfl
      rw [hRF]
      have l4 := le4 f (p + 4)
      have l12 := le4 f (p + 12)
      have l16 := le4 f (p + 16)
      have l8 := le2 f (p + 8)
      have l10 := le2 f (p + 10)
      have hbad : ebad f p → mm_W l G k_R_examineEnd 148 [(0, .ref 204)] [] b (va_up m 204 (.inr (7, RF t (nI p) y z ab az))) (fun v m2 => (∃ r w, endr f u = some r ∧ v = .inl (some (.int 0)) ∧ m2 = va_up m 204 (.inr (7, RF r w y z ab az))) ∨ ∃ p, some p = some p ∧ ¬ ebad f p ∧ v = .inl (some (.int 1)) ∧ m2 = va_up m 204 (.inr (7, RF t (nI p) (nI (le f (p + 16) 4)) (nI (le f (p + 10) 2)) ab az))) := by
        intro hb
        refine t_R_examineEnd_148 up_s (by omega) rfl (Nat.le_of_eq (Nat.zero_add _)) (s_R_note up_s 2 (nI p) (-1)) (Or.inl ⟨(2, nI p, -1), nI p, ?_, rfl, up_uu⟩) rfl
        unfold endr
        rw [hl]
        exact ifc_t hb
      have hbad2 : ebad f p → mm_W l G k_R_examineEnd 148 [(0, .ref 204)] [] b (va_up m 204 (.inr (7, RF t (nI p) y z ab az))) (fun v m2 => (∃ r w, endr f u = some r ∧ v = .inl (some (.int 0)) ∧ m2 = va_up m 204 (.inr (7, RF r w y z ab az))) ∨ ∃ p_1, some p = some p_1 ∧ ¬ ebad f p_1 ∧ v = .inl (some (.int 1)) ∧ m2 = va_up m 204 (.inr (7, RF t (nI p_1) (nI (le f (p_1 + 16) 4)) (nI (le f (p_1 + 10) 2)) ab az))) := by
        intro hb
        refine t_R_examineEnd_148 up_s (by omega) rfl (Nat.le_of_eq (Nat.zero_add _)) (s_R_note up_s 2 (nI p) (-1)) (Or.inl ⟨(2, nI p, -1), nI p, ?_, rfl, up_uu⟩) rfl
        unfold endr
        rw [hl]
        exact ifc_t hb
      refine t_R_examineEnd_30 up_s (by omega) rfl rfl (Nat.le_of_eq (Nat.zero_add _)) ((B1 _).1) (by omega) (num_at (B1 _) p 4 4 (by omega) (by omega)) up_s rfl rfl (Nat.le_of_eq (Nat.zero_add _)) ((B1 _).1) (by omega) (num_at (B1 _) p 8 2 (by omega) (by omega)) up_s rfl rfl (Nat.le_of_eq (Nat.zero_add _)) ((B1 _).1) (by omega) (num_at (B1 _) p 10 2 (by omega) (by omega)) up_s rfl rfl (Nat.le_of_eq (Nat.zero_add _)) ((B1 _).1) (by omega) (num_at (B1 _) p 12 4 (by omega) (by omega)) up_s rfl rfl (Nat.le_of_eq (Nat.zero_add _)) ((B1 _).1) (by omega) (num_at (B1 _) p 16 4 (by omega) (by omega)) (fun w1 => ?_) (fun w1 => ?_)
      · rw [lg_cmp_eq, show (0 : Int64) = lN 0 from rfl, lN_eqB (by omega) (by omega)] at w1
        exact hbad2 (Or.inl w1)
      · rw [lg_cmp_eq, show (0 : Int64) = lN 0 from rfl, lN_eqB (by omega) (by omega)] at w1
        refine t_R_examineEnd_118 (fun w2 => ?_) (fun w2 => ?_)
        · rw [lg_cmp_eq, lN_eqB (by omega) (by omega)] at w2
          exact hbad2 (Or.inr (Or.inl w2))
        · rw [lg_cmp_eq, lN_eqB (by omega) (by omega)] at w2
          refine t_R_examineEnd_125 (fun w3 => ?_) (fun w3 => ?_)
          · rw [lg_cmp_gt, show (64 : Int64) = lN 64 from rfl, lN_ltB (by omega) (by omega)] at w3
            exact hbad2 (Or.inr (Or.inr (Or.inl w3)))
          · rw [lg_cmp_gt, show (64 : Int64) = lN 64 from rfl, lN_ltB (by omega) (by omega)] at w3
            refine t_R_examineEnd_134 up_s (by omega) rfl (fun w4 => ?_) (fun w4 => ?_)
            · rw [lg_cmp_eq, lN_add, nI_l (by omega), lN_eqB (by omega) (by omega)] at w4
              refine t_R_examineEnd_159 up_s (by omega) (Nat.le_of_ble_eq_true rfl) up_s (Nat.le_of_ble_eq_true rfl) (Or.inr ⟨p, rfl, ?_, rfl, ?_⟩) rfl
              · rintro (q | q | q | q)
                · exact q w1
                · exact q w2
                · exact w3 q
                · exact q w4
              · rw [up_uu, up_uu, lN_i, lN_i]
                rfl
            · rw [lg_cmp_eq, lN_add, nI_l (by omega), lN_eqB (by omega) (by omega)] at w4
              exact hbad2 (Or.inr (Or.inr (Or.inr w4)))
  · cases hl : lend f u (u - 21) with
    | some p =>
      rw [hl] at w
      have hp := lend_lt hl
      exact absurd w (nI_m1 (by omega))
    | none =>
      refine t_R_examineEnd_16 up_s (by omega) rfl (Nat.le_of_eq (Nat.zero_add _)) ((B1 _).1) (by omega) (s_B_size (B1 _)) (Nat.le_of_eq (Nat.zero_add _)) up_s (s_R_note up_s 1 (nI u) (-1)) (Or.inl ⟨(1, nI u, -1), -1, ?_, rfl, up_uu⟩) rfl
      unfold endr
      rw [hl]
end RDR
