/-! the law's helpers: the code of what the object's method did, and its answer -/
abbrev aO (G : mm_G) (g : Nat → Int64) : va_E := .inl (G.2 2, 1, .inr (.inl g))
theorem rv_x {ex : Nat → String} {vd : Bool} {r : Rs} {E : String} (h : (.inr E : mm_O) = rv ex vd r) : ¬ r.1 = 0 ∧ E = ex r.1 := by
  unfold rv at h
  by_cases q : r.1 = 0
  · rw [if_pos q] at h
    cases h
  · rw [if_neg q] at h
    cases h
    exact ⟨q, rfl⟩
theorem rv_v {ex : Nat → String} {vd : Bool} {r : Rs} {v : Option Value} (h : (.inl v : mm_O) = rv ex vd r) : r.1 = 0 ∧ v = (if vd then none else some (.int r.2.1)) := by
  unfold rv at h
  by_cases q : r.1 = 0
  · rw [if_pos q] at h
    cases h
    exact ⟨q, rfl⟩
  · rw [if_neg q] at h
    cases h
/-- a helper without an answer -/
def LV (l : Launch) (G : mm_G) (K : mm_M) (as : List Value) (b : Nat) (m : mm_Mem) (r : Rs) : Prop := mm_W l G K 0 (lv_args 0 (.ref 1 :: as)) [] b m (fun v m2 => v = .inl (some (.int (nI r.1))) ∧ FR 1 335 m m2 ∧ CP G m2 r.2.2)
/-- a helper with an answer -/
def LN (l : Launch) (G : mm_G) (K : mm_M) (as : List Value) (b : Nat) (m : mm_Mem) (r : Rs) : Prop := mm_W l G K 0 (lv_args 0 (.ref 1 :: as)) [] b m (fun v m2 => v = .inl (some (.int (nI r.1))) ∧ (∀ a, (a < 1 ∨ 335 < a) → a ≠ 353 → m2 a = m a) ∧ CP G m2 r.2.2 ∧ ∃ g, m2 353 = aO G g ∧ (r.1 = 0 → g 0 = r.2.1.toInt64))
theorem wI : (Jvm.Cond.classLink "PartBoxLaw" (13 : Nat) "java/lang/IllegalStateException") ∈ mm_T := mm_in 296 (by decide +kernel) (by decide +kernel)
theorem wA : (Jvm.Cond.classLink "PartBoxLaw" (19 : Nat) "java/lang/IllegalArgumentException") ∈ mm_T := mm_in 383 (by decide +kernel) (by decide +kernel)
theorem wB : (Jvm.Cond.classLink "PartBoxLaw" (25 : Nat) "java/lang/IndexOutOfBoundsException") ∈ mm_T := mm_in 407 (by decide +kernel) (by decide +kernel)
theorem c_feed (S : St) (a b c d e : Int32) : (o_feed S a b c d e).1 ≤ 1 := by unfold o_feed; split <;> simp
theorem c_end (S : St) (x : Int32) : (o_end S x).1 ≤ 1 := by unfold o_end; split <;> simp
theorem c_alter (S : St) (x y : Int32) : (o_alter S x y).1 ≤ 2 := by
  unfold o_alter
  split
  · simp
  · split <;> simp
theorem c_byteAt (S : St) (x : Int32) : (o_byteAt S x).1 ≤ 1 := by unfold o_byteAt; split <;> simp
theorem c_type (S : St) (x : Int32) : (o_type S x).1 ≤ 2 := by
  unfold o_type
  split
  · simp
  · split <;> simp
theorem c_ifc {p q : Prop} {r s t : Rs} (h1 : r.1 ≤ 2) (h2 : s.1 ≤ 2) (h3 : t.1 ≤ 2) : (ifc p r (ifc q s t)).1 ≤ 2 := by
  by_cases h : p
  · rw [ifc_t h]; exact h1
  · rw [ifc_f h]
    by_cases h : q
    · rw [ifc_t h]; exact h2
    · rw [ifc_f h]; exact h3
theorem c_add (S : St) : (o_add S).1 ≤ 2 := c_ifc (Nat.le_of_ble_eq_true rfl) (Nat.le_of_ble_eq_true rfl) (Nat.le_of_ble_eq_true rfl)
theorem c_addPacked (S : St) (x y : Int32) : (o_addPacked S x y).1 ≤ 2 := c_ifc (Nat.le_of_ble_eq_true rfl) (Nat.le_of_ble_eq_true rfl) (Nat.le_of_ble_eq_true rfl)
theorem c_remove (S : St) (x : Int32) : (o_remove S x).1 ≤ 1 := by unfold o_remove; split <;> simp
theorem c_move (S : St) (x y : Int32) : (o_move S x y).1 ≤ 1 := by unfold o_move; split <;> simp
theorem c_about (S : St) (x y : Int32) : (o_about S x y).1 ≤ 2 := by
  unfold o_about
  split
  · split <;> simp
  · simp
theorem c_name (S : St) (x y : Int32) : (o_name S x y).1 ≤ 1 := by unfold o_name; split <;> simp
theorem c_part (S : St) (x y : Int32) : (o_part S x y).1 ≤ 1 := by unfold o_part; split <;> simp
theorem c_write (S : St) : (o_write S).1 ≤ 1 := by unfold o_write; split <;> simp
theorem c_rd (S : St) (o : Fl) : (o_rd S o).1 ≤ 1 := by cases o <;> exact Nat.zero_le _
theorem c_read (S : St) (x : Int32) (q : Nat → Nat) : (o_read S x q).1 ≤ 1 := by
  unfold o_read
  split
  · simp
  · exact c_rd _ _
theorem c_blame (S : St) (x : Int32) : (o_blame S x).1 ≤ 1 := by unfold o_blame; split <;> simp
section LAWH
variable {l : Launch} {G : mm_G} {m : mm_Mem} {b : Nat} {S : St}

theorem l_feed (C : CP G m S) (h7 : 7 ≤ b) (y1 y2 y3 y4 y5 : Int32) : LV l G k_L_feed [.int y1, .int y2, .int y3, .int y4, .int y5] b m (o_feed S y1 y2 y3 y4 y5) := by
  have hC := p_feed (l := l) (b := 7) C (Nat.le_refl _) y1 y2 y3 y4 y5
  refine t_L_feed_0 (show 7 + (b - 7) ≤ b by omega) C.1 (by omega) hC (fun E n hn => ?_) (fun v n hn => ?_)
  · obtain ⟨e1, F, C2⟩ := hn
    obtain ⟨h0, eE⟩ := rv_x e1
    have hc := c_feed S y1 y2 y3 y4 y5
    have h1 : (o_feed S y1 y2 y3 y4 y5).1 = 1 := by omega
    rw [h1] at eE
    subst eE
    exact mm_catch1 rfl rfl (by decide) wI (Or.inr ⟨6, d_L_feed_14, by decide, rfl⟩) (t_L_feed_16 ⟨by rw [h1]; rfl, F, C2⟩)
  · obtain ⟨e1, F, C2⟩ := hn
    obtain ⟨h0, ev⟩ := rv_v e1
    exact ⟨ev, t_L_feed_11 (t_L_feed_18 ⟨by rw [h0]; rfl, F, C2⟩)⟩
theorem l_end (C : CP G m S) (h7 : 7 ≤ b) (y1 : Int32) : LV l G k_L_end [.int y1] b m (o_end S y1) := by
  have hC := p_end (l := l) (b := 7) C (Nat.le_refl _) y1
  refine t_L_end_0 (show 7 + (b - 7) ≤ b by omega) C.1 (by omega) hC (fun E n hn => ?_) (fun v n hn => ?_)
  · obtain ⟨e1, F, C2⟩ := hn
    obtain ⟨h0, eE⟩ := rv_x e1
    have hc := c_end S y1
    have h1 : (o_end S y1).1 = 1 := by omega
    rw [h1] at eE
    subst eE
    exact mm_catch1 rfl rfl (by decide) wA (Or.inl ⟨2, d_L_end_8, by decide, rfl⟩) (t_L_end_9 ⟨by rw [h1]; rfl, F, C2⟩)
  · obtain ⟨e1, F, C2⟩ := hn
    obtain ⟨h0, ev⟩ := rv_v e1
    exact ⟨ev, t_L_end_5 (t_L_end_11 ⟨by rw [h0]; rfl, F, C2⟩)⟩
theorem l_alter (C : CP G m S) (h7 : 7 ≤ b) (y1 y2 : Int32) : LV l G k_L_alter [.int y1, .int y2] b m (o_alter S y1 y2) := by
  have hC := p_alter (l := l) (b := 7) C (Nat.le_refl _) y1 y2
  refine t_L_alter_0 (show 7 + (b - 7) ≤ b by omega) C.1 (by omega) hC (fun E n hn => ?_) (fun v n hn => ?_)
  · obtain ⟨e1, F, C2⟩ := hn
    obtain ⟨h0, eE⟩ := rv_x e1
    have hc := c_alter S y1 y2
    by_cases h1 : (o_alter S y1 y2).1 = 1
    · rw [h1] at eE
      subst eE
      exact mm_catch1 rfl rfl (by decide) wB (Or.inl ⟨3, d_L_alter_9, by decide, rfl⟩) (t_L_alter_10 ⟨by rw [h1]; rfl, F, C2⟩)
    · have h1 : (o_alter S y1 y2).1 = 2 := by omega
      rw [h1] at eE
      subst eE
      exact mm_catch2 (D := "java/lang/IndexOutOfBoundsException") rfl rfl (by decide) wB (by decide) rfl (by decide) wA (Or.inl ⟨3, d_L_alter_12, by decide, rfl⟩) (t_L_alter_13 ⟨by rw [h1]; rfl, F, C2⟩)
  · obtain ⟨e1, F, C2⟩ := hn
    obtain ⟨h0, ev⟩ := rv_v e1
    exact ⟨ev, t_L_alter_6 (t_L_alter_15 ⟨by rw [h0]; rfl, F, C2⟩)⟩
theorem l_byteAt (C : CP G m S) {g0 : Nat → Int64} (h53 : m 353 = aO G g0) (h7 : 7 ≤ b) (y1 : Int32) : LN l G k_L_byteAt [.int y1, .ref 353] b m (o_byteAt S y1) := by
  have hC := p_byteAt (l := l) (b := 7) C (Nat.le_refl _) y1
  refine t_L_byteAt_0 (show 7 + (b - 7) ≤ b by omega) C.1 (by omega) hC (fun E n hn => ?_) (fun v n hn => ?_)
  · obtain ⟨e1, F, C2⟩ := hn
    obtain ⟨h0, eE⟩ := rv_x e1
    have hc := c_byteAt S y1
    have h1 : (o_byteAt S y1).1 = 1 := by omega
    rw [h1] at eE
    subst eE
    exact mm_catch1 rfl rfl (by decide) wB (Or.inl ⟨3, d_L_byteAt_12, by decide, rfl⟩) (t_L_byteAt_13 ⟨by rw [h1]; rfl, fun a ha _ => F a ha, C2, g0, (F 353 (by omega)).trans h53, fun z => absurd z h0⟩)
  · obtain ⟨e1, F, C2⟩ := hn
    obtain ⟨h0, ev⟩ := rv_v e1
    refine ⟨_, ev, t_L_byteAt_7 ((F 353 (by omega)).trans h53) (by omega) (vp_in_nI (show 0 < 1 by omega) (by omega)) (t_L_byteAt_15 ⟨by rw [h0]; rfl, fun a ha h => (up_n h).trans (F a ha), CP_eq C2 (fun a h1 h2 => up_n (by omega)), _, up_s, fun _ => ?_⟩)⟩
    rfl
theorem l_type (C : CP G m S) {g0 : Nat → Int64} (h53 : m 353 = aO G g0) (h7 : 7 ≤ b) (y1 : Int32) : LN l G k_L_type [.int y1, .ref 353] b m (o_type S y1) := by
  have hC := p_type (l := l) (b := 7) C (Nat.le_refl _) y1
  refine t_L_type_0 (show 7 + (b - 7) ≤ b by omega) C.1 (by omega) hC (fun E n hn => ?_) (fun v n hn => ?_)
  · obtain ⟨e1, F, C2⟩ := hn
    obtain ⟨h0, eE⟩ := rv_x e1
    have hc := c_type S y1
    by_cases h1 : (o_type S y1).1 = 1
    · rw [h1] at eE
      subst eE
      exact mm_catch1 rfl rfl (by decide) wA (Or.inl ⟨3, d_L_type_12, by decide, rfl⟩) (t_L_type_13 ⟨by rw [h1]; rfl, fun a ha _ => F a ha, C2, g0, (F 353 (by omega)).trans h53, fun z => absurd z h0⟩)
    · have h1 : (o_type S y1).1 = 2 := by omega
      rw [h1] at eE
      subst eE
      exact mm_catch2 (D := "java/lang/IllegalArgumentException") rfl rfl (by decide) wA (by decide) rfl (by decide) wI (Or.inl ⟨3, d_L_type_15, by decide, rfl⟩) (t_L_type_16 ⟨by rw [h1]; rfl, fun a ha _ => F a ha, C2, g0, (F 353 (by omega)).trans h53, fun z => absurd z h0⟩)
  · obtain ⟨e1, F, C2⟩ := hn
    obtain ⟨h0, ev⟩ := rv_v e1
    refine ⟨_, ev, t_L_type_7 ((F 353 (by omega)).trans h53) (by omega) (vp_in_nI (show 0 < 1 by omega) (by omega)) (t_L_type_18 ⟨by rw [h0]; rfl, fun a ha h => (up_n h).trans (F a ha), CP_eq C2 (fun a h1 h2 => up_n (by omega)), _, up_s, fun _ => ?_⟩)⟩
    rfl
theorem l_add (C : CP G m S) {g0 : Nat → Int64} (h53 : m 353 = aO G g0) (h7 : 7 ≤ b) : LN l G k_L_add [.ref 353] b m (o_add S) := by
  have hC := p_add (l := l) (b := 7) C (Nat.le_refl _)
  refine t_L_add_0 (show 7 + (b - 7) ≤ b by omega) C.1 (by omega) hC (fun E n hn => ?_) (fun v n hn => ?_)
  · obtain ⟨e1, F, C2⟩ := hn
    obtain ⟨h0, eE⟩ := rv_x e1
    have hc := c_add S
    by_cases h1 : (o_add S).1 = 1
    · rw [h1] at eE
      subst eE
      exact mm_catch1 rfl rfl (by decide) wA (Or.inl ⟨2, d_L_add_11, by decide, rfl⟩) (t_L_add_12 ⟨by rw [h1]; rfl, fun a ha _ => F a ha, C2, g0, (F 353 (by omega)).trans h53, fun z => absurd z h0⟩)
    · have h1 : (o_add S).1 = 2 := by omega
      rw [h1] at eE
      subst eE
      exact mm_catch2 (D := "java/lang/IllegalArgumentException") rfl rfl (by decide) wA (by decide) rfl (by decide) wI (Or.inl ⟨2, d_L_add_14, by decide, rfl⟩) (t_L_add_15 ⟨by rw [h1]; rfl, fun a ha _ => F a ha, C2, g0, (F 353 (by omega)).trans h53, fun z => absurd z h0⟩)
  · obtain ⟨e1, F, C2⟩ := hn
    obtain ⟨h0, ev⟩ := rv_v e1
    refine ⟨_, ev, t_L_add_6 ((F 353 (by omega)).trans h53) (by omega) (vp_in_nI (show 0 < 1 by omega) (by omega)) (t_L_add_17 ⟨by rw [h0]; rfl, fun a ha h => (up_n h).trans (F a ha), CP_eq C2 (fun a h1 h2 => up_n (by omega)), _, up_s, fun _ => ?_⟩)⟩
    rfl
theorem l_addPacked (C : CP G m S) {g0 : Nat → Int64} (h53 : m 353 = aO G g0) (h7 : 7 ≤ b) (y1 y2 : Int32) : LN l G k_L_addPacked [.int y1, .int y2, .ref 353] b m (o_addPacked S y1 y2) := by
  have hC := p_addPacked (l := l) (b := 7) C (Nat.le_refl _) y1 y2
  refine t_L_addPacked_0 (show 7 + (b - 7) ≤ b by omega) C.1 (by omega) hC (fun E n hn => ?_) (fun v n hn => ?_)
  · obtain ⟨e1, F, C2⟩ := hn
    obtain ⟨h0, eE⟩ := rv_x e1
    have hc := c_addPacked S y1 y2
    by_cases h1 : (o_addPacked S y1 y2).1 = 1
    · rw [h1] at eE
      subst eE
      exact mm_catch1 rfl rfl (by decide) wA (Or.inr ⟨4, d_L_addPacked_13, by decide, rfl⟩) (t_L_addPacked_15 ⟨by rw [h1]; rfl, fun a ha _ => F a ha, C2, g0, (F 353 (by omega)).trans h53, fun z => absurd z h0⟩)
    · have h1 : (o_addPacked S y1 y2).1 = 2 := by omega
      rw [h1] at eE
      subst eE
      exact mm_catch2 (D := "java/lang/IllegalArgumentException") rfl rfl (by decide) wA (by decide) rfl (by decide) wI (Or.inr ⟨4, d_L_addPacked_17, by decide, rfl⟩) (t_L_addPacked_19 ⟨by rw [h1]; rfl, fun a ha _ => F a ha, C2, g0, (F 353 (by omega)).trans h53, fun z => absurd z h0⟩)
  · obtain ⟨e1, F, C2⟩ := hn
    obtain ⟨h0, ev⟩ := rv_v e1
    refine ⟨_, ev, t_L_addPacked_8 ((F 353 (by omega)).trans h53) (by omega) (vp_in_nI (show 0 < 1 by omega) (by omega)) (t_L_addPacked_21 ⟨by rw [h0]; rfl, fun a ha h => (up_n h).trans (F a ha), CP_eq C2 (fun a h1 h2 => up_n (by omega)), _, up_s, fun _ => ?_⟩)⟩
    rfl
theorem l_remove (C : CP G m S) (h7 : 7 ≤ b) (y1 : Int32) : LV l G k_L_remove [.int y1] b m (o_remove S y1) := by
  have hC := p_remove (l := l) (b := 7) C (Nat.le_refl _) y1
  refine t_L_remove_0 (show 7 + (b - 7) ≤ b by omega) C.1 (by omega) hC (fun E n hn => ?_) (fun v n hn => ?_)
  · obtain ⟨e1, F, C2⟩ := hn
    obtain ⟨h0, eE⟩ := rv_x e1
    have hc := c_remove S y1
    have h1 : (o_remove S y1).1 = 1 := by omega
    rw [h1] at eE
    subst eE
    exact mm_catch1 rfl rfl (by decide) wB (Or.inl ⟨2, d_L_remove_8, by decide, rfl⟩) (t_L_remove_9 ⟨by rw [h1]; rfl, F, C2⟩)
  · obtain ⟨e1, F, C2⟩ := hn
    obtain ⟨h0, ev⟩ := rv_v e1
    exact ⟨ev, t_L_remove_5 (t_L_remove_11 ⟨by rw [h0]; rfl, F, C2⟩)⟩
theorem l_move (C : CP G m S) (h7 : 7 ≤ b) (y1 y2 : Int32) : LV l G k_L_move [.int y1, .int y2] b m (o_move S y1 y2) := by
  have hC := p_move (l := l) (b := 7) C (Nat.le_refl _) y1 y2
  refine t_L_move_0 (show 7 + (b - 7) ≤ b by omega) C.1 (by omega) hC (fun E n hn => ?_) (fun v n hn => ?_)
  · obtain ⟨e1, F, C2⟩ := hn
    obtain ⟨h0, eE⟩ := rv_x e1
    have hc := c_move S y1 y2
    have h1 : (o_move S y1 y2).1 = 1 := by omega
    rw [h1] at eE
    subst eE
    exact mm_catch1 rfl rfl (by decide) wB (Or.inl ⟨3, d_L_move_9, by decide, rfl⟩) (t_L_move_10 ⟨by rw [h1]; rfl, F, C2⟩)
  · obtain ⟨e1, F, C2⟩ := hn
    obtain ⟨h0, ev⟩ := rv_v e1
    exact ⟨ev, t_L_move_6 (t_L_move_12 ⟨by rw [h0]; rfl, F, C2⟩)⟩
theorem l_about (C : CP G m S) {g0 : Nat → Int64} (h53 : m 353 = aO G g0) (h7 : 7 ≤ b) (y1 y2 : Int32) : LN l G k_L_about [.int y1, .int y2, .ref 353] b m (o_about S y1 y2) := by
  have hC := p_about (l := l) (b := 7) C (Nat.le_refl _) y1 y2
  refine t_L_about_0 (show 7 + (b - 7) ≤ b by omega) C.1 (by omega) hC (fun E n hn => ?_) (fun v n hn => ?_)
  · obtain ⟨e1, F, C2⟩ := hn
    obtain ⟨h0, eE⟩ := rv_x e1
    have hc := c_about S y1 y2
    by_cases h1 : (o_about S y1 y2).1 = 1
    · rw [h1] at eE
      subst eE
      exact mm_catch1 rfl rfl (by decide) wB (Or.inr ⟨4, d_L_about_13, by decide, rfl⟩) (t_L_about_15 ⟨by rw [h1]; rfl, fun a ha _ => F a ha, C2, g0, (F 353 (by omega)).trans h53, fun z => absurd z h0⟩)
    · have h1 : (o_about S y1 y2).1 = 2 := by omega
      rw [h1] at eE
      subst eE
      exact mm_catch2 (D := "java/lang/IndexOutOfBoundsException") rfl rfl (by decide) wB (by decide) rfl (by decide) wA (Or.inr ⟨4, d_L_about_17, by decide, rfl⟩) (t_L_about_19 ⟨by rw [h1]; rfl, fun a ha _ => F a ha, C2, g0, (F 353 (by omega)).trans h53, fun z => absurd z h0⟩)
  · obtain ⟨e1, F, C2⟩ := hn
    obtain ⟨h0, ev⟩ := rv_v e1
    refine ⟨_, ev, t_L_about_8 ((F 353 (by omega)).trans h53) (by omega) (vp_in_nI (show 0 < 1 by omega) (by omega)) (t_L_about_21 ⟨by rw [h0]; rfl, fun a ha h => (up_n h).trans (F a ha), CP_eq C2 (fun a h1 h2 => up_n (by omega)), _, up_s, fun _ => ?_⟩)⟩
    rfl
theorem l_name (C : CP G m S) {g0 : Nat → Int64} (h53 : m 353 = aO G g0) (h7 : 7 ≤ b) (y1 y2 : Int32) : LN l G k_L_name [.int y1, .int y2, .ref 353] b m (o_name S y1 y2) := by
  have hC := p_name (l := l) (b := 7) C (Nat.le_refl _) y1 y2
  refine t_L_name_0 (show 7 + (b - 7) ≤ b by omega) C.1 (by omega) hC (fun E n hn => ?_) (fun v n hn => ?_)
  · obtain ⟨e1, F, C2⟩ := hn
    obtain ⟨h0, eE⟩ := rv_x e1
    have hc := c_name S y1 y2
    have h1 : (o_name S y1 y2).1 = 1 := by omega
    rw [h1] at eE
    subst eE
    exact mm_catch1 rfl rfl (by decide) wB (Or.inr ⟨4, d_L_name_13, by decide, rfl⟩) (t_L_name_15 ⟨by rw [h1]; rfl, fun a ha _ => F a ha, C2, g0, (F 353 (by omega)).trans h53, fun z => absurd z h0⟩)
  · obtain ⟨e1, F, C2⟩ := hn
    obtain ⟨h0, ev⟩ := rv_v e1
    refine ⟨_, ev, t_L_name_8 ((F 353 (by omega)).trans h53) (by omega) (vp_in_nI (show 0 < 1 by omega) (by omega)) (t_L_name_17 ⟨by rw [h0]; rfl, fun a ha h => (up_n h).trans (F a ha), CP_eq C2 (fun a h1 h2 => up_n (by omega)), _, up_s, fun _ => ?_⟩)⟩
    rfl
theorem l_part (C : CP G m S) {g0 : Nat → Int64} (h53 : m 353 = aO G g0) (h7 : 7 ≤ b) (y1 y2 : Int32) : LN l G k_L_part [.int y1, .int y2, .ref 353] b m (o_part S y1 y2) := by
  have hC := p_part (l := l) (b := 7) C (Nat.le_refl _) y1 y2
  refine t_L_part_0 (show 7 + (b - 7) ≤ b by omega) C.1 (by omega) hC (fun E n hn => ?_) (fun v n hn => ?_)
  · obtain ⟨e1, F, C2⟩ := hn
    obtain ⟨h0, eE⟩ := rv_x e1
    have hc := c_part S y1 y2
    have h1 : (o_part S y1 y2).1 = 1 := by omega
    rw [h1] at eE
    subst eE
    exact mm_catch1 rfl rfl (by decide) wB (Or.inr ⟨4, d_L_part_13, by decide, rfl⟩) (t_L_part_15 ⟨by rw [h1]; rfl, fun a ha _ => F a ha, C2, g0, (F 353 (by omega)).trans h53, fun z => absurd z h0⟩)
  · obtain ⟨e1, F, C2⟩ := hn
    obtain ⟨h0, ev⟩ := rv_v e1
    refine ⟨_, ev, t_L_part_8 ((F 353 (by omega)).trans h53) (by omega) (vp_in_nI (show 0 < 1 by omega) (by omega)) (t_L_part_17 ⟨by rw [h0]; rfl, fun a ha h => (up_n h).trans (F a ha), CP_eq C2 (fun a h1 h2 => up_n (by omega)), _, up_s, fun _ => ?_⟩)⟩
    rfl
theorem l_write (C : CP G m S) {g0 : Nat → Int64} (h53 : m 353 = aO G g0) (h7 : 7 ≤ b) : LN l G k_L_write [.ref 353] b m (o_write S) := by
  have hC := p_write (l := l) (b := 7) C (Nat.le_refl _)
  refine t_L_write_0 (show 7 + (b - 7) ≤ b by omega) C.1 (by omega) hC (fun E n hn => ?_) (fun v n hn => ?_)
  · obtain ⟨e1, F, C2⟩ := hn
    obtain ⟨h0, eE⟩ := rv_x e1
    have hc := c_write S
    have h1 : (o_write S).1 = 1 := by omega
    rw [h1] at eE
    subst eE
    exact mm_catch1 rfl rfl (by decide) wI (Or.inl ⟨2, d_L_write_11, by decide, rfl⟩) (t_L_write_12 ⟨by rw [h1]; rfl, fun a ha _ => F a ha, C2, g0, (F 353 (by omega)).trans h53, fun z => absurd z h0⟩)
  · obtain ⟨e1, F, C2⟩ := hn
    obtain ⟨h0, ev⟩ := rv_v e1
    refine ⟨_, ev, t_L_write_6 ((F 353 (by omega)).trans h53) (by omega) (vp_in_nI (show 0 < 1 by omega) (by omega)) (t_L_write_14 ⟨by rw [h0]; rfl, fun a ha h => (up_n h).trans (F a ha), CP_eq C2 (fun a h1 h2 => up_n (by omega)), _, up_s, fun _ => ?_⟩)⟩
    rfl
theorem l_read (C : CP G m S) {g0 : Nat → Int64} (h53 : m 353 = aO G g0) (h7 : 7 ≤ b) (y1 : Int32) : mm_W l G k_L_read 0 (lv_args 0 [.ref 1, .int y1, .ref 353]) [] b m (fun v m2 => ∃ q, (¬ (y1 < 0 ∨ 65536 < y1) → spq S.1.1 S.1.2 y1.toNatClampNeg q) ∧ v = .inl (some (.int (nI (o_read S y1 q).1))) ∧ (∀ a, (a < 1 ∨ 335 < a) → a ≠ 353 → m2 a = m a) ∧ CP G m2 (o_read S y1 q).2.2 ∧ ∃ g, m2 353 = aO G g ∧ ((o_read S y1 q).1 = 0 → g 0 = (o_read S y1 q).2.1.toInt64)) := by
  have hC := p_read (l := l) (b := 7) C (Nat.le_refl _) y1
  refine t_L_read_0 (show 7 + (b - 7) ≤ b by omega) C.1 (by omega) hC (fun E n hn => ?_) (fun v n hn => ?_)
  · obtain ⟨q, hq, e1, F, C2⟩ := hn
    obtain ⟨h0, eE⟩ := rv_x e1
    have hc := c_read S y1 q
    have h1 : (o_read S y1 q).1 = 1 := by omega
    rw [h1] at eE
    subst eE
    exact mm_catch1 rfl rfl (by decide) wA (Or.inl ⟨3, d_L_read_12, by decide, rfl⟩) (t_L_read_13 ⟨q, hq, by rw [h1]; rfl, fun a ha _ => F a ha, C2, g0, (F 353 (by omega)).trans h53, fun z => absurd z h0⟩)
  · obtain ⟨q, hq, e1, F, C2⟩ := hn
    obtain ⟨h0, ev⟩ := rv_v e1
    refine ⟨_, ev, t_L_read_7 ((F 353 (by omega)).trans h53) (by omega) (vp_in_nI (show 0 < 1 by omega) (by omega)) (t_L_read_15 ⟨q, hq, by rw [h0]; rfl, fun a ha h => (up_n h).trans (F a ha), CP_eq C2 (fun a h1 h2 => up_n (by omega)), _, up_s, fun _ => ?_⟩)⟩
    rfl
theorem l_blame (C : CP G m S) {g0 : Nat → Int64} (h53 : m 353 = aO G g0) (h7 : 7 ≤ b) (y1 : Int32) : LN l G k_L_blame [.int y1, .ref 353] b m (o_blame S y1) := by
  have hC := p_blame (l := l) (b := 7) C (Nat.le_refl _) y1
  refine t_L_blame_0 (show 7 + (b - 7) ≤ b by omega) C.1 (by omega) hC (fun E n hn => ?_) (fun v n hn => ?_)
  · obtain ⟨e1, F, C2⟩ := hn
    obtain ⟨h0, eE⟩ := rv_x e1
    have hc := c_blame S y1
    have h1 : (o_blame S y1).1 = 1 := by omega
    rw [h1] at eE
    subst eE
    exact mm_catch1 rfl rfl (by decide) wA (Or.inl ⟨3, d_L_blame_12, by decide, rfl⟩) (t_L_blame_13 ⟨by rw [h1]; rfl, fun a ha _ => F a ha, C2, g0, (F 353 (by omega)).trans h53, fun z => absurd z h0⟩)
  · obtain ⟨e1, F, C2⟩ := hn
    obtain ⟨h0, ev⟩ := rv_v e1
    refine ⟨_, ev, t_L_blame_7 ((F 353 (by omega)).trans h53) (by omega) (vp_in_nI (show 0 < 1 by omega) (by omega)) (t_L_blame_15 ⟨by rw [h0]; rfl, fun a ha h => (up_n h).trans (F a ha), CP_eq C2 (fun a h1 h2 => up_n (by omega)), _, up_s, fun _ => ?_⟩)⟩
    rfl
end LAWH
