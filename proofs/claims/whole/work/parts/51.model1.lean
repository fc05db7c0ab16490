/-! the model's methods: the row and the typed name -/
theorem MW_gen {G : mm_G} {m m2 : mm_Mem} {S : St} {c : Int32} {hp ot : Nat} {x : Int32 × Int32 × Int64 × Int32 × Int32} {A : Nat → Nat → Int32} {hf : Nat → Int32} (h : MW G m S c hp ot x A hf) {f : Nat → Int32} {u : Nat} {g : Nat → Nat} {tu : Nat} {t : Int32 × Int32 × Int32} {c2 : Int32} {x2 : Int32 × Int32 × Int64 × Int32 × Int32} (e1 : m2 336 = .inr (8, ML hp ot c2 (nI u) (nI tu) (nI S.2.2.1.1) (nI (us S)) t x2)) (e2 : m2 337 = aB G f) (e3 : m2 338 = aI G (fun j => nI (g j))) (e4 : ∀ a, 339 ≤ a → a ≤ 352 → m2 a = m a) (hS : MS ((f, u), (g, tu), S.2.2)) : MW G m2 ((f, u), (g, tu), S.2.2.1, t) c2 hp ot x2 A hf :=
  ⟨e1, e2, e3, MA_eq h.2.2.2.1 e4, h.2.2.2.2.1, hS⟩
section MO1
variable {l : Launch} {G : mm_G} {m : mm_Mem} {b : Nat} {S : St} {c0 : Int32}
theorem m_thrown (h : MP G m S c0) : mm_W l G k_M_thrown 0 (lv_args 0 [.ref 336]) [] b m (mm_is (.inl (some (.int c0))) m) := by
  obtain ⟨hp, ot, x, A, hf, W⟩ := h
  exact t_M_thrown_0 W.1 (by omega) rfl ⟨rfl, rfl⟩
/-- the code is set and nothing else is done -/
theorem MO_c {hp ot : Nat} {x : Int32 × Int32 × Int64 × Int32 × Int32} {A : Nat → Nat → Int32} {hf : Nat → Int32} (W : MW G m S c0 hp ot x A hf) (c : Int32) : FR 336 352 m (va_up m 336 (.inr (8, ML hp ot c (nI S.1.2) (nI S.2.1.2) (nI S.2.2.1.1) (nI (us S)) S.2.2.2 x))) ∧ MP G (va_up m 336 (.inr (8, ML hp ot c (nI S.1.2) (nI S.2.1.2) (nI S.2.2.1.1) (nI (us S)) S.2.2.2 x))) S c := ⟨FR_up (by omega) (by omega), hp, ot, x, A, hf, MW_h W c S.2.2.2 x⟩
theorem m_end (h : MP G m S c0) (y : Int32) : MO l G k_M_end [.int y] b m true (o_end S y) := by
  obtain ⟨hp, ot, x, A, hf, W⟩ := h
  have hS := W.2.2.2.2.2
  have hno : (y < 0 ∨ nI S.1.2 < y) → mm_W l G k_M_end 13 [(0, .ref 336), (1, .int y)] [.ref 336] b m (fun v m2 => v = .inl none ∧ FR 336 352 m m2 ∧ MP G m2 (o_end S y).2.2 (nI (o_end S y).1)) := by
    intro q
    have hr : o_end S y = (1, 0, S) := if_pos q
    rw [hr]
    exact t_M_end_13 (t_M_end_18 W.1 (by omega) (Nat.le_of_ble_eq_true rfl) up_s (by omega) rfl (fun _ => t_M_end_33 ⟨rfl, MO_c W 1⟩) (fun z => absurd z (by decide)))
  refine t_M_end_0 (fun z => hno (Or.inl z)) (fun z => t_M_end_5 W.1 (by omega) rfl (fun w => ?_) (fun w => hno (Or.inr (i_nle.mp w))))
  have hr : o_end S y = (0, 0, (S.1.1, y.toNatClampNeg), S.2) := if_neg (by rintro (q | q); exact z q; exact i_nlt.mpr w q)
  rw [hr]
  obtain ⟨i, hi, rfl⟩ := i_nat z w (by have := hS.1; omega)
  rw [nI_clamp (by have := hS.1; omega)]
  refine t_M_end_17 (t_M_end_18 W.1 (by omega) (Nat.le_of_ble_eq_true rfl) up_s (by omega) rfl (fun z => absurd rfl z) (fun _ => t_M_end_28 up_s (by omega) (Nat.le_of_ble_eq_true rfl) (t_M_end_33 ⟨rfl, FR_tr (FR_up (by omega) (by omega)) (FR_up (by omega) (by omega)), ?_⟩)))
  exact ⟨hp, ot, x, A, hf, MW_gen W (u := i) up_s ((up_n (by omega)).trans ((up_n (by omega)).trans W.2.1)) ((up_n (by omega)).trans ((up_n (by omega)).trans W.2.2.1)) (fun a q1 q2 => (up_n (by omega)).trans (up_n (by omega))) ⟨by have := hS.1; show i ≤ 65536; omega, hS.2⟩⟩
theorem m_alter (h : MP G m S c0) (y w : Int32) : MO l G k_M_alter [.int y, .int w] b m true (o_alter S y w) := by
  obtain ⟨hp, ot, x, A, hf, W⟩ := h
  have hS := W.2.2.2.2.2
  have hu := hS.1
  have hno : (y < 0 ∨ nI S.1.2 ≤ y) → mm_W l G k_M_alter 13 [(0, .ref 336), (1, .int y), (2, .int w)] [.ref 336] b m (fun v m2 => v = .inl none ∧ FR 336 352 m m2 ∧ MP G m2 (o_alter S y w).2.2 (nI (o_alter S y w).1)) := by
    intro q
    have hr : o_alter S y w = (1, 0, S) := if_pos q
    rw [hr]
    exact t_M_alter_13 (t_M_alter_33 W.1 (by omega) (Nat.le_of_ble_eq_true rfl) up_s (by omega) rfl (fun _ => t_M_alter_51 ⟨rfl, MO_c W 1⟩) (fun z => absurd z (by decide)))
  refine t_M_alter_0 (fun z => hno (Or.inl z)) (fun z => t_M_alter_5 W.1 (by omega) rfl (fun z1 => ?_) (fun z1 => hno (Or.inr (i_nlt.mp z1))))
  have hr1 : ¬ (y < 0 ∨ nI S.1.2 ≤ y) := by rintro (q | q); exact z q; exact i_nle.mpr z1 q
  have hno2 : (w < 0 ∨ 255 < w) → mm_W l G k_M_alter 28 [(0, .ref 336), (1, .int y), (2, .int w)] [.ref 336] b m (fun v m2 => v = .inl none ∧ FR 336 352 m m2 ∧ MP G m2 (o_alter S y w).2.2 (nI (o_alter S y w).1)) := by
    intro q
    have hr : o_alter S y w = (2, 0, S) := by unfold o_alter; rw [if_neg hr1, if_pos q]
    rw [hr]
    exact t_M_alter_28 (t_M_alter_33 W.1 (by omega) (Nat.le_of_ble_eq_true rfl) up_s (by omega) rfl (fun _ => t_M_alter_51 ⟨rfl, MO_c W 2⟩) (fun z => absurd z (by decide)))
  refine t_M_alter_17 (fun w2 => hno2 (Or.inl w2)) (fun w2 => t_M_alter_21 (fun w3 => ?_) (fun w3 => hno2 (Or.inr (i_nle.mp w3))))
  have hr : o_alter S y w = (0, 0, (upd S.1.1 y.toNatClampNeg (tb w), S.1.2), S.2) := by
    unfold o_alter
    rw [if_neg hr1, if_neg (by rintro (q | q); exact w2 q; exact i_nlt.mpr w3 q)]
  rw [hr]
  obtain ⟨i, hi, rfl⟩ := hs_nat (k := S.1.2) (by omega) ⟨z, i_nle.mpr z1⟩
  refine t_M_alter_32 (t_M_alter_33 W.1 (by omega) (Nat.le_of_ble_eq_true rfl) up_s (by omega) rfl (fun z => absurd rfl z) (fun _ => t_M_alter_43 up_s (by omega) rfl ((up_n (by omega)).trans W.2.1) (by omega) (vp_in_nI (by omega) (by omega)) (t_M_alter_51 ⟨rfl, FR_tr (FR_up (by omega) (by omega)) (FR_up (by omega) (by omega)), ?_⟩)))
  rw [vp_nar_byte, show w.toInt8.toInt32.toInt8.toInt32 = tb w from tb_tb w]
  exact ⟨hp, ot, x, A, hf, MW_gen W (u := S.1.2) ((up_n (by omega)).trans up_s) up_s ((up_n (by omega)).trans ((up_n (by omega)).trans W.2.2.1)) (fun a q1 q2 => (up_n (by omega)).trans (up_n (by omega))) ⟨hu, hS.2.1, hS.2.2.1, upd_tb hS.2.2.2 _ _⟩⟩
theorem m_length (h : MP G m S c0) : MO l G k_M_length [] b m false (o_length S) := by
  obtain ⟨hp, ot, x, A, hf, W⟩ := h
  exact t_M_length_0 W.1 (by omega) (Nat.le_of_ble_eq_true rfl) up_s rfl ⟨rfl, MO_c W 0⟩
theorem m_count (h : MP G m S c0) : MO l G k_M_count [] b m false (o_count S) := by
  obtain ⟨hp, ot, x, A, hf, W⟩ := h
  exact t_M_count_0 W.1 (by omega) (Nat.le_of_ble_eq_true rfl) up_s rfl ⟨rfl, MO_c W 0⟩
theorem m_erase (h : MP G m S c0) : MO l G k_M_erase [] b m true (o_erase S) := by
  obtain ⟨hp, ot, x, A, hf, W⟩ := h
  have hS := W.2.2.2.2.2
  refine t_M_erase_0 W.1 (by omega) (Nat.le_of_ble_eq_true rfl) up_s (Nat.le_of_ble_eq_true rfl) ⟨rfl, FR_tr (FR_up (by omega) (by omega)) (FR_up (by omega) (by omega)), ?_⟩
  exact ⟨hp, ot, x, A, hf, MW_gen W (f := S.1.1) (u := S.1.2) (g := S.2.1.1) (tu := 0) up_s ((up_n (by omega)).trans ((up_n (by omega)).trans W.2.1)) ((up_n (by omega)).trans ((up_n (by omega)).trans W.2.2.1)) (fun a q1 q2 => (up_n (by omega)).trans (up_n (by omega))) ⟨hS.1, by show 0 ≤ 64; omega, hS.2.2.1, hS.2.2.2⟩⟩
theorem m_byteAt (h : MP G m S c0) (y : Int32) : MO l G k_M_byteAt [.int y] b m false (o_byteAt S y) := by
  obtain ⟨hp, ot, x, A, hf, W⟩ := h
  have hS := W.2.2.2.2.2
  have hu := hS.1
  have hno : (y < 0 ∨ nI S.1.2 ≤ y) → mm_W l G k_M_byteAt 13 [(0, .ref 336), (1, .int y)] [.ref 336] b m (fun v m2 => v = .inl (some (.int (o_byteAt S y).2.1)) ∧ FR 336 352 m m2 ∧ MP G m2 (o_byteAt S y).2.2 (nI (o_byteAt S y).1)) := by
    intro q
    have hr : o_byteAt S y = (1, 0, S) := if_pos q
    rw [hr]
    exact t_M_byteAt_13 (t_M_byteAt_18 W.1 (by omega) (Nat.le_of_ble_eq_true rfl) up_s (by omega) rfl (fun z => absurd z (by decide)) (fun _ => t_M_byteAt_28 (t_M_byteAt_42 ⟨rfl, MO_c W 1⟩)))
  refine t_M_byteAt_0 (fun z => hno (Or.inl z)) (fun z => t_M_byteAt_5 W.1 (by omega) rfl (fun z1 => ?_) (fun z1 => hno (Or.inr (i_nlt.mp z1))))
  have hr : o_byteAt S y = (0, S.1.1 y.toNatClampNeg &&& 255, S) := if_neg (by rintro (q | q); exact z q; exact i_nle.mpr z1 q)
  rw [hr]
  obtain ⟨i, hi, rfl⟩ := hs_nat (k := S.1.2) (by omega) ⟨z, i_nle.mpr z1⟩
  exact t_M_byteAt_17 (t_M_byteAt_18 W.1 (by omega) (Nat.le_of_ble_eq_true rfl) up_s (by omega) rfl (fun _ => t_M_byteAt_32 up_s (by omega) rfl ((up_n (by omega)).trans W.2.1) (by omega) (vp_in_nI (by omega) (by omega)) (t_M_byteAt_42 ⟨rfl, MO_c W 0⟩)) (fun z => absurd (by decide) z))
def wd (a1 a2 a3 a4 a5 : Int32) (k : Nat) : Int32 := if k < 4 then a1 else if k < 8 then a2 else if k < 12 then a3 else if k < 16 then a4 else a5
def fb (a1 a2 a3 a4 a5 : Int32) (k : Nat) : Int32 := tb (sh (wd a1 a2 a3 a4 a5 k) (nI (24 - 8 * (k % 4))))
theorem fb_all (a1 a2 a3 a4 a5 : Int32) : (List.range 20).map (fb a1 a2 a3 a4 a5) = w4 a1 ++ (w4 a2 ++ (w4 a3 ++ (w4 a4 ++ w4 a5))) := rfl
theorem fd_sh : ∀ k : Nat, k < 20 → ((24 - (8 * (nI k - nI k / 4 * 4))) &&& 31).toBitVec.smod 32 = BitVec.ofNat 32 (24 - 8 * (k % 4)) := by decide +kernel
theorem L_M_feed {a1 a2 a3 a4 a5 : Int32} {hp ot : Nat} {x : Int32 × Int32 × Int64 × Int32 × Int32} {A : Nat → Nat → Int32} {hf : Nat → Int32} (W : MW G m S c0 hp ot x A hf) (hu : S.1.2 + 20 ≤ 65536) : ∀ w k m2, k + w = 20 → m2 336 = .inr (8, ML hp ot 0 (nI S.1.2) (nI S.2.1.2) (nI S.2.2.1.1) (nI (us S)) S.2.2.2 x) → m2 337 = aB G (app S.1.1 S.1.2 ((List.range k).map (fb a1 a2 a3 a4 a5))) → (∀ a, a ≠ 336 → a ≠ 337 → m2 a = m a) → mm_W l G k_M_feed 32 [(0, .ref 336), (1, .int a1), (2, .int a2), (3, .int a3), (4, .int a4), (5, .int a5), (6, .int (nI k))] [] b m2 (fun v m2 => v = .inl none ∧ FR 336 352 m m2 ∧ MP G m2 ((app S.1.1 S.1.2 (w4 a1 ++ (w4 a2 ++ (w4 a3 ++ (w4 a4 ++ w4 a5)))), S.1.2 + 20), S.2) 0) := by
  have hS := W.2.2.2.2.2
  intro w
  induction w with
  | zero =>
    intro k m2 hk e1 e2 e3
    have hk : k = 20 := by omega
    subst hk
    refine t_M_feed_32 (fun _ => t_M_feed_119 e1 (by omega) rfl (Nat.le_of_ble_eq_true rfl) ⟨rfl, ?_, ?_⟩) (fun z => absurd (by decide) z)
    · intro a ha
      rw [up_n (by omega)]
      exact e3 a (by omega) (by omega)
    · rw [fb_all] at e2
      refine ⟨hp, ot, x, A, hf, MW_gen W (u := S.1.2 + 20) ?_ ((up_n (by omega)).trans e2) ((up_n (by omega)).trans ((e3 _ (by omega) (by omega)).trans W.2.2.1)) (fun a q1 q2 => (up_n (by omega)).trans (e3 a (by omega) (by omega))) ⟨hu, hS.2.1, hS.2.2.1, ?_⟩⟩
      · rw [up_s]
        show Sum.inr (8, ML hp ot 0 (nI S.1.2 + 20) (nI S.2.1.2) (nI S.2.2.1.1) (nI (us S)) S.2.2.2 x) = _
        rw [show nI S.1.2 + 20 = nI (S.1.2 + 20) from nI_add _ 20]
      · exact app_tb hS.2.2.2 (okb_app (okb_w4 _) (okb_app (okb_w4 _) (okb_app (okb_w4 _) (okb_app (okb_w4 _) (okb_w4 _)))))
  | succ w ih =>
    intro k m2 hk e1 e2 e3
    refine t_M_feed_32 (fun z => absurd z (nI_ge (b := 20) (by omega) (by omega))) (fun _ => ?_)
    have h85 : mm_W l G k_M_feed 85 [(0, .ref 336), (1, .int a1), (2, .int a2), (3, .int a3), (4, .int a4), (5, .int a5), (6, .int (nI k))] [.int (wd a1 a2 a3 a4 a5 k)] b m2 (fun v m2 => v = .inl none ∧ FR 336 352 m m2 ∧ MP G m2 ((app S.1.1 S.1.2 (w4 a1 ++ (w4 a2 ++ (w4 a3 ++ (w4 a4 ++ w4 a5)))), S.1.2 + 20), S.2) 0) := by
      refine t_M_feed_85 e1 (by omega) rfl rfl e2 (by omega) (by rw [nI_add]; exact vp_in_nI (by omega) (by omega)) rfl ?_
      rw [nI_1]
      refine ih (k + 1) _ (by omega) ((up_n (by omega)).trans e1) ?_ (fun a q1 q2 => (up_n (by omega)).trans (e3 a q1 q2))
      rw [up_s, nI_add, nI_clamp (by omega), vp_nar_byte]
      have et : ((wd a1 a2 a3 a4 a5 k >>> ((24 - (8 * (nI k - nI k / 4 * 4))) &&& 31)).toInt8.toInt32).toInt8.toInt32 = fb a1 a2 a3 a4 a5 k := by
        have h1 := (sar_low (x := wd a1 a2 a3 a4 a5 k) (n := 24 - 8 * (k % 4)) (by omega) (fd_sh k (by omega))).1
        exact (tb_tb _).trans h1
      rw [et]
      have hl : ((List.range k).map (fb a1 a2 a3 a4 a5)).length = k := by simp
      have hsn := app_snoc S.1.1 S.1.2 ((List.range k).map (fb a1 a2 a3 a4 a5)) (fb a1 a2 a3 a4 a5 k)
      rw [hl] at hsn
      rw [hsn, List.range_succ, List.map_append]
      rfl
    unfold wd at h85
    refine t_M_feed_39 (fun z1 => ?_) (fun z1 => t_M_feed_45 ?_)
    · have z1 : 4 ≤ k := (nI_leI (a := 4) (by omega) (by omega)).mp z1
      rw [if_neg (by omega)] at h85
      refine t_M_feed_49 (fun z2 => ?_) (fun z2 => t_M_feed_56 ?_)
      · have z2 : 8 ≤ k := (nI_leI (a := 8) (by omega) (by omega)).mp z2
        rw [if_neg (by omega)] at h85
        refine t_M_feed_60 (fun z3 => ?_) (fun z3 => t_M_feed_67 ?_)
        · have z3 : 12 ≤ k := (nI_leI (a := 12) (by omega) (by omega)).mp z3
          rw [if_neg (by omega)] at h85
          refine t_M_feed_71 (fun z4 => t_M_feed_83 ?_) (fun z4 => t_M_feed_78 ?_)
          · have z4 : 16 ≤ k := (nI_leI (a := 16) (by omega) (by omega)).mp z4
            rw [if_neg (by omega)] at h85
            exact h85
          · have z4 : ¬ 16 ≤ k := fun q => z4 ((nI_leI (a := 16) (by omega) (by omega)).mpr q)
            rw [if_pos (by omega)] at h85
            exact h85
        · have z3 : ¬ 12 ≤ k := fun q => z3 ((nI_leI (a := 12) (by omega) (by omega)).mpr q)
          rw [if_pos (by omega)] at h85
          exact h85
      · have z2 : ¬ 8 ≤ k := fun q => z2 ((nI_leI (a := 8) (by omega) (by omega)).mpr q)
        rw [if_pos (by omega)] at h85
        exact h85
    · have z1 : ¬ 4 ≤ k := fun q => z1 ((nI_leI (a := 4) (by omega) (by omega)).mpr q)
      rw [if_pos (by omega)] at h85
      exact h85
theorem m_feed (h : MP G m S c0) (a1 a2 a3 a4 a5 : Int32) : MO l G k_M_feed [.int a1, .int a2, .int a3, .int a4, .int a5] b m true (o_feed S a1 a2 a3 a4 a5) := by
  obtain ⟨hp, ot, x, A, hf, W⟩ := h
  have hS := W.2.2.2.2.2
  have hu := hS.1
  refine t_M_feed_0 W.1 (by omega) rfl (fun z => ?_) (fun z => ?_)
  · have z : S.1.2 + 20 ≤ 65536 := (nI_leI (a := S.1.2 + 20) (b := 65536) (by omega) (by omega)).mp (by rw [← nI_add]; exact z)
    have hr : o_feed S a1 a2 a3 a4 a5 = (0, 0, (app S.1.1 S.1.2 (w4 a1 ++ (w4 a2 ++ (w4 a3 ++ (w4 a4 ++ w4 a5)))), S.1.2 + 20), S.2) := if_neg (by omega)
    rw [hr]
    refine t_M_feed_17 (t_M_feed_18 W.1 (by omega) (Nat.le_of_ble_eq_true rfl) up_s (by omega) rfl (fun _ => t_M_feed_29 ?_) (fun z => absurd (by decide) z))
    refine L_M_feed W z 20 0 _ (by omega) up_s ?_ (fun a q1 q2 => up_n (by omega))
    rw [up_n (by omega), show (List.range 0).map (fb a1 a2 a3 a4 a5) = [] from rfl, app_nil]
    exact W.2.1
  · have z : ¬ S.1.2 + 20 ≤ 65536 := fun q => z (by rw [show nI S.1.2 + 20 = nI (S.1.2 + 20) from nI_add _ 20]; exact nI_le (b := 65536) q (by omega))
    have hr : o_feed S a1 a2 a3 a4 a5 = (1, 0, S) := if_pos (by omega)
    rw [hr]
    exact t_M_feed_13 (t_M_feed_18 W.1 (by omega) (Nat.le_of_ble_eq_true rfl) up_s (by omega) rfl (fun z => absurd z (by decide)) (fun _ => t_M_feed_28 ⟨rfl, MO_c W 1⟩))
end MO1
