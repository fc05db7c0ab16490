/-! the model's reading: the directory -/
abbrev Sx (S : St) (r : Int32 × Int32 × Int32) : St := (S.1, S.2.1, S.2.2.1, r)
section MO10
variable {l : Launch} {G : mm_G} {m m2 : mm_Mem} {b : Nat} {S : St} {c0 : Int32} {hp ot : Nat} {x : Int32 × Int32 × Int64 × Int32 × Int32} {A : Nat → Nat → Int32} {hf : Nat → Int32}
theorem MW_sc (W : MW G m S c0 hp ot x A hf) (e : ∀ a, 336 ≤ a → a ≤ 347 → m2 a = m a) (hs : SC G m2) : MW G m2 S c0 hp ot x A hf := by
  obtain ⟨w1, w2, w3, ⟨a1, a2, a3, ⟨q, a4⟩, a5, a6⟩, w5⟩ := W
  have hsw : 346 ≤ hp ∧ hp ≤ 347 ∧ 346 ≤ ot ∧ ot ≤ 347 := by unfold sw at a6; omega
  exact ⟨(e _ (by omega) (by omega)).trans w1, (e _ (by omega) (by omega)).trans w2, (e _ (by omega) (by omega)).trans w3, ⟨(e _ (by omega) (by omega)).trans a1, fun a q1 q2 => (e _ (by omega) (by omega)).trans (a2 a q1 q2), (e _ (by omega) (by omega)).trans a3, ⟨q, (e _ (by omega) (by omega)).trans a4.1, a4.2⟩, hs, a6⟩, w5⟩
theorem MW_SC (W : MW G m S c0 hp ot x A hf) : SC G m := W.2.2.2.1.2.2.2.2.1
theorem SC_348 (h : SC G m) (g : Nat → Int32) : SC G (va_up m 348 (aI G g)) := by
  obtain ⟨⟨a, h1⟩, ⟨g2, h2⟩, ⟨g3, h3⟩, ⟨g4, h4⟩, g5, h5⟩ := h
  exact ⟨⟨g, up_s⟩, ⟨g2, (up_n (by omega)).trans h2⟩, ⟨g3, (up_n (by omega)).trans h3⟩, ⟨g4, (up_n (by omega)).trans h4⟩, g5, (up_n (by omega)).trans h5⟩
theorem SC_350 (h : SC G m) (g : Nat → Int64) : SC G (va_up m 350 (aL G g)) := by
  obtain ⟨⟨a, h1⟩, ⟨g2, h2⟩, ⟨g3, h3⟩, ⟨g4, h4⟩, g5, h5⟩ := h
  exact ⟨⟨a, (up_n (by omega)).trans h1⟩, ⟨g2, (up_n (by omega)).trans h2⟩, ⟨g, up_s⟩, ⟨g4, (up_n (by omega)).trans h4⟩, g5, (up_n (by omega)).trans h5⟩
theorem SC_351 (h : SC G m) (g : Nat → Int64) : SC G (va_up m 351 (aL G g)) := by
  obtain ⟨⟨a, h1⟩, ⟨g2, h2⟩, ⟨g3, h3⟩, ⟨g4, h4⟩, g5, h5⟩ := h
  exact ⟨⟨a, (up_n (by omega)).trans h1⟩, ⟨g2, (up_n (by omega)).trans h2⟩, ⟨g3, (up_n (by omega)).trans h3⟩, ⟨g, up_s⟩, g5, (up_n (by omega)).trans h5⟩
theorem SC_352 (h : SC G m) (g : Nat → Int32) : SC G (va_up m 352 (aZ G g)) := by
  obtain ⟨⟨a, h1⟩, ⟨g2, h2⟩, ⟨g3, h3⟩, ⟨g4, h4⟩, g5, h5⟩ := h
  exact ⟨⟨a, (up_n (by omega)).trans h1⟩, ⟨g2, (up_n (by omega)).trans h2⟩, ⟨g3, (up_n (by omega)).trans h3⟩, ⟨g4, (up_n (by omega)).trans h4⟩, g, up_s⟩
theorem MW_348 (W : MW G m S c0 hp ot x A hf) (g : Nat → Int32) : MW G (va_up m 348 (aI G g)) S c0 hp ot x A hf := MW_sc W (fun a _ _ => up_n (by omega)) (SC_348 (MW_SC W) g)
theorem MW_350 (W : MW G m S c0 hp ot x A hf) (g : Nat → Int64) : MW G (va_up m 350 (aL G g)) S c0 hp ot x A hf := MW_sc W (fun a _ _ => up_n (by omega)) (SC_350 (MW_SC W) g)
theorem MW_351 (W : MW G m S c0 hp ot x A hf) (g : Nat → Int64) : MW G (va_up m 351 (aL G g)) S c0 hp ot x A hf := MW_sc W (fun a _ _ => up_n (by omega)) (SC_351 (MW_SC W) g)
theorem MW_352 (W : MW G m S c0 hp ot x A hf) (g : Nat → Int32) : MW G (va_up m 352 (aZ G g)) S c0 hp ot x A hf := MW_sc W (fun a _ _ => up_n (by omega)) (SC_352 (MW_SC W) g)
/-- what the model knows of the directory's heads -/
def DR (G : mm_G) (m : mm_Mem) (f : Nat → Int32) (d n : Nat) : Prop := ∃ D, m 348 = aI G D ∧ ∀ j, j < n → D j = nI (dp f d j)
def HR (G : mm_G) (m : mm_Mem) (f : Nat → Int32) (d n : Nat) : Prop := ∃ H, m 349 = aL G H ∧ ∀ j, j < n → H j = lN (dhd f d j)
theorem df1_le {f : Nat → Int32} {p d i : Nat} (h : ¬ df1 f p d i) : dp f d i + 46 ≤ p ∧ dp f d i + 46 + dnl f d i ≤ p ∧ dp f d (i + 1) ≤ p := by
  unfold df1 at h
  have e : dp f d (i + 1) = dp f d i + 46 + le f (dp f d i + 28) 2 + le f (dp f d i + 30) 2 + le f (dp f d i + 32) 2 := rfl
  unfold dnl
  omega
def QD (G : mm_G) (m : mm_Mem) (S : St) (hp ot : Nat) (x : Int32 × Int32 × Int64 × Int32 × Int32) (A : Nat → Nat → Int32) (hf : Nat → Int32) (p d lim h : Nat) : mm_O → mm_Mem → Prop := fun v m2 => FR 336 352 m m2 ∧ ((∃ r, dsr S.1.1 p d lim h 0 = some r ∧ v = .inl (some (.int 1)) ∧ MW G m2 (Sx S r) 0 hp ot x A hf) ∨ (dsr S.1.1 p d lim h 0 = none ∧ v = .inl (some (.int 0)) ∧ MW G m2 S 0 hp ot x A hf ∧ DR G m2 S.1.1 d h ∧ HR G m2 S.1.1 d h ∧ ∀ j, j < h → dflt S.1.1 p d lim j = 0))
theorem L_M_dir {p d lim h : Nat} {o : Int32} (hp22 : p + 22 ≤ S.1.2) (hd : d ≤ p) (hh : h ≤ 64) (hlim : lim ≤ 65536) : ∀ w i M D H, i + w = h → MW G M S 0 hp ot (nI lim, nI p, lN d, nI h, o) A hf → FR 336 352 m M → M 348 = aI G D → (∀ j, j < i → D j = nI (dp S.1.1 d j)) → M 349 = aL G H → (∀ j, j < i → H j = lN (dhd S.1.1 d j)) → (∀ j, j < i → dflt S.1.1 p d lim j = 0) → dsr S.1.1 p d lim h 0 = dsr S.1.1 p d lim w i → mm_W l G k_M_readDirectory 13 [(0, .ref 336), (1, .long (lN (dp S.1.1 d i))), (3, .long (lN (sum (dbc S.1.1 d) i))), (5, .long (lN (sum (dsz S.1.1 d) i))), (7, .int (nI i))] [] b M (QD G m S hp ot (nI lim, nI p, lN d, nI h, o) A hf p d lim h) := by
  intro w
  induction w with
  | zero =>
    intro i M D H hi W F e8 hD e9 hH hall hs
    have hU := W.2.2.2.2.2.1
    have hdp : dp S.1.1 d i ≤ p := by
      cases i with
      | zero => exact hd
      | succ j => exact (df1_le (dflt_0 (hall j (by omega))).1).2.2
    have e : i = h := by omega
    subst e
    refine t_M_readDirectory_13 W.1 (by omega) rfl (fun _ => t_M_readDirectory_367 W.1 (by omega) rfl (fun z => ?_) (fun z => ?_)) (fun z => absurd (nI_le (Nat.le_refl _) (by omega)) z)
    · rw [lg_cmp_eq, nI_l (by omega), lN_eqB (by omega) (by omega)] at z
      exact t_M_readDirectory_391 (t_M_readDirectory_392 ⟨F, Or.inr ⟨by rw [hs, dsr, ifc_t z], rfl, W, ⟨D, e8, hD⟩, ⟨H, e9, hH⟩, hall⟩⟩ rfl)
    · rw [lg_cmp_eq, nI_l (by omega), lN_eqB (by omega) (by omega)] at z
      refine t_M_readDirectory_377 (Nat.le_of_eq (Nat.zero_add _)) W.1 (by omega) (s_M_wrong W.1 3 (by omega) (-1)) (fun z => absurd z (by decide)) (fun _ => t_M_readDirectory_387 (t_M_readDirectory_392 ⟨FR_tr F (FR_up (by omega) (by omega)), Or.inl ⟨(3, nI (dp S.1.1 d i), -1), by rw [hs, dsr, ifc_f z], rfl, ?_⟩⟩ rfl))
      have h9 := MW_h W 0 (3, nI (mn (dp S.1.1 d i)), -1) (nI lim, nI p, lN d, nI i, o)
      rw [show mn (dp S.1.1 d i) = dp S.1.1 d i by unfold mn; rw [if_neg (by omega)]] at h9 ⊢
      exact h9
  | succ w ih =>
    intro i M D H hi W F e8 hD e9 hH hall hs
    have hU := W.2.2.2.2.2.1
    have hdp : dp S.1.1 d i ≤ p := by
      cases i with
      | zero => exact hd
      | succ j => exact (df1_le (dflt_0 (hall j (by omega))).1).2.2
    have hsb : sum (dbc S.1.1 d) i ≤ 65536 ∧ sum (dsz S.1.1 d) i ≤ 65536 := by
      cases i with
      | zero => exact ⟨Nat.zero_le _, Nat.zero_le _⟩
      | succ j =>
        have h5 := (dflt_0 (hall j (by omega))).2.2.2.2
        unfold df5 at h5
        omega
    have ec : (nI i).toNatClampNeg = i := nI_clamp (by omega)
    have hbad : ∀ M code, MW G M S 0 hp ot (nI lim, nI p, lN d, nI h, o) A hf → FR 336 352 m M → dflt S.1.1 p d lim i = code → code ≠ 0 → QD G m S hp ot (nI lim, nI p, lN d, nI h, o) A hf p d lim h (.inl (some (.int 1))) (va_up M 336 (.inr (8, ML hp ot 0 (nI S.1.2) (nI S.2.1.2) (nI S.2.2.1.1) (nI (us S)) (nI code, nI (mn (dp S.1.1 d i)), nI i) (nI lim, nI p, lN d, nI h, o)))) := by
      intro M code W F hc h0
      refine ⟨FR_tr F (FR_up (by omega) (by omega)), Or.inl ⟨(nI code, nI (dp S.1.1 d i), nI i), by rw [hs, dsr, ifc_f (by omega), hc], rfl, ?_⟩⟩
      have h9 := MW_h W 0 (nI code, nI (mn (dp S.1.1 d i)), nI i) (nI lim, nI p, lN d, nI h, o)
      rw [show mn (dp S.1.1 d i) = dp S.1.1 d i by unfold mn; rw [if_neg (by omega)]] at h9 ⊢
      exact h9
    refine t_M_readDirectory_13 W.1 (by omega) rfl (fun z => absurd z (nI_ge (by omega) (by omega))) (fun _ => t_M_readDirectory_22 W.1 (by omega) rfl (fun z => ?_) (fun z => ?_))
    · rw [show (46 : Int64) = lN 46 from rfl, lN_add, lg_cmp_gt, nI_l (by omega), lN_ltB (by omega) (by omega)] at z
      exact t_M_readDirectory_48 (Nat.le_of_eq (Nat.zero_add _)) W.1 (by omega) (s_M_wrong W.1 (nI 3) (by omega) (nI i)) (hbad M 3 W F (ifc_t (Or.inl z)) (by omega)) rfl
    rw [show (46 : Int64) = lN 46 from rfl, lN_add, lg_cmp_gt, nI_l (by omega), lN_ltB (by omega) (by omega)] at z
    have l0 := le4 S.1.1 (dp S.1.1 d i)
    refine t_M_readDirectory_36 (Nat.le_of_eq (Nat.zero_add _)) W.1 (by omega) (s_M_four W.1 rfl W.2.1 (by omega)) (fun z1 => ?_) (fun z1 => ?_)
    case refine_2 =>
      have z1 : ¬ le S.1.1 (dp S.1.1 d i) 4 = 33639248 := fun q => z1 (by rw [q, lg_cmp_eq]; rfl)
      exact t_M_readDirectory_48 (Nat.le_of_eq (Nat.zero_add _)) W.1 (by omega) (s_M_wrong W.1 (nI 3) (by omega) (nI i)) (hbad M 3 W F (ifc_t (Or.inr (Or.inl z1))) (by omega)) rfl
    rw [lg_cmp_eq, show (33639248 : Int64) = lN 33639248 from rfl, lN_eqB (by omega) (by omega)] at z1
    have W1 := MW_348 W (upd D (nI i).toNatClampNeg (lN (dp S.1.1 d i)).toInt32)
    have F1 : FR 336 352 m (va_up M 348 (aI G (upd D (nI i).toNatClampNeg (lN (dp S.1.1 d i)).toInt32))) := FR_tr F (FR_up (by omega) (by omega))
    have hDi : upd D (nI i).toNatClampNeg (lN (dp S.1.1 d i)).toInt32 i = nI (dp S.1.1 d i) := by rw [ec, upd_s, lN_i]
    have hDj : ∀ j, j < i + 1 → upd D (nI i).toNatClampNeg (lN (dp S.1.1 d i)).toInt32 j = nI (dp S.1.1 d j) := by
      intro j hj
      by_cases q : j = i
      · rw [q]; exact hDi
      · rw [ec, upd_n q]; exact hD j (by omega)
    have e81 : va_up M 348 (aI G (upd D (nI i).toNatClampNeg (lN (dp S.1.1 d i)).toInt32)) 348 = aI G (upd D (nI i).toNatClampNeg (lN (dp S.1.1 d i)).toInt32) := up_s
    have e91 : va_up M 348 (aI G (upd D (nI i).toNatClampNeg (lN (dp S.1.1 d i)).toInt32)) 349 = aL G H := (up_n (by omega)).trans e9
    have hns := s_M_nameSize (l := l) (b := 0) W1.1 rfl rfl W1.2.1 e81 (i := i) (by omega) hDi (by omega)
    refine t_M_readDirectory_57 W.1 (by omega) rfl e8 (by omega) (vp_in_nI (by omega) (by omega)) (Nat.le_of_eq (Nat.zero_add _)) W1.1 hns (Nat.le_of_eq (Nat.zero_add _)) W1.1 (s_M_twoL W1.1 rfl W1.2.1 30 (by omega)) (Nat.le_of_eq (Nat.zero_add _)) W1.1 (s_M_twoL W1.1 rfl W1.2.1 32 (by omega)) W1.1 rfl (fun z2 => ?_) (fun z2 => ?_)
    all_goals (have l28 := le2 S.1.1 (dp S.1.1 d i + 28); have l30 := le2 S.1.1 (dp S.1.1 d i + 30); have l32 := le2 S.1.1 (dp S.1.1 d i + 32))
    all_goals (have enext : lN (dp S.1.1 d i) + 46 + (nI (le S.1.1 (dp S.1.1 d i + 28) 2)).toInt64 + (nI (le S.1.1 (dp S.1.1 d i + 30) 2)).toInt64 + (nI (le S.1.1 (dp S.1.1 d i + 32) 2)).toInt64 = lN (dp S.1.1 d (i + 1)) := (by rw [show (46 : Int64) = lN 46 from rfl, nI_l (by omega), nI_l (by omega), nI_l (by omega), lN_add, lN_add, lN_add, lN_add]; rfl))
    all_goals (have edp : dp S.1.1 d (i + 1) = dp S.1.1 d i + 46 + le S.1.1 (dp S.1.1 d i + 28) 2 + le S.1.1 (dp S.1.1 d i + 30) 2 + le S.1.1 (dp S.1.1 d i + 32) 2 := rfl)
    all_goals rw [enext] at z2
    all_goals rw [lg_cmp_le, nI_l (by omega), lN_leB (by omega) (by omega)] at z2
    case refine_2 =>
      exact t_M_readDirectory_114 (Nat.le_of_eq (Nat.zero_add _)) W1.1 (by omega) (s_M_wrong W1.1 (nI 3) (by omega) (nI i)) (hbad _ 3 W1 F1 (ifc_t (Or.inr (Or.inr (by omega)))) (by omega)) rfl
    rw [enext]
    clear enext
    generalize va_up M 348 (aI G (upd D (nI i).toNatClampNeg (lN (dp S.1.1 d i)).toInt32)) = M1 at W1 F1 e81 e91 hns ⊢
    generalize upd D (nI i).toNatClampNeg (lN (dp S.1.1 d i)).toInt32 = D1 at hDi hDj e81
    have n1 : ¬ df1 S.1.1 p d i := by
      unfold df1
      omega
    have n1b := df1_le n1
    have hfl := s_M_flags (l := l) (b := 0) W1.1 rfl rfl W1.2.1 e81 (i := i) (by omega) hDi (by omega)
    have hme := s_M_method (l := l) (b := 0) W1.1 rfl rfl W1.2.1 e81 (i := i) (by omega) hDi (by omega)
    have hmy := s_M_many (l := l) (b := 0) W1.1 rfl rfl W1.2.1 e81 (i := i) (by omega) hDi (by omega)
    have hsz := s_M_size (l := l) (b := 0) W1.1 rfl rfl W1.2.1 e81 (i := i) (by omega) hDi (by omega)
    have l10 : dme S.1.1 d i < 65536 := le2 _ _
    have l34 := le2 S.1.1 (dp S.1.1 d i + 34)
    have l20 : dbc S.1.1 d i < 4294967296 := le4 _ _
    have l24 : dsz S.1.1 d i < 4294967296 := le4 _ _
    have l42 : dhd S.1.1 d i < 4294967296 := le4 _ _
    have hbad2 : df2 S.1.1 d i → mm_W l G k_M_readDirectory 168 [(0, .ref 336), (1, .long (lN (dp S.1.1 d i))), (7, .int (nI i))] [] b M1 (QD G m S hp ot (nI lim, nI p, lN d, nI h, o) A hf p d lim h) := by
      intro q
      exact t_M_readDirectory_168 (Nat.le_of_eq (Nat.zero_add _)) W1.1 (by omega) (s_M_wrong W1.1 (nI 4) (by omega) (nI i)) (hbad _ 4 W1 F1 (by unfold dflt; rw [ifc_f n1, ifc_t q]) (by omega)) rfl
    refine t_M_readDirectory_123 (Nat.le_of_eq (Nat.zero_add _)) W1.1 (by omega) hfl (fun z3 => hbad2 (Or.inl z3)) (fun z3 => ?_)
    have h156 : (dme S.1.1 d i = 0 ∨ dme S.1.1 d i = 8) → mm_W l G k_M_readDirectory 156 [(0, .ref 336), (1, .long (lN (dp S.1.1 d i))), (3, .long (lN (sum (dbc S.1.1 d) i))), (5, .long (lN (sum (dsz S.1.1 d) i))), (7, .int (nI i)), (8, .long (lN (dp S.1.1 d (i + 1))))] [] b M1 (QD G m S hp ot (nI lim, nI p, lN d, nI h, o) A hf p d lim h) := by
      intro z4
      refine t_M_readDirectory_156 (Nat.le_of_eq (Nat.zero_add _)) W1.1 (by omega) (s_M_twoL W1.1 rfl W1.2.1 34 (by omega)) (fun z5 => ?_) (fun z5 => hbad2 (Or.inr (Or.inr (fun q => z5 (by rw [q]; rfl)))))
      have z5 : le S.1.1 (dp S.1.1 d i + 34) 2 = 0 := (nI_eq (b := 0) (by omega) (by omega)).mp z5
      have n2 : ¬ df2 S.1.1 d i := by
        rintro (q | q | q)
        · exact q z3
        · omega
        · exact q z5
      have hbad3 : df3 S.1.1 d i → mm_W l G k_M_readDirectory 247 [(0, .ref 336), (1, .long (lN (dp S.1.1 d i))), (7, .int (nI i))] [] b M1 (QD G m S hp ot (nI lim, nI p, lN d, nI h, o) A hf p d lim h) := by
        intro q
        exact t_M_readDirectory_247 (Nat.le_of_eq (Nat.zero_add _)) W1.1 (by omega) (s_M_wrong W1.1 (nI 5) (by omega) (nI i)) (hbad _ 5 W1 F1 (by unfold dflt; rw [ifc_f n1, ifc_f n2, ifc_t q]) (by omega)) rfl
      have h291 : ¬ df3 S.1.1 d i → ¬ df4 S.1.1 d i → mm_W l G k_M_readDirectory 291 [(0, .ref 336), (1, .long (lN (dp S.1.1 d i))), (3, .long (lN (sum (dbc S.1.1 d) i))), (5, .long (lN (sum (dsz S.1.1 d) i))), (7, .int (nI i)), (8, .long (lN (dp S.1.1 d (i + 1))))] [] b M1 (QD G m S hp ot (nI lim, nI p, lN d, nI h, o) A hf p d lim h) := by
        intro n3 n4
        have hbad5 : df5 S.1.1 d lim i → mm_W l G k_M_readDirectory 332 [(0, .ref 336), (1, .long (lN (dp S.1.1 d i))), (7, .int (nI i))] [] b M1 (QD G m S hp ot (nI lim, nI p, lN d, nI h, o) A hf p d lim h) := by
          intro q
          exact t_M_readDirectory_332 (Nat.le_of_eq (Nat.zero_add _)) W1.1 (by omega) (s_M_wrong W1.1 (nI 9) (by omega) (nI i)) (hbad _ 9 W1 F1 (by unfold dflt; rw [ifc_f n1, ifc_f n2, ifc_f n3, ifc_f n4, ifc_t q]) (by omega)) rfl
        have eb : lN (sum (dbc S.1.1 d) i) + lN (le S.1.1 (dp S.1.1 d i + 20) 4) = lN (sum (dbc S.1.1 d) (i + 1)) := lN_add _ _
        have es : lN (sum (dsz S.1.1 d) i) + lN (le S.1.1 (dp S.1.1 d i + 24) 4) = lN (sum (dsz S.1.1 d) (i + 1)) := lN_add _ _
        have sb : sum (dbc S.1.1 d) (i + 1) = sum (dbc S.1.1 d) i + dbc S.1.1 d i := rfl
        have ss : sum (dsz S.1.1 d) (i + 1) = sum (dsz S.1.1 d) i + dsz S.1.1 d i := rfl
        refine t_M_readDirectory_291 (Nat.le_of_eq (Nat.zero_add _)) W1.1 (by omega) hmy (Nat.le_of_eq (Nat.zero_add _)) W1.1 hsz W1.1 rfl (fun z6 => ?_) (fun z6 => ?_)
        · rw [eb, lg_cmp_gt, nI_l (by omega), lN_ltB (by omega) (by omega)] at z6
          exact hbad5 (Or.inl z6)
        · rw [eb, lg_cmp_gt, nI_l (by omega), lN_ltB (by omega) (by omega)] at z6
          rw [eb, es]
          refine t_M_readDirectory_321 W1.1 (by omega) rfl (fun z7 => ?_) (fun z7 => ?_)
          · rw [lg_cmp_le, nI_l (by omega), lN_leB (by omega) (by omega)] at z7
            have n5 : ¬ df5 S.1.1 d lim i := by
              unfold df5
              omega
            have h0 : dflt S.1.1 p d lim i = 0 := by
              unfold dflt
              rw [ifc_f n1, ifc_f n2, ifc_f n3, ifc_f n4, ifc_f n5]
            refine t_M_readDirectory_342 W1.1 (by omega) rfl (Nat.le_of_eq (Nat.zero_add _)) (s_M_fourL W1.1 rfl W1.2.1 42 (by omega)) e91 (by omega) (vp_in_nI (by omega) (by omega)) ?_
            rw [nI_1]
            refine ih (i + 1) _ D1 (vp_updL H (nI i).toNatClampNeg (lN (dhd S.1.1 d i))) (by omega) (MW_349 W1 _) (FR_tr F1 (FR_up (by omega) (by omega))) ((up_n (by omega)).trans e81) hDj up_s (fun j hj => ?_) (fun j hj => ?_) (by rw [hs, dsr, ifc_t h0])
            · unfold vp_updL
              rw [ec]
              by_cases q : j = i
              · rw [if_pos q, q]
              · rw [if_neg q]
                exact hH j (by omega)
            · by_cases q : j = i
              · rw [q]; exact h0
              · exact hall j (by omega)
          · rw [lg_cmp_le, nI_l (by omega), lN_leB (by omega) (by omega)] at z7
            exact hbad5 (Or.inr (by omega))
      have h219 : ∀ sa : Prop, (sa ↔ tw S.1.1 d i) → mm_W l G k_M_readDirectory 219 [(0, .ref 336), (1, .long (lN (dp S.1.1 d i))), (3, .long (lN (sum (dbc S.1.1 d) i))), (5, .long (lN (sum (dsz S.1.1 d) i))), (7, .int (nI i)), (8, .long (lN (dp S.1.1 d (i + 1)))), (10, .int (bp sa))] [] b M1 (QD G m S hp ot (nI lim, nI p, lN d, nI h, o) A hf p d lim h) := by
        intro sa hsa
        have eD : D1 (nI i).toNatClampNeg + 46 = nI (dp S.1.1 d i + 46) := by rw [ec, hDi, show (46 : Int32) = nI 46 from rfl, nI_add]
        have hnm := s_M_isName (l := l) (b := 0) W1.1 (wh := D1 (nI i).toNatClampNeg + 46) (g := dnm S.1.1 d i) (n := le S.1.1 (dp S.1.1 d i + 28) 2) (by omega) (fun j _ => ub_lt _) (fun _ j hj => by rw [eD]; exact nameR W1.1 rfl W1.2.1 (by have h8 : dnl S.1.1 d i = le S.1.1 (dp S.1.1 d i + 28) 2 := rfl; omega))
        refine t_M_readDirectory_219 (fun z6 => hbad3 (Or.inr (hsa.mp (bp_n0 z6)))) (fun z6 => t_M_readDirectory_224 W1.1 (by omega) rfl e81 (by omega) (vp_in_nI (by omega) (by omega)) (Nat.le_of_eq (Nat.zero_add _)) hns (Nat.le_of_eq (Nat.zero_add _)) W1.1 hnm (fun z7 => ?_) (fun z7 => hbad3 (Or.inl (Bool.eq_false_iff.mpr (bp_0.mp z7)))))
        have z6 := bp_0.mp z6
        have z7 := bp_n0 z7
        have n3 : ¬ df3 S.1.1 d i := by
          rintro (q | q)
          · have q2 : isNm (dnm S.1.1 d i) (dnl S.1.1 d i) = true := z7
            rw [q] at q2
            cases q2
          · exact z6 (hsa.mpr q)
        refine t_M_readDirectory_256 (Nat.le_of_eq (Nat.zero_add _)) W1.1 (by omega) hme (fun z8 => h291 n3 (fun q => z8 ?_)) (fun z8 => t_M_readDirectory_265 (Nat.le_of_eq (Nat.zero_add _)) W1.1 (by omega) hmy (Nat.le_of_eq (Nat.zero_add _)) W1.1 hsz (fun z9 => h291 n3 (fun q => q.2 ?_)) (fun z9 => ?_))
        · have q1 : le S.1.1 (dp S.1.1 d i + 10) 2 = 0 := q.1
          rw [q1]
          rfl
        · rw [lg_cmp_eq, lN_eqB (show le S.1.1 (dp S.1.1 d i + 20) 4 < 2 ^ 62 by (have := le4 S.1.1 (dp S.1.1 d i + 20); omega)) (by have := le4 S.1.1 (dp S.1.1 d i + 24); omega)] at z9
          exact z9
        · have z8 : dme S.1.1 d i = 0 := (nI_eq (b := 0) (by omega) (by omega)).mp z8
          have n4 : df4 S.1.1 d i := ⟨z8, fun q => z9 (by
            have q : le S.1.1 (dp S.1.1 d i + 20) 4 = le S.1.1 (dp S.1.1 d i + 24) 4 := q
            rw [q, lg_cmp_eq])⟩
          exact t_M_readDirectory_281 (Nat.le_of_eq (Nat.zero_add _)) W1.1 (by omega) (s_M_wrong W1.1 (nI 6) (by omega) (nI i)) (hbad _ 6 W1 F1 (by unfold dflt; rw [ifc_f n1, ifc_f n2, ifc_f n3, ifc_t n4]) (by omega)) rfl
      have LT : ∀ r j (sa : Prop), j + r = i → (sa ↔ ∃ e, e < j ∧ alk (dnl S.1.1 d e) (dnm S.1.1 d e) (dnl S.1.1 d i) (dnm S.1.1 d i) = true) → mm_W l G k_M_readDirectory 183 [(0, .ref 336), (1, .long (lN (dp S.1.1 d i))), (3, .long (lN (sum (dbc S.1.1 d) i))), (5, .long (lN (sum (dsz S.1.1 d) i))), (7, .int (nI i)), (8, .long (lN (dp S.1.1 d (i + 1)))), (10, .int (bp sa)), (11, .int (nI j))] [] b M1 (QD G m S hp ot (nI lim, nI p, lN d, nI h, o) A hf p d lim h) := by
        intro r
        induction r with
        | zero =>
          intro j sa hj hsa
          have e : j = i := by omega
          subst e
          exact t_M_readDirectory_183 (fun _ => h219 sa hsa) (fun z => absurd (nI_le (Nat.le_refl _) (by omega)) z)
        | succ r ihr =>
          intro j sa hj hsa
          have hyes : (∃ e, e < j + 1 ∧ alk (dnl S.1.1 d e) (dnm S.1.1 d e) (dnl S.1.1 d i) (dnm S.1.1 d i) = true) → mm_W l G k_M_readDirectory 206 [(0, .ref 336), (1, .long (lN (dp S.1.1 d i))), (3, .long (lN (sum (dbc S.1.1 d) i))), (5, .long (lN (sum (dsz S.1.1 d) i))), (7, .int (nI i)), (8, .long (lN (dp S.1.1 d (i + 1)))), (11, .int (nI j))] [] b M1 (QD G m S hp ot (nI lim, nI p, lN d, nI h, o) A hf p d lim h) := by
            intro q
            refine t_M_readDirectory_206 (t_M_readDirectory_211 ?_)
            rw [nI_1]
            have h9 := ihr (j + 1) True (by omega) ⟨fun _ => q, fun _ => trivial⟩
            rw [bp_t trivial] at h9
            exact h9
          refine t_M_readDirectory_183 (fun z => absurd z (nI_ge (by omega) (by omega))) (fun _ => t_M_readDirectory_190 (fun z6 => ?_) (fun z6 => ?_))
          · obtain ⟨e, he, ha⟩ := hsa.mp (bp_n0 z6)
            exact hyes ⟨e, by omega, ha⟩
          · have z6 := bp_0.mp z6
            have nj := df1_le (dflt_0 (hall j (by omega))).1
            have hsn := s_M_sameName (l := l) (b := 0) W1.1 rfl rfl W1.2.1 e81 (i := i) (j := j) (by omega) (by omega) hDi (hDj j (by omega)) (by have h8 : dnl S.1.1 d i = le S.1.1 (dp S.1.1 d i + 28) 2 := rfl; omega) (by have h8 : dnl S.1.1 d j = le S.1.1 (dp S.1.1 d j + 28) 2 := rfl; omega)
            refine t_M_readDirectory_195 (Nat.le_of_eq (Nat.zero_add _)) W1.1 (by omega) hsn (fun z7 => ?_) (fun z7 => hyes ⟨j, by omega, bp_n0 z7⟩)
            have z7 := bp_0.mp z7
            refine t_M_readDirectory_210 (t_M_readDirectory_211 ?_)
            rw [nI_1]
            have h9 := ihr (j + 1) False (by omega) ⟨False.elim, fun ⟨e, he, ha⟩ => by
              by_cases q : e = j
              · rw [q] at ha
                exact z7 ha
              · exact z6 (hsa.mpr ⟨e, by omega, ha⟩)⟩
            rw [bp_f (fun q => q)] at h9
            exact h9
      have h9 := LT i 0 False (by omega) ⟨False.elim, fun ⟨e, he, _⟩ => absurd he (by omega)⟩
      rw [bp_f (fun q => q)] at h9
      exact t_M_readDirectory_177 h9
    refine t_M_readDirectory_136 (Nat.le_of_eq (Nat.zero_add _)) W1.1 (by omega) hme (fun z4 => h156 (Or.inl ((nI_eq (b := 0) (by omega) (by omega)).mp z4))) (fun z4 => t_M_readDirectory_145 (Nat.le_of_eq (Nat.zero_add _)) W1.1 (by omega) hme (fun z5 => hbad2 (Or.inr (Or.inl ⟨fun q => z4 ?_, fun q => z5 ?_⟩))) (fun z5 => h156 (Or.inr ((nI_eq (b := 8) (by omega) (by omega)).mp z5))))
    · have q1 : le S.1.1 (dp S.1.1 d i + 10) 2 = 0 := q
      rw [q1]
      rfl
    · have q1 : le S.1.1 (dp S.1.1 d i + 10) 2 = 8 := q
      rw [q1]
      rfl
theorem s_M_readDirectory {p d lim h : Nat} {o : Int32} (W : MW G m S 0 hp ot (nI lim, nI p, lN d, nI h, o) A hf) (hp22 : p + 22 ≤ S.1.2) (hd : d ≤ p) (hh : h ≤ 64) (hlim : lim ≤ 65536) : mm_W l G k_M_readDirectory 0 (lv_args 0 [.ref 336]) [] b m (QD G m S hp ot (nI lim, nI p, lN d, nI h, o) A hf p d lim h) := by
  obtain ⟨⟨D, e8⟩, ⟨H, e9⟩, -⟩ := MW_SC W
  exact t_M_readDirectory_0 W.1 (by omega) rfl (L_M_dir hp22 hd hh hlim h 0 m D H (by omega) W FR_refl e8 (fun j hj => absurd hj (by omega)) e9 (fun j hj => absurd hj (by omega)) (fun j hj => absurd hj (by omega)) rfl)
end MO10
