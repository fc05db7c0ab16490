/-! the model's reading: an entry's own head, its bytes -/
theorem and8 (x : Int32) : (x &&& 8) ≤ 0 ↔ (x &&& 8) = 0 := by
  constructor
  · intro h
    have h1 : (x &&& 8).toBitVec = x.toBitVec &&& 8#32 := rfl
    have h2 : (x &&& 8).toBitVec.toNat ≤ 8 := by
      rw [h1, BitVec.toNat_and]
      exact Nat.and_le_right
    rw [Int32.le_iff_toBitVec_sle] at h
    apply Int32.toBitVec_inj.mp
    apply BitVec.eq_of_toNat_eq
    rw [BitVec.sle_iff_toInt_le, BitVec.toInt_eq_toNat_of_lt (by omega)] at h
    have h3 : (0 : Int32).toBitVec.toInt = 0 := rfl
    have h4 : (0 : Int32).toBitVec.toNat = 0 := rfl
    rw [h3] at h
    rw [h4]
    omega
  · intro h
    rw [h]
    decide
theorem ub_inj {x y : Int32} (hx : x.toInt8.toInt32 = x) (hy : y.toInt8.toInt32 = y) (h : ub x = ub y) : x = y := by
  rw [← hx, ← hy]
  have e : x.toInt8 = y.toInt8 := by
    apply Int8.toBitVec_inj.mp
    rw [Int32.toBitVec_toInt8, Int32.toBitVec_toInt8, BitVec.signExtend_eq_setWidth_of_le _ (by omega), BitVec.signExtend_eq_setWidth_of_le _ (by omega)]
    apply BitVec.eq_of_toNat_eq
    rw [BitVec.toNat_setWidth, BitVec.toNat_setWidth]
    exact h
  rw [e]
theorem updL_s {g : Nat → Int64} {k : Nat} {v : Int64} : vp_updL g k v k = v := if_pos rfl
theorem updL_n {g : Nat → Int64} {k j : Nat} {v : Int64} (h : j ≠ k) : vp_updL g k v j = g j := if_neg h
section MO11
variable {l : Launch} {G : mm_G} {m : mm_Mem} {b : Nat} {S : St} {hp ot : Nat} {A : Nat → Nat → Int32} {hf D : Nat → Int32} {fs : List Value} {p d lim h : Nat} {o : Int32}
theorem s_M_fits {f : Nat → Int32} (h1 : m 336 = .inr (8, fs)) (k2 : fs[2]? = some (.ref 337)) (k23 : fs[23]? = some (.ref 348)) (h2 : m 337 = aB G f) (h8 : m 348 = aI G D) {i : Nat} (hi : i < 64) (hD : D i = nI (dp f d i)) (hv : dp f d i + 46 ≤ 65536) {a c : Nat} (ha : a < 4294967296) (hc : c < 4294967296) : mm_W l G k_M_fits 0 (lv_args 0 [.ref 336, .int (nI i), .long (lN a), .long (lN c)]) [] b m (mm_is (.inl (some (.int (bp (agr f d i a c))))) m) := by
  refine t_M_fits_0 (fun z => ?_) (fun z => ?_)
  · rw [lg_cmp_eq, lN_eqB (by omega) (by omega)] at z
    exact t_M_fits_24 (t_M_fits_29 ⟨by rw [bp_t (show agr f d i a c from Or.inl z)], rfl⟩ rfl)
  · rw [lg_cmp_eq, lN_eqB (by omega) (by omega)] at z
    refine t_M_fits_7 (Nat.le_of_eq (Nat.zero_add _)) h1 (by omega) (s_M_flags h1 k2 k23 h2 h8 hi hD hv) (fun y => ?_) (fun y => t_M_fits_18 (fun w => ?_) (fun w => ?_))
    · have y := (and8 _).mp y
      exact t_M_fits_28 (t_M_fits_29 ⟨by rw [bp_f (by rintro (q | q); exact z q; exact q.1 y)], rfl⟩ rfl)
    · rw [lg_cmp_eq, show (0 : Int64) = lN 0 from rfl, lN_eqB (by omega) (by omega)] at w
      exact t_M_fits_28 (t_M_fits_29 ⟨by rw [bp_f (by rintro (q | q); exact z q; exact w q.2)], rfl⟩ rfl)
    · rw [lg_cmp_eq, show (0 : Int64) = lN 0 from rfl, lN_eqB (by omega) (by omega)] at w
      exact t_M_fits_24 (t_M_fits_29 ⟨by rw [bp_t (show agr f d i a c from Or.inr ⟨fun q => y ((and8 _).mpr q), w⟩)], rfl⟩ rfl)
def QH (G : mm_G) (m : mm_Mem) (f : Nat → Int32) (d i : Nat) (B : Nat → Int64) : mm_O → mm_Mem → Prop := fun v m2 => (∀ a, a ≠ 350 → m2 a = m a) ∧ (∃ B2, m2 350 = aL G B2 ∧ (∀ j, j ≠ i → B2 j = B j) ∧ (hok f d i → B2 i = lN (dat f d i))) ∧ v = .inl (some (.int (bp (hok f d i))))
theorem s_M_isHead {H B : Nat → Int64} (W : MW G m S 0 hp ot (nI lim, nI p, lN d, nI h, o) A hf) (e8 : m 348 = aI G D) (e9 : m 349 = aL G H) (e50 : m 350 = aL G B) {i : Nat} (hi : i < 64) (hD : D i = nI (dp S.1.1 d i)) (hH : H i = lN (dhd S.1.1 d i)) (hv : dp S.1.1 d i + 46 + dnl S.1.1 d i ≤ p) (hp22 : p + 22 ≤ S.1.2) (hd : d ≤ p) : mm_W l G k_M_isHead 0 (lv_args 0 [.ref 336, .int (nI i)]) [] b m (QH G m S.1.1 d i B) := by
  have hU := W.2.2.2.2.2.1
  have hok8 : okf S.1.1 := W.2.2.2.2.2.2.2.2
  have ec : (nI i).toNatClampNeg = i := nI_clamp (by omega)
  have lh : dhd S.1.1 d i < 4294967296 := le4 _ _
  have l26 := le2 S.1.1 (dhd S.1.1 d i + 26)
  have l28 := le2 S.1.1 (dhd S.1.1 d i + 28)
  have lnl : dnl S.1.1 d i < 65536 := le2 _ _
  have eH : H (nI i).toNatClampNeg = lN (dhd S.1.1 d i) := by rw [ec, hH]
  have hno0 : ¬ hok S.1.1 d i → QH G m S.1.1 d i B (.inl (some (.int 0))) m := fun q => ⟨fun _ _ => rfl, ⟨B, e50, fun _ _ => rfl, fun z => absurd z q⟩, by rw [bp_f q]⟩
  refine t_M_isHead_0 W.1 (by omega) rfl e9 (by omega) (vp_in_nI (by omega) (by omega)) rfl (fun z => ?_) (fun z => ?_)
  · rw [eH, show (30 : Int64) = lN 30 from rfl, lN_add, lg_cmp_gt, lN_ltB (by omega) (by omega)] at z
    exact t_M_isHead_32 (hno0 (fun q => by have := q.1.1; omega)) rfl
  rw [eH, show (30 : Int64) = lN 30 from rfl, lN_add, lg_cmp_gt, lN_ltB (by omega) (by omega)] at z
  rw [eH]
  have lm := le4 S.1.1 (dhd S.1.1 d i)
  refine t_M_isHead_20 (Nat.le_of_eq (Nat.zero_add _)) W.1 (by omega) (s_M_four W.1 rfl W.2.1 (by omega)) (fun z1 => ?_) (fun z1 => ?_)
  case refine_2 => exact t_M_isHead_32 (hno0 (fun q => z1 (by rw [q.1.2.1, lg_cmp_eq]; rfl))) rfl
  rw [lg_cmp_eq, show (67324752 : Int64) = lN 67324752 from rfl, lN_eqB (by omega) (by omega)] at z1
  have eB : lN (dhd S.1.1 d i) + 30 + (nI (le S.1.1 (dhd S.1.1 d i + 26) 2)).toInt64 + (nI (le S.1.1 (dhd S.1.1 d i + 28) 2)).toInt64 = lN (dat S.1.1 d i) := by
    rw [show (30 : Int64) = lN 30 from rfl, nI_l (by omega), nI_l (by omega), lN_add, lN_add, lN_add]
    rfl
  have edat : dat S.1.1 d i = dhd S.1.1 d i + 30 + le S.1.1 (dhd S.1.1 d i + 26) 2 + le S.1.1 (dhd S.1.1 d i + 28) 2 := rfl
  have W1 := MW_350 W (vp_updL B (nI i).toNatClampNeg (lN (dhd S.1.1 d i) + 30 + (nI (le S.1.1 (dhd S.1.1 d i + 26) 2)).toInt64 + (nI (le S.1.1 (dhd S.1.1 d i + 28) 2)).toInt64))
  have hB1 : ∀ j, j ≠ i → vp_updL B (nI i).toNatClampNeg (lN (dhd S.1.1 d i) + 30 + (nI (le S.1.1 (dhd S.1.1 d i + 26) 2)).toInt64 + (nI (le S.1.1 (dhd S.1.1 d i + 28) 2)).toInt64) j = B j := fun j hj => by rw [ec]; exact updL_n hj
  have hB2 : vp_updL B (nI i).toNatClampNeg (lN (dhd S.1.1 d i) + 30 + (nI (le S.1.1 (dhd S.1.1 d i + 26) 2)).toInt64 + (nI (le S.1.1 (dhd S.1.1 d i + 28) 2)).toInt64) i = lN (dat S.1.1 d i) := by rw [ec, updL_s]; exact eB
  have e81 : va_up m 350 (aL G (vp_updL B (nI i).toNatClampNeg (lN (dhd S.1.1 d i) + 30 + (nI (le S.1.1 (dhd S.1.1 d i + 26) 2)).toInt64 + (nI (le S.1.1 (dhd S.1.1 d i + 28) 2)).toInt64))) 348 = aI G D := (up_n (by omega)).trans e8
  have hO : ∀ a, a ≠ 350 → va_up m 350 (aL G (vp_updL B (nI i).toNatClampNeg (lN (dhd S.1.1 d i) + 30 + (nI (le S.1.1 (dhd S.1.1 d i + 26) 2)).toInt64 + (nI (le S.1.1 (dhd S.1.1 d i + 28) 2)).toInt64))) a = m a := fun a ha => up_n ha
  refine t_M_isHead_34 (Nat.le_of_eq (Nat.zero_add _)) W.1 (by omega) (s_M_twoL W.1 rfl W.2.1 26 (by omega)) W.1 rfl (Nat.le_of_eq (Nat.zero_add _)) (s_M_twoL W.1 rfl W.2.1 28 (by omega)) e50 (by omega) (vp_in_nI (by omega) (by omega)) W1.1 rfl up_s (by omega) (vp_in_nI (by omega) (by omega)) rfl (fun z2 => ?_) (fun z2 => ?_)
  all_goals (rw [ec, updL_s, eB, lg_cmp_le, lN_leB (by omega) (by omega)] at z2)
  all_goals (have e50' : va_up m 350 (aL G (vp_updL B (nI i).toNatClampNeg (lN (dhd S.1.1 d i) + 30 + (nI (le S.1.1 (dhd S.1.1 d i + 26) 2)).toInt64 + (nI (le S.1.1 (dhd S.1.1 d i + 28) 2)).toInt64))) 350 = aL G (vp_updL B (nI i).toNatClampNeg (lN (dhd S.1.1 d i) + 30 + (nI (le S.1.1 (dhd S.1.1 d i + 26) 2)).toInt64 + (nI (le S.1.1 (dhd S.1.1 d i + 28) 2)).toInt64)) := up_s)
  case refine_2 => exact t_M_isHead_85 ⟨hO, ⟨_, e50', hB1, fun _ => hB2⟩, by rw [bp_f (fun q => z2 q.1.2.2)]⟩ rfl
  generalize vp_updL B (nI i).toNatClampNeg (lN (dhd S.1.1 d i) + 30 + (nI (le S.1.1 (dhd S.1.1 d i + 26) 2)).toInt64 + (nI (le S.1.1 (dhd S.1.1 d i + 28) 2)).toInt64) = B1 at W1 hB1 hB2 e81 hO e50' ⊢
  generalize va_up m 350 (aL G B1) = M at W1 e81 hO e50' ⊢
  have hno : ¬ hok S.1.1 d i → QH G m S.1.1 d i B (.inl (some (.int 0))) M := fun q => ⟨hO, ⟨_, e50', hB1, fun _ => hB2⟩, by rw [bp_f q]⟩
  have hfl := s_M_flags (l := l) (b := 0) W1.1 rfl rfl W1.2.1 e81 hi hD (by omega)
  have hme := s_M_method (l := l) (b := 0) W1.1 rfl rfl W1.2.1 e81 hi hD (by omega)
  have hns := s_M_nameSize (l := l) (b := 0) W1.1 rfl rfl W1.2.1 e81 hi hD (by omega)
  have hmy := s_M_many (l := l) (b := 0) W1.1 rfl rfl W1.2.1 e81 hi hD (by omega)
  have hsz := s_M_size (l := l) (b := 0) W1.1 rfl rfl W1.2.1 e81 hi hD (by omega)
  have hck := s_M_dck (l := l) (b := 0) W1.1 rfl W1.2.1 hi hD (by omega)
  have hok1 : hok1 S.1.1 d i := ⟨by omega, z1, z2⟩
  have h199 : ∀ sa : Prop, (sa ↔ (le S.1.1 (dhd S.1.1 d i + 6) 2 = dfl S.1.1 d i ∧ le S.1.1 (dhd S.1.1 d i + 8) 2 = dme S.1.1 d i ∧ le S.1.1 (dhd S.1.1 d i + 26) 2 = dnl S.1.1 d i ∧ nsm S.1.1 (dhd S.1.1 d i + 30) (dp S.1.1 d i + 46) (dnl S.1.1 d i))) → mm_W l G k_M_isHead 199 [(0, .ref 336), (1, .int (nI i)), (2, .long (lN (dhd S.1.1 d i))), (5, .int (bp sa))] [] b M (QH G m S.1.1 d i B) := by
    intro sa hsa
    refine t_M_isHead_199 (fun y => t_M_isHead_283 (t_M_isHead_284 (hno (fun q => bp_0.mp y (hsa.mpr ⟨q.2.1, q.2.2.1, q.2.2.2.1, q.2.2.2.2.1⟩))) rfl)) (fun y => ?_)
    obtain ⟨y1, y2, y3, y4⟩ := hsa.mp (bp_n0 y)
    refine t_M_isHead_204 (Nat.le_of_eq (Nat.zero_add _)) W1.1 (by omega) (s_M_fourL W1.1 rfl W1.2.1 14 (by omega)) W1.1 rfl e81 (by omega) (vp_in_nI (by omega) (by omega)) (Nat.le_of_eq (Nat.zero_add _)) hck (Nat.le_of_eq (Nat.zero_add _)) W1.1 (s_M_fits W1.1 rfl rfl W1.2.1 e81 hi hD (by omega) (le4 _ _) (le4 _ _)) (fun w => t_M_isHead_283 (t_M_isHead_284 (hno (fun q => bp_0.mp w q.2.2.2.2.2.1)) rfl)) (fun w1 => ?_)
    refine t_M_isHead_235 (Nat.le_of_eq (Nat.zero_add _)) W1.1 (by omega) (s_M_fourL W1.1 rfl W1.2.1 18 (by omega)) (Nat.le_of_eq (Nat.zero_add _)) W1.1 hmy (Nat.le_of_eq (Nat.zero_add _)) W1.1 (s_M_fits W1.1 rfl rfl W1.2.1 e81 hi hD (by omega) (le4 _ _) (le4 _ _)) (fun w => t_M_isHead_283 (t_M_isHead_284 (hno (fun q => bp_0.mp w q.2.2.2.2.2.2.1)) rfl)) (fun w2 => ?_)
    refine t_M_isHead_257 (Nat.le_of_eq (Nat.zero_add _)) W1.1 (by omega) (s_M_fourL W1.1 rfl W1.2.1 22 (by omega)) (Nat.le_of_eq (Nat.zero_add _)) W1.1 hsz (Nat.le_of_eq (Nat.zero_add _)) W1.1 (s_M_fits W1.1 rfl rfl W1.2.1 e81 hi hD (by omega) (le4 _ _) (le4 _ _)) (fun w => t_M_isHead_283 (t_M_isHead_284 (hno (fun q => bp_0.mp w q.2.2.2.2.2.2.2)) rfl)) (fun w3 => ?_)
    have hyes : hok S.1.1 d i := ⟨hok1, y1, y2, y3, y4, bp_n0 w1, bp_n0 w2, bp_n0 w3⟩
    exact t_M_isHead_279 (t_M_isHead_284 ⟨hO, ⟨_, e50', hB1, fun _ => hB2⟩, by rw [bp_t hyes]⟩ rfl)
  have L : ∀ r q (sa : Prop), q + r = le S.1.1 (dhd S.1.1 d i + 26) 2 → (sa ↔ (le S.1.1 (dhd S.1.1 d i + 6) 2 = dfl S.1.1 d i ∧ le S.1.1 (dhd S.1.1 d i + 8) 2 = dme S.1.1 d i ∧ le S.1.1 (dhd S.1.1 d i + 26) 2 = dnl S.1.1 d i ∧ ∀ e, e < q → ub (S.1.1 (dhd S.1.1 d i + 30 + e)) = ub (S.1.1 (dp S.1.1 d i + 46 + e)))) → mm_W l G k_M_isHead 141 [(0, .ref 336), (1, .int (nI i)), (2, .long (lN (dhd S.1.1 d i))), (4, .int (nI (le S.1.1 (dhd S.1.1 d i + 26) 2))), (5, .int (bp sa)), (6, .int (nI q))] [] b M (QH G m S.1.1 d i B) := by
    intro r
    induction r with
    | zero =>
      intro q sa hq hsa
      refine t_M_isHead_141 (fun _ => h199 sa ?_) (fun y => absurd (nI_le (by omega) (by omega)) y)
      rw [hsa]
      constructor
      · rintro ⟨y1, y2, y3, y4⟩
        exact ⟨y1, y2, y3, fun e he => y4 e (by omega)⟩
      · rintro ⟨y1, y2, y3, y4⟩
        exact ⟨y1, y2, y3, fun e he => y4 e (by omega)⟩
    | succ r ihr =>
      intro q sa hq hsa
      refine t_M_isHead_141 (fun y => absurd y (nI_ge (by omega) (by omega))) (fun _ => t_M_isHead_148 (fun y => h199 sa ?_) (fun y => ?_))
      · have y := bp_0.mp y
        constructor
        · intro g; exact absurd g y
        · rintro ⟨y1, y2, y3, y4⟩
          exact hsa.mpr ⟨y1, y2, y3, fun e he => y4 e (by omega)⟩
      · obtain ⟨y1, y2, y3, y4⟩ := hsa.mp (bp_n0 y)
        have ea : (lN (dhd S.1.1 d i)).toInt32 + 30 + nI q = nI (dhd S.1.1 d i + 30 + q) := by rw [lN_i, show (30 : Int32) = nI 30 from rfl, nI_add, nI_add]
        have eb : D (nI i).toNatClampNeg + 46 + nI q = nI (dp S.1.1 d i + 46 + q) := by rw [ec, hD, show (46 : Int32) = nI 46 from rfl, nI_add, nI_add]
        refine t_M_isHead_153 W1.1 (by omega) rfl W1.2.1 (by omega) (by rw [ea]; exact vp_in_nI (by omega) (by omega)) rfl e81 (by omega) (vp_in_nI (by omega) (by omega)) (by rw [eb]; exact vp_in_nI (by omega) (by omega)) (fun w => ?_) (fun w => ?_)
        · rw [ea, eb, nI_clamp (by omega), nI_clamp (by omega)] at w
          refine t_M_isHead_190 (t_M_isHead_191 ?_)
          rw [nI_1]
          have h9 := ihr (q + 1) False (by omega) ⟨False.elim, fun g => w (ub_inj (hok8 _) (hok8 _) (g.2.2.2 q (by omega)))⟩
          rw [bp_f (fun q => q)] at h9
          exact h9
        · rw [ea, eb, nI_clamp (by omega), nI_clamp (by omega)] at w
          refine t_M_isHead_186 (t_M_isHead_191 ?_)
          rw [nI_1]
          have h9 := ihr (q + 1) True (by omega) ⟨fun _ => ⟨y1, y2, y3, fun e he => by
            by_cases g : e = q
            · rw [g, w]
            · exact y4 e (by omega)⟩, fun _ => trivial⟩
          rw [bp_t trivial] at h9
          exact h9
  have h135 : ¬ (le S.1.1 (dhd S.1.1 d i + 6) 2 = dfl S.1.1 d i ∧ le S.1.1 (dhd S.1.1 d i + 8) 2 = dme S.1.1 d i ∧ le S.1.1 (dhd S.1.1 d i + 26) 2 = dnl S.1.1 d i) → mm_W l G k_M_isHead 135 [(0, .ref 336), (1, .int (nI i)), (2, .long (lN (dhd S.1.1 d i))), (4, .int (nI (le S.1.1 (dhd S.1.1 d i + 26) 2)))] [] b M (QH G m S.1.1 d i B) := by
    intro q
    have h9 := L _ 0 False (Nat.zero_add _) ⟨False.elim, fun g => q ⟨g.1, g.2.1, g.2.2.1⟩⟩
    rw [bp_f (fun q => q)] at h9
    exact t_M_isHead_135 (t_M_isHead_136 h9)
  have l6 := le2 S.1.1 (dhd S.1.1 d i + 6)
  have l8 := le2 S.1.1 (dhd S.1.1 d i + 8)
  have lf := le2 S.1.1 (dp S.1.1 d i + 8)
  have lg := le2 S.1.1 (dp S.1.1 d i + 10)
  have lk := le2 S.1.1 (dp S.1.1 d i + 28)
  refine t_M_isHead_87 (Nat.le_of_eq (Nat.zero_add _)) W1.1 (by omega) (s_M_twoL W1.1 rfl W1.2.1 6 (by omega)) (Nat.le_of_eq (Nat.zero_add _)) W1.1 hfl (fun y => h135 (fun q => y (congrArg nI q.1))) (fun y => ?_)
  have y1 := (nI_eq (by omega) (by omega)).mp y
  refine t_M_isHead_104 (Nat.le_of_eq (Nat.zero_add _)) W1.1 (by omega) (s_M_twoL W1.1 rfl W1.2.1 8 (by omega)) (Nat.le_of_eq (Nat.zero_add _)) W1.1 hme (fun y => h135 (fun q => y (congrArg nI q.2.1))) (fun y => ?_)
  have y2 := (nI_eq (by omega) (by omega)).mp y
  refine t_M_isHead_121 (Nat.le_of_eq (Nat.zero_add _)) W1.1 (by omega) hns (fun y => h135 (fun q => y (congrArg nI q.2.2))) (fun y => ?_)
  have y3 := (nI_eq (by omega) (by omega)).mp y
  have h9 := L _ 0 True (Nat.zero_add _) ⟨fun _ => ⟨y1, y2, y3, fun e he => absurd he (by omega)⟩, fun _ => trivial⟩
  rw [bp_t trivial] at h9
  exact t_M_isHead_131 (t_M_isHead_136 h9)
def QB (G : mm_G) (m : mm_Mem) (f : Nat → Int32) (u d i : Nat) (T : Nat → Int64) : mm_O → mm_Mem → Prop := fun v m2 => (∀ a, a ≠ 351 → m2 a = m a) ∧ (∃ T2, m2 351 = aL G T2 ∧ (∀ j, j ≠ i → T2 j = T j) ∧ (bok f u d i → T2 i = lN (tend f u d i))) ∧ v = .inl (some (.int (bp (bok f u d i))))
theorem s_M_isBody {B T : Nat → Int64} (W : MW G m S 0 hp ot (nI lim, nI p, lN d, nI h, o) A hf) (e8 : m 348 = aI G D) (e50 : m 350 = aL G B) (e51 : m 351 = aL G T) {i : Nat} (hi : i < 64) (hD : D i = nI (dp S.1.1 d i)) (hB : B i = lN (dat S.1.1 d i)) (hdat : dat S.1.1 d i ≤ d) (hv : dp S.1.1 d i + 46 ≤ 65536) (hp22 : p + 22 ≤ S.1.2) (hd : d ≤ p) : mm_W l G k_M_isBody 0 (lv_args 0 [.ref 336, .int (nI i)]) [] b m (QB G m S.1.1 S.1.2 d i T) := by
  have hU := W.2.2.2.2.2.1
  have ec : (nI i).toNatClampNeg = i := nI_clamp (by omega)
  have lb : dbc S.1.1 d i < 4294967296 := le4 _ _
  have ebe : bend S.1.1 d i = dat S.1.1 d i + dbc S.1.1 d i := rfl
  have eB : B (nI i).toNatClampNeg + lN (le S.1.1 (dp S.1.1 d i + 20) 4) = lN (bend S.1.1 d i) := by rw [ec, hB, lN_add]; rfl
  have W1 := MW_351 W (vp_updL T (nI i).toNatClampNeg (B (nI i).toNatClampNeg + lN (le S.1.1 (dp S.1.1 d i + 20) 4)))
  refine t_M_isBody_0 W.1 (by omega) rfl e50 (by omega) (vp_in_nI (by omega) (by omega)) (Nat.le_of_eq (Nat.zero_add _)) (s_M_many W.1 rfl rfl W.2.1 e8 hi hD hv) W.1 rfl e51 (by omega) (vp_in_nI (by omega) (by omega)) W1.1 rfl (fun z => ?_) (fun z => ?_)
  all_goals rw [eB] at z W1 ⊢
  all_goals (have T1 : ∀ j, j ≠ i → vp_updL T (nI i).toNatClampNeg (lN (bend S.1.1 d i)) j = T j := (fun j hj => by rw [ec]; exact updL_n hj))
  all_goals (have T2 : vp_updL T (nI i).toNatClampNeg (lN (bend S.1.1 d i)) i = lN (bend S.1.1 d i) := (by rw [ec]; exact updL_s))
  all_goals rw [lg_cmp_gt, lN_ltB (by omega) (by omega)] at z
  · have hno : ¬ bok S.1.1 S.1.2 d i := fun q => by have := (bok_le q).1; omega
    refine t_M_isBody_40 W1.1 (by omega) rfl (fun _ => t_M_isBody_53 (t_M_isBody_54 ⟨fun a ha => up_n ha, ⟨_, up_s, T1, fun q => absurd q hno⟩, by rw [bp_f hno]⟩ rfl)) (fun y => absurd ?_ y)
    rw [lg_cmp_gt, lN_ltB (by omega) (by omega)]
    exact z
  refine t_M_isBody_29 (Nat.le_of_eq (Nat.zero_add _)) W1.1 (by omega) (s_M_flags W1.1 rfl rfl W1.2.1 ((up_n (by omega)).trans e8) hi hD hv) (fun y => ?_) (fun y => ?_)
  case refine_2 =>
    have ht : ¬ tl S.1.1 d i := fun q => q y
    have hyes : bok S.1.1 S.1.2 d i := by
      unfold bok
      rw [ifc_f ht]
      omega
    have hte : tend S.1.1 S.1.2 d i = bend S.1.1 d i := by unfold tend; rw [ifc_f ht]
    refine t_M_isBody_40 W1.1 (by omega) rfl (fun w => absurd w ?_) (fun _ => t_M_isBody_49 (t_M_isBody_54 ⟨fun a ha => up_n ha, ⟨_, up_s, T1, fun _ => by rw [hte]; exact T2⟩, by rw [bp_t hyes]⟩ rfl))
    rw [lg_cmp_gt, lN_ltB (by omega) (by omega)]
    exact z
  have ht : tl S.1.1 d i := y
  have ebo : bok S.1.1 S.1.2 d i = bok1 S.1.1 S.1.2 d i := by unfold bok; rw [ifc_t ht]
  have hte : tend S.1.1 S.1.2 d i = tat S.1.1 S.1.2 d i + 12 := by unfold tend; rw [ifc_t ht]
  have lm := le4 S.1.1 (bend S.1.1 d i)
  have h90 : tat S.1.1 S.1.2 d i ≤ bend S.1.1 d i + 4 → mm_W l G k_M_isBody 90 [(0, .ref 336), (1, .int (nI i))] [.long (lN (tat S.1.1 S.1.2 d i))] b (va_up m 351 (aL G (vp_updL T (nI i).toNatClampNeg (lN (bend S.1.1 d i))))) (QB G m S.1.1 S.1.2 d i T) := by
    intro hta
    have W2 := MW_351 W1 (vp_updL (vp_updL T (nI i).toNatClampNeg (lN (bend S.1.1 d i))) (nI i).toNatClampNeg (lN (tat S.1.1 S.1.2 d i) + 12))
    have T3 : ∀ j, j ≠ i → vp_updL (vp_updL T (nI i).toNatClampNeg (lN (bend S.1.1 d i))) (nI i).toNatClampNeg (lN (tat S.1.1 S.1.2 d i) + 12) j = T j := fun j hj => by rw [← T1 j hj, ec]; exact updL_n hj
    have T4 : vp_updL (vp_updL T (nI i).toNatClampNeg (lN (bend S.1.1 d i))) (nI i).toNatClampNeg (lN (tat S.1.1 S.1.2 d i) + 12) i = lN (tend S.1.1 S.1.2 d i) := by
      rw [ec, updL_s, hte]
      exact lN_add _ 12
    have e81 : va_up (va_up m 351 (aL G (vp_updL T (nI i).toNatClampNeg (lN (bend S.1.1 d i))))) 351 (aL G (vp_updL (vp_updL T (nI i).toNatClampNeg (lN (bend S.1.1 d i))) (nI i).toNatClampNeg (lN (tat S.1.1 S.1.2 d i) + 12))) 348 = aI G D := (up_n (by omega)).trans ((up_n (by omega)).trans e8)
    have hO : ∀ a, a ≠ 351 → va_up (va_up m 351 (aL G (vp_updL T (nI i).toNatClampNeg (lN (bend S.1.1 d i))))) 351 (aL G (vp_updL (vp_updL T (nI i).toNatClampNeg (lN (bend S.1.1 d i))) (nI i).toNatClampNeg (lN (tat S.1.1 S.1.2 d i) + 12))) a = m a := fun a ha => (up_n ha).trans (up_n ha)
    have e51' : va_up (va_up m 351 (aL G (vp_updL T (nI i).toNatClampNeg (lN (bend S.1.1 d i))))) 351 (aL G (vp_updL (vp_updL T (nI i).toNatClampNeg (lN (bend S.1.1 d i))) (nI i).toNatClampNeg (lN (tat S.1.1 S.1.2 d i) + 12))) 351 = aL G (vp_updL (vp_updL T (nI i).toNatClampNeg (lN (bend S.1.1 d i))) (nI i).toNatClampNeg (lN (tat S.1.1 S.1.2 d i) + 12)) := up_s
    refine t_M_isBody_90 W1.1 (by omega) rfl up_s (by omega) (vp_in_nI (by omega) (by omega)) W2.1 rfl (fun w => ?_) (fun w => ?_)
    all_goals (rw [show (12 : Int64) = lN 12 from rfl, lN_add, lg_cmp_gt, lN_ltB (by omega) (by omega)] at w)
    all_goals (have hno : ¬ bok1 S.1.1 S.1.2 d i → QB G m S.1.1 S.1.2 d i T (.inl (some (.int 0))) (va_up (va_up m 351 (aL G (vp_updL T (nI i).toNatClampNeg (lN (bend S.1.1 d i))))) 351 (aL G (vp_updL (vp_updL T (nI i).toNatClampNeg (lN (bend S.1.1 d i))) (nI i).toNatClampNeg (lN (tat S.1.1 S.1.2 d i) + 12)))) := (fun q => ⟨hO, ⟨_, e51', T3, fun _ => T4⟩, by rw [ebo, bp_f q]⟩))
    · exact t_M_isBody_184 (t_M_isBody_185 (hno (fun q => by have := q.1; omega)) rfl)
    generalize vp_updL (vp_updL T (nI i).toNatClampNeg (lN (bend S.1.1 d i))) (nI i).toNatClampNeg (lN (tat S.1.1 S.1.2 d i) + 12) = T5 at W2 T3 T4 e81 hO e51' hno ⊢
    generalize va_up (va_up m 351 (aL G (vp_updL T (nI i).toNatClampNeg (lN (bend S.1.1 d i))))) 351 (aL G T5) = M at W2 e81 hO e51' hno ⊢
    have ltn : ∀ k, lN (le S.1.1 k 4) = lN (le S.1.1 k 4) := fun _ => rfl
    refine t_M_isBody_118 (Nat.le_of_eq (Nat.zero_add _)) W2.1 (by omega) (s_M_four W2.1 rfl W2.2.1 (by omega)) W2.1 rfl e81 (by omega) (vp_in_nI (by omega) (by omega)) (Nat.le_of_eq (Nat.zero_add _)) (s_M_dck W2.1 rfl W2.2.1 hi hD hv) (fun w1 => t_M_isBody_184 (t_M_isBody_185 (hno (fun q => w1 ?_)) rfl)) (fun w1 => ?_)
    · rw [lg_cmp_eq]
      exact congrArg lN q.2.1
    rw [lg_cmp_eq, lN_eqB (by have := le4 S.1.1 (tat S.1.1 S.1.2 d i); omega) (by have := le4 S.1.1 (dp S.1.1 d i + 16); omega)] at w1
    refine t_M_isBody_142 (Nat.le_of_eq (Nat.zero_add _)) W2.1 (by omega) (s_M_fourL W2.1 rfl W2.2.1 4 (by omega)) (Nat.le_of_eq (Nat.zero_add _)) W2.1 (s_M_many W2.1 rfl rfl W2.2.1 e81 hi hD hv) (fun w2 => t_M_isBody_184 (t_M_isBody_185 (hno (fun q => w2 ?_)) rfl)) (fun w2 => ?_)
    · rw [lg_cmp_eq]
      exact congrArg lN q.2.2.1
    rw [lg_cmp_eq, lN_eqB (by have := le4 S.1.1 (tat S.1.1 S.1.2 d i + 4); omega) (by have := le4 S.1.1 (dp S.1.1 d i + 20); omega)] at w2
    refine t_M_isBody_161 (Nat.le_of_eq (Nat.zero_add _)) W2.1 (by omega) (s_M_fourL W2.1 rfl W2.2.1 8 (by omega)) (Nat.le_of_eq (Nat.zero_add _)) W2.1 (s_M_size W2.1 rfl rfl W2.2.1 e81 hi hD hv) (fun w3 => t_M_isBody_184 (t_M_isBody_185 (hno (fun q => w3 ?_)) rfl)) (fun w3 => ?_)
    · rw [lg_cmp_eq]
      exact congrArg lN q.2.2.2
    rw [lg_cmp_eq, lN_eqB (by have := le4 S.1.1 (tat S.1.1 S.1.2 d i + 8); omega) (by have := le4 S.1.1 (dp S.1.1 d i + 24); omega)] at w3
    have hyes : bok1 S.1.1 S.1.2 d i := ⟨by omega, w1, w2, w3⟩
    exact t_M_isBody_180 (t_M_isBody_185 ⟨hO, ⟨_, e51', T3, fun _ => T4⟩, by rw [ebo, bp_t hyes]⟩ rfl)
  refine t_M_isBody_55 W1.1 (by omega) rfl (fun w => ?_) (fun w => ?_)
  all_goals (rw [show (4 : Int64) = lN 4 from rfl, lN_add, nI_l (by omega), lg_cmp_gt, lN_ltB (by omega) (by omega)] at w)
  · have eta : tat S.1.1 S.1.2 d i = bend S.1.1 d i := by unfold tat; rw [ifc_f (by omega)]
    rw [eta] at h90
    exact t_M_isBody_89 (h90 (by omega))
  · refine t_M_isBody_69 (Nat.le_of_eq (Nat.zero_add _)) W1.1 (by omega) (s_M_four W1.1 rfl W1.2.1 (by omega)) (fun w1 => ?_) (fun w1 => ?_)
    all_goals (rw [lg_cmp_eq, show (134695760 : Int64) = lN 134695760 from rfl, lN_eqB (by omega) (by omega)] at w1)
    · have eta : tat S.1.1 S.1.2 d i = bend S.1.1 d i := by unfold tat; rw [ifc_f (fun q => w1 q.2)]
      rw [eta] at h90
      exact t_M_isBody_89 (h90 (by omega))
    · have eta : tat S.1.1 S.1.2 d i = bend S.1.1 d i + 4 := by unfold tat; rw [ifc_t ⟨by omega, w1⟩]
      rw [eta, ← lN_add] at h90
      exact t_M_isBody_81 (h90 (by omega))
end MO11
