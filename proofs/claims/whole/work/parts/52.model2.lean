/-! the model's methods: names, checks, looks at entries -/
def dc (g : Nat → Nat) (ps : Nat) : Nat → Nat
  | 0 => 0
  | n + 1 => dc g ps n + if g (ps + n) = 46 then 1 else 0
theorem dc_le (g : Nat → Nat) (ps : Nat) : ∀ n, dc g ps n ≤ n := by
  intro n
  induction n with
  | zero => exact Nat.le_refl _
  | succ n ih =>
    simp only [dc]
    split <;> omega
theorem pcs_dc (g : Nat → Nat) (ps n : Nat) : pcs g ps n = true ↔ (0 < n ∧ (3 ≤ n ∨ ¬ dc g ps n = n)) := by
  rcases (by omega : n = 0 ∨ n = 1 ∨ n = 2 ∨ 3 ≤ n) with rfl | rfl | rfl | h
  · simp [pcs]
  · simp [pcs, dc]
  · simp only [pcs, dc, Nat.add_zero]
    by_cases h1 : g ps = 46 <;> by_cases h2 : g (ps + 1) = 46 <;> simp [h1, h2]
  · simp [pcs, h]
    omega
section MO2
variable {l : Launch} {G : mm_G} {m : mm_Mem} {b : Nat} {S : St} {c0 : Int32}
theorem s_M_small {x : Nat} (hx : x < 2 ^ 20) : mm_W l G k_M_small 0 (lv_args 0 [.int (nI x)]) [] b m (mm_is (.inl (some (.int (nI (sm x))))) m) := by
  refine t_M_small_0 (fun z => ?_) (fun z => ?_)
  · have z : x < 65 := (nI_ltI (by omega) (by omega)).mp z
    refine t_M_small_19 (t_M_small_20 ⟨?_, rfl⟩)
    rw [show sm x = x by unfold sm; rw [if_neg (by omega)]]
  · have z : ¬ x < 65 := fun q => z ((nI_ltI (b := 65) (by omega) (by omega)).mpr q)
    refine t_M_small_6 (fun y => ?_) (fun y => ?_)
    · have y : 90 < x := (nI_ltI (a := 90) (by omega) (by omega)).mp y
      refine t_M_small_19 (t_M_small_20 ⟨?_, rfl⟩)
      rw [show sm x = x by unfold sm; rw [if_neg (by omega)]]
    · have y : ¬ 90 < x := fun q => y ((nI_ltI (a := 90) (by omega) (by omega)).mpr q)
      refine t_M_small_12 (t_M_small_20 ⟨?_, rfl⟩)
      rw [show sm x = x + 32 by unfold sm; rw [if_pos (by omega)], ← nI_add]
      rfl
theorem nameT {fs : List Value} (h1 : m 336 = .inr (8, fs)) (hfs : fs[4]? = some (.ref 338)) {g : Nat → Nat} (h2 : m 338 = aI G (fun j => nI (g j))) {j : Nat} (hj : j < 64) : mm_W l G k_M_nameAt 0 (lv_args 0 [.ref 336, .int (-1), .int (nI j)]) [] b m (mm_is (.inl (some (.int (nI (g j))))) m) := by
  refine t_M_nameAt_0 (fun z => absurd z (by decide)) (fun _ => t_M_nameAt_4 h1 (by omega) hfs h2 (by omega) (vp_in_nI (by omega) (by omega)) (t_M_nameAt_25 ⟨?_, rfl⟩))
  rw [nI_clamp (by omega)]
theorem nameR {fs : List Value} (h1 : m 336 = .inr (8, fs)) (hfs : fs[2]? = some (.ref 337)) {f : Nat → Int32} (h2 : m 337 = aB G f) {a j : Nat} (hj : a + j < 65536) : mm_W l G k_M_nameAt 0 (lv_args 0 [.ref 336, .int (nI a), .int (nI j)]) [] b m (mm_is (.inl (some (.int (nI (ub (f (a + j))))))) m) := by
  refine t_M_nameAt_0 (fun _ => ?_) (fun z => absurd (nI_pos' (by omega)) z)
  refine t_M_nameAt_13 h1 (by omega) hfs h2 (by omega) (by rw [nI_add]; exact vp_in_nI (by omega) (by omega)) (t_M_nameAt_25 ⟨?_, rfl⟩)
  rw [nI_add, nI_clamp (by omega), ub_and]
theorem L_M_isName {fs : List Value} (h1 : m 336 = .inr (8, fs)) {wh : Int32} {g : Nat → Nat} {n : Nat} (hn : n ≤ 64) (hg : ∀ j, j < n → g j < 256) (hna : ∀ j, j < n → mm_W l G k_M_nameAt 0 (lv_args 0 [.ref 336, .int wh, .int (nI j)]) [] 0 m (mm_is (.inl (some (.int (nI (g j))))) m)) : ∀ w i ps (gd : Prop), i + w = n → ps ≤ i → mm_W l G k_M_isName 24 [(0, .ref 336), (1, .int wh), (2, .int (nI n)), (3, .int (bp gd)), (4, .int (nI (i - ps))), (5, .int (nI (dc g ps (i - ps)))), (6, .int (nI i))] [] b m (mm_is (.inl (some (.int (bp (gd ∧ nms g n w i ps = true))))) m) := by
  have h48 : ∀ (gd : Prop) (c p d i : Nat) {Q : mm_O → mm_Mem → Prop}, c < 256 → mm_W l G k_M_isName 80 [(0, .ref 336), (1, .int wh), (2, .int (nI n)), (4, .int (nI p)), (5, .int (nI d)), (6, .int (nI i)), (7, .int (nI c))] [.int (bp (gd ∧ badc c = false))] b m Q → mm_W l G k_M_isName 48 [(0, .ref 336), (1, .int wh), (2, .int (nI n)), (3, .int (bp gd)), (4, .int (nI p)), (5, .int (nI d)), (6, .int (nI i))] [.int (nI c)] b m Q := by
    intro gd c p d i Q hc H
    have hno : ¬ (gd ∧ badc c = false) → mm_W l G k_M_isName 79 [(0, .ref 336), (1, .int wh), (2, .int (nI n)), (4, .int (nI p)), (5, .int (nI d)), (6, .int (nI i)), (7, .int (nI c))] [] b m Q := by
      intro q
      rw [bp_f q] at H
      exact t_M_isName_79 H
    refine t_M_isName_48 (fun z => hno (fun q => bp_0.mp z q.1)) (fun z => ?_)
    have z := bp_n0 z
    refine t_M_isName_54 (fun z1 => ?_) (fun z1 => ?_)
    · have z1 : c < 33 := (nI_ltI (b := 33) (by omega) (by omega)).mp z1
      exact hno (fun q => by have := q.2; simp [badc, z1] at this)
    · have z1 : ¬ c < 33 := fun q => z1 ((nI_ltI (b := 33) (by omega) (by omega)).mpr q)
      refine t_M_isName_61 (fun z2 => ?_) (fun z2 => ?_)
      · have z2 : 126 < c := (nI_ltI (a := 126) (by omega) (by omega)).mp z2
        exact hno (fun q => by have := q.2; simp [badc, z2] at this)
      · have z2 : ¬ 126 < c := fun q => z2 ((nI_ltI (a := 126) (by omega) (by omega)).mpr q)
        refine t_M_isName_68 (fun z3 => ?_) (fun z3 => ?_)
        · have z3 : c = 92 := (nI_eq (b := 92) (by omega) (by omega)).mp z3
          exact hno (fun q => by have := q.2; simp [badc, z3] at this)
        · have z3 : ¬ c = 92 := fun q => z3 ((nI_eq (b := 92) (by omega) (by omega)).mpr q)
          have hb : badc c = false := by simp [badc, z1, z2, z3]
          rw [bp_t ⟨z, hb⟩] at H
          exact t_M_isName_75 H
  have h88 : ∀ (gd : Prop) (ps i : Nat) {Q : mm_O → mm_Mem → Prop}, ps ≤ i → i ≤ n → mm_W l G k_M_isName 146 [(0, .ref 336), (1, .int wh), (2, .int (nI n)), (3, .int (bp (gd ∧ pcs g ps (i - ps) = true))), (4, .int 0), (5, .int 0), (6, .int (nI i))] [] b m Q → mm_W l G k_M_isName 88 [(0, .ref 336), (1, .int wh), (2, .int (nI n)), (3, .int (bp gd)), (4, .int (nI (i - ps))), (5, .int (nI (dc g ps (i - ps)))), (6, .int (nI i))] [] b m Q := by
    intro gd ps i Q h1 h2 H
    have hd := dc_le g ps (i - ps)
    have hno : ¬ (gd ∧ pcs g ps (i - ps) = true) → mm_W l G k_M_isName 114 [(0, .ref 336), (1, .int wh), (2, .int (nI n)), (6, .int (nI i))] [] b m Q := by
      intro q
      rw [bp_f q] at H
      exact t_M_isName_114 (t_M_isName_115 H)
    have hyes : (gd ∧ pcs g ps (i - ps) = true) → mm_W l G k_M_isName 110 [(0, .ref 336), (1, .int wh), (2, .int (nI n)), (6, .int (nI i))] [] b m Q := by
      intro q
      rw [bp_t q] at H
      exact t_M_isName_110 (t_M_isName_115 H)
    refine t_M_isName_88 (fun z => hno (fun q => bp_0.mp z q.1)) (fun z => ?_)
    have z := bp_n0 z
    refine t_M_isName_92 (fun z1 => ?_) (fun z1 => ?_)
    · have z1 : i - ps ≤ 0 := (nI_leI (b := 0) (by omega) (by omega)).mp z1
      exact hno (fun q => by have := (pcs_dc g ps (i - ps)).mp q.2; omega)
    · have z1 : ¬ i - ps ≤ 0 := fun q => z1 ((nI_leI (b := 0) (by omega) (by omega)).mpr q)
      refine t_M_isName_97 (fun z2 => ?_) (fun z2 => ?_)
      · have z2 : 3 ≤ i - ps := (nI_leI (a := 3) (by omega) (by omega)).mp z2
        exact hyes ⟨z, (pcs_dc g ps (i - ps)).mpr ⟨by omega, Or.inl z2⟩⟩
      · have z2 : ¬ 3 ≤ i - ps := fun q => z2 ((nI_leI (a := 3) (by omega) (by omega)).mpr q)
        refine t_M_isName_103 (fun z3 => ?_) (fun z3 => ?_)
        · have z3 : dc g ps (i - ps) = i - ps := (nI_eq (by omega) (by omega)).mp z3
          exact hno (fun q => by have := (pcs_dc g ps (i - ps)).mp q.2; omega)
        · have z3 : ¬ dc g ps (i - ps) = i - ps := fun q => z3 (by rw [q])
          exact hyes ⟨z, (pcs_dc g ps (i - ps)).mpr ⟨by omega, Or.inr z3⟩⟩
  intro w
  induction w with
  | zero =>
    intro i ps gd hi hps
    have hin : i = n := by omega
    subst hin
    refine t_M_isName_24 (fun z => absurd z (nI_nlt (Nat.le_refl _) (by omega))) (fun _ => t_M_isName_30 (fun _ => t_M_isName_46 ?_) (fun z => absurd (nI_le (Nat.le_refl _) (by omega)) z))
    refine h48 gd 47 _ _ _ (by omega) (t_M_isName_80 (fun z => absurd rfl z) (fun _ => ?_))
    refine h88 _ ps i hps (Nat.le_refl _) (t_M_isName_146 ?_)
    rw [nI_1]
    refine t_M_isName_24 (fun _ => t_M_isName_152 ⟨?_, rfl⟩ (bp_nar _)) (fun z => absurd ((nI_ltI (by omega) (by omega)).mpr (by omega)) z)
    have e : (gd ∧ nms g i 0 i ps = true) ↔ ((gd ∧ badc 47 = false) ∧ pcs g ps (i - ps) = true) := by
      have e1 : badc 47 = false := rfl
      simp only [nms, e1, and_true]
    rw [bp_iff e]
  | succ w ih =>
    intro i ps gd hi hps
    refine t_M_isName_24 (fun z => absurd z (nI_nlt (by omega) (by omega))) (fun _ => t_M_isName_30 (fun z => absurd z (nI_ge (by omega) (by omega))) (fun _ => ?_))
    refine t_M_isName_36 (Nat.le_of_eq (Nat.zero_add _)) h1 (by omega) (hna i (by omega)) ?_
    refine h48 gd (g i) _ _ _ (hg i (by omega)) ?_
    have hgi := hg i (by omega)
    have hdl := dc_le g ps (i - ps)
    refine t_M_isName_80 (fun z => ?_) (fun z => ?_)
    · have z : ¬ g i = 47 := fun q => z ((nI_eq (b := 47) (by omega) (by omega)).mpr q)
      have hfin := ih (i + 1) ps (gd ∧ badc (g i) = false) (by omega) (by omega)
      have en : ((gd ∧ badc (g i) = false) ∧ nms g n w (i + 1) ps = true) ↔ (gd ∧ nms g n (w + 1) i ps = true) := by
        simp only [nms, z, if_false]
        by_cases q : badc (g i) = true
        · rw [q]; simp
        · have q := Bool.eq_false_iff.mpr q
          rw [q]; simp
      rw [bp_iff en] at hfin
      have ed : dc g ps (i + 1 - ps) = dc g ps (i - ps) + if g i = 46 then 1 else 0 := by
        rw [show i + 1 - ps = (i - ps) + 1 by omega]
        simp only [dc]
        rw [show ps + (i - ps) = i by omega]
      refine t_M_isName_125 (fun z2 => ?_) (fun z2 => ?_)
      · have z2 : ¬ g i = 46 := fun q => z2 ((nI_eq (b := 46) (by omega) (by omega)).mpr q)
        refine t_M_isName_142 (t_M_isName_144 (t_M_isName_146 ?_))
        rw [nI_1, nI_1, show i - ps + 1 = i + 1 - ps by omega]
        rw [if_neg z2] at ed
        rw [show dc g ps (i - ps) = dc g ps (i + 1 - ps) by omega]
        exact hfin
      · have z2 : g i = 46 := (nI_eq (b := 46) (by omega) (by omega)).mp z2
        refine t_M_isName_135 (t_M_isName_144 (t_M_isName_146 ?_))
        rw [nI_1, nI_1, nI_1, show i - ps + 1 = i + 1 - ps by omega]
        rw [if_pos z2] at ed
        rw [← ed]
        exact hfin
    · have z : g i = 47 := (nI_eq (b := 47) (by omega) (by omega)).mp z
      refine h88 _ ps i hps (by omega) (t_M_isName_146 ?_)
      have hfin := ih (i + 1) (i + 1) ((gd ∧ badc (g i) = false) ∧ pcs g ps (i - ps) = true) (by omega) (by omega)
      rw [Nat.sub_self] at hfin
      have en : (((gd ∧ badc (g i) = false) ∧ pcs g ps (i - ps) = true) ∧ nms g n w (i + 1) (i + 1) = true) ↔ (gd ∧ nms g n (w + 1) i ps = true) := by
        have e1 : badc (g i) = false := by rw [z]; rfl
        simp only [nms, e1, z, if_true, Bool.and_eq_true, and_true]
        simp [and_assoc]
      rw [bp_iff en] at hfin
      rw [nI_1]
      exact hfin
theorem s_M_isName {fs : List Value} (h1 : m 336 = .inr (8, fs)) {wh : Int32} {g : Nat → Nat} {n : Nat} (hn : n < 2 ^ 20) (hg : ∀ j, j < n → g j < 256) (hna : n ≤ 64 → ∀ j, j < n → mm_W l G k_M_nameAt 0 (lv_args 0 [.ref 336, .int wh, .int (nI j)]) [] 0 m (mm_is (.inl (some (.int (nI (g j))))) m)) : mm_W l G k_M_isName 0 (lv_args 0 [.ref 336, .int wh, .int (nI n)]) [] b m (mm_is (.inl (some (.int (bp (isNm g n = true))))) m) := by
  refine t_M_isName_0 (fun z => ?_) (fun z => ?_)
  · have z : n < 1 := (nI_ltI (b := 1) (by omega) (by omega)).mp z
    refine t_M_isName_11 ⟨?_, rfl⟩ rfl
    rw [bp_f]
    simp [isNm, show ¬ 1 ≤ n by omega]
  · have z : ¬ n < 1 := fun q => z ((nI_ltI (b := 1) (by omega) (by omega)).mpr q)
    refine t_M_isName_5 (fun y => ?_) (fun y => ?_)
    · have y : n ≤ 64 := (nI_leI (b := 64) (by omega) (by omega)).mp y
      refine t_M_isName_13 ?_
      have h := L_M_isName (l := l) (b := b) h1 y hg (hna y) n 0 0 True (by omega) (by omega)
      rw [bp_t trivial] at h
      have e : (True ∧ nms g n n 0 0 = true) ↔ isNm g n = true := by
        simp [isNm, show 1 ≤ n by omega, y]
      rw [bp_iff e] at h
      exact h
    · have y : ¬ n ≤ 64 := fun q => y ((nI_leI (b := 64) (by omega) (by omega)).mpr q)
      refine t_M_isName_11 ⟨?_, rfl⟩ rfl
      rw [bp_f]
      simp [isNm, y]
theorem L_M_eight {r : Nat} {x1 x2 : Int32} {i : Nat} {Q : mm_O → mm_Mem → Prop} : ∀ w j v, j + w = 8 → mm_W l G k_M_checkOf 60 [(0, .ref r), (1, .int x1), (2, .int x2), (3, .int (csn v w)), (4, .int (nI i))] [] b m Q → mm_W l G k_M_checkOf 27 [(0, .ref r), (1, .int x1), (2, .int x2), (3, .int v), (4, .int (nI i)), (5, .int (nI j))] [] b m Q := by
  have csn_s : ∀ w v, csn (cs v) w = csn v (w + 1) := by
    intro w
    induction w with
    | zero => intro v; rfl
    | succ w ih => intro v; show cs _ = cs _; rw [ih]
  intro w
  induction w with
  | zero =>
    intro j v hj H
    have hj : j = 8 := by omega
    subst hj
    exact t_M_checkOf_27 (fun _ => H) (fun z => absurd (by decide) z)
  | succ w ih =>
    intro j v hj H
    refine t_M_checkOf_27 (fun z => absurd z (nI_ge (b := 8) (by omega) (by omega))) (fun _ => ?_)
    rw [← csn_s] at H
    have h := ih (j + 1) (cs v) (by omega) H
    refine t_M_checkOf_34 (fun z => ?_) (fun z => ?_)
    · unfold cs at h
      rw [if_neg z] at h
      refine t_M_checkOf_50 (t_M_checkOf_53 ?_)
      rw [nI_1]
      exact h
    · unfold cs at h
      rw [if_pos z] at h
      refine t_M_checkOf_41 (t_M_checkOf_53 ?_)
      rw [nI_1]
      exact h
theorem L_M_checkOf {r a n : Nat} {f : Nat → Int32} (h : m r = aB G f) (h0 : r ≠ 0) (ha : a + n ≤ 65536) : ∀ w i, i + w = n → mm_W l G k_M_checkOf 5 [(0, .ref r), (1, .int (nI a)), (2, .int (nI n)), (3, .int (crc f a i)), (4, .int (nI (a + i)))] [] b m (mm_is (.inl (some (.int (crc f a n ^^^ (-1))))) m) := by
  intro w
  induction w with
  | zero =>
    intro i hi
    have hin : i = n := by omega
    subst hin
    refine t_M_checkOf_5 (fun _ => t_M_checkOf_66 ⟨rfl, rfl⟩) (fun z => absurd ?_ z)
    rw [nI_add]
    exact nI_le (Nat.le_refl _) (by omega)
  | succ w ih =>
    intro i hi
    refine t_M_checkOf_5 (fun z => absurd z ?_) (fun _ => t_M_checkOf_13 h (by omega) (vp_in_nI (by omega) (by omega)) (L_M_eight 8 0 _ (by omega) (t_M_checkOf_60 ?_)))
    · rw [nI_add]
      exact nI_ge (by omega) (by omega)
    · rw [nI_1, nI_clamp (by omega), ub_and]
      exact ih (i + 1) (by omega)
theorem s_M_checkOf {r a n : Nat} {f : Nat → Int32} (h : m r = aB G f) (h0 : r ≠ 0) (ha : a + n ≤ 65536) : mm_W l G k_M_checkOf 0 (lv_args 0 [.ref r, .int (nI a), .int (nI n)]) [] b m (mm_is (.inl (some (.int (crc f a n ^^^ (-1))))) m) :=
  t_M_checkOf_0 (L_M_checkOf h h0 ha n 0 (by omega))
end MO2
