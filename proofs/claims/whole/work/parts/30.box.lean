/-! the box: its picture in cells 8 .. 203, what its methods do -/
abbrev Ef : Type := Int32 × Nat × Nat × Int32 × Int32
abbrev Nf : Type := (Nat → Int32) × Nat
/-- an entry's fields: its name, method, start, number of bytes, size, check -/
def PE (j : Nat) (e : Ef) : List Value := [.ref (11 + 3 * j), .int e.1, .int (nI e.2.1), .int (nI e.2.2.1), .int e.2.2.2.1, .int e.2.2.2.2]
def PB (G : mm_G) (m : mm_Mem) (k : Nat) (o : Nat → Nat) (e : Nat → Ef) (n : Nat → Nf) (s : Nf) : Prop :=
  m 8 = .inr (1, [.ref 9, .ref 202, .int (nI k)]) ∧ (∃ F, m 9 = .inl (G.2 4, 64, .inr (.inr (.inr (.inr F)))) ∧ ∀ j, j < 64 → F j = some (10 + 3 * o j)) ∧ (∀ j, j < 64 → o j < 64) ∧ (∀ j, j < 64 → m (10 + 3 * j) = .inr (4, PE j (e j)) ∧ BY G m (11 + 3 * j) (12 + 3 * j) 64 (n j).1 (n j).2) ∧ BY G m 202 203 65536 s.1 s.2 ∧ k ≤ 64
/-- outside lo .. hi nothing has changed -/
def FR (lo hi : Nat) (m m2 : mm_Mem) : Prop := ∀ a, (a < lo ∨ hi < a) → m2 a = m a
theorem FR_refl {lo hi : Nat} {m : mm_Mem} : FR lo hi m m := fun _ _ => rfl
theorem FR_tr {lo hi : Nat} {m m2 m3 : mm_Mem} (h : FR lo hi m m2) (h2 : FR lo hi m2 m3) : FR lo hi m m3 := fun a ha => (h2 a ha).trans (h a ha)
theorem FR_up {lo hi a : Nat} {m : mm_Mem} {x : va_E} (h1 : lo ≤ a) (h2 : a ≤ hi) : FR lo hi m (va_up m a x) := fun q hq => up_n (by omega)
theorem FR_BS {lo hi r c N u : Nat} {G : mm_G} {m : mm_Mem} {f : Nat → Int32} (h1 : lo ≤ r) (h2 : r ≤ hi) (h3 : lo ≤ c) (h4 : c ≤ hi) : FR lo hi m (BS G m r c N f u) := fun q hq => BS_o (by omega) (by omega)
theorem FR_wide {lo hi lo2 hi2 : Nat} {m m2 : mm_Mem} (h : FR lo hi m m2) (h1 : lo2 ≤ lo) (h2 : hi ≤ hi2) : FR lo2 hi2 m m2 := fun q hq => h q (by omega)
theorem BY_fr {G : mm_G} {m m2 : mm_Mem} {r c N u lo hi : Nat} {f : Nat → Int32} (B : BY G m r c N f u) (h : FR lo hi m m2) (h1 : r < lo ∨ hi < r) (h2 : c < lo ∨ hi < c) : BY G m2 r c N f u := ⟨(h r h1).trans B.1, (h c h2).trans B.2.1, B.2.2⟩
theorem BS_r {G : mm_G} {m : mm_Mem} {r c N u : Nat} {f : Nat → Int32} : BS G m r c N f u r = .inr (2, [.ref c, .int (nI u)]) := up_s
theorem BL_nil {G : mm_G} {m : mm_Mem} {r c N u : Nat} {f : Nat → Int32} (B : BY G m r c N f u) : BL G m r c N f u [] := by
  unfold BL
  rw [app_nil]
  exact B
theorem vup_s {α : Type} {f : Nat → α} {k : Nat} {v : α} : va_up f k v k = v := if_pos rfl
theorem vup_n {α : Type} {f : Nat → α} {k j : Nat} {v : α} (h : j ≠ k) : va_up f k v j = f j := if_neg h
section PBS
variable {l : Launch} {G : mm_G} {m m2 : mm_Mem} {k : Nat} {o : Nat → Nat} {e : Nat → Ef} {n : Nat → Nf} {s : Nf} {b : Nat}
theorem PB_eq (P : PB G m k o e n s) (h : ∀ a, 8 ≤ a → a ≤ 203 → m2 a = m a) : PB G m2 k o e n s := by
  obtain ⟨p1, ⟨F, p2, p3⟩, p4, p5, p6, p7⟩ := P
  refine ⟨(h 8 (by omega) (by omega)).trans p1, ⟨F, (h 9 (by omega) (by omega)).trans p2, p3⟩, p4, fun j hj => ?_, ?_, p7⟩
  · obtain ⟨a1, a2⟩ := p5 j hj
    exact ⟨(h _ (by omega) (by omega)).trans a1, (h _ (by omega) (by omega)).trans a2.1, (h _ (by omega) (by omega)).trans a2.2.1, a2.2.2⟩
  · exact ⟨(h _ (by omega) (by omega)).trans p6.1, (h _ (by omega) (by omega)).trans p6.2.1, p6.2.2⟩
theorem PB_8 (P : PB G m k o e n s) {k2 : Nat} (hk : k2 ≤ 64) : PB G (va_up m 8 (.inr (1, [.ref 9, .ref 202, .int (nI k2)]))) k2 o e n s := by
  obtain ⟨p1, ⟨F, p2, p3⟩, p4, p5, p6, p7⟩ := P
  exact ⟨up_s, ⟨F, (up_n (by omega)).trans p2, p3⟩, p4, fun j hj => ⟨(up_n (by omega)).trans (p5 j hj).1, BY_up (p5 j hj).2 (by omega) (by omega)⟩, BY_up p6 (by omega) (by omega), hk⟩
theorem PB_9 (P : PB G m k o e n s) {o2 : Nat → Nat} {F2 : Nat → Option Nat} (h1 : ∀ j, j < 64 → F2 j = some (10 + 3 * o2 j)) (h2 : ∀ j, j < 64 → o2 j < 64) : PB G (va_up m 9 (.inl (G.2 4, 64, .inr (.inr (.inr (.inr F2)))))) k o2 e n s := by
  obtain ⟨p1, ⟨F, p2, p3⟩, p4, p5, p6, p7⟩ := P
  exact ⟨(up_n (by omega)).trans p1, ⟨F2, up_s, h1⟩, h2, fun j hj => ⟨(up_n (by omega)).trans (p5 j hj).1, BY_up (p5 j hj).2 (by omega) (by omega)⟩, BY_up p6 (by omega) (by omega), p7⟩
theorem PB_E (P : PB G m k o e n s) {i : Nat} (hi : i < 64) (x : Ef) : PB G (va_up m (10 + 3 * i) (.inr (4, PE i x))) k o (va_up e i x) n s := by
  obtain ⟨p1, ⟨F, p2, p3⟩, p4, p5, p6, p7⟩ := P
  refine ⟨(up_n (by omega)).trans p1, ⟨F, (up_n (by omega)).trans p2, p3⟩, p4, fun j hj => ⟨?_, BY_up (p5 j hj).2 (by omega) (by omega)⟩, BY_up p6 (by omega) (by omega), p7⟩
  by_cases q : j = i
  · subst q
    rw [up_s, vup_s]
  · rw [up_n (by omega), vup_n q]
    exact (p5 j hj).1
theorem PB_N (P : PB G m k o e n s) {i v : Nat} {g : Nat → Int32} (hi : i < 64) (hv : v ≤ 64) (hg : ∀ j, (g j).toInt8.toInt32 = g j) : PB G (BS G m (11 + 3 * i) (12 + 3 * i) 64 g v) k o e (va_up n i (g, v)) s := by
  obtain ⟨p1, ⟨F, p2, p3⟩, p4, p5, p6, p7⟩ := P
  refine ⟨(BS_o (by omega) (by omega)).trans p1, ⟨F, (BS_o (by omega) (by omega)).trans p2, p3⟩, p4, fun j hj => ⟨(BS_o (by omega) (by omega)).trans (p5 j hj).1, ?_⟩, BY_o p6 (by omega) (by omega) (by omega) (by omega), p7⟩
  by_cases q : j = i
  · subst q
    rw [vup_s]
    exact BY_BS (p5 j hj).2 hv hg
  · rw [vup_n q]
    exact BY_o (p5 j hj).2 (by omega) (by omega) (by omega) (by omega)
theorem PB_S (P : PB G m k o e n s) {v : Nat} {g : Nat → Int32} (hv : v ≤ 65536) (hg : ∀ j, (g j).toInt8.toInt32 = g j) : PB G (BS G m 202 203 65536 g v) k o e n (g, v) := by
  obtain ⟨p1, ⟨F, p2, p3⟩, p4, p5, p6, p7⟩ := P
  exact ⟨(BS_o (by omega) (by omega)).trans p1, ⟨F, (BS_o (by omega) (by omega)).trans p2, p3⟩, p4, fun j hj => ⟨(BS_o (by omega) (by omega)).trans (p5 j hj).1, BY_o (p5 j hj).2 (by omega) (by omega) (by omega) (by omega)⟩, BY_BS p6 hv hg, p7⟩
/-- the number x names one of the k entries -/
abbrev hs (x : Int32) (k : Nat) : Prop := ¬ x < 0 ∧ ¬ nI k ≤ x
theorem hs_nat {x : Int32} {k : Nat} (hk : k ≤ 65536) (h : hs x k) : ∃ i, i < k ∧ x = nI i := by
  have h1 := in_lt h.1 (i_nle.mp h.2) (Nat.le_refl k) hk
  rw [vp_in_iff] at h1
  refine ⟨x.toInt.toNat, by omega, ?_⟩
  rw [← Int32.toInt_inj, nI_toInt (by omega)]
  omega
theorem hs_nI {i k : Nat} (hk : k < 2 ^ 31) : hs (nI i) k ∨ k ≤ i ∨ 2 ^ 31 ≤ i := by
  by_cases h : i < k
  · exact Or.inl ⟨nI_pos (by omega), nI_ge h hk⟩
  · omega
theorem hs_of {i k : Nat} (h : i < k) (hk : k < 2 ^ 31) : hs (nI i) k := ⟨nI_pos (by omega), nI_ge h hk⟩
theorem s_X_size (P : PB G m k o e n s) : mm_W l G k_X_size 0 (lv_args 0 [.ref 8]) [] b m (mm_is (.inl (some (.int (nI k)))) m) := t_X_size_0 P.1 (by omega) rfl ⟨rfl, rfl⟩
theorem s_X_has (P : PB G m k o e n s) (x : Int32) : mm_W l G k_X_has 0 (lv_args 0 [.ref 8, .int x]) [] b m (mm_is (.inl (some (.int (b1 (hs x k))))) m) := by
  refine t_X_has_0 (fun c1 => ?_) (fun c1 => ?_)
  · refine t_X_has_16 (t_X_has_17 ⟨?_, rfl⟩ rfl)
    rw [b1_f (fun q => q.1 c1)]
  · refine t_X_has_4 P.1 (by omega) rfl (fun c2 => ?_) (fun c2 => ?_)
    · refine t_X_has_16 (t_X_has_17 ⟨?_, rfl⟩ rfl)
      rw [b1_f (fun q => q.2 c2)]
    · refine t_X_has_12 (t_X_has_17 ⟨?_, rfl⟩ rfl)
      rw [b1_t ⟨c1, c2⟩]
theorem b1_n0 {p : Prop} [Decidable p] (h : ¬ b1 p = 0) : p := by
  by_cases q : p
  · exact q
  · exact absurd (b1_f q) h
theorem s_X_pick (P : PB G m k o e n s) (x : Int32) : mm_W l G k_X_pick 0 (lv_args 0 [.ref 8, .int x]) [] b m (mm_is (.inl (some (if hs x k then .ref (10 + 3 * o x.toNatClampNeg) else .null))) m) := by
  refine t_X_pick_0 (Nat.le_of_eq (Nat.zero_add _)) P.1 (by omega) (s_X_has P x) (fun c1 => ?_) (fun c1 => ?_)
  · rw [if_neg (b1_0.mp c1)]
    exact t_X_pick_17 (t_X_pick_18 ⟨rfl, rfl⟩ (Or.inl rfl))
  · have c1 := b1_n0 c1
    rw [if_pos c1]
    obtain ⟨p1, ⟨F, p2, p3⟩, p4, p5, p6, p7⟩ := P
    obtain ⟨i, hi, rfl⟩ := hs_nat (by omega) c1
    have hc : (nI i).toNatClampNeg = i := nI_clamp (by omega)
    exact t_X_pick_8 p1 (by omega) rfl p2 (by omega) (vp_in_nI (by omega) (by omega)) (by rw [hc]; exact p3 i (by omega)) (t_X_pick_18 ⟨by rw [hc], rfl⟩ (Or.inr ⟨_, rfl⟩))
/-- the first of the numbers i, i + 1, .. (w of them) of which p says yes -/
def nof (p : Nat → Bool) : Nat → Nat → Int32
  | 0, _ => -1
  | w + 1, i => if p i then nI i else nof p w (i + 1)
def alk (n1 : Nat) (f1 : Nat → Nat) (n2 : Nat) (f2 : Nat → Nat) : Bool := decide (n1 = n2 ∧ ∀ j, j < n2 → sm (f1 j) = sm (f2 j))
theorem L_X_numberOf {f : Nat → Int32} {u : Nat} (P : PB G m k o e n s) (B : BY G m 4 5 64 f u) : ∀ w i, i + w = k → mm_W l G k_X_numberOf 2 [(0, .ref 8), (1, .ref 4), (2, .int (nI i))] [] b m (mm_is (.inl (some (.int (nof (fun i => alk (n (o i)).2 (fun j => ub ((n (o i)).1 j)) u (fun j => ub (f j))) w i)))) m) := by
  obtain ⟨p1, ⟨F, p2, p3⟩, p4, p5, p6, p7⟩ := P
  have hu := B.2.2.2.2.2.1
  intro w
  induction w with
  | zero =>
    intro i hi
    refine t_X_numberOf_2 p1 (by omega) rfl (fun _ => t_X_numberOf_53 ⟨rfl, rfl⟩) (fun z => absurd (nI_le (by omega) (by omega)) z)
  | succ w ih =>
    intro i hi
    refine t_X_numberOf_2 p1 (by omega) rfl (fun z => absurd z (nI_ge (by omega) (by omega))) (fun _ => ?_)
    have hc : (nI i).toNatClampNeg = i := nI_clamp (by omega)
    obtain ⟨a1, a2⟩ := p5 (o i) (p4 i (by omega))
    have hn := a2.2.2.2.2.2.1
    have hgo : mm_W l G k_X_numberOf 47 [(0, .ref 8), (1, .ref 4), (2, .int (nI i))] [] b m (mm_is (.inl (some (.int (nof (fun i => alk (n (o i)).2 (fun j => ub ((n (o i)).1 j)) u (fun j => ub (f j))) w (i + 1))))) m) := by
      refine t_X_numberOf_47 ?_
      rw [nI_1]
      exact ih (i + 1) (by omega)
    refine t_X_numberOf_10 p1 (by omega) rfl p2 (by omega) (vp_in_nI (by omega) (by omega)) (by rw [hc]; exact p3 i (by omega)) a1 (by omega) rfl (Nat.le_of_eq (Nat.zero_add _)) a2.1 (by omega) (s_B_size a2) (Nat.le_of_eq (Nat.zero_add _)) B.1 (by omega) (s_B_size B) (fun z => ?_) (fun z => ?_)
    · have hne : alk (n (o i)).2 (fun j => ub ((n (o i)).1 j)) u (fun j => ub (f j)) = false := decide_eq_false (fun q => z (by rw [q.1]))
      simp only [nof, hne, if_false, Bool.false_eq_true]
      exact hgo
    · have z := (nI_eq (by omega) (by omega)).mp z
      refine t_X_numberOf_31 (Nat.le_of_eq (Nat.zero_add _)) B.1 (by omega) (s_B_size B) (Nat.le_of_eq (Nat.zero_add _)) (s_N_areAlike a2 B (s := 0) (t := 0) (n := u) (by omega) (by omega)) (fun y => ?_) (fun y => ?_)
      · have y := b1_0.mp y
        simp only [Nat.zero_add] at y
        have hne : alk (n (o i)).2 (fun j => ub ((n (o i)).1 j)) u (fun j => ub (f j)) = false := decide_eq_false (fun q => y q.2)
        simp only [nof, hne, if_false, Bool.false_eq_true]
        exact hgo
      · have y := b1_n0 y
        simp only [Nat.zero_add] at y
        have hne : alk (n (o i)).2 (fun j => ub ((n (o i)).1 j)) u (fun j => ub (f j)) = true := decide_eq_true ⟨z, y⟩
        simp only [nof, hne, if_true]
        exact t_X_numberOf_45 ⟨rfl, rfl⟩
theorem s_X_numberOf {f : Nat → Int32} {u : Nat} (P : PB G m k o e n s) (B : BY G m 4 5 64 f u) : mm_W l G k_X_numberOf 0 (lv_args 0 [.ref 8, .ref 4]) [] b m (mm_is (.inl (some (.int (nof (fun i => alk (n (o i)).2 (fun j => ub ((n (o i)).1 j)) u (fun j => ub (f j))) k 0)))) m) :=
  t_X_numberOf_0 (L_X_numberOf P B k 0 (by omega))
theorem s_X_clear (P : PB G m k o e n s) : mm_W l G k_X_clear 0 (lv_args 0 [.ref 8]) [] b m (mm_is (.inl none) (BS G (va_up m 8 (.inr (1, [.ref 9, .ref 202, .int (nI 0)]))) 202 203 65536 s.1 0)) := by
  have P2 := PB_8 P (k2 := 0) (by omega)
  exact t_X_clear_0 P.1 (by omega) (Nat.le_of_ble_eq_true rfl) up_s rfl (Nat.le_of_eq (Nat.zero_add _)) P2.2.2.2.2.1.1 (by omega) (s_B_keep P2.2.2.2.2.1 (n := 0) (by omega)) ⟨rfl, rfl⟩
theorem PB_clear (P : PB G m k o e n s) : PB G (BS G (va_up m 8 (.inr (1, [.ref 9, .ref 202, .int (nI 0)]))) 202 203 65536 s.1 0) 0 o e n (s.1, 0) := PB_S (PB_8 P (by omega)) (by omega) P.2.2.2.2.1.2.2.2.2.2.2.2
/-- append, where there is room -/
theorem s_X_append {f : Nat → Int32} {u : Nat} (P : PB G m k o e n s) (B : BY G m 2 3 65536 f u) {a c : Nat} (ha : a + c ≤ u) (hk : k < 64) (hr : s.2 + c ≤ 65536) : mm_W l G k_X_append 0 (lv_args 0 [.ref 8, .ref 2, .int (nI a), .int (nI c)]) [] b m (fun v m2 => v = .inl (some (.ref (10 + 3 * o k))) ∧ FR 8 203 m m2 ∧ PB G m2 (k + 1) o (va_up e (o k) ((e (o k)).1, s.2, c, (e (o k)).2.2.2.1, (e (o k)).2.2.2.2)) (va_up n (o k) ((n (o k)).1, 0)) (app s.1 s.2 (seg f a c), s.2 + c)) := by
  have hu := B.2.2.2.2.2.1
  have S := P.2.2.2.2.1
  have P0 := P
  obtain ⟨p1, ⟨F, p2, p3⟩, p4, p5, p6, p7⟩ := P0
  refine t_X_append_0 p1 (by omega) rfl (fun z => absurd z (nI_ge (b := 64) (by omega) (by omega))) (fun _ => ?_)
  refine t_X_append_9 p1 (by omega) rfl (Nat.le_of_eq (Nat.zero_add _)) S.1 (by omega) (s_B_free S) (fun _ => ?_) (fun z => absurd (nI_le (by omega) (by omega)) z)
  have hok := p4 k hk
  have hc : (nI k).toNatClampNeg = k := nI_clamp (by omega)
  have P1 := PB_8 P (k2 := k + 1) (by omega)
  obtain ⟨a1, a2⟩ := P1.2.2.2.1 (o k) hok
  have P2 := PB_N (g := (n (o k)).1) (v := 0) P1 hok (by omega) a2.2.2.2.2.2.2.2
  have P3 := PB_E P2 hok ((e (o k)).1, s.2, c, (e (o k)).2.2.2.1, (e (o k)).2.2.2.2)
  have B3 : BY G (va_up (BS G (va_up m 8 (.inr (1, [.ref 9, .ref 202, .int (nI (k + 1))]))) (11 + 3 * o k) (12 + 3 * o k) 64 (n (o k)).1 0) (10 + 3 * o k) (.inr (4, PE (o k) ((e (o k)).1, s.2, c, (e (o k)).2.2.2.1, (e (o k)).2.2.2.2)))) 2 3 65536 f u := BY_up (BY_o (BY_up B (by omega) (by omega)) (by omega) (by omega) (by omega) (by omega)) (by omega) (by omega)
  have S3 := P3.2.2.2.2.1
  have hpa := s_B_pushAll (l := l) (b := 0) (k := s.2) (f := s.1) (xs := []) (BL_nil S3) B3 (by omega) (by omega) (by omega) (by omega) (s := a) (n := c) ha (by simp; omega)
  rw [List.nil_append] at hpa
  have hS : ∀ mm : mm_Mem, BT G mm 202 203 65536 s.1 s.2 (seg f a c) = BS G mm 202 203 65536 (app s.1 s.2 (seg f a c)) (s.2 + c) := fun mm => by unfold BT; rw [seg_len]
  rw [hS] at hpa
  have P4 := PB_S (g := app s.1 s.2 (seg f a c)) (v := s.2 + c) P3 hr (app_tb S.2.2.2.2.2.2.2 (seg_tb B.2.2.2.2.2.2.2 _ _))
  have hM := s_B_keep (l := l) (b := 0) a2 (n := 0) (by omega)
  have e1 : va_up m 8 (.inr (1, [.ref 9, .ref 202, .int (nI k + 1)])) = va_up m 8 (.inr (1, [.ref 9, .ref 202, .int (nI (k + 1))])) := by rw [nI_1]
  have hM2 : mm_W l G k_B_keep 0 (lv_args 0 [.ref (11 + 3 * o k), .int (nI 0)]) [] 0 (va_up m 8 (.inr (1, [.ref 9, .ref 202, .int (nI k + 1)]))) (mm_is (.inl none) (BS G (va_up m 8 (.inr (1, [.ref 9, .ref 202, .int (nI (k + 1))]))) (11 + 3 * o k) (12 + 3 * o k) 64 (n (o k)).1 0)) := by
    rw [e1]
    exact hM
  have hE2 : va_up (va_up (BS G (va_up m 8 (.inr (1, [.ref 9, .ref 202, .int (nI (k + 1))]))) (11 + 3 * o k) (12 + 3 * o k) 64 (n (o k)).1 0) (10 + 3 * o k) (.inr (4, PE (o k) ((e (o k)).1, s.2, (e (o k)).2.2.1, (e (o k)).2.2.2.1, (e (o k)).2.2.2.2)))) (10 + 3 * o k) (.inr (4, PE (o k) ((e (o k)).1, s.2, c, (e (o k)).2.2.2.1, (e (o k)).2.2.2.2))) = va_up (BS G (va_up m 8 (.inr (1, [.ref 9, .ref 202, .int (nI (k + 1))]))) (11 + 3 * o k) (12 + 3 * o k) 64 (n (o k)).1 0) (10 + 3 * o k) (.inr (4, PE (o k) ((e (o k)).1, s.2, c, (e (o k)).2.2.2.1, (e (o k)).2.2.2.2))) := up_uu
  have P3' := P3
  have P4' := P4
  have hpa' := hpa
  rw [← hE2] at P3' P4' hpa'
  refine t_X_append_22 p1 (by omega) rfl rfl p2 (by omega) (vp_in_nI (by omega) (by omega)) (by rw [hc]; exact p3 k hk) (Nat.le_of_ble_eq_true rfl) ((congrFun e1 _).trans a1) (by omega) rfl (Nat.le_of_eq (Nat.zero_add _)) ((congrFun e1 _).trans a2.1) (by omega) hM2 ((BS_o (by omega) (by omega)).trans up_s) rfl (Nat.le_of_eq (Nat.zero_add _)) P2.2.2.2.2.1.1 (by omega) (s_B_size P2.2.2.2.2.1) ((BS_o (by omega) (by omega)).trans a1) (Nat.le_of_ble_eq_true rfl) up_s (Nat.le_of_ble_eq_true rfl) P3'.1 rfl (Nat.le_of_eq (Nat.zero_add _)) P3'.2.2.2.2.1.1 (by omega) hpa' ⟨rfl, ?_, P4'⟩
  exact FR_tr (FR_tr (FR_tr (FR_tr (FR_up (by omega) (by omega)) (FR_BS (by omega) (by omega) (by omega) (by omega))) (FR_up (by omega) (by omega))) (FR_up (by omega) (by omega))) (FR_BS (by omega) (by omega) (by omega) (by omega))
/-- append, where there is none -/
theorem s_X_appendN (P : PB G m k o e n s) {a c : Nat} (hc : c ≤ 65536) (h : k = 64 ∨ 65536 < s.2 + c) : mm_W l G k_X_append 0 (lv_args 0 [.ref 8, .ref 2, .int (nI a), .int (nI c)]) [] b m (fun v m2 => v = .inl (some .null) ∧ m2 = m) := by
  have S := P.2.2.2.2.1
  have hs2 := S.2.2.2.2.2.1
  obtain ⟨p1, ⟨F, p2, p3⟩, p4, p5, p6, p7⟩ := P
  refine t_X_append_0 p1 (by omega) rfl (fun z => t_X_append_20 ⟨rfl, rfl⟩) (fun z => ?_)
  have hk : ¬ k = 64 := fun q => z (by rw [q]; decide)
  refine t_X_append_9 p1 (by omega) rfl (Nat.le_of_eq (Nat.zero_add _)) S.1 (by omega) (s_B_free S) (fun z => ?_) (fun z => t_X_append_20 ⟨rfl, rfl⟩)
  have z := (nI_leI (by omega) (by omega)).mp z
  omega
/-- what stood at e is put at t, and what lies between goes one back -/
def mv {α : Type} (f : Nat → α) (e t : Nat) : Nat → α := fun j => if j = t then f e else if e ≤ j ∧ j < t then f (j + 1) else if t < j ∧ j ≤ e then f (j - 1) else f j
def mvu {α : Type} (f : Nat → α) (e i : Nat) : Nat → α := fun j => if e ≤ j ∧ j < i then f (j + 1) else f j
def mvd {α : Type} (f : Nat → α) (e i : Nat) : Nat → α := fun j => if i < j ∧ j ≤ e then f (j - 1) else f j
abbrev arE (G : mm_G) (F : Nat → Option Nat) : va_E := .inl (G.2 4, 64, .inr (.inr (.inr (.inr F))))
theorem mvu_self {α : Type} (f : Nat → α) (e : Nat) : mvu f e e = f := by
  funext j
  exact if_neg (by omega)
theorem mvd_self {α : Type} (f : Nat → α) (e : Nat) : mvd f e e = f := by
  funext j
  exact if_neg (by omega)
theorem mvu_succ {α : Type} (f : Nat → α) {e i : Nat} (h : e ≤ i) : va_up (mvu f e i) i (f (i + 1)) = mvu f e (i + 1) := by
  funext j
  unfold va_up mvu
  by_cases q : j = i
  · rw [if_pos q, if_pos (by omega), q]
  · rw [if_neg q]
    by_cases q2 : e ≤ j ∧ j < i
    · rw [if_pos q2, if_pos (by omega)]
    · rw [if_neg q2, if_neg (by omega)]
theorem mvd_pred {α : Type} (f : Nat → α) {e i : Nat} (h : i + 1 ≤ e) : va_up (mvd f e (i + 1)) (i + 1) (f i) = mvd f e i := by
  funext j
  unfold va_up mvd
  by_cases q : j = i + 1
  · rw [if_pos q, if_pos (by omega), q]
    rfl
  · rw [if_neg q]
    by_cases q2 : i + 1 < j ∧ j ≤ e
    · rw [if_pos q2, if_pos (by omega)]
    · rw [if_neg q2, if_neg (by omega)]
theorem mvu_end {α : Type} (f : Nat → α) {e t : Nat} (h : e ≤ t) : va_up (mvu f e t) t (f e) = mv f e t := by
  funext j
  unfold va_up mvu mv
  by_cases q : j = t
  · rw [if_pos q, if_pos q]
  · rw [if_neg q, if_neg q]
    by_cases q2 : e ≤ j ∧ j < t
    · rw [if_pos q2, if_pos q2]
    · rw [if_neg q2, if_neg q2, if_neg (by omega)]
theorem mvd_end {α : Type} (f : Nat → α) {e t : Nat} (h : t ≤ e) : va_up (mvd f e t) t (f e) = mv f e t := by
  funext j
  unfold va_up mvd mv
  by_cases q : j = t
  · rw [if_pos q, if_pos q]
  · rw [if_neg q, if_neg q, if_neg (show ¬ (e ≤ j ∧ j < t) by omega)]
theorem mv_map {α β : Type} (g : α → β) (f : Nat → α) (e t j : Nat) : g (mv f e t j) = mv (fun i => g (f i)) e t j := by
  unfold mv
  split
  · rfl
  · split
    · rfl
    · split <;> rfl
/-- mv at j is f at some number below K -/
theorem mv_at {α : Type} (f : Nat → α) {e t j K : Nat} (he : e < K) (ht : t < K) (hj : j < K) : ∃ i, i < K ∧ mv f e t j = f i := by
  unfold mv
  split
  · exact ⟨e, he, rfl⟩
  · split
    · exact ⟨j + 1, by omega, rfl⟩
    · split
      · exact ⟨j - 1, by omega, rfl⟩
      · exact ⟨j, hj, rfl⟩
theorem up_m9 {F F2 : Nat → Option Nat} : va_up (va_up m 9 (arE G F)) 9 (arE G F2) = va_up m 9 (arE G F2) := up_uu
theorem L_X_shiftU (P : PB G m k o e n s) {F : Nat → Option Nat} (hF : ∀ j, j < 64 → F j = some (10 + 3 * o j)) {a t : Nat} (ha : a < 64) (ht : t < 64) : ∀ w i, i + w = t → a ≤ i → mm_W l G k_X_shift 27 [(0, .ref 8), (1, .int (nI a)), (2, .int (nI t)), (3, .ref (10 + 3 * o a)), (4, .int (nI i))] [] b (va_up m 9 (arE G (mvu F a i))) (mm_is (.inl none) (va_up m 9 (arE G (mv F a t)))) := by
  obtain ⟨p1, -, p4, p5, p6, p7⟩ := P
  intro w
  induction w with
  | zero =>
    intro i hi hai
    have hit : i = t := by omega
    subst hit
    refine t_X_shift_27 (fun _ => ?_) (fun z => absurd (nI_le (by omega) (by omega)) z)
    refine t_X_shift_55 (t_X_shift_58 (fun _ => ?_) (fun z => absurd (nI_le (by omega) (by omega)) z))
    have ho := p4 a ha
    refine t_X_shift_86 ((up_n (by omega)).trans p1) (by omega) rfl up_s (by omega) (vp_in_nI (by omega) (by omega)) ((up_n (by omega)).trans (p5 (o a) ho).1) (by omega) ⟨rfl, ?_⟩
    rw [up_m9, nI_clamp (by omega), ← hF a ha, mvu_end F hai]
  | succ w ih =>
    intro i hi hai
    refine t_X_shift_27 (fun z => absurd z (nI_ge (by omega) (by omega))) (fun _ => ?_)
    have ho := p4 (i + 1) (by omega)
    have hn1 : (nI i + 1).toNatClampNeg = i + 1 := by rw [nI_1, nI_clamp (by omega)]
    have hg : mvu F a i (nI i + 1).toNatClampNeg = some (10 + 3 * o (i + 1)) := by
      rw [hn1]
      unfold mvu
      rw [if_neg (by omega)]
      exact hF _ (by omega)
    refine t_X_shift_33 ((up_n (by omega)).trans p1) (by omega) rfl up_s (by omega) (by rw [nI_1]; exact vp_in_nI (by omega) (by omega)) hg (vp_in_nI (by omega) (by omega)) ((up_n (by omega)).trans (p5 (o (i + 1)) ho).1) (by omega) ?_
    rw [up_m9, nI_1, nI_clamp (by omega), ← hF (i + 1) (by omega), mvu_succ F hai]
    exact ih (i + 1) (by omega) (by omega)
theorem L_X_shiftD (P : PB G m k o e n s) {F : Nat → Option Nat} (hF : ∀ j, j < 64 → F j = some (10 + 3 * o j)) {a t : Nat} (ha : a < 64) (ht : t < 64) : ∀ w i, t + w = i → i ≤ a → mm_W l G k_X_shift 58 [(0, .ref 8), (2, .int (nI t)), (3, .ref (10 + 3 * o a)), (4, .int (nI i))] [] b (va_up m 9 (arE G (mvd F a i))) (mm_is (.inl none) (va_up m 9 (arE G (mv F a t)))) := by
  obtain ⟨p1, -, p4, p5, p6, p7⟩ := P
  intro w
  induction w with
  | zero =>
    intro i hi hai
    have hit : i = t := by omega
    subst hit
    refine t_X_shift_58 (fun _ => ?_) (fun z => absurd (nI_le (by omega) (by omega)) z)
    have ho := p4 a ha
    refine t_X_shift_86 ((up_n (by omega)).trans p1) (by omega) rfl up_s (by omega) (vp_in_nI (by omega) (by omega)) ((up_n (by omega)).trans (p5 (o a) ho).1) (by omega) ⟨rfl, ?_⟩
    rw [up_m9, nI_clamp (by omega), ← hF a ha, mvd_end F hai]
  | succ w ih =>
    intro i hi hai
    obtain ⟨i, rfl⟩ : ∃ q, i = q + 1 := ⟨i - 1, by omega⟩
    refine t_X_shift_58 (fun z => absurd z (nI_ge (by omega) (by omega))) (fun _ => ?_)
    have ho := p4 i (by omega)
    have hn1 : (nI (i + 1) - 1).toNatClampNeg = i := by rw [nI_pred, nI_clamp (by omega)]
    have hg : mvd F a (i + 1) (nI (i + 1) - 1).toNatClampNeg = some (10 + 3 * o i) := by
      rw [hn1]
      unfold mvd
      rw [if_neg (by omega)]
      exact hF _ (by omega)
    refine t_X_shift_64 ((up_n (by omega)).trans p1) (by omega) rfl up_s (by omega) (by rw [nI_pred]; exact vp_in_nI (by omega) (by omega)) hg (vp_in_nI (by omega) (by omega)) ((up_n (by omega)).trans (p5 (o i) ho).1) (by omega) ?_
    rw [up_m9, i_m1, nI_pred, nI_clamp (by omega), ← hF i (by omega), mvd_pred F hai]
    exact ih i (by omega) (by omega)
theorem s_X_shift (P : PB G m k o e n s) {F : Nat → Option Nat} (h9 : m 9 = arE G F) (hF : ∀ j, j < 64 → F j = some (10 + 3 * o j)) {a t : Nat} (ha : a < k) (ht : t < k) : mm_W l G k_X_shift 0 (lv_args 0 [.ref 8, .int (nI a), .int (nI t)]) [] b m (mm_is (.inl none) (va_up m 9 (arE G (mv F a t)))) := by
  have p7 := P.2.2.2.2.2
  refine t_X_shift_0 (Nat.le_of_eq (Nat.zero_add _)) P.1 (by omega) (s_X_has P (nI a)) (fun z => absurd (hs_of ha (by omega)) (b1_0.mp z)) (fun _ => ?_)
  refine t_X_shift_8 (Nat.le_of_eq (Nat.zero_add _)) P.1 (by omega) (s_X_has P (nI t)) (fun _ => ?_) (fun z => absurd (hs_of ht (by omega)) (b1_0.mp z))
  have hc : (nI a).toNatClampNeg = a := nI_clamp (by omega)
  refine t_X_shift_17 P.1 (by omega) rfl h9 (by omega) (vp_in_nI (by omega) (by omega)) (by rw [hc]; exact hF a (by omega)) ?_
  have e0 : va_up m 9 (arE G F) = m := up_id h9
  by_cases q : a ≤ t
  · have h := L_X_shiftU (l := l) (b := b) P hF (a := a) (t := t) (by omega) (by omega) (t - a) a (by omega) (Nat.le_refl _)
    rw [mvu_self, e0] at h
    exact h
  · refine t_X_shift_27 (fun _ => ?_) (fun z => absurd (nI_le (by omega) (by omega)) z)
    have h := L_X_shiftD (l := l) (b := b) P hF (a := a) (t := t) (by omega) (by omega) (a - t) a (by omega) (Nat.le_refl _)
    rw [mvd_self, e0] at h
    exact t_X_shift_55 h
theorem PB_shift (P : PB G m k o e n s) {F : Nat → Option Nat} (hF : ∀ j, j < 64 → F j = some (10 + 3 * o j)) {a t : Nat} (ha : a < k) (ht : t < k) : PB G (va_up m 9 (arE G (mv F a t))) k (mv o a t) e n s := by
  have p4 := P.2.2.1
  have p7 := P.2.2.2.2.2
  refine PB_9 P (fun j hj => ?_) (fun j hj => ?_)
  · unfold mv
    split
    · exact hF _ (by omega)
    · split
      · exact hF _ (by omega)
      · split
        · exact hF _ (by omega)
        · exact hF _ (by omega)
  · obtain ⟨i, hi, h⟩ := mv_at o (e := a) (t := t) (j := j) (K := 64) (by omega) (by omega) hj
    rw [h]
    exact p4 i hi
/-- an entry's start, when n bytes at a are cut out -/
def adj (a c : Nat) (x : Ef) : Ef := if a < x.2.1 then (x.1, x.2.1 - c, x.2.2) else x
theorem L_X_drop (hinj : ∀ i j, i < 64 → j < 64 → o i = o j → i = j) (hk : k ≤ 64) {a c x0 : Nat} (hst : ∀ i, i < k → (e (o i)).2.1 ≤ 65536 ∧ (a < (e (o i)).2.1 → c ≤ (e (o i)).2.1)) (ha : a ≤ 65536) {m0 : mm_Mem} {Q : mm_O → mm_Mem → Prop} (hQ : ∀ e2 m2, (∀ i, i < k → e2 (o i) = adj a c (e (o i))) → FR 8 203 m0 m2 → PB G m2 k o e2 n s → mm_W l G k_X_drop 86 [(0, .ref 8), (1, .int (nI x0))] [] b m2 Q) : ∀ w i e1 m, i + w = k → FR 8 203 m0 m → PB G m k o e1 n s → (∀ j, j < i → e1 (o j) = adj a c (e (o j))) → (∀ j, i ≤ j → j < k → e1 (o j) = e (o j)) → mm_W l G k_X_drop 41 [(0, .ref 8), (1, .int (nI x0)), (2, .int (nI a)), (3, .int (nI c)), (4, .int (nI i))] [] b m Q := by
  intro w
  induction w with
  | zero =>
    intro i e1 m hi hf P h1 h2
    refine t_X_drop_41 P.1 (by omega) rfl (fun _ => hQ e1 m (fun j hj => h1 j (by omega)) hf P) (fun z => absurd (nI_le (by omega) (by omega)) z)
  | succ w ih =>
    intro i e1 m hi hf P h1 h2
    have P0 := P
    obtain ⟨p1, ⟨F, p2, p3⟩, p4, p5, p6, p7⟩ := P0
    refine t_X_drop_41 p1 (by omega) rfl (fun z => absurd z (nI_ge (by omega) (by omega))) (fun _ => ?_)
    have hc : (nI i).toNatClampNeg = i := nI_clamp (by omega)
    have ho := p4 i (by omega)
    have he := h2 i (Nat.le_refl _) (by omega)
    obtain ⟨s1, s2⟩ := hst i (by omega)
    have hi2 := (p5 (o i) ho).1
    rw [he] at hi2
    refine t_X_drop_50 p1 (by omega) rfl p2 (by omega) (vp_in_nI (by omega) (by omega)) (by rw [hc]; exact p3 i (by omega)) hi2 (by omega) rfl (fun z => ?_) (fun z => ?_)
    · have z := (nI_leI (by omega) (by omega)).mp z
      refine t_X_drop_80 ?_
      rw [nI_1]
      refine ih (i + 1) e1 m (by omega) hf P (fun j hj => ?_) (fun j hj hjk => h2 j (by omega) hjk)
      by_cases q : j = i
      · rw [q, he]
        unfold adj
        rw [if_neg (by omega)]
      · exact h1 j (by omega)
    · have z : ¬ (e (o i)).2.1 ≤ a := fun q => z (nI_le q (by omega))
      have s3 := s2 (by omega)
      refine t_X_drop_64 p1 (by omega) rfl p2 (by omega) (vp_in_nI (by omega) (by omega)) (by rw [hc]; exact p3 i (by omega)) hi2 (by omega) rfl (Nat.le_of_ble_eq_true rfl) (t_X_drop_80 ?_)
      rw [nI_1]
      have hx : adj a c (e (o i)) = ((e (o i)).1, (e (o i)).2.1 - c, (e (o i)).2.2) := if_pos (by omega)
      have hm : va_up m (10 + 3 * o i) (.inr (4, (PE (o i) (e (o i))).set 2 (.int (nI (e (o i)).2.1 - nI c)))) = va_up m (10 + 3 * o i) (.inr (4, PE (o i) (adj a c (e (o i))))) := by
        rw [hx, pk_sub s3]
        rfl
      rw [hm]
      refine ih (i + 1) (va_up e1 (o i) (adj a c (e (o i)))) _ (by omega) (FR_tr hf (FR_up (by omega) (by omega))) (PB_E P ho _) (fun j hj => ?_) (fun j hj hjk => ?_)
      · by_cases q : j = i
        · rw [q, vup_s]
        · rw [vup_n (fun z => q (hinj j i (by omega) (by omega) z))]
          exact h1 j (by omega)
      · rw [vup_n (fun z => absurd (hinj j i (by omega) (by omega) z) (by omega))]
        exact h2 j (by omega) hjk
/-- drop(i) -/
theorem s_X_drop (P : PB G m k o e n s) (hinj : ∀ i j, i < 64 → j < 64 → o i = o j → i = j) {i : Nat} (hi : i < k) (hin : ∀ j, j < k → (e (o j)).2.1 + (e (o j)).2.2.1 ≤ s.2) (hap : ∀ j, j < k → (e (o i)).2.1 < (e (o j)).2.1 → (e (o i)).2.2.1 ≤ (e (o j)).2.1) : mm_W l G k_X_drop 0 (lv_args 0 [.ref 8, .int (nI i)]) [] b m (fun v m2 => v = .inl none ∧ FR 8 203 m m2 ∧ ∃ e2, (∀ j, j < k → e2 (o j) = adj (e (o i)).2.1 (e (o i)).2.2.1 (e (o j))) ∧ PB G m2 (k - 1) (mv o i (k - 1)) e2 n (va_cpy s.1 s.1 ((e (o i)).2.1 + (e (o i)).2.2.1) (e (o i)).2.1 (s.2 - (e (o i)).2.1 - (e (o i)).2.2.1), s.2 - (e (o i)).2.2.1)) := by
  have P0 := P
  obtain ⟨p1, ⟨F, p2, p3⟩, p4, p5, p6, p7⟩ := P0
  have hu := p6.2.2.2.2.2.1
  have ho := p4 i (by omega)
  have hb1 := hin i hi
  refine t_X_drop_0 (Nat.le_of_eq (Nat.zero_add _)) p1 (by omega) (s_X_has P (nI i)) (fun _ => ?_) (fun z => absurd (hs_of hi (by omega)) (b1_0.mp z))
  have hc : (nI i).toNatClampNeg = i := nI_clamp (by omega)
  have he : F (nI i).toNatClampNeg = some (10 + 3 * o i) := by rw [hc]; exact p3 i (by omega)
  refine t_X_drop_9 p1 (by omega) rfl p2 (by omega) (vp_in_nI (by omega) (by omega)) he ((p5 (o i) ho).1) (by omega) rfl (vp_in_nI (by omega) (by omega)) he ((p5 (o i) ho).1) (by omega) rfl rfl (Nat.le_of_eq (Nat.zero_add _)) p6.1 (by omega) (s_B_cut p6 hb1) ?_
  have hcp : ∀ j, ((va_cpy s.1 s.1 ((e (o i)).2.1 + (e (o i)).2.2.1) (e (o i)).2.1 (s.2 - (e (o i)).2.1 - (e (o i)).2.2.1)) j).toInt8.toInt32 = (va_cpy s.1 s.1 ((e (o i)).2.1 + (e (o i)).2.2.1) (e (o i)).2.1 (s.2 - (e (o i)).2.1 - (e (o i)).2.2.1)) j := by
    intro j
    unfold va_cpy
    split <;> exact p6.2.2.2.2.2.2.2 _
  have P1 := PB_S (g := va_cpy s.1 s.1 ((e (o i)).2.1 + (e (o i)).2.2.1) (e (o i)).2.1 (s.2 - (e (o i)).2.1 - (e (o i)).2.2.1)) (v := s.2 - (e (o i)).2.2.1) P (by omega) hcp
  refine L_X_drop (e := e) hinj p7 (a := (e (o i)).2.1) (c := (e (o i)).2.2.1) (x0 := i) (m0 := m) (fun j hj => ⟨by have := hin j hj; omega, hap j hj⟩) (by omega) (fun e2 m2 h1 hf P2 => ?_) k 0 e _ (by omega) (FR_BS (by omega) (by omega) (by omega) (by omega)) P1 (fun j hj => absurd hj (by omega)) (fun j _ _ => rfl)
  obtain ⟨F2, q2, q3⟩ := P2.2.1
  have P3 := PB_shift P2 q3 hi (t := k - 1) (by omega)
  have hM := s_X_shift (l := l) (b := 0) P2 q2 q3 hi (t := k - 1) (by omega)
  have e1 : nI k - 1 = nI (k - 1) := pk_sub (b := 1) (by omega)
  rw [← e1] at hM
  refine t_X_drop_86 P2.1 (by omega) rfl (Nat.le_of_eq (Nat.zero_add _)) hM P3.1 rfl (Nat.le_of_ble_eq_true rfl) ⟨rfl, ?_, e2, h1, ?_⟩
  · exact FR_tr hf (FR_tr (FR_up (by omega) (by omega)) (FR_up (by omega) (by omega)))
  · have P4 := PB_8 P3 (k2 := k - 1) (by omega)
    rw [← e1] at P4
    exact P4
end PBS
