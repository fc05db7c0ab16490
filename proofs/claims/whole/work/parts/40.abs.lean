/-! entries as such: name, bytes, method, size, check; the box holds them -/
abbrev En : Type := ((Nat → Nat) × Nat) × ((Nat → Int32) × Nat) × Int32 × Int32 × Int32
def EM (x : Ef) (y s : Nf) (z : En) : Prop := y.2 = z.1.2 ∧ (∀ j, j < z.1.2 → y.1 j = nI (z.1.1 j) ∧ z.1.1 j < 128) ∧ x.1 = z.2.2.1 ∧ x.2.2.1 = z.2.1.2 ∧ x.2.2.2.1 = z.2.2.2.1 ∧ x.2.2.2.2 = z.2.2.2.2 ∧ x.2.1 + x.2.2.1 ≤ s.2 ∧ ∀ j, j < z.2.1.2 → s.1 (x.2.1 + j) = z.2.1.1 j
def ap (x y : Ef) : Prop := x.2.1 + x.2.2.1 ≤ y.2.1 ∨ y.2.1 + y.2.2.1 ≤ x.2.1
def AB (k : Nat) (o : Nat → Nat) (e : Nat → Ef) (n : Nat → Nf) (s : Nf) (E : Nat → En) : Prop := (∀ i j, i < 64 → j < 64 → o i = o j → i = j) ∧ (∀ i, i < k → EM (e (o i)) (n (o i)) s (E i)) ∧ (∀ i j, i < k → j < k → i ≠ j → ap (e (o i)) (e (o j))) ∧ s.2 = sum (fun i => (E i).2.1.2) k
theorem vup_uu {α : Type} {f : Nat → α} {k : Nat} {v w : α} : va_up (va_up f k v) k w = va_up f k w := by
  funext q
  by_cases h : q = k
  · rw [h, vup_s, vup_s]
  · rw [vup_n h, vup_n h, vup_n h]
theorem vup_id {α : Type} {f : Nat → α} {k : Nat} : va_up f k (f k) = f := by
  funext q
  by_cases h : q = k
  · rw [h, vup_s]
  · rw [vup_n h]
theorem sum_eq {g h : Nat → Nat} : ∀ {k}, (∀ i, i < k → g i = h i) → sum g k = sum h k := by
  intro k
  induction k with
  | zero => intro _; rfl
  | succ k ih =>
    intro q
    simp only [sum]
    rw [ih (fun i hi => q i (by omega)), q k (by omega)]
def sk (i j : Nat) : Nat := if j < i then j else j + 1
theorem sum_rm (g : Nat → Nat) {i : Nat} : ∀ {k}, i < k → sum g k = sum (fun j => g (sk i j)) (k - 1) + g i := by
  intro k
  induction k with
  | zero => intro h; omega
  | succ k ih =>
    intro h
    by_cases q : i = k
    · subst q
      have e : sum (fun j => g (sk i j)) i = sum g i := sum_eq (fun j hj => by unfold sk; rw [if_pos hj])
      show sum g i + g i = sum (fun j => g (sk i j)) i + g i
      rw [e]
    · have h1 := ih (by omega)
      obtain ⟨w, rfl⟩ : ∃ w, k = w + 1 := ⟨k - 1, by omega⟩
      show sum g (w + 1) + g (w + 1) = sum (fun j => g (sk i j)) w + g (sk i w) + g i
      have e : sk i w = w + 1 := by unfold sk; rw [if_neg (by omega)]
      rw [e]
      have h2 : sum g (w + 1) = sum (fun j => g (sk i j)) w + g i := h1
      omega
theorem mv_sk {α : Type} (g : Nat → α) (a t j : Nat) : mv g a t (sk t j) = g (sk a j) := by
  unfold mv sk
  by_cases h1 : j < t
  · rw [if_pos h1]
    by_cases h2 : j < a
    · rw [if_pos h2, if_neg (by omega), if_neg (by omega), if_neg (by omega)]
    · rw [if_neg h2, if_neg (by omega), if_pos (by omega)]
  · rw [if_neg h1]
    by_cases h2 : j < a
    · rw [if_pos h2, if_neg (by omega), if_neg (by omega), if_pos (by omega)]
      rfl
    · rw [if_neg h2, if_neg (by omega), if_neg (by omega), if_neg (by omega)]
theorem mv_t {α : Type} (g : Nat → α) (a t : Nat) : mv g a t t = g a := if_pos rfl
theorem sum_mv (g : Nat → Nat) {a t k : Nat} (ha : a < k) (ht : t < k) : sum (mv g a t) k = sum g k := by
  rw [sum_rm (mv g a t) ht, sum_rm g ha, mv_t]
  congr 1
  exact sum_eq (fun j _ => mv_sk g a t j)
def mi (a t : Nat) : Nat → Nat := mv (fun x => x) a t
theorem mv_mi {α : Type} (g : Nat → α) (a t j : Nat) : mv g a t j = g (mi a t j) := (mv_map g (fun x => x) a t j).symm
theorem mi_inj {a t i j : Nat} (h : mi a t i = mi a t j) : i = j := by
  unfold mi mv at h
  dsimp only at h
  repeat' (split at h)
  all_goals omega
theorem mi_lt {a t j k : Nat} (ha : a < k) (ht : t < k) (hj : j < k) : mi a t j < k := by
  obtain ⟨i, hi, h⟩ := mv_at (fun x => x) ha ht hj
  unfold mi
  rw [h]
  exact hi
theorem mi_out {a t j k : Nat} (ha : a < k) (ht : t < k) (hj : k ≤ j) : mi a t j = j := by
  unfold mi mv
  rw [if_neg (by omega), if_neg (by omega), if_neg (by omega)]
theorem app_seg {g f : Nat → Int32} {k s n j : Nat} (h : j < n) : app g k (seg f s n) (k + j) = f (s + j) := by
  unfold app
  rw [seg_len, if_pos (by omega), List.getD_eq_getElem?_getD]
  unfold seg
  rw [List.getElem?_map, List.getElem?_range (by omega)]
  show f (s + (k + j - k)) = _
  congr 1
  omega
theorem app_out {g : Nat → Int32} {k j : Nat} {xs : List Int32} (h : j < k) : app g k xs j = g j := by
  unfold app
  rw [if_neg (by omega)]
section ABS
variable {k : Nat} {o : Nat → Nat} {e : Nat → Ef} {n : Nat → Nf} {s : Nf} {E : Nat → En}
/-- one entry more -/
theorem AB_add (A : AB k o e n s E) (hk : k < 64) {f g : Nat → Int32} {a c nl : Nat} {nm : Nat → Nat} (me sz ck : Int32) (hg : ∀ j, j < nl → g j = nI (nm j) ∧ nm j < 128) : AB (k + 1) o (va_up e (o k) (me, s.2, c, sz, ck)) (va_up n (o k) (g, nl)) (app s.1 s.2 (seg f a c), s.2 + c) (va_up E k ((nm, nl), (fun j => f (a + j), c), me, sz, ck)) := by
  obtain ⟨a1, a2, a3, a4⟩ := A
  have hne : ∀ i, i < k → o i ≠ o k := fun i hi q => by have := a1 i k (by omega) hk q; omega
  refine ⟨a1, fun i hi => ?_, fun i j hi hj hij => ?_, ?_⟩
  · by_cases q : i = k
    · subst q
      rw [vup_s, vup_s, vup_s]
      refine ⟨rfl, hg, rfl, rfl, rfl, rfl, Nat.le_refl _, fun j hj => ?_⟩
      exact app_seg hj
    · have hi : i < k := by omega
      rw [vup_n (hne i hi), vup_n (hne i hi), vup_n q]
      obtain ⟨b1, b2, b3, b4, b5, b6, b7, b8⟩ := a2 i hi
      refine ⟨b1, b2, b3, b4, b5, b6, by show _ ≤ s.2 + c; omega, fun j hj => ?_⟩
      rw [← b8 j hj]
      exact app_out (by omega)
  · have key : ∀ i, i < k → (e (o i)).2.1 + (e (o i)).2.2.1 ≤ s.2 := fun i hi => (a2 i hi).2.2.2.2.2.2.1
    by_cases q : i = k
    · subst q
      have hj : j < i := by omega
      rw [vup_s, vup_n (hne j hj)]
      exact Or.inr (key j hj)
    · have hi : i < k := by omega
      rw [vup_n (hne i hi)]
      by_cases q2 : j = k
      · subst q2
        rw [vup_s]
        exact Or.inl (key i hi)
      · have hj : j < k := by omega
        rw [vup_n (hne j hj)]
        exact a3 i j hi hj hij
  · show s.2 + c = sum (fun i => (va_up E k ((nm, nl), (fun j => f (a + j), c), me, sz, ck) i).2.1.2) k + (va_up E k ((nm, nl), (fun j => f (a + j), c), me, sz, ck) k).2.1.2
    rw [vup_s, a4]
    congr 1
    exact sum_eq (fun i hi => by rw [vup_n (by omega)])
theorem AB_mv (A : AB k o e n s E) (hk : k ≤ 64) {a t : Nat} (ha : a < k) (ht : t < k) : AB k (mv o a t) e n s (mv E a t) := by
  obtain ⟨a1, a2, a3, a4⟩ := A
  refine ⟨fun i j hi hj q => ?_, fun i hi => ?_, fun i j hi hj hij => ?_, ?_⟩
  · rw [mv_mi, mv_mi] at q
    exact mi_inj (a1 _ _ (mi_lt (by omega) (by omega) hi) (mi_lt (by omega) (by omega) hj) q)
  · rw [mv_mi, mv_mi]
    exact a2 _ (mi_lt ha ht hi)
  · rw [mv_mi, mv_mi]
    exact a3 _ _ (mi_lt ha ht hi) (mi_lt ha ht hj) (fun q => hij (mi_inj q))
  · rw [a4, ← sum_mv (fun i => (E i).2.1.2) ha ht]
    exact sum_eq (fun i _ => (mv_map (fun z : En => z.2.1.2) E a t i).symm)
def dl {α : Type} (E : Nat → α) (i : Nat) : Nat → α := fun j => E (sk i j)
theorem sk_ne (i j : Nat) : sk i j ≠ i := by
  unfold sk
  split <;> omega
theorem sk_inj {i a c : Nat} (h : sk i a = sk i c) : a = c := by
  unfold sk at h
  split at h <;> split at h <;> omega
theorem sk_lt {i j k : Nat} (hi : i < k) (hj : j < k - 1) : sk i j < k := by
  unfold sk
  split <;> omega
theorem mv_last {α : Type} (f : Nat → α) {i j k : Nat} (hi : i < k) (hj : j < k - 1) : mv f i (k - 1) j = f (sk i j) := by
  unfold mv sk
  rw [if_neg (by omega)]
  by_cases q : j < i
  · rw [if_neg (by omega), if_neg (by omega), if_pos q]
  · rw [if_pos (by omega), if_neg q]
theorem AB_drop (A : AB k o e n s E) (hk : k ≤ 64) {i : Nat} (hi : i < k) {e2 : Nat → Ef} (he : ∀ j, j < k → e2 (o j) = adj (e (o i)).2.1 (e (o i)).2.2.1 (e (o j))) : AB (k - 1) (mv o i (k - 1)) e2 n (va_cpy s.1 s.1 ((e (o i)).2.1 + (e (o i)).2.2.1) (e (o i)).2.1 (s.2 - (e (o i)).2.1 - (e (o i)).2.2.1), s.2 - (e (o i)).2.2.1) (dl E i) := by
  obtain ⟨a1, a2, a3, a4⟩ := A
  obtain ⟨-, -, -, c4, -, -, c7, -⟩ := a2 i hi
  refine ⟨fun x y hx hy q => ?_, fun j hj => ?_, fun x y hx hy hxy => ?_, ?_⟩
  · rw [mv_mi, mv_mi] at q
    exact mi_inj (a1 _ _ (mi_lt (by omega) (by omega) hx) (mi_lt (by omega) (by omega) hy) q)
  · rw [mv_last o hi hj]
    have ht := sk_lt hi hj
    have hne := sk_ne i j
    obtain ⟨b1, b2, b3, b4, b5, b6, b7, b8⟩ := a2 (sk i j) ht
    have hap := a3 i (sk i j) hi ht (fun q => hne q.symm)
    unfold ap at hap
    rw [he _ ht]
    unfold adj
    by_cases q : (e (o i)).2.1 < (e (o (sk i j))).2.1
    · rw [if_pos q]
      refine ⟨b1, b2, b3, b4, b5, b6, ?_, fun w hw => ?_⟩
      · show (e (o (sk i j))).2.1 - (e (o i)).2.2.1 + (e (o (sk i j))).2.2.1 ≤ s.2 - (e (o i)).2.2.1
        omega
      · show va_cpy s.1 s.1 _ _ _ ((e (o (sk i j))).2.1 - (e (o i)).2.2.1 + w) = _
        have hw2 : w < (e (o (sk i j))).2.2.1 := by rw [b4]; exact hw
        unfold va_cpy
        rw [if_pos (by omega)]
        exact Eq.trans (congrArg s.1 (by omega)) (b8 w hw)
    · rw [if_neg q]
      refine ⟨b1, b2, b3, b4, b5, b6, ?_, fun w hw => ?_⟩
      · show (e (o (sk i j))).2.1 + (e (o (sk i j))).2.2.1 ≤ s.2 - (e (o i)).2.2.1
        omega
      · show va_cpy s.1 s.1 _ _ _ ((e (o (sk i j))).2.1 + w) = _
        have hw2 : w < (e (o (sk i j))).2.2.1 := by rw [b4]; exact hw
        unfold va_cpy
        refine Eq.trans ?_ (b8 w hw)
        by_cases q2 : (e (o i)).2.1 ≤ (e (o (sk i j))).2.1 + w ∧ (e (o (sk i j))).2.1 + w < (e (o i)).2.1 + (s.2 - (e (o i)).2.1 - (e (o i)).2.2.1)
        · rw [if_pos q2]
          exact congrArg s.1 (by omega)
        · rw [if_neg q2]
  · rw [mv_last o hi hx, mv_last o hi hy, he _ (sk_lt hi hx), he _ (sk_lt hi hy)]
    have h1 := a3 i _ hi (sk_lt hi hx) (fun q => sk_ne i x q.symm)
    have h2 := a3 i _ hi (sk_lt hi hy) (fun q => sk_ne i y q.symm)
    have h3 := a3 _ _ (sk_lt hi hx) (sk_lt hi hy) (fun q => hxy (sk_inj q))
    unfold ap at h1 h2 h3 ⊢
    unfold adj
    by_cases q1 : (e (o i)).2.1 < (e (o (sk i x))).2.1 <;> by_cases q2 : (e (o i)).2.1 < (e (o (sk i y))).2.1
    · rw [if_pos q1, if_pos q2]
      show (e (o (sk i x))).2.1 - (e (o i)).2.2.1 + (e (o (sk i x))).2.2.1 ≤ (e (o (sk i y))).2.1 - (e (o i)).2.2.1 ∨ (e (o (sk i y))).2.1 - (e (o i)).2.2.1 + (e (o (sk i y))).2.2.1 ≤ (e (o (sk i x))).2.1 - (e (o i)).2.2.1
      omega
    · rw [if_pos q1, if_neg q2]
      show (e (o (sk i x))).2.1 - (e (o i)).2.2.1 + (e (o (sk i x))).2.2.1 ≤ (e (o (sk i y))).2.1 ∨ (e (o (sk i y))).2.1 + (e (o (sk i y))).2.2.1 ≤ (e (o (sk i x))).2.1 - (e (o i)).2.2.1
      omega
    · rw [if_neg q1, if_pos q2]
      show (e (o (sk i x))).2.1 + (e (o (sk i x))).2.2.1 ≤ (e (o (sk i y))).2.1 - (e (o i)).2.2.1 ∨ (e (o (sk i y))).2.1 - (e (o i)).2.2.1 + (e (o (sk i y))).2.2.1 ≤ (e (o (sk i x))).2.1
      omega
    · rw [if_neg q1, if_neg q2]
      exact h3
  · show s.2 - (e (o i)).2.2.1 = _
    rw [a4, sum_rm _ hi, c4]
    show sum (fun j => (E (sk i j)).2.1.2) (k - 1) + (E i).2.1.2 - (E i).2.1.2 = sum (fun j => (E (sk i j)).2.1.2) (k - 1)
    omega
theorem AB_clear (A : AB k o e n s E) (E2 : Nat → En) : AB 0 o e n (s.1, 0) E2 := ⟨A.1, fun i hi => absurd hi (by omega), fun i j hi => absurd hi (by omega), rfl⟩
end ABS
theorem tb_nI {x : Int32} (h : x.toInt8.toInt32 = x) (h2 : ub x < 128) : x = nI (ub x) := by
  have e1 : x.toInt = x.toInt8.toInt := by
    conv => lhs; rw [← h]
    rw [Int8.toInt_toInt32]
  have e2 : x.toInt8.toInt = x.toInt.bmod 256 := Int32.toInt_toInt8 x
  have e3 : (x.toBitVec.toNat : Int) = x.toInt % 4294967296 := by
    have h1 := BitVec.toInt_eq_toNat_cond x.toBitVec
    have h2 := x.toBitVec.isLt
    rw [show x.toInt = x.toBitVec.toInt from rfl, h1]
    split <;> omega
  unfold ub at *
  rw [← Int32.toInt_inj, nI_toInt (by omega)]
  rw [e2] at e1
  have l1 := Int.bmod_lt (x := x.toInt) (m := 256) (by omega)
  have l2 := Int.le_bmod (x := x.toInt) (m := 256) (by omega)
  omega
theorem nms_ok {g : Nat → Nat} {n : Nat} : ∀ k i ps, nms g n k i ps = true → ∀ j, i ≤ j → j < i + k → badc (g j) = false := by
  intro k
  induction k with
  | zero => intro i ps _ j h1 h2; omega
  | succ k ih =>
    intro i ps h j h1 h2
    simp only [nms] at h
    by_cases q : badc (g i) = true
    · rw [if_pos q] at h; cases h
    · rw [if_neg q] at h
      by_cases q2 : j = i
      · rw [q2]
        exact Bool.eq_false_iff.mpr q
      · by_cases q3 : g i = 47
        · rw [if_pos q3, Bool.and_eq_true] at h
          exact ih (i + 1) (i + 1) h.2 j (by omega) (by omega)
        · rw [if_neg q3] at h
          exact ih (i + 1) ps h j (by omega) (by omega)
theorem isNm_ok {g : Nat → Nat} {n : Nat} (h : isNm g n = true) : 1 ≤ n ∧ n ≤ 64 ∧ ∀ j, j < n → 33 ≤ g j ∧ g j ≤ 126 := by
  unfold isNm at h
  rw [Bool.and_eq_true, Bool.and_eq_true] at h
  refine ⟨of_decide_eq_true h.1.1, of_decide_eq_true h.1.2, fun j hj => ?_⟩
  have q := nms_ok n 0 0 h.2 j (by omega) (by omega)
  unfold badc at q
  rw [Bool.or_eq_false_iff, Bool.or_eq_false_iff] at q
  have q1 := of_decide_eq_false q.1.1
  have q2 := of_decide_eq_false q.1.2
  omega
/-- what reading makes of entry j -/
def re (f : Nat → Int32) (d j : Nat) : En := ((dnm f d j, dnl f d j), (fun t => f (dat f d j + t), dbc f d j), nI (dme f d j), nI (dsz f d j), nI (dck f d j))
