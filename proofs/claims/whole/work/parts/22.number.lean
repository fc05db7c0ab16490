/-! rows of bytes: numbers, marks, copies -/
def b1 (p : Prop) [Decidable p] : Int32 := if p then 1 else 0
theorem b1_t {p : Prop} [Decidable p] (h : p) : b1 p = 1 := if_pos h
theorem b1_f {p : Prop} [Decidable p] (h : ¬ p) : b1 p = 0 := if_neg h
theorem b1_nar (p : Prop) [Decidable p] : narrow .boolean (.int (b1 p)) = .int (b1 p) := by
  unfold b1
  split <;> rfl
theorem b1_0 {p : Prop} [Decidable p] : b1 p = 0 ↔ ¬ p := by
  unfold b1
  split
  · next h => exact ⟨fun z => absurd z (by decide), fun z => absurd h z⟩
  · next h => exact ⟨fun _ => h, fun _ => rfl⟩
def nb (v : Int32) (w : Nat) : List Int32 := (List.range w).map (fun i => tb (sh v (8 * nI i)))
def seg (f : Nat → Int32) (s n : Nat) : List Int32 := (List.range n).map (fun i => f (s + i))
theorem nb_len (v : Int32) (w : Nat) : (nb v w).length = w := by simp [nb]
theorem seg_len (f : Nat → Int32) (s n : Nat) : (seg f s n).length = n := by simp [seg]
theorem nb_succ (v : Int32) (w : Nat) : nb v (w + 1) = nb v w ++ [tb (sh v (8 * nI w))] := by
  unfold nb
  rw [List.range_succ, List.map_append]
  rfl
theorem nb_tb (v : Int32) (w : Nat) : ∀ x ∈ nb v w, x.toInt8.toInt32 = x := fun x hx => by
  obtain ⟨i, -, rfl⟩ := List.mem_map.mp hx
  exact tb_tb _
theorem seg_tb {f : Nat → Int32} (h : ∀ j, (f j).toInt8.toInt32 = f j) (s n : Nat) : ∀ x ∈ seg f s n, x.toInt8.toInt32 = x := fun x hx => by
  obtain ⟨i, -, rfl⟩ := List.mem_map.mp hx
  exact h _
theorem m_app {α : Type} {xs ys : List α} {P : α → Prop} (h : ∀ a ∈ xs, P a) (hx : ∀ a ∈ ys, P a) : ∀ a ∈ xs ++ ys, P a := fun a ha => by
  rcases List.mem_append.mp ha with h1 | h1
  · exact h a h1
  · exact hx a h1
theorem cpy_app (g f : Nat → Int32) (s k n : Nat) (xs : List Int32) : va_cpy g (app f k xs) s (k + xs.length) n = app f k (xs ++ seg g s n) := by
  rw [← app_app]
  funext j
  unfold va_cpy
  rw [show app (app f k xs) (k + xs.length) (seg g s n) j = if k + xs.length ≤ j ∧ j < k + xs.length + (seg g s n).length then (seg g s n).getD (j - (k + xs.length)) 0 else app f k xs j from rfl, seg_len]
  by_cases h : k + xs.length ≤ j ∧ j < k + xs.length + n
  · rw [if_pos h, if_pos h, List.getD_eq_getElem?_getD]
    unfold seg
    rw [List.getElem?_map, List.getElem?_range (by omega)]
    rfl
  · rw [if_neg h, if_neg h]
def ub (x : Int32) : Nat := x.toBitVec.toNat % 256
theorem ub_lt (x : Int32) : ub x < 256 := Nat.mod_lt _ (by decide)
theorem ub_and (x : Int32) : x &&& 255 = nI (ub x) := pk_and x 8 rfl
/-- the number of w bytes from a on, lowest first -/
def le (f : Nat → Int32) (a : Nat) : Nat → Nat
  | 0 => 0
  | w + 1 => ub (f a) + 256 * le f (a + 1) w
theorem le_lt (f : Nat → Int32) (w : Nat) : ∀ a, le f a w < 256 ^ w := by
  induction w with
  | zero => intro a; simp [le]
  | succ w ih =>
    intro a
    have h1 := ih (a + 1)
    have h2 := ub_lt (f a)
    simp only [le]
    rw [Nat.pow_succ]
    omega
theorem bget_in {f : Nat → Int32} {u a : Nat} (h : a < u) (hu : u ≤ 65536) : bget f u (nI a) = nI (ub (f a)) := by
  unfold bget
  rw [if_neg, nI_clamp (by omega), ub_and]
  rintro (z | z)
  · exact nI_pos (by omega) z
  · exact nI_ge h (by omega) z
theorem bget_out {f : Nat → Int32} {u a : Nat} (h : u ≤ a) (ha : a < 2 ^ 31) : bget f u (nI a) = -1 := by
  unfold bget
  rw [if_pos (Or.inr (nI_le h ha))]
theorem l_step {a x : Nat} (ha : a < 2 ^ 40) (hx : x < 256) : (lN a <<< ((8 : Int32).toInt64 &&& 63)) ||| (nI x).toInt64 = lN (x + 256 * a) := by
  rw [show ((8 : Int32).toInt64 &&& 63) = ((nI 8).toInt64 &&& 63) from rfl, wb_shl a (by decide), nI_l (by omega)]
  rw [g_or (k := 8) (p := 2 ^ 8) rfl (by omega) (by omega)]
  congr 1
  omega
theorem i_m1 (x : Int32) : x + (-1) = x - 1 := (Int32.sub_eq_add_neg x 1).symm
section SB3
variable {l : Launch} {G : mm_G} {m : mm_Mem} {r c N u k : Nat} {f : Nat → Int32} {xs : List Int32} {b : Nat}
theorem s_B_set (B : BY G m r c N f u) {i : Nat} (hi : i < u) (x : Int32) : mm_W l G k_B_set 0 (lv_args 0 [.ref r, .int (nI i), .int x]) [] b m (mm_is (.inl none) (BS G m r c N (upd f i (tb x)) u)) := by
  obtain ⟨h1, h2, h3, h4, h5, h6, h7, h8⟩ := B
  refine t_B_set_0 (fun c1 => absurd c1 (nI_pos (by omega))) (fun c1 => ?_)
  refine t_B_set_4 h1 h3 rfl (fun c2 => absurd c2 (nI_ge hi (by omega))) (fun c2 => ?_)
  refine t_B_set_12 h1 h3 rfl h2 h4 (vp_in_nI (by omega) (by omega)) (t_B_set_20 ⟨rfl, ?_⟩)
  unfold BS
  rw [nI_clamp (by omega), vp_nar_byte, show x.toInt8.toInt32.toInt8.toInt32 = tb x from tb_tb x]
  exact (up_id ((up_n h5).trans h1)).symm
theorem L_B_pushNumber (w : Nat) (hw : w ≤ 4) (hf : ∀ j, (f j).toInt8.toInt32 = f j) (hx : ∀ x ∈ xs, x.toInt8.toInt32 = x) (v : Int32) (hu : k + xs.length + w ≤ N) (hrc : r ≠ c) : ∀ (n i : Nat) (m : mm_Mem), i + n = w → BL G m r c N f k (xs ++ nb v i) → mm_W l G k_B_pushNumber 2 [(0, .ref r), (1, .int v), (2, .int (nI w)), (3, .int (nI i))] [] b m (mm_is (.inl none) (BT G m r c N f k (xs ++ nb v w))) := by
  intro n
  induction n with
  | zero =>
    intro i m hi B
    have hi : i = w := by omega
    subst hi
    refine t_B_pushNumber_2 (fun _ => ?_) (fun z => absurd (nI_le (Nat.le_refl _) (by omega)) z)
    exact t_B_pushNumber_28 ⟨rfl, (BS_id B).symm⟩
  | succ n ih =>
    intro i m hi B
    refine t_B_pushNumber_2 (fun z => absurd z (nI_ge (by omega) (by omega))) (fun _ => ?_)
    refine t_B_pushNumber_7 (fun z => absurd z (nI_ge (b := 4) (by omega) (by omega))) (fun _ => ?_)
    refine t_B_pushNumber_12 (Nat.le_of_eq (Nat.zero_add b)) B.1 B.2.2.1 (s_B_pushL B (by simp [nb_len]; omega) _) ?_
    have e : xs ++ nb v i ++ [tb (sh v (8 * nI i))] = xs ++ nb v (i + 1) := by rw [List.append_assoc, nb_succ]
    have e2 : (xs ++ nb v i) ++ [tb ((v.toUInt32 >>> ((8 * nI i).toUInt32 &&& Int32.toUInt32 31)).toInt32)] = xs ++ nb v (i + 1) := e
    rw [e2, nI_1]
    have h := ih (i + 1) (BT G m r c N f k (xs ++ nb v (i + 1))) (by omega) (BL_BT B hf (m_app hx (nb_tb v _)) (by simp [nb_len]; omega))
    rw [BT_BT hrc] at h
    exact h
theorem s_B_pushNumber (B : BL G m r c N f k xs) (hf : ∀ j, (f j).toInt8.toInt32 = f j) (hx : ∀ x ∈ xs, x.toInt8.toInt32 = x) {w : Nat} (hw : w ≤ 4) (hu : k + xs.length + w ≤ N) (v : Int32) : mm_W l G k_B_pushNumber 0 (lv_args 0 [.ref r, .int v, .int (nI w)]) [] b m (mm_is (.inl none) (BT G m r c N f k (xs ++ nb v w))) :=
  t_B_pushNumber_0 (L_B_pushNumber w hw hf hx v hu B.2.2.2.2.1 w 0 m (by omega) (by rw [show nb v 0 = [] from rfl, List.append_nil]; exact B))
theorem s_B_holds (B : BY G m r c N f u) {a n : Nat} (ha : a < 2 ^ 30) (hn : n < 2 ^ 30) : mm_W l G k_B_holds 0 (lv_args 0 [.ref r, .int (nI a), .int (nI n)]) [] b m (mm_is (.inl (some (.int (b1 (a + n ≤ u))))) m) := by
  obtain ⟨h1, h2, h3, h4, h5, h6, h7, h8⟩ := B
  refine t_B_holds_0 (fun c1 => absurd c1 (nI_pos (by omega))) (fun _ => ?_)
  refine t_B_holds_4 (fun c1 => absurd c1 (nI_pos (by omega))) (fun _ => ?_)
  refine t_B_holds_8 h1 h3 rfl (fun c1 => ?_) (fun c1 => ?_)
  · rw [nI_ltI (by omega) (by omega)] at c1
    refine t_B_holds_30 (t_B_holds_31 ⟨?_, rfl⟩ rfl)
    rw [b1_f (by omega)]
  · rw [nI_ltI (by omega) (by omega)] at c1
    refine t_B_holds_16 h1 h3 rfl (fun c2 => ?_) (fun c2 => ?_)
    · rw [pk_sub (by omega), nI_ltI (by omega) (by omega)] at c2
      refine t_B_holds_30 (t_B_holds_31 ⟨?_, rfl⟩ rfl)
      rw [b1_f (by omega)]
    · rw [pk_sub (by omega), nI_ltI (by omega) (by omega)] at c2
      refine t_B_holds_26 (t_B_holds_31 ⟨?_, rfl⟩ rfl)
      rw [b1_t (by omega)]
theorem L_B_number (B : BY G m r c N f u) (a w : Nat) (hw : w ≤ 4) (ha : a + w ≤ u) : ∀ n, n ≤ w → mm_W l G k_B_number 20 [(0, .ref r), (1, .int (nI a)), (3, .long (lN (le f (a + n) (w - n)))), (5, .int (nI n - 1))] [] b m (mm_is (.inl (some (.long (lN (le f a w))))) m) := by
  intro n
  have hu := B.2.2.2.2.2.1
  have hN := B.2.2.2.2.2.2.1
  induction n with
  | zero =>
    intro _
    refine t_B_number_20 (fun _ => ?_) (fun z => absurd (by decide) z)
    exact t_B_number_46 ⟨by rw [Nat.add_zero, Nat.sub_zero], rfl⟩
  | succ n ih =>
    intro hn
    rw [nI_pred]
    refine t_B_number_20 (fun z => absurd z (nI_pos (by omega))) (fun _ => ?_)
    have hg := s_B_get (l := l) (b := 0) B (nI (a + n))
    rw [bget_in (by omega) (by omega), ← nI_add] at hg
    refine t_B_number_25 (Nat.le_of_eq (Nat.zero_add b)) B.1 B.2.2.1 hg ?_
    have e1 : le f (a + n) (w - n) = ub (f (a + n)) + 256 * le f (a + (n + 1)) (w - (n + 1)) := by
      rw [show w - n = (w - (n + 1)) + 1 by omega]
      rfl
    have h9 := le_lt f (w - (n + 1)) (a + (n + 1))
    have h8 : 256 ^ (w - (n + 1)) ≤ 256 ^ 4 := Nat.pow_le_pow_right (by decide) (by omega)
    rw [l_step (by omega) (ub_lt _), ← e1, i_m1]
    exact ih (by omega)
/-- number(a, w): there, or -1 -/
theorem s_B_number (B : BY G m r c N f u) {a w : Nat} (hw : w ≤ 4) (ha : a < 2 ^ 30) : mm_W l G k_B_number 0 (lv_args 0 [.ref r, .int (nI a), .int (nI w)]) [] b m (mm_is (.inl (some (.long (if a + w ≤ u then lN (le f a w) else -1)))) m) := by
  refine t_B_number_0 (Nat.le_of_eq (Nat.zero_add b)) B.1 B.2.2.1 (s_B_holds B ha (by omega)) (fun z => ?_) (fun z => ?_)
  · have hc : a + w ≤ u := by
      rcases Nat.lt_or_ge u (a + w) with q | q
      · exact absurd (b1_0.mpr (by omega)) z
      · exact q
    rw [if_pos hc]
    refine t_B_number_13 ?_
    have h := L_B_number (l := l) (b := b) B a w hw hc w (Nat.le_refl _)
    rw [Nat.sub_self] at h
    exact h
  · rw [if_neg (b1_0.mp z)]
    exact t_B_number_9 ⟨rfl, rfl⟩
theorem s_B_numberI (B : BY G m r c N f u) {a w : Nat} (hw : w ≤ 4) (ha : a + w ≤ u) : mm_W l G k_B_number 0 (lv_args 0 [.ref r, .int (nI a), .int (nI w)]) [] b m (mm_is (.inl (some (.long (lN (le f a w))))) m) := by
  have h := s_B_number (l := l) (b := b) B hw (a := a) (by have := B.2.2.2.2.2.1; have := B.2.2.2.2.2.2.1; omega)
  rw [if_pos ha] at h
  exact h
/-- hasMark(a, x): the four bytes stand there -/
def mk (f : Nat → Int32) (u a : Nat) (x : Int32) (n : Nat) : Prop := ∀ k, k < n → bget f u (nI (a + k)) = sh x (8 * nI k) &&& 255
theorem mk_succ {f : Nat → Int32} {u a n : Nat} {x : Int32} : mk f u a x (n + 1) ↔ mk f u a x n ∧ bget f u (nI (a + n)) = sh x (8 * nI n) &&& 255 := by
  refine ⟨fun h => ⟨fun k hk => h k (by omega), h n (by omega)⟩, fun h k hk => ?_⟩
  rcases Nat.lt_or_ge k n with q | q
  · exact h.1 k q
  · rw [show k = n by omega]; exact h.2
theorem L_B_hasMark (B : BY G m r c N f u) (a : Nat) (ha : a < 2 ^ 30) (x : Int32) [Decidable (mk f u a x 4)] : ∀ n i, i + n = 4 → mk f u a x i → mm_W l G k_B_hasMark 2 [(0, .ref r), (1, .int (nI a)), (2, .int x), (3, .int (nI i))] [] b m (mm_is (.inl (some (.int (b1 (mk f u a x 4))))) m) := by
  intro n
  induction n with
  | zero =>
    intro i hi h
    have hi : i = 4 := by omega
    subst hi
    refine t_B_hasMark_2 (fun _ => ?_) (fun z => absurd (by decide) z)
    exact t_B_hasMark_35 ⟨by rw [b1_t h], rfl⟩ rfl
  | succ n ih =>
    intro i hi h
    refine t_B_hasMark_2 (fun z => absurd z (nI_ge (b := 4) (by omega) (by omega))) (fun _ => ?_)
    have hg := s_B_get (l := l) (b := 0) B (nI (a + i))
    rw [← nI_add] at hg
    refine t_B_hasMark_7 (Nat.le_of_eq (Nat.zero_add b)) B.1 B.2.2.1 hg (fun z => ?_) (fun z => ?_)
    · refine t_B_hasMark_29 ?_
      rw [nI_1]
      rw [nI_add] at z
      exact ih (i + 1) (by omega) (mk_succ.mpr ⟨h, z⟩)
    · refine t_B_hasMark_27 ⟨?_, rfl⟩ rfl
      rw [b1_f]
      intro h4
      rw [nI_add] at z
      exact z (h4 i (by omega))
theorem s_B_hasMark (B : BY G m r c N f u) {a : Nat} (ha : a < 2 ^ 30) (x : Int32) [Decidable (mk f u a x 4)] : mm_W l G k_B_hasMark 0 (lv_args 0 [.ref r, .int (nI a), .int x]) [] b m (mm_is (.inl (some (.int (b1 (mk f u a x 4))))) m) :=
  t_B_hasMark_0 (L_B_hasMark B a ha x 4 0 (by omega) (fun k hk => absurd hk (by omega)))
theorem fit_b {x : Int32} (h : x.toInt8.toInt32 = x) : fits .byte (.int x) = true := by
  rw [← h]; exact pk_fb x
/-- pushAll(from, s, n) -/
theorem s_B_pushAll {r2 c2 N2 u2 : Nat} {g : Nat → Int32} (B : BL G m r c N f k xs) (B2 : BY G m r2 c2 N2 g u2) (hrr : r ≠ r2) (hrc : r ≠ c2) (hcr : c ≠ r2) (hcc : c ≠ c2) {s n : Nat} (hs : s + n ≤ u2) (hu : k + xs.length + n ≤ N) : mm_W l G k_B_pushAll 0 (lv_args 0 [.ref r, .ref r2, .int (nI s), .int (nI n)]) [] b m (mm_is (.inl none) (BT G m r c N f k (xs ++ seg g s n))) := by
  have q2 := B2.2.2.2.2.2.1
  have q3 := B2.2.2.2.2.2.2.1
  have q4 := B.2.2.2.2.2.2.1
  refine t_B_pushAll_0 (Nat.le_of_eq (Nat.zero_add b)) B2.1 B2.2.2.1 (s_B_holds B2 (by omega) (by omega)) (fun z => absurd (b1_0.mp z) (by omega)) (fun _ => ?_)
  refine t_B_pushAll_9 (Nat.le_of_eq (Nat.zero_add b)) B.1 B.2.2.1 (s_B_free B) (fun z => ?_) (fun _ => ?_)
  · rw [nI_ltI (by omega) (by omega)] at z
    omega
  · have n1 : (nI s).toNatClampNeg = s := nI_clamp (by omega)
    have n2 : (nI n).toNatClampNeg = n := nI_clamp (by omega)
    have n3 : (nI (k + xs.length)).toNatClampNeg = k + xs.length := nI_clamp (by omega)
    refine t_B_pushAll_17 B2.1 B2.2.2.1 rfl B.1 B.2.2.1 rfl rfl B2.2.1 B.2.1 B2.2.2.2.1 B.2.2.2.1 (nI_pos (by omega)) (nI_pos (by omega)) (nI_pos (by omega)) (by rw [n1, n2]; omega) (by rw [n3, n2]; omega) (fun i _ => fit_b (B2.2.2.2.2.2.2.2 _)) ((up_n B.2.2.2.2.1).trans B.1) rfl (Nat.le_of_ble_eq_true rfl) rfl (t_B_pushAll_44 ⟨rfl, ?_⟩)
    rw [n1, n2, n3, cpy_app]
    show va_up (va_up m c _) r (.inr (2, [.ref c, .int (nI (k + xs.length) + nI n)])) = _
    rw [nI_add]
    unfold BT BS
    rw [List.length_append, seg_len, Nat.add_assoc]
/-- cut(s, n) -/
theorem s_B_cut (B : BY G m r c N f u) {s n : Nat} (hs : s + n ≤ u) : mm_W l G k_B_cut 0 (lv_args 0 [.ref r, .int (nI s), .int (nI n)]) [] b m (mm_is (.inl none) (BS G m r c N (va_cpy f f (s + n) s (u - s - n)) (u - n))) := by
  obtain ⟨h1, h2, h3, h4, h5, h6, h7, h8⟩ := B
  refine t_B_cut_0 (Nat.le_of_eq (Nat.zero_add b)) h1 h3 (s_B_holds ⟨h1, h2, h3, h4, h5, h6, h7, h8⟩ (by omega) (by omega)) (fun z => absurd (b1_0.mp z) (by omega)) (fun _ => ?_)
  have e1 : nI s + nI n = nI (s + n) := nI_add s n
  have e2 : nI u - nI s - nI n = nI (u - s - n) := by rw [pk_sub (by omega), pk_sub (by omega)]
  have n1 : (nI (s + n)).toNatClampNeg = s + n := nI_clamp (by omega)
  have n2 : (nI (u - s - n)).toNatClampNeg = u - s - n := nI_clamp (by omega)
  have n3 : (nI s).toNatClampNeg = s := nI_clamp (by omega)
  refine t_B_cut_9 h1 h3 rfl rfl h2 h4 (by rw [e1]; exact nI_pos (by omega)) (nI_pos (by omega)) (by rw [e2]; exact nI_pos (by omega)) (by rw [e1, e2, n1, n2]; omega) (by rw [e2, n2, n3]; omega) (fun i _ => fit_b (h8 _)) ((up_n h5).trans h1) rfl (Nat.le_of_ble_eq_true rfl) rfl (t_B_cut_42 ⟨rfl, ?_⟩)
  rw [e1, e2, n1, n2, n3]
  show va_up (va_up m c _) r (.inr (2, [.ref c, .int (nI u - nI n)])) = _
  rw [pk_sub (by omega)]
  rfl
end SB3
