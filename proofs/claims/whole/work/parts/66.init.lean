/-! the object's constructors -/
theorem pu_s {m : mm_Mem} {x : va_E} : mm_push m x (mm_n m + 1) = x := by
  unfold mm_push
  rw [up_n (by omega), up_s]
theorem pu_o {m : mm_Mem} {x : va_E} {a : Nat} (h0 : a ≠ 0) (h : a ≠ mm_n m + 1) : mm_push m x a = m a := by
  unfold mm_push
  rw [up_n h0, up_n h]
def IB (G : mm_G) (m : mm_Mem) (r N : Nat) : mm_Mem := va_up (mm_push m (.inl (G.2 0, N, .inl (fun _ => 0)))) r (.inr (2, [.ref (mm_n m + 1), .int 0]))
def IE (G : mm_G) (m : mm_Mem) (r : Nat) : mm_Mem := va_up (IB G (mm_push m (.inr (2, [.null, .int 0]))) (mm_n m + 1) 64) r (.inr (4, [.ref (mm_n m + 1), .int 0, .int 0, .int 0, .int 0, .int 0]))
def IG (m : mm_Mem) (r : Nat) : mm_Mem := va_up (mm_push m (.inr (5, [.int 0, .int 0, .long 0, .long 0, .long 0, .int 0, .int 0]))) r (.inr (6, [.ref (mm_n m + 1), .int 0, .int 0, .long 0, .int 0, .int 0]))
section INIT
variable {l : Launch} {G : mm_G} {m : mm_Mem} {b r N : Nat}
theorem IB_o {a : Nat} (h0 : a ≠ 0) (h1 : a ≠ r) (h2 : a ≠ mm_n m + 1) : IB G m r N a = m a := (up_n h1).trans (pu_o h0 h2)
theorem IB_n (h0 : r ≠ 0) : mm_n (IB G m r N) = mm_n m + 1 := by
  unfold IB
  rw [mm_n_up h0, mm_n_push]
theorem IB_BY (h0 : r ≠ 0) (hr : r ≤ mm_n m) (hN : N ≤ 65536) : BY G (IB G m r N) r (mm_n m + 1) N (fun _ => 0) 0 := ⟨up_s, (up_n (by omega)).trans pu_s, h0, by omega, by omega, Nat.zero_le _, hN, fun _ => rfl⟩
theorem s_B_init (h : m r = .inr (2, [.null, .int 0])) (h0 : r ≠ 0) (hr : r ≤ mm_n m) (hN : N ≤ 65536) (hb : N + 1 ≤ b) : mm_W l G k_B_init 0 (lv_args 0 [.ref r, .int (nI N)]) [] b m (mm_is (.inl none) (IB G m r N)) := by
  have e : (if 0 < nI N then nI N else 0) = nI N := by
    by_cases q : 0 < nI N
    · rw [if_pos q]
    · rw [if_neg q]
      have q2 : ¬ 0 < N := fun z => q ((nI_ltI (a := 0) (by omega) (by omega)).mpr z)
      rw [show N = 0 by omega]
      rfl
  have hg : mm_push m (.inl (G.2 0, N, .inl (fun _ => 0))) r = .inr (2, [.null, .int 0]) := (pu_o h0 (by omega)).trans h
  refine t_B_init_0 (n_2 := N) (by rw [e]; exact i_nlt.mpr (nI_pos' (by omega))) (by rw [e]; exact nI_clamp (by omega)) (by omega) (show N + 1 + 0 ≤ b by omega) hg (by omega) (Nat.le_of_ble_eq_true rfl) up_s (Nat.le_of_ble_eq_true rfl) ⟨rfl, ?_⟩
  unfold IB
  rw [up_uu]
  rfl
theorem s_E_init (h : m r = .inr (4, [.null, .int 0, .int 0, .int 0, .int 0, .int 0])) (h0 : r ≠ 0) (hr : r ≤ mm_n m) (hb : 68 ≤ b) : mm_W l G k_E_init 0 (lv_args 0 [.ref r]) [] b m (mm_is (.inl none) (IE G m r)) := by
  refine t_E_init_0 (show 2 + 1 + (b - 3) ≤ b by omega) (show 65 + (b - 68) ≤ b - 3 by omega) (s_B_init (N := 64) pu_s (by omega) (by rw [mm_n_push]; omega) (by omega) (Nat.le_refl _)) ((IB_o h0 (by omega) (by rw [mm_n_push]; omega)).trans ((pu_o h0 (by omega)).trans h)) (by omega) (Nat.le_of_ble_eq_true rfl) ⟨rfl, rfl⟩
theorem IE_f (h0 : r ≠ 0) (hr : r ≤ mm_n m) : IE G m r r = .inr (4, [.ref (mm_n m + 1), .int 0, .int 0, .int 0, .int 0, .int 0]) ∧ BY G (IE G m r) (mm_n m + 1) (mm_n m + 2) 64 (fun _ => 0) 0 ∧ (∀ a, a ≠ 0 → a ≠ r → a ≠ mm_n m + 1 → a ≠ mm_n m + 2 → IE G m r a = m a) ∧ mm_n (IE G m r) = mm_n m + 2 := by
  have hB := IB_BY (G := G) (m := mm_push m (.inr (2, [.null, .int 0]))) (r := mm_n m + 1) (N := 64) (by omega) (by rw [mm_n_push]; omega) (by omega)
  have hn := IB_n (G := G) (m := mm_push m (.inr (2, [.null, .int 0]))) (r := mm_n m + 1) (N := 64) (by omega)
  rw [mm_n_push] at hB hn
  refine ⟨up_s, ⟨(up_n (by omega)).trans hB.1, (up_n (by omega)).trans hB.2.1, hB.2.2⟩, fun a q0 q1 q2 q3 => ?_, ?_⟩
  · show va_up _ r _ a = m a
    rw [up_n q1, IB_o q0 q2 (by rw [mm_n_push]; omega), pu_o q0 q2]
  · unfold IE
    rw [mm_n_up h0]
    exact hn
theorem s_G_init (h : m r = .inr (6, [.null, .int 0, .int 0, .long 0, .int 0, .int 0])) (h0 : r ≠ 0) (hr : r ≤ mm_n m) (hb : 8 ≤ b) : mm_W l G k_G_init 0 (lv_args 0 [.ref r]) [] b m (mm_is (.inl none) (IG m r)) := by
  refine t_G_init_0 (show 7 + 1 + (b - 8) ≤ b by omega) (show 0 + (b - 8) ≤ b - 8 by omega) (t_F_init_0 ⟨rfl, rfl⟩) ((pu_o h0 (by omega)).trans h) (by omega) (Nat.le_of_ble_eq_true rfl) ⟨rfl, rfl⟩
theorem IG_f (h0 : r ≠ 0) (hr : r ≤ mm_n m) : IG m r r = .inr (6, [.ref (mm_n m + 1), .int 0, .int 0, .long 0, .int 0, .int 0]) ∧ IG m r (mm_n m + 1) = .inr (5, [.int 0, .int 0, .long 0, .long 0, .long 0, .int 0, .int 0]) ∧ (∀ a, a ≠ 0 → a ≠ r → a ≠ mm_n m + 1 → IG m r a = m a) ∧ mm_n (IG m r) = mm_n m + 1 := by
  refine ⟨up_s, (up_n (by omega)).trans pu_s, fun a q0 q1 q2 => (up_n q1).trans (pu_o q0 q2), ?_⟩
  unfold IG
  rw [mm_n_up h0, mm_n_push]
/-- the checker's table -/
theorem s_C_init {r : Nat} (er : r = 6) (h : m r = .inr (3, [.null])) (hn : mm_n m = 6) (hb : 257 ≤ b) : mm_W l G k_C_init 0 (lv_args 0 [.ref r]) [] b m (fun v m2 => v = .inl none ∧ (∀ a, 0 < a → a < 6 → m2 a = m a) ∧ mm_n m2 = 7 ∧ ∃ T, CK G m2 6 7 T) := by
  subst er
  have csn_s : ∀ w v, csn (cs v) w = csn v (w + 1) := by
    intro w
    induction w with
    | zero => intro v; rfl
    | succ w ih => intro v; show cs _ = cs _; rw [ih]
  have L8 : ∀ (x1 : Int32) (M : mm_Mem) (Q : mm_O → mm_Mem → Prop) (b : Nat) (y : Int32), mm_W l G k_C_init 58 [(0, .ref 6), (1, .int x1), (2, .int (csn y 8))] [] b M Q → ∀ w j v, j + w = 8 → csn v w = csn y 8 → mm_W l G k_C_init 26 [(0, .ref 6), (1, .int x1), (2, .int v), (3, .int (nI j))] [] b M Q := by
    intro x1 M Q b y H w
    induction w with
    | zero =>
      intro j v hj hv
      have e : j = 8 := by omega
      subst e
      have hv : v = csn y 8 := hv
      subst hv
      exact t_C_init_26 (fun _ => H) (fun z => absurd (by decide) z)
    | succ w ih =>
      intro j v hj hv
      rw [← csn_s] at hv
      refine t_C_init_26 (fun z => absurd z (nI_ge (b := 8) (by omega) (by omega))) (fun _ => t_C_init_32 (fun z => t_C_init_48 (t_C_init_51 ?_)) (fun z => t_C_init_39 (t_C_init_51 ?_)))
      · have h9 := ih (j + 1) (cs v) (by omega) hv
        rw [nI_1]
        unfold cs at h9
        rw [if_neg z] at h9
        exact h9
      · have h9 := ih (j + 1) (cs v) (by omega) hv
        rw [nI_1]
        unfold cs at h9
        rw [if_pos z] at h9
        exact h9
  have L : ∀ w i M T b, i + w = 256 → M 6 = .inr (3, [.ref 7]) → M 7 = .inl (G.2 1, 256, .inl T) → (∀ j, j < i → T j = csn (nI j) 8) → (∀ a, 0 < a → a < 6 → M a = m a) → mm_n M = 7 → mm_W l G k_C_init 15 [(0, .ref 6), (1, .int (nI i))] [] b M (fun v m2 => v = .inl none ∧ (∀ a, 0 < a → a < 6 → m2 a = m a) ∧ mm_n m2 = 7 ∧ ∃ T, CK G m2 6 7 T) := by
    intro w
    induction w with
    | zero =>
      intro i M T b hi h6 h7 hT hO hM
      have e : i = 256 := by omega
      subst e
      exact t_C_init_15 (fun _ => t_C_init_71 ⟨rfl, hO, hM, T, h6, h7, by omega, by omega, hT⟩) (fun z => absurd (by decide) z)
    | succ w ih =>
      intro i M T b hi h6 h7 hT hO hM
      have ec : (nI i).toNatClampNeg = i := nI_clamp (by omega)
      refine t_C_init_15 (fun z => absurd z (nI_ge (b := 256) (by omega) (by omega))) (fun _ => t_C_init_22 (L8 _ _ _ _ (nI i) ?_ 8 0 _ (by omega) rfl))
      refine t_C_init_58 h6 (by omega) rfl h7 (by omega) (vp_in_nI (by omega) (by omega)) ?_
      rw [nI_1, ec]
      refine ih (i + 1) _ (upd T i (csn (nI i) 8)) b (by omega) ((up_n (by omega)).trans h6) up_s (fun j hj => ?_) (fun a q1 q2 => (up_n (by omega)).trans (hO a q1 q2)) (by rw [mm_n_up (by omega)]; exact hM)
      by_cases q : j = i
      · rw [q, upd_s]
      · rw [upd_n q]
        exact hT j (by omega)
  have hg : mm_push m (.inl (G.2 1, 256, .inl (fun _ => 0))) 6 = .inr (3, [.null]) := (pu_o (by omega) (by omega)).trans h
  refine t_C_init_0 (by decide) rfl (by decide) (show 256 + 1 + (b - 257) ≤ b by omega) hg (by omega) (Nat.le_of_ble_eq_true rfl) ?_
  refine L 256 0 _ (fun _ => 0) _ (by omega) ?_ ?_ (fun j hj => absurd hj (by omega)) (fun a q1 q2 => (up_n (by omega)).trans (pu_o (by omega) (by omega))) ?_
  · rw [up_s, hn]
    rfl
  · rw [up_n (by omega)]
    have := pu_s (m := m) (x := .inl (G.2 1, 256, .inl (fun _ => 0)))
    rw [hn] at this
    exact this
  · rw [mm_n_up (by omega), mm_n_push, hn]
abbrev e00 : Ef := (0, 0, 0, 0, 0)
abbrev n00 : Nf := (fun _ => 0, 0)
/-- the box -/
theorem s_X_init {r : Nat} (er : r = 8) (h : m r = .inr (1, [.null, .null, .int 0])) (hn : mm_n m = 8) (hb : 70405 ≤ b) : mm_W l G k_X_init 0 (lv_args 0 [.ref r]) [] b m (fun v m2 => v = .inl none ∧ (∀ a, 0 < a → a < 8 → m2 a = m a) ∧ mm_n m2 = 203 ∧ PB G m2 0 (fun j => j) (fun _ => e00) (fun _ => n00) n00) := by
  subst er
  have L : ∀ w i M F b, i + w = 64 → mm_n M = 9 + 3 * i → M 8 = .inr (1, [.ref 9, .null, .int 0]) → M 9 = .inl (G.2 4, 64, .inr (.inr (.inr (.inr F)))) → (∀ j, j < i → F j = some (10 + 3 * j)) → (∀ j, j < i → M (10 + 3 * j) = .inr (4, PE j e00) ∧ BY G M (11 + 3 * j) (12 + 3 * j) 64 (fun _ => 0) 0) → (∀ a, 0 < a → a < 8 → M a = m a) → 75 * w + 65540 ≤ b → mm_W l G k_X_init 15 [(0, .ref 8), (1, .int (nI i))] [] b M (fun v m2 => v = .inl none ∧ (∀ a, 0 < a → a < 8 → m2 a = m a) ∧ mm_n m2 = 203 ∧ PB G m2 0 (fun j => j) (fun _ => e00) (fun _ => n00) n00) := by
    intro w
    induction w with
    | zero =>
      intro i M F b hi hM h8 h9 hF hE hO hb
      have e : i = 64 := by omega
      subst e
      have hM : mm_n M = 201 := hM
      have hP : mm_n (mm_push M (.inr (2, [.null, .int 0]))) = 202 := by rw [mm_n_push, hM]
      have hB := IB_BY (G := G) (m := mm_push M (.inr (2, [.null, .int 0]))) (r := mm_n M + 1) (N := 65536) (by omega) (by omega) (by omega)
      rw [hP, hM] at hB
      have hI : ∀ a, a ≠ 0 → a ≠ 202 → a ≠ 203 → IB G (mm_push M (.inr (2, [.null, .int 0]))) (mm_n M + 1) 65536 a = M a := fun a q0 q1 q2 => (IB_o q0 (by omega) (by omega)).trans (pu_o q0 (by omega))
      refine t_X_init_15 (fun _ => t_X_init_40 (show 2 + 1 + (b - 3) ≤ b by omega) (show 65537 + (b - 65540) ≤ b - 3 by omega) (s_B_init (N := 65536) pu_s (by omega) (by omega) (by omega) (Nat.le_refl _)) ((hI 8 (by omega) (by omega) (by omega)).trans h8) (by omega) (Nat.le_of_ble_eq_true rfl) up_s (Nat.le_of_ble_eq_true rfl) ⟨rfl, fun a q1 q2 => ?_, ?_, ?_⟩) (fun z => absurd (by decide) z)
      · rw [up_n (by omega), up_n (by omega), hI a (by omega) (by omega) (by omega)]
        exact hO a q1 q2
      · rw [mm_n_up (by omega), mm_n_up (by omega), IB_n (by omega), hP]
      · have hI2 : ∀ (x y : va_E) a, a ≠ 0 → a ≠ 8 → a ≠ 202 → a ≠ 203 → va_up (va_up (IB G (mm_push M (.inr (2, [.null, .int 0]))) (mm_n M + 1) 65536) 8 x) 8 y a = M a := fun x y a q0 q1 q2 q3 => (up_n q1).trans ((up_n q1).trans (hI a q0 q2 q3))
        rw [hM] at hI2 ⊢
        refine ⟨up_s, ⟨F, (hI2 _ _ 9 (by omega) (by omega) (by omega) (by omega)).trans h9, hF⟩, fun j hj => hj, fun j hj => ?_, ⟨(up_n (by omega)).trans ((up_n (by omega)).trans hB.1), (up_n (by omega)).trans ((up_n (by omega)).trans hB.2.1), hB.2.2⟩, by omega⟩
        obtain ⟨a1, a2⟩ := hE j hj
        exact ⟨(hI2 _ _ _ (by omega) (by omega) (by omega) (by omega)).trans a1, (hI2 _ _ _ (by omega) (by omega) (by omega) (by omega)).trans a2.1, (hI2 _ _ _ (by omega) (by omega) (by omega) (by omega)).trans a2.2.1, a2.2.2⟩
    | succ w ih =>
      intro i M F b hi hM h8 h9 hF hE hO hb
      have ec : (nI i).toNatClampNeg = i := nI_clamp (by omega)
      have hP : mm_n (mm_push M (.inr (4, [.null, .int 0, .int 0, .int 0, .int 0, .int 0]))) = mm_n M + 1 := mm_n_push _ _
      obtain ⟨f1, f2, f3, f4⟩ := IE_f (G := G) (m := mm_push M (.inr (4, [.null, .int 0, .int 0, .int 0, .int 0, .int 0]))) (r := mm_n M + 1) (by omega) (by omega)
      have fO : ∀ a, a ≠ 0 → a < 10 + 3 * i → IE G (mm_push M (.inr (4, [.null, .int 0, .int 0, .int 0, .int 0, .int 0]))) (mm_n M + 1) a = M a := fun a q0 q1 => (f3 a q0 (by omega) (by omega) (by omega)).trans (pu_o q0 (by omega))
      refine t_X_init_15 (fun z => absurd z (nI_ge (b := 64) (by omega) (by omega))) (fun _ => t_X_init_21 h8 (by omega) rfl (show 6 + 1 + (b - 7) ≤ b by omega) (show 68 + (b - 75) ≤ b - 7 by omega) (s_E_init pu_s (by omega) (by omega) (Nat.le_refl _)) ((fO 9 (by omega) (by omega)).trans h9) (by omega) (vp_in_nI (by omega) (by omega)) f1 ?_)
      rw [nI_1, ec]
      refine ih (i + 1) _ (va_up F i (some (mm_n M + 1))) _ (by omega) ?_ ((up_n (by omega)).trans ((fO 8 (by omega) (by omega)).trans h8)) up_s (fun j hj => ?_) (fun j hj => ?_) (fun a q1 q2 => (up_n (by omega)).trans ((fO a (by omega) (by omega)).trans (hO a q1 q2))) (by omega)
      · rw [mm_n_up (by omega), f4, hP, hM]
        omega
      · by_cases q : j = i
        · rw [q, vup_s, hM]
          congr 1
          omega
        · rw [vup_n q]
          exact hF j (by omega)
      · by_cases q : j = i
        · subst q
          rw [hP, hM] at f1 f2
          rw [hM]
          refine ⟨?_, ?_, ?_, ?_⟩
          · rw [up_n (by omega), show 10 + 3 * j = 9 + 3 * j + 1 by omega, f1]
            show _ = (Sum.inr (4, [.ref (11 + 3 * j), .int 0, .int 0, .int 0, .int 0, .int 0]) : va_E)
            rw [show 9 + 3 * j + 1 + 1 = 11 + 3 * j by omega]
          · rw [up_n (by omega), show 11 + 3 * j = 9 + 3 * j + 1 + 1 by omega, f2.1, show 9 + 3 * j + 1 + 2 = 12 + 3 * j by omega]
          · rw [up_n (by omega), show 12 + 3 * j = 9 + 3 * j + 1 + 2 by omega, f2.2.1]
          · exact ⟨by omega, by omega, by omega, by omega, by omega, fun _ => rfl⟩
        · obtain ⟨a1, a2⟩ := hE j (by omega)
          exact ⟨(up_n (by omega)).trans ((fO _ (by omega) (by omega)).trans a1), (up_n (by omega)).trans ((fO _ (by omega) (by omega)).trans a2.1), (up_n (by omega)).trans ((fO _ (by omega) (by omega)).trans a2.2.1), a2.2.2⟩
  have hg : mm_push m (.inl (G.2 4, 64, .inr (.inr (.inr (.inr (fun _ => none)))))) 8 = .inr (1, [.null, .null, .int 0]) := (pu_o (by omega) (by omega)).trans h
  refine t_X_init_0 (by decide) rfl (by decide) (show 64 + 1 + (b - 65) ≤ b by omega) hg (by omega) (Nat.le_of_ble_eq_true rfl) ?_
  refine L 64 0 _ (fun _ => none) _ (by omega) ?_ ?_ ?_ (fun j hj => absurd hj (by omega)) (fun j hj => absurd hj (by omega)) (fun a q1 q2 => (up_n (by omega)).trans (pu_o (by omega) (by omega))) (by omega)
  · rw [mm_n_up (by omega), mm_n_push, hn]
  · rw [up_s, hn]
    rfl
  · rw [up_n (by omega)]
    have := pu_s (m := m) (x := .inl (G.2 4, 64, .inr (.inr (.inr (.inr (fun _ => none))))))
    rw [hn] at this
    exact this
abbrev f00 : List Value := [.int 0, .int 0, .long 0, .long 0, .long 0, .int 0, .int 0]
/-- the reader -/
theorem s_R_init {r : Nat} (er : r = 204) (h : m r = .inr (7, [.null, .null, .null, .null, .null, .int 0, .int 0, .int 0, .int 0, .int 0, .int 0, .long 0, .long 0])) (hn : mm_n m = 204) (hb : 1098 ≤ b) : mm_W l G k_R_init 0 (lv_args 0 [.ref r, .ref 2, .ref 6]) [] b m (fun v m2 => v = .inl none ∧ (∀ a, 0 < a → a < 204 → m2 a = m a) ∧ mm_n m2 = 335 ∧ RS G m2 ∧ m2 204 = .inr (7, RF (0, -1, -1) 0 0 0 0 0)) := by
  subst er
  have L : ∀ w i M F b, i + w = 64 → mm_n M = 205 + 2 * i → M 204 = .inr (7, [.ref 2, .ref 6, .ref 205, .null, .null, .int 0, .int 0, .int 0, .int 0, .int 0, .int 0, .long 0, .long 0]) → M 205 = .inl (G.2 5, 64, .inr (.inr (.inr (.inr F)))) → (∀ j, j < i → F j = some (206 + 2 * j)) → (∀ j, j < i → M (206 + 2 * j) = .inr (6, [.ref (207 + 2 * j), .int 0, .int 0, .long 0, .int 0, .int 0]) ∧ M (207 + 2 * j) = .inr (5, f00)) → (∀ a, 0 < a → a < 204 → M a = m a) → 15 * w + 73 ≤ b → mm_W l G k_R_init 25 [(0, .ref 204), (3, .int (nI i))] [] b M (fun v m2 => v = .inl none ∧ (∀ a, 0 < a → a < 204 → m2 a = m a) ∧ mm_n m2 = 335 ∧ RS G m2 ∧ m2 204 = .inr (7, RF (0, -1, -1) 0 0 0 0 0)) := by
    intro w
    induction w with
    | zero =>
      intro i M F b hi hM h4 h5 hF hE hO hb
      have e : i = 64 := by omega
      subst e
      have hM : mm_n M = 333 := hM
      have hP : mm_n (mm_push M (.inr (5, f00))) = 334 := by rw [mm_n_push, hM]
      have hP2 : ∀ x, mm_n (va_up (mm_push M (.inr (5, f00))) 204 x) = 334 := fun x => by rw [mm_n_up (by omega)]; exact hP
      have hg : ∀ x, mm_push (va_up (mm_push M (.inr (5, f00))) 204 x) (.inl (G.2 1, 64, .inl (fun _ => 0))) 204 = x := fun x => (pu_o (by omega) (by rw [hP2]; omega)).trans up_s
      refine t_R_init_25 (fun _ => t_R_init_50 (show 7 + 1 + (b - 8) ≤ b by omega) (show 0 + (b - 8) ≤ b - 8 by omega) (t_F_init_0 ⟨rfl, rfl⟩) ((pu_o (by omega) (by omega)).trans h4) (by omega) (Nat.le_of_ble_eq_true rfl) (by decide) rfl (by decide) (show 64 + 1 + (b - 73) ≤ b - 8 by omega) (hg _) (Nat.le_of_ble_eq_true rfl) rfl up_s (Nat.le_of_ble_eq_true rfl) up_s (Nat.le_of_ble_eq_true rfl) up_s (Nat.le_of_ble_eq_true rfl) ⟨rfl, fun a q1 q2 => ?_, ?_, ?_, ?_⟩) (fun z => absurd (by decide) z)
      · rw [up_n (by omega), up_n (by omega), up_n (by omega), up_n (by omega), pu_o (by omega) (by rw [hP2]; omega), up_n (by omega), pu_o (by omega) (by omega)]
        exact hO a q1 q2
      · rw [mm_n_up (by omega), mm_n_up (by omega), mm_n_up (by omega), mm_n_up (by omega), mm_n_push, hP2]
      · have hI : ∀ (x y z u v : va_E) a, a ≠ 0 → a ≠ 204 → a ≠ 334 → a ≠ 335 → va_up (va_up (va_up (va_up (mm_push (va_up (mm_push M (.inr (5, f00))) 204 x) (.inl (G.2 1, 64, .inl (fun _ => 0)))) 204 y) 204 z) 204 u) 204 v a = M a := by
          intro x y z u v a q0 q1 q2 q3
          rw [up_n q1, up_n q1, up_n q1, up_n q1, pu_o q0 (by rw [hP2]; omega), up_n q1, pu_o q0 (by omega)]
        refine ⟨⟨F, (hI _ _ _ _ _ 205 (by omega) (by omega) (by omega) (by omega)).trans h5, hF⟩, fun j hj => ?_, ?_, ?_⟩
        · obtain ⟨a1, a2⟩ := hE j hj
          exact ⟨⟨_, _, _, _, _, (hI _ _ _ _ _ _ (by omega) (by omega) (by omega) (by omega)).trans a1⟩, _, _, _, _, _, _, _, (hI _ _ _ _ _ _ (by omega) (by omega) (by omega) (by omega)).trans a2⟩
        · refine ⟨.int 0, .int 0, .long 0, .long 0, .long 0, .int 0, .int 0, ?_⟩
          rw [up_n (by omega), up_n (by omega), up_n (by omega), up_n (by omega), pu_o (by omega) (by rw [hP2]; omega), up_n (by omega)]
          have := pu_s (m := M) (x := .inr (5, f00))
          rw [hM] at this
          exact this
        · refine ⟨fun _ => 0, ?_⟩
          rw [up_n (by omega), up_n (by omega), up_n (by omega), up_n (by omega)]
          have := pu_s (m := va_up (mm_push M (.inr (5, f00))) 204 (.inr (7, [.ref 2, .ref 6, .ref 205, .null, .null, .int 0, .int 0, .int 0, .int 0, .int 0, .int 0, .long 0, .long 0].set 3 (.ref (mm_n M + 1))))) (x := .inl (G.2 1, 64, .inl (fun _ => 0)))
          rw [hP2] at this
          exact this
      · rw [up_s, hP2, hM]
        rfl
    | succ w ih =>
      intro i M F b hi hM h4 h5 hF hE hO hb
      have ec : (nI i).toNatClampNeg = i := nI_clamp (by omega)
      have hP : mm_n (mm_push M (.inr (6, [.null, .int 0, .int 0, .long 0, .int 0, .int 0]))) = mm_n M + 1 := mm_n_push _ _
      obtain ⟨f1, f2, f3, f4⟩ := IG_f (m := mm_push M (.inr (6, [.null, .int 0, .int 0, .long 0, .int 0, .int 0]))) (r := mm_n M + 1) (by omega) (by omega)
      have fO : ∀ a, a ≠ 0 → a < 206 + 2 * i → IG (mm_push M (.inr (6, [.null, .int 0, .int 0, .long 0, .int 0, .int 0]))) (mm_n M + 1) a = M a := fun a q0 q1 => (f3 a q0 (by omega) (by omega)).trans (pu_o q0 (by omega))
      refine t_R_init_25 (fun z => absurd z (nI_ge (b := 64) (by omega) (by omega))) (fun _ => t_R_init_31 h4 (by omega) rfl (show 6 + 1 + (b - 7) ≤ b by omega) (show 8 + (b - 15) ≤ b - 7 by omega) (s_G_init pu_s (by omega) (by omega) (Nat.le_refl _)) ((fO 205 (by omega) (by omega)).trans h5) (by omega) (vp_in_nI (by omega) (by omega)) f1 ?_)
      rw [nI_1, ec]
      refine ih (i + 1) _ (va_up F i (some (mm_n M + 1))) _ (by omega) ?_ ((up_n (by omega)).trans ((fO 204 (by omega) (by omega)).trans h4)) up_s (fun j hj => ?_) (fun j hj => ?_) (fun a q1 q2 => (up_n (by omega)).trans ((fO a (by omega) (by omega)).trans (hO a q1 q2))) (by omega)
      · rw [mm_n_up (by omega), f4, hP, hM]
        omega
      · by_cases q : j = i
        · rw [q, vup_s, hM]
          congr 1
          omega
        · rw [vup_n q]
          exact hF j (by omega)
      · by_cases q : j = i
        · subst q
          rw [hP, hM] at f1 f2
          rw [hM]
          refine ⟨?_, ?_⟩
          · rw [up_n (by omega), show 206 + 2 * j = 205 + 2 * j + 1 by omega, f1, show 205 + 2 * j + 1 + 1 = 207 + 2 * j by omega]
          · rw [up_n (by omega), show 207 + 2 * j = 205 + 2 * j + 1 + 1 by omega, f2]
        · obtain ⟨a1, a2⟩ := hE j (by omega)
          exact ⟨(up_n (by omega)).trans ((fO _ (by omega) (by omega)).trans a1), (up_n (by omega)).trans ((fO _ (by omega) (by omega)).trans a2)⟩
  have hN2 : ∀ x y, mm_n (va_up (va_up m 204 x) 204 y) = 204 := fun x y => by rw [mm_n_up (by omega), mm_n_up (by omega)]; exact hn
  have hg : ∀ (x y z : va_E), mm_push (va_up (va_up m 204 x) 204 y) z 204 = y := fun x y z => (pu_o (by omega) (by rw [hN2]; omega)).trans up_s
  refine t_R_init_0 h (by omega) (Nat.le_of_ble_eq_true rfl) up_s (Nat.le_of_ble_eq_true rfl) (by decide) rfl (by decide) (show 64 + 1 + (b - 65) ≤ b by omega) rfl (hg _ _ _) (Nat.le_of_ble_eq_true rfl) ?_
  refine L 64 0 _ (fun _ => none) _ (by omega) ?_ ?_ ?_ (fun j hj => absurd hj (by omega)) (fun j hj => absurd hj (by omega)) (fun a q1 q2 => ?_) (by omega)
  · rw [mm_n_up (by omega), mm_n_push, hN2]
  · rw [up_s, hN2]
    rfl
  · rw [up_n (by omega)]
    have := pu_s (m := va_up (va_up m 204 (.inr (7, [.null, .null, .null, .null, .null, .int 0, .int 0, .int 0, .int 0, .int 0, .int 0, .long 0, .long 0].set 0 (.ref 2)))) 204 (.inr (7, ([.null, .null, .null, .null, .null, .int 0, .int 0, .int 0, .int 0, .int 0, .int 0, .long 0, .long 0].set 0 (.ref 2)).set 1 (.ref 6)))) (x := .inl (G.2 5, 64, .inr (.inr (.inr (.inr (fun _ => none))))))
    rw [hN2] at this
    exact this
  · rw [up_n (by omega), pu_o (by omega) (by rw [hN2]; omega), up_n (by omega), up_n (by omega)]
def S0 : St := ((fun _ => 0, 0), (fun _ => 0, 0), (0, fun _ => ((fun _ => 0, 0), (fun _ => 0, 0), 0, 0, 0)), (0, -1, -1))
theorem AB_0 : AB 0 (fun j => j) (fun _ => e00) (fun _ => n00) n00 S0.2.2.1.2 := ⟨fun i j _ _ h => h, fun i hi => absurd hi (by omega), fun i j hi => absurd hi (by omega), rfl⟩
/-- the object itself -/
theorem s_P_init {r : Nat} (er : r = 1) (h : m r = .inr (0, [.null, .null, .null, .null, .null])) (hn : mm_n m = 1) (hb : 137388 ≤ b) : mm_W l G k_P_init 0 (lv_args 0 [.ref r]) [] b m (fun v m2 => v = .inl none ∧ mm_n m2 = 335 ∧ CP G m2 S0) := by
  subst er
  have hP : mm_n (mm_push m (.inr (2, [.null, .int 0]))) = 2 := by rw [mm_n_push, hn]
  have hM1 := s_B_init (l := l) (G := G) (m := mm_push m (.inr (2, [.null, .int 0]))) (b := 65537) (r := mm_n m + 1) (N := 65536) pu_s (by omega) (by omega) (by omega) (Nat.le_refl _)
  have n6 : mm_n (IB G (mm_push m (.inr (2, [.null, .int 0]))) (mm_n m + 1) 65536) = 3 := by rw [IB_n (by omega), hP]
  have b6 := IB_BY (G := G) (m := mm_push m (.inr (2, [.null, .int 0]))) (r := mm_n m + 1) (N := 65536) (by omega) (by omega) (by omega)
  have o6 : IB G (mm_push m (.inr (2, [.null, .int 0]))) (mm_n m + 1) 65536 1 = .inr (0, [.null, .null, .null, .null, .null]) := (IB_o (by omega) (by omega) (by omega)).trans ((pu_o (by omega) (by omega)).trans h)
  rw [hP] at b6
  generalize IB G (mm_push m (.inr (2, [.null, .int 0]))) (mm_n m + 1) 65536 = m6 at hM1 n6 b6 o6
  rw [hn] at b6
  have n6' : mm_n (va_up m6 1 (.inr (0, [.null, .null, .null, .null, .null].set 0 (.ref (mm_n m + 1))))) = 3 := by rw [mm_n_up (by omega)]; exact n6
  have hP6 : mm_n (mm_push (va_up m6 1 (.inr (0, [.null, .null, .null, .null, .null].set 0 (.ref (mm_n m + 1))))) (.inr (2, [.null, .int 0]))) = 4 := by rw [mm_n_push, n6']
  have hM2 := s_B_init (l := l) (G := G) (m := (mm_push (va_up m6 1 (.inr (0, [.null, .null, .null, .null, .null].set 0 (.ref (mm_n m + 1))))) (.inr (2, [.null, .int 0])))) (b := 65) (r := mm_n (va_up m6 1 (.inr (0, [.null, .null, .null, .null, .null].set 0 (.ref (mm_n m + 1))))) + 1) (N := 64) pu_s (by omega) (by omega) (by omega) (Nat.le_refl _)
  have n17 : mm_n (IB G (mm_push (va_up m6 1 (.inr (0, [.null, .null, .null, .null, .null].set 0 (.ref (mm_n m + 1))))) (.inr (2, [.null, .int 0]))) (mm_n (va_up m6 1 (.inr (0, [.null, .null, .null, .null, .null].set 0 (.ref (mm_n m + 1))))) + 1) 64) = 5 := by rw [IB_n (by omega), hP6]
  have b17 := IB_BY (G := G) (m := (mm_push (va_up m6 1 (.inr (0, [.null, .null, .null, .null, .null].set 0 (.ref (mm_n m + 1))))) (.inr (2, [.null, .int 0])))) (r := mm_n (va_up m6 1 (.inr (0, [.null, .null, .null, .null, .null].set 0 (.ref (mm_n m + 1))))) + 1) (N := 64) (by omega) (by omega) (by omega)
  have q17 : ∀ a, a ≠ 0 → a < 4 → IB G (mm_push (va_up m6 1 (.inr (0, [.null, .null, .null, .null, .null].set 0 (.ref (mm_n m + 1))))) (.inr (2, [.null, .int 0]))) (mm_n (va_up m6 1 (.inr (0, [.null, .null, .null, .null, .null].set 0 (.ref (mm_n m + 1))))) + 1) 64 a = (va_up m6 1 (.inr (0, [.null, .null, .null, .null, .null].set 0 (.ref (mm_n m + 1))))) a := fun a q0 q1 => (IB_o q0 (by omega) (by omega)).trans (pu_o q0 (by omega))
  have o17 : IB G (mm_push (va_up m6 1 (.inr (0, [.null, .null, .null, .null, .null].set 0 (.ref (mm_n m + 1))))) (.inr (2, [.null, .int 0]))) (mm_n (va_up m6 1 (.inr (0, [.null, .null, .null, .null, .null].set 0 (.ref (mm_n m + 1))))) + 1) 64 1 = .inr (0, ([.null, .null, .null, .null, .null].set 0 (.ref (mm_n m + 1)))) := (q17 1 (by omega) (by omega)).trans up_s
  have b17' : BY G (IB G (mm_push (va_up m6 1 (.inr (0, [.null, .null, .null, .null, .null].set 0 (.ref (mm_n m + 1))))) (.inr (2, [.null, .int 0]))) (mm_n (va_up m6 1 (.inr (0, [.null, .null, .null, .null, .null].set 0 (.ref (mm_n m + 1))))) + 1) 64) 2 3 65536 (fun _ => 0) 0 := ⟨(q17 2 (by omega) (by omega)).trans ((up_n (by omega)).trans b6.1), (q17 3 (by omega) (by omega)).trans ((up_n (by omega)).trans b6.2.1), b6.2.2⟩
  rw [hP6] at b17
  clear q17
  generalize IB G (mm_push (va_up m6 1 (.inr (0, [.null, .null, .null, .null, .null].set 0 (.ref (mm_n m + 1))))) (.inr (2, [.null, .int 0]))) (mm_n (va_up m6 1 (.inr (0, [.null, .null, .null, .null, .null].set 0 (.ref (mm_n m + 1))))) + 1) 64 = m17 at hM2 n17 b17 o17 b17'
  rw [n6'] at b17
  have n17' : mm_n (va_up m17 1 (.inr (0, ([.null, .null, .null, .null, .null].set 0 (.ref (mm_n m + 1))).set 1 (.ref (mm_n (va_up m6 1 (.inr (0, [.null, .null, .null, .null, .null].set 0 (.ref (mm_n m + 1))))) + 1))))) = 5 := by rw [mm_n_up (by omega)]; exact n17
  have hP17 : mm_n (mm_push (va_up m17 1 (.inr (0, ([.null, .null, .null, .null, .null].set 0 (.ref (mm_n m + 1))).set 1 (.ref (mm_n (va_up m6 1 (.inr (0, [.null, .null, .null, .null, .null].set 0 (.ref (mm_n m + 1))))) + 1))))) (.inr (3, [.null]))) = 6 := by rw [mm_n_push, n17']
  have hC := s_C_init (l := l) (G := G) (m := (mm_push (va_up m17 1 (.inr (0, ([.null, .null, .null, .null, .null].set 0 (.ref (mm_n m + 1))).set 1 (.ref (mm_n (va_up m6 1 (.inr (0, [.null, .null, .null, .null, .null].set 0 (.ref (mm_n m + 1))))) + 1))))) (.inr (3, [.null])))) (b := 257) (r := mm_n (va_up m17 1 (.inr (0, ([.null, .null, .null, .null, .null].set 0 (.ref (mm_n m + 1))).set 1 (.ref (mm_n (va_up m6 1 (.inr (0, [.null, .null, .null, .null, .null].set 0 (.ref (mm_n m + 1))))) + 1))))) + 1) (by omega) pu_s hP17 (Nat.le_refl _)
  refine t_P_init_0 (show 2 + 1 + (b - 3) ≤ b by omega) (show 65537 + (b - 65540) ≤ b - 3 by omega) hM1 o6 (by omega) (Nat.le_of_ble_eq_true rfl) (show 2 + 1 + (b - 65543) ≤ b - 65540 by omega) (show 65 + (b - 65608) ≤ b - 65543 by omega) hM2 o17 (Nat.le_of_ble_eq_true rfl) (show 1 + 1 + (b - 65610) ≤ b - 65608 by omega) (show 257 + (b - 65867) ≤ b - 65610 by omega) hC (fun E n hn => ?_) (fun v M2 hn => ?_)
  · cases hn.1
  obtain ⟨ev, hO, nM2, hCK⟩ := hn
  have hO2 : ∀ a, a ≠ 0 → a < 6 → M2 a = (va_up m17 1 (.inr (0, ([.null, .null, .null, .null, .null].set 0 (.ref (mm_n m + 1))).set 1 (.ref (mm_n (va_up m6 1 (.inr (0, [.null, .null, .null, .null, .null].set 0 (.ref (mm_n m + 1))))) + 1))))) a := fun a q0 q1 => (hO a (by omega) q1).trans (pu_o q0 (by omega))
  have c1 : M2 1 = .inr (0, [.ref 2, .ref 4, .null, .null, .null]) := by
    rw [hO2 1 (by omega) (by omega), up_s, n6', hn]
    rfl
  have c2 : BY G M2 2 3 65536 (fun _ => 0) 0 := ⟨(hO2 2 (by omega) (by omega)).trans ((up_n (by omega)).trans b17'.1), (hO2 3 (by omega) (by omega)).trans ((up_n (by omega)).trans b17'.2.1), b17'.2.2⟩
  have c3 : BY G M2 4 5 64 (fun _ => 0) 0 := ⟨(hO2 4 (by omega) (by omega)).trans ((up_n (by omega)).trans b17.1), (hO2 5 (by omega) (by omega)).trans ((up_n (by omega)).trans b17.2.1), b17.2.2⟩
  refine ⟨by cases ev; rfl, ?_⟩
  rw [n17']
  have nK : ∀ x, mm_n (va_up M2 1 x) = 7 := fun x => by rw [mm_n_up (by omega)]; exact nM2
  have hX := s_X_init (l := l) (G := G) (m := mm_push (va_up M2 1 (.inr (0, [.ref 2, .ref 4, .null, .null, .null].set 2 (.ref (5 + 1))))) (.inr (1, [.null, .null, .int 0]))) (b := 70405) (r := mm_n (va_up M2 1 (.inr (0, [.ref 2, .ref 4, .null, .null, .null].set 2 (.ref (5 + 1))))) + 1) (by rw [nK]) pu_s (by rw [mm_n_push, nK]) (Nat.le_refl _)
  refine t_P_init_38 c1 (by omega) (Nat.le_of_ble_eq_true rfl) (show 3 + 1 + (b - 65871) ≤ b - 65867 by omega) (show 70405 + (b - 136276) ≤ b - 65871 by omega) hX (fun E n hn => ?_) (fun v M3 hn => ?_)
  · cases hn.1
  obtain ⟨ev3, hO3, nM3, PB3⟩ := hn
  have hO4 : ∀ a, a ≠ 0 → a < 8 → a ≠ 1 → M3 a = M2 a := fun a q0 q1 q2 => (hO3 a (by omega) q1).trans ((pu_o q0 (by rw [nK]; omega)).trans (up_n q2))
  have d1 : M3 1 = .inr (0, [.ref 2, .ref 4, .ref 6, .null, .null]) := (hO3 1 (by omega) (by omega)).trans ((pu_o (by omega) (by rw [nK]; omega)).trans up_s)
  have d2 : BY G M3 2 3 65536 (fun _ => 0) 0 := ⟨(hO4 2 (by omega) (by omega) (by omega)).trans c2.1, (hO4 3 (by omega) (by omega) (by omega)).trans c2.2.1, c2.2.2⟩
  have d3 : BY G M3 4 5 64 (fun _ => 0) 0 := ⟨(hO4 4 (by omega) (by omega) (by omega)).trans c3.1, (hO4 5 (by omega) (by omega) (by omega)).trans c3.2.1, c3.2.2⟩
  obtain ⟨T, k1, k2, k3⟩ := hCK
  have d4 : CK G M3 6 7 T := ⟨(hO4 6 (by omega) (by omega) (by omega)).trans k1, (hO4 7 (by omega) (by omega) (by omega)).trans k2, k3⟩
  refine ⟨by cases ev3; rfl, ?_⟩
  rw [nK]
  have nK3 : ∀ x, mm_n (va_up M3 1 x) = 203 := fun x => by rw [mm_n_up (by omega)]; exact nM3
  have hR := s_R_init (l := l) (G := G) (m := mm_push (va_up M3 1 (.inr (0, [.ref 2, .ref 4, .ref 6, .null, .null].set 3 (.ref (7 + 1))))) (.inr (7, [.null, .null, .null, .null, .null, .int 0, .int 0, .int 0, .int 0, .int 0, .int 0, .long 0, .long 0]))) (b := 1098) (r := mm_n (va_up M3 1 (.inr (0, [.ref 2, .ref 4, .ref 6, .null, .null].set 3 (.ref (7 + 1))))) + 1) (by rw [nK3]) pu_s (by rw [mm_n_push, nK3]) (Nat.le_refl _)
  have e1 : mm_push (va_up M3 1 (.inr (0, [.ref 2, .ref 4, .ref 6, .null, .null].set 3 (.ref (7 + 1))))) (.inr (7, [.null, .null, .null, .null, .null, .int 0, .int 0, .int 0, .int 0, .int 0, .int 0, .long 0, .long 0])) 1 = .inr (0, [.ref 2, .ref 4, .ref 6, .ref 8, .null]) := (pu_o (by omega) (by rw [nK3]; omega)).trans up_s
  refine t_P_init_49 d1 (by omega) (Nat.le_of_ble_eq_true rfl) (show 13 + 1 + (b - 136290) ≤ b - 136276 by omega) rfl e1 (by omega) rfl rfl (show 1098 + (b - 137388) ≤ b - 136290 by omega) hR (fun E n hn => ?_) (fun v M5 hn => ?_)
  · cases hn.1
  obtain ⟨ev5, hO5, nM5, RS5, h204⟩ := hn
  have hO6 : ∀ a, a ≠ 0 → a < 204 → a ≠ 1 → M5 a = M3 a := fun a q0 q1 q2 => (hO5 a (by omega) q1).trans ((pu_o q0 (by rw [nK3]; omega)).trans (up_n q2))
  have f1 : M5 1 = .inr (0, [.ref 2, .ref 4, .ref 6, .ref 8, .null]) := (hO5 1 (by omega) (by omega)).trans e1
  refine ⟨by cases ev5; rfl, ?_⟩
  rw [nK3]
  refine t_P_init_68 f1 (by omega) (Nat.le_of_ble_eq_true rfl) ⟨rfl, by rw [mm_n_up (by omega)]; exact nM5, up_s, ?_, ?_, fun _ => by show 0 < 128; omega, ⟨T, ?_⟩, ⟨fun j => j, fun _ => e00, fun _ => n00, n00, ?_, AB_0⟩, ?_, ?_⟩
  · exact ⟨(up_n (by omega)).trans ((hO6 2 (by omega) (by omega) (by omega)).trans d2.1), (up_n (by omega)).trans ((hO6 3 (by omega) (by omega) (by omega)).trans d2.2.1), d2.2.2⟩
  · exact ⟨(up_n (by omega)).trans ((hO6 4 (by omega) (by omega) (by omega)).trans d3.1), (up_n (by omega)).trans ((hO6 5 (by omega) (by omega) (by omega)).trans d3.2.1), d3.2.2⟩
  · exact ⟨(up_n (by omega)).trans ((hO6 6 (by omega) (by omega) (by omega)).trans d4.1), (up_n (by omega)).trans ((hO6 7 (by omega) (by omega) (by omega)).trans d4.2.1), d4.2.2⟩
  · exact PB_eq PB3 (fun a q1 q2 => (up_n (by omega)).trans (hO6 a (by omega) (by omega) (by omega)))
  · exact RS_eq RS5 (fun a q1 q2 => up_n (by omega))
  · exact ⟨0, 0, 0, 0, 0, (up_n (by omega)).trans h204⟩
end INIT
