/-! names: what PartBox$Names says of characters in a row -/
def sm (c : Nat) : Nat := if 65 ≤ c ∧ c ≤ 90 then c + 32 else c
def pcs (g : Nat → Nat) (ps len : Nat) : Bool := decide (3 ≤ len) || (decide (1 ≤ len) && decide (g ps ≠ 46)) || (decide (2 ≤ len) && decide (g (ps + 1) ≠ 46))
def badc (c : Nat) : Bool := decide (c < 33) || decide (126 < c) || decide (c = 92)
def nms (g : Nat → Nat) (n : Nat) : Nat → Nat → Nat → Bool
  | 0, _, ps => pcs g ps (n - ps)
  | k + 1, i, ps => if badc (g i) then false else if g i = 47 then (pcs g ps (i - ps) && nms g n k (i + 1) (i + 1)) else nms g n k (i + 1) ps
def isNm (g : Nat → Nat) (n : Nat) : Bool := decide (1 ≤ n) && decide (n ≤ 64) && nms g n n 0 0
theorem i_lit (n : Nat) : nI n = Int32.ofNat n := rfl
section SN
variable {l : Launch} {G : mm_G} {m : mm_Mem} {r c N u : Nat} {f : Nat → Int32} {b : Nat}
theorem s_N_small {x : Nat} (hx : x < 2 ^ 20) : mm_W l G k_N_small 0 (lv_args 0 [.int (nI x)]) [] b m (mm_is (.inl (some (.int (nI (sm x))))) m) := by
  refine t_N_small_0 (fun z => ?_) (fun z => ?_)
  · have z : x < 65 := (nI_ltI (by omega) (by omega)).mp z
    refine t_N_small_22 (t_N_small_23 ⟨?_, rfl⟩)
    rw [show sm x = x by unfold sm; rw [if_neg (by omega)]]
  · have z : ¬ x < 65 := fun q => z ((nI_ltI (b := 65) (by omega) (by omega)).mpr q)
    refine t_N_small_6 (fun y => ?_) (fun y => ?_)
    · have y : 90 < x := (nI_ltI (a := 90) (by omega) (by omega)).mp y
      refine t_N_small_22 (t_N_small_23 ⟨?_, rfl⟩)
      rw [show sm x = x by unfold sm; rw [if_neg (by omega)]]
    · have y : ¬ 90 < x := fun q => y ((nI_ltI (a := 90) (by omega) (by omega)).mpr q)
      refine t_N_small_12 (t_N_small_23 ⟨?_, rfl⟩)
      rw [show sm x = x - 65 + 97 by unfold sm; rw [if_pos (by omega)]; omega]
      rw [← nI_add, ← pk_sub (by omega)]
      rfl
theorem s_N_isPiece (B : BY G m r c N f u) {s n : Nat} (hs : s + n ≤ u) : mm_W l G k_N_isPiece 0 (lv_args 0 [.ref r, .int (nI s), .int (nI n)]) [] b m (mm_is (.inl (some (.int (b1 (pcs (fun j => ub (f (s + j))) 0 n = true))))) m) := by
  have q2 := B.2.2.2.2.2.1
  have q3 := B.2.2.2.2.2.2.1
  have hb0 : 0 + b ≤ b := by omega
  have l2 : ∀ k : Nat, k < 2 ^ 20 → ((2 : Int32) ≤ nI k ↔ 2 ≤ k) := fun k hk => nI_leI (a := 2) (by omega) (by omega)
  have l3 : ∀ k : Nat, k < 2 ^ 20 → (nI k ≤ (2 : Int32) ↔ k ≤ 2) := fun k hk => nI_leI (b := 2) (by omega) (by omega)
  have l46 : ∀ k : Nat, k < 256 → (nI k = (46 : Int32) ↔ k = 46) := fun k hk => nI_eq (b := 46) (by omega) (by omega)
  have fin : ∀ (P : Bool), (2 < n → P = true) → (n ≤ 2 → P = false) → mm_W l G k_N_isPiece 32 [(2, .int (nI n))] [] b m (mm_is (.inl (some (.int (b1 (P = true))))) m) := by
    intro P h1 h2
    refine t_N_isPiece_32 (fun z => ?_) (fun z => ?_)
    · rw [l3 n (by omega)] at z
      exact t_N_isPiece_41 (t_N_isPiece_42 ⟨by rw [h2 z]; rfl, rfl⟩ rfl)
    · rw [l3 n (by omega)] at z
      exact t_N_isPiece_37 (t_N_isPiece_42 ⟨by rw [h1 (by omega)]; rfl, rfl⟩ rfl)
  refine t_N_isPiece_0 ?_
  refine t_N_isPiece_2 (fun z => ?_) (fun z => ?_)
  · have z : n ≤ 0 := (nI_leI (b := 0) (by omega) (by omega)).mp z
    have e : n = 0 := by omega
    subst e
    exact fin _ (fun q => absurd q (by omega)) (fun _ => by simp [pcs])
  · have z : ¬ n ≤ 0 := fun q => z ((nI_leI (b := 0) (by omega) (by omega)).mpr q)
    refine t_N_isPiece_7 (fun y => absurd y (by decide)) (fun _ => ?_)
    have hg := s_B_get (l := l) (b := 0) B (nI s)
    rw [bget_in (by omega) (by omega)] at hg
    have e0 : nI s + 0 = nI s := by rw [show (0 : Int32) = nI 0 from rfl, nI_add]; rfl
    rw [← e0] at hg
    refine t_N_isPiece_12 hb0 B.1 B.2.2.1 hg (fun y => ?_) (fun y => ?_)
    · rw [l46 _ (ub_lt _)] at y
      refine t_N_isPiece_26 ?_
      rw [show (0 : Int32) + 1 = nI 1 from rfl]
      refine t_N_isPiece_2 (fun x => ?_) (fun x => ?_)
      · have x : n ≤ 1 := (nI_leI (by omega) (by omega)).mp x
        refine fin _ (fun q => absurd q (by omega)) (fun _ => ?_)
        have e : n = 1 := by omega
        subst e
        simp [pcs, y]
      · have x : ¬ n ≤ 1 := fun q => x ((nI_leI (by omega) (by omega)).mpr q)
        refine t_N_isPiece_7 (fun w => absurd w (by decide)) (fun _ => ?_)
        have hg := s_B_get (l := l) (b := 0) B (nI (s + 1))
        rw [bget_in (by omega) (by omega), ← nI_add] at hg
        refine t_N_isPiece_12 hb0 B.1 B.2.2.1 hg (fun w => ?_) (fun w => ?_)
        · rw [l46 _ (ub_lt _)] at w
          refine t_N_isPiece_26 ?_
          rw [show nI 1 + 1 = nI 2 from rfl]
          have key : mm_W l G k_N_isPiece 32 [(2, .int (nI n))] [] b m (mm_is (.inl (some (.int (b1 (pcs (fun j => ub (f (s + j))) 0 n = true))))) m) := by
            refine fin _ (fun q => ?_) (fun q => ?_)
            · simp [pcs, show 3 ≤ n by omega]
            · have e : n = 2 := by omega
              subst e
              simp [pcs, y, w]
          refine t_N_isPiece_2 (fun _ => key) (fun _ => ?_)
          exact t_N_isPiece_7 (fun _ => key) (fun v => absurd (by decide) v)
        · rw [l46 _ (ub_lt _)] at w
          refine t_N_isPiece_24 ⟨?_, rfl⟩ rfl
          rw [b1_t]
          simp [pcs, show 2 ≤ n by omega, w]
    · rw [l46 _ (ub_lt _)] at y
      refine t_N_isPiece_24 ⟨?_, rfl⟩ rfl
      rw [b1_t]
      simp [pcs, show 1 ≤ n by omega, y]
theorem pcs_sh (g : Nat → Nat) (ps len : Nat) : pcs (fun j => g (ps + j)) 0 len = pcs g ps len := rfl
theorem L_N_isName (B : BY G m r c N f u) {s n : Nat} (hs : s + n ≤ u) (hn : n ≤ 64) : ∀ (k i ps : Nat), i + k = n → ps ≤ i → mm_W l G k_N_isName 18 [(0, .ref r), (1, .int (nI s)), (2, .int (nI n)), (3, .int (nI (s + ps))), (4, .int (nI (s + i)))] [] b m (mm_is (.inl (some (.int (b1 (nms (fun j => ub (f (s + j))) n k i ps = true))))) m) := by
  have q2 := B.2.2.2.2.2.1
  have q3 := B.2.2.2.2.2.2.1
  have hb0 : 0 + b ≤ b := by omega
  intro k
  induction k with
  | zero =>
    intro i ps hi hps
    refine t_N_isName_18 (fun _ => ?_) (fun z => ?_)
    · have hp := s_N_isPiece (l := l) (b := 0) B (s := s + ps) (n := n - ps) (by omega)
      have e : nI s + nI n - nI (s + ps) = nI (n - ps) := by rw [nI_add, pk_sub (by omega)]; congr 1; omega
      rw [← e] at hp
      simp only [Nat.add_assoc] at hp
      have e2 : pcs (fun j => ub (f (s + (ps + j)))) 0 (n - ps) = pcs (fun j => ub (f (s + j))) ps (n - ps) := pcs_sh (fun j => ub (f (s + j))) ps (n - ps)
      rw [e2] at hp
      exact t_N_isName_89 hb0 hp ⟨rfl, rfl⟩ (b1_nar _)
    · exact absurd (by rw [nI_add]; exact nI_le (by omega) (by omega)) z
  | succ k ih =>
    intro i ps hi hps
    refine t_N_isName_18 (fun z => absurd z (by rw [nI_add]; exact nI_ge (by omega) (by omega))) (fun _ => ?_)
    have hg := s_B_get (l := l) (b := 0) B (nI (s + i))
    rw [bget_in (by omega) (by omega)] at hg
    have hub := ub_lt (f (s + i))
    refine t_N_isName_26 hb0 B.1 B.2.2.1 hg (fun z => ?_) (fun z => ?_)
    · have z : ub (f (s + i)) < 33 := (nI_ltI (b := 33) (by omega) (by omega)).mp z
      refine t_N_isName_55 ⟨?_, rfl⟩ rfl
      rw [b1_f]
      simp [nms, badc, z]
    · have z : ¬ ub (f (s + i)) < 33 := fun q => z ((nI_ltI (b := 33) (by omega) (by omega)).mpr q)
      refine t_N_isName_41 (fun y => ?_) (fun y => ?_)
      · have y : 126 < ub (f (s + i)) := (nI_ltI (a := 126) (by omega) (by omega)).mp y
        refine t_N_isName_55 ⟨?_, rfl⟩ rfl
        rw [b1_f]
        simp [nms, badc, y]
      · have y : ¬ 126 < ub (f (s + i)) := fun q => y ((nI_ltI (a := 126) (by omega) (by omega)).mpr q)
        refine t_N_isName_48 (fun x => ?_) (fun x => ?_)
        · have x : ¬ ub (f (s + i)) = 92 := fun q => x ((nI_eq (b := 92) (by omega) (by omega)).mpr q)
          have hbad : badc (ub (f (s + i))) = false := by simp [badc, z, y, x]
          refine t_N_isName_57 (fun w => ?_) (fun w => ?_)
          · have w : ¬ ub (f (s + i)) = 47 := fun q => w ((nI_eq (b := 47) (by omega) (by omega)).mpr q)
            refine t_N_isName_83 ?_
            rw [nI_1, Nat.add_assoc]
            have h := ih (i + 1) ps (by omega) (by omega)
            simp only [nms, hbad, w, if_false, Bool.false_eq_true]
            exact h
          · have w : ub (f (s + i)) = 47 := (nI_eq (b := 47) (by omega) (by omega)).mp w
            have hp := s_N_isPiece (l := l) (b := 0) B (s := s + ps) (n := i - ps) (by omega)
            have e : nI (s + i) - nI (s + ps) = nI (i - ps) := by rw [pk_sub (by omega)]; congr 1; omega
            rw [← e] at hp
            simp only [Nat.add_assoc] at hp
            have e2 : pcs (fun j => ub (f (s + (ps + j)))) 0 (i - ps) = pcs (fun j => ub (f (s + j))) ps (i - ps) := pcs_sh (fun j => ub (f (s + j))) ps (i - ps)
            rw [e2] at hp
            refine t_N_isName_64 hb0 hp (fun v => ?_) (fun v => ?_)
            · have v : pcs (fun j => ub (f (s + j))) ps (i - ps) = true := by
                cases hq : pcs (fun j => ub (f (s + j))) ps (i - ps) with
                | true => rfl
                | false => exact absurd (by rw [hq]; rfl) v
              refine t_N_isName_78 (t_N_isName_83 ?_)
              rw [nI_1, Nat.add_assoc]
              have h := ih (i + 1) (i + 1) (by omega) (by omega)
              simp only [nms, hbad, w, v, if_false, if_true, Bool.false_eq_true, Bool.true_and]
              exact h
            · have v := b1_0.mp v
              refine t_N_isName_76 ⟨?_, rfl⟩ rfl
              rw [b1_f]
              simp [nms, hbad, w, v]
        · have x : ub (f (s + i)) = 92 := (nI_eq (b := 92) (by omega) (by omega)).mp x
          refine t_N_isName_55 ⟨?_, rfl⟩ rfl
          rw [b1_f]
          simp [nms, badc, x]
/-- isName(in, s, n) -/
theorem s_N_isName (B : BY G m r c N f u) {s n : Nat} (hs : s + n ≤ u) : mm_W l G k_N_isName 0 (lv_args 0 [.ref r, .int (nI s), .int (nI n)]) [] b m (mm_is (.inl (some (.int (b1 (isNm (fun j => ub (f (s + j))) n = true))))) m) := by
  have q2 := B.2.2.2.2.2.1
  have q3 := B.2.2.2.2.2.2.1
  refine t_N_isName_0 (fun z => ?_) (fun z => ?_)
  · have z : n < 1 := (nI_ltI (b := 1) (by omega) (by omega)).mp z
    refine t_N_isName_11 ⟨?_, rfl⟩ rfl
    rw [b1_f]
    simp [isNm, show ¬ 1 ≤ n by omega]
  · have z : ¬ n < 1 := fun q => z ((nI_ltI (b := 1) (by omega) (by omega)).mpr q)
    refine t_N_isName_5 (fun y => ?_) (fun y => ?_)
    · have y : n ≤ 64 := (nI_leI (b := 64) (by omega) (by omega)).mp y
      refine t_N_isName_13 ?_
      have h := L_N_isName (l := l) (b := b) B hs y n 0 0 (by omega) (by omega)
      simp only [isNm, show 1 ≤ n by omega, y, decide_true, Bool.true_and]
      exact h
    · have y : ¬ n ≤ 64 := fun q => y ((nI_leI (b := 64) (by omega) (by omega)).mpr q)
      refine t_N_isName_11 ⟨?_, rfl⟩ rfl
      rw [b1_f]
      simp [isNm, y]
/-- areAlike(a, s, b, t, n) -/
theorem L_N_areAlike {r2 c2 N2 u2 : Nat} {g : Nat → Int32} (B : BY G m r c N f u) (B2 : BY G m r2 c2 N2 g u2) {s t n : Nat} (hs : s + n ≤ u) (ht : t + n ≤ u2) : ∀ (k i : Nat), i + k = n → (∀ j, j < i → sm (ub (f (s + j))) = sm (ub (g (t + j)))) → mm_W l G k_N_areAlike 3 [(0, .ref r), (1, .int (nI s)), (2, .ref r2), (3, .int (nI t)), (4, .int (nI n)), (5, .int (nI i))] [] b m (mm_is (.inl (some (.int (b1 (∀ j, j < n → sm (ub (f (s + j))) = sm (ub (g (t + j)))))))) m) := by
  have q2 := B.2.2.2.2.2.1
  have q3 := B.2.2.2.2.2.2.1
  have q4 := B2.2.2.2.2.2.1
  have q5 := B2.2.2.2.2.2.2.1
  have hb0 : 0 + b ≤ b := by omega
  intro k
  induction k with
  | zero =>
    intro i hi h
    have e : i = n := by omega
    subst e
    refine t_N_areAlike_3 (fun _ => ?_) (fun z => absurd (nI_le (Nat.le_refl _) (by omega)) z)
    exact t_N_areAlike_43 ⟨by rw [b1_t h], rfl⟩ rfl
  | succ k ih =>
    intro i hi h
    refine t_N_areAlike_3 (fun z => absurd z (nI_ge (by omega) (by omega))) (fun _ => ?_)
    have hg1 := s_B_get (l := l) (b := 0) B (nI (s + i))
    rw [bget_in (by omega) (by omega), ← nI_add] at hg1
    have hg2 := s_B_get (l := l) (b := 0) B2 (nI (t + i))
    rw [bget_in (by omega) (by omega), ← nI_add] at hg2
    have u1 := ub_lt (f (s + i))
    have u3 := ub_lt (g (t + i))
    have hsm : ∀ x, x < 256 → sm x < 1000 := fun x hx => by unfold sm; split <;> omega
    refine t_N_areAlike_10 hb0 B.1 B.2.2.1 hg1 hb0 (s_N_small (by omega)) hb0 B2.1 B2.2.2.1 hg2 hb0 (s_N_small (by omega)) (fun z => ?_) (fun z => ?_)
    · have z := (nI_eq (by have := hsm _ u1; omega) (by have := hsm _ u3; omega)).mp z
      refine t_N_areAlike_37 ?_
      rw [nI_1]
      refine ih (i + 1) (by omega) (fun j hj => ?_)
      rcases Nat.lt_or_ge j i with q | q
      · exact h j q
      · rw [show j = i by omega]; exact z
    · refine t_N_areAlike_35 ⟨?_, rfl⟩ rfl
      rw [b1_f]
      intro hall
      exact z (by rw [hall i (by omega)])
theorem s_N_areAlike {r2 c2 N2 u2 : Nat} {g : Nat → Int32} (B : BY G m r c N f u) (B2 : BY G m r2 c2 N2 g u2) {s t n : Nat} (hs : s + n ≤ u) (ht : t + n ≤ u2) : mm_W l G k_N_areAlike 0 (lv_args 0 [.ref r, .int (nI s), .ref r2, .int (nI t), .int (nI n)]) [] b m (mm_is (.inl (some (.int (b1 (∀ j, j < n → sm (ub (f (s + j))) = sm (ub (g (t + j)))))))) m) :=
  t_N_areAlike_0 (L_N_areAlike B B2 hs ht n 0 (by omega) (fun j hj => absurd hj (by omega)))
end SN
