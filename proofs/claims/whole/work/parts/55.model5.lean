/-! the model's methods: remove, move -/
def sx (p q i : Nat) : Nat := if i = p then q else if i = q then p else i
def cx (p q i : Nat) : Nat := if i = q then p else i
/-- the entries' arrays are those of before, entry i being the former entry r i -/
def RX (A A2 : Nat → Nat → Int32) (r : Nat → Nat) : Prop := (∀ a, 340 ≤ a → a ≤ 345 → ∀ i, i < 64 → A2 a i = A a (r i)) ∧ ∀ i j, i < 64 → j < 64 → A2 339 (64 * i + j) = A 339 (64 * r i + j)
def RP (G : mm_G) (m m2 : mm_Mem) (A : Nat → Nat → Int32) (r : Nat → Nat) : Prop := ∃ A2, m2 339 = aN G (A2 339) ∧ (∀ a, 340 ≤ a → a ≤ 345 → m2 a = aI G (A2 a)) ∧ (∀ a, (a < 339 ∨ 345 < a) → m2 a = m a) ∧ RX A A2 r
theorem sx_lt {p q i : Nat} (hp : p < 64) (hq : q < 64) (hi : i < 64) : sx p q i < 64 := by
  unfold sx
  split
  · exact hq
  · split
    · exact hp
    · exact hi
theorem cx_lt {p q i : Nat} (hp : p < 64) (hi : i < 64) : cx p q i < 64 := by
  unfold cx
  split
  · exact hp
  · exact hi
theorem MEn_rx {A A2 : Nat → Nat → Int32} {r : Nat → Nat} (h : RX A A2 r) {hf : Nat → Int32} {U i : Nat} {z : En} (hi : i < 64) (M : MEn A hf U (r i) z) : MEn A2 hf U i z := by
  obtain ⟨q1, q2, q3, q4, q5, q6, q7, g, q8, q9, qa⟩ := M
  exact ⟨(h.1 _ (by omega) (by omega) i hi).trans q1, q2, fun j hj => ⟨(h.2 i j hi (by omega)).trans (q3 j hj).1, (q3 j hj).2⟩, (h.1 _ (by omega) (by omega) i hi).trans q4, (h.1 _ (by omega) (by omega) i hi).trans q5, (h.1 _ (by omega) (by omega) i hi).trans q6, (h.1 _ (by omega) (by omega) i hi).trans q7, g, (h.1 _ (by omega) (by omega) i hi).trans q8, q9, qa⟩
theorem RX_tr {A A2 A3 : Nat → Nat → Int32} {r r2 r3 : Nat → Nat} (h : RX A A2 r) (h2 : RX A2 A3 r2) (hr : ∀ i, i < 64 → r2 i < 64) (e : ∀ i, i < 64 → r (r2 i) = r3 i) : RX A A3 r3 :=
  ⟨fun a q1 q2 i hi => by rw [h2.1 a q1 q2 i hi, h.1 a q1 q2 _ (hr i hi), e i hi], fun i j hi hj => by rw [h2.2 i j hi hj, h.2 _ j (hr i hi) hj, e i hi]⟩
section MO5
variable {l : Launch} {G : mm_G} {m : mm_Mem} {b : Nat} {S : St} {c0 : Int32} {hp ot : Nat} {x : Int32 × Int32 × Int64 × Int32 × Int32} {A : Nat → Nat → Int32} {hf : Nat → Int32} {fs : List Value}
theorem L_M_swap {p q : Nat} (hp : p < 64) (hq : q < 64) (hpq : p ≠ q) {c u tu k us9 : Int32} {t : Int32 × Int32 × Int32} {hh oo : Nat} (h1 : m 336 = .inr (8, ML hh oo c u tu k us9 t x)) (nm0 : Nat → Int32) {Q : mm_O → mm_Mem → Prop} (H : ∀ nm, (∀ i j, i < 64 → j < 64 → nm (64 * i + j) = nm0 (64 * sx p q i + j)) → mm_W l G k_M_swap 62 [(0, .ref 336), (1, .int (nI p)), (2, .int (nI q))] [] b (va_up m 339 (aN G nm)) Q) : ∀ w k nm, k + w = 64 → (∀ i j, i < 64 → j < 64 → nm (64 * i + j) = nm0 (64 * (if j < k then sx p q i else i) + j)) → mm_W l G k_M_swap 2 [(0, .ref 336), (1, .int (nI p)), (2, .int (nI q)), (3, .int (nI k))] [] b (va_up m 339 (aN G nm)) Q := by
  intro w
  induction w with
  | zero =>
    intro k nm hk hn
    have e : k = 64 := by omega
    subst e
    exact t_M_swap_2 (fun _ => H nm (fun i j hi hj => by rw [hn i j hi hj, if_pos hj])) (fun z => absurd (by decide) z)
  | succ w ih =>
    intro k nm hk hn
    refine t_M_swap_2 (fun z => absurd z (nI_ge (b := 64) (by omega) (by omega))) (fun _ => ?_)
    have e1 : (64 * nI p + nI k).toNatClampNeg = 64 * p + k := by rw [nI_64, nI_clamp (by omega)]
    have e2 : (64 * nI q + nI k).toNatClampNeg = 64 * q + k := by rw [nI_64, nI_clamp (by omega)]
    have v1 : vp_in (64 * nI p + nI k) 4096 := by rw [nI_64]; exact vp_in_nI (by omega) (by omega)
    have v2 : vp_in (64 * nI q + nI k) 4096 := by rw [nI_64]; exact vp_in_nI (by omega) (by omega)
    refine t_M_swap_8 ((up_n (by omega)).trans h1) (by omega) rfl up_s (by omega) v1 v2 v1 ((up_n (by omega)).trans ((up_n (by omega)).trans h1)) rfl up_s (by omega) v2 rfl ?_
    rw [nI_1, up_uu, up_uu, e1, e2]
    refine ih (k + 1) _ (by omega) (fun i j hi hj => ?_)
    by_cases z1 : i = q ∧ j = k
    · obtain ⟨rfl, rfl⟩ := z1
      rw [upd_s, hn p j hp hj, if_neg (by omega), if_pos (by omega)]
      congr 2
      unfold sx
      rw [if_neg (by omega), if_pos rfl]
    · rw [upd_n (by omega)]
      by_cases z2 : i = p ∧ j = k
      · obtain ⟨rfl, rfl⟩ := z2
        rw [upd_s, hn q j hq hj, if_neg (by omega), if_pos (by omega)]
        congr 2
        unfold sx
        rw [if_pos rfl]
      · rw [upd_n (by omega), hn i j hi hj]
        by_cases z3 : j < k
        · rw [if_pos z3, if_pos (by omega)]
        · rw [if_neg z3]
          by_cases z4 : j = k
          · rw [if_pos (by omega)]
            unfold sx
            rw [if_neg (by omega), if_neg (by omega)]
          · rw [if_neg (by omega)]
theorem s_M_swap {p q : Nat} (hp : p < 64) (hq : q < 64) (hpq : p ≠ q) {c u tu k us9 : Int32} {t : Int32 × Int32 × Int32} {hh oo : Nat} (h1 : m 336 = .inr (8, ML hh oo c u tu k us9 t x)) (n1 : m 339 = aN G (A 339)) (n2 : ∀ a, 340 ≤ a → a ≤ 345 → m a = aI G (A a)) : mm_W l G k_M_swap 0 (lv_args 0 [.ref 336, .int (nI p), .int (nI q)]) [] b m (fun v m2 => v = .inl none ∧ RP G m m2 A (sx p q)) := by
  have ep : (nI p).toNatClampNeg = p := nI_clamp (by omega)
  have eq : (nI q).toNatClampNeg = q := nI_clamp (by omega)
  have h0 := L_M_swap (l := l) (G := G) (b := b) hp hq hpq h1 (A 339) (Q := fun v m2 => v = .inl none ∧ RP G m m2 A (sx p q)) (fun nm hnm => ?_) 64 0 (A 339) (by omega) (fun i j hi hj => by rw [if_neg (by omega)])
  · rw [up_id n1] at h0
    exact t_M_swap_0 h0
  · have h1' : va_up m 339 (aN G nm) 336 = .inr (8, ML hh oo c u tu k us9 t x) := (up_n (by omega)).trans h1
    have n2' : ∀ a, 340 ≤ a → a ≤ 345 → va_up m 339 (aN G nm) a = aI G (A a) := fun a z1 z2 => (up_n (by omega)).trans (n2 a z1 z2)
    have n1' : va_up m 339 (aN G nm) 339 = aN G nm := up_s
    have nO : ∀ a, a ≠ 339 → va_up m 339 (aN G nm) a = m a := fun a z => up_n z
    generalize va_up m 339 (aN G nm) = m1 at h1' n2' n1' nO ⊢
    have key : ∀ {m : mm_Mem} (h1 : m 336 = .inr (8, ML hh oo c u tu k us9 t x)) (n2 : ∀ a, 340 ≤ a → a ≤ 345 → m a = aI G (A a)) {Q : mm_O → mm_Mem → Prop}, Q (.inl none) (va_up (va_up (va_up (va_up (va_up (va_up (va_up (va_up (va_up (va_up (va_up (va_up (m) 340 (aI G (upd (A 340) p (A 340 q)))) 340 (aI G (upd (upd (A 340) p (A 340 q)) q (A 340 p)))) 341 (aI G (upd (A 341) p (A 341 q)))) 341 (aI G (upd (upd (A 341) p (A 341 q)) q (A 341 p)))) 342 (aI G (upd (A 342) p (A 342 q)))) 342 (aI G (upd (upd (A 342) p (A 342 q)) q (A 342 p)))) 343 (aI G (upd (A 343) p (A 343 q)))) 343 (aI G (upd (upd (A 343) p (A 343 q)) q (A 343 p)))) 344 (aI G (upd (A 344) p (A 344 q)))) 344 (aI G (upd (upd (A 344) p (A 344 q)) q (A 344 p)))) 345 (aI G (upd (A 345) p (A 345 q)))) 345 (aI G (upd (upd (A 345) p (A 345 q)) q (A 345 p)))) → mm_W l G k_M_swap 62 [(0, .ref 336), (1, .int (nI p)), (2, .int (nI q))] [] b m Q := by
      intro m h1 n2 Q H
      refine t_M_swap_62 h1 (by omega) rfl (n2 340 (by omega) (by omega)) (by omega) (vp_in_nI (by omega) (by omega)) (vp_in_nI (by omega) (by omega)) (vp_in_nI (by omega) (by omega)) ((up_n (by omega)).trans (h1)) rfl up_s (by omega) (vp_in_nI (by omega) (by omega)) rfl ((up_n (by omega)).trans ((up_n (by omega)).trans (h1))) rfl ((up_n (by omega)).trans ((up_n (by omega)).trans (n2 341 (by omega) (by omega)))) (by omega) (vp_in_nI (by omega) (by omega)) (vp_in_nI (by omega) (by omega)) (vp_in_nI (by omega) (by omega)) ((up_n (by omega)).trans ((up_n (by omega)).trans ((up_n (by omega)).trans (h1)))) rfl up_s (by omega) (vp_in_nI (by omega) (by omega)) rfl ((up_n (by omega)).trans ((up_n (by omega)).trans ((up_n (by omega)).trans ((up_n (by omega)).trans (h1))))) rfl ((up_n (by omega)).trans ((up_n (by omega)).trans ((up_n (by omega)).trans ((up_n (by omega)).trans (n2 342 (by omega) (by omega)))))) (by omega) (vp_in_nI (by omega) (by omega)) (vp_in_nI (by omega) (by omega)) (vp_in_nI (by omega) (by omega)) ((up_n (by omega)).trans ((up_n (by omega)).trans ((up_n (by omega)).trans ((up_n (by omega)).trans ((up_n (by omega)).trans (h1)))))) rfl up_s (by omega) (vp_in_nI (by omega) (by omega)) rfl ((up_n (by omega)).trans ((up_n (by omega)).trans ((up_n (by omega)).trans ((up_n (by omega)).trans ((up_n (by omega)).trans ((up_n (by omega)).trans (h1))))))) rfl ((up_n (by omega)).trans ((up_n (by omega)).trans ((up_n (by omega)).trans ((up_n (by omega)).trans ((up_n (by omega)).trans ((up_n (by omega)).trans (n2 343 (by omega) (by omega)))))))) (by omega) (vp_in_nI (by omega) (by omega)) (vp_in_nI (by omega) (by omega)) (vp_in_nI (by omega) (by omega)) ((up_n (by omega)).trans ((up_n (by omega)).trans ((up_n (by omega)).trans ((up_n (by omega)).trans ((up_n (by omega)).trans ((up_n (by omega)).trans ((up_n (by omega)).trans (h1)))))))) rfl up_s (by omega) (vp_in_nI (by omega) (by omega)) rfl ((up_n (by omega)).trans ((up_n (by omega)).trans ((up_n (by omega)).trans ((up_n (by omega)).trans ((up_n (by omega)).trans ((up_n (by omega)).trans ((up_n (by omega)).trans ((up_n (by omega)).trans (h1))))))))) rfl ((up_n (by omega)).trans ((up_n (by omega)).trans ((up_n (by omega)).trans ((up_n (by omega)).trans ((up_n (by omega)).trans ((up_n (by omega)).trans ((up_n (by omega)).trans ((up_n (by omega)).trans (n2 344 (by omega) (by omega)))))))))) (by omega) (vp_in_nI (by omega) (by omega)) (vp_in_nI (by omega) (by omega)) (vp_in_nI (by omega) (by omega)) ((up_n (by omega)).trans ((up_n (by omega)).trans ((up_n (by omega)).trans ((up_n (by omega)).trans ((up_n (by omega)).trans ((up_n (by omega)).trans ((up_n (by omega)).trans ((up_n (by omega)).trans ((up_n (by omega)).trans (h1)))))))))) rfl up_s (by omega) (vp_in_nI (by omega) (by omega)) rfl ((up_n (by omega)).trans ((up_n (by omega)).trans ((up_n (by omega)).trans ((up_n (by omega)).trans ((up_n (by omega)).trans ((up_n (by omega)).trans ((up_n (by omega)).trans ((up_n (by omega)).trans ((up_n (by omega)).trans ((up_n (by omega)).trans (h1))))))))))) rfl ((up_n (by omega)).trans ((up_n (by omega)).trans ((up_n (by omega)).trans ((up_n (by omega)).trans ((up_n (by omega)).trans ((up_n (by omega)).trans ((up_n (by omega)).trans ((up_n (by omega)).trans ((up_n (by omega)).trans ((up_n (by omega)).trans (n2 345 (by omega) (by omega)))))))))))) (by omega) (vp_in_nI (by omega) (by omega)) (vp_in_nI (by omega) (by omega)) (vp_in_nI (by omega) (by omega)) ((up_n (by omega)).trans ((up_n (by omega)).trans ((up_n (by omega)).trans ((up_n (by omega)).trans ((up_n (by omega)).trans ((up_n (by omega)).trans ((up_n (by omega)).trans ((up_n (by omega)).trans ((up_n (by omega)).trans ((up_n (by omega)).trans ((up_n (by omega)).trans (h1)))))))))))) rfl up_s (by omega) (vp_in_nI (by omega) (by omega)) rfl ?_
      rw [ep, eq]
      exact H
    refine key h1' n2' ⟨rfl, fun a => if a = 339 then nm else upd (upd (A a) p (A a q)) q (A a p), ?_, fun a z1 z2 => ?_, fun a z => ?_, fun a z1 z2 i hi => ?_, fun i j hi hj => ?_⟩
    · exact ((up_n (by omega)).trans ((up_n (by omega)).trans ((up_n (by omega)).trans ((up_n (by omega)).trans ((up_n (by omega)).trans ((up_n (by omega)).trans ((up_n (by omega)).trans ((up_n (by omega)).trans ((up_n (by omega)).trans ((up_n (by omega)).trans ((up_n (by omega)).trans (up_n (by omega))))))))))))).trans n1'
    · show _ = aI G (if a = 339 then nm else upd (upd (A a) p (A a q)) q (A a p))
      rw [if_neg (by omega)]
      rcases (by omega : a = 340 ∨ a = 341 ∨ a = 342 ∨ a = 343 ∨ a = 344 ∨ a = 345) with rfl | rfl | rfl | rfl | rfl | rfl
      · exact (up_n (by omega)).trans ((up_n (by omega)).trans ((up_n (by omega)).trans ((up_n (by omega)).trans ((up_n (by omega)).trans ((up_n (by omega)).trans ((up_n (by omega)).trans ((up_n (by omega)).trans ((up_n (by omega)).trans ((up_n (by omega)).trans (up_s))))))))))
      · exact (up_n (by omega)).trans ((up_n (by omega)).trans ((up_n (by omega)).trans ((up_n (by omega)).trans ((up_n (by omega)).trans ((up_n (by omega)).trans ((up_n (by omega)).trans ((up_n (by omega)).trans (up_s))))))))
      · exact (up_n (by omega)).trans ((up_n (by omega)).trans ((up_n (by omega)).trans ((up_n (by omega)).trans ((up_n (by omega)).trans ((up_n (by omega)).trans (up_s))))))
      · exact (up_n (by omega)).trans ((up_n (by omega)).trans ((up_n (by omega)).trans ((up_n (by omega)).trans (up_s))))
      · exact (up_n (by omega)).trans ((up_n (by omega)).trans (up_s))
      · exact up_s
    · exact ((up_n (by omega)).trans ((up_n (by omega)).trans ((up_n (by omega)).trans ((up_n (by omega)).trans ((up_n (by omega)).trans ((up_n (by omega)).trans ((up_n (by omega)).trans ((up_n (by omega)).trans ((up_n (by omega)).trans ((up_n (by omega)).trans ((up_n (by omega)).trans (up_n (by omega))))))))))))).trans (nO a (by omega))
    · show (if a = 339 then nm else upd (upd (A a) p (A a q)) q (A a p)) i = _
      rw [if_neg (by omega)]
      unfold sx
      by_cases z3 : i = p
      · rw [if_pos z3, upd_n (by omega), z3, upd_s]
      · rw [if_neg z3]
        by_cases z4 : i = q
        · rw [if_pos z4, z4, upd_s]
        · rw [if_neg z4, upd_n z4, upd_n z3]
    · exact hnm i j hi hj
theorem L_M_copy {p q : Nat} (hp : p < 64) (hq : q < 64) (hpq : p ≠ q) {c u tu k us9 : Int32} {t : Int32 × Int32 × Int32} {hh oo : Nat} (h1 : m 336 = .inr (8, ML hh oo c u tu k us9 t x)) (nm0 : Nat → Int32) {Q : mm_O → mm_Mem → Prop} (H : ∀ nm, (∀ i j, i < 64 → j < 64 → nm (64 * i + j) = nm0 (64 * cx p q i + j)) → mm_W l G k_M_copy 36 [(0, .ref 336), (1, .int (nI p)), (2, .int (nI q))] [] b (va_up m 339 (aN G nm)) Q) : ∀ w k nm, k + w = 64 → (∀ i j, i < 64 → j < 64 → nm (64 * i + j) = nm0 (64 * (if j < k then cx p q i else i) + j)) → mm_W l G k_M_copy 2 [(0, .ref 336), (1, .int (nI p)), (2, .int (nI q)), (3, .int (nI k))] [] b (va_up m 339 (aN G nm)) Q := by
  intro w
  induction w with
  | zero =>
    intro k nm hk hn
    have e : k = 64 := by omega
    subst e
    exact t_M_copy_2 (fun _ => H nm (fun i j hi hj => by rw [hn i j hi hj, if_pos hj])) (fun z => absurd (by decide) z)
  | succ w ih =>
    intro k nm hk hn
    refine t_M_copy_2 (fun z => absurd z (nI_ge (b := 64) (by omega) (by omega))) (fun _ => ?_)
    have e1 : (64 * nI p + nI k).toNatClampNeg = 64 * p + k := by rw [nI_64, nI_clamp (by omega)]
    have e2 : (64 * nI q + nI k).toNatClampNeg = 64 * q + k := by rw [nI_64, nI_clamp (by omega)]
    have v1 : vp_in (64 * nI p + nI k) 4096 := by rw [nI_64]; exact vp_in_nI (by omega) (by omega)
    have v2 : vp_in (64 * nI q + nI k) 4096 := by rw [nI_64]; exact vp_in_nI (by omega) (by omega)
    refine t_M_copy_8 ((up_n (by omega)).trans h1) (by omega) rfl up_s (by omega) v1 v2 ?_
    rw [nI_1, up_uu, e1, e2]
    refine ih (k + 1) _ (by omega) (fun i j hi hj => ?_)
    by_cases z1 : i = q ∧ j = k
    · obtain ⟨rfl, rfl⟩ := z1
      rw [upd_s, hn p j hp hj, if_neg (by omega), if_pos (by omega)]
      congr 2
      unfold cx
      rw [if_pos rfl]
    · rw [upd_n (by omega), hn i j hi hj]
      by_cases z3 : j < k
      · rw [if_pos z3, if_pos (by omega)]
      · rw [if_neg z3]
        by_cases z4 : j = k
        · rw [if_pos (by omega)]
          unfold cx
          rw [if_neg (by omega)]
        · rw [if_neg (by omega)]
theorem s_M_copy {p q : Nat} (hp : p < 64) (hq : q < 64) (hpq : p ≠ q) {c u tu k us9 : Int32} {t : Int32 × Int32 × Int32} {hh oo : Nat} (h1 : m 336 = .inr (8, ML hh oo c u tu k us9 t x)) (n1 : m 339 = aN G (A 339)) (n2 : ∀ a, 340 ≤ a → a ≤ 345 → m a = aI G (A a)) : mm_W l G k_M_copy 0 (lv_args 0 [.ref 336, .int (nI p), .int (nI q)]) [] b m (fun v m2 => v = .inl none ∧ RP G m m2 A (cx p q)) := by
  have ep : (nI p).toNatClampNeg = p := nI_clamp (by omega)
  have eq : (nI q).toNatClampNeg = q := nI_clamp (by omega)
  have h0 := L_M_copy (l := l) (G := G) (b := b) hp hq hpq h1 (A 339) (Q := fun v m2 => v = .inl none ∧ RP G m m2 A (cx p q)) (fun nm hnm => ?_) 64 0 (A 339) (by omega) (fun i j hi hj => by rw [if_neg (by omega)])
  · rw [up_id n1] at h0
    exact t_M_copy_0 h0
  · have h1' : va_up m 339 (aN G nm) 336 = .inr (8, ML hh oo c u tu k us9 t x) := (up_n (by omega)).trans h1
    have n2' : ∀ a, 340 ≤ a → a ≤ 345 → va_up m 339 (aN G nm) a = aI G (A a) := fun a z1 z2 => (up_n (by omega)).trans (n2 a z1 z2)
    have n1' : va_up m 339 (aN G nm) 339 = aN G nm := up_s
    have nO : ∀ a, a ≠ 339 → va_up m 339 (aN G nm) a = m a := fun a z => up_n z
    generalize va_up m 339 (aN G nm) = m1 at h1' n2' n1' nO ⊢
    have key : ∀ {m : mm_Mem} (h1 : m 336 = .inr (8, ML hh oo c u tu k us9 t x)) (n2 : ∀ a, 340 ≤ a → a ≤ 345 → m a = aI G (A a)) {Q : mm_O → mm_Mem → Prop}, Q (.inl none) (va_up (va_up (va_up (va_up (va_up (va_up (m) 340 (aI G (upd (A 340) q (A 340 p)))) 341 (aI G (upd (A 341) q (A 341 p)))) 342 (aI G (upd (A 342) q (A 342 p)))) 343 (aI G (upd (A 343) q (A 343 p)))) 344 (aI G (upd (A 344) q (A 344 p)))) 345 (aI G (upd (A 345) q (A 345 p)))) → mm_W l G k_M_copy 36 [(0, .ref 336), (1, .int (nI p)), (2, .int (nI q))] [] b m Q := by
      intro m h1 n2 Q H
      refine t_M_copy_36 h1 (by omega) rfl (n2 340 (by omega) (by omega)) (by omega) (vp_in_nI (by omega) (by omega)) (vp_in_nI (by omega) (by omega)) ((up_n (by omega)).trans (h1)) rfl ((up_n (by omega)).trans (n2 341 (by omega) (by omega))) (by omega) (vp_in_nI (by omega) (by omega)) (vp_in_nI (by omega) (by omega)) rfl ((up_n (by omega)).trans ((up_n (by omega)).trans (h1))) rfl ((up_n (by omega)).trans ((up_n (by omega)).trans (n2 342 (by omega) (by omega)))) (by omega) (vp_in_nI (by omega) (by omega)) (vp_in_nI (by omega) (by omega)) ((up_n (by omega)).trans ((up_n (by omega)).trans ((up_n (by omega)).trans (h1)))) rfl ((up_n (by omega)).trans ((up_n (by omega)).trans ((up_n (by omega)).trans (n2 343 (by omega) (by omega))))) (by omega) (vp_in_nI (by omega) (by omega)) (vp_in_nI (by omega) (by omega)) rfl ((up_n (by omega)).trans ((up_n (by omega)).trans ((up_n (by omega)).trans ((up_n (by omega)).trans (h1))))) rfl ((up_n (by omega)).trans ((up_n (by omega)).trans ((up_n (by omega)).trans ((up_n (by omega)).trans (n2 344 (by omega) (by omega)))))) (by omega) (vp_in_nI (by omega) (by omega)) (vp_in_nI (by omega) (by omega)) ((up_n (by omega)).trans ((up_n (by omega)).trans ((up_n (by omega)).trans ((up_n (by omega)).trans ((up_n (by omega)).trans (h1)))))) rfl ((up_n (by omega)).trans ((up_n (by omega)).trans ((up_n (by omega)).trans ((up_n (by omega)).trans ((up_n (by omega)).trans (n2 345 (by omega) (by omega))))))) (by omega) (vp_in_nI (by omega) (by omega)) (vp_in_nI (by omega) (by omega)) rfl ?_
      rw [ep, eq]
      exact H
    refine key h1' n2' ⟨rfl, fun a => if a = 339 then nm else upd (A a) q (A a p), ?_, fun a z1 z2 => ?_, fun a z => ?_, fun a z1 z2 i hi => ?_, fun i j hi hj => ?_⟩
    · exact ((up_n (by omega)).trans ((up_n (by omega)).trans ((up_n (by omega)).trans ((up_n (by omega)).trans ((up_n (by omega)).trans (up_n (by omega))))))).trans n1'
    · show _ = aI G (if a = 339 then nm else upd (A a) q (A a p))
      rw [if_neg (by omega)]
      rcases (by omega : a = 340 ∨ a = 341 ∨ a = 342 ∨ a = 343 ∨ a = 344 ∨ a = 345) with rfl | rfl | rfl | rfl | rfl | rfl
      · exact (up_n (by omega)).trans ((up_n (by omega)).trans ((up_n (by omega)).trans ((up_n (by omega)).trans ((up_n (by omega)).trans (up_s)))))
      · exact (up_n (by omega)).trans ((up_n (by omega)).trans ((up_n (by omega)).trans ((up_n (by omega)).trans (up_s))))
      · exact (up_n (by omega)).trans ((up_n (by omega)).trans ((up_n (by omega)).trans (up_s)))
      · exact (up_n (by omega)).trans ((up_n (by omega)).trans (up_s))
      · exact (up_n (by omega)).trans (up_s)
      · exact up_s
    · exact ((up_n (by omega)).trans ((up_n (by omega)).trans ((up_n (by omega)).trans ((up_n (by omega)).trans ((up_n (by omega)).trans (up_n (by omega))))))).trans (nO a (by omega))
    · show (if a = 339 then nm else upd (A a) q (A a p)) i = _
      rw [if_neg (by omega)]
      unfold cx
      by_cases z3 : i = q
      · rw [if_pos z3, z3, upd_s]
      · rw [if_neg z3, upd_n z3]
    · exact hnm i j hi hj
end MO5
