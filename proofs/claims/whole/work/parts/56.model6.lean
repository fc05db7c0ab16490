/-! the model's methods: remove, move, going on -/
theorem mi_up {e a i : Nat} (h : e ≤ a) : mi e a (sx a (a + 1) i) = mi e (a + 1) i := by
  unfold mi mv sx
  dsimp only
  repeat' split
  all_goals omega
theorem mi_dn {e a i : Nat} (h : a + 1 ≤ e) : mi e (a + 1) (sx (a + 1) a i) = mi e a i := by
  unfold mi mv sx
  dsimp only
  repeat' split
  all_goals omega
theorem mi_self {e i : Nat} : mi e e i = i := by
  unfold mi mv
  dsimp only
  repeat' split
  all_goals omega
theorem mvu_cx {e k i : Nat} (h : e ≤ k) : mvu (fun j => j) e k (cx (k + 1) k i) = mvu (fun j => j) e (k + 1) i := by
  unfold mvu cx
  dsimp only
  repeat' split
  all_goals omega
theorem cat_at {h : Nat → List Int32} {g : Nat → Nat} (hg : ∀ i, (h i).length = g i) {i j : Nat} (hj : j < g i) : ∀ k, i < k → (cat h k).getD (sum g i + j) 0 = (h i).getD j 0 := by
  intro k
  induction k with
  | zero => intro hi; omega
  | succ k ih =>
    intro hi
    have hl := cat_len h g hg k
    rw [List.getD_eq_getElem?_getD]
    show ((cat h k ++ h k)[sum g i + j]?).getD 0 = _
    by_cases q : i = k
    · subst q
      rw [List.getElem?_append_right (by omega), hl, Nat.add_sub_cancel_left, List.getD_eq_getElem?_getD]
    · have h1 := sum_le g (show i + 1 ≤ k by omega)
      have h2 : sum g (i + 1) = sum g i + g i := rfl
      rw [List.getElem?_append_left (by omega), ← List.getD_eq_getElem?_getD]
      exact ih (by omega)
theorem app_get {f : Nat → Int32} {k j : Nat} {xs : List Int32} (h : j < xs.length) : app f k xs (k + j) = xs.getD j 0 := by
  unfold app
  rw [if_pos (by omega)]
  congr 1
  omega
theorem seg_get {f : Nat → Int32} {s n j : Nat} (h : j < n) : (seg f s n).getD j 0 = f (s + j) := by
  unfold seg
  rw [List.getD_eq_getElem?_getD, List.getElem?_map, List.getElem?_range h]
  rfl
section MO6
variable {l : Launch} {G : mm_G} {m : mm_Mem} {b : Nat} {S : St} {c0 : Int32} {hp ot : Nat} {x : Int32 × Int32 × Int64 × Int32 × Int32} {A : Nat → Nat → Int32} {hf : Nat → Int32}
/-- a new order of the entries -/
theorem MW_rx {m2 : mm_Mem} (W : MW G m S c0 hp ot x A hf) {r : Nat → Nat} {E : Nat → En} (R : RP G m m2 A r) (hE : ∀ i, i < S.2.2.1.1 → r i < S.2.2.1.1 ∧ E i = S.2.2.1.2 (r i)) (hs : sum (fun i => (E i).2.1.2) S.2.2.1.1 = us S) : MP G m2 (S.1, S.2.1, (S.2.2.1.1, E), S.2.2.2) c0 := by
  obtain ⟨h1, h2, h3, ⟨n1, n2, n3, ⟨g, n4⟩, n5, n6⟩, hB, hS⟩ := W
  obtain ⟨A2, a1, a2, a3, a4⟩ := R
  have hsw : 346 ≤ hp ∧ hp ≤ 347 ∧ 346 ≤ ot ∧ ot ≤ 347 ∧ hp ≠ ot := by unfold sw at n6; omega
  have hu : us (S.1, S.2.1, (S.2.2.1.1, E), S.2.2.2) = us S := hs
  refine ⟨hp, ot, x, A2, hf, ?_, (a3 _ (by omega)).trans h2, (a3 _ (by omega)).trans h3, ⟨a1, a2, (a3 _ (by omega)).trans n3, ⟨g, (a3 _ (by omega)).trans n4.1, n4.2⟩, SC_eq n5 (fun a q1 q2 => a3 a (by omega)), n6⟩, ⟨fun i hi => ?_, hB.2.1, by rw [hu]; exact hB.2.2.1, hB.2.2.2⟩, hS⟩
  · rw [hu]
    exact (a3 _ (by omega)).trans h1
  · have hi : i < S.2.2.1.1 := hi
    obtain ⟨e1, e2⟩ := hE i hi
    rw [hu]
    show MEn A2 hf (us S) i (E i)
    rw [e2]
    exact MEn_rx a4 (by have := hB.2.1; omega) (hB.1 _ e1)
theorem RP_self (W : MW G m S c0 hp ot x A hf) {r : Nat → Nat} (hr : ∀ i, i < 64 → r i = i) : RP G m m A r := ⟨A, W.2.2.2.1.1, W.2.2.2.1.2.1, fun _ _ => rfl, fun a _ _ i hi => by rw [hr i hi], fun i j hi _ => by rw [hr i hi]⟩
theorem m_move (h : MP G m S c0) (y w : Int32) : MO l G k_M_move [.int y, .int w] b m true (o_move S y w) := by
  obtain ⟨hp, ot, x, A, hf, W⟩ := h
  have hk := W.2.2.2.2.1.2.1
  have hno : ¬ (hs y S.2.2.1.1 ∧ hs w S.2.2.1.1) → mm_W l G k_M_move 17 [(0, .ref 336), (1, .int y), (2, .int w)] [.ref 336] b m (fun v m2 => v = .inl none ∧ FR 336 352 m m2 ∧ MP G m2 (o_move S y w).2.2 (nI (o_move S y w).1)) := by
    intro q
    have hr : o_move S y w = (1, 0, S) := if_neg q
    rw [hr]
    exact t_M_move_17 (t_M_move_22 W.1 (by omega) (Nat.le_of_ble_eq_true rfl) up_s (by omega) rfl (fun z => absurd z (by decide)) (fun _ => t_M_move_32 ⟨rfl, MO_c W 1⟩))
  refine t_M_move_0 (Nat.le_of_eq (Nat.zero_add _)) W.1 (by omega) (s_M_noEntry W y) (fun z => hno (fun q => bp_n0 z q.1)) (fun z => ?_)
  have z := Classical.not_not.mp (bp_0.mp z)
  refine t_M_move_9 (Nat.le_of_eq (Nat.zero_add _)) W.1 (by omega) (s_M_noEntry W w) (fun z1 => ?_) (fun z1 => hno (fun q => bp_n0 z1 q.2))
  have z1 := Classical.not_not.mp (bp_0.mp z1)
  have hr : o_move S y w = (0, 0, S.1, S.2.1, (S.2.2.1.1, mv S.2.2.1.2 y.toNatClampNeg w.toNatClampNeg), S.2.2.2) := if_pos ⟨z, z1⟩
  rw [hr]
  obtain ⟨e, he, rfl⟩ := hs_nat (by omega) z
  obtain ⟨t, ht, rfl⟩ := hs_nat (by omega) z1
  rw [nI_clamp (by omega), nI_clamp (by omega)]
  have W1 : MW G _ S 0 hp ot x A hf := MW_h W 0 S.2.2.2 x
  have F1 : FR 336 352 m (va_up m 336 (.inr (8, ML hp ot 0 (nI S.1.2) (nI S.2.1.2) (nI S.2.2.1.1) (nI (us S)) S.2.2.2 x))) := FR_up (by omega) (by omega)
  refine t_M_move_21 (t_M_move_22 W.1 (by omega) (Nat.le_of_ble_eq_true rfl) up_s (by omega) rfl (fun _ => t_M_move_33 ?_) (fun z => absurd (by decide) z))
  have e0 : (ML hp ot c0 (nI S.1.2) (nI S.2.1.2) (nI S.2.2.1.1) (nI (us S)) S.2.2.2 x).set 0 (.int 0) = ML hp ot 0 (nI S.1.2) (nI S.2.1.2) (nI S.2.2.1.1) (nI (us S)) S.2.2.2 x := rfl
  rw [e0]
  generalize va_up m 336 (.inr (8, ML hp ot 0 (nI S.1.2) (nI S.2.1.2) (nI S.2.2.1.1) (nI (us S)) S.2.2.2 x)) = m1 at W1 F1 ⊢
  have hend : ∀ m2, RP G m1 m2 A (mi e t) → FR 336 352 m m2 ∧ MP G m2 (S.1, S.2.1, (S.2.2.1.1, mv S.2.2.1.2 e t), S.2.2.2) 0 := by
    intro m2 R
    refine ⟨fun a ha => (R.choose_spec.2.2.1 a (by omega)).trans (F1 a ha), ?_⟩
    refine MW_rx W1 R (fun i hi => ⟨mi_lt he ht hi, mv_mi _ _ _ _⟩) ?_
    show sum (fun i => (mv S.2.2.1.2 e t i).2.1.2) S.2.2.1.1 = sum (fun i => (S.2.2.1.2 i).2.1.2) S.2.2.1.1
    rw [← sum_mv (fun i => (S.2.2.1.2 i).2.1.2) he ht]
    exact sum_eq (fun i _ => mv_map (fun z : En => z.2.1.2) _ _ _ _)
  have hstep : ∀ (a n : Nat) (m2 : mm_Mem) (r : Nat → Nat), a < 64 → n < 64 → a ≠ n → RP G m1 m2 A (mi e a) → (∀ i, mi e a (sx a n i) = mi e n i) → (∀ m3, RP G m1 m3 A (mi e n) → mm_W l G k_M_move 35 [(0, .ref 336), (2, .int (nI t)), (3, .int (nI n))] [] b m3 (fun v m2 => v = .inl none ∧ FR 336 352 m m2 ∧ MP G m2 (S.1, S.2.1, (S.2.2.1.1, mv S.2.2.1.2 e t), S.2.2.2) 0)) → mm_W l G k_M_move 54 [(0, .ref 336), (2, .int (nI t)), (3, .int (nI a))] [.int (nI n)] b m2 (fun v m2 => v = .inl none ∧ FR 336 352 m m2 ∧ MP G m2 (S.1, S.2.1, (S.2.2.1.1, mv S.2.2.1.2 e t), S.2.2.2) 0) := by
    intro a n m2 r ha hn hne R hr H
    obtain ⟨A2, a1, a2, a3, a4⟩ := R
    refine t_M_move_54 (Nat.le_of_eq (Nat.zero_add _)) ((a3 _ (by omega)).trans W1.1) (by omega) (s_M_swap ha hn hne ((a3 _ (by omega)).trans W1.1) a1 a2) (fun E n hn => ?_) (fun v m3 hn2 => ?_)
    · cases hn.1
    · obtain ⟨e1, A3, b1, b2, b3, b4⟩ := hn2
      exact ⟨by cases e1; rfl, t_M_move_63 (H m3 ⟨A3, b1, b2, fun q hq => (b3 q hq).trans (a3 q hq), RX_tr a4 b4 (fun i hi => sx_lt ha hn hi) (fun i _ => hr i)⟩)⟩
  have hup : ∀ w a m2, a + w = t → e ≤ a → RP G m1 m2 A (mi e a) → mm_W l G k_M_move 35 [(0, .ref 336), (2, .int (nI t)), (3, .int (nI a))] [] b m2 (fun v m2 => v = .inl none ∧ FR 336 352 m m2 ∧ MP G m2 (S.1, S.2.1, (S.2.2.1.1, mv S.2.2.1.2 e t), S.2.2.2) 0) := by
    intro w
    induction w with
    | zero =>
      intro a m2 ha hea R
      have e1 : a = t := by omega
      subst e1
      exact t_M_move_35 (fun _ => t_M_move_69 ⟨rfl, hend m2 R⟩) (fun z => absurd rfl z)
    | succ w ih =>
      intro a m2 ha hea R
      refine t_M_move_35 (fun z => absurd ((nI_eq (by omega) (by omega)).mp z) (by omega)) (fun _ => t_M_move_40 (fun z => absurd z (nI_ge (by omega) (by omega))) (fun _ => t_M_move_45 ?_))
      rw [nI_1]
      exact hstep a (a + 1) m2 (fun i => i) (by omega) (by omega) (by omega) R (fun i => mi_up hea) (fun m3 R3 => ih (a + 1) m3 (by omega) (by omega) R3)
  have hdn : ∀ w a m2, t + w = a → a ≤ e → RP G m1 m2 A (mi e a) → mm_W l G k_M_move 35 [(0, .ref 336), (2, .int (nI t)), (3, .int (nI a))] [] b m2 (fun v m2 => v = .inl none ∧ FR 336 352 m m2 ∧ MP G m2 (S.1, S.2.1, (S.2.2.1.1, mv S.2.2.1.2 e t), S.2.2.2) 0) := by
    intro w
    induction w with
    | zero =>
      intro a m2 ha hea R
      have e1 : a = t := by omega
      subst e1
      exact t_M_move_35 (fun _ => t_M_move_69 ⟨rfl, hend m2 R⟩) (fun z => absurd rfl z)
    | succ w ih =>
      intro a m2 ha hea R
      obtain ⟨a, rfl⟩ : ∃ q, a = q + 1 := ⟨a - 1, by omega⟩
      refine t_M_move_35 (fun z => absurd ((nI_eq (by omega) (by omega)).mp z) (by omega)) (fun _ => t_M_move_40 (fun _ => t_M_move_51 ?_) (fun z => absurd (nI_le (by omega) (by omega)) z))
      rw [nI_pred]
      exact hstep (a + 1) a m2 (fun i => i) (by omega) (by omega) (by omega) R (fun i => mi_dn hea) (fun m3 R3 => ih a m3 (by omega) (by omega) R3)
  have R0 : RP G m1 m1 A (mi e e) := RP_self W1 (fun i _ => mi_self)
  by_cases q : e ≤ t
  · exact hup (t - e) e m1 (by omega) (Nat.le_refl _) R0
  · exact hdn (e - t) e m1 (by omega) (Nat.le_refl _) R0
theorem s_M_gather {K : Nat} (hK : K ≤ 64) {c u tu us9 : Int32} {t : Int32 × Int32 × Int32} {B L g : Nat → Int32} {bg bc : Nat → Nat} (h1 : m 336 = .inr (8, ML hp ot c u tu (nI K) us9 t x)) (n42 : m 342 = aI G B) (hB : ∀ i, i < K → B i = nI (bg i)) (n43 : m 343 = aI G L) (hL : ∀ i, i < K → L i = nI (bc i)) (hhp : m hp = aB G hf) (hot : m ot = aB G g) (hsw : sw hp ot) (hb : ∀ i, i < K → bg i + bc i ≤ 65536) (hs : sum bc K ≤ 65536) (hok : okf hf) : mm_W l G k_M_gather 0 (lv_args 0 [.ref 336]) [] b m (fun v m2 => v = .inl none ∧ m2 336 = .inr (8, ML ot hp c u tu (nI K) (nI (sum bc K)) t x) ∧ (∃ B2, m2 342 = aI G B2 ∧ ∀ i, i < K → B2 i = nI (sum bc i)) ∧ m2 ot = aB G (app g 0 (cat (fun i => seg hf (bg i) (bc i)) K)) ∧ ∀ a, a ≠ 336 → a ≠ 342 → a ≠ ot → m2 a = m a) := by
  have hsw : 346 ≤ hp ∧ hp ≤ 347 ∧ 346 ≤ ot ∧ ot ≤ 347 ∧ hp ≠ ot := by unfold sw at hsw; omega
  have hlen : ∀ i, (cat (fun i => seg hf (bg i) (bc i)) i).length = sum bc i := cat_len _ _ (fun i => seg_len _ _ _)
  have L1 : ∀ w i m2 B2, i + w = K → m2 342 = aI G B2 → (∀ j, j < i → B2 j = nI (sum bc j)) → (∀ j, i ≤ j → j < K → B2 j = nI (bg j)) → m2 ot = aB G (app g 0 (cat (fun i => seg hf (bg i) (bc i)) i)) → (∀ a, a ≠ 342 → a ≠ ot → m2 a = m a) → mm_W l G k_M_gather 4 [(0, .ref 336), (1, .int (nI (sum bc i))), (2, .int (nI i))] [] b m2 (fun v m2 => v = .inl none ∧ m2 336 = .inr (8, ML ot hp c u tu (nI K) (nI (sum bc K)) t x) ∧ (∃ B2, m2 342 = aI G B2 ∧ ∀ i, i < K → B2 i = nI (sum bc i)) ∧ m2 ot = aB G (app g 0 (cat (fun i => seg hf (bg i) (bc i)) K)) ∧ ∀ a, a ≠ 336 → a ≠ 342 → a ≠ ot → m2 a = m a) := by
    intro w
    induction w with
    | zero =>
      intro i m2 B2 hi e42 b1 b2 eot eO
      have e : i = K := by omega
      subst e
      have e336 := (eO 336 (by omega) (by omega)).trans h1
      refine t_M_gather_4 e336 (by omega) rfl (fun _ => t_M_gather_73 e336 (by omega) rfl rfl (Nat.le_of_ble_eq_true rfl) up_s (Nat.le_of_ble_eq_true rfl) up_s (Nat.le_of_ble_eq_true rfl) ⟨rfl, ?_, ⟨B2, ?_, b1⟩, ?_, ?_⟩) (fun z => absurd (nI_le (Nat.le_refl _) (by omega)) z)
      · rw [up_s]
        rfl
      · rw [up_n (by omega), up_n (by omega), up_n (by omega)]
        exact e42
      · rw [up_n (by omega), up_n (by omega), up_n (by omega)]
        exact eot
      · intro a q1 q2 q3
        rw [up_n q1, up_n q1, up_n q1]
        exact eO a q2 q3
    | succ w ih =>
      intro i m2 B2 hi e42 b1 b2 eot eO
      have e336 := (eO 336 (by omega) (by omega)).trans h1
      have e43 := (eO 343 (by omega) (by omega)).trans n43
      have ehp := (eO hp (by omega) (by omega)).trans hhp
      refine t_M_gather_4 e336 (by omega) rfl (fun z => absurd z (nI_ge (by omega) (by omega))) (fun _ => t_M_gather_12 ?_)
      have ec : (nI i).toNatClampNeg = i := nI_clamp (by omega)
      have hsi := sum_le bc (show i + 1 ≤ K by omega)
      have hs2 : sum bc (i + 1) = sum bc i + bc i := rfl
      have hbi := hb i (by omega)
      have L2 : ∀ w k m3, k + w = bc i → m3 ot = aB G (app g 0 (cat (fun i => seg hf (bg i) (bc i)) i ++ seg hf (bg i) k)) → (∀ a, a ≠ ot → m3 a = m2 a) → mm_W l G k_M_gather 14 [(0, .ref 336), (1, .int (nI (sum bc i))), (2, .int (nI i)), (3, .int (nI k))] [] b m3 (fun v m2 => v = .inl none ∧ m2 336 = .inr (8, ML ot hp c u tu (nI K) (nI (sum bc K)) t x) ∧ (∃ B2, m2 342 = aI G B2 ∧ ∀ i, i < K → B2 i = nI (sum bc i)) ∧ m2 ot = aB G (app g 0 (cat (fun i => seg hf (bg i) (bc i)) K)) ∧ ∀ a, a ≠ 336 → a ≠ 342 → a ≠ ot → m2 a = m a) := by
        intro w
        induction w with
        | zero =>
          intro k m3 hk f1 f2
          have e : k = bc i := by omega
          subst e
          have g336 := (f2 336 (by omega)).trans e336
          have g343 := (f2 343 (by omega)).trans e43
          have g342 := (f2 342 (by omega)).trans e42
          refine t_M_gather_14 g336 (by omega) rfl g343 (by omega) (vp_in_nI (by omega) (by omega)) (fun _ => ?_) (fun z => absurd ?_ z)
          · refine t_M_gather_51 g336 (by omega) rfl g342 (by omega) (vp_in_nI (by omega) (by omega)) ((up_n (by omega)).trans g336) rfl ((up_n (by omega)).trans g343) (by omega) (vp_in_nI (by omega) (by omega)) ?_
            rw [ec, hL i (by omega), nI_add, nI_1, ← hs2]
            refine ih (i + 1) _ (upd B2 i (nI (sum bc i))) (by omega) up_s (fun j hj => ?_) (fun j hj1 hj2 => ?_) ((up_n (by omega)).trans f1) (fun a q1 q2 => (up_n q1).trans ((f2 a q2).trans (eO a q1 q2)))
            · by_cases q : j = i
              · rw [q, upd_s]
              · rw [upd_n q]
                exact b1 j (by omega)
            · rw [upd_n (by omega)]
              exact b2 j (by omega) hj2
          · rw [ec, hL i (by omega)]
            exact nI_le (Nat.le_refl _) (by omega)
        | succ w ih2 =>
          intro k m3 hk f1 f2
          have g336 := (f2 336 (by omega)).trans e336
          have g343 := (f2 343 (by omega)).trans e43
          have g342 := (f2 342 (by omega)).trans e42
          have ghp := (f2 hp (by omega)).trans ehp
          have eB : B2 (nI i).toNatClampNeg = nI (bg i) := by rw [ec]; exact b2 i (Nat.le_refl _) (by omega)
          refine t_M_gather_14 g336 (by omega) rfl g343 (by omega) (vp_in_nI (by omega) (by omega)) (fun z => absurd z ?_) (fun _ => ?_)
          · rw [ec, hL i (by omega)]
            exact nI_ge (by omega) (by omega)
          · refine t_M_gather_24 g336 (by omega) rfl rfl rfl g342 (by omega) (vp_in_nI (by omega) (by omega)) ghp (by omega) (by rw [eB, nI_add]; exact vp_in_nI (by omega) (by omega)) f1 (by omega) (by rw [nI_add]; exact vp_in_nI (by omega) (by omega)) ?_
            rw [eB, nI_add, nI_add, nI_1, nI_clamp (by omega), nI_clamp (by omega), vp_nar_byte, hok]
            refine ih2 (k + 1) _ (by omega) ?_ (fun a q => (up_n q).trans (f2 a q))
            rw [up_s, seg_succ, ← List.append_assoc, ← app_snoc, Nat.zero_add, List.length_append, hlen, seg_len]
      refine L2 (bc i) 0 m2 (by omega) ?_ (fun _ _ => rfl)
      rw [show seg hf (bg i) 0 = [] from rfl, List.append_nil]
      exact eot
  refine t_M_gather_0 (L1 K 0 m B (by omega) n42 (fun j hj => absurd hj (by omega)) (fun j _ hj => hB j hj) ?_ (fun _ _ _ => rfl))
  show m ot = aB G (app g 0 [])
  rw [app_nil]
  exact hot
theorem m_remove (h : MP G m S c0) (y : Int32) : MO l G k_M_remove [.int y] b m true (o_remove S y) := by
  obtain ⟨hp, ot, x, A, hf, W⟩ := h
  have hk := W.2.2.2.2.1.2.1
  refine t_M_remove_0 (Nat.le_of_eq (Nat.zero_add _)) W.1 (by omega) (s_M_noEntry W y) (fun z => ?_) (fun z => ?_)
  · have z := Classical.not_not.mp (bp_0.mp z)
    have hr : o_remove S y = (0, 0, S.1, S.2.1, (S.2.2.1.1 - 1, dl S.2.2.1.2 y.toNatClampNeg), S.2.2.2) := if_pos z
    rw [hr]
    obtain ⟨e, he, rfl⟩ := hs_nat (by omega) z
    rw [nI_clamp (by omega)]
    have W1 : MW G _ S 0 hp ot x A hf := MW_h W 0 S.2.2.2 x
    have F1 : FR 336 352 m (va_up m 336 (.inr (8, ML hp ot 0 (nI S.1.2) (nI S.2.1.2) (nI S.2.2.1.1) (nI (us S)) S.2.2.2 x))) := FR_up (by omega) (by omega)
    refine t_M_remove_13 (t_M_remove_14 W.1 (by omega) (Nat.le_of_ble_eq_true rfl) up_s (by omega) rfl (fun _ => t_M_remove_25 ?_) (fun z => absurd (by decide) z))
    have e0 : (ML hp ot c0 (nI S.1.2) (nI S.2.1.2) (nI S.2.2.1.1) (nI (us S)) S.2.2.2 x).set 0 (.int 0) = ML hp ot 0 (nI S.1.2) (nI S.2.1.2) (nI S.2.2.1.1) (nI (us S)) S.2.2.2 x := rfl
    rw [e0]
    generalize va_up m 336 (.inr (8, ML hp ot 0 (nI S.1.2) (nI S.2.1.2) (nI S.2.2.1.1) (nI (us S)) S.2.2.2 x)) = m1 at W1 F1 ⊢
    have L1 : ∀ w k m2, k + w + 1 = S.2.2.1.1 → e ≤ k → RP G m1 m2 A (mvu (fun j => j) e k) → mm_W l G k_M_remove 27 [(0, .ref 336), (2, .int (nI k))] [] b m2 (fun v m2 => v = .inl none ∧ FR 336 352 m m2 ∧ MP G m2 (S.1, S.2.1, (S.2.2.1.1 - 1, dl S.2.2.1.2 e), S.2.2.2) 0) := by
      intro w
      induction w with
      | zero =>
        intro k m2 hkw hek R
        obtain ⟨A2, a1, a2, a3, a4⟩ := R
        have hkk : k = S.2.2.1.1 - 1 := by omega
        subst hkk
        obtain ⟨h1, h2, h3, ⟨n1, n2, n3, ⟨g, n4⟩, n5, n6⟩, hB, hS⟩ := W1
        have hsw : 346 ≤ hp ∧ hp ≤ 347 ∧ 346 ≤ ot ∧ ot ≤ 347 ∧ hp ≠ ot := by unfold sw at n6; omega
        have e336 := (a3 336 (by omega)).trans h1
        refine t_M_remove_27 e336 (by omega) rfl (fun _ => ?_) (fun z => absurd ?_ z)
        · have hus : us S ≤ 65536 := hB.2.2.1
          have hM : ∀ i, i < S.2.2.1.1 - 1 → MEn A2 hf (us S) i (dl S.2.2.1.2 e i) := by
            intro i hi
            refine MEn_rx a4 (by omega) ?_
            have er : mvu (fun j => j) e (S.2.2.1.1 - 1) i = sk e i := by
              unfold mvu sk
              dsimp only
              repeat' split
              all_goals omega
            rw [er]
            exact hB.1 _ (sk_lt he hi)
          have hsum : us S = sum (fun i => (dl S.2.2.1.2 e i).2.1.2) (S.2.2.1.1 - 1) + (S.2.2.1.2 e).2.1.2 := sum_rm _ he
          have hbg : ∃ bg : Nat → Nat, ∀ i, i < S.2.2.1.1 - 1 → A2 342 i = nI (bg i) ∧ bg i + (dl S.2.2.1.2 e i).2.1.2 ≤ us S ∧ ∀ j, j < (dl S.2.2.1.2 e i).2.1.2 → hf (bg i + j) = (dl S.2.2.1.2 e i).2.1.1 j := by
            have hx : ∀ i, ∃ g : Nat, i < S.2.2.1.1 - 1 → A2 342 i = nI g ∧ g + (dl S.2.2.1.2 e i).2.1.2 ≤ us S ∧ ∀ j, j < (dl S.2.2.1.2 e i).2.1.2 → hf (g + j) = (dl S.2.2.1.2 e i).2.1.1 j := by
              intro i
              by_cases hi : i < S.2.2.1.1 - 1
              · obtain ⟨g, hg⟩ := (hM i hi).2.2.2.2.2.2.2
                exact ⟨g, fun _ => hg⟩
              · exact ⟨0, fun q => absurd q hi⟩
            exact ⟨fun i => (hx i).choose, fun i hi => (hx i).choose_spec hi⟩
          obtain ⟨bg, hbg⟩ := hbg
          have eK : nI S.2.2.1.1 - 1 = nI (S.2.2.1.1 - 1) := pk_sub (b := 1) (by omega)
          have hG := s_M_gather (l := l) (G := G) (b := 0) (m := va_up m2 336 (.inr (8, ML hp ot 0 (nI S.1.2) (nI S.2.1.2) (nI (S.2.2.1.1 - 1)) (nI (us S)) S.2.2.2 x))) (K := S.2.2.1.1 - 1) (by omega) (B := A2 342) (L := A2 343) (g := g) (bg := bg) (bc := fun i => (dl S.2.2.1.2 e i).2.1.2) up_s ((up_n (by omega)).trans (a2 342 (by omega) (by omega))) (fun i hi => (hbg i hi).1) ((up_n (by omega)).trans (a2 343 (by omega) (by omega))) (fun i hi => (hM i hi).2.2.2.2.1) ((up_n (by omega)).trans ((a3 hp (by omega)).trans n3)) ((up_n (by omega)).trans ((a3 ot (by omega)).trans n4.1)) n6 (fun i hi => by have := (hbg i hi).2.1; omega) (by omega) hB.2.2.2
          rw [← eK] at hG
          have e336' : m2 336 = .inr (8, ML hp ot 0 (nI S.1.2) (nI S.2.1.2) (nI S.2.2.1.1) (nI (us S)) S.2.2.2 x) := e336
          refine t_M_remove_51 e336' (by omega) rfl (Nat.le_of_ble_eq_true rfl) (Nat.le_of_eq (Nat.zero_add _)) up_s hG (fun E n hn => ?_) (fun v m3 hn => ?_)
          · cases hn.1
          · obtain ⟨e1, g1, ⟨B2, g2, g3⟩, g4, g5⟩ := hn
            refine ⟨by cases e1; rfl, t_M_remove_65 ⟨rfl, ?_, ot, hp, x, fun a => if a = 342 then B2 else A2 a, app g 0 (cat (fun i => seg hf (bg i) (dl S.2.2.1.2 e i).2.1.2) (S.2.2.1.1 - 1)), ?_⟩⟩
            · intro a ha
              exact (g5 a (by omega) (by omega) (by omega)).trans ((up_n (by omega)).trans ((a3 a (by omega)).trans (F1 a ha)))
            · have gO : ∀ a, a ≠ 336 → a ≠ 342 → a ≠ ot → m3 a = m2 a := fun a q1 q2 q3 => (g5 a q1 q2 q3).trans (up_n q1)
              have hlen : ∀ i, (cat (fun i => seg hf (bg i) (dl S.2.2.1.2 e i).2.1.2) i).length = sum (fun i => (dl S.2.2.1.2 e i).2.1.2) i := cat_len _ _ (fun i => seg_len _ _ _)
              have eus : us (S.1, S.2.1, (S.2.2.1.1 - 1, dl S.2.2.1.2 e), S.2.2.2) = sum (fun i => (dl S.2.2.1.2 e i).2.1.2) (S.2.2.1.1 - 1) := rfl
              refine ⟨?_, (gO _ (by omega) (by omega) (by omega)).trans ((a3 _ (by omega)).trans h2), (gO _ (by omega) (by omega) (by omega)).trans ((a3 _ (by omega)).trans h3), ⟨?_, fun a q1 q2 => ?_, g4, ⟨hf, (gO _ (by omega) (by omega) (by omega)).trans ((a3 _ (by omega)).trans n3), hB.2.2.2⟩, ?_, ?_⟩, ⟨fun i hi => ?_, by show S.2.2.1.1 - 1 ≤ 64; omega, by rw [eus]; omega, ?_⟩, hS⟩
              · rw [g1]
                show Sum.inr (8, ML ot hp 0 (nI S.1.2) (nI S.2.1.2) (nI S.2.2.1.1 - 1) (nI (sum (fun i => (dl S.2.2.1.2 e i).2.1.2) (S.2.2.1.1 - 1))) S.2.2.2 x) = _
                rw [eK]
                rfl
              · rw [gO _ (by omega) (by omega) (by omega)]
                exact a1
              · show m3 a = aI G (if a = 342 then B2 else A2 a)
                by_cases q3 : a = 342
                · rw [if_pos q3, q3]
                  exact g2
                · rw [if_neg q3, gO _ (by omega) q3 (by omega)]
                  exact a2 a q1 q2
              · exact SC_eq n5 (fun a q1 q2 => (gO _ (by omega) (by omega) (by omega)).trans (a3 _ (by omega)))
              · unfold sw at n6 ⊢
                omega
              · have hi : i < S.2.2.1.1 - 1 := hi
                obtain ⟨q1, q2, q3, q4, q5, q6, q7, -⟩ := hM i hi
                obtain ⟨-, -, qa⟩ := hbg i hi
                have hsi := sum_le (fun i => (dl S.2.2.1.2 e i).2.1.2) (show i + 1 ≤ S.2.2.1.1 - 1 by omega)
                have hs2 : sum (fun i => (dl S.2.2.1.2 e i).2.1.2) (i + 1) = sum (fun i => (dl S.2.2.1.2 e i).2.1.2) i + (dl S.2.2.1.2 e i).2.1.2 := rfl
                refine ⟨q1, q2, q3, q4, q5, q6, q7, sum (fun i => (dl S.2.2.1.2 e i).2.1.2) i, ?_, ?_, fun j hj => ?_⟩
                · show B2 i = _
                  exact g3 i hi
                · rw [eus]
                  show _ + (dl S.2.2.1.2 e i).2.1.2 ≤ _
                  omega
                · have hj : j < (dl S.2.2.1.2 e i).2.1.2 := hj
                  show app g 0 _ (sum (fun i => (dl S.2.2.1.2 e i).2.1.2) i + j) = (dl S.2.2.1.2 e i).2.1.1 j
                  have h9 := app_get (f := g) (k := 0) (j := sum (fun i => (dl S.2.2.1.2 e i).2.1.2) i + j) (xs := cat (fun i => seg hf (bg i) (dl S.2.2.1.2 e i).2.1.2) (S.2.2.1.1 - 1)) (by rw [hlen]; omega)
                  rw [Nat.zero_add] at h9
                  rw [h9, cat_at (g := fun i => (dl S.2.2.1.2 e i).2.1.2) (fun i => seg_len _ _ _) hj _ hi, seg_get hj]
                  exact qa j hj
              · exact app_tb n4.2 (okb_cat (k := S.2.2.1.1 - 1) (fun i _ => seg_tb hB.2.2.2 _ _) _ (Nat.le_refl _))
        · rw [nI_1]
          exact nI_le (by omega) (by omega)
      | succ w ih =>
        intro k m2 hkw hek R
        obtain ⟨A2, a1, a2, a3, a4⟩ := R
        have e336 := (a3 336 (by omega)).trans W1.1
        refine t_M_remove_27 e336 (by omega) rfl (fun z => absurd z ?_) (fun _ => ?_)
        · rw [nI_1]
          exact nI_ge (by omega) (by omega)
        · have hM := s_M_copy (l := l) (b := 0) (p := k + 1) (q := k) (by omega) (by omega) (by omega) e336 a1 a2
          rw [← nI_1] at hM
          refine t_M_remove_37 (Nat.le_of_eq (Nat.zero_add _)) e336 (by omega) hM (fun E n hn => ?_) (fun v m3 hn => ?_)
          · cases hn.1
          · obtain ⟨e1, A3, b1, b2, b3, b4⟩ := hn
            refine ⟨by cases e1; rfl, t_M_remove_45 ?_⟩
            rw [nI_1]
            exact ih (k + 1) m3 (by omega) (by omega) ⟨A3, b1, b2, fun q hq => (b3 q hq).trans (a3 q hq), RX_tr a4 b4 (fun i hi => cx_lt (by omega) hi) (fun i _ => mvu_cx hek)⟩
    exact L1 (S.2.2.1.1 - 1 - e) e m1 (by omega) (Nat.le_refl _) (RP_self W1 (fun i _ => by rw [mvu_self]))
  · have z := bp_n0 z
    have hr : o_remove S y = (1, 0, S) := if_neg z
    rw [hr]
    exact t_M_remove_9 (t_M_remove_14 W.1 (by omega) (Nat.le_of_ble_eq_true rfl) up_s (by omega) rfl (fun z => absurd z (by decide)) (fun _ => t_M_remove_24 ⟨rfl, MO_c W 1⟩))
end MO6
