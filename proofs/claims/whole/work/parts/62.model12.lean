/-! the model's reading: the places -/
def tk (q : Nat → Nat) (i j : Nat) : Prop := ∃ e, e < i ∧ q e = j
def TK (Z : Nat → Int32) (q : Nat → Nat) (i n : Nat) : Prop := ∀ j, j < n → (Z j = 0 ↔ ¬ tk q i j)
section MO12
variable {l : Launch} {G : mm_G} {m : mm_Mem} {b : Nat} {S : St} {hp ot : Nat} {A : Nat → Nat → Int32} {hf : Nat → Int32} {p d lim h : Nat} {o : Int32} {q : Nat → Nat}
theorem sp_nt {hh : Nat → Nat} {n i : Nat} (Sq : sp hh n q) (hi : i < n) : ¬ tk q i (q i) := by
  rintro ⟨e, he, h⟩
  have := Sq.2.1 e i he hi
  rw [h] at this
  unfold lx at this
  omega
theorem s_M_firstLeft {f : Nat → Int32} {H : Nat → Int64} {Z : Nat → Int32} (W : MW G m S 0 hp ot (nI lim, nI p, lN d, nI h, o) A hf) (e9 : m 349 = aL G H) (e52 : m 352 = aZ G Z) (hH : ∀ j, j < h → H j = lN (dhd f d j)) (hh : h ≤ 64) (Sq : sp (dhd f d) h q) {i : Nat} (hi : i ≤ h) (T : TK Z q i h) : mm_W l G k_M_firstLeft 0 (lv_args 0 [.ref 336]) [] b m (mm_is (.inl (some (.int (if i < h then nI (q i) else -1)))) m) := by
  have lh : ∀ j, dhd f d j < 4294967296 := fun j => le4 _ _
  have L : ∀ w e (best : Int32), e + w = h → ((best = -1 ∧ ∀ j, j < e → tk q i j) ∨ ∃ g, g < e ∧ best = nI g ∧ ¬ tk q i g ∧ ∀ j, j < e → ¬ tk q i j → j = g ∨ lx (dhd f d) g j) → mm_W l G k_M_firstLeft 4 [(0, .ref 336), (1, .int best), (2, .int (nI e))] [] b m (mm_is (.inl (some (.int (if i < h then nI (q i) else -1)))) m) := by
    intro w
    induction w with
    | zero =>
      intro e best he hb
      have e1 : e = h := by omega
      subst e1
      refine t_M_firstLeft_4 W.1 (by omega) rfl (fun _ => t_M_firstLeft_53 ⟨?_, rfl⟩) (fun z => absurd (nI_le (Nat.le_refl _) (by omega)) z)
      by_cases c : i < e
      · rw [if_pos c]
        rcases hb with ⟨hb, hall⟩ | ⟨g, hg, hb, hn, hall⟩
        · exact absurd (hall (q i) (Sq.1 i c)) (sp_nt Sq c)
        · have eg : g = q i := by
            obtain ⟨e2, he2, hq⟩ := Sq.2.2 g hg
            rcases (by omega : e2 < i ∨ e2 = i ∨ i < e2) with y | y | y
            · exact absurd ⟨e2, y, hq⟩ hn
            · rw [← hq, y]
            · have h1 := Sq.2.1 i e2 y he2
              rw [hq] at h1
              rcases hall (q i) (Sq.1 i c) (sp_nt Sq c) with y2 | y2
              · exact y2.symm
              · exact (lx_asym h1 y2).elim
          rw [hb, eg]
      · rw [if_neg c]
        rcases hb with ⟨hb, hall⟩ | ⟨g, hg, hb, hn, hall⟩
        · rw [hb]
        · obtain ⟨e2, he2, hq⟩ := Sq.2.2 g hg
          exact absurd ⟨e2, by omega, hq⟩ hn
    | succ w ih =>
      intro e best he hb
      have ec : (nI e).toNatClampNeg = e := nI_clamp (by omega)
      have hskip : (best = -1 ∧ ∀ j, j < e + 1 → tk q i j) ∨ (∃ g, g < e + 1 ∧ best = nI g ∧ ¬ tk q i g ∧ ∀ j, j < e + 1 → ¬ tk q i j → j = g ∨ lx (dhd f d) g j) → mm_W l G k_M_firstLeft 45 [(0, .ref 336), (1, .int best), (2, .int (nI e))] [] b m (mm_is (.inl (some (.int (if i < h then nI (q i) else -1)))) m) := by
        intro hb
        refine t_M_firstLeft_45 (t_M_firstLeft_46 ?_)
        rw [nI_1]
        exact ih (e + 1) best (by omega) hb
      have htake : ¬ tk q i e → (∀ j, j < e + 1 → ¬ tk q i j → j = e ∨ lx (dhd f d) e j) → mm_W l G k_M_firstLeft 41 [(0, .ref 336), (2, .int (nI e))] [] b m (mm_is (.inl (some (.int (if i < h then nI (q i) else -1)))) m) := by
        intro hn hall
        refine t_M_firstLeft_41 (t_M_firstLeft_46 ?_)
        rw [nI_1]
        exact ih (e + 1) (nI e) (by omega) (Or.inr ⟨e, by omega, rfl, hn, hall⟩)
      refine t_M_firstLeft_4 W.1 (by omega) rfl (fun z => absurd z (nI_ge (by omega) (by omega))) (fun _ => t_M_firstLeft_12 W.1 (by omega) rfl e52 (by omega) (vp_in_nI (by omega) (by omega)) (fun z => ?_) (fun z => ?_))
      · rw [ec] at z
        have hte : tk q i e := Classical.not_not.mp (fun y => z ((T e (by omega)).mpr y))
        refine hskip ?_
        rcases hb with ⟨hb, hall⟩ | ⟨g, hg, hb, hn, hall⟩
        · refine Or.inl ⟨hb, fun j hj => ?_⟩
          by_cases y : j = e
          · rw [y]; exact hte
          · exact hall j (by omega)
        · refine Or.inr ⟨g, by omega, hb, hn, fun j hj hjn => ?_⟩
          by_cases y : j = e
          · rw [y] at hjn; exact absurd hte hjn
          · exact hall j (by omega) hjn
      · rw [ec] at z
        have hte := (T e (by omega)).mp z
        rcases hb with ⟨hb, hall⟩ | ⟨g, hg, hb, hn, hall⟩
        · rw [hb]
          refine t_M_firstLeft_21 (fun _ => htake hte (fun j hj hjn => ?_)) (fun y => absurd (by decide) y)
          by_cases y : j = e
          · exact Or.inl y
          · exact absurd (hall j (by omega)) hjn
        · have eg : (nI g).toNatClampNeg = g := nI_clamp (by omega)
          have l1 := lh e
          have l2 := lh g
          rw [hb] at hskip ⊢
          refine t_M_firstLeft_21 (fun y => absurd y (i_nlt.mpr (nI_pos' (by omega)))) (fun _ => t_M_firstLeft_25 W.1 (by omega) rfl e9 (by omega) (vp_in_nI (by omega) (by omega)) (vp_in_nI (by omega) (by omega)) (fun y => ?_) (fun y => ?_))
          all_goals (rw [ec, eg, hH e (by omega), hH g (by omega), lg_cmp_ge, lN_leB (by omega) (by omega)] at y)
          · refine hskip (Or.inr ⟨g, by omega, rfl, hn, fun j hj hjn => ?_⟩)
            by_cases y2 : j = e
            · refine Or.inr ?_
              rw [y2]
              unfold lx
              omega
            · exact hall j (by omega) hjn
          · refine htake hte (fun j hj hjn => ?_)
            by_cases y2 : j = e
            · exact Or.inl y2
            · refine Or.inr ?_
              rcases hall j (by omega) hjn with y3 | y3
              · rw [y3]
                unfold lx
                omega
              · unfold lx at y3 ⊢
                omega
  exact t_M_firstLeft_0 (L h 0 (-1) (by omega) (Or.inl ⟨rfl, fun j hj => absurd hj (by omega)⟩))
def QG (G : mm_G) (m : mm_Mem) (S : St) (hp ot : Nat) (x : Int32 × Int32 × Int64 × Int32 × Int32) (A : Nat → Nat → Int32) (hf : Nat → Int32) (d h : Nat) (q : Nat → Nat) : mm_O → mm_Mem → Prop := fun v m2 => FR 336 352 m m2 ∧ ((∃ r, gsr S.1.1 S.1.2 d q h 0 0 = some r ∧ v = .inl (some (.int 1)) ∧ MW G m2 (Sx S r) 0 hp ot x A hf) ∨ (gsr S.1.1 S.1.2 d q h 0 0 = none ∧ v = .inl (some (.int 0)) ∧ MW G m2 S 0 hp ot x A hf ∧ ∀ a, a ≠ 352 → m2 a = m a))
theorem s_M_readGaps {H T : Nat → Int64} (W : MW G m S 0 hp ot (nI lim, nI p, lN d, nI h, o) A hf) (e9 : m 349 = aL G H) (e51 : m 351 = aL G T) (hH : ∀ j, j < h → H j = lN (dhd S.1.1 d j)) (hT : ∀ j, j < h → T j = lN (tend S.1.1 S.1.2 d j)) (hte : ∀ j, j < h → tend S.1.1 S.1.2 d j ≤ d) (hd : d ≤ 65536) (hh : h ≤ 64) (Sq : sp (dhd S.1.1 d) h q) : mm_W l G k_M_readGaps 0 (lv_args 0 [.ref 336]) [] b m (QG G m S hp ot (nI lim, nI p, lN d, nI h, o) A hf d h q) := by
  have lh : ∀ j, dhd S.1.1 d j < 4294967296 := fun j => le4 _ _
  have L2 : ∀ w i t M Z, i + w = h → t ≤ d → MW G M S 0 hp ot (nI lim, nI p, lN d, nI h, o) A hf → (∀ a, a ≠ 352 → M a = m a) → M 352 = aZ G Z → TK Z q i h → gsr S.1.1 S.1.2 d q h 0 0 = gsr S.1.1 S.1.2 d q w i t → mm_W l G k_M_readGaps 30 [(0, .ref 336), (1, .long (lN t)), (3, .int (if i < h then nI (q i) else -1))] [] b M (QG G m S hp ot (nI lim, nI p, lN d, nI h, o) A hf d h q) := by
    intro w
    induction w with
    | zero =>
      intro i t M Z hi ht W F e52 TT hg
      have hF : FR 336 352 m M := fun a ha => F a (by omega)
      rw [if_neg (by omega)]
      refine t_M_readGaps_30 (fun _ => t_M_readGaps_76 W.1 (by omega) rfl (fun z => ?_) (fun z => ?_)) (fun z => absurd (by decide) z)
      all_goals rw [lg_cmp_eq, lN_eqB (by omega) (by omega)] at z
      · exact t_M_readGaps_100 (t_M_readGaps_101 ⟨hF, Or.inr ⟨by rw [hg, gsr, ifc_t z], rfl, W, F⟩⟩ rfl)
      · refine t_M_readGaps_85 (Nat.le_of_eq (Nat.zero_add _)) W.1 (by omega) (s_M_wrong W.1 10 (by omega) (-1)) (fun z => absurd z (by decide)) (fun _ => t_M_readGaps_96 (t_M_readGaps_101 ⟨FR_tr hF (FR_up (by omega) (by omega)), Or.inl ⟨(10, nI t, -1), by rw [hg, gsr, ifc_f z], rfl, ?_⟩⟩ rfl))
        have h9 := MW_h W 0 (10, nI (mn t), -1) (nI lim, nI p, lN d, nI h, o)
        rw [show mn t = t by unfold mn; rw [if_neg (by omega)]] at h9 ⊢
        exact h9
    | succ w ih =>
      intro i t M Z hi ht W F e52 TT hg
      have hF : FR 336 352 m M := fun a ha => F a (by omega)
      have hqi := Sq.1 i (by omega)
      have ec : (nI (q i)).toNatClampNeg = q i := nI_clamp (by omega)
      have l1 := lh (q i)
      have e9' := (F 349 (by omega)).trans e9
      have e51' := (F 351 (by omega)).trans e51
      rw [if_pos (by omega)]
      refine t_M_readGaps_30 (fun z => absurd z (i_nlt.mpr (nI_pos' (by omega)))) (fun _ => t_M_readGaps_34 W.1 (by omega) rfl e9' (by omega) (vp_in_nI (by omega) (by omega)) (fun z => ?_) (fun z => ?_))
      all_goals rw [ec, hH _ hqi, lg_cmp_eq, lN_eqB (by omega) (by omega)] at z
      · have W2 := MW_352 W (upd Z (nI (q i)).toNatClampNeg (vp_nar .boolean 1))
        have T2 : TK (upd Z (nI (q i)).toNatClampNeg (vp_nar .boolean 1)) q (i + 1) h := by
          intro j hj
          rw [ec]
          by_cases y : j = q i
          · rw [y, upd_s]
            constructor
            · intro y2
              exact absurd y2 (by decide)
            · intro y2
              exact absurd ⟨i, by omega, rfl⟩ y2
          · rw [upd_n y, TT j hj]
            constructor
            · rintro y2 ⟨e, he, hq⟩
              by_cases y3 : e = i
              · rw [y3] at hq
                exact y hq.symm
              · exact y2 ⟨e, by omega, hq⟩
            · rintro y2 ⟨e, he, hq⟩
              exact y2 ⟨e, by omega, hq⟩
        have hM := s_M_firstLeft (l := l) (b := 0) W2 ((up_n (by omega)).trans e9') up_s hH hh Sq (i := i + 1) (by omega) T2
        refine t_M_readGaps_54 W.1 (by omega) rfl e51' (by omega) (vp_in_nI (by omega) (by omega)) rfl e52 (by omega) (vp_in_nI (by omega) (by omega)) (Nat.le_of_eq (Nat.zero_add _)) W2.1 hM ?_
        have eT : T (nI (q i)).toNatClampNeg = lN (tend S.1.1 S.1.2 d (q i)) := by rw [ec]; exact hT _ hqi
        rw [eT]
        exact ih (i + 1) _ _ _ (by omega) (hte _ hqi) W2 (fun a ha => (up_n ha).trans (F a ha)) up_s T2 (by rw [hg, gsr, ifc_t z])
      · refine t_M_readGaps_45 (Nat.le_of_eq (Nat.zero_add _)) W.1 (by omega) (s_M_wrong W.1 10 (by omega) _) ⟨FR_tr hF (FR_up (by omega) (by omega)), Or.inl ⟨(10, nI t, nI (q i)), by rw [hg, gsr, ifc_f z], rfl, ?_⟩⟩ rfl
        have h9 := MW_h W 0 (10, nI (mn t), nI (q i)) (nI lim, nI p, lN d, nI h, o)
        rw [show mn t = t by unfold mn; rw [if_neg (by omega)]] at h9 ⊢
        exact h9
  have L1 : ∀ w i M Z, i + w = h → MW G M S 0 hp ot (nI lim, nI p, lN d, nI h, o) A hf → (∀ a, a ≠ 352 → M a = m a) → M 352 = aZ G Z → (∀ j, j < i → Z j = 0) → mm_W l G k_M_readGaps 2 [(0, .ref 336), (1, .int (nI i))] [] b M (QG G m S hp ot (nI lim, nI p, lN d, nI h, o) A hf d h q) := by
    intro w
    induction w with
    | zero =>
      intro i M Z hi W F e52 hZ
      have e : i = h := by omega
      subst e
      have T0 : TK Z q 0 i := fun j hj => ⟨fun _ => fun ⟨e, he, _⟩ => absurd he (by omega), fun _ => hZ j hj⟩
      have hM := s_M_firstLeft (l := l) (b := 0) W ((F 349 (by omega)).trans e9) e52 hH hh Sq (i := 0) (by omega) T0
      exact t_M_readGaps_2 W.1 (by omega) rfl (fun _ => t_M_readGaps_23 (Nat.le_of_eq (Nat.zero_add _)) W.1 (by omega) hM (L2 i 0 0 M Z (by omega) (by omega) W F e52 T0 rfl)) (fun z => absurd (nI_le (Nat.le_refl _) (by omega)) z)
    | succ w ih =>
      intro i M Z hi W F e52 hZ
      have ec : (nI i).toNatClampNeg = i := nI_clamp (by omega)
      refine t_M_readGaps_2 W.1 (by omega) rfl (fun z => absurd z (nI_ge (by omega) (by omega))) (fun _ => t_M_readGaps_10 W.1 (by omega) rfl e52 (by omega) (vp_in_nI (by omega) (by omega)) ?_)
      rw [nI_1]
      refine ih (i + 1) _ (upd Z (nI i).toNatClampNeg (vp_nar .boolean 0)) (by omega) (MW_352 W _) (fun a ha => (up_n ha).trans (F a ha)) up_s (fun j hj => ?_)
      rw [ec]
      by_cases y : j = i
      · rw [y, upd_s]
        rfl
      · rw [upd_n y]
        exact hZ j (by omega)
  obtain ⟨-, -, -, -, Z, e52⟩ := MW_SC W
  exact t_M_readGaps_0 (L1 h 0 m Z (by omega) W (fun _ _ => rfl) e52 (fun j hj => absurd hj (by omega)))
end MO12
