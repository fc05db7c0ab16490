/-! the model's reading: all of it -/
section MO13
variable {l : Launch} {G : mm_G} {m : mm_Mem} {b : Nat} {S : St} {c0 : Int32} {hp ot : Nat} {A : Nat → Nat → Int32} {hf : Nat → Int32} {p d lim h : Nat} {o : Int32} {q : Nat → Nat}
/-- what the model knows of the entries' own heads and bytes -/
def BR (G : mm_G) (m : mm_Mem) (f : Nat → Int32) (d n : Nat) : Prop := ∃ B, m 350 = aL G B ∧ ∀ j, j < n → B j = lN (dat f d j)
def TR (G : mm_G) (m : mm_Mem) (f : Nat → Int32) (u d n : Nat) : Prop := ∃ T, m 351 = aL G T ∧ ∀ j, j < n → T j = lN (tend f u d j)
def QW (G : mm_G) (m : mm_Mem) (S : St) (hp ot : Nat) (o : Int32) (A : Nat → Nat → Int32) (hf : Nat → Int32) (lim : Nat) (q : Nat → Nat) : mm_O → mm_Mem → Prop := fun v m2 => FR 336 352 m m2 ∧ ((∃ r x2, rd S.1.1 S.1.2 lim q = some r ∧ v = .inl (some (.int 1)) ∧ MW G m2 (Sx S r) 0 hp ot x2 A hf) ∨ (rd S.1.1 S.1.2 lim q = none ∧ v = .inl (some (.int 0)) ∧ ∃ p, good S.1.1 S.1.2 lim p ∧ MW G m2 S 0 hp ot (nI lim, nI p, lN (le S.1.1 (p + 16) 4), nI (le S.1.1 (p + 10) 2), o) A hf ∧ DR G m2 S.1.1 (le S.1.1 (p + 16) 4) (le S.1.1 (p + 10) 2) ∧ BR G m2 S.1.1 (le S.1.1 (p + 16) 4) (le S.1.1 (p + 10) 2)))
/-- the entries' heads and bytes in their order -/
theorem L_M_ents {P : mm_O → mm_Mem → Prop} (hp22 : p + 22 ≤ S.1.2) (hd : d ≤ p) (hh : h ≤ 64) (hall : ∀ j, j < h → dflt S.1.1 p d lim j = 0) (Hbad : ∀ m2 r, FR 336 352 m m2 → esr S.1.1 S.1.2 d h 0 = some r → MW G m2 (Sx S r) 0 hp ot (nI lim, nI p, lN d, nI h, o) A hf → P (.inl (some (.int 1))) m2) (Hok : ∀ m2, FR 336 352 m m2 → esr S.1.1 S.1.2 d h 0 = none → MW G m2 S 0 hp ot (nI lim, nI p, lN d, nI h, o) A hf → DR G m2 S.1.1 d h → HR G m2 S.1.1 d h → BR G m2 S.1.1 d h → TR G m2 S.1.1 S.1.2 d h → (∀ j, j < h → hok S.1.1 d j ∧ bok S.1.1 S.1.2 d j) → mm_W l G k_M_isWrong 76 [(0, .ref 336)] [] b m2 P) : ∀ w i M, i + w = h → MW G M S 0 hp ot (nI lim, nI p, lN d, nI h, o) A hf → FR 336 352 m M → DR G M S.1.1 d h → HR G M S.1.1 d h → BR G M S.1.1 d i → TR G M S.1.1 S.1.2 d i → (∀ j, j < i → hok S.1.1 d j ∧ bok S.1.1 S.1.2 d j) → esr S.1.1 S.1.2 d h 0 = esr S.1.1 S.1.2 d w i → mm_W l G k_M_isWrong 18 [(0, .ref 336), (1, .int (nI i))] [] b M P := by
  intro w
  induction w with
  | zero =>
    intro i M hi W F hD hH hB hT hok hs
    have e : i = h := by omega
    subst e
    exact t_M_isWrong_18 W.1 (by omega) rfl (fun _ => Hok M F (by rw [hs]; rfl) W hD hH hB hT hok) (fun z => absurd (nI_le (Nat.le_refl _) (by omega)) z)
  | succ w ih =>
    intro i M hi W F hD hH hB hT hok hs
    have hU := W.2.2.2.2.2.1
    obtain ⟨D, e8, hD1⟩ := hD
    obtain ⟨H, e9, hH1⟩ := hH
    obtain ⟨B, e50, hB1⟩ := hB
    obtain ⟨T, e51, hT1⟩ := hT
    have n1 := df1_le (dflt_0 (hall i (by omega))).1
    have ec : (nI i).toNatClampNeg = i := nI_clamp (by omega)
    have lh : dhd S.1.1 d i < 4294967296 := le4 _ _
    have hwr : ∀ (M2 : mm_Mem) (c : Int32), MW G M2 S 0 hp ot (nI lim, nI p, lN d, nI h, o) A hf → FR 336 352 m M2 → M2 349 = aL G H → mm_W l G k_M_wrong 0 (lv_args 0 [.ref 336, .int c, .long (H (nI i).toNatClampNeg), .int (nI i)]) [] 0 M2 (mm_is (.inl (some (.int 1))) (va_up M2 336 (.inr (8, ML hp ot 0 (nI S.1.2) (nI S.2.1.2) (nI S.2.2.1.1) (nI (us S)) (c, nI (mn (dhd S.1.1 d i)), nI i) (nI lim, nI p, lN d, nI h, o))))) := by
      intro M2 c W2 F2 e92
      rw [ec, hH1 i (by omega)]
      exact s_M_wrong W2.1 c lh (nI i)
    refine t_M_isWrong_18 W.1 (by omega) rfl (fun z => absurd z (nI_ge (by omega) (by omega))) (fun _ => t_M_isWrong_26 (Nat.le_of_eq (Nat.zero_add _)) W.1 (by omega) (s_M_isHead W e8 e9 e50 (by omega) (hD1 i (by omega)) (hH1 i (by omega)) n1.2.1 hp22 hd) (fun E n hn => ?_) (fun v M2 hn => ?_))
    · cases hn.2.2
    obtain ⟨O2, ⟨B2, e502, hB2, hB3⟩, ev⟩ := hn
    have F2 : FR 336 352 m M2 := fun a ha => (O2 a (by omega)).trans (F a ha)
    have W2 : MW G M2 S 0 hp ot (nI lim, nI p, lN d, nI h, o) A hf := by
      refine MW_sc W (fun a _ _ => O2 a (by omega)) ?_
      obtain ⟨-, -, -, s4, s5⟩ := MW_SC W
      exact ⟨⟨D, (O2 _ (by omega)).trans e8⟩, ⟨H, (O2 _ (by omega)).trans e9⟩, ⟨B2, e502⟩, ⟨T, (O2 _ (by omega)).trans e51⟩, by obtain ⟨g, hg⟩ := s5; exact ⟨g, (O2 _ (by omega)).trans hg⟩⟩
    refine ⟨_, by cases ev; rfl, t_M_isWrong_31 (fun z => ?_) (fun z => ?_)⟩
    case refine_2 =>
      have z := bp_0.mp z
      refine t_M_isWrong_34 W2.1 (by omega) rfl ((O2 _ (by omega)).trans e9) (by omega) (vp_in_nI (by omega) (by omega)) (Nat.le_of_eq (Nat.zero_add _)) (hwr M2 7 W2 F2 ((O2 _ (by omega)).trans e9)) (Hbad _ (7, nI (mn (dhd S.1.1 d i)), nI i) (FR_tr F2 (FR_up (by omega) (by omega))) (by rw [hs, esr, ifc_f z]) (MW_h W2 0 (7, nI (mn (dhd S.1.1 d i)), nI i) (nI lim, nI p, lN d, nI h, o))) rfl
    have z := bp_n0 z
    refine t_M_isWrong_48 (Nat.le_of_eq (Nat.zero_add _)) W2.1 (by omega) (s_M_isBody W2 ((O2 _ (by omega)).trans e8) e502 ((O2 _ (by omega)).trans e51) (by omega) (hD1 i (by omega)) (hB3 z) z.1.2.2 (by omega) hp22 hd) (fun E n hn => ?_) (fun v M3 hn => ?_)
    · cases hn.2.2
    obtain ⟨O3, ⟨T2, e513, hT2, hT3⟩, ev⟩ := hn
    have F3 : FR 336 352 m M3 := fun a ha => (O3 a (by omega)).trans (F2 a ha)
    have e83 : M3 348 = aI G D := (O3 _ (by omega)).trans ((O2 _ (by omega)).trans e8)
    have e93 : M3 349 = aL G H := (O3 _ (by omega)).trans ((O2 _ (by omega)).trans e9)
    have e503 : M3 350 = aL G B2 := (O3 _ (by omega)).trans e502
    have W3 : MW G M3 S 0 hp ot (nI lim, nI p, lN d, nI h, o) A hf := by
      refine MW_sc W2 (fun a _ _ => O3 a (by omega)) ?_
      obtain ⟨-, -, -, s4, s5⟩ := MW_SC W2
      exact ⟨⟨D, e83⟩, ⟨H, e93⟩, ⟨B2, e503⟩, ⟨T2, e513⟩, by obtain ⟨g, hg⟩ := s5; exact ⟨g, (O3 _ (by omega)).trans hg⟩⟩
    refine ⟨_, by cases ev; rfl, t_M_isWrong_53 (fun y => ?_) (fun y => ?_)⟩
    case refine_2 =>
      have y := bp_0.mp y
      refine t_M_isWrong_56 W3.1 (by omega) rfl e93 (by omega) (vp_in_nI (by omega) (by omega)) (Nat.le_of_eq (Nat.zero_add _)) (hwr M3 8 W3 F3 e93) (Hbad _ (8, nI (mn (dhd S.1.1 d i)), nI i) (FR_tr F3 (FR_up (by omega) (by omega))) (by rw [hs, esr, ifc_t z, ifc_f y]) (MW_h W3 0 (8, nI (mn (dhd S.1.1 d i)), nI i) (nI lim, nI p, lN d, nI h, o))) rfl
    have y := bp_n0 y
    refine t_M_isWrong_70 ?_
    rw [nI_1]
    refine ih (i + 1) M3 (by omega) W3 F3 ⟨D, e83, hD1⟩ ⟨H, e93, hH1⟩ ⟨B2, e503, fun j hj => ?_⟩ ⟨T2, e513, fun j hj => ?_⟩ (fun j hj => ?_) (by rw [hs, esr, ifc_t z, ifc_t y])
    · by_cases g : j = i
      · rw [g]; exact hB3 z
      · rw [hB2 j g]; exact hB1 j (by omega)
    · by_cases g : j = i
      · rw [g]; exact hT3 y
      · rw [hT2 j g]; exact hT1 j (by omega)
    · by_cases g : j = i
      · rw [g]; exact ⟨z, y⟩
      · exact hok j (by omega)
theorem s_M_isWrong {x : Int32 × Int64 × Int32} (W : MW G m S 0 hp ot (nI lim, x.1, x.2.1, x.2.2, o) A hf) (hlim : lim ≤ 65536) (hq : spq S.1.1 S.1.2 lim q) : mm_W l G k_M_isWrong 0 (lv_args 0 [.ref 336]) [] b m (QW G m S hp ot o A hf lim q) := by
  have hU := W.2.2.2.2.2.1
  have fin : ∀ (M : mm_Mem) (t2 : Int32 × Int32 × Int32) (x2 : Int32 × Int32 × Int64 × Int32 × Int32), (∀ a, a ≠ 336 → M a = m a) → M 336 = .inr (8, ML hp ot 0 (nI S.1.2) (nI S.2.1.2) (nI S.2.2.1.1) (nI (us S)) t2 x2) → MW G M (Sx S t2) 0 hp ot x2 A hf ∧ FR 336 352 m M := by
    intro M t2 x2 hO e
    have e2 : M = va_up m 336 (.inr (8, ML hp ot 0 (nI S.1.2) (nI S.2.1.2) (nI S.2.2.1.1) (nI (us S)) t2 x2)) := by
      funext a
      by_cases g : a = 336
      · rw [g, up_s, e]
      · rw [up_n g, hO a g]
    rw [e2]
    exact ⟨MW_h W 0 t2 x2, FR_up (by omega) (by omega)⟩
  refine t_M_isWrong_0 (Nat.le_of_eq (Nat.zero_add _)) W.1 (by omega) (s_M_findEnd W.1 W.2.1 hU) (fun E n hn => ?_) (fun v M hn => ?_)
  · rcases hn.2 with ⟨r, y, -, hv, -⟩ | ⟨p, -, -, hv, -⟩
    · cases hv
    · cases hv
  obtain ⟨O1, ⟨r, y, hr, hv, e1⟩ | ⟨p, hl, hb, hv, e1⟩⟩ := hn
  · obtain ⟨W1, F1⟩ := fin M r _ O1 e1
    refine ⟨1, by cases hv; rfl, t_M_isWrong_4 (fun _ => t_M_isWrong_14 ⟨F1, Or.inl ⟨r, _, ?_, rfl, W1⟩⟩ rfl) (fun z => absurd z (by decide))⟩
    rcases hr with ⟨hl, hr⟩ | ⟨p, hl, hb, hr⟩
    · rw [hr]
      unfold rd
      rw [hl]
    · rw [hr]
      unfold rd
      rw [hl]
      exact ifc_t hb
  obtain ⟨W1, F1⟩ := fin M S.2.2.2 _ O1 e1
  have W1 : MW G M S 0 hp ot (nI lim, nI p, lN (le S.1.1 (p + 16) 4), nI (le S.1.1 (p + 10) 2), o) A hf := W1
  have hlt := lend_lt hl
  have hp22 : p + 22 ≤ S.1.2 := by omega
  have l16 := le4 S.1.1 (p + 16)
  have hd : le S.1.1 (p + 16) 4 ≤ p := by unfold ebad at hb; omega
  have hh : le S.1.1 (p + 10) 2 ≤ 64 := by unfold ebad at hb; omega
  have hrd : rd S.1.1 S.1.2 lim q = rd3 S.1.1 S.1.2 lim p (le S.1.1 (p + 16) 4) (le S.1.1 (p + 10) 2) q := by
    unfold rd
    rw [hl]
    exact ifc_f hb
  refine ⟨0, by cases hv; rfl, t_M_isWrong_4 (fun z => absurd rfl z) (fun _ => t_M_isWrong_7 (Nat.le_of_eq (Nat.zero_add _)) W1.1 (by omega) (s_M_readDirectory W1 hp22 hd hh hlim) (fun E n hn => ?_) (fun v M2 hn => ?_))⟩
  · rcases hn.2 with ⟨r, -, hv, -⟩ | ⟨-, hv, -⟩
    · cases hv
    · cases hv
  obtain ⟨F2, ⟨r, hr, hv, W2⟩ | ⟨hr, hv, W2, hDR, hHR, hall⟩⟩ := hn
  · refine ⟨1, by cases hv; rfl, t_M_isWrong_11 (fun z => absurd z (by decide)) (fun _ => t_M_isWrong_14 ⟨FR_tr F1 F2, Or.inl ⟨r, _, ?_, rfl, W2⟩⟩ rfl)⟩
    rw [hrd]
    unfold rd3
    have hr2 : dsr S.1.1 p (le S.1.1 (p + 16) 4) lim (le S.1.1 (p + 10) 2) 0 = some r := hr
    rw [hr2]
  have hr2 : dsr S.1.1 p (le S.1.1 (p + 16) 4) lim (le S.1.1 (p + 10) 2) 0 = none := hr
  have F12 := FR_tr F1 F2
  obtain ⟨-, -, ⟨B0, b0⟩, ⟨T0, t0⟩, -⟩ := MW_SC W2
  refine ⟨0, by cases hv; rfl, t_M_isWrong_11 (fun _ => t_M_isWrong_16 (L_M_ents (m := m) hp22 hd hh hall ?_ ?_ (le S.1.1 (p + 10) 2) 0 M2 (by omega) W2 F12 hDR hHR ⟨B0, b0, fun j hj => absurd hj (by omega)⟩ ⟨T0, t0, fun j hj => absurd hj (by omega)⟩ (fun j hj => absurd hj (by omega)) rfl)) (fun z => absurd rfl z)⟩
  · intro M3 r F3 he W3
    refine ⟨F3, Or.inl ⟨r, _, ?_, rfl, W3⟩⟩
    rw [hrd]
    unfold rd3
    rw [hr2]
    have he2 : esr S.1.1 S.1.2 (le S.1.1 (p + 16) 4) (le S.1.1 (p + 10) 2) 0 = some r := he
    rw [he2]
  · intro M3 F3 he W3 hDR3 hHR3 hBR3 hTR3 hok3
    have he2 : esr S.1.1 S.1.2 (le S.1.1 (p + 16) 4) (le S.1.1 (p + 10) 2) 0 = none := he
    have Sq := hq p hl hb hr2 he2
    obtain ⟨H, e93, hH3⟩ := hHR3
    obtain ⟨T, e513, hT3⟩ := hTR3
    refine t_M_isWrong_76 (Nat.le_of_eq (Nat.zero_add _)) W3.1 (by omega) (s_M_readGaps W3 e93 e513 hH3 hT3 (fun j hj => (bok_le (hok3 j hj).2).2) (by omega) hh Sq) (fun E n hn => ?_) (fun v M4 hn => ?_)
    · rcases hn.2 with ⟨r, -, hv, -⟩ | ⟨-, hv, -⟩
      · cases hv
      · cases hv
    obtain ⟨F4, ⟨r, hr4, hv, W4⟩ | ⟨hr4, hv, W4, O4⟩⟩ := hn
    · refine ⟨1, by cases hv; rfl, t_M_isWrong_80 (fun z => absurd z (by decide)) (fun _ => t_M_isWrong_83 ⟨FR_tr F3 F4, Or.inl ⟨r, _, ?_, rfl, W4⟩⟩ rfl)⟩
      rw [hrd]
      unfold rd3
      rw [hr2, he2]
      have hr5 : gsr S.1.1 S.1.2 (le S.1.1 (p + 16) 4) q (le S.1.1 (p + 10) 2) 0 0 = some r := hr4
      rw [hr5]
    have hr5 : gsr S.1.1 S.1.2 (le S.1.1 (p + 16) 4) q (le S.1.1 (p + 10) 2) 0 0 = none := hr4
    have hrd2 : rd S.1.1 S.1.2 lim q = csr S.1.1 (le S.1.1 (p + 16) 4) (le S.1.1 (p + 10) 2) 0 := by
      rw [hrd]
      unfold rd3
      rw [hr2, he2, hr5]
    obtain ⟨D, e8, hD1⟩ := hDR3
    obtain ⟨B, e50, hB1⟩ := hBR3
    have e84 := (O4 348 (by omega)).trans e8
    have e504 := (O4 350 (by omega)).trans e50
    have F34 := FR_tr F3 F4
    have hgood : good S.1.1 S.1.2 lim p := by
      refine ⟨hl, hb, hall, hok3, ?_⟩
      have hx : ∀ w i, dsr S.1.1 p (le S.1.1 (p + 16) 4) lim w i = none → dp S.1.1 (le S.1.1 (p + 16) 4) (i + w) = p := by
        intro w
        induction w with
        | zero =>
          intro i hz
          rw [dsr] at hz
          by_cases g : dp S.1.1 (le S.1.1 (p + 16) 4) i = p
          · exact g
          · rw [ifc_f g] at hz
            cases hz
        | succ w ih =>
          intro i hz
          rw [dsr] at hz
          by_cases g : dflt S.1.1 p (le S.1.1 (p + 16) 4) lim i = 0
          · rw [ifc_t g] at hz
            have := ih (i + 1) hz
            rw [show i + (w + 1) = i + 1 + w by omega]
            exact this
          · rw [ifc_f g] at hz
            cases hz
      have := hx _ 0 hr2
      rw [Nat.zero_add] at this
      exact this
    have L3 : ∀ w i, i + w = le S.1.1 (p + 10) 2 → csr S.1.1 (le S.1.1 (p + 16) 4) (le S.1.1 (p + 10) 2) 0 = csr S.1.1 (le S.1.1 (p + 16) 4) w i → mm_W l G k_M_isWrong 87 [(0, .ref 336), (1, .int (nI i))] [] b M4 (QW G m S hp ot o A hf lim q) := by
      intro w
      induction w with
      | zero =>
        intro i hi hc
        exact t_M_isWrong_87 W4.1 (by omega) rfl (fun _ => t_M_isWrong_161 ⟨F34, Or.inr ⟨by rw [hrd2, hc]; rfl, rfl, p, hgood, W4, ⟨D, e84, hD1⟩, ⟨B, e504, hB1⟩⟩⟩ rfl) (fun z => absurd (nI_le (by omega) (by omega)) z)
      | succ w ih =>
        intro i hi hc
        have ec : (nI i).toNatClampNeg = i := nI_clamp (by omega)
        have n1 := df1_le (dflt_0 (hall i (by omega))).1
        have hoki := hok3 i (by omega)
        have hbl := (bok_le hoki.2).1
        have ebe : bend S.1.1 (le S.1.1 (p + 16) 4) i = dat S.1.1 (le S.1.1 (p + 16) 4) i + dbc S.1.1 (le S.1.1 (p + 16) 4) i := rfl
        have hgo : cok S.1.1 (le S.1.1 (p + 16) 4) i → mm_W l G k_M_isWrong 155 [(0, .ref 336), (1, .int (nI i))] [] b M4 (QW G m S hp ot o A hf lim q) := by
          intro g
          refine t_M_isWrong_155 ?_
          rw [nI_1]
          exact ih (i + 1) (by omega) (by rw [hc, csr, ifc_t g])
        have lm : dme S.1.1 (le S.1.1 (p + 16) 4) i < 65536 := le2 _ _
        refine t_M_isWrong_87 W4.1 (by omega) rfl (fun z => absurd z (nI_ge (by omega) (by omega))) (fun _ => t_M_isWrong_95 (Nat.le_of_eq (Nat.zero_add _)) W4.1 (by omega) (s_M_method W4.1 rfl rfl W4.2.1 e84 (by omega) (hD1 i (by omega)) (by omega)) (fun z => hgo (fun g => absurd ?_ z)) (fun z => ?_))
        · have g2 : le S.1.1 (dp S.1.1 (le S.1.1 (p + 16) 4) i + 10) 2 = 0 := g
          rw [g2]
          rfl
        have z : dme S.1.1 (le S.1.1 (p + 16) 4) i = 0 := (nI_eq (b := 0) (by omega) (by omega)).mp z
        have hck := s_M_checkOf (l := l) (G := G) (b := 0) (m := M4) (r := 337) (f := S.1.1) (a := dat S.1.1 (le S.1.1 (p + 16) 4) i) (n := dbc S.1.1 (le S.1.1 (p + 16) 4) i) W4.2.1 (by omega) (by omega)
        have eA : (B (nI i).toNatClampNeg).toInt32 = nI (dat S.1.1 (le S.1.1 (p + 16) 4) i) := by rw [ec, hB1 i (by omega), lN_i]
        have eN : (lN (le S.1.1 (dp S.1.1 (le S.1.1 (p + 16) 4) i + 20) 4)).toInt32 = nI (dbc S.1.1 (le S.1.1 (p + 16) 4) i) := lN_i _
        rw [← eA, ← eN] at hck
        refine t_M_isWrong_103 W4.1 (by omega) rfl rfl e504 (by omega) (vp_in_nI (by omega) (by omega)) (Nat.le_of_eq (Nat.zero_add _)) (s_M_many W4.1 rfl rfl W4.2.1 e84 (by omega) (hD1 i (by omega)) (by omega)) (Nat.le_of_eq (Nat.zero_add _)) hck W4.1 rfl e84 (by omega) (vp_in_nI (by omega) (by omega)) (Nat.le_of_eq (Nat.zero_add _)) (s_M_dck W4.1 rfl W4.2.1 (by omega) (hD1 i (by omega)) (by omega)) (fun y => hgo (fun _ => ?_)) (fun y => ?_)
        · rw [lN_i] at y
          exact y
        · have hno : ¬ cok S.1.1 (le S.1.1 (p + 16) 4) i := fun g => y (by rw [lN_i]; exact g z)
          have hM : mm_W l G k_M_wrong 0 (lv_args 0 [.ref 336, .int 11, .long (B (nI i).toNatClampNeg), .int (nI i)]) [] 0 M4 (mm_is (.inl (some (.int 1))) (va_up M4 336 (.inr (8, ML hp ot 0 (nI S.1.2) (nI S.2.1.2) (nI S.2.2.1.1) (nI (us S)) (11, nI (mn (dat S.1.1 (le S.1.1 (p + 16) 4) i)), nI i) (nI lim, nI p, lN (le S.1.1 (p + 16) 4), nI (le S.1.1 (p + 10) 2), o))))) := by
            rw [ec, hB1 i (by omega)]
            exact s_M_wrong W4.1 11 (by omega) (nI i)
          refine t_M_isWrong_141 W4.1 (by omega) rfl e504 (by omega) (vp_in_nI (by omega) (by omega)) (Nat.le_of_eq (Nat.zero_add _)) hM ⟨FR_tr F34 (FR_up (by omega) (by omega)), Or.inl ⟨(11, nI (dat S.1.1 (le S.1.1 (p + 16) 4) i), nI i), (nI lim, nI p, lN (le S.1.1 (p + 16) 4), nI (le S.1.1 (p + 10) 2), o), by rw [hrd2, hc, csr, ifc_f hno], rfl, ?_⟩⟩ rfl
          have h9 := MW_h W4 0 (11, nI (mn (dat S.1.1 (le S.1.1 (p + 16) 4) i)), nI i) (nI lim, nI p, lN (le S.1.1 (p + 16) 4), nI (le S.1.1 (p + 10) 2), o)
          rw [show mn (dat S.1.1 (le S.1.1 (p + 16) 4) i) = dat S.1.1 (le S.1.1 (p + 16) 4) i by unfold mn; rw [if_neg (by omega)]] at h9 ⊢
          exact h9
    exact ⟨0, by cases hv; rfl, t_M_isWrong_80 (fun _ => t_M_isWrong_85 (L3 _ 0 (Nat.zero_add _) rfl)) (fun z => absurd rfl z)⟩
end MO13
