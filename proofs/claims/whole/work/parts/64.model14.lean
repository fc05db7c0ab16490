/-! the model's read -/
def up2 (A : Nat → Nat → Int32) (a : Nat) (g : Nat → Int32) : Nat → Nat → Int32 := fun c => if c = a then g else A c
theorem up2_s {A : Nat → Nat → Int32} {a : Nat} {g : Nat → Int32} : up2 A a g a = g := if_pos rfl
theorem up2_n {A : Nat → Nat → Int32} {a c : Nat} {g : Nat → Int32} (h : c ≠ a) : up2 A a g c = A c := if_neg h
theorem up2_upd {A : Nat → Nat → Int32} {a c e j : Nat} {v : Int32} (hj : j ≠ e) : up2 A a (upd (A a) e v) c j = A c j := by
  by_cases q : c = a
  · rw [q, up2_s, upd_n hj]
  · rw [up2_n q]
/-- the model while it takes the entries over from the row -/
def MM (G : mm_G) (m0 M : mm_Mem) (H : Int32 → List Value) (hp ot : Nat) (A : Nat → Nat → Int32) (hf : Nat → Int32) (w : Nat) : Prop := M 336 = .inr (8, H (nI w)) ∧ M 339 = aN G (A 339) ∧ (∀ a, 340 ≤ a → a ≤ 345 → M a = aI G (A a)) ∧ M hp = aB G hf ∧ okf hf ∧ ∀ a, (a < 336 ∨ 347 < a ∨ a = 337 ∨ a = 338 ∨ a = ot) → M a = m0 a
section MO14
variable {l : Launch} {G : mm_G} {m m0 M : mm_Mem} {b : Nat} {S : St} {c0 : Int32} {hp ot w : Nat} {A : Nat → Nat → Int32} {hf : Nat → Int32} {H : Int32 → List Value}
theorem MM_ar (X : MM G m0 M H hp ot A hf w) (hs : sw hp ot) (a : Nat) (h1 : 340 ≤ a) (h2 : a ≤ 345) (g : Nat → Int32) : MM G m0 (va_up M a (aI G g)) H hp ot (up2 A a g) hf w := by
  have hs2 : 346 ≤ hp ∧ hp ≤ 347 ∧ 346 ≤ ot ∧ ot ≤ 347 := by unfold sw at hs; omega
  obtain ⟨x1, x2, x3, x4, x5, x6⟩ := X
  refine ⟨(up_n (by omega)).trans x1, ?_, fun c q1 q2 => ?_, (up_n (by omega)).trans x4, x5, fun c hc => (up_n (by omega)).trans (x6 c hc)⟩
  · rw [up_n (by omega), up2_n (by omega)]
    exact x2
  · by_cases q : c = a
    · rw [q, up_s, up2_s]
    · rw [up_n q, up2_n q]
      exact x3 c q1 q2
theorem MM_nm (X : MM G m0 M H hp ot A hf w) (hs : sw hp ot) (g : Nat → Int32) : MM G m0 (va_up M 339 (aN G g)) H hp ot (up2 A 339 g) hf w := by
  have hs2 : 346 ≤ hp ∧ hp ≤ 347 ∧ 346 ≤ ot ∧ ot ≤ 347 := by unfold sw at hs; omega
  obtain ⟨x1, x2, x3, x4, x5, x6⟩ := X
  refine ⟨(up_n (by omega)).trans x1, ?_, fun c q1 q2 => ?_, (up_n (by omega)).trans x4, x5, fun c hc => (up_n (by omega)).trans (x6 c hc)⟩
  · rw [up_s, up2_s]
  · rw [up_n (by omega), up2_n (by omega)]
    exact x3 c q1 q2
theorem MM_hp (X : MM G m0 M H hp ot A hf w) (hs : sw hp ot) {g : Nat → Int32} (hg : okf g) : MM G m0 (va_up M hp (aB G g)) H hp ot A g w := by
  have hs2 : 346 ≤ hp ∧ hp ≤ 347 ∧ 346 ≤ ot ∧ ot ≤ 347 ∧ hp ≠ ot := by unfold sw at hs; omega
  obtain ⟨x1, x2, x3, x4, x5, x6⟩ := X
  exact ⟨(up_n (by omega)).trans x1, (up_n (by omega)).trans x2, fun c q1 q2 => (up_n (by omega)).trans (x3 c q1 q2), up_s, hg, fun c hc => (up_n (by omega)).trans (x6 c hc)⟩
/-- an entry as the model holds it after it was taken from the row -/
def RE (f : Nat → Int32) (d : Nat) (A : Nat → Nat → Int32) (hf : Nat → Int32) (i : Nat) : Prop := A 340 i = nI (dnl f d i) ∧ (∀ j, j < dnl f d i → A 339 (64 * i + j) = nI (dnm f d i j)) ∧ A 341 i = nI (dme f d i) ∧ A 342 i = nI (sum (dbc f d) i) ∧ A 343 i = nI (dbc f d i) ∧ A 344 i = nI (dsz f d i) ∧ A 345 i = nI (dck f d i) ∧ ∀ j, j < dbc f d i → hf (sum (dbc f d) i + j) = f (dat f d i + j)
theorem m_read (h : MP G m S c0) (y : Int32) {q : Nat → Nat} (hq : ¬ (y < 0 ∨ 65536 < y) → spq S.1.1 S.1.2 y.toNatClampNeg q) : MO l G k_M_read [.int y] b m false (o_read S y q) := by
  obtain ⟨hp, ot, x, A, hf, W⟩ := h
  have hS := W.2.2.2.2.2
  have hno : (y < 0 ∨ 65536 < y) → mm_W l G k_M_read 11 [(0, .ref 336), (1, .int y)] [.ref 336] b m (fun v m2 => v = .inl (some (.int (o_read S y q).2.1)) ∧ FR 336 352 m m2 ∧ MP G m2 (o_read S y q).2.2 (nI (o_read S y q).1)) := by
    intro g
    have hr : o_read S y q = (1, 0, S) := if_pos g
    rw [hr]
    exact t_M_read_11 (t_M_read_16 W.1 (by omega) (Nat.le_of_ble_eq_true rfl) up_s (by omega) rfl (fun z => absurd z (by decide)) (fun _ => t_M_read_26 ⟨rfl, MO_c W 1⟩))
  refine t_M_read_0 (fun z => hno (Or.inl z)) (fun z => t_M_read_5 (fun z1 => ?_) (fun z1 => hno (Or.inr (i_nle.mp z1))))
  have hok : ¬ (y < 0 ∨ 65536 < y) := by
    rintro (g | g)
    · exact z g
    · exact i_nlt.mpr z1 g
  have hq := hq hok
  obtain ⟨lim, hlim, rfl⟩ := i_nat (N := 65536) z z1 (by omega)
  have hc : (nI lim).toNatClampNeg = lim := nI_clamp (by omega)
  rw [hc] at hq
  have hor : o_read S (nI lim) q = o_rd S (rd S.1.1 S.1.2 lim q) := by
    unfold o_read
    rw [if_neg hok, hc]
  rw [hor]
  have W1 := MW_h W 0 (0, -1, -1) (nI lim, x.2.1, x.2.2.1, x.2.2.2.1, x.2.2.2.2)
  have F1 : FR 336 352 m (va_up m 336 (.inr (8, ML hp ot 0 (nI S.1.2) (nI S.2.1.2) (nI S.2.2.1.1) (nI (us S)) (0, -1, -1) (nI lim, x.2.1, x.2.2.1, x.2.2.2.1, x.2.2.2.2)))) := FR_up (by omega) (by omega)
  have hM := s_M_isWrong (l := l) (b := 0) (x := (x.2.1, x.2.2.1, x.2.2.2.1)) (S := Sx S (0, -1, -1)) (q := q) W1 hlim hq
  refine t_M_read_15 (t_M_read_16 W.1 (by omega) (Nat.le_of_ble_eq_true rfl) up_s (by omega) rfl (fun _ => t_M_read_28 up_s (by omega) (Nat.le_of_ble_eq_true rfl) up_s (Nat.le_of_ble_eq_true rfl) up_s (Nat.le_of_ble_eq_true rfl) up_s (Nat.le_of_ble_eq_true rfl) ?_ (Nat.le_of_eq (Nat.zero_add _)) W1.1 hM (fun E n hn => ?_) (fun v m0 hn => ?_)) (fun z => absurd (by decide) z))
  · rw [up_uu, up_uu, up_uu, up_uu]
    rfl
  · rcases hn.2 with ⟨r, x2, -, hv, -⟩ | ⟨-, hv, -⟩
    · cases hv
    · cases hv
  obtain ⟨F2, ⟨r, x2, hr, hv, W2⟩ | ⟨hr, hv, p, hg, W2, ⟨D, e8, hD⟩, ⟨B, e50, hB⟩⟩⟩ := hn
  · have hr2 : rd S.1.1 S.1.2 lim q = some r := hr
    rw [hr2]
    refine ⟨1, by cases hv; rfl, t_M_read_52 (fun z => absurd z (by decide)) (fun _ => t_M_read_55 W2.1 (by omega) rfl ⟨rfl, FR_tr F1 F2, hp, ot, x2, A, hf, W2⟩)⟩
  have hr2 : rd S.1.1 S.1.2 lim q = none := hr
  have hD : ∀ j, j < le S.1.1 (p + 10) 2 → D j = nI (dp S.1.1 (le S.1.1 (p + 16) 4) j) := hD
  have hB : ∀ j, j < le S.1.1 (p + 10) 2 → B j = lN (dat S.1.1 (le S.1.1 (p + 16) 4) j) := hB
  obtain ⟨g1, g2, g3, g4, g5⟩ : good S.1.1 S.1.2 lim p := hg
  have eg : got S = (le S.1.1 (p + 10) 2, re S.1.1 (le S.1.1 (p + 16) 4)) := by
    unfold got
    rw [g1]
  have er : o_rd S none = (0, 0, S.1, S.2.1, (le S.1.1 (p + 10) 2, re S.1.1 (le S.1.1 (p + 16) 4)), 0, -1, -1) := by
    show (0, 0, S.1, S.2.1, got S, 0, -1, -1) = _
    rw [eg]
  rw [hr2, er]
  refine ⟨0, by cases hv; rfl, t_M_read_52 (fun _ => ?_) (fun z => absurd rfl z)⟩
  have hplt := lend_lt g1
  obtain ⟨hh, hd, h8⟩ := ebad_n g2
  have hU := hS.1
  have hok8 : okf S.1.1 := hS.2.2.2
  have hnm : ∀ j, j < le S.1.1 (p + 10) 2 → isNm (dnm S.1.1 (le S.1.1 (p + 16) 4) j) (dnl S.1.1 (le S.1.1 (p + 16) 4) j) = true := fun j hj => by
    have k3 := (dflt_0 (g3 j hj)).2.2.1
    cases hb : isNm (dnm S.1.1 (le S.1.1 (p + 16) 4) j) (dnl S.1.1 (le S.1.1 (p + 16) 4) j) with
    | true => rfl
    | false => exact absurd (Or.inl hb) k3
  have hsum : ∀ j, j ≤ le S.1.1 (p + 10) 2 → sum (dbc S.1.1 (le S.1.1 (p + 16) 4)) j ≤ 65536 := by
    intro j hj
    cases j with
    | zero => exact Nat.zero_le _
    | succ j =>
      have h5 := (dflt_0 (g3 j (by omega))).2.2.2.2
      unfold df5 at h5
      omega
  have hbe : ∀ j, j < le S.1.1 (p + 10) 2 → bend S.1.1 (le S.1.1 (p + 16) 4) j ≤ 65536 := fun j hj => by have := (bok_le (g4 j hj).2).1; omega
  have hdp : ∀ j, j < le S.1.1 (p + 10) 2 → dp S.1.1 (le S.1.1 (p + 16) 4) j + 46 + dnl S.1.1 (le S.1.1 (p + 16) 4) j ≤ 65536 := fun j hj => by have := (df1_le (dflt_0 (g3 j hj)).1).2.1; omega
  generalize hde : le S.1.1 (p + 16) 4 = d at *
  generalize hhe : le S.1.1 (p + 10) 2 = n at *
  obtain ⟨w1, w2, w3, ⟨a1, a2, a3, ⟨go, a4, a5⟩, a6, a7⟩, ⟨b1, b2, b3, b4⟩, b5⟩ := W2
  have hsw : 346 ≤ hp ∧ hp ≤ 347 ∧ 346 ≤ ot ∧ ot ≤ 347 ∧ hp ≠ ot := by unfold sw at a7; omega
  let H : Int32 → List Value := fun v => ML hp ot 0 (nI S.1.2) (nI S.2.1.2) (nI n) v (0, -1, -1) (nI lim, nI p, lN d, nI n, x.2.2.2.2)
  have LE : ∀ w e M A2 hf2, e + w = n → MM G m0 M H hp ot A2 hf2 (sum (dbc S.1.1 d) e) → (∀ i, i < e → RE S.1.1 d A2 hf2 i) → mm_W l G k_M_read 75 [(0, .ref 336), (2, .int (nI e))] [] b M (fun v m2 => v = .inl (some (.int 0)) ∧ FR 336 352 m m2 ∧ MP G m2 (S.1, S.2.1, (n, re S.1.1 d), 0, -1, -1) (nI 0)) := by
    intro w
    induction w with
    | zero =>
      intro e M A2 hf2 he X hre
      have e1 : e = n := by omega
      subst e1
      obtain ⟨x1, x2, x3, x4, x5, x6⟩ := X
      refine t_M_read_75 x1 (by omega) rfl (fun _ => t_M_read_268 ⟨rfl, ?_, ?_⟩) (fun z => absurd (nI_le (Nat.le_refl _) (by omega)) z)
      · intro a ha
        exact (x6 a (by omega)).trans (FR_tr F1 F2 a ha)
      · refine ⟨hp, ot, (nI lim, nI p, lN d, nI e, x.2.2.2.2), A2, hf2, x1, (x6 337 (by omega)).trans w2, (x6 338 (by omega)).trans w3, ⟨x2, x3, x4, ⟨go, (x6 ot (by omega)).trans a4, a5⟩, SC_eq a6 (fun a q1 q2 => x6 a (by omega)), a7⟩, ⟨fun i hi => ?_, hh, hsum e (Nat.le_refl _), x5⟩, b5⟩
        have hi : i < e := hi
        obtain ⟨r1, r2, r3, r4, r5, r6, r7, r8⟩ := hre i hi
        obtain ⟨k1, k2, k3⟩ := isNm_ok (hnm i hi)
        refine ⟨r1, k2, fun j hj => ⟨r2 j hj, by have h9 := (k3 j hj).2; show dnm S.1.1 d i j < 128; omega⟩, r3, r5, r6, r7, sum (dbc S.1.1 d) i, r4, ?_, r8⟩
        have s1 := sum_le (dbc S.1.1 d) (show i + 1 ≤ e by omega)
        exact s1
    | succ w ih =>
      intro e M A2 hf2 he X hre
      have ec : (nI e).toNatClampNeg = e := nI_clamp (by omega)
      have hDe := hD e (by omega)
      have hBe := hB e (by omega)
      have hdpe := hdp e (by omega)
      obtain ⟨k1, k2, k3⟩ := isNm_ok (hnm e (by omega))
      have hbee := hbe e (by omega)
      have ebe : bend S.1.1 d e = dat S.1.1 d e + dbc S.1.1 d e := rfl
      have hs1 := hsum (e + 1) (by omega)
      have hs2 : sum (dbc S.1.1 d) (e + 1) = sum (dbc S.1.1 d) e + dbc S.1.1 d e := rfl
      have lnl : dnl S.1.1 d e = le S.1.1 (dp S.1.1 d e + 28) 2 := rfl
      have rowX : ∀ {M A3 hf3 u3}, MM G m0 M H hp ot A3 hf3 u3 → M 337 = aB G S.1.1 := fun X => (X.2.2.2.2.2 337 (by omega)).trans w2
      have dirX : ∀ {M A3 hf3 u3}, MM G m0 M H hp ot A3 hf3 u3 → M 348 = aI G D := fun X => (X.2.2.2.2.2 348 (by omega)).trans e8
      have datX : ∀ {M A3 hf3 u3}, MM G m0 M H hp ot A3 hf3 u3 → M 350 = aL G B := fun X => (X.2.2.2.2.2 350 (by omega)).trans e50
      refine t_M_read_75 X.1 (by omega) rfl (fun z => absurd z (nI_ge (by omega) (by omega))) (fun _ => ?_)
      have X1 := MM_ar X a7 340 (by omega) (by omega) (upd (A2 340) (nI e).toNatClampNeg (nI (le S.1.1 (dp S.1.1 d e + 28) 2)))
      refine t_M_read_83 X.1 (by omega) rfl (Nat.le_of_eq (Nat.zero_add _)) (s_M_nameSize X.1 rfl rfl (rowX X) (dirX X) (by omega) hDe (by omega)) (X.2.2.1 340 (by omega) (by omega)) (by omega) (vp_in_nI (by omega) (by omega)) ?_
      have LN : ∀ r k M A3, k + r = dnl S.1.1 d e → MM G m0 M H hp ot A3 hf2 (sum (dbc S.1.1 d) e) → (∀ c, 340 ≤ c → A3 c = up2 A2 340 (upd (A2 340) (nI e).toNatClampNeg (nI (le S.1.1 (dp S.1.1 d e + 28) 2))) c) → (∀ t, t < 64 * e → A3 339 t = A2 339 t) → (∀ j, j < k → A3 339 (64 * e + j) = nI (dnm S.1.1 d e j)) → mm_W l G k_M_read 96 [(0, .ref 336), (2, .int (nI e)), (3, .int (nI k))] [] b M (fun v m2 => v = .inl (some (.int 0)) ∧ FR 336 352 m m2 ∧ MP G m2 (S.1, S.2.1, (n, re S.1.1 d), 0, -1, -1) (nI 0)) := by
        intro r
        induction r with
        | zero =>
          intro k M A3 hk Y hA hN1 hN2
          refine t_M_read_96 (Nat.le_of_eq (Nat.zero_add _)) Y.1 (by omega) (s_M_nameSize Y.1 rfl rfl (rowX Y) (dirX Y) (by omega) hDe (by omega)) (fun _ => ?_) (fun z => absurd (nI_le (by omega) (by omega)) z)
          have Y2 := MM_ar Y a7 341 (by omega) (by omega) (upd (A3 341) (nI e).toNatClampNeg (nI (le S.1.1 (dp S.1.1 d e + 10) 2)))
          have Y3 := MM_ar Y2 a7 342 (by omega) (by omega) (upd (up2 A3 341 (upd (A3 341) (nI e).toNatClampNeg (nI (le S.1.1 (dp S.1.1 d e + 10) 2))) 342) (nI e).toNatClampNeg (nI (sum (dbc S.1.1 d) e)))
          generalize hA4 : up2 (up2 A3 341 (upd (A3 341) (nI e).toNatClampNeg (nI (le S.1.1 (dp S.1.1 d e + 10) 2)))) 342 (upd (up2 A3 341 (upd (A3 341) (nI e).toNatClampNeg (nI (le S.1.1 (dp S.1.1 d e + 10) 2))) 342) (nI e).toNatClampNeg (nI (sum (dbc S.1.1 d) e))) = A4 at Y3
          have Y4 := MM_ar Y3 a7 343 (by omega) (by omega) (upd (A4 343) (nI e).toNatClampNeg ((lN (le S.1.1 (dp S.1.1 d e + 20) 4)).toInt32))
          generalize hA5 : up2 A4 343 (upd (A4 343) (nI e).toNatClampNeg ((lN (le S.1.1 (dp S.1.1 d e + 20) 4)).toInt32)) = A5 at Y4
          have Y5 := MM_ar Y4 a7 344 (by omega) (by omega) (upd (A5 344) (nI e).toNatClampNeg ((lN (le S.1.1 (dp S.1.1 d e + 24) 4)).toInt32))
          generalize hA6 : up2 A5 344 (upd (A5 344) (nI e).toNatClampNeg ((lN (le S.1.1 (dp S.1.1 d e + 24) 4)).toInt32)) = A6 at Y5
          have Y6 := MM_ar Y5 a7 345 (by omega) (by omega) (upd (A6 345) (nI e).toNatClampNeg ((lN (le S.1.1 (dp S.1.1 d e + 16) 4)).toInt32))
          generalize hA7 : up2 A6 345 (upd (A6 345) (nI e).toNatClampNeg ((lN (le S.1.1 (dp S.1.1 d e + 16) 4)).toInt32)) = A7 at Y6
          refine t_M_read_138 Y.1 (by omega) rfl (Nat.le_of_eq (Nat.zero_add _)) (s_M_method Y.1 rfl rfl (rowX Y) (dirX Y) (by omega) hDe (by omega)) (Y.2.2.1 341 (by omega) (by omega)) (by omega) (vp_in_nI (by omega) (by omega)) Y2.1 rfl rfl (Y2.2.2.1 342 (by omega) (by omega)) (by omega) (vp_in_nI (by omega) (by omega)) Y3.1 rfl (Nat.le_of_eq (Nat.zero_add _)) (s_M_many Y3.1 rfl rfl (rowX Y3) (dirX Y3) (by omega) hDe (by omega)) (Y3.2.2.1 343 (by omega) (by omega)) (by omega) (vp_in_nI (by omega) (by omega)) Y4.1 rfl (Nat.le_of_eq (Nat.zero_add _)) (s_M_size Y4.1 rfl rfl (rowX Y4) (dirX Y4) (by omega) hDe (by omega)) (Y4.2.2.1 344 (by omega) (by omega)) (by omega) (vp_in_nI (by omega) (by omega)) Y5.1 rfl rfl (dirX Y5) (by omega) (vp_in_nI (by omega) (by omega)) (Nat.le_of_eq (Nat.zero_add _)) (s_M_dck Y5.1 rfl (rowX Y5) (by omega) hDe (by omega)) (Y5.2.2.1 345 (by omega) (by omega)) (by omega) (vp_in_nI (by omega) (by omega)) ?_
          have oth : ∀ c j, j ≠ e → 340 ≤ c → A7 c j = A2 c j := by
            intro c j hj hc
            rw [← hA7, ec, up2_upd hj, ← hA6, ec, up2_upd hj, ← hA5, ec, up2_upd hj, ← hA4, ec, up2_upd hj, up2_upd hj, hA c hc, ec, up2_upd hj]
          have n339 : A7 339 = A3 339 := by
            rw [← hA7, up2_n (by omega), ← hA6, up2_n (by omega), ← hA5, up2_n (by omega), ← hA4, up2_n (by omega), up2_n (by omega)]
          have v340 : A7 340 e = nI (dnl S.1.1 d e) := by
            rw [← hA7, up2_n (by omega), ← hA6, up2_n (by omega), ← hA5, up2_n (by omega), ← hA4, up2_n (by omega), up2_n (by omega), hA 340 (by omega), up2_s, ec, upd_s]
            rfl
          have v341 : A7 341 e = nI (dme S.1.1 d e) := by
            rw [← hA7, up2_n (by omega), ← hA6, up2_n (by omega), ← hA5, up2_n (by omega), ← hA4, up2_n (by omega), up2_s, ec, upd_s]
            rfl
          have v342 : A7 342 e = nI (sum (dbc S.1.1 d) e) := by
            rw [← hA7, up2_n (by omega), ← hA6, up2_n (by omega), ← hA5, up2_n (by omega), ← hA4, up2_s, ec, upd_s]
          have v343 : A7 343 e = nI (dbc S.1.1 d e) := by
            rw [← hA7, up2_n (by omega), ← hA6, up2_n (by omega), ← hA5, up2_s, ec, upd_s, lN_i]
            rfl
          have v344 : A7 344 e = nI (dsz S.1.1 d e) := by
            rw [← hA7, up2_n (by omega), ← hA6, up2_s, ec, upd_s, lN_i]
            rfl
          have v345 : A7 345 e = nI (dck S.1.1 d e) := by
            rw [← hA7, up2_s, ec, upd_s, lN_i]
            rfl
          have LB : ∀ r k M hf3, k + r = dbc S.1.1 d e → MM G m0 M H hp ot A7 hf3 (sum (dbc S.1.1 d) e) → (∀ t, t < sum (dbc S.1.1 d) e → hf3 t = hf2 t) → (∀ j, j < k → hf3 (sum (dbc S.1.1 d) e + j) = S.1.1 (dat S.1.1 d e + j)) → mm_W l G k_M_read 206 [(0, .ref 336), (2, .int (nI e)), (3, .int (nI k))] [] b M (fun v m2 => v = .inl (some (.int 0)) ∧ FR 336 352 m m2 ∧ MP G m2 (S.1, S.2.1, (n, re S.1.1 d), 0, -1, -1) (nI 0)) := by
            intro r
            induction r with
            | zero =>
              intro k M hf3 hk Z h31 h32
              refine t_M_read_206 Z.1 (by omega) rfl (Z.2.2.1 343 (by omega) (by omega)) (by omega) (vp_in_nI (by omega) (by omega)) (fun _ => ?_) (fun z => absurd ?_ z)
              · refine t_M_read_247 Z.1 (by omega) rfl rfl (Z.2.2.1 343 (by omega) (by omega)) (by omega) (vp_in_nI (by omega) (by omega)) (Nat.le_of_ble_eq_true rfl) ?_
                rw [nI_1]
                refine ih (e + 1) _ A7 hf3 (by omega) ⟨?_, (up_n (by omega)).trans Z.2.1, fun a q1 q2 => (up_n (by omega)).trans (Z.2.2.1 a q1 q2), (up_n (by omega)).trans Z.2.2.2.1, Z.2.2.2.2.1, fun a ha => (up_n (by omega)).trans (Z.2.2.2.2.2 a ha)⟩ (fun i hi => ?_)
                · rw [up_s, ec, v343, nI_add]
                  rfl
                · by_cases g : i = e
                  · rw [g]
                    exact ⟨v340, fun j hj => by rw [n339]; exact hN2 j (by omega), v341, v342, v343, v344, v345, fun j hj => h32 j (by omega)⟩
                  · obtain ⟨r1, r2, r3, r4, r5, r6, r7, r8⟩ := hre i (by omega)
                    obtain ⟨-, k4, -⟩ := isNm_ok (hnm i (by omega))
                    have s1 := sum_le (dbc S.1.1 d) (show i + 1 ≤ e by omega)
                    have s2 : sum (dbc S.1.1 d) (i + 1) = sum (dbc S.1.1 d) i + dbc S.1.1 d i := rfl
                    refine ⟨(oth _ _ g (by omega)).trans r1, fun j hj => ?_, (oth _ _ g (by omega)).trans r3, (oth _ _ g (by omega)).trans r4, (oth _ _ g (by omega)).trans r5, (oth _ _ g (by omega)).trans r6, (oth _ _ g (by omega)).trans r7, fun j hj => ?_⟩
                    · rw [n339, hN1 _ (by omega)]
                      exact r2 j hj
                    · rw [h31 _ (by omega)]
                      exact r8 j hj
              · rw [ec, v343]
                exact nI_le (by omega) (by omega)
            | succ r ihb =>
              intro k M hf3 hk Z h31 h32
              have eA : (B (nI e).toNatClampNeg).toInt32 + nI k = nI (dat S.1.1 d e + k) := by rw [ec, hBe, lN_i, nI_add]
              have eU : nI (sum (dbc S.1.1 d) e) + nI k = nI (sum (dbc S.1.1 d) e + k) := nI_add _ _
              refine t_M_read_206 Z.1 (by omega) rfl (Z.2.2.1 343 (by omega) (by omega)) (by omega) (vp_in_nI (by omega) (by omega)) (fun z => absurd z ?_) (fun _ => t_M_read_216 Z.1 (by omega) rfl rfl rfl rfl (datX Z) (by omega) (vp_in_nI (by omega) (by omega)) (rowX Z) (by omega) (by rw [eA]; exact vp_in_nI (by omega) (by omega)) Z.2.2.2.1 (by omega) (by rw [eU]; exact vp_in_nI (by omega) (by omega)) rfl ?_)
              · rw [ec, v343]
                exact nI_ge (by omega) (by omega)
              · rw [eA, eU, nI_clamp (by omega), nI_clamp (by omega), vp_nar_byte, hok8, nI_1]
                refine ihb (k + 1) _ _ (by omega) (MM_hp Z a7 (g := upd hf3 (sum (dbc S.1.1 d) e + k) (S.1.1 (dat S.1.1 d e + k))) (fun j => ?_)) (fun t ht => ?_) (fun j hj => ?_)
                · by_cases g : j = sum (dbc S.1.1 d) e + k
                  · rw [g, upd_s]
                    exact hok8 _
                  · rw [upd_n g]
                    exact Z.2.2.2.2.1 j
                · rw [upd_n (by omega)]
                  exact h31 t ht
                · by_cases g : j = k
                  · rw [g, upd_s]
                  · rw [upd_n (by omega)]
                    exact h32 j (by omega)
          exact LB _ 0 _ hf2 (Nat.zero_add _) Y6 (fun _ _ => rfl) (fun j hj => absurd hj (by omega))
        | succ r ihn =>
          intro k M A3 hk Y hA hN1 hN2
          have eA : D (nI e).toNatClampNeg + 46 + nI k = nI (dp S.1.1 d e + 46 + k) := by rw [ec, hDe, show (46 : Int32) = nI 46 from rfl, nI_add, nI_add]
          refine t_M_read_96 (Nat.le_of_eq (Nat.zero_add _)) Y.1 (by omega) (s_M_nameSize Y.1 rfl rfl (rowX Y) (dirX Y) (by omega) hDe (by omega)) (fun z => absurd z (nI_ge (by omega) (by omega))) (fun _ => t_M_read_105 Y.1 (by omega) rfl rfl rfl (dirX Y) (by omega) (vp_in_nI (by omega) (by omega)) (rowX Y) (by omega) (by rw [eA]; exact vp_in_nI (by omega) (by omega)) Y.2.1 (by omega) (by rw [nI_64]; exact vp_in_nI (by omega) (by omega)) ?_)
          rw [eA, nI_64, nI_clamp (by omega), nI_clamp (by omega), nI_1]
          have hch : S.1.1 (dp S.1.1 d e + 46 + k) = nI (dnm S.1.1 d e k) := tb_nI (hok8 _) (by have h9 := (k3 k (by omega)).2; have h8 : dnm S.1.1 d e k = ub (S.1.1 (dp S.1.1 d e + 46 + k)) := rfl; omega)
          refine ihn (k + 1) _ _ (by omega) (MM_nm Y a7 _) (fun c hc => ?_) (fun t ht => ?_) (fun j hj => ?_)
          · rw [up2_n (by omega)]
            exact hA c hc
          · rw [up2_s, upd_n (by omega)]
            exact hN1 t ht
          · rw [up2_s]
            by_cases g : j = k
            · rw [g, upd_s]
              exact hch
            · rw [upd_n (by omega)]
              exact hN2 j (by omega)
      exact LN _ 0 _ _ (Nat.zero_add _) X1 (fun _ _ => rfl) (fun t _ => by rw [up2_n (by omega)]) (fun j hj => absurd hj (by omega))
  refine t_M_read_60 w1 (by omega) rfl (Nat.le_of_ble_eq_true rfl) up_s (Nat.le_of_ble_eq_true rfl) (LE n 0 _ A hf (by omega) ⟨?_, (up_n (by omega)).trans ((up_n (by omega)).trans a1), fun a q1 q2 => (up_n (by omega)).trans ((up_n (by omega)).trans (a2 a q1 q2)), (up_n (by omega)).trans ((up_n (by omega)).trans a3), b4, fun a ha => (up_n (by omega)).trans (up_n (by omega))⟩ (fun i hi => absurd hi (by omega)))
  rw [up_s]
  rfl
end MO14
