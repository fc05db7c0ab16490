/-! the reader: the entries' own heads and bytes -/
theorem mk_tail2 {f : Nat → Int32} {u a : Nat} (ha : a < 2 ^ 30) (hu : u ≤ 65536) : mk f u a 134695760 4 ↔ (a + 4 ≤ u ∧ le f a 4 = 134695760) := by
  by_cases q : a + 4 ≤ u
  · rw [mk_tail q hu]
    exact ⟨fun z => ⟨q, z⟩, fun z => z.2⟩
  · exact ⟨fun z => absurd z (mk_out (by omega) ha (by decide)), fun z => absurd z.1 q⟩
def FE (m : mm_Mem) (f : Nat → Int32) (u d i : Nat) : Prop := ∀ j, j < i → m (206 + 2 * j) = .inr (6, GL (207 + 2 * j) f (dp f d j) (.int (nI (dat f d j))) (.int (nI (tend f u d j))))
section RDE
variable {l : Launch} {G : mm_G} {m m2 : mm_Mem} {b : Nat} {f : Nat → Int32} {u : Nat} {t : Int32 × Int32 × Int32} {x y z : Int32} {ab az : Int64} {p d h : Nat}
theorem L_R_areSame (h4 : m 204 = .inr (7, RF t x y z ab az)) (B : BY G m 2 3 65536 f u) {a c n : Nat} (ha : a + n ≤ u) (hc : c + n ≤ u) : ∀ w i, i + w = n → (∀ j, j < i → ub (f (a + j)) = ub (f (c + j))) → mm_W l G k_R_areSame 3 [(0, .ref 204), (1, .int (nI a)), (2, .int (nI c)), (3, .int (nI n)), (4, .int (nI i))] [] b m (mm_is (.inl (some (.int (bp (nsm f a c n))))) m) := by
  have hu := B.2.2.2.2.2.1
  intro w
  induction w with
  | zero =>
    intro i hi hall
    have hin : i = n := by omega
    subst hin
    refine t_R_areSame_3 (fun _ => t_R_areSame_42 ⟨?_, rfl⟩ rfl) (fun z => absurd (nI_le (by omega) (by omega)) z)
    rw [bp_t (show nsm f a c i from hall)]
  | succ w ih =>
    intro i hi hall
    refine t_R_areSame_3 (fun z => absurd z (nI_ge (by omega) (by omega))) (fun _ => ?_)
    have g1 := s_B_get (l := l) (b := 0) B (nI (a + i))
    rw [bget_in (by omega) (by omega), ← nI_add] at g1
    have g2 := s_B_get (l := l) (b := 0) B (nI (c + i))
    rw [bget_in (by omega) (by omega), ← nI_add] at g2
    have u1 := ub_lt (f (a + i))
    have u2 := ub_lt (f (c + i))
    refine t_R_areSame_9 h4 (by omega) rfl (Nat.le_of_eq (Nat.zero_add _)) B.1 (by omega) g1 h4 rfl (Nat.le_of_eq (Nat.zero_add _)) B.1 (by omega) g2 (fun w1 => ?_) (fun w1 => ?_)
    · have w1 := (nI_eq (by omega) (by omega)).mp w1
      refine t_R_areSame_36 ?_
      rw [nI_1]
      refine ih (i + 1) (by omega) (fun j hj => ?_)
      by_cases q : j = i
      · rw [q]; exact w1
      · exact hall j (by omega)
    · refine t_R_areSame_34 ⟨?_, rfl⟩ rfl
      rw [bp_f]
      intro q
      exact w1 (by rw [q i (by omega)])
theorem s_R_areSame (h4 : m 204 = .inr (7, RF t x y z ab az)) (B : BY G m 2 3 65536 f u) {a c n : Nat} (ha : a + n ≤ u) (hc : c + n ≤ u) : mm_W l G k_R_areSame 0 (lv_args 0 [.ref 204, .int (nI a), .int (nI c), .int (nI n)]) [] b m (mm_is (.inl (some (.int (bp (nsm f a c n))))) m) :=
  t_R_areSame_0 (L_R_areSame h4 B ha hc n 0 (by omega) (fun j hj => absurd hj (by omega)))
theorem s_R_agrees {i x y : Nat} (hx : x < 4294967296) (hy : y < 4294967296) : mm_W l G k_R_agrees 0 (lv_args 0 [.long (lN x), .long (lN y), .int (bp (tl f d i))]) [] b m (mm_is (.inl (some (.int (bp (agr f d i x y))))) m) := by
  refine t_R_agrees_0 (fun w1 => ?_) (fun w1 => ?_)
  · rw [lg_cmp_eq, lN_eqB (by omega) (by omega)] at w1
    refine t_R_agrees_17 (t_R_agrees_22 ⟨?_, rfl⟩ rfl)
    rw [bp_t (show agr f d i x y from Or.inl w1)]
  · rw [lg_cmp_eq, lN_eqB (by omega) (by omega)] at w1
    refine t_R_agrees_6 (fun w2 => ?_) (fun w2 => ?_)
    · refine t_R_agrees_21 (t_R_agrees_22 ⟨?_, rfl⟩ rfl)
      rw [bp_f]
      rintro (q | q)
      · exact w1 q
      · exact bp_0.mp w2 q.1
    · refine t_R_agrees_11 (fun w3 => ?_) (fun w3 => ?_)
      · rw [lg_cmp_eq, show (0 : Int64) = lN 0 from rfl, lN_eqB (by omega) (by omega)] at w3
        refine t_R_agrees_21 (t_R_agrees_22 ⟨?_, rfl⟩ rfl)
        rw [bp_f]
        rintro (q | q)
        · exact w1 q
        · exact w3 q.2
      · rw [lg_cmp_eq, show (0 : Int64) = lN 0 from rfl, lN_eqB (by omega) (by omega)] at w3
        refine t_R_agrees_17 (t_R_agrees_22 ⟨?_, rfl⟩ rfl)
        rw [bp_t (show agr f d i x y from Or.inr ⟨bp_n0 w2, w3⟩)]
theorem hasTl {i a2 : Nat} (h : m a2 = .inr (5, FL f (dp f d i + 6))) (h0 : a2 ≠ 0) : mm_W l G k_F_hasTail 0 (lv_args 0 [.ref a2]) [] b m (mm_is (.inl (some (.int (bp (tl f d i))))) m) := by
  have h := s_F_hasTail (l := l) (b := b) (G := G) (fl := dfl f d i) h h0
  rw [bp_b1] at h
  exact h
/-- isHeadSound, of entry i -/
theorem s_R_isHeadSound {i : Nat} {fb en : Value} (hR : RS G m) (B : BY G m 2 3 65536 f u) (h4 : m 204 = .inr (7, RF t (nI p) (nI d) (nI h) ab az)) (g1 : m (206 + 2 * i) = .inr (6, GL (207 + 2 * i) f (dp f d i) fb en)) (g2 : m (207 + 2 * i) = .inr (5, FL f (dp f d i + 6))) (hi : i < 64) (hp : p + 22 ≤ u) (hd : d ≤ p) (hdp : dp f d (i + 1) ≤ p) : mm_W l G k_R_isHeadSound 0 (lv_args 0 [.ref 204, .ref (206 + 2 * i)]) [] b m (fun v m2 => v = .inl (some (.int (bp (hok f d i)))) ∧ (∀ a, a ≠ 334 → a ≠ 206 + 2 * i → m2 a = m a) ∧ RS G m2 ∧ (hok f d i → m2 (206 + 2 * i) = .inr (6, GL (207 + 2 * i) f (dp f d i) (.int (nI (dat f d i))) en))) := by
  have hu := B.2.2.2.2.2.1
  have hhd : dhd f d i < 4294967296 := le4 f _
  have hge := dp_ge f d i
  have hdpi := dp_mono f d (show 0 ≤ i by omega)
  have e30 : lg_cmp (lN (dhd f d i)) ((nI d - 30).toInt64) ≤ 0 ↔ dhd f d i + 30 ≤ d := by
    rw [lg_cmp_le, Int64.le_iff_toInt_le, lN_int (by omega), Int32.toInt_toInt64, show (30 : Int32) = nI 30 from rfl, pk_sub_toInt (by omega) (by omega)]
    omega
  refine t_R_isHeadSound_0 g1 (by omega) rfl h4 (by omega) rfl (fun w1 => ?_) (fun w1 => ?_)
  · have w1 := e30.mp w1
    obtain ⟨v0, v1, v2, v3, v4, v5, v6, r4⟩ := hR.2.2.1
    have l26 := le2 f (dhd f d i + 26)
    have l28 := le2 f (dhd f d i + 28)
    have hdat : dat f d i = dhd f d i + 30 + le f (dhd f d i + 26) 2 + le f (dhd f d i + 28) 2 := rfl
    have hM := s_F_takeFrom (l := l) (b := 0) r4 (by omega) B (by omega) (by omega) (v := dhd f d i + 4) (by omega)
    have e4 : (lN (dhd f d i)).toInt32 + 4 = nI (dhd f d i + 4) := by rw [lN_i]; exact nI_add _ 4
    rw [← e4] at hM
    have efb : (lN (dhd f d i)).toInt32 + 30 + nI (le f (dhd f d i + 4 + 22) 2) + nI (le f (dhd f d i + 4 + 24) 2) = nI (dat f d i) := by
      rw [lN_i, show (30 : Int32) = nI 30 from rfl, nI_add, nI_add, nI_add]
      rfl
    have eM : va_up (va_up m 334 (.inr (5, FL f (dhd f d i + 4)))) (206 + 2 * i) (.inr (6, (GL (207 + 2 * i) f (dp f d i) fb en).set 4 (.int ((lN (dhd f d i)).toInt32 + 30 + nI (le f (dhd f d i + 4 + 22) 2) + nI (le f (dhd f d i + 4 + 24) 2))))) = va_up (va_up m 334 (.inr (5, FL f (dhd f d i + 4)))) (206 + 2 * i) (.inr (6, GL (207 + 2 * i) f (dp f d i) (.int (nI (dat f d i))) en)) := by
      rw [efb]
      rfl
    have R1 : RS G (va_up (va_up m 334 (.inr (5, FL f (dhd f d i + 4)))) (206 + 2 * i) (.inr (6, GL (207 + 2 * i) f (dp f d i) (.int (nI (dat f d i))) en))) := RS_G (RS_334 hR) hi
    have B1 : BY G (va_up (va_up m 334 (.inr (5, FL f (dhd f d i + 4)))) (206 + 2 * i) (.inr (6, GL (207 + 2 * i) f (dp f d i) (.int (nI (dat f d i))) en))) 2 3 65536 f u := BY_up (BY_up B (by omega) (by omega)) (by omega) (by omega)
    have c4 : va_up (va_up m 334 (.inr (5, FL f (dhd f d i + 4)))) (206 + 2 * i) (.inr (6, GL (207 + 2 * i) f (dp f d i) (.int (nI (dat f d i))) en)) 204 = .inr (7, RF t (nI p) (nI d) (nI h) ab az) := ((up_n (by omega)).trans (up_n (by omega))).trans h4
    have c1 : va_up (va_up m 334 (.inr (5, FL f (dhd f d i + 4)))) (206 + 2 * i) (.inr (6, GL (207 + 2 * i) f (dp f d i) (.int (nI (dat f d i))) en)) (206 + 2 * i) = .inr (6, GL (207 + 2 * i) f (dp f d i) (.int (nI (dat f d i))) en) := up_s
    have c2 : va_up (va_up m 334 (.inr (5, FL f (dhd f d i + 4)))) (206 + 2 * i) (.inr (6, GL (207 + 2 * i) f (dp f d i) (.int (nI (dat f d i))) en)) (207 + 2 * i) = .inr (5, FL f (dp f d i + 6)) := ((up_n (by omega)).trans (up_n (by omega))).trans g2
    have c3 : va_up (va_up m 334 (.inr (5, FL f (dhd f d i + 4)))) (206 + 2 * i) (.inr (6, GL (207 + 2 * i) f (dp f d i) (.int (nI (dat f d i))) en)) 334 = .inr (5, FL f (dhd f d i + 4)) := (up_n (by omega)).trans up_s
    have cF : ∀ a, a ≠ 334 → a ≠ 206 + 2 * i → va_up (va_up m 334 (.inr (5, FL f (dhd f d i + 4)))) (206 + 2 * i) (.inr (6, GL (207 + 2 * i) f (dp f d i) (.int (nI (dat f d i))) en)) a = m a := fun a q1 q2 => (up_n q2).trans (up_n q1)
    have hT := hasTl (l := l) (b := 0) (G := G) (f := f) (d := d) (i := i) c2 (by omega)
    rw [← eM] at hT
    refine t_R_isHeadSound_18 g1 (by omega) rfl rfl h4 (by omega) rfl rfl (Nat.le_of_eq (Nat.zero_add _)) r4 (by omega) hM ((up_n (by omega)).trans h4) rfl up_s (by omega) rfl rfl ((up_n (by omega)).trans g1) (Nat.le_of_ble_eq_true rfl) (Nat.le_of_eq (Nat.zero_add _)) ((congrFun eM _).trans c2) (by omega) hT ((congrFun eM _).trans c1) rfl ((congrFun eM _).trans c4) rfl (fun w2 => mm_eqm eM.symm ?_) (fun w2 => mm_eqm eM.symm ?_)
    · generalize va_up (va_up m 334 (.inr (5, FL f (dhd f d i + 4)))) (206 + 2 * i) (.inr (6, GL (207 + 2 * i) f (dp f d i) (.int (nI (dat f d i))) en)) = m1 at R1 B1 c1 c2 c3 c4 cF ⊢
      have w2 := (nI_ltI (a := d) (b := dat f d i) (by omega) (by omega)).mp w2
      refine t_R_isHeadSound_221 (t_R_isHeadSound_222 ⟨?_, cF, R1, fun q => absurd q.1.2.2 (by omega)⟩ rfl)
      rw [bp_f (fun q => absurd q.1.2.2 (by omega))]
    · generalize va_up (va_up m 334 (.inr (5, FL f (dhd f d i + 4)))) (206 + 2 * i) (.inr (6, GL (207 + 2 * i) f (dp f d i) (.int (nI (dat f d i))) en)) = m1 at R1 B1 c1 c2 c3 c4 cF ⊢
      have w2 : dat f d i ≤ d := Nat.le_of_not_lt (fun q => w2 ((nI_ltI (a := d) (b := dat f d i) (by omega) (by omega)).mpr q))
      rw [lN_i]
      have hno : ¬ hok f d i → mm_W l G k_R_isHeadSound 221 [] [] b m1 (fun v m2 => v = .inl (some (.int (bp (hok f d i)))) ∧ (∀ a, a ≠ 334 → a ≠ 206 + 2 * i → m2 a = m a) ∧ RS G m2 ∧ (hok f d i → m2 (206 + 2 * i) = .inr (6, GL (207 + 2 * i) f (dp f d i) (.int (nI (dat f d i))) en))) := by
        intro q
        exact t_R_isHeadSound_221 (t_R_isHeadSound_222 ⟨by rw [bp_f q], cF, R1, fun q2 => absurd q2 q⟩ rfl)
      have i1 := le2 f (dhd f d i + 6)
      have i2 := le2 f (dhd f d i + 8)
      have i3 : dfl f d i < 65536 := le2 f _
      have i4 : dme f d i < 65536 := le2 f _
      have i5 : dnl f d i < 65536 := le2 f _
      refine t_R_isHeadSound_88 c4 (by omega) rfl (Nat.le_of_eq (Nat.zero_add _)) B1.1 (by omega) (hmark B1 (a := dhd f d i) (by omega) 67324752) (fun w3 => ?_) (fun w3 => ?_)
      · have w3 := bp_0.mp w3
        rw [mk_head (by omega) (by omega)] at w3
        exact hno (fun q => w3 q.1.2.1)
      · have w3 := bp_n0 w3
        rw [mk_head (by omega) (by omega)] at w3
        refine t_R_isHeadSound_101 c4 (by omega) rfl c3 (by omega) rfl c2 (by omega) rfl (fun w4 => ?_) (fun w4 => ?_)
        · refine hno (fun q => w4 ?_)
          show nI (le f (dhd f d i + 8) 2) = nI (dme f d i)
          rw [q.2.2.1]
        · have w4 : le f (dhd f d i + 8) 2 = dme f d i := (nI_eq (by omega) (by omega)).mp w4
          refine t_R_isHeadSound_115 c4 (by omega) rfl c3 (by omega) rfl c2 (by omega) rfl (fun w5 => ?_) (fun w5 => ?_)
          · refine hno (fun q => w5 ?_)
            show nI (le f (dhd f d i + 6) 2) = nI (dfl f d i)
            rw [q.2.1]
          · have w5 : le f (dhd f d i + 6) 2 = dfl f d i := (nI_eq (by omega) (by omega)).mp w5
            refine t_R_isHeadSound_129 c4 (by omega) rfl c3 (by omega) rfl c2 (by omega) rfl (fun w6 => ?_) (fun w6 => ?_)
            · refine hno (fun q => w6 ?_)
              show nI (le f (dhd f d i + 26) 2) = nI (dnl f d i)
              rw [q.2.2.2.1]
            · have w6 : le f (dhd f d i + 26) 2 = dnl f d i := (nI_eq (by omega) (by omega)).mp w6
              have hS := s_R_areSame (l := l) (b := 0) c4 B1 (a := dhd f d i + 30) (c := dp f d i + 46) (n := dnl f d i) (by omega) (by omega)
              rw [← nI_add] at hS
              refine t_R_isHeadSound_143 c1 (by omega) rfl c2 (by omega) rfl (Nat.le_of_eq (Nat.zero_add _)) c4 (by omega) hS (fun w7 => ?_) (fun w7 => ?_)
              · exact hno (fun q => bp_0.mp w7 q.2.2.2.2.1)
              · have w7 := bp_n0 w7
                refine t_R_isHeadSound_160 c4 (by omega) rfl c3 (by omega) rfl c2 (by omega) rfl (Nat.le_of_eq (Nat.zero_add _)) (s_R_agrees (i := i) (x := le f (dhd f d i + 14) 4) (y := dck f d i) (le4 f _) (le4 f _)) (fun w8 => ?_) (fun w8 => ?_)
                · exact hno (fun q => bp_0.mp w8 q.2.2.2.2.2.1)
                · have w8 := bp_n0 w8
                  refine t_R_isHeadSound_179 c4 (by omega) rfl c3 (by omega) rfl c2 (by omega) rfl (Nat.le_of_eq (Nat.zero_add _)) (s_R_agrees (i := i) (x := le f (dhd f d i + 18) 4) (y := dbc f d i) (le4 f _) (le4 f _)) (fun w9 => ?_) (fun w9 => ?_)
                  · exact hno (fun q => bp_0.mp w9 q.2.2.2.2.2.2.1)
                  · have w9 := bp_n0 w9
                    refine t_R_isHeadSound_198 c4 (by omega) rfl c3 (by omega) rfl c2 (by omega) rfl (Nat.le_of_eq (Nat.zero_add _)) (s_R_agrees (i := i) (x := le f (dhd f d i + 22) 4) (y := dsz f d i) (le4 f _) (le4 f _)) (fun wa => ?_) (fun wa => ?_)
                    · exact hno (fun q => bp_0.mp wa q.2.2.2.2.2.2.2)
                    · have wa := bp_n0 wa
                      have hk : hok f d i := ⟨⟨w1, w3, w2⟩, w5, w4, w6, w7, w8, w9, wa⟩
                      exact t_R_isHeadSound_217 (t_R_isHeadSound_222 ⟨by rw [bp_t hk], cF, R1, fun _ => c1⟩ rfl)
  · have w1 := fun q => w1 (e30.mpr q)
    exact t_R_isHeadSound_16 ⟨by rw [bp_f (fun q => w1 q.1.1)], fun _ _ _ => rfl, hR, fun q => absurd q.1.1 w1⟩ rfl
/-- areBytesSound, of entry i -/
theorem s_R_areBytesSound {i : Nat} {en : Value} (hR : RS G m) (B : BY G m 2 3 65536 f u) (h4 : m 204 = .inr (7, RF t (nI p) (nI d) (nI h) ab az)) (g1 : m (206 + 2 * i) = .inr (6, GL (207 + 2 * i) f (dp f d i) (.int (nI (dat f d i))) en)) (g2 : m (207 + 2 * i) = .inr (5, FL f (dp f d i + 6))) (hi : i < 64) (hp : p + 22 ≤ u) (hd : d ≤ p) (hda : dat f d i ≤ d) (hbc : dbc f d i ≤ 65536) : mm_W l G k_R_areBytesSound 0 (lv_args 0 [.ref 204, .ref (206 + 2 * i)]) [] b m (fun v m2 => v = .inl (some (.int (bp (bok f u d i)))) ∧ (∀ a, a ≠ 206 + 2 * i → m2 a = m a) ∧ RS G m2 ∧ (bok f u d i → m2 (206 + 2 * i) = .inr (6, GL (207 + 2 * i) f (dp f d i) (.int (nI (dat f d i))) (.int (nI (tend f u d i)))))) := by
  have hu := B.2.2.2.2.2.1
  have hbe : bend f d i = dat f d i + dbc f d i := rfl
  have eB : nI (dat f d i) + (lN (dbc f d i)).toInt32 = nI (bend f d i) := by rw [lN_i, nI_add]; rfl
  have eM : va_up m (206 + 2 * i) (.inr (6, (GL (207 + 2 * i) f (dp f d i) (.int (nI (dat f d i))) en).set 5 (.int (nI (dat f d i) + (lN (dbc f d i)).toInt32)))) = va_up m (206 + 2 * i) (.inr (6, GL (207 + 2 * i) f (dp f d i) (.int (nI (dat f d i))) (.int (nI (bend f d i))))) := by
    rw [eB]
    rfl
  have R1 : RS G (va_up m (206 + 2 * i) (.inr (6, GL (207 + 2 * i) f (dp f d i) (.int (nI (dat f d i))) (.int (nI (bend f d i)))))) := RS_G hR hi
  have B1 : BY G (va_up m (206 + 2 * i) (.inr (6, GL (207 + 2 * i) f (dp f d i) (.int (nI (dat f d i))) (.int (nI (bend f d i)))))) 2 3 65536 f u := BY_up B (by omega) (by omega)
  have c4 : va_up m (206 + 2 * i) (.inr (6, GL (207 + 2 * i) f (dp f d i) (.int (nI (dat f d i))) (.int (nI (bend f d i))))) 204 = .inr (7, RF t (nI p) (nI d) (nI h) ab az) := (up_n (by omega)).trans h4
  have c1 : va_up m (206 + 2 * i) (.inr (6, GL (207 + 2 * i) f (dp f d i) (.int (nI (dat f d i))) (.int (nI (bend f d i))))) (206 + 2 * i) = .inr (6, GL (207 + 2 * i) f (dp f d i) (.int (nI (dat f d i))) (.int (nI (bend f d i)))) := up_s
  have c2 : va_up m (206 + 2 * i) (.inr (6, GL (207 + 2 * i) f (dp f d i) (.int (nI (dat f d i))) (.int (nI (bend f d i))))) (207 + 2 * i) = .inr (5, FL f (dp f d i + 6)) := (up_n (by omega)).trans g2
  have cF : ∀ a, a ≠ 206 + 2 * i → va_up m (206 + 2 * i) (.inr (6, GL (207 + 2 * i) f (dp f d i) (.int (nI (dat f d i))) (.int (nI (bend f d i))))) a = m a := fun a q => up_n q
  have hT := hasTl (l := l) (b := 0) (G := G) (f := f) (d := d) (i := i) c2 (by omega)
  rw [← eM] at hT
  refine t_R_areBytesSound_0 g1 (by omega) rfl rfl g2 (by omega) rfl (Nat.le_of_ble_eq_true rfl) (Nat.le_of_eq (Nat.zero_add _)) ((congrFun eM _).trans c2) hT (fun w1 => mm_eqm eM.symm ?_) (fun w1 => mm_eqm eM.symm ?_)
  · have w1 := bp_n0 w1
    generalize va_up m (206 + 2 * i) (.inr (6, GL (207 + 2 * i) f (dp f d i) (.int (nI (dat f d i))) (.int (nI (bend f d i))))) = m1 at R1 B1 c1 c2 c4 cF ⊢
    rw [show nI (dat f d i) + (lN (le f (dp f d i + 6 + 14) 4)).toInt32 = nI (bend f d i) from eB]
    have eok : bok f u d i = bok1 f u d i := ifc_t w1
    have ete : tend f u d i = tat f u d i + 12 := ifc_t w1
    have htat : tat f u d i ≤ bend f d i + 4 := by
      unfold tat
      by_cases q : bend f d i + 4 ≤ u ∧ le f (bend f d i) 4 = 134695760
      · rw [ifc_t q]; exact Nat.le_refl _
      · rw [ifc_f q]; omega
    have h62 : mm_W l G k_R_areBytesSound 62 [(0, .ref 204), (1, .ref (206 + 2 * i)), (2, .ref (207 + 2 * i))] [.int (nI (tat f u d i))] b m1 (fun v m2 => v = .inl (some (.int (bp (bok f u d i)))) ∧ (∀ a, a ≠ 206 + 2 * i → m2 a = m a) ∧ RS G m2 ∧ (bok f u d i → m2 (206 + 2 * i) = .inr (6, GL (207 + 2 * i) f (dp f d i) (.int (nI (dat f d i))) (.int (nI (tend f u d i)))))) := by
      have e12 : nI (tat f u d i) + 12 = nI (tend f u d i) := by rw [ete]; exact nI_add _ 12
      have eM2 : va_up m1 (206 + 2 * i) (.inr (6, (GL (207 + 2 * i) f (dp f d i) (.int (nI (dat f d i))) (.int (nI (bend f d i)))).set 5 (.int (nI (tat f u d i) + 12)))) = va_up m1 (206 + 2 * i) (.inr (6, GL (207 + 2 * i) f (dp f d i) (.int (nI (dat f d i))) (.int (nI (tend f u d i))))) := by
        rw [e12]
        rfl
      have R2 : RS G (va_up m1 (206 + 2 * i) (.inr (6, GL (207 + 2 * i) f (dp f d i) (.int (nI (dat f d i))) (.int (nI (tend f u d i)))))) := RS_G R1 hi
      have B2 : BY G (va_up m1 (206 + 2 * i) (.inr (6, GL (207 + 2 * i) f (dp f d i) (.int (nI (dat f d i))) (.int (nI (tend f u d i)))))) 2 3 65536 f u := BY_up B1 (by omega) (by omega)
      have d4 : va_up m1 (206 + 2 * i) (.inr (6, GL (207 + 2 * i) f (dp f d i) (.int (nI (dat f d i))) (.int (nI (tend f u d i))))) 204 = .inr (7, RF t (nI p) (nI d) (nI h) ab az) := (up_n (by omega)).trans c4
      have d1 : va_up m1 (206 + 2 * i) (.inr (6, GL (207 + 2 * i) f (dp f d i) (.int (nI (dat f d i))) (.int (nI (tend f u d i))))) (206 + 2 * i) = .inr (6, GL (207 + 2 * i) f (dp f d i) (.int (nI (dat f d i))) (.int (nI (tend f u d i)))) := up_s
      have d2 : va_up m1 (206 + 2 * i) (.inr (6, GL (207 + 2 * i) f (dp f d i) (.int (nI (dat f d i))) (.int (nI (tend f u d i))))) (207 + 2 * i) = .inr (5, FL f (dp f d i + 6)) := (up_n (by omega)).trans c2
      have dF : ∀ a, a ≠ 206 + 2 * i → va_up m1 (206 + 2 * i) (.inr (6, GL (207 + 2 * i) f (dp f d i) (.int (nI (dat f d i))) (.int (nI (tend f u d i))))) a = m a := fun a q => (up_n q).trans (cF a q)
      refine t_R_areBytesSound_62 c1 (by omega) (Nat.le_of_ble_eq_true rfl) ((congrFun eM2 _).trans d1) rfl ((congrFun eM2 _).trans d4) (by omega) rfl (fun w2 => mm_eqm eM2.symm ?_) (fun w2 => mm_eqm eM2.symm ?_)
      · generalize va_up m1 (206 + 2 * i) (.inr (6, GL (207 + 2 * i) f (dp f d i) (.int (nI (dat f d i))) (.int (nI (tend f u d i))))) = m3 at R2 B2 d1 d2 d4 dF ⊢
        have w2 := (nI_ltI (a := d) (b := tend f u d i) (by omega) (by omega)).mp w2
        have hno : ¬ bok f u d i := fun q => by have := (bok_le q).2; omega
        exact t_R_areBytesSound_147 (t_R_areBytesSound_148 ⟨by rw [bp_f hno], dF, R2, fun q => absurd q hno⟩ rfl)
      · generalize va_up m1 (206 + 2 * i) (.inr (6, GL (207 + 2 * i) f (dp f d i) (.int (nI (dat f d i))) (.int (nI (tend f u d i))))) = m3 at R2 B2 d1 d2 d4 dF ⊢
        have w2 : tend f u d i ≤ d := Nat.le_of_not_lt (fun q => w2 ((nI_ltI (a := d) (b := tend f u d i) (by omega) (by omega)).mpr q))
        have hno : ¬ bok f u d i → mm_W l G k_R_areBytesSound 147 [] [] b m3 (fun v m2 => v = .inl (some (.int (bp (bok f u d i)))) ∧ (∀ a, a ≠ 206 + 2 * i → m2 a = m a) ∧ RS G m2 ∧ (bok f u d i → m2 (206 + 2 * i) = .inr (6, GL (207 + 2 * i) f (dp f d i) (.int (nI (dat f d i))) (.int (nI (tend f u d i)))))) := by
          intro q
          exact t_R_areBytesSound_147 (t_R_areBytesSound_148 ⟨by rw [bp_f q], dF, R2, fun q2 => absurd q2 q⟩ rfl)
        have i1 := le4 f (tat f u d i)
        have i2 := le4 f (tat f u d i + 4)
        have i3 := le4 f (tat f u d i + 8)
        have i4 : dck f d i < 4294967296 := le4 f _
        have i5 : dsz f d i < 4294967296 := le4 f _
        have eqL : ∀ {a c : Nat}, a < 4294967296 → c < 4294967296 → (lg_cmp (lN a) (lN c) = 0 ↔ a = c) := fun ha hc => by rw [lg_cmp_eq, lN_eqB (by omega) (by omega)]
        refine t_R_areBytesSound_84 d4 (by omega) rfl (Nat.le_of_eq (Nat.zero_add _)) B2.1 (by omega) (s_B_numberI B2 (a := tat f u d i) (w := 4) (by omega) (by omega)) d2 (by omega) rfl (fun w3 => ?_) (fun w3 => ?_)
        · refine hno (fun q => w3 ?_)
          rw [eok] at q
          exact (eqL i1 i4).mpr q.2.1
        · have w3 := (eqL (c := dck f d i) i1 i4).mp w3
          refine t_R_areBytesSound_102 d4 (by omega) rfl (Nat.le_of_eq (Nat.zero_add _)) B2.1 (by omega) (num_at B2 (tat f u d i) 4 4 (by omega) (by omega)) d2 (by omega) rfl (fun w4 => ?_) (fun w4 => ?_)
          · refine hno (fun q => w4 ?_)
            rw [eok] at q
            exact (eqL i2 (le4 f _)).mpr q.2.2.1
          · have w4 := (eqL (c := dbc f d i) i2 (le4 f _)).mp w4
            refine t_R_areBytesSound_122 d4 (by omega) rfl (Nat.le_of_eq (Nat.zero_add _)) B2.1 (by omega) (num_at B2 (tat f u d i) 8 4 (by omega) (by omega)) d2 (by omega) rfl (fun w5 => ?_) (fun w5 => ?_)
            · refine hno (fun q => w5 ?_)
              rw [eok] at q
              exact (eqL i3 i5).mpr q.2.2.2
            · have w5 := (eqL (c := dsz f d i) i3 i5).mp w5
              have hk : bok f u d i := by
                rw [eok]
                exact ⟨by omega, w3, w4, w5⟩
              exact t_R_areBytesSound_143 (t_R_areBytesSound_148 ⟨by rw [bp_t hk], dF, R2, fun _ => d1⟩ rfl)
    refine t_R_areBytesSound_42 c4 (by omega) rfl (Nat.le_of_eq (Nat.zero_add _)) B1.1 (by omega) (hmark B1 (a := bend f d i) (by omega) 134695760) (fun w2 => ?_) (fun w2 => ?_)
    · have w2 := bp_0.mp w2
      rw [mk_tail2 (by omega) (by omega)] at w2
      have e : tat f u d i = bend f d i := ifc_f w2
      rw [e] at h62
      exact t_R_areBytesSound_61 h62
    · have w2 := bp_n0 w2
      rw [mk_tail2 (by omega) (by omega)] at w2
      have e : tat f u d i = bend f d i + 4 := ifc_t w2
      rw [e] at h62
      refine t_R_areBytesSound_55 ?_
      rw [show nI (bend f d i) + 4 = nI (bend f d i + 4) from nI_add _ 4]
      exact h62
  · have w1 := bp_0.mp w1
    generalize va_up m (206 + 2 * i) (.inr (6, GL (207 + 2 * i) f (dp f d i) (.int (nI (dat f d i))) (.int (nI (bend f d i))))) = m1 at R1 B1 c1 c2 c4 cF ⊢
    rw [show nI (dat f d i) + (lN (le f (dp f d i + 6 + 14) 4)).toInt32 = nI (bend f d i) from eB]
    have eok : bok f u d i = (bend f d i ≤ d) := ifc_f w1
    have ete : tend f u d i = bend f d i := ifc_f w1
    refine t_R_areBytesSound_28 c4 (by omega) rfl (fun w2 => ?_) (fun w2 => ?_)
    · have w2 := (nI_ltI (a := d) (b := bend f d i) (by omega) (by omega)).mp w2
      have hno : ¬ bok f u d i := by rw [eok]; omega
      exact t_R_areBytesSound_40 (t_R_areBytesSound_41 ⟨by rw [bp_f hno], cF, R1, fun q => absurd q hno⟩ rfl)
    · have w2 : bend f d i ≤ d := Nat.le_of_not_lt (fun q => w2 ((nI_ltI (a := d) (b := bend f d i) (by omega) (by omega)).mpr q))
      have hk : bok f u d i := by rw [eok]; exact w2
      refine t_R_areBytesSound_36 (t_R_areBytesSound_41 ⟨by rw [bp_t hk], cF, R1, fun _ => ?_⟩ rfl)
      rw [ete]
      exact c1
theorem mn_eq {a : Nat} (h : a < 4294967296) : (if (65536 : Int64) < lN a then (65536 : Int64) else lN a).toInt32 = nI (mn a) := by
  have e : (65536 : Int64) < lN a ↔ 65536 < a := lN_ltB (a := 65536) (by omega) (by omega)
  unfold mn
  by_cases q : 65536 < a
  · rw [if_pos q, if_pos (e.mpr q)]
    exact lN_i 65536
  · rw [if_neg q, if_neg (fun z => q (e.mp z))]
    exact lN_i a
/-- examineEntries -/
theorem L_R_examineEntries {m0 : mm_Mem} (hp : p + 22 ≤ u) (hu : u ≤ 65536) (hd : d ≤ p) (hh : h ≤ 64) (hbc : ∀ j, j < h → dbc f d j ≤ 65536) : ∀ w i m, i + w = h → RS G m → BY G m 2 3 65536 f u → FR 204 335 m0 m → m 204 = .inr (7, RF t (nI p) (nI d) (nI h) ab az) → FD m f p d h → FE m f u d i → (∀ j, j < i → hok f d j ∧ bok f u d j) → esr f u d h 0 = esr f u d w i → mm_W l G k_R_examineEntries 2 [(0, .ref 204), (1, .int (nI i))] [] b m (fun v m2 => FR 204 335 m0 m2 ∧ RS G m2 ∧ ((∃ r, esr f u d h 0 = some r ∧ v = .inl (some (.int 0)) ∧ ∃ x y z a c, m2 204 = .inr (7, RF r x y z a c)) ∨ (esr f u d h 0 = none ∧ v = .inl (some (.int 1)) ∧ FD m2 f p d h ∧ FE m2 f u d h ∧ (∀ j, j < h → hok f d j ∧ bok f u d j) ∧ m2 204 = .inr (7, RF t (nI p) (nI d) (nI h) ab az)))) := by
  intro w
  induction w with
  | zero =>
    intro i m hi hR B hF h4 D E hall he
    have hih : i = h := by omega
    subst hih
    exact t_R_examineEntries_2 h4 (by omega) rfl (fun _ => t_R_examineEntries_69 ⟨hF, hR, Or.inr ⟨he, rfl, D, E, hall, h4⟩⟩ rfl) (fun z => absurd (nI_le (by omega) (by omega)) z)
  | succ w ih =>
    intro i m hi hR B hF h4 D E hall he
    refine t_R_examineEntries_2 h4 (by omega) rfl (fun z => absurd z (nI_ge (by omega) (by omega))) (fun _ => ?_)
    obtain ⟨⟨F, r1, r2⟩, -⟩ := id hR
    have hc : (nI i).toNatClampNeg = i := nI_clamp (by omega)
    obtain ⟨⟨fb, en, d1⟩, d2, d3⟩ := D i (by omega)
    have hhd : dhd f d i < 4294967296 := le4 f _
    refine t_R_examineEntries_10 h4 (by omega) rfl r1 (by omega) (vp_in_nI (by omega) (by omega)) (by rw [hc]; exact r2 i (by omega)) d1 (by omega) rfl (Nat.le_of_eq (Nat.zero_add _)) (s_R_isHeadSound hR B h4 d1 d2 (by omega) hp hd d3) (fun E n hn => ?_) (fun v n hn => ?_)
    · cases hn.1
    · obtain ⟨e1, hF2, hR2, hk⟩ := hn
      refine ⟨bp (hok f d i), by cases e1; rfl, ?_⟩
      have h42 : n 204 = .inr (7, RF t (nI p) (nI d) (nI h) ab az) := (hF2 _ (by omega) (by omega)).trans h4
      have hFr : FR 204 335 m n := fun a ha => hF2 a (by omega) (by omega)
      have emn : (if (65536 : Int64) < lN (le f (dp f d i + 42) 4) then (65536 : Int64) else lN (le f (dp f d i + 42) 4)).toInt32 = nI (mn (dhd f d i)) := mn_eq hhd
      rw [emn]
      refine t_R_examineEntries_34 (fun w1 => ?_) (fun w1 => ?_)
      · have w1 := bp_n0 w1
        have g1 := hk w1
        have g2 : n (207 + 2 * i) = .inr (5, FL f (dp f d i + 6)) := (hF2 _ (by omega) (by omega)).trans d2
        refine t_R_examineEntries_46 (Nat.le_of_eq (Nat.zero_add _)) h42 (by omega) (s_R_areBytesSound hR2 (BY_fr B hFr (by omega) (by omega)) h42 g1 g2 (by omega) hp hd w1.1.2.2 (hbc i (by omega))) (fun E n hn => ?_) (fun v n2 hn => ?_)
        · cases hn.1
        · obtain ⟨e2, hF3, hR3, hk2⟩ := hn
          refine ⟨bp (bok f u d i), by cases e2; rfl, ?_⟩
          have h43 : n2 204 = .inr (7, RF t (nI p) (nI d) (nI h) ab az) := (hF3 _ (by omega)).trans h42
          have hFr2 : FR 204 335 m n2 := fun a ha => (hF3 a (by omega)).trans (hF2 a (by omega) (by omega))
          refine t_R_examineEntries_51 (fun w2 => ?_) (fun w2 => ?_)
          · have w2 := bp_n0 w2
            have g3 := hk2 w2
            refine t_R_examineEntries_63 ?_
            rw [nI_1]
            refine ih (i + 1) n2 (by omega) hR3 (BY_fr B hFr2 (by omega) (by omega)) (FR_tr hF hFr2) h43 (fun j hj => ?_) (fun j hj => ?_) (fun j hj => ?_) ?_
            · obtain ⟨⟨fb, en, q1⟩, q2, q3⟩ := D j hj
              refine ⟨?_, ((hF3 _ (by omega)).trans (hF2 _ (by omega) (by omega))).trans q2, q3⟩
              by_cases q : j = i
              · subst q
                exact ⟨_, _, g3⟩
              · exact ⟨fb, en, ((hF3 _ (by omega)).trans (hF2 _ (by omega) (by omega))).trans q1⟩
            · by_cases q : j = i
              · subst q
                exact g3
              · exact ((hF3 _ (by omega)).trans (hF2 _ (by omega) (by omega))).trans (E j (by omega))
            · by_cases q : j = i
              · subst q
                exact ⟨w1, w2⟩
              · exact hall j (by omega)
            · rw [he, esr, ifc_t w1, ifc_t w2]
          · have w2 := bp_0.mp w2
            refine t_R_examineEntries_54 (Nat.le_of_eq (Nat.zero_add _)) h43 (by omega) (s_R_note h43 8 (nI (mn (dhd f d i))) (nI i)) ⟨FR_tr hF (FR_tr hFr2 (FR_up (by omega) (by omega))), RS_4 hR3, Or.inl ⟨(8, nI (mn (dhd f d i)), nI i), ?_, rfl, _, _, _, _, _, up_s⟩⟩ rfl
            rw [he, esr, ifc_t w1, ifc_f w2]
      · have w1 := bp_0.mp w1
        refine t_R_examineEntries_37 (Nat.le_of_eq (Nat.zero_add _)) h42 (by omega) (s_R_note h42 7 (nI (mn (dhd f d i))) (nI i)) ⟨FR_tr hF (FR_tr hFr (FR_up (by omega) (by omega))), RS_4 hR2, Or.inl ⟨(7, nI (mn (dhd f d i)), nI i), ?_, rfl, _, _, _, _, _, up_s⟩⟩ rfl
        rw [he, esr, ifc_f w1]
theorem s_R_examineEntries (hR : RS G m) (B : BY G m 2 3 65536 f u) (h4 : m 204 = .inr (7, RF t (nI p) (nI d) (nI h) ab az)) (D : FD m f p d h) (hp : p + 22 ≤ u) (hd : d ≤ p) (hh : h ≤ 64) (hbc : ∀ j, j < h → dbc f d j ≤ 65536) : mm_W l G k_R_examineEntries 0 (lv_args 0 [.ref 204]) [] b m (fun v m2 => FR 204 335 m m2 ∧ RS G m2 ∧ ((∃ r, esr f u d h 0 = some r ∧ v = .inl (some (.int 0)) ∧ ∃ x y z a c, m2 204 = .inr (7, RF r x y z a c)) ∨ (esr f u d h 0 = none ∧ v = .inl (some (.int 1)) ∧ FD m2 f p d h ∧ FE m2 f u d h ∧ (∀ j, j < h → hok f d j ∧ bok f u d j) ∧ m2 204 = .inr (7, RF t (nI p) (nI d) (nI h) ab az)))) :=
  t_R_examineEntries_0 (L_R_examineEntries hp B.2.2.2.2.2.1 hd hh hbc h 0 m (by omega) hR B FR_refl h4 D (fun j hj => absurd hj (by omega)) (fun j hj => absurd hj (by omega)) rfl)
end RDE
