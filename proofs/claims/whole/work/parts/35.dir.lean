/-! the reader: the directory -/
section RDD
variable {l : Launch} {G : mm_G} {m m2 : mm_Mem} {b : Nat} {f : Nat → Int32} {u : Nat} {t : Int32 × Int32 × Int32} {x y z : Int32} {ab az : Int64} {p d h : Nat}
theorem dp_ge (f : Nat → Int32) (d i : Nat) : dp f d i + 46 + dnl f d i ≤ dp f d (i + 1) := by
  show _ ≤ dp f d i + 46 + le f (dp f d i + 28) 2 + _ + _
  unfold dnl
  omega
theorem dp_mono (f : Nat → Int32) (d : Nat) {i j : Nat} (hij : i ≤ j) : dp f d i ≤ dp f d j := by
  induction j with
  | zero => rw [show i = 0 by omega]; exact Nat.le_refl _
  | succ j ih =>
    by_cases q : i = j + 1
    · rw [q]; exact Nat.le_refl _
    · have := ih (by omega)
      have := dp_ge f d j
      omega
theorem L_R_isNamedBefore (hR : RS G m) (h4 : m 204 = .inr (7, RF t x y z ab az)) (B : BY G m 2 3 65536 f u) {i : Nat} (hi : i < 64) (D : FD m f p d (i + 1)) (hp : p ≤ u) : ∀ w j, j + w = i → (∀ k, k < j → alk (dnl f d k) (dnm f d k) (dnl f d i) (dnm f d i) = false) → mm_W l G k_R_isNamedBefore 26 [(0, .ref 204), (1, .int (nI i)), (2, .int (nI (dp f d i + 46))), (3, .int (nI (dnl f d i))), (4, .int (nI j))] [] b m (mm_is (.inl (some (.int (bp (tw f d i))))) m) := by
  have hu := B.2.2.2.2.2.1
  obtain ⟨⟨F, r1, r2⟩, -⟩ := hR
  have hni : dnl f d i < 65536 := le2 f _
  have hdi := (D i (by omega)).2.2
  have hgi := dp_ge f d i
  intro w
  induction w with
  | zero =>
    intro j hj hno
    refine t_R_isNamedBefore_26 (fun _ => t_R_isNamedBefore_83 ⟨?_, rfl⟩ rfl) (fun z => absurd (nI_le (by omega) (by omega)) z)
    rw [bp_f]
    rintro ⟨k, hk, q⟩
    rw [hno k (by omega)] at q
    cases q
  | succ w ih =>
    intro j hj hno
    refine t_R_isNamedBefore_26 (fun z => absurd z (nI_ge (by omega) (by omega))) (fun _ => ?_)
    have hc : (nI j).toNatClampNeg = j := nI_clamp (by omega)
    have hF : F (nI j).toNatClampNeg = some (206 + 2 * j) := by rw [hc]; exact r2 j (by omega)
    obtain ⟨⟨fb, en, d1⟩, d2, d3⟩ := D j (by omega)
    have hnj : dnl f d j < 65536 := le2 f _
    have hgj := dp_ge f d j
    have hgo : alk (dnl f d j) (dnm f d j) (dnl f d i) (dnm f d i) = false → mm_W l G k_R_isNamedBefore 77 [(0, .ref 204), (1, .int (nI i)), (2, .int (nI (dp f d i + 46))), (3, .int (nI (dnl f d i))), (4, .int (nI j))] [] b m (mm_is (.inl (some (.int (bp (tw f d i))))) m) := by
      intro q
      refine t_R_isNamedBefore_77 ?_
      rw [nI_1]
      refine ih (j + 1) (by omega) (fun k hk => ?_)
      by_cases e : k = j
      · rw [e]; exact q
      · exact hno k (by omega)
    refine t_R_isNamedBefore_32 h4 (by omega) rfl r1 (by omega) (vp_in_nI (by omega) (by omega)) hF d1 (by omega) rfl d2 (by omega) rfl (fun z => ?_) (fun z => ?_)
    · refine hgo (decide_eq_false (fun q => z ?_))
      show nI (dnl f d j) = nI (dnl f d i)
      rw [q.1]
    · have z : dnl f d j = dnl f d i := (nI_eq (by omega) (by omega)).mp z
      refine t_R_isNamedBefore_49 h4 (by omega) rfl rfl r1 (by omega) (vp_in_nI (by omega) (by omega)) hF d1 (by omega) rfl (Nat.le_of_eq (Nat.zero_add _)) (s_N_areAlike B B (s := dp f d j + 46) (t := dp f d i + 46) (n := dnl f d i) (by omega) (by omega)) (fun w2 => ?_) (fun w2 => ?_)
      · exact hgo (decide_eq_false (fun q => b1_0.mp w2 q.2))
      · refine t_R_isNamedBefore_75 ⟨?_, rfl⟩ rfl
        rw [bp_t ⟨j, by omega, decide_eq_true ⟨z, b1_n0 w2⟩⟩]
theorem s_R_isNamedBefore (hR : RS G m) (h4 : m 204 = .inr (7, RF t x y z ab az)) (B : BY G m 2 3 65536 f u) {i : Nat} (hi : i < 64) (D : FD m f p d (i + 1)) (hp : p ≤ u) : mm_W l G k_R_isNamedBefore 0 (lv_args 0 [.ref 204, .int (nI i)]) [] b m (mm_is (.inl (some (.int (bp (tw f d i))))) m) := by
  obtain ⟨⟨F, r1, r2⟩, -⟩ := id hR
  have hc : (nI i).toNatClampNeg = i := nI_clamp (by omega)
  have hF : F (nI i).toNatClampNeg = some (206 + 2 * i) := by rw [hc]; exact r2 i (by omega)
  obtain ⟨⟨fb, en, d1⟩, d2, d3⟩ := D i (by omega)
  exact t_R_isNamedBefore_0 h4 (by omega) rfl r1 (by omega) (vp_in_nI (by omega) (by omega)) hF d1 (by omega) rfl (vp_in_nI (by omega) (by omega)) hF d1 (by omega) rfl d2 (by omega) rfl (L_R_isNamedBefore hR h4 B hi D hp i 0 (by omega) (fun k hk => absurd hk (by omega)))
/-- directoryFault(i, its place, lim) -/
theorem s_R_directoryFault {lim i : Nat} (hR : RS G m) (B : BY G m 2 3 65536 f u) (h4 : m 204 = .inr (7, RF t (nI p) (nI d) (nI h) (lN (sum (dbc f d) i)) (lN (sum (dsz f d) i)))) (D : FD m f p d i) (hi : i < 64) (hp : p + 22 ≤ u) (hdp : dp f d i ≤ p) (hlim : lim ≤ 65536) (hs1 : sum (dbc f d) i ≤ 65536) (hs2 : sum (dsz f d) i ≤ 65536) : mm_W l G k_R_directoryFault 0 (lv_args 0 [.ref 204, .int (nI i), .int (nI (dp f d i)), .int (nI lim)]) [] b m (fun v m2 => v = .inl (some (.int (nI (dflt f p d lim i)))) ∧ FR 204 335 m m2 ∧ RS G m2 ∧ (∃ a c, m2 204 = .inr (7, RF t (nI p) (nI d) (nI h) a c)) ∧ (dflt f p d lim i = 0 → FD m2 f p d (i + 1) ∧ m2 204 = .inr (7, RF t (nI p) (nI d) (nI h) (lN (sum (dbc f d) (i + 1))) (lN (sum (dsz f d) (i + 1)))))) := by
  have hu := B.2.2.2.2.2.1
  have hge := dp_ge f d i
  have e46 : nI p - 46 < nI (dp f d i) ↔ p < dp f d i + 46 := by
    rw [Int32.lt_iff_toInt_lt, show (46 : Int32) = nI 46 from rfl, pk_sub_toInt (by omega) (by omega), nI_toInt (by omega)]
    omega
  have ebase : df1 f p d i → (3 : Int32) = nI (dflt f p d lim i) := fun q => by unfold dflt; rw [ifc_t q]; rfl
  have n0 : ∀ {a : Nat}, 0 < a → dflt f p d lim i = a → ¬ dflt f p d lim i = 0 := fun h1 h2 => by omega
  refine t_R_directoryFault_0 h4 (by omega) rfl (fun w1 => ?_) (fun w1 => ?_)
  · rw [e46] at w1
    have q : dflt f p d lim i = 3 := by unfold dflt; rw [ifc_t (show df1 f p d i from Or.inl w1)]
    exact t_R_directoryFault_24 ⟨by rw [q]; rfl, FR_refl, hR, ⟨_, _, h4⟩, fun z => absurd z (n0 (by omega) q)⟩
  · rw [e46] at w1
    refine t_R_directoryFault_11 h4 (by omega) rfl (Nat.le_of_eq (Nat.zero_add _)) B.1 (by omega) (hmark B (by omega) 33639248) (fun w2 => ?_) (fun w2 => ?_)
    · have w2 := bp_n0 w2
      rw [mk_dir (by omega) (by omega)] at w2
      obtain ⟨⟨F, r1, r2⟩, r3, r4, r5⟩ := id hR
      have hc : (nI i).toNatClampNeg = i := nI_clamp (by omega)
      have hF : F (nI i).toNatClampNeg = some (206 + 2 * i) := by rw [hc]; exact r2 i (by omega)
      obtain ⟨⟨a1, a2, a3, a4, a5, a6⟩, v0, v1, v2, v3, v4, v5, v6, a7⟩ := r3 i hi
      have hM := s_G_takeFrom (l := l) (b := 0) a6 (by omega) a7 (by omega) (by omega) B (by omega) (by omega) (by omega) (by omega) (v := dp f d i) (by omega)
      have R1 : RS G (va_up (va_up m (207 + 2 * i) (.inr (5, FL f (dp f d i + 6)))) (206 + 2 * i) (.inr (6, GL (207 + 2 * i) f (dp f d i) a4 a5))) := RS_G (RS_F hR hi) hi
      have B1 : BY G (va_up (va_up m (207 + 2 * i) (.inr (5, FL f (dp f d i + 6)))) (206 + 2 * i) (.inr (6, GL (207 + 2 * i) f (dp f d i) a4 a5))) 2 3 65536 f u := BY_up (BY_up B (by omega) (by omega)) (by omega) (by omega)
      have h41 : va_up (va_up m (207 + 2 * i) (.inr (5, FL f (dp f d i + 6)))) (206 + 2 * i) (.inr (6, GL (207 + 2 * i) f (dp f d i) a4 a5)) 204 = .inr (7, RF t (nI p) (nI d) (nI h) (lN (sum (dbc f d) i)) (lN (sum (dsz f d) i))) := ((up_n (by omega)).trans (up_n (by omega))).trans h4
      have hFR : FR 204 335 m (va_up (va_up m (207 + 2 * i) (.inr (5, FL f (dp f d i + 6)))) (206 + 2 * i) (.inr (6, GL (207 + 2 * i) f (dp f d i) a4 a5))) := FR_tr (FR_up (by omega) (by omega)) (FR_up (by omega) (by omega))
      have D1 : dp f d (i + 1) ≤ p → FD (va_up (va_up m (207 + 2 * i) (.inr (5, FL f (dp f d i + 6)))) (206 + 2 * i) (.inr (6, GL (207 + 2 * i) f (dp f d i) a4 a5))) f p d (i + 1) := by
        intro hnx j hj
        by_cases q : j = i
        · subst q
          exact ⟨⟨_, _, up_s⟩, (up_n (by omega)).trans up_s, hnx⟩
        · obtain ⟨⟨fb, en, d1⟩, d2, d3⟩ := D j (by omega)
          exact ⟨⟨fb, en, ((up_n (by omega)).trans (up_n (by omega))).trans d1⟩, ((up_n (by omega)).trans (up_n (by omega))).trans d2, d3⟩
      have c1 : va_up (va_up m (207 + 2 * i) (.inr (5, FL f (dp f d i + 6)))) (206 + 2 * i) (.inr (6, GL (207 + 2 * i) f (dp f d i) a4 a5)) (206 + 2 * i) = .inr (6, GL (207 + 2 * i) f (dp f d i) a4 a5) := up_s
      have c2 : va_up (va_up m (207 + 2 * i) (.inr (5, FL f (dp f d i + 6)))) (206 + 2 * i) (.inr (6, GL (207 + 2 * i) f (dp f d i) a4 a5)) (207 + 2 * i) = .inr (5, FL f (dp f d i + 6)) := (up_n (by omega)).trans up_s
      refine t_R_directoryFault_26 h4 (by omega) rfl r1 (by omega) (vp_in_nI (by omega) (by omega)) hF rfl (Nat.le_of_eq (Nat.zero_add _)) a6 (by omega) hM c1 rfl h41 rfl (fun w3 => ?_) (fun w3 => ?_)
      · generalize hm1 : va_up (va_up m (207 + 2 * i) (.inr (5, FL f (dp f d i + 6)))) (206 + 2 * i) (.inr (6, GL (207 + 2 * i) f (dp f d i) a4 a5)) = m1 at R1 B1 h41 hFR D1 c1 c2 ⊢
        have x1 := le2 f (dp f d i + 28)
        have x2 := le2 f (dp f d i + 30)
        have x3 := le2 f (dp f d i + 32)
        have x0 : dp f d (i + 1) < 2 ^ 30 := by
          show dp f d i + 46 + le f (dp f d i + 28) 2 + le f (dp f d i + 30) 2 + le f (dp f d i + 32) 2 < 2 ^ 30
          omega
        have w3 : dp f d (i + 1) ≤ p := (nI_leI (a := dp f d (i + 1)) (b := p) (by omega) (by omega)).mp w3
        have D1 := D1 w3
        have k1 : ¬ df1 f p d i := by
          rintro (q | q | q)
          · exact w1 q
          · exact q w2
          · omega
        have hme : dme f d i < 65536 := le2 f _
        have hfin4 : df2 f d i → mm_W l G k_R_directoryFault 124 [] [] b m1 (fun v m2 => v = .inl (some (.int (nI (dflt f p d lim i)))) ∧ FR 204 335 m m2 ∧ RS G m2 ∧ (∃ a c, m2 204 = .inr (7, RF t (nI p) (nI d) (nI h) a c)) ∧ (dflt f p d lim i = 0 → FD m2 f p d (i + 1) ∧ m2 204 = .inr (7, RF t (nI p) (nI d) (nI h) (lN (sum (dbc f d) (i + 1))) (lN (sum (dsz f d) (i + 1)))))) := by
          intro q
          have e : dflt f p d lim i = 4 := by unfold dflt; rw [ifc_f k1, ifc_t q]
          exact t_R_directoryFault_124 ⟨by rw [e]; rfl, hFR, R1, ⟨_, _, h41⟩, fun z => absurd z (n0 (by omega) e)⟩
        have h88 : ∀ mk0 : Int32, (mk0 = 0 ↔ ¬ dme f d i = 0 ∧ ¬ dme f d i = 8) → mm_W l G k_R_directoryFault 88 [(0, .ref 204), (1, .int (nI i)), (2, .int (nI (dp f d i))), (3, .int (nI lim)), (4, .ref (206 + 2 * i)), (5, .ref (207 + 2 * i))] [.int mk0] b m1 (fun v m2 => v = .inl (some (.int (nI (dflt f p d lim i)))) ∧ FR 204 335 m m2 ∧ RS G m2 ∧ (∃ a c, m2 204 = .inr (7, RF t (nI p) (nI d) (nI h) a c)) ∧ (dflt f p d lim i = 0 → FD m2 f p d (i + 1) ∧ m2 204 = .inr (7, RF t (nI p) (nI d) (nI h) (lN (sum (dbc f d) (i + 1))) (lN (sum (dsz f d) (i + 1)))))) := by
          intro mk0 hmk
          refine t_R_directoryFault_88 c2 (by omega) rfl (fun w4 => hfin4 (Or.inl w4)) (fun w4 => ?_)
          refine t_R_directoryFault_102 (fun w5 => hfin4 (Or.inr (Or.inl (hmk.mp w5)))) (fun w5 => ?_)
          have l34 := le2 f (dp f d i + 34)
          refine t_R_directoryFault_107 h41 (by omega) rfl (Nat.le_of_eq (Nat.zero_add _)) B1.1 (by omega) (num_at B1 (dp f d i) 34 2 (by omega) (by omega)) (fun w6 => ?_) (fun w6 => ?_)
          · rw [lg_cmp_eq, show (0 : Int64) = lN 0 from rfl, lN_eqB (by omega) (by omega)] at w6
            have k2 : ¬ df2 f d i := by
              rintro (q | q | q)
              · exact q w4
              · exact w5 (hmk.mpr q)
              · exact q w6
            have hfin5 : df3 f d i → mm_W l G k_R_directoryFault 154 [] [] b m1 (fun v m2 => v = .inl (some (.int (nI (dflt f p d lim i)))) ∧ FR 204 335 m m2 ∧ RS G m2 ∧ (∃ a c, m2 204 = .inr (7, RF t (nI p) (nI d) (nI h) a c)) ∧ (dflt f p d lim i = 0 → FD m2 f p d (i + 1) ∧ m2 204 = .inr (7, RF t (nI p) (nI d) (nI h) (lN (sum (dbc f d) (i + 1))) (lN (sum (dsz f d) (i + 1)))))) := by
              intro q
              have e : dflt f p d lim i = 5 := by unfold dflt; rw [ifc_f k1, ifc_f k2, ifc_t q]
              exact t_R_directoryFault_154 ⟨by rw [e]; rfl, hFR, R1, ⟨_, _, h41⟩, fun z => absurd z (n0 (by omega) e)⟩
            have hN := s_N_isName (l := l) (b := 0) B1 (s := dp f d i + 46) (n := dnl f d i) (by omega)
            refine t_R_directoryFault_126 h41 (by omega) rfl c1 (by omega) rfl c2 (by omega) rfl (Nat.le_of_eq (Nat.zero_add _)) hN (fun w7 => ?_) (fun w7 => ?_)
            · have w7 := b1_0.mp w7
              refine hfin5 (Or.inl ?_)
              show isNm (fun j => ub (f (dp f d i + 46 + j))) (dnl f d i) = false
              cases hq : isNm (fun j => ub (f (dp f d i + 46 + j))) (dnl f d i) with
              | true => exact absurd hq w7
              | false => rfl
            · have w7 := b1_n0 w7
              refine t_R_directoryFault_146 (Nat.le_of_eq (Nat.zero_add _)) h41 (by omega) (s_R_isNamedBefore R1 h41 B1 hi D1 (by omega)) (fun w8 => ?_) (fun w8 => hfin5 (Or.inr (bp_n0 w8)))
              have w8 := bp_0.mp w8
              have k3 : ¬ df3 f d i := by
                rintro (q | q)
                · have w7' : isNm (dnm f d i) (dnl f d i) = true := w7
                  rw [w7'] at q
                  cases q
                · exact w8 q
              have hbc : dbc f d i < 4294967296 := le4 f _
              have hsz : dsz f d i < 4294967296 := le4 f _
              have h181 : ¬ df4 f d i → mm_W l G k_R_directoryFault 181 [(0, .ref 204), (3, .int (nI lim)), (5, .ref (207 + 2 * i))] [] b m1 (fun v m2 => v = .inl (some (.int (nI (dflt f p d lim i)))) ∧ FR 204 335 m m2 ∧ RS G m2 ∧ (∃ a c, m2 204 = .inr (7, RF t (nI p) (nI d) (nI h) a c)) ∧ (dflt f p d lim i = 0 → FD m2 f p d (i + 1) ∧ m2 204 = .inr (7, RF t (nI p) (nI d) (nI h) (lN (sum (dbc f d) (i + 1))) (lN (sum (dsz f d) (i + 1)))))) := by
                intro k4
                have hm2 : va_up (va_up m1 204 (.inr (7, RF t (nI p) (nI d) (nI h) (lN (sum (dbc f d) i) + lN (dbc f d i)) (lN (sum (dsz f d) i))))) 204 (.inr (7, RF t (nI p) (nI d) (nI h) (lN (sum (dbc f d) i) + lN (dbc f d i)) (lN (sum (dsz f d) i) + lN (dsz f d i)))) = va_up m1 204 (.inr (7, RF t (nI p) (nI d) (nI h) (lN (sum (dbc f d) (i + 1))) (lN (sum (dsz f d) (i + 1))))) := by
                  rw [up_uu, lN_add, lN_add]
                  rfl
                have e1 : ∀ w : Int64, w = lN (sum (dbc f d) i) + lN (dbc f d i) → (0 < lg_cmp w (nI lim).toInt64 ↔ lim < sum (dbc f d) (i + 1)) := by
                  intro w hw
                  rw [hw, lN_add, lg_cmp_gt, nI_l (by omega), lN_ltB (by omega) (by omega)]
                  exact Iff.rfl
                have hq9 : df5 f d lim i → mm_W l G k_R_directoryFault 229 [] [] b (va_up m1 204 (.inr (7, RF t (nI p) (nI d) (nI h) (lN (sum (dbc f d) (i + 1))) (lN (sum (dsz f d) (i + 1)))))) (fun v m2 => v = .inl (some (.int (nI (dflt f p d lim i)))) ∧ FR 204 335 m m2 ∧ RS G m2 ∧ (∃ a c, m2 204 = .inr (7, RF t (nI p) (nI d) (nI h) a c)) ∧ (dflt f p d lim i = 0 → FD m2 f p d (i + 1) ∧ m2 204 = .inr (7, RF t (nI p) (nI d) (nI h) (lN (sum (dbc f d) (i + 1))) (lN (sum (dsz f d) (i + 1)))))) := by
                  intro q
                  have e : dflt f p d lim i = 9 := by unfold dflt; rw [ifc_f k1, ifc_f k2, ifc_f k3, ifc_f k4, ifc_t q]
                  exact t_R_directoryFault_229 (t_R_directoryFault_235 ⟨by rw [e]; rfl, FR_tr hFR (FR_up (by omega) (by omega)), RS_4 R1, ⟨_, _, up_s⟩, fun z => absurd z (n0 (by omega) e)⟩)
                refine t_R_directoryFault_181 h41 (by omega) rfl c2 (by omega) rfl (Nat.le_of_ble_eq_true rfl) up_s rfl ((up_n (by omega)).trans c2) rfl (Nat.le_of_ble_eq_true rfl) up_s rfl (fun w9 => ?_) (fun w9 => ?_)
                · have w9 := (e1 _ rfl).mp w9
                  exact mm_eqm hm2.symm (hq9 (Or.inl w9))
                · have w9 := fun q => w9 ((e1 _ rfl).mpr q)
                  refine mm_eqm hm2.symm ?_
                  refine t_R_directoryFault_219 up_s (by omega) rfl (fun wa => ?_) (fun wa => ?_)
                  · rw [lg_cmp_le, nI_l (by omega), lN_leB (by simp only [sum]; omega) (by omega)] at wa
                    have k5 : ¬ df5 f d lim i := by
                      rintro (q | q)
                      · exact w9 q
                      · omega
                    have e : dflt f p d lim i = 0 := by unfold dflt; rw [ifc_f k1, ifc_f k2, ifc_f k3, ifc_f k4, ifc_f k5]
                    exact t_R_directoryFault_234 (t_R_directoryFault_235 ⟨by rw [e]; rfl, FR_tr hFR (FR_up (by omega) (by omega)), RS_4 R1, ⟨_, _, up_s⟩, fun _ => ⟨FD_4 D1, up_s⟩⟩)
                  · rw [lg_cmp_le, nI_l (by omega), lN_leB (by simp only [sum]; omega) (by omega)] at wa
                    exact hq9 (Or.inr (by omega))
              refine t_R_directoryFault_156 c2 (by omega) rfl (fun w9 => ?_) (fun w9 => ?_)
              · have w9 : ¬ dme f d i = 0 := fun q => w9 ((nI_eq (a := dme f d i) (b := 0) (by omega) (by omega)).mpr q)
                exact h181 (fun q => w9 q.1)
              · have w9 : dme f d i = 0 := (nI_eq (a := dme f d i) (b := 0) (by omega) (by omega)).mp w9
                refine t_R_directoryFault_164 c2 (by omega) rfl rfl (fun wa => ?_) (fun wa => ?_)
                · have wa : dbc f d i = dsz f d i := (lN_eqB (a := dbc f d i) (b := dsz f d i) (by omega) (by omega)).mp ((lg_cmp_eq _ _).mp wa)
                  exact h181 (fun q => q.2 wa)
                · have wa : ¬ dbc f d i = dsz f d i := fun q => wa ((lg_cmp_eq _ _).mpr ((lN_eqB (a := dbc f d i) (b := dsz f d i) (by omega) (by omega)).mpr q))
                  have e : dflt f p d lim i = 6 := by unfold dflt; rw [ifc_f k1, ifc_f k2, ifc_f k3, ifc_t (show df4 f d i from ⟨w9, wa⟩)]
                  exact t_R_directoryFault_178 ⟨by rw [e]; rfl, hFR, R1, ⟨_, _, h41⟩, fun z => absurd z (n0 (by omega) e)⟩
          · rw [lg_cmp_eq, show (0 : Int64) = lN 0 from rfl, lN_eqB (by omega) (by omega)] at w6
            exact hfin4 (Or.inr (Or.inr w6))
        refine t_R_directoryFault_58 c1 (by omega) rfl c2 (by omega) rfl (fun w4 => ?_) (fun w4 => ?_)
        · have w4 : dme f d i = 0 := (nI_eq (a := dme f d i) (b := 0) (by omega) (by omega)).mp w4
          exact t_R_directoryFault_83 (h88 1 ⟨fun q => absurd q (by decide), fun q => absurd w4 q.1⟩)
        · have w4 : ¬ dme f d i = 0 := fun q => w4 ((nI_eq (a := dme f d i) (b := 0) (by omega) (by omega)).mpr q)
          refine t_R_directoryFault_73 c2 (by omega) rfl (fun w5 => ?_) (fun w5 => ?_)
          · have w5 : ¬ dme f d i = 8 := fun q => w5 ((nI_eq (a := dme f d i) (b := 8) (by omega) (by omega)).mpr q)
            exact t_R_directoryFault_87 (h88 0 ⟨fun _ => ⟨w4, w5⟩, fun _ => rfl⟩)
          · have w5 : dme f d i = 8 := (nI_eq (a := dme f d i) (b := 8) (by omega) (by omega)).mp w5
            exact t_R_directoryFault_83 (h88 1 ⟨fun q => absurd q (by decide), fun q => absurd w5 q.2⟩)
      · have x1 := le2 f (dp f d i + 28)
        have x2 := le2 f (dp f d i + 30)
        have x3 := le2 f (dp f d i + 32)
        have x0 : dp f d (i + 1) < 2 ^ 30 := by
          show dp f d i + 46 + le f (dp f d i + 28) 2 + le f (dp f d i + 30) 2 + le f (dp f d i + 32) 2 < 2 ^ 30
          omega
        have w3 : ¬ dp f d (i + 1) ≤ p := fun q => w3 (nI_le (a := dp f d (i + 1)) (b := p) q (by omega))
        have q : dflt f p d lim i = 3 := by unfold dflt; rw [ifc_t (show df1 f p d i from Or.inr (Or.inr (by omega)))]
        exact t_R_directoryFault_56 ⟨by rw [q]; rfl, hFR, R1, ⟨_, _, h41⟩, fun z => absurd z (n0 (by omega) q)⟩
    · have w2 := bp_0.mp w2
      rw [mk_dir (by omega) (by omega)] at w2
      have q : dflt f p d lim i = 3 := by unfold dflt; rw [ifc_t (show df1 f p d i from Or.inr (Or.inl w2))]
      exact t_R_directoryFault_24 ⟨by rw [q]; rfl, FR_refl, hR, ⟨_, _, h4⟩, fun z => absurd z (n0 (by omega) q)⟩
theorem L_R_examineDirectory {lim : Nat} {m0 : mm_Mem} (hp : p + 22 ≤ u) (hu : u ≤ 65536) (hh : h ≤ 64) (hlim : lim ≤ 65536) : ∀ w i m, i + w = h → RS G m → BY G m 2 3 65536 f u → FR 204 335 m0 m → m 204 = .inr (7, RF t (nI p) (nI d) (nI h) (lN (sum (dbc f d) i)) (lN (sum (dsz f d) i))) → FD m f p d i → dp f d i ≤ p → sum (dbc f d) i ≤ lim → sum (dsz f d) i ≤ lim → (∀ j, j < i → dflt f p d lim j = 0) → dsr f p d lim h 0 = dsr f p d lim w i → mm_W l G k_R_examineDirectory 17 [(0, .ref 204), (1, .int (nI lim)), (2, .int (nI (dp f d i))), (3, .int (nI i))] [] b m (fun v m2 => FR 204 335 m0 m2 ∧ RS G m2 ∧ ((∃ r, dsr f p d lim h 0 = some r ∧ v = .inl (some (.int 0)) ∧ ∃ x y z a c, m2 204 = .inr (7, RF r x y z a c)) ∨ (dsr f p d lim h 0 = none ∧ v = .inl (some (.int 1)) ∧ FD m2 f p d h ∧ dp f d h = p ∧ (∀ j, j < h → dflt f p d lim j = 0) ∧ ∃ a c, m2 204 = .inr (7, RF t (nI p) (nI d) (nI h) a c)))) := by
  intro w
  induction w with
  | zero =>
    intro i m hi hR B hF h4 D hdp hs1 hs2 hall hd
    have hih : i = h := by omega
    subst hih
    refine t_R_examineDirectory_17 h4 (by omega) rfl (fun _ => ?_) (fun z => absurd (nI_le (by omega) (by omega)) z)
    refine t_R_examineDirectory_64 h4 (by omega) rfl (fun w1 => ?_) (fun w1 => ?_)
    · have w1 := (nI_eq (by omega) (by omega)).mp w1
      refine t_R_examineDirectory_82 (t_R_examineDirectory_87 ⟨hF, hR, Or.inr ⟨?_, rfl, D, w1, hall, _, _, h4⟩⟩ rfl)
      rw [hd, dsr, ifc_t w1]
    · have w1 : ¬ dp f d i = p := fun q => w1 (by rw [q])
      refine t_R_examineDirectory_72 (Nat.le_of_eq (Nat.zero_add _)) h4 (by omega) (s_R_note h4 3 (nI (dp f d i)) (-1)) (fun _ => ?_) (fun z => absurd rfl z)
      refine t_R_examineDirectory_86 (t_R_examineDirectory_87 ⟨FR_tr hF (FR_up (by omega) (by omega)), RS_4 hR, Or.inl ⟨(3, nI (dp f d i), -1), ?_, rfl, _, _, _, _, _, up_s⟩⟩ rfl)
      rw [hd, dsr, ifc_f w1]
  | succ w ih =>
    intro i m hi hR B hF h4 D hdp hs1 hs2 hall hd
    refine t_R_examineDirectory_17 h4 (by omega) rfl (fun z => absurd z (nI_ge (by omega) (by omega))) (fun _ => ?_)
    refine t_R_examineDirectory_25 (Nat.le_of_eq (Nat.zero_add _)) h4 (by omega) (s_R_directoryFault hR B h4 D (by omega) hp hdp hlim (by omega) (by omega)) (fun E n hn => ?_) (fun v n hn => ?_)
    · cases hn.1
    · obtain ⟨e1, hF2, hR2, ⟨a, c, h42⟩, hok⟩ := hn
      refine ⟨nI (dflt f p d lim i), by cases e1; rfl, ?_⟩
      have hlt := dflt_lt f p d lim i
      refine t_R_examineDirectory_32 (fun w1 => ?_) (fun w1 => ?_)
      · have w1 : dflt f p d lim i = 0 := (nI_eq (b := 0) (by omega) (by omega)).mp w1
        obtain ⟨D2, h43⟩ := hok w1
        obtain ⟨⟨F, r1, r2⟩, -⟩ := id hR2
        have hc : (nI i).toNatClampNeg = i := nI_clamp (by omega)
        obtain ⟨⟨fb, en, d1⟩, d2, d3⟩ := D2 i (by omega)
        refine t_R_examineDirectory_48 h43 (by omega) rfl r1 (by omega) (vp_in_nI (by omega) (by omega)) (by rw [hc]; exact r2 i (by omega)) d1 (by omega) rfl ?_
        rw [nI_1]
        have k5 := (dflt_0 w1).2.2.2.2
        refine ih (i + 1) n (by omega) hR2 (BY_fr B hF2 (by omega) (by omega)) (FR_tr hF hF2) h43 D2 d3 ?_ ?_ (fun j hj => ?_) ?_
        · exact Nat.le_of_not_lt (fun q => k5 (Or.inl q))
        · exact Nat.le_of_not_lt (fun q => k5 (Or.inr q))
        · by_cases q : j = i
          · rw [q]; exact w1
          · exact hall j (by omega)
        · rw [hd, dsr, ifc_t w1]
      · have w1 : ¬ dflt f p d lim i = 0 := fun q => w1 (by rw [q]; rfl)
        refine t_R_examineDirectory_39 (Nat.le_of_eq (Nat.zero_add _)) h42 (by omega) (s_R_note h42 (nI (dflt f p d lim i)) (nI (dp f d i)) (nI i)) ⟨FR_tr hF (FR_tr hF2 (FR_up (by omega) (by omega))), RS_4 hR2, Or.inl ⟨(nI (dflt f p d lim i), nI (dp f d i), nI i), ?_, rfl, _, _, _, _, _, up_s⟩⟩ rfl
        rw [hd, dsr, ifc_f w1]
/-- examineDirectory(lim) -/
theorem s_R_examineDirectory {lim : Nat} (hR : RS G m) (B : BY G m 2 3 65536 f u) (h4 : m 204 = .inr (7, RF t (nI p) (nI d) (nI h) ab az)) (hp : p + 22 ≤ u) (hd : d ≤ p) (hh : h ≤ 64) (hlim : lim ≤ 65536) : mm_W l G k_R_examineDirectory 0 (lv_args 0 [.ref 204, .int (nI lim)]) [] b m (fun v m2 => FR 204 335 m m2 ∧ RS G m2 ∧ ((∃ r, dsr f p d lim h 0 = some r ∧ v = .inl (some (.int 0)) ∧ ∃ x y z a c, m2 204 = .inr (7, RF r x y z a c)) ∨ (dsr f p d lim h 0 = none ∧ v = .inl (some (.int 1)) ∧ FD m2 f p d h ∧ dp f d h = p ∧ (∀ j, j < h → dflt f p d lim j = 0) ∧ ∃ a c, m2 204 = .inr (7, RF t (nI p) (nI d) (nI h) a c)))) := by
  have hu := B.2.2.2.2.2.1
  refine t_R_examineDirectory_0 h4 (by omega) (Nat.le_of_ble_eq_true rfl) up_s (Nat.le_of_ble_eq_true rfl) up_s rfl ?_
  have e : va_up (va_up m 204 (.inr (7, (RF t (nI p) (nI d) (nI h) ab az).set 11 (.long 0)))) 204 (.inr (7, ((RF t (nI p) (nI d) (nI h) ab az).set 11 (.long 0)).set 12 (.long 0))) = va_up m 204 (.inr (7, RF t (nI p) (nI d) (nI h) 0 0)) := up_uu
  rw [e]
  exact L_R_examineDirectory hp hu hh hlim h 0 _ (by omega) (RS_4 hR) (BY_up B (by omega) (by omega)) (FR_up (by omega) (by omega)) up_s (fun j hj => absurd hj (by omega)) hd (by simp [sum]) (by simp [sum]) (fun j hj => absurd hj (by omega)) rfl
end RDD
