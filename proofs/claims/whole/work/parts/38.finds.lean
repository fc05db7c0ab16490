/-! the reader: all of findsNoFault -/
def spq (f : Nat → Int32) (u lim : Nat) (q : Nat → Nat) : Prop := ∀ p, lend f u (u - 21) = some p → ¬ ebad f p → dsr f p (le f (p + 16) 4) lim (le f (p + 10) 2) 0 = none → esr f u (le f (p + 16) 4) (le f (p + 10) 2) 0 = none → sp (dhd f (le f (p + 16) 4)) (le f (p + 10) 2) q
def good (f : Nat → Int32) (u lim p : Nat) : Prop := lend f u (u - 21) = some p ∧ ¬ ebad f p ∧ (∀ j, j < le f (p + 10) 2 → dflt f p (le f (p + 16) 4) lim j = 0) ∧ (∀ j, j < le f (p + 10) 2 → hok f (le f (p + 16) 4) j ∧ bok f u (le f (p + 16) 4) j) ∧ dp f (le f (p + 16) 4) (le f (p + 10) 2) = p
theorem ebad_n {f : Nat → Int32} {p : Nat} (h : ¬ ebad f p) : le f (p + 10) 2 ≤ 64 ∧ le f (p + 16) 4 ≤ p ∧ le f (p + 8) 2 = le f (p + 10) 2 := by
  unfold ebad at h
  omega
theorem dbc_le {f : Nat → Int32} {p d lim j : Nat} (h : dflt f p d lim j = 0) : sum (dbc f d) (j + 1) ≤ lim ∧ sum (dsz f d) (j + 1) ≤ lim ∧ dbc f d j ≤ lim := by
  have k5 := (dflt_0 h).2.2.2.2
  have e1 : sum (dbc f d) (j + 1) ≤ lim := Nat.le_of_not_lt (fun q => k5 (Or.inl q))
  have e2 : sum (dsz f d) (j + 1) ≤ lim := Nat.le_of_not_lt (fun q => k5 (Or.inr q))
  have e3 : sum (dbc f d) (j + 1) = sum (dbc f d) j + dbc f d j := rfl
  exact ⟨e1, e2, by omega⟩
section RDF
variable {l : Launch} {G : mm_G} {m m2 : mm_Mem} {b : Nat} {f : Nat → Int32} {u : Nat} {t : Int32 × Int32 × Int32} {x y z : Int32} {ab az : Int64}
/-- findsNoFault(lim) -/
theorem s_R_findsNoFault {T : Nat → Int32} {lim : Nat} (hR : RS G m) (C : CK G m 6 7 T) (B : BY G m 2 3 65536 f u) (h4 : m 204 = .inr (7, RF t x y z ab az)) (hlim : lim ≤ 65536) : mm_W l G k_R_findsNoFault 0 (lv_args 0 [.ref 204, .int (nI lim)]) [] b m (fun v m2 => FR 204 335 m m2 ∧ RS G m2 ∧ ∃ q, spq f u lim q ∧ ((∃ r, rd f u lim q = some r ∧ v = .inl (some (.int 0)) ∧ ∃ x y z a c, m2 204 = .inr (7, RF r x y z a c)) ∨ (rd f u lim q = none ∧ v = .inl (some (.int 1)) ∧ ∃ p a c, good f u lim p ∧ FD m2 f p (le f (p + 16) 4) (le f (p + 10) 2) ∧ FE m2 f u (le f (p + 16) 4) (le f (p + 10) 2) ∧ m2 204 = .inr (7, RF (0, -1, -1) (nI p) (nI (le f (p + 16) 4)) (nI (le f (p + 10) 2)) a c)))) := by
  have hu := B.2.2.2.2.2.1
  have B1 : BY G (va_up m 204 (.inr (7, RF (0, -1, -1) x y z ab az))) 2 3 65536 f u := BY_up B (by omega) (by omega)
  refine t_R_findsNoFault_0 (Nat.le_of_eq (Nat.zero_add _)) h4 (by omega) (s_R_note h4 0 (-1) (-1)) (Nat.le_of_eq (Nat.zero_add _)) up_s (s_R_examineEnd up_s B1) (fun E n hn => ?_) (fun v n hn => ?_)
  · rcases hn with ⟨r, w, -, q, -⟩ | ⟨p, -, -, q, -⟩ <;> cases q
  · rcases hn with ⟨r, w, e1, e2, e3⟩ | ⟨p, e1, e2, e3, e4⟩
    · refine ⟨0, by cases e2; rfl, t_R_findsNoFault_12 (fun _ => ?_) (fun z => absurd rfl z)⟩
      rw [up_uu] at e3
      subst e3
      refine t_R_findsNoFault_48 (t_R_findsNoFault_49 ⟨FR_up (by omega) (by omega), RS_4 hR, fun _ => 0, ?_, Or.inl ⟨r, ?_, rfl, _, _, _, _, _, up_s⟩⟩ rfl)
      · intro p h1 h2
        unfold endr at e1
        rw [h1] at e1
        change ifc (ebad f p) (some (2, nI p, -1)) none = some r at e1
        rw [ifc_f h2] at e1
        cases e1
      · unfold rd
        unfold endr at e1
        cases hl : lend f u (u - 21) with
        | none => rw [hl] at e1; exact e1
        | some p =>
          rw [hl] at e1
          change ifc (ebad f p) (some (2, nI p, -1)) none = some r at e1
          show ifc (ebad f p) (some (2, nI p, -1)) (rd2 f u lim p fun _ => 0) = some r
          by_cases q : ebad f p
          · rw [ifc_t q] at e1 ⊢; exact e1
          · rw [ifc_f q] at e1; cases e1
    · refine ⟨1, by cases e3; rfl, t_R_findsNoFault_12 (fun z => absurd z (by decide)) (fun _ => ?_)⟩
      rw [up_uu] at e4
      subst e4
      have hp := lend_lt e1
      obtain ⟨hh, hd, h8⟩ := ebad_n e2
      have erd : ∀ q, rd f u lim q = rd2 f u lim p q := fun q => by
        unfold rd
        rw [e1]
        exact ifc_f e2
      have espq : ∀ q, (dsr f p (le f (p + 16) 4) lim (le f (p + 10) 2) 0 = none → esr f u (le f (p + 16) 4) (le f (p + 10) 2) 0 = none → sp (dhd f (le f (p + 16) 4)) (le f (p + 10) 2) q) → spq f u lim q := by
        intro q hq p2 h1 h2 h3 h4
        rw [e1] at h1
        cases h1
        exact hq h3 h4
      generalize hde : le f (p + 16) 4 = d at *
      generalize hhe : le f (p + 10) 2 = h at *
      have erd2 : ∀ q, rd2 f u lim p q = rd3 f u lim p d h q := fun q => by
        unfold rd2
        rw [hde, hhe]
      have B2 : BY G (va_up m 204 (.inr (7, RF (0, -1, -1) (nI p) (nI d) (nI h) ab az))) 2 3 65536 f u := BY_up B (by omega) (by omega)
      have F2 : FR 204 335 m (va_up m 204 (.inr (7, RF (0, -1, -1) (nI p) (nI d) (nI h) ab az))) := FR_up (by omega) (by omega)
      refine t_R_findsNoFault_15 (Nat.le_of_eq (Nat.zero_add _)) up_s (by omega) (s_R_examineDirectory (RS_4 hR) B2 up_s (by omega) hd hh hlim) (fun E n hn => ?_) (fun v n hn => ?_)
      · rcases hn with ⟨-, -, ⟨r, -, q, -⟩ | ⟨-, q, -⟩⟩ <;> cases q
      · obtain ⟨F3, R3, ⟨r, g1, g2, x1, x2, x3, x4, x5, g3⟩ | ⟨g1, g2, D3, g3, g4, x4, x5, g5⟩⟩ := hn
        · refine ⟨0, by cases g2; rfl, t_R_findsNoFault_20 (fun _ => ?_) (fun z => absurd rfl z)⟩
          refine t_R_findsNoFault_48 (t_R_findsNoFault_49 ⟨FR_tr F2 F3, R3, fun _ => 0, espq _ (fun q => by rw [g1] at q; cases q), Or.inl ⟨r, ?_, rfl, _, _, _, _, _, g3⟩⟩ rfl)
          rw [erd, erd2, rd3, g1]
        · refine ⟨1, by cases g2; rfl, t_R_findsNoFault_20 (fun z => absurd z (by decide)) (fun _ => ?_)⟩
          have B3 := BY_fr B2 F3 (by omega) (by omega)
          refine t_R_findsNoFault_23 (Nat.le_of_eq (Nat.zero_add _)) g5 (by omega) (s_R_examineEntries R3 B3 g5 D3 (by omega) hd hh (fun j hj => by have := (dbc_le (g4 j hj)).2.2; omega)) (fun E n hn => ?_) (fun v n hn => ?_)
          · rcases hn with ⟨-, -, ⟨r, -, q, -⟩ | ⟨-, q, -⟩⟩ <;> cases q
          · obtain ⟨F4, R4, ⟨r, i1, i2, x1, x2, x3, x4, x5, i3⟩ | ⟨i1, i2, D4, E4, i4, i5⟩⟩ := hn
            · refine ⟨0, by cases i2; rfl, t_R_findsNoFault_27 (fun _ => ?_) (fun z => absurd rfl z)⟩
              refine t_R_findsNoFault_48 (t_R_findsNoFault_49 ⟨FR_tr F2 (FR_tr F3 F4), R4, fun _ => 0, espq _ (fun _ q => by rw [i1] at q; cases q), Or.inl ⟨r, ?_, rfl, _, _, _, _, _, i3⟩⟩ rfl)
              rw [erd, erd2, rd3, g1, i1]
            · refine ⟨1, by cases i2; rfl, t_R_findsNoFault_27 (fun z => absurd z (by decide)) (fun _ => ?_)⟩
              refine t_R_findsNoFault_30 (Nat.le_of_eq (Nat.zero_add _)) i5 (by omega) (s_R_examinePlaces R4 i5 D4 E4 hh (by omega) (fun j hj => (bok_le (i4 j hj).2).2)) (fun E n hn => ?_) (fun v n hn => ?_)
              · rcases hn with ⟨-, -, q0, -, ⟨r, -, q, -⟩ | ⟨-, q, -⟩⟩ <;> cases q
              · obtain ⟨F5, R5, q, S, ⟨r, j1, j2, x1, x2, x3, x4, x5, j3⟩ | ⟨j1, j2, D5, E5, j5⟩⟩ := hn
                · refine ⟨0, by cases j2; rfl, t_R_findsNoFault_34 (fun _ => ?_) (fun z => absurd rfl z)⟩
                  refine t_R_findsNoFault_48 (t_R_findsNoFault_49 ⟨FR_tr F2 (FR_tr F3 (FR_tr F4 F5)), R5, q, espq _ (fun _ _ => S), Or.inl ⟨r, ?_, rfl, _, _, _, _, _, j3⟩⟩ rfl)
                  rw [erd, erd2, rd3, g1, i1, j1]
                · refine ⟨1, by cases j2; rfl, t_R_findsNoFault_34 (fun z => absurd z (by decide)) (fun _ => ?_)⟩
                  have B5 := BY_fr (BY_fr B3 F4 (by omega) (by omega)) F5 (by omega) (by omega)
                  have C5 : CK G n 6 7 T := ⟨((F5 6 (by omega)).trans ((F4 6 (by omega)).trans ((F3 6 (by omega)).trans (F2 6 (by omega))))).trans C.1, ((F5 7 (by omega)).trans ((F4 7 (by omega)).trans ((F3 7 (by omega)).trans (F2 7 (by omega))))).trans C.2.1, C.2.2⟩
                  refine t_R_findsNoFault_37 (Nat.le_of_eq (Nat.zero_add _)) j5 (by omega) (s_R_examineChecks R5 C5 B5 j5 D5 E5 hh (fun j hj => by have := (bok_le (i4 j hj).2).1; omega)) (fun w1 => ?_) (fun w1 => ?_)
                  · cases hcs : csr f d h 0 with
                    | none => rw [hcs] at w1; exact absurd w1 (by decide)
                    | some r =>
                      refine t_R_findsNoFault_48 (t_R_findsNoFault_49 ⟨FR_tr F2 (FR_tr F3 (FR_tr F4 (FR_tr F5 (FR_up (by omega) (by omega))))), RS_4 R5, q, espq _ (fun _ _ => S), Or.inl ⟨r, ?_, rfl, _, _, _, _, _, up_s⟩⟩ rfl)
                      rw [erd, erd2, rd3, g1, i1, j1]
                      exact hcs
                  · cases hcs : csr f d h 0 with
                    | some r => rw [hcs] at w1; exact absurd rfl w1
                    | none =>
                      refine t_R_findsNoFault_44 (t_R_findsNoFault_49 ⟨FR_tr F2 (FR_tr F3 (FR_tr F4 F5)), R5, q, espq _ (fun _ _ => S), Or.inr ⟨?_, rfl, p, x4, x5, ⟨e1, e2, ?_⟩, ?_⟩⟩ rfl)
                      · rw [erd, erd2, rd3, g1, i1, j1]
                        exact hcs
                      · rw [hde, hhe]
                        exact ⟨g4, i4, g3⟩
                      · rw [hde, hhe]
                        exact ⟨D5, E5, j5⟩
end RDF
