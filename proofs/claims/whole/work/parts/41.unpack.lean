/-! what is read is put into the box -/
section UNP
variable {l : Launch} {G : mm_G} {m m2 : mm_Mem} {b : Nat} {f : Nat → Int32} {u : Nat} {t : Int32 × Int32 × Int32} {x y z : Int32} {ab az : Int64} {p d h k : Nat} {o : Nat → Nat} {e : Nat → Ef} {n : Nat → Nf} {s : Nf}
/-- an entry that has just been appended gets its name and its facts -/
theorem PB_fill {c v : Nat} {g g0 : Nat → Int32} {me0 sz0 ck0 : Int32} {j a0 : Nat} (P : PB G m k o (va_up e j (me0, a0, c, sz0, ck0)) (va_up n j (g0, 0)) s) (hj : j < 64) (hv : v ≤ 64) (hg : ∀ j, (g j).toInt8.toInt32 = g j) (me sz ck : Int32) {a : Nat} : PB G (va_up (BS G m (11 + 3 * j) (12 + 3 * j) 64 g v) (10 + 3 * j) (.inr (4, PE j (me, a, c, sz, ck)))) k o (va_up e j (me, a, c, sz, ck)) (va_up n j (g, v)) s := by
  have P2 := PB_E (PB_N P hj hv hg) hj (me, a, c, sz, ck)
  rw [vup_uu, vup_uu] at P2
  exact P2
theorem L_R_unpackInto {m0 : mm_Mem} (hR : RS G m0) (B0 : BY G m0 2 3 65536 f u) (h40 : m0 204 = .inr (7, RF t x y (nI h) ab az)) (D : FD m0 f p d h) (E : FE m0 f u d h) (hh : h ≤ 64) (hp : p ≤ u) (hbe : ∀ j, j < h → bend f d j ≤ u) (hnm : ∀ j, j < h → isNm (dnm f d j) (dnl f d j) = true) (hsum : sum (dbc f d) h ≤ 65536) : ∀ w i m o e n s, i + w = h → FR 8 203 m0 m → PB G m i o e n s → AB i o e n s (re f d) → mm_W l G k_R_unpackInto 6 [(0, .ref 204), (1, .ref 8), (2, .int (nI i))] [] b m (fun v m2 => v = .inl none ∧ FR 8 203 m0 m2 ∧ ∃ o e n s, PB G m2 h o e n s ∧ AB h o e n s (re f d)) := by
  have hu := B0.2.2.2.2.2.1
  intro w
  induction w with
  | zero =>
    intro i m o e n s hi hF P A
    have hih : i = h := by omega
    subst hih
    exact t_R_unpackInto_6 ((hF 204 (by omega)).trans h40) (by omega) rfl (fun _ => t_R_unpackInto_101 ⟨rfl, hF, o, e, n, s, P, A⟩) (fun z => absurd (nI_le (by omega) (by omega)) z)
  | succ w ih =>
    intro i m o e n s hi hF P A
    have h4 := (hF 204 (by omega)).trans h40
    have B := BY_fr B0 hF (by omega) (by omega)
    refine t_R_unpackInto_6 h4 (by omega) rfl (fun z => absurd z (nI_ge (by omega) (by omega))) (fun _ => ?_)
    obtain ⟨⟨F, r1, r2⟩, -⟩ := id hR
    have hc : (nI i).toNatClampNeg = i := nI_clamp (by omega)
    have d1 := (hF (206 + 2 * i) (by omega)).trans (E i (by omega))
    obtain ⟨-, d2, d3⟩ := D i (by omega)
    have d2 := (hF (207 + 2 * i) (by omega)).trans d2
    have hbi : dat f d i + dbc f d i ≤ u := hbe i (by omega)
    have hge := dp_ge f d i
    have hs2 : s.2 = sum (dbc f d) i := A.2.2.2
    have hs3 := sum_le (dbc f d) (show i + 1 ≤ h by omega)
    have hs4 : sum (dbc f d) (i + 1) = sum (dbc f d) i + dbc f d i := rfl
    obtain ⟨n1, n2, n3⟩ := isNm_ok (hnm i (by omega))
    have hM := s_X_append (l := l) (b := 0) P B (a := dat f d i) (c := dbc f d i) hbi (by omega) (by omega)
    rw [← lN_i (dbc f d i)] at hM
    refine t_R_unpackInto_14 h4 (by omega) rfl ((hF 205 (by omega)).trans r1) (by omega) (vp_in_nI (by omega) (by omega)) (by rw [hc]; exact r2 i (by omega)) d1 (by omega) rfl rfl rfl d2 (by omega) rfl (Nat.le_of_eq (Nat.zero_add _)) P.1 (by omega) hM (fun E n hn => ?_) (fun v m1 hn => ?_)
    · cases hn.1
    · obtain ⟨e1, F1, P1⟩ := hn
      refine ⟨.ref (10 + 3 * o i), by cases e1; rfl, ?_⟩
      refine t_R_unpackInto_45 (Or.inr ⟨_, rfl⟩) (fun r hr => ?_) (fun q => nomatch q)
      have ho := P.2.2.1 i (by omega)
      obtain ⟨c1, c2⟩ := P1.2.2.2.1 (o i) ho
      rw [vup_s] at c1 c2
      have B1 := BY_fr B F1 (by omega) (by omega)
      have hPA := s_B_pushAll (l := l) (b := 0) (BL_nil c2) B1 (by omega) (by omega) (by omega) (by omega) (s := dp f d i + 46) (n := dnl f d i) (by omega) (by simp; omega)
      rw [List.nil_append] at hPA
      have eBT : ∀ mm : mm_Mem, BT G mm (11 + 3 * o i) (12 + 3 * o i) 64 (n (o i)).1 0 (seg f (dp f d i + 46) (dnl f d i)) = BS G mm (11 + 3 * o i) (12 + 3 * o i) 64 (app (n (o i)).1 0 (seg f (dp f d i + 46) (dnl f d i))) (dnl f d i) := fun mm => by unfold BT; rw [seg_len, Nat.zero_add]
      have hPA2 : mm_W l G k_B_pushAll 0 (lv_args 0 [.ref (11 + 3 * o i), .ref 2, .int (nI (dp f d i + 46)), .int (nI (dnl f d i))]) [] 0 m1 (mm_is (.inl none) (BS G m1 (11 + 3 * o i) (12 + 3 * o i) 64 (app (n (o i)).1 0 (seg f (dp f d i + 46) (dnl f d i))) (dnl f d i))) := by
        rw [← eBT]
        exact hPA
      have hgb := app_tb (k := 0) c2.2.2.2.2.2.2.2 (seg_tb B.2.2.2.2.2.2.2 (dp f d i + 46) (dnl f d i))
      have c3 : BS G m1 (11 + 3 * o i) (12 + 3 * o i) 64 (app (n (o i)).1 0 (seg f (dp f d i + 46) (dnl f d i))) (dnl f d i) (10 + 3 * o i) = .inr (4, PE (o i) ((e (o i)).1, s.2, dbc f d i, (e (o i)).2.2.2.1, (e (o i)).2.2.2.2)) := (BS_o (by omega) (by omega)).trans c1
      have c4 : BS G m1 (11 + 3 * o i) (12 + 3 * o i) 64 (app (n (o i)).1 0 (seg f (dp f d i + 46) (dnl f d i))) (dnl f d i) (207 + 2 * i) = .inr (5, FL f (dp f d i + 6)) := (BS_o (by omega) (by omega)).trans ((F1 _ (by omega)).trans d2)
      refine t_R_unpackInto_52 c1 (by omega) rfl ((F1 204 (by omega)).trans h4) (by omega) rfl ((F1 (206 + 2 * i) (by omega)).trans d1) (by omega) rfl ((F1 (207 + 2 * i) (by omega)).trans d2) (by omega) rfl (Nat.le_of_eq (Nat.zero_add _)) c2.1 (by omega) hPA2 c4 rfl rfl rfl (Nat.le_of_eq (Nat.zero_add _)) c3 (s_E_describe c3 (by omega) _ _ _) (t_R_unpackInto_95 ?_)
      rw [nI_1]
      have P3 := PB_fill (g := app (n (o i)).1 0 (seg f (dp f d i + 46) (dnl f d i))) (v := dnl f d i) (a := s.2) P1 ho (by omega) hgb (nI (dme f d i)) (nI (dsz f d i)) (nI (dck f d i))
      have A3 := AB_add A (show i < 64 by omega) (f := f) (g := app (n (o i)).1 0 (seg f (dp f d i + 46) (dnl f d i))) (a := dat f d i) (c := dbc f d i) (nl := dnl f d i) (nm := dnm f d i) (nI (dme f d i)) (nI (dsz f d i)) (nI (dck f d i)) (fun j hj => by
        have e0 := app_seg (g := (n (o i)).1) (f := f) (k := 0) (s := dp f d i + 46) (n := dnl f d i) hj
        rw [Nat.zero_add] at e0
        have e2 := n3 j hj
        have e3 : ub (f (dp f d i + 46 + j)) ≤ 126 := e2.2
        refine ⟨?_, by omega⟩
        rw [e0]
        exact tb_nI (B.2.2.2.2.2.2.2 _) (by omega))
      have eE : va_up (re f d) i ((dnm f d i, dnl f d i), (fun j => f (dat f d i + j), dbc f d i), nI (dme f d i), nI (dsz f d i), nI (dck f d i)) = re f d := vup_id
      rw [eE] at A3
      refine ih (i + 1) _ o _ _ _ (by omega) ?_ ?_ A3
      · exact FR_tr hF (FR_tr F1 (FR_tr (FR_BS (by omega) (by omega) (by omega) (by omega)) (FR_up (by omega) (by omega))))
      · rw [lN_i, lN_i]
        exact P3
theorem s_R_unpackInto (hR : RS G m) (B : BY G m 2 3 65536 f u) (h4 : m 204 = .inr (7, RF t x y (nI h) ab az)) (D : FD m f p d h) (E : FE m f u d h) (hh : h ≤ 64) (hp : p ≤ u) (hbe : ∀ j, j < h → bend f d j ≤ u) (hnm : ∀ j, j < h → isNm (dnm f d j) (dnl f d j) = true) (hsum : sum (dbc f d) h ≤ 65536) {E0 : Nat → En} (P : PB G m k o e n s) (A : AB k o e n s E0) : mm_W l G k_R_unpackInto 0 (lv_args 0 [.ref 204, .ref 8]) [] b m (fun v m2 => v = .inl none ∧ FR 8 203 m m2 ∧ ∃ o e n s, PB G m2 h o e n s ∧ AB h o e n s (re f d)) := by
  have hF : FR 8 203 m (BS G (va_up m 8 (.inr (1, [.ref 9, .ref 202, .int (nI 0)]))) 202 203 65536 s.1 0) := FR_tr (FR_up (by omega) (by omega)) (FR_BS (by omega) (by omega) (by omega) (by omega))
  exact t_R_unpackInto_0 (Nat.le_of_eq (Nat.zero_add _)) P.1 (by omega) (s_X_clear P) (L_R_unpackInto hR B h4 D E hh hp hbe hnm hsum h 0 _ o e n (s.1, 0) (by omega) hF (PB_clear P) (AB_clear A _))
end UNP
