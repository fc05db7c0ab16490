/-! the reader: the order of the heads, the places, the checks -/
theorem upd_s {f : Nat → Int32} {k : Nat} {v : Int32} : upd f k v k = v := if_pos rfl
theorem upd_n {f : Nat → Int32} {k j : Nat} {v : Int32} (h : j ≠ k) : upd f k v j = f j := if_neg h
def ins (q : Nat → Nat) (s i : Nat) : Nat → Nat := fun k => if k < s then q k else if k = s then i else q (k - 1)
theorem ins_sp {h q : Nat → Nat} {s i : Nat} (S : sp h i q) (hs : s ≤ i) (h1 : ∀ k, s ≤ k → k < i → h i < h (q k)) (h2 : ∀ k, k < s → h (q k) ≤ h i) : sp h (i + 1) (ins q s i) := by
  obtain ⟨s1, s2, s3⟩ := S
  refine ⟨fun k hk => ?_, fun a c hac hc => ?_, fun j hj => ?_⟩
  · unfold ins
    by_cases q1 : k < s
    · rw [if_pos q1]
      have := s1 k (by omega)
      omega
    · rw [if_neg q1]
      by_cases q2 : k = s
      · rw [if_pos q2]; omega
      · rw [if_neg q2]
        have := s1 (k - 1) (by omega)
        omega
  · unfold ins
    by_cases q1 : c < s
    · rw [if_pos (by omega), if_pos q1]
      exact s2 a c hac (by omega)
    · rw [if_neg q1]
      by_cases q2 : c = s
      · rw [if_pos q2, if_pos (by omega)]
        have e1 := h2 a (by omega)
        have e2 := s1 a (by omega)
        unfold lx
        omega
      · rw [if_neg q2]
        by_cases q3 : a < s
        · rw [if_pos q3]
          exact s2 a (c - 1) (by omega) (by omega)
        · rw [if_neg q3]
          by_cases q4 : a = s
          · rw [if_pos q4]
            exact Or.inl (h1 (c - 1) (by omega) (by omega))
          · rw [if_neg q4]
            exact s2 (a - 1) (c - 1) (by omega) (by omega)
  · by_cases q1 : j = i
    · refine ⟨s, by omega, ?_⟩
      unfold ins
      rw [if_neg (by omega), if_pos rfl, q1]
    · obtain ⟨k, hk, e⟩ := s3 j (by omega)
      by_cases q2 : k < s
      · refine ⟨k, by omega, ?_⟩
        unfold ins
        rw [if_pos q2, e]
      · refine ⟨k + 1, by omega, ?_⟩
        unfold ins
        rw [if_neg (by omega), if_neg (by omega)]
        exact e
abbrev arO (G : mm_G) (od : Nat → Int32) : va_E := .inl (G.2 1, 64, .inl od)
section RDP
variable {l : Launch} {G : mm_G} {m m2 : mm_Mem} {b : Nat} {f : Nat → Int32} {u : Nat} {t : Int32 × Int32 × Int32} {x y z : Int32} {ab az : Int64} {p d h : Nat}
theorem L_R_orderIn (hR : RS G m) (h4 : m 204 = .inr (7, RF t x y z ab az)) (D : FD m f p d h) (hh : h ≤ 64) {i : Nat} (hi : i < h) {q : Nat → Nat} (S : sp (dhd f d) i q) {Q : mm_O → mm_Mem → Prop} (H : ∀ od q, sp (dhd f d) (i + 1) q → (∀ k, k < i + 1 → od k = nI (q k)) → mm_W l G k_R_orderByHeads 2 [(0, .ref 204), (1, .int (nI (i + 1)))] [] b (va_up m 335 (arO G od)) Q) : ∀ s od, s ≤ i → (∀ k, k < s → od k = nI (q k)) → (∀ k, s < k → k < i + 1 → od k = nI (q (k - 1))) → (∀ k, s ≤ k → k < i → dhd f d i < dhd f d (q k)) → mm_W l G k_R_orderByHeads 12 [(0, .ref 204), (1, .int (nI i)), (2, .int (nI s))] [] b (va_up m 335 (arO G od)) Q := by
  obtain ⟨⟨F, r1, r2⟩, r3⟩ := hR
  have h41 : ∀ od, va_up m 335 (arO G od) 204 = .inr (7, RF t x y z ab az) := fun od => (up_n (by omega)).trans h4
  have r11 : ∀ od, va_up m 335 (arO G od) 205 = arG G F := fun od => (up_n (by omega)).trans r1
  have hD : ∀ od j, j < h → ∃ fb en, va_up m 335 (arO G od) (206 + 2 * j) = .inr (6, GL (207 + 2 * j) f (dp f d j) fb en) := fun od j hj => by
    obtain ⟨⟨fb, en, d1⟩, -⟩ := D j hj
    exact ⟨fb, en, (up_n (by omega)).trans d1⟩
  have h65 : ∀ s od, s ≤ i → (∀ k, k < s → od k = nI (q k)) → (∀ k, s < k → k < i + 1 → od k = nI (q (k - 1))) → (∀ k, s ≤ k → k < i → dhd f d i < dhd f d (q k)) → (∀ k, k < s → dhd f d (q k) ≤ dhd f d i) → mm_W l G k_R_orderByHeads 65 [(0, .ref 204), (1, .int (nI i)), (2, .int (nI s))] [] b (va_up m 335 (arO G od)) Q := by
    intro s od hs o1 o2 g1 g2
    refine t_R_orderByHeads_65 (h41 od) (by omega) rfl up_s (by omega) (vp_in_nI (by omega) (by omega)) ?_
    rw [up_uu, nI_1, nI_clamp (by omega)]
    refine H _ (ins q s i) (ins_sp S hs g1 g2) (fun k hk => ?_)
    unfold ins
    by_cases q1 : k < s
    · rw [if_pos q1, upd_n (by omega)]
      exact o1 k q1
    · rw [if_neg q1]
      by_cases q2 : k = s
      · rw [if_pos q2, q2, upd_s]
      · rw [if_neg q2, upd_n q2]
        exact o2 k (by omega) hk
  intro s
  induction s with
  | zero =>
    intro od hs o1 o2 g1
    exact t_R_orderByHeads_12 (fun _ => h65 0 od (by omega) o1 o2 g1 (fun k hk => absurd hk (by omega))) (fun z => absurd (by decide) z)
  | succ s ih =>
    intro od hs o1 o2 g1
    refine t_R_orderByHeads_12 (fun z => absurd z (nI_ge (a := 0) (by omega) (by omega))) (fun _ => ?_)
    have hq := S.1 s (by omega)
    have e1 : (nI (s + 1) - 1).toNatClampNeg = s := by rw [nI_pred, nI_clamp (by omega)]
    have e2 : od (nI (s + 1) - 1).toNatClampNeg = nI (q s) := by rw [e1]; exact o1 s (by omega)
    have e3 : (od (nI (s + 1) - 1).toNatClampNeg).toNatClampNeg = q s := by rw [e2, nI_clamp (by omega)]
    obtain ⟨fb, en, d1⟩ := hD od (q s) (by omega)
    obtain ⟨fb2, en2, d2⟩ := hD od i hi
    have hc : (nI i).toNatClampNeg = i := nI_clamp (by omega)
    have l1 : dhd f d (q s) < 4294967296 := le4 f _
    have l2 : dhd f d i < 4294967296 := le4 f _
    have hv : vp_in (nI (s + 1) - 1) 64 := by rw [nI_pred]; exact vp_in_nI (by omega) (by omega)
    have hv2 : vp_in (od (nI (s + 1) - 1).toNatClampNeg) 64 := by rw [e2]; exact vp_in_nI (by omega) (by omega)
    have ecmp : lg_cmp (lN (dhd f d (q s))) (lN (dhd f d i)) ≤ 0 ↔ dhd f d (q s) ≤ dhd f d i := by rw [lg_cmp_le, lN_leB (by omega) (by omega)]
    refine t_R_orderByHeads_16 (h41 od) (by omega) rfl rfl up_s (by omega) hv (r11 od) (by omega) hv2 (by rw [e3]; exact r2 (q s) (by omega)) d1 (by omega) rfl (vp_in_nI (by omega) (by omega)) (by rw [hc]; exact r2 i (by omega)) d2 (by omega) rfl (fun w1 => ?_) (fun w1 => ?_)
    · have w1 := ecmp.mp w1
      refine h65 (s + 1) od hs o1 o2 g1 (fun k hk => ?_)
      by_cases q1 : k = s
      · rw [q1]; exact w1
      · have := S.2.1 k s (by omega) (by omega)
        unfold lx at this
        omega
    · have w1 := fun q => w1 (ecmp.mpr q)
      refine t_R_orderByHeads_45 (h41 od) (by omega) rfl up_s (by omega) hv (vp_in_nI (by omega) (by omega)) ?_
      rw [up_uu, e2, i_m1, nI_pred, nI_clamp (by omega)]
      refine ih _ (by omega) (fun k hk => ?_) (fun k hk hk2 => ?_) (fun k hk hk2 => ?_)
      · rw [upd_n (by omega)]
        exact o1 k (by omega)
      · by_cases q1 : k = s + 1
        · rw [q1, upd_s]
          rfl
        · rw [upd_n q1]
          exact o2 k (by omega) hk2
      · by_cases q1 : k = s
        · rw [q1]; exact Nat.lt_of_not_le w1
        · exact g1 k (by omega) hk2
theorem L_R_orderByHeads (hR : RS G m) (h4 : m 204 = .inr (7, RF t x y (nI h) ab az)) (D : FD m f p d h) (hh : h ≤ 64) : ∀ w i od q, i + w = h → sp (dhd f d) i q → (∀ k, k < i → od k = nI (q k)) → mm_W l G k_R_orderByHeads 2 [(0, .ref 204), (1, .int (nI i))] [] b (va_up m 335 (arO G od)) (fun v m2 => v = .inl none ∧ ∃ od q, sp (dhd f d) h q ∧ (∀ k, k < h → od k = nI (q k)) ∧ m2 = va_up m 335 (arO G od)) := by
  have h41 : ∀ od, va_up m 335 (arO G od) 204 = .inr (7, RF t x y (nI h) ab az) := fun od => (up_n (by omega)).trans h4
  intro w
  induction w with
  | zero =>
    intro i od q hi S ho
    have hih : i = h := by omega
    subst hih
    exact t_R_orderByHeads_2 (h41 od) (by omega) rfl (fun _ => t_R_orderByHeads_78 ⟨rfl, od, q, S, ho, rfl⟩) (fun z => absurd (nI_le (by omega) (by omega)) z)
  | succ w ih =>
    intro i od q hi S ho
    refine t_R_orderByHeads_2 (h41 od) (by omega) rfl (fun z => absurd z (nI_ge (by omega) (by omega))) (fun _ => t_R_orderByHeads_10 ?_)
    exact L_R_orderIn hR h4 D hh (by omega) S (fun od2 q2 S2 ho2 => ih (i + 1) od2 q2 (by omega) S2 ho2) i od (Nat.le_refl _) ho (fun k h1 h2 => absurd h1 (by omega)) (fun k h1 h2 => absurd h1 (by omega))
theorem s_R_orderByHeads (hR : RS G m) (h4 : m 204 = .inr (7, RF t x y (nI h) ab az)) (D : FD m f p d h) (hh : h ≤ 64) : mm_W l G k_R_orderByHeads 0 (lv_args 0 [.ref 204]) [] b m (fun v m2 => v = .inl none ∧ ∃ od q, sp (dhd f d) h q ∧ (∀ k, k < h → od k = nI (q k)) ∧ m2 = va_up m 335 (arO G od)) := by
  obtain ⟨od, r5⟩ := hR.2.2.2
  have h := L_R_orderByHeads (l := l) (b := b) hR h4 D hh h 0 od (fun _ => 0) (by omega) ⟨fun i hi => absurd hi (by omega), fun i j h1 h2 => absurd h2 (by omega), fun j hj => absurd hj (by omega)⟩ (fun k hk => absurd hk (by omega))
  rw [up_id r5] at h
  exact t_R_orderByHeads_0 h
theorem L_R_examinePlaces {m0 : mm_Mem} {od : Nat → Int32} {q : Nat → Nat} (hR : RS G m) (h4 : m 204 = .inr (7, RF t (nI p) (nI d) (nI h) ab az)) (h5 : m 335 = arO G od) (D : FD m f p d h) (E : FE m f u d h) (S : sp (dhd f d) h q) (ho : ∀ k, k < h → od k = nI (q k)) (hF : FR 204 335 m0 m) (hh : h ≤ 64) (hd : d ≤ 65536) (hte : ∀ j, j < h → tend f u d j ≤ d) : ∀ w i a, i + w = h → a ≤ d → gsr f u d q h 0 0 = gsr f u d q w i a → mm_W l G k_R_examinePlaces 8 [(0, .ref 204), (1, .int (nI a)), (2, .int (nI i))] [] b m (fun v m2 => FR 204 335 m0 m2 ∧ RS G m2 ∧ ∃ q, sp (dhd f d) h q ∧ ((∃ r, gsr f u d q h 0 0 = some r ∧ v = .inl (some (.int 0)) ∧ ∃ x y z a c, m2 204 = .inr (7, RF r x y z a c)) ∨ (gsr f u d q h 0 0 = none ∧ v = .inl (some (.int 1)) ∧ FD m2 f p d h ∧ FE m2 f u d h ∧ m2 204 = .inr (7, RF t (nI p) (nI d) (nI h) ab az)))) := by
  intro w
  induction w with
  | zero =>
    intro i a hi ha hg
    refine t_R_examinePlaces_8 h4 (by omega) rfl (fun _ => ?_) (fun z => absurd (nI_le (by omega) (by omega)) z)
    refine t_R_examinePlaces_63 h4 (by omega) rfl (fun w1 => ?_) (fun w1 => ?_)
    · have w1 := (nI_eq (by omega) (by omega)).mp w1
      refine t_R_examinePlaces_82 (t_R_examinePlaces_87 ⟨hF, hR, q, S, Or.inr ⟨?_, rfl, D, E, h4⟩⟩ rfl)
      rw [hg, gsr, ifc_t w1]
    · have w1 : ¬ a = d := fun e => w1 (by rw [e])
      refine t_R_examinePlaces_71 (Nat.le_of_eq (Nat.zero_add _)) h4 (by omega) (s_R_note h4 10 (nI a) (-1)) (fun _ => ?_) (fun z => absurd rfl z)
      refine t_R_examinePlaces_86 (t_R_examinePlaces_87 ⟨FR_tr hF (FR_up (by omega) (by omega)), RS_4 hR, q, S, Or.inl ⟨(10, nI a, -1), ?_, rfl, _, _, _, _, _, up_s⟩⟩ rfl)
      rw [hg, gsr, ifc_f w1]
  | succ w ih =>
    intro i a hi ha hg
    refine t_R_examinePlaces_8 h4 (by omega) rfl (fun z => absurd z (nI_ge (by omega) (by omega))) (fun _ => ?_)
    obtain ⟨⟨F, r1, r2⟩, -⟩ := id hR
    have hq := S.1 i (by omega)
    have hc : (nI i).toNatClampNeg = i := nI_clamp (by omega)
    have e2 : od (nI i).toNatClampNeg = nI (q i) := by rw [hc]; exact ho i (by omega)
    have e3 : (od (nI i).toNatClampNeg).toNatClampNeg = q i := by rw [e2, nI_clamp (by omega)]
    have hv2 : vp_in (od (nI i).toNatClampNeg) 64 := by rw [e2]; exact vp_in_nI (by omega) (by omega)
    have d1 := E (q i) hq
    have l1 : dhd f d (q i) < 4294967296 := le4 f _
    have ecmp : lg_cmp (lN (dhd f d (q i))) (nI a).toInt64 = 0 ↔ dhd f d (q i) = a := by rw [lg_cmp_eq, nI_l (by omega), lN_eqB (by omega) (by omega)]
    refine t_R_examinePlaces_16 h4 (by omega) rfl rfl h5 (by omega) (vp_in_nI (by omega) (by omega)) r1 (by omega) hv2 (by rw [e3]; exact r2 (q i) (by omega)) d1 (by omega) rfl (fun w1 => ?_) (fun w1 => ?_)
    · have w1 := ecmp.mp w1
      refine t_R_examinePlaces_52 d1 (by omega) rfl ?_
      rw [nI_1]
      refine ih (i + 1) (tend f u d (q i)) (by omega) (hte _ hq) ?_
      rw [hg, gsr, ifc_t w1]
    · have w1 := fun e => w1 (ecmp.mpr e)
      refine t_R_examinePlaces_38 h4 (by omega) rfl h5 (by omega) (vp_in_nI (by omega) (by omega)) (Nat.le_of_eq (Nat.zero_add _)) (s_R_note h4 10 (nI a) (od (nI i).toNatClampNeg)) ⟨FR_tr hF (FR_up (by omega) (by omega)), RS_4 hR, q, S, Or.inl ⟨(10, nI a, od (nI i).toNatClampNeg), ?_, rfl, _, _, _, _, _, up_s⟩⟩ rfl
      rw [hg, gsr, ifc_f w1, e2]
/-- examinePlaces -/
theorem s_R_examinePlaces (hR : RS G m) (h4 : m 204 = .inr (7, RF t (nI p) (nI d) (nI h) ab az)) (D : FD m f p d h) (E : FE m f u d h) (hh : h ≤ 64) (hd : d ≤ 65536) (hte : ∀ j, j < h → tend f u d j ≤ d) : mm_W l G k_R_examinePlaces 0 (lv_args 0 [.ref 204]) [] b m (fun v m2 => FR 204 335 m m2 ∧ RS G m2 ∧ ∃ q, sp (dhd f d) h q ∧ ((∃ r, gsr f u d q h 0 0 = some r ∧ v = .inl (some (.int 0)) ∧ ∃ x y z a c, m2 204 = .inr (7, RF r x y z a c)) ∨ (gsr f u d q h 0 0 = none ∧ v = .inl (some (.int 1)) ∧ FD m2 f p d h ∧ FE m2 f u d h ∧ m2 204 = .inr (7, RF t (nI p) (nI d) (nI h) ab az)))) := by
  refine t_R_examinePlaces_0 (Nat.le_of_eq (Nat.zero_add _)) h4 (by omega) (s_R_orderByHeads hR h4 D hh) (fun E n hn => ?_) (fun v n hn => ?_)
  · cases hn.1
  · obtain ⟨e1, od, q, S, ho, rfl⟩ := hn
    refine ⟨by cases e1; rfl, t_R_examinePlaces_4 ?_⟩
    refine L_R_examinePlaces (RS_335 hR) ((up_n (by omega)).trans h4) up_s (fun j hj => ?_) (fun j hj => (up_n (by omega)).trans (E j hj)) S ho (FR_up (by omega) (by omega)) hh hd hte h 0 0 (by omega) (by omega) rfl
    obtain ⟨⟨fb, en, d1⟩, d2, d3⟩ := D j hj
    exact ⟨⟨fb, en, (up_n (by omega)).trans d1⟩, (up_n (by omega)).trans d2, d3⟩
def nt (m : mm_Mem) (o : Fl) (x y z : Int32) (a c : Int64) : mm_Mem := match o with
  | none => m
  | some r => va_up m 204 (.inr (7, RF r x y z a c))
def nv (o : Fl) : Int32 := match o with
  | none => 1
  | some _ => 0
theorem L_R_examineChecks {T : Nat → Int32} (hR : RS G m) (C : CK G m 6 7 T) (B : BY G m 2 3 65536 f u) (h4 : m 204 = .inr (7, RF t (nI p) (nI d) (nI h) ab az)) (D : FD m f p d h) (E : FE m f u d h) (hh : h ≤ 64) (hbe : ∀ j, j < h → bend f d j ≤ u) : ∀ w i, i + w = h → mm_W l G k_R_examineChecks 2 [(0, .ref 204), (1, .int (nI i))] [] b m (mm_is (.inl (some (.int (nv (csr f d w i))))) (nt m (csr f d w i) (nI p) (nI d) (nI h) ab az)) := by
  have hu := B.2.2.2.2.2.1
  intro w
  induction w with
  | zero =>
    intro i hi
    exact t_R_examineChecks_2 h4 (by omega) rfl (fun _ => t_R_examineChecks_79 ⟨rfl, rfl⟩ rfl) (fun z => absurd (nI_le (by omega) (by omega)) z)
  | succ w ih =>
    intro i hi
    refine t_R_examineChecks_2 h4 (by omega) rfl (fun z => absurd z (nI_ge (by omega) (by omega))) (fun _ => ?_)
    obtain ⟨⟨F, r1, r2⟩, -⟩ := id hR
    have hc : (nI i).toNatClampNeg = i := nI_clamp (by omega)
    have d1 := E i (by omega)
    obtain ⟨-, d2, -⟩ := D i (by omega)
    have hme : dme f d i < 65536 := le2 f _
    have hb2 : dat f d i + dbc f d i ≤ u := hbe i (by omega)
    have hgo : cok f d i → mm_W l G k_R_examineChecks 73 [(0, .ref 204), (1, .int (nI i))] [] b m (mm_is (.inl (some (.int (nv (csr f d (w + 1) i))))) (nt m (csr f d (w + 1) i) (nI p) (nI d) (nI h) ab az)) := by
      intro q
      refine t_R_examineChecks_73 ?_
      rw [nI_1, csr, ifc_t q]
      exact ih (i + 1) (by omega)
    refine t_R_examineChecks_10 h4 (by omega) rfl r1 (by omega) (vp_in_nI (by omega) (by omega)) (by rw [hc]; exact r2 i (by omega)) d1 (by omega) rfl d2 (by omega) rfl (fun w1 => ?_) (fun w1 => ?_)
    · have w1 : ¬ dme f d i = 0 := fun q => w1 ((nI_eq (a := dme f d i) (b := 0) (by omega) (by omega)).mpr q)
      exact hgo (fun q => absurd q w1)
    · have w1 : dme f d i = 0 := (nI_eq (a := dme f d i) (b := 0) (by omega) (by omega)).mp w1
      have hM := s_C_checkOf (l := l) (b := 0) C B (s := dat f d i) (n := dbc f d i) hb2
      rw [← lN_i (dbc f d i)] at hM
      refine t_R_examineChecks_29 h4 (by omega) rfl rfl d1 (by omega) rfl d2 (by omega) rfl (Nat.le_of_eq (Nat.zero_add _)) C.1 (by omega) hM d2 rfl (fun w2 => ?_) (fun w2 => ?_)
      · rw [lN_i] at w2
        exact hgo (fun _ => w2)
      · rw [lN_i] at w2
        have hno : ¬ cok f d i := fun q => w2 (q w1)
        refine t_R_examineChecks_61 d1 (by omega) rfl (Nat.le_of_eq (Nat.zero_add _)) h4 (by omega) (s_R_note h4 11 (nI (dat f d i)) (nI i)) ⟨?_, ?_⟩ rfl
        · rw [csr, ifc_f hno]
          rfl
        · rw [csr, ifc_f hno]
          rfl
theorem s_R_examineChecks {T : Nat → Int32} (hR : RS G m) (C : CK G m 6 7 T) (B : BY G m 2 3 65536 f u) (h4 : m 204 = .inr (7, RF t (nI p) (nI d) (nI h) ab az)) (D : FD m f p d h) (E : FE m f u d h) (hh : h ≤ 64) (hbe : ∀ j, j < h → bend f d j ≤ u) : mm_W l G k_R_examineChecks 0 (lv_args 0 [.ref 204]) [] b m (mm_is (.inl (some (.int (nv (csr f d h 0))))) (nt m (csr f d h 0) (nI p) (nI d) (nI h) ab az)) :=
  t_R_examineChecks_0 (L_R_examineChecks hR C B h4 D E hh hbe h 0 (by omega))
end RDP
