/-! the model's methods: type, add, addPacked -/
theorem seg_succ (f : Nat → Int32) (s n : Nat) : seg f s (n + 1) = seg f s n ++ [f (s + n)] := by
  unfold seg
  rw [List.range_succ, List.map_append]
  rfl
section MO4
variable {l : Launch} {G : mm_G} {m : mm_Mem} {b : Nat} {S : St} {c0 : Int32} {hp ot : Nat} {x : Int32 × Int32 × Int64 × Int32 × Int32} {A : Nat → Nat → Int32} {hf : Nat → Int32}
theorem mty1 (w k : Int32) (n c : Nat) (bad : Prop) (hn : n ≤ 24) (hk : (k &&& 31).toBitVec.smod 32 = BitVec.ofNat 32 n) (ek : nI n = k) {Q : mm_O → mm_Mem → Prop} (H : mm_W l G k_M_type 8 [(0, .ref 336), (1, .int w), (2, .int (nI (c + lc (lt w k)))), (3, .int (bp (bad ∨ bl (lt w k) = true))), (4, .int (k + (-8)))] [] b m Q) : mm_W l G k_M_type 13 [(0, .ref 336), (1, .int w), (2, .int (nI c)), (3, .int (bp bad)), (4, .int k)] [] b m Q := by
  have hl : lt w k < 256 := ub_lt _
  have el : (w >>> (k &&& 31)) &&& 255 = nI (lt w k) := by
    rw [ub_and, (sar_low hn hk).2, ek]
    rfl
  have h64 : ∀ (fl : Int32) (_ : fl = bp (bad ∨ bl (lt w k) = true)), mm_W l G k_M_type 64 [(0, .ref 336), (1, .int w), (2, .int (nI (c + lc (lt w k)))), (4, .int k)] [.int fl] b m Q := fun fl e => by
    subst e
    exact t_M_type_64 H
  have h35 : mm_W l G k_M_type 35 [(0, .ref 336), (1, .int w), (3, .int (bp bad)), (4, .int k), (5, .int (nI (lt w k)))] [.int (nI (c + lc (lt w k)))] b m Q := by
    refine t_M_type_35 (fun z => t_M_type_59 (h64 1 ?_)) (fun z => ?_)
    · rw [bp_t (Or.inl (bp_n0 z))]
    · have z := bp_0.mp z
      refine t_M_type_40 (fun z1 => t_M_type_63 (h64 0 ?_)) (fun z1 => ?_)
      · have z1 : lt w k ≤ 0 := (nI_leI (b := 0) (by omega) (by omega)).mp z1
        rw [bp_f]
        rintro (q | q)
        · exact z q
        · simp [bl, show lt w k = 0 by omega] at q
      · have z1 : ¬ lt w k ≤ 0 := fun q => z1 ((nI_leI (b := 0) (by omega) (by omega)).mpr q)
        refine t_M_type_45 (fun z2 => t_M_type_59 (h64 1 ?_)) (fun z2 => ?_)
        · have z2 : lt w k < 33 := (nI_ltI (b := 33) (by omega) (by omega)).mp z2
          rw [bp_t (Or.inr (by simp [bl, z2]; omega))]
        · have z2 : ¬ lt w k < 33 := fun q => z2 ((nI_ltI (b := 33) (by omega) (by omega)).mpr q)
          refine t_M_type_52 (fun z3 => t_M_type_63 (h64 0 ?_)) (fun z3 => t_M_type_59 (h64 1 ?_))
          · have z3 : lt w k ≤ 126 := (nI_leI (b := 126) (by omega) (by omega)).mp z3
            rw [bp_f]
            rintro (q | q)
            · exact z q
            · simp [bl] at q; omega
          · have z3 : ¬ lt w k ≤ 126 := fun q => z3 ((nI_leI (b := 126) (by omega) (by omega)).mpr q)
            rw [bp_t (Or.inr (by simp [bl]; omega))]
  refine t_M_type_13 (fun z => ?_) (fun z => ?_)
  · rw [el] at z ⊢
    have z : lt w k ≤ 0 := (nI_leI (b := 0) (by omega) (by omega)).mp z
    have e : c + lc (lt w k) = c := by unfold lc; rw [if_pos (by omega)]; rfl
    rw [e] at h35
    exact t_M_type_34 h35
  · rw [el] at z ⊢
    have z : ¬ lt w k ≤ 0 := fun q => z ((nI_leI (b := 0) (by omega) (by omega)).mpr q)
    have e : c + lc (lt w k) = c + 1 := by unfold lc; rw [if_neg (by omega)]
    rw [e] at h35
    refine t_M_type_28 ?_
    rw [nI_1]
    exact h35
/-- the model's cells while type walks: the typed name is T -/
def TM (G : mm_G) (m m2 : mm_Mem) (S : St) (hp ot : Nat) (x : Int32 × Int32 × Int64 × Int32 × Int32) (T : (Nat → Nat) × Nat) : Prop := m2 336 = .inr (8, ML hp ot 0 (nI S.1.2) (nI T.2) (nI S.2.2.1.1) (nI (us S)) S.2.2.2 x) ∧ m2 338 = aI G (fun j => nI (T.1 j)) ∧ ∀ a, a ≠ 336 → a ≠ 338 → m2 a = m a
theorem mty2 (w k : Int32) (n : Nat) (hn : n ≤ 24) (hk : (k &&& 31).toBitVec.smod 32 = BitVec.ofNat 32 n) (ek : nI n = k) (T : (Nat → Nat) × Nat) (hb : T.2 + lc (lt w k) ≤ 64) {Q : mm_O → mm_Mem → Prop} {m2 : mm_Mem} (M : TM G m m2 S hp ot x T) (H : ∀ m3, TM G m m3 S hp ot x (pt T (lt w k)) → mm_W l G k_M_type 153 [(0, .ref 336), (1, .int w), (4, .int k)] [] b m3 Q) : mm_W l G k_M_type 117 [(0, .ref 336), (1, .int w), (4, .int k)] [] b m2 Q := by
  have hl : lt w k < 256 := ub_lt _
  have el : (w >>> (k &&& 31)) &&& 255 = nI (lt w k) := by
    rw [ub_and, (sar_low hn hk).2, ek]
    rfl
  refine t_M_type_117 (fun z => ?_) (fun z => ?_)
  · rw [el] at z
    have z : lt w k ≤ 0 := (nI_leI (b := 0) (by omega) (by omega)).mp z
    have e : pt T (lt w k) = T := if_pos (by omega)
    exact H m2 (by rw [e]; exact M)
  · rw [el] at z ⊢
    have z : ¬ lt w k ≤ 0 := fun q => z ((nI_leI (b := 0) (by omega) (by omega)).mpr q)
    have e : pt T (lt w k) = (va_up T.1 T.2 (lt w k), T.2 + 1) := if_neg (by omega)
    have e2 : lc (lt w k) = 1 := if_neg (by omega)
    refine t_M_type_132 M.1 (by omega) rfl rfl M.2.1 (by omega) (vp_in_nI (by omega) (by omega)) ((up_n (by omega)).trans M.1) rfl (Nat.le_of_ble_eq_true rfl) (H _ ?_)
    rw [e]
    refine ⟨?_, ?_, fun a q1 q2 => (up_n q1).trans ((up_n q2).trans (M.2.2 a q1 q2))⟩
    · rw [up_s]
      show Sum.inr (8, ML hp ot 0 (nI S.1.2) (nI T.2 + 1) (nI S.2.2.1.1) (nI (us S)) S.2.2.2 x) = _
      rw [nI_1]
    · rw [up_n (by omega), up_s, nI_clamp (by omega)]
      congr 3
      congr 1
      funext j
      show upd (fun j => nI (T.1 j)) T.2 (nI (lt w k)) j = nI (va_up T.1 T.2 (lt w k) j)
      by_cases q : j = T.2
      · rw [q, upd_s, vup_s]
      · rw [upd_n q, vup_n q]
theorem m_type (h : MP G m S c0) (w : Int32) : MO l G k_M_type [.int w] b m false (o_type S w) := by
  obtain ⟨hp, ot, x, A, hf, W⟩ := h
  have hS := W.2.2.2.2.2
  have htu := hS.2.1
  have l1 : ∀ c, lc c ≤ 1 := fun c => by unfold lc; split <;> omega
  have n1 := l1 (lt w 24)
  have n2 := l1 (lt w 16)
  have n3 := l1 (lt w 8)
  have n4 := l1 (lt w 0)
  refine t_M_type_0 (t_M_type_8 (fun z => absurd z (by decide)) (fun _ => ?_))
  have hstart : mm_W l G k_M_type 13 [(0, .ref 336), (1, .int w), (2, .int (nI 0)), (3, .int (bp False)), (4, .int 24)] [] b m (fun v m2 => v = .inl (some (.int (o_type S w).2.1)) ∧ FR 336 352 m m2 ∧ MP G m2 (o_type S w).2.2 (nI (o_type S w).1)) := by
    refine mty1 w 24 24 0 False (by omega) (by decide) rfl (t_M_type_8 (fun z => absurd z (by decide)) (fun _ => ?_))
    refine mty1 w 16 16 _ _ (by omega) (by decide) rfl (t_M_type_8 (fun z => absurd z (by decide)) (fun _ => ?_))
    refine mty1 w 8 8 _ _ (by omega) (by decide) rfl (t_M_type_8 (fun z => absurd z (by decide)) (fun _ => ?_))
    refine mty1 w 0 0 _ _ (by omega) (by decide) rfl (t_M_type_8 (fun _ => ?_) (fun z => absurd (by decide) z))
    refine t_M_type_71 (fun z => ?_) (fun z => ?_)
    · have z := bp_0.mp z
      have hnb : ¬ (bl (lt w 24) = true ∨ bl (lt w 16) = true ∨ bl (lt w 8) = true ∨ bl (lt w 0) = true) := by
        rintro (q | q | q | q)
        · exact z (Or.inl (Or.inl (Or.inl (Or.inr q))))
        · exact z (Or.inl (Or.inl (Or.inr q)))
        · exact z (Or.inl (Or.inr q))
        · exact z (Or.inr q)
      refine t_M_type_80 W.1 (by omega) rfl (fun z1 => ?_) (fun z1 => ?_)
      · have z1 := (nI_leI (a := S.2.1.2 + (0 + lc (lt w 24) + lc (lt w 16) + lc (lt w 8) + lc (lt w 0))) (b := 64) (by omega) (by omega)).mp (by rw [← nI_add]; exact z1)
        have hr : o_type S w = (0, nI (S.2.1.2 + (lc (lt w 24) + lc (lt w 16) + lc (lt w 8) + lc (lt w 0))), S.1, pt (pt (pt (pt S.2.1 (lt w 24)) (lt w 16)) (lt w 8)) (lt w 0), S.2.2) := by
          unfold o_type
          rw [if_neg hnb, if_neg (by omega)]
        rw [hr]
        have hnn : ∀ p : Prop, (¬ p) → ∀ bb : Bool, bb = true ∨ bb = false := fun _ _ bb => by cases bb <;> simp
        have b1 : bl (lt w 24) = false := Bool.eq_false_iff.mpr (fun q => hnb (Or.inl q))
        have b2 : bl (lt w 16) = false := Bool.eq_false_iff.mpr (fun q => hnb (Or.inr (Or.inl q)))
        have b3 : bl (lt w 8) = false := Bool.eq_false_iff.mpr (fun q => hnb (Or.inr (Or.inr (Or.inl q))))
        have b4 : bl (lt w 0) = false := Bool.eq_false_iff.mpr (fun q => hnb (Or.inr (Or.inr (Or.inr q))))
        have t1 := pt_lt hS.2.2.1 b1
        have t2 := pt_lt t1 b2
        have t3 := pt_lt t2 b3
        have t4 := pt_lt t3 b4
        have m1 := pt_n S.2.1 (lt w 24)
        have m2 := pt_n (pt S.2.1 (lt w 24)) (lt w 16)
        have m3 := pt_n (pt (pt S.2.1 (lt w 24)) (lt w 16)) (lt w 8)
        have m4 := pt_n (pt (pt (pt S.2.1 (lt w 24)) (lt w 16)) (lt w 8)) (lt w 0)
        refine t_M_type_95 (t_M_type_96 W.1 (by omega) (Nat.le_of_ble_eq_true rfl) up_s (by omega) rfl (fun _ => t_M_type_108 (t_M_type_112 (fun z => absurd z (by decide)) (fun _ => ?_))) (fun z => absurd (by decide) z))
        refine mty2 w 24 24 (by omega) (by decide) rfl S.2.1 (by omega) (m := m) ⟨up_s, (up_n (by omega)).trans W.2.2.1, fun a q1 q2 => up_n q1⟩ (fun ma Ma => t_M_type_153 (t_M_type_112 (fun z => absurd z (by decide)) (fun _ => ?_)))
        refine mty2 w 16 16 (by omega) (by decide) rfl _ (by omega) Ma (fun mb Mb => t_M_type_153 (t_M_type_112 (fun z => absurd z (by decide)) (fun _ => ?_)))
        refine mty2 w 8 8 (by omega) (by decide) rfl _ (by omega) Mb (fun mc Mc => t_M_type_153 (t_M_type_112 (fun z => absurd z (by decide)) (fun _ => ?_)))
        refine mty2 w 0 0 (by omega) (by decide) rfl _ (by omega) Mc (fun md Md => t_M_type_153 (t_M_type_112 (fun _ => ?_) (fun z => absurd (by decide) z)))
        have e1 : (pt (pt (pt (pt S.2.1 (lt w 24)) (lt w 16)) (lt w 8)) (lt w 0)).2 = S.2.1.2 + (lc (lt w 24) + lc (lt w 16) + lc (lt w 8) + lc (lt w 0)) := by omega
        refine t_M_type_159 Md.1 (by omega) rfl ⟨by rw [e1], fun a ha => Md.2.2 a (by omega) (by omega), hp, ot, x, A, hf, ?_⟩
        exact MW_gen W (f := S.1.1) (u := S.1.2) (g := (pt (pt (pt (pt S.2.1 (lt w 24)) (lt w 16)) (lt w 8)) (lt w 0)).1) (tu := (pt (pt (pt (pt S.2.1 (lt w 24)) (lt w 16)) (lt w 8)) (lt w 0)).2) Md.1 ((Md.2.2 _ (by omega) (by omega)).trans W.2.1) Md.2.1 (fun a q1 q2 => Md.2.2 a (by omega) (by omega)) ⟨hS.1, by show (pt (pt (pt (pt S.2.1 (lt w 24)) (lt w 16)) (lt w 8)) (lt w 0)).2 ≤ 64; omega, t4, hS.2.2.2⟩
      · have z1 : ¬ S.2.1.2 + (0 + lc (lt w 24) + lc (lt w 16) + lc (lt w 8) + lc (lt w 0)) ≤ 64 := fun q => z1 (by rw [nI_add]; exact nI_le (b := 64) q (by omega))
        have hr : o_type S w = (2, 0, S) := by
          unfold o_type
          rw [if_neg hnb, if_pos (by omega)]
        rw [hr]
        exact t_M_type_91 (t_M_type_96 W.1 (by omega) (Nat.le_of_ble_eq_true rfl) up_s (by omega) rfl (fun z => absurd z (by decide)) (fun _ => t_M_type_106 ⟨rfl, MO_c W 2⟩))
    · have z := bp_n0 z
      have hr : o_type S w = (1, 0, S) := if_pos (by
        rcases z with ((((q | q) | q) | q) | q)
        · exact q.elim
        · exact Or.inl q
        · exact Or.inr (Or.inl q)
        · exact Or.inr (Or.inr (Or.inl q))
        · exact Or.inr (Or.inr (Or.inr q)))
      rw [hr]
      exact t_M_type_76 (t_M_type_96 W.1 (by omega) (Nat.le_of_ble_eq_true rfl) up_s (by omega) rfl (fun z => absurd z (by decide)) (fun _ => t_M_type_106 ⟨rfl, MO_c W 1⟩))
  rw [bp_f (fun q => q)] at hstart
  exact hstart
/-- refused(ok) -/
theorem s_M_refused (W : MW G m S c0 hp ot x A hf) (ok : Prop) : mm_W l G k_M_refused 0 (lv_args 0 [.ref 336, .int (bp ok)]) [] b m (mm_is (.inl (some (.int (ifc (refd S ∨ ¬ ok) 1 (ifc (full S) 2 0))))) m) := by
  have hB := W.2.2.2.2.1
  have hk := hB.2.1
  have hus := hB.2.2.1
  have hS := W.2.2.2.2.2
  have hu := hS.1
  have htu := hS.2.1
  have hno : (refd S ∨ ¬ ok) → mm_W l G k_M_refused 23 [] [] b m (mm_is (.inl (some (.int (ifc (refd S ∨ ¬ ok) 1 (ifc (full S) 2 0))))) m) := by
    intro q
    rw [ifc_t q]
    exact t_M_refused_23 (t_M_refused_55 ⟨rfl, rfl⟩)
  refine t_M_refused_0 (fun z => hno (Or.inr (bp_0.mp z))) (fun z => ?_)
  have z := bp_n0 z
  have hN := s_M_isName (l := l) (b := 0) W.1 (wh := -1) (g := S.2.1.1) (n := S.2.1.2) (by omega) (fun j _ => by have := hS.2.2.1 j; omega) (fun _ j hj => nameT W.1 rfl W.2.2.1 (by omega))
  refine t_M_refused_4 W.1 (by omega) rfl (Nat.le_of_eq (Nat.zero_add _)) hN (fun z1 => hno (Or.inl (Or.inl (bp_0.mp z1)))) (fun z1 => ?_)
  have z1 := bp_n0 z1
  have hfn : ∀ (p : Nat → Bool) w i, i + w ≤ 64 → (nof p w i < 0 ↔ nof p w i = -1) := by
    intro p w
    induction w with
    | zero => intro i _; exact ⟨fun _ => rfl, fun _ => (by decide : (-1 : Int32) < 0)⟩
    | succ w ih =>
      intro i hi
      simp only [nof]
      by_cases q : p i = true
      · rw [if_pos q]
        exact ⟨fun q => absurd q (nI_pos (by omega)), fun q => absurd q (nI_m1 (by omega))⟩
      · rw [if_neg q]
        exact ih (i + 1) (by omega)
  have hfn2 : fnd S < 0 ↔ fnd S = -1 := hfn _ _ _ (by omega)
  refine t_M_refused_16 (Nat.le_of_eq (Nat.zero_add _)) W.1 (by omega) (s_M_findName W) (fun z2 => ?_) (fun z2 => hno (Or.inl (Or.inr (fun q => z2 (hfn2.mpr q)))))
  have z2 := hfn2.mp z2
  have hnr : ¬ (refd S ∨ ¬ ok) := by
    rintro ((q | q) | q)
    · exact q z1
    · exact q z2
    · exact q z
  rw [ifc_f hnr]
  have hf2 : full S → mm_W l G k_M_refused 50 [] [] b m (mm_is (.inl (some (.int (ifc (full S) 2 0)))) m) := by
    intro q
    rw [ifc_t q]
    exact t_M_refused_50 (t_M_refused_55 ⟨rfl, rfl⟩)
  refine t_M_refused_27 W.1 (by omega) rfl (fun z3 => hf2 (Or.inl ((nI_eq (b := 64) (by omega) (by omega)).mp z3))) (fun z3 => ?_)
  have z3 : ¬ S.2.2.1.1 = 64 := fun q => z3 (by rw [q]; rfl)
  refine t_M_refused_36 W.1 (by omega) rfl rfl (fun z4 => ?_) (fun z4 => ?_)
  · rw [nI_add] at z4
    have z4 := (nI_leI (b := 65536) (by omega) (by omega)).mp z4
    have hnf : ¬ full S := by
      rintro (q | q)
      · exact z3 q
      · unfold us at z4; omega
    rw [ifc_f hnf]
    exact t_M_refused_54 (t_M_refused_55 ⟨rfl, rfl⟩)
  · rw [nI_add] at z4
    have z4 : ¬ us S + S.1.2 ≤ 65536 := fun q => z4 (nI_le (b := 65536) q (by omega))
    exact hf2 (Or.inr (by unfold us at z4; omega))
/-- what put leaves in the arrays of the entries -/
def pA (S : St) (A : Nat → Nat → Int32) (me sz ck : Int32) (a : Nat) : Nat → Int32 :=
  if a = 339 then app (A 339) (64 * S.2.2.1.1) (seg (fun j => nI (S.2.1.1 j)) 0 S.2.1.2) else upd (A a) S.2.2.1.1 (if a = 340 then nI S.2.1.2 else if a = 341 then me else if a = 342 then nI (us S) else if a = 343 then nI S.1.2 else if a = 344 then sz else ck)
theorem MB_put (hB : MB S A hf) (hS : MS S) (hf1 : ¬ full S) (me sz ck : Int32) : MB (put S me sz ck) (pA S A me sz ck) (app hf (us S) (seg S.1.1 0 S.1.2)) ∧ us (put S me sz ck) = us S + S.1.2 := by
  obtain ⟨b1, b2, b3, b4⟩ := hB
  have hk : S.2.2.1.1 < 64 ∧ us S + S.1.2 ≤ 65536 := by unfold full at hf1; unfold us; omega
  have eu : us (put S me sz ck) = us S + S.1.2 := by
    show sum (fun i => (va_up S.2.2.1.2 S.2.2.1.1 (S.2.1, (fun j => S.1.1 (0 + j), S.1.2), me, sz, ck) i).2.1.2) S.2.2.1.1 + (va_up S.2.2.1.2 S.2.2.1.1 (S.2.1, (fun j => S.1.1 (0 + j), S.1.2), me, sz, ck) S.2.2.1.1).2.1.2 = _
    rw [vup_s]
    show _ + S.1.2 = _
    congr 1
    exact sum_eq (fun i hi => by rw [vup_n (by omega)])
  refine ⟨⟨fun i hi => ?_, by show S.2.2.1.1 + 1 ≤ 64; omega, by rw [eu]; exact hk.2, app_tb b4 (seg_tb hS.2.2.2 _ _)⟩, eu⟩
  rw [eu]
  have hi : i < S.2.2.1.1 + 1 := hi
  show MEn _ _ _ i (va_up S.2.2.1.2 S.2.2.1.1 (S.2.1, (fun j => S.1.1 (0 + j), S.1.2), me, sz, ck) i)
  by_cases q : i = S.2.2.1.1
  · subst q
    rw [vup_s]
    refine ⟨?_, hS.2.1, fun j hj => ⟨?_, hS.2.2.1 j⟩, ?_, ?_, ?_, ?_, us S, ?_, Nat.le_refl _, fun j hj => ?_⟩
    · show upd (A 340) S.2.2.1.1 (nI S.2.1.2) S.2.2.1.1 = _
      rw [upd_s]
    · show app (A 339) (64 * S.2.2.1.1) (seg (fun j => nI (S.2.1.1 j)) 0 S.2.1.2) (64 * S.2.2.1.1 + j) = _
      rw [app_seg hj, Nat.zero_add]
    · show upd (A 341) S.2.2.1.1 me S.2.2.1.1 = _
      rw [upd_s]
    · show upd (A 343) S.2.2.1.1 (nI S.1.2) S.2.2.1.1 = _
      rw [upd_s]
    · show upd (A 344) S.2.2.1.1 sz S.2.2.1.1 = _
      rw [upd_s]
    · show upd (A 345) S.2.2.1.1 ck S.2.2.1.1 = _
      rw [upd_s]
    · show upd (A 342) S.2.2.1.1 (nI (us S)) S.2.2.1.1 = _
      rw [upd_s]
    · exact app_seg hj
  · rw [vup_n q]
    have hi : i < S.2.2.1.1 := by omega
    obtain ⟨q1, q2, q3, q4, q5, q6, q7, g, q8, q9, qa⟩ := b1 i hi
    have hu : ∀ a, 340 ≤ a → pA S A me sz ck a i = A a i := fun a ha => by
      unfold pA
      rw [if_neg (by omega), upd_n q]
    refine ⟨(hu _ (by omega)).trans q1, q2, fun j hj => ⟨?_, (q3 j hj).2⟩, (hu _ (by omega)).trans q4, (hu _ (by omega)).trans q5, (hu _ (by omega)).trans q6, (hu _ (by omega)).trans q7, g, (hu _ (by omega)).trans q8, by omega, fun j hj => ?_⟩
    · show app (A 339) (64 * S.2.2.1.1) (seg (fun j => nI (S.2.1.1 j)) 0 S.2.1.2) (64 * i + j) = _
      rw [app_out (by omega)]
      exact (q3 j hj).1
    · rw [app_out (by omega)]
      exact qa j hj
theorem L_M_put1 (W : MW G m S c0 hp ot x A hf) (hk : S.2.2.1.1 < 64) {me sz ck : Int32} {Q : mm_O → mm_Mem → Prop} (H : mm_W l G k_M_put 44 [(0, .ref 336), (1, .int me), (2, .int sz), (3, .int ck), (4, .int (nI S.2.2.1.1))] [] b (va_up m 339 (aN G (app (A 339) (64 * S.2.2.1.1) (seg (fun j => nI (S.2.1.1 j)) 0 S.2.1.2)))) Q) : ∀ w k, k + w = S.2.1.2 → mm_W l G k_M_put 9 [(0, .ref 336), (1, .int me), (2, .int sz), (3, .int ck), (4, .int (nI S.2.2.1.1)), (5, .int (nI k))] [] b (va_up m 339 (aN G (app (A 339) (64 * S.2.2.1.1) (seg (fun j => nI (S.2.1.1 j)) 0 k)))) Q := by
  have htu := W.2.2.2.2.2.2.1
  intro w
  induction w with
  | zero =>
    intro k hkw
    have e : k = S.2.1.2 := by omega
    subst e
    exact t_M_put_9 ((up_n (by omega)).trans W.1) (by omega) rfl (fun _ => H) (fun z => absurd (nI_le (Nat.le_refl _) (by omega)) z)
  | succ w ih =>
    intro k hkw
    refine t_M_put_9 ((up_n (by omega)).trans W.1) (by omega) rfl (fun z => absurd z (nI_ge (by omega) (by omega))) (fun _ => ?_)
    refine t_M_put_18 ((up_n (by omega)).trans W.1) (by omega) rfl rfl ((up_n (by omega)).trans W.2.2.1) (by omega) (vp_in_nI (by omega) (by omega)) up_s (by omega) (by rw [nI_64]; exact vp_in_nI (by omega) (by omega)) ?_
    rw [nI_1, up_uu, nI_64, nI_clamp (by omega), nI_clamp (by omega)]
    have h := ih (k + 1) (by omega)
    rw [seg_succ, Nat.zero_add, ← app_snoc, seg_len] at h
    exact h
theorem s_M_put (W : MW G m S c0 hp ot x A hf) (hfl : ¬ full S) (me sz ck : Int32) : mm_W l G k_M_put 0 (lv_args 0 [.ref 336, .int me, .int sz, .int ck]) [] b m (fun v m2 => v = .inl (some (.int (nI S.2.2.1.1))) ∧ FR 336 352 m m2 ∧ MP G m2 (put S me sz ck) c0) := by
  have W0 := W
  obtain ⟨h1, h2, h3, ⟨n1, n2, n3, n4, n5, n6⟩, hB, hS⟩ := W0
  have hk : S.2.2.1.1 < 64 ∧ us S + S.1.2 ≤ 65536 := by have := hB.2.1; unfold full at hfl; unfold us; omega
  have hsw : 346 ≤ hp ∧ hp ≤ 347 ∧ 346 ≤ ot ∧ ot ≤ 347 ∧ hp ≠ ot := by unfold sw at n6; omega
  obtain ⟨hB2, eu⟩ := MB_put hB hS hfl me sz ck
  have hu := hS.1
  refine t_M_put_0 h1 (by omega) rfl ?_
  have e0 : va_up m 339 (aN G (app (A 339) (64 * S.2.2.1.1) (seg (fun j => nI (S.2.1.1 j)) 0 0))) = m := by
    rw [show seg (fun j => nI (S.2.1.1 j)) 0 0 = [] from rfl, app_nil]
    exact up_id n1
  refine mm_eqm e0 (L_M_put1 W hk.1 ?_ S.2.1.2 0 (by omega))
  have ec : (nI S.2.2.1.1).toNatClampNeg = S.2.2.1.1 := nI_clamp (by omega)
  generalize hm1 : va_up m 339 (aN G (app (A 339) (64 * S.2.2.1.1) (seg (fun j => nI (S.2.1.1 j)) 0 S.2.1.2))) = m1
  have k1 : m1 336 = .inr (8, ML hp ot c0 (nI S.1.2) (nI S.2.1.2) (nI S.2.2.1.1) (nI (us S)) S.2.2.2 x) := by rw [← hm1]; exact (up_n (by omega)).trans h1
  have kA : ∀ a, 340 ≤ a → a ≤ 345 → m1 a = aI G (A a) := fun a q1 q2 => by rw [← hm1]; exact (up_n (by omega)).trans (n2 a q1 q2)
  have kO : ∀ a, a ≠ 339 → m1 a = m a := fun a q => by rw [← hm1]; exact up_n q
  have k9 : m1 339 = aN G (pA S A me sz ck 339) := by rw [← hm1]; exact up_s
  refine t_M_put_44 k1 (by omega) rfl rfl (kA 340 (by omega) (by omega)) (by omega) (vp_in_nI (by omega) (by omega)) ((up_n (by omega)).trans k1) rfl ((up_n (by omega)).trans (kA 341 (by omega) (by omega))) (by omega) (vp_in_nI (by omega) (by omega)) ((up_n (by omega)).trans ((up_n (by omega)).trans k1)) rfl rfl ((up_n (by omega)).trans ((up_n (by omega)).trans (kA 342 (by omega) (by omega)))) (by omega) (vp_in_nI (by omega) (by omega)) rfl ((up_n (by omega)).trans ((up_n (by omega)).trans ((up_n (by omega)).trans k1))) rfl rfl ((up_n (by omega)).trans ((up_n (by omega)).trans ((up_n (by omega)).trans (kA 343 (by omega) (by omega))))) (by omega) (vp_in_nI (by omega) (by omega)) ((up_n (by omega)).trans ((up_n (by omega)).trans ((up_n (by omega)).trans ((up_n (by omega)).trans k1)))) rfl ((up_n (by omega)).trans ((up_n (by omega)).trans ((up_n (by omega)).trans ((up_n (by omega)).trans (kA 344 (by omega) (by omega)))))) (by omega) (vp_in_nI (by omega) (by omega)) ((up_n (by omega)).trans ((up_n (by omega)).trans ((up_n (by omega)).trans ((up_n (by omega)).trans ((up_n (by omega)).trans k1))))) rfl ((up_n (by omega)).trans ((up_n (by omega)).trans ((up_n (by omega)).trans ((up_n (by omega)).trans ((up_n (by omega)).trans (kA 345 (by omega) (by omega))))))) (by omega) (vp_in_nI (by omega) (by omega)) rfl ?_
  rw [ec]
  generalize hm2 : va_up (va_up (va_up (va_up (va_up (va_up m1 340 (.inl (G.2 1, 64, .inl (upd (A 340) S.2.2.1.1 (nI S.2.1.2))))) 341 (.inl (G.2 1, 64, .inl (upd (A 341) S.2.2.1.1 me)))) 342 (.inl (G.2 1, 64, .inl (upd (A 342) S.2.2.1.1 (nI (us S)))))) 343 (.inl (G.2 1, 64, .inl (upd (A 343) S.2.2.1.1 (nI S.1.2))))) 344 (.inl (G.2 1, 64, .inl (upd (A 344) S.2.2.1.1 sz)))) 345 (.inl (G.2 1, 64, .inl (upd (A 345) S.2.2.1.1 ck))) = m2
  have jO : ∀ a, (a < 340 ∨ 345 < a) → m2 a = m1 a := fun a q => by rw [← hm2]; exact (up_n (by omega)).trans ((up_n (by omega)).trans ((up_n (by omega)).trans ((up_n (by omega)).trans ((up_n (by omega)).trans (up_n (by omega))))))
  have jA : ∀ a, 340 ≤ a → a ≤ 345 → m2 a = aI G (pA S A me sz ck a) := fun a q1 q2 => by
    rw [← hm2]
    rcases (by omega : a = 340 ∨ a = 341 ∨ a = 342 ∨ a = 343 ∨ a = 344 ∨ a = 345) with rfl | rfl | rfl | rfl | rfl | rfl
    · exact (up_n (by omega)).trans ((up_n (by omega)).trans ((up_n (by omega)).trans ((up_n (by omega)).trans ((up_n (by omega)).trans up_s))))
    · exact (up_n (by omega)).trans ((up_n (by omega)).trans ((up_n (by omega)).trans ((up_n (by omega)).trans up_s)))
    · exact (up_n (by omega)).trans ((up_n (by omega)).trans ((up_n (by omega)).trans up_s))
    · exact (up_n (by omega)).trans ((up_n (by omega)).trans up_s)
    · exact (up_n (by omega)).trans up_s
    · exact up_s
  have jh : m2 hp = aB G hf := (jO _ (by omega)).trans ((kO _ (by omega)).trans n3)
  have j1 : m2 336 = .inr (8, ML hp ot c0 (nI S.1.2) (nI S.2.1.2) (nI S.2.2.1.1) (nI (us S)) S.2.2.2 x) := (jO _ (by omega)).trans k1
  have j7 : m2 337 = aB G S.1.1 := (jO _ (by omega)).trans ((kO _ (by omega)).trans h2)
  have jm : ∀ a, (a < 339 ∨ 345 < a) → m2 a = m a := fun a q => (jO a (by omega)).trans (kO a (by omega))
  have L2 : ∀ w k, k + w = S.1.2 → mm_W l G k_M_put 104 [(0, .ref 336), (4, .int (nI S.2.2.1.1)), (5, .int (nI k))] [] b (va_up m2 hp (aB G (app hf (us S) (seg S.1.1 0 k)))) (fun v m2 => v = .inl (some (.int (nI S.2.2.1.1))) ∧ FR 336 352 m m2 ∧ MP G m2 (put S me sz ck) c0) := by
    intro w
    induction w with
    | zero =>
      intro k hkw
      have e : k = S.1.2 := by omega
      subst e
      refine t_M_put_104 ((up_n (by omega)).trans j1) (by omega) rfl (fun _ => ?_) (fun z => absurd (nI_le (Nat.le_refl _) (by omega)) z)
      refine t_M_put_138 ((up_n (by omega)).trans j1) (by omega) rfl rfl (Nat.le_of_ble_eq_true rfl) up_s rfl (Nat.le_of_ble_eq_true rfl) ⟨rfl, ?_, hp, ot, x, pA S A me sz ck, app hf (us S) (seg S.1.1 0 S.1.2), ?_⟩
      · intro a ha
        rw [up_uu, up_n (by omega), up_n (by omega)]
        exact jm a (by omega)
      · rw [up_uu]
        have eO : ∀ a q r, a ≠ 336 → a ≠ hp → va_up (va_up m2 hp q) 336 r a = m2 a := fun a q r h1 h2 => (up_n h1).trans (up_n h2)
        refine ⟨?_, (eO _ _ _ (by omega) (by omega)).trans j7, (eO _ _ _ (by omega) (by omega)).trans ((jm _ (by omega)).trans h3), ⟨(eO _ _ _ (by omega) (by omega)).trans ((jO _ (by omega)).trans k9), fun a q1 q2 => (eO _ _ _ (by omega) (by omega)).trans (jA a q1 q2), (up_n (by omega)).trans up_s, ?_, ?_, n6⟩, hB2, hS.1, hS.2.1, hS.2.2.1, hS.2.2.2⟩
        · rw [up_s, eu]
          show Sum.inr (8, ML hp ot c0 (nI S.1.2) (nI S.2.1.2) (nI S.2.2.1.1 + 1) (nI (us S) + nI S.1.2) S.2.2.2 x) = _
          rw [nI_1, nI_add]
          rfl
        · obtain ⟨g, n4⟩ := n4
          exact ⟨g, (eO _ _ _ (by omega) (by omega)).trans ((jm _ (by omega)).trans n4.1), n4.2⟩
        · exact SC_eq n5 (fun a q1 q2 => (eO _ _ _ (by omega) (by omega)).trans (jm _ (by omega)))
    | succ w ih =>
      intro k hkw
      refine t_M_put_104 ((up_n (by omega)).trans j1) (by omega) rfl (fun z => absurd z (nI_ge (by omega) (by omega))) (fun _ => ?_)
      refine t_M_put_113 ((up_n (by omega)).trans j1) (by omega) rfl rfl rfl ((up_n (by omega)).trans j7) (by omega) (vp_in_nI (by omega) (by omega)) up_s (by omega) (by rw [nI_add]; exact vp_in_nI (by omega) (by omega)) ?_
      rw [nI_1, up_uu, nI_add, nI_clamp (by omega), nI_clamp (by omega), vp_nar_byte, hS.2.2.2 k]
      have h := ih (k + 1) (by omega)
      rw [seg_succ, Nat.zero_add, ← app_snoc, seg_len] at h
      exact h
  have h0 := L2 S.1.2 0 (by omega)
  rw [show seg S.1.1 0 0 = [] from rfl, app_nil, up_id jh] at h0
  exact h0
theorem m_add (h : MP G m S c0) : MO l G k_M_add [] b m false (o_add S) := by
  obtain ⟨hp, ot, x, A, hf, W⟩ := h
  have hM := s_M_refused (l := l) (b := 0) W True
  rw [bp_t trivial] at hM
  have en : (refd S ∨ ¬ True) ↔ refd S := by simp
  rw [propext en] at hM
  refine t_M_add_0 (Nat.le_of_eq (Nat.zero_add _)) W.1 (by omega) hM W.1 (Nat.le_of_ble_eq_true rfl) up_s rfl (fun z => ?_) (fun z => ?_)
  · by_cases q1 : refd S
    · rw [ifc_t q1] at z; exact absurd z (by decide)
    · rw [ifc_f q1] at z
      by_cases q2 : full S
      · rw [ifc_t q2] at z; exact absurd z (by decide)
      · have hr : o_add S = (0, nI S.2.2.1.1, put S 0 (nI S.1.2) (crc S.1.1 0 S.1.2 ^^^ (-1))) := by unfold o_add; rw [ifc_f q1, ifc_f q2]
        rw [hr, ifc_f q1, ifc_f q2]
        have W2 := MW_h W 0 S.2.2.2 x
        have hu := W.2.2.2.2.2.1
        refine t_M_add_20 up_s (by omega) rfl rfl (Nat.le_of_eq (Nat.zero_add _)) (s_M_checkOf ((up_n (by omega)).trans W.2.1) (by omega) (a := 0) (n := S.1.2) (by omega)) (Nat.le_of_eq (Nat.zero_add _)) up_s (s_M_put W2 q2 0 (nI S.1.2) (crc S.1.1 0 S.1.2 ^^^ (-1))) (fun E n hn => ?_) (fun v n hn => ?_)
        · cases hn.1
        · obtain ⟨e1, F1, P1⟩ := hn
          exact ⟨_, by cases e1; rfl, t_M_add_41 ⟨rfl, FR_tr (FR_up (by omega) (by omega)) F1, P1⟩⟩
  · by_cases q1 : refd S
    · have hr : o_add S = (1, 0, S) := ifc_t q1
      rw [hr, ifc_t q1]
      exact t_M_add_16 (t_M_add_41 ⟨rfl, MO_c W 1⟩)
    · rw [ifc_f q1] at z
      by_cases q2 : full S
      · have hr : o_add S = (2, 0, S) := by unfold o_add; rw [ifc_f q1, ifc_t q2]
        rw [hr, ifc_f q1, ifc_t q2]
        exact t_M_add_16 (t_M_add_41 ⟨rfl, MO_c W 2⟩)
      · rw [ifc_f q2] at z; exact absurd (by decide) z
theorem m_addPacked (h : MP G m S c0) (y w : Int32) : MO l G k_M_addPacked [.int y, .int w] b m false (o_addPacked S y w) := by
  obtain ⟨hp, ot, x, A, hf, W⟩ := h
  have h11 : mm_W l G k_M_addPacked 11 [(0, .ref 336), (1, .int y), (2, .int w)] [.int (bp (¬ y < 0)), .ref 336, .ref 336] b m (fun v m2 => v = .inl (some (.int (o_addPacked S y w).2.1)) ∧ FR 336 352 m m2 ∧ MP G m2 (o_addPacked S y w).2.2 (nI (o_addPacked S y w).1)) := by
    have hM := s_M_refused (l := l) (b := 0) W (¬ y < 0)
    have en : (refd S ∨ ¬ ¬ y < 0) ↔ (refd S ∨ y < 0) := by rw [Classical.not_not]
    rw [propext en] at hM
    refine t_M_addPacked_11 (Nat.le_of_eq (Nat.zero_add _)) W.1 (by omega) hM W.1 (by omega) (Nat.le_of_ble_eq_true rfl) up_s (by omega) rfl (fun z => ?_) (fun z => ?_)
    · by_cases q1 : refd S ∨ y < 0
      · rw [ifc_t q1] at z; exact absurd z (by decide)
      · rw [ifc_f q1] at z
        by_cases q2 : full S
        · rw [ifc_t q2] at z; exact absurd z (by decide)
        · have hr : o_addPacked S y w = (0, nI S.2.2.1.1, put S 8 y w) := by unfold o_addPacked; rw [ifc_f q1, ifc_f q2]
          rw [hr, ifc_f q1, ifc_f q2]
          have W2 := MW_h W 0 S.2.2.2 x
          refine t_M_addPacked_28 (Nat.le_of_eq (Nat.zero_add _)) up_s (by omega) (s_M_put W2 q2 8 y w) (fun E n hn => ?_) (fun v n hn => ?_)
          · cases hn.1
          · obtain ⟨e1, F1, P1⟩ := hn
            exact ⟨_, by cases e1; rfl, t_M_addPacked_36 ⟨rfl, FR_tr (FR_up (by omega) (by omega)) F1, P1⟩⟩
    · by_cases q1 : refd S ∨ y < 0
      · have hr : o_addPacked S y w = (1, 0, S) := ifc_t q1
        rw [hr, ifc_t q1]
        exact t_M_addPacked_24 (t_M_addPacked_36 ⟨rfl, MO_c W 1⟩)
      · rw [ifc_f q1] at z
        by_cases q2 : full S
        · have hr : o_addPacked S y w = (2, 0, S) := by unfold o_addPacked; rw [ifc_f q1, ifc_t q2]
          rw [hr, ifc_f q1, ifc_t q2]
          exact t_M_addPacked_24 (t_M_addPacked_36 ⟨rfl, MO_c W 2⟩)
        · rw [ifc_f q2] at z; exact absurd (by decide) z
  refine t_M_addPacked_0 (fun z => t_M_addPacked_10 ?_) (fun z => t_M_addPacked_6 ?_)
  · rw [bp_f (fun q => q z)] at h11
    exact h11
  · rw [bp_t z] at h11
    exact h11
end MO4
