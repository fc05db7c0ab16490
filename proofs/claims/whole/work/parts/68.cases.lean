/-! the cases of the law's switch: both sides go on alike -/
def J (G : mm_G) (m : mm_Mem) : Prop := ∃ (S : St) (c : Int32) (g : Nat → Int64), CP G m S ∧ MP G m S c ∧ m 353 = aO G g
theorem MP_hd {G : mm_G} {m : mm_Mem} {S : St} {c : Int32} (P : MP G m S c) : ∃ fs, m 336 = .inr (8, fs) := by
  obtain ⟨hp, ot, x, A, hf, W⟩ := P
  exact ⟨_, W.1⟩
section LAWC
variable {l : Launch} {G : mm_G} {m : mm_Mem} {b i ns : Nat} {xs : Nat → Int32} {Q : mm_O → mm_Mem → Prop}
theorem vin (k : Nat) (h : i + k < ns) (hn : ns < 2 ^ 20) : vp_in (nI i + nI k) ns := by
  rw [nI_add]
  exact vp_in_nI (by omega) (by omega)
theorem q_feed (hi : i + 6 ≤ ns) (hN : ns < 2 ^ 20) (h7 : 7 ≤ b) (J0 : J G m) (H : ∀ m2, J G m2 → mm_W l G (k_L_law ns xs) 1018 [(0, .ref 0), (1, .ref 1), (2, .ref 336), (3, .ref 353), (4, .int (nI i))] [] (b - 7) m2 Q) : mm_W l G (k_L_law ns xs) 132 [(0, .ref 0), (1, .ref 1), (2, .ref 336), (3, .ref 353), (4, .int (nI i))] [] b m Q := by
  obtain ⟨S, c, g, C, P, h53⟩ := J0
  refine t_L_law_132 (vin 1 (by omega) hN) (vin 2 (by omega) hN) (vin 3 (by omega) hN) (vin 4 (by omega) hN) (vin 5 (by omega) hN) (show 7 + (b - 7) ≤ b by omega) (l_feed C (Nat.le_refl _) (xs (nI i + nI 1).toNatClampNeg) (xs (nI i + nI 2).toNatClampNeg) (xs (nI i + nI 3).toNatClampNeg) (xs (nI i + nI 4).toNatClampNeg) (xs (nI i + nI 5).toNatClampNeg)) (fun E n hn => ?_) (fun v m1 hn => ?_)
  · cases hn.1
  obtain ⟨ev, F, C1⟩ := hn
  have P1 := MP_eq P (fun a h1 h2 => F a (by omega))
  obtain ⟨fs1, hf1⟩ := MP_hd P1
  refine ⟨_, by cases ev; rfl, t_L_law_166 (vin 1 (by omega) hN) (vin 2 (by omega) hN) (vin 3 (by omega) hN) (vin 4 (by omega) hN) (vin 5 (by omega) hN) (Nat.le_of_eq (Nat.zero_add _)) hf1 (by omega) (m_feed P1 (xs (nI i + nI 1).toNatClampNeg) (xs (nI i + nI 2).toNatClampNeg) (xs (nI i + nI 3).toNatClampNeg) (xs (nI i + nI 4).toNatClampNeg) (xs (nI i + nI 5).toNatClampNeg)) (fun E n hn => ?_) (fun v m2 hn => ?_)⟩
  · cases hn.1
  obtain ⟨ev2, F2, P2⟩ := hn
  obtain ⟨fs2, hf2⟩ := MP_hd P2
  have C2 := CP_eq C1 (fun a h1 h2 => F2 a (by omega))
  have hJ : J G m2 := ⟨_, _, g, C2, P2, (F2 353 (by omega)).trans ((F 353 (by omega)).trans h53)⟩
  exact ⟨by cases ev2; rfl, t_L_law_202 (Nat.le_of_eq (Nat.zero_add _)) hf2 (by omega) (m_thrown P2) (fun _ => t_L_law_213 (H m2 hJ)) (fun z => absurd rfl z)⟩
theorem q_end (hi : i + 6 ≤ ns) (hN : ns < 2 ^ 20) (h7 : 7 ≤ b) (J0 : J G m) (H : ∀ m2, J G m2 → mm_W l G (k_L_law ns xs) 1018 [(0, .ref 0), (1, .ref 1), (2, .ref 336), (3, .ref 353), (4, .int (nI i))] [] (b - 7) m2 Q) : mm_W l G (k_L_law ns xs) 216 [(0, .ref 0), (1, .ref 1), (2, .ref 336), (3, .ref 353), (4, .int (nI i))] [] b m Q := by
  obtain ⟨S, c, g, C, P, h53⟩ := J0
  refine t_L_law_216 (vin 1 (by omega) hN) (show 7 + (b - 7) ≤ b by omega) (l_end C (Nat.le_refl _) (xs (nI i + nI 1).toNatClampNeg)) (fun E n hn => ?_) (fun v m1 hn => ?_)
  · cases hn.1
  obtain ⟨ev, F, C1⟩ := hn
  have P1 := MP_eq P (fun a h1 h2 => F a (by omega))
  obtain ⟨fs1, hf1⟩ := MP_hd P1
  refine ⟨_, by cases ev; rfl, t_L_law_226 (vin 1 (by omega) hN) (Nat.le_of_eq (Nat.zero_add _)) hf1 (by omega) (m_end P1 (xs (nI i + nI 1).toNatClampNeg)) (fun E n hn => ?_) (fun v m2 hn => ?_)⟩
  · cases hn.1
  obtain ⟨ev2, F2, P2⟩ := hn
  obtain ⟨fs2, hf2⟩ := MP_hd P2
  have C2 := CP_eq C1 (fun a h1 h2 => F2 a (by omega))
  have hJ : J G m2 := ⟨_, _, g, C2, P2, (F2 353 (by omega)).trans ((F 353 (by omega)).trans h53)⟩
  exact ⟨by cases ev2; rfl, t_L_law_238 (Nat.le_of_eq (Nat.zero_add _)) hf2 (by omega) (m_thrown P2) (fun _ => t_L_law_249 (H m2 hJ)) (fun z => absurd rfl z)⟩
theorem q_alter (hi : i + 6 ≤ ns) (hN : ns < 2 ^ 20) (h7 : 7 ≤ b) (J0 : J G m) (H : ∀ m2, J G m2 → mm_W l G (k_L_law ns xs) 1018 [(0, .ref 0), (1, .ref 1), (2, .ref 336), (3, .ref 353), (4, .int (nI i))] [] (b - 7) m2 Q) : mm_W l G (k_L_law ns xs) 252 [(0, .ref 0), (1, .ref 1), (2, .ref 336), (3, .ref 353), (4, .int (nI i))] [] b m Q := by
  obtain ⟨S, c, g, C, P, h53⟩ := J0
  refine t_L_law_252 (vin 1 (by omega) hN) (vin 2 (by omega) hN) (show 7 + (b - 7) ≤ b by omega) (l_alter C (Nat.le_refl _) (xs (nI i + nI 1).toNatClampNeg) (xs (nI i + nI 2).toNatClampNeg)) (fun E n hn => ?_) (fun v m1 hn => ?_)
  · cases hn.1
  obtain ⟨ev, F, C1⟩ := hn
  have P1 := MP_eq P (fun a h1 h2 => F a (by omega))
  obtain ⟨fs1, hf1⟩ := MP_hd P1
  refine ⟨_, by cases ev; rfl, t_L_law_268 (vin 1 (by omega) hN) (vin 2 (by omega) hN) (Nat.le_of_eq (Nat.zero_add _)) hf1 (by omega) (m_alter P1 (xs (nI i + nI 1).toNatClampNeg) (xs (nI i + nI 2).toNatClampNeg)) (fun E n hn => ?_) (fun v m2 hn => ?_)⟩
  · cases hn.1
  obtain ⟨ev2, F2, P2⟩ := hn
  obtain ⟨fs2, hf2⟩ := MP_hd P2
  have C2 := CP_eq C1 (fun a h1 h2 => F2 a (by omega))
  have hJ : J G m2 := ⟨_, _, g, C2, P2, (F2 353 (by omega)).trans ((F 353 (by omega)).trans h53)⟩
  exact ⟨by cases ev2; rfl, t_L_law_286 (Nat.le_of_eq (Nat.zero_add _)) hf2 (by omega) (m_thrown P2) (fun _ => t_L_law_297 (H m2 hJ)) (fun z => absurd rfl z)⟩
theorem q_length (hi : i + 6 ≤ ns) (hN : ns < 2 ^ 20) (h7 : 7 ≤ b) (J0 : J G m) (H : ∀ m2, J G m2 → mm_W l G (k_L_law ns xs) 1018 [(0, .ref 0), (1, .ref 1), (2, .ref 336), (3, .ref 353), (4, .int (nI i))] [] (b - 7) m2 Q) : mm_W l G (k_L_law ns xs) 300 [(0, .ref 0), (1, .ref 1), (2, .ref 336), (3, .ref 353), (4, .int (nI i))] [] b m Q := by
  obtain ⟨S, c, g, C, P, h53⟩ := J0
  refine t_L_law_300 (Nat.le_of_eq (Nat.zero_add _)) C.1 (by omega) (p_length C) (fun E n hn => ?_) (fun v m1 hn => ?_)
  · exact (rv_x hn.1).1 rfl
  obtain ⟨ev, F, C1⟩ := hn
  have P1 := MP_eq P (fun a h1 h2 => F a (by omega))
  obtain ⟨fs1, hf1⟩ := MP_hd P1
  refine ⟨_, (rv_v ev).2, t_L_law_304 (Nat.le_of_eq (Nat.zero_add _)) hf1 (by omega) (m_length P1) (fun E n hn => ?_) (fun v m2 hn => ?_)⟩
  · cases hn.1
  obtain ⟨ev2, F2, P2⟩ := hn
  have C2 := CP_eq C1 (fun a h1 h2 => F2 a (by omega))
  have H9 := mm_less (Nat.sub_le b 7) (H m2 ⟨_, _, g, C2, P2, (F2 353 (by omega)).trans ((F 353 (by omega)).trans h53)⟩)
  exact ⟨_, by cases ev2; rfl, t_L_law_308 (fun _ => H9) (fun z => absurd rfl z)⟩
theorem q_byteAt (hi : i + 6 ≤ ns) (hN : ns < 2 ^ 20) (h7 : 7 ≤ b) (J0 : J G m) (H : ∀ m2, J G m2 → mm_W l G (k_L_law ns xs) 1018 [(0, .ref 0), (1, .ref 1), (2, .ref 336), (3, .ref 353), (4, .int (nI i))] [] (b - 7) m2 Q) : mm_W l G (k_L_law ns xs) 313 [(0, .ref 0), (1, .ref 1), (2, .ref 336), (3, .ref 353), (4, .int (nI i))] [] b m Q := by
  obtain ⟨S, c, g, C, P, h53⟩ := J0
  refine t_L_law_313 (vin 1 (by omega) hN) (show 7 + (b - 7) ≤ b by omega) (l_byteAt C h53 (Nat.le_refl _) (xs (nI i + nI 1).toNatClampNeg)) (fun E n hn => ?_) (fun v m1 hn => ?_)
  · cases hn.1
  obtain ⟨ev, F, C1, g1, h531, hg⟩ := hn
  have P1 := MP_eq P (fun a h1 h2 => F a (by omega) (by omega))
  obtain ⟨fs1, hf1⟩ := MP_hd P1
  refine ⟨_, by cases ev; rfl, t_L_law_324 (vin 1 (by omega) hN) (Nat.le_of_eq (Nat.zero_add _)) hf1 (by omega) (m_byteAt P1 (xs (nI i + nI 1).toNatClampNeg)) (fun E n hn => ?_) (fun v m2 hn => ?_)⟩
  · cases hn.1
  obtain ⟨ev2, F2, P2⟩ := hn
  obtain ⟨fs2, hf2⟩ := MP_hd P2
  have C2 := CP_eq C1 (fun a h1 h2 => F2 a (by omega))
  have h532 := (F2 353 (by omega)).trans h531
  have hJ : J G m2 := ⟨_, _, g1, C2, P2, h532⟩
  have hc := c_byteAt S (xs (nI i + nI 1).toNatClampNeg)
  refine ⟨_, by cases ev2; rfl, t_L_law_336 (Nat.le_of_eq (Nat.zero_add _)) hf2 (by omega) (m_thrown P2) (fun _ => t_L_law_349 (fun _ => t_L_law_366 (H m2 hJ)) (fun z => t_L_law_354 h532 (by omega) (vp_in_nI (show 0 < 1 by omega) (by omega)) (fun _ => t_L_law_366 (H m2 hJ)) (fun y => absurd ?_ y))) (fun z => absurd rfl z)⟩
  rw [lg_cmp_eq]
  exact hg ((nI_eq (b := 0) (by omega) (by omega)).mp z)
theorem q_type (hi : i + 6 ≤ ns) (hN : ns < 2 ^ 20) (h7 : 7 ≤ b) (J0 : J G m) (H : ∀ m2, J G m2 → mm_W l G (k_L_law ns xs) 1018 [(0, .ref 0), (1, .ref 1), (2, .ref 336), (3, .ref 353), (4, .int (nI i))] [] (b - 7) m2 Q) : mm_W l G (k_L_law ns xs) 369 [(0, .ref 0), (1, .ref 1), (2, .ref 336), (3, .ref 353), (4, .int (nI i))] [] b m Q := by
  obtain ⟨S, c, g, C, P, h53⟩ := J0
  refine t_L_law_369 (vin 1 (by omega) hN) (show 7 + (b - 7) ≤ b by omega) (l_type C h53 (Nat.le_refl _) (xs (nI i + nI 1).toNatClampNeg)) (fun E n hn => ?_) (fun v m1 hn => ?_)
  · cases hn.1
  obtain ⟨ev, F, C1, g1, h531, hg⟩ := hn
  have P1 := MP_eq P (fun a h1 h2 => F a (by omega) (by omega))
  obtain ⟨fs1, hf1⟩ := MP_hd P1
  refine ⟨_, by cases ev; rfl, t_L_law_380 (vin 1 (by omega) hN) (Nat.le_of_eq (Nat.zero_add _)) hf1 (by omega) (m_type P1 (xs (nI i + nI 1).toNatClampNeg)) (fun E n hn => ?_) (fun v m2 hn => ?_)⟩
  · cases hn.1
  obtain ⟨ev2, F2, P2⟩ := hn
  obtain ⟨fs2, hf2⟩ := MP_hd P2
  have C2 := CP_eq C1 (fun a h1 h2 => F2 a (by omega))
  have h532 := (F2 353 (by omega)).trans h531
  have hJ : J G m2 := ⟨_, _, g1, C2, P2, h532⟩
  have hc := c_type S (xs (nI i + nI 1).toNatClampNeg)
  refine ⟨_, by cases ev2; rfl, t_L_law_392 (Nat.le_of_eq (Nat.zero_add _)) hf2 (by omega) (m_thrown P2) (fun _ => t_L_law_405 (fun _ => t_L_law_422 (H m2 hJ)) (fun z => t_L_law_410 h532 (by omega) (vp_in_nI (show 0 < 1 by omega) (by omega)) (fun _ => t_L_law_422 (H m2 hJ)) (fun y => absurd ?_ y))) (fun z => absurd rfl z)⟩
  rw [lg_cmp_eq]
  exact hg ((nI_eq (b := 0) (by omega) (by omega)).mp z)
theorem q_erase (hi : i + 6 ≤ ns) (hN : ns < 2 ^ 20) (h7 : 7 ≤ b) (J0 : J G m) (H : ∀ m2, J G m2 → mm_W l G (k_L_law ns xs) 1018 [(0, .ref 0), (1, .ref 1), (2, .ref 336), (3, .ref 353), (4, .int (nI i))] [] (b - 7) m2 Q) : mm_W l G (k_L_law ns xs) 425 [(0, .ref 0), (1, .ref 1), (2, .ref 336), (3, .ref 353), (4, .int (nI i))] [] b m Q := by
  obtain ⟨S, c, g, C, P, h53⟩ := J0
  refine t_L_law_425 (Nat.le_of_eq (Nat.zero_add _)) C.1 (by omega) (p_erase C) (fun E n hn => ?_) (fun v m1 hn => ?_)
  · exact (rv_x hn.1).1 rfl
  obtain ⟨ev, F, C1⟩ := hn
  have P1 := MP_eq P (fun a h1 h2 => F a (by omega))
  obtain ⟨fs1, hf1⟩ := MP_hd P1
  refine ⟨(rv_v ev).2, t_L_law_429 (Nat.le_of_eq (Nat.zero_add _)) hf1 (by omega) (m_erase P1) (fun E n hn => ?_) (fun v m2 hn => ?_)⟩
  · cases hn.1
  obtain ⟨ev2, F2, P2⟩ := hn
  have C2 := CP_eq C1 (fun a h1 h2 => F2 a (by omega))
  have H9 := mm_less (Nat.sub_le b 7) (H m2 ⟨_, _, g, C2, P2, (F2 353 (by omega)).trans ((F 353 (by omega)).trans h53)⟩)
  exact ⟨by cases ev2; rfl, t_L_law_433 H9⟩
theorem q_add (hi : i + 6 ≤ ns) (hN : ns < 2 ^ 20) (h7 : 7 ≤ b) (J0 : J G m) (H : ∀ m2, J G m2 → mm_W l G (k_L_law ns xs) 1018 [(0, .ref 0), (1, .ref 1), (2, .ref 336), (3, .ref 353), (4, .int (nI i))] [] (b - 7) m2 Q) : mm_W l G (k_L_law ns xs) 436 [(0, .ref 0), (1, .ref 1), (2, .ref 336), (3, .ref 353), (4, .int (nI i))] [] b m Q := by
  obtain ⟨S, c, g, C, P, h53⟩ := J0
  refine t_L_law_436 (show 7 + (b - 7) ≤ b by omega) (l_add C h53 (Nat.le_refl _)) (fun E n hn => ?_) (fun v m1 hn => ?_)
  · cases hn.1
  obtain ⟨ev, F, C1, g1, h531, hg⟩ := hn
  have P1 := MP_eq P (fun a h1 h2 => F a (by omega) (by omega))
  obtain ⟨fs1, hf1⟩ := MP_hd P1
  refine ⟨_, by cases ev; rfl, t_L_law_441 (Nat.le_of_eq (Nat.zero_add _)) hf1 (by omega) (m_add P1) (fun E n hn => ?_) (fun v m2 hn => ?_)⟩
  · cases hn.1
  obtain ⟨ev2, F2, P2⟩ := hn
  obtain ⟨fs2, hf2⟩ := MP_hd P2
  have C2 := CP_eq C1 (fun a h1 h2 => F2 a (by omega))
  have h532 := (F2 353 (by omega)).trans h531
  have hJ : J G m2 := ⟨_, _, g1, C2, P2, h532⟩
  have hc := c_add S
  refine ⟨_, by cases ev2; rfl, t_L_law_447 (Nat.le_of_eq (Nat.zero_add _)) hf2 (by omega) (m_thrown P2) (fun _ => t_L_law_460 (fun _ => t_L_law_477 (H m2 hJ)) (fun z => t_L_law_465 h532 (by omega) (vp_in_nI (show 0 < 1 by omega) (by omega)) (fun _ => t_L_law_477 (H m2 hJ)) (fun y => absurd ?_ y))) (fun z => absurd rfl z)⟩
  rw [lg_cmp_eq]
  exact hg ((nI_eq (b := 0) (by omega) (by omega)).mp z)
theorem q_addPacked (hi : i + 6 ≤ ns) (hN : ns < 2 ^ 20) (h7 : 7 ≤ b) (J0 : J G m) (H : ∀ m2, J G m2 → mm_W l G (k_L_law ns xs) 1018 [(0, .ref 0), (1, .ref 1), (2, .ref 336), (3, .ref 353), (4, .int (nI i))] [] (b - 7) m2 Q) : mm_W l G (k_L_law ns xs) 480 [(0, .ref 0), (1, .ref 1), (2, .ref 336), (3, .ref 353), (4, .int (nI i))] [] b m Q := by
  obtain ⟨S, c, g, C, P, h53⟩ := J0
  refine t_L_law_480 (vin 1 (by omega) hN) (vin 2 (by omega) hN) (show 7 + (b - 7) ≤ b by omega) (l_addPacked C h53 (Nat.le_refl _) (xs (nI i + nI 1).toNatClampNeg) (xs (nI i + nI 2).toNatClampNeg)) (fun E n hn => ?_) (fun v m1 hn => ?_)
  · cases hn.1
  obtain ⟨ev, F, C1, g1, h531, hg⟩ := hn
  have P1 := MP_eq P (fun a h1 h2 => F a (by omega) (by omega))
  obtain ⟨fs1, hf1⟩ := MP_hd P1
  refine ⟨_, by cases ev; rfl, t_L_law_497 (vin 1 (by omega) hN) (vin 2 (by omega) hN) (Nat.le_of_eq (Nat.zero_add _)) hf1 (by omega) (m_addPacked P1 (xs (nI i + nI 1).toNatClampNeg) (xs (nI i + nI 2).toNatClampNeg)) (fun E n hn => ?_) (fun v m2 hn => ?_)⟩
  · cases hn.1
  obtain ⟨ev2, F2, P2⟩ := hn
  obtain ⟨fs2, hf2⟩ := MP_hd P2
  have C2 := CP_eq C1 (fun a h1 h2 => F2 a (by omega))
  have h532 := (F2 353 (by omega)).trans h531
  have hJ : J G m2 := ⟨_, _, g1, C2, P2, h532⟩
  have hc := c_addPacked S (xs (nI i + nI 1).toNatClampNeg) (xs (nI i + nI 2).toNatClampNeg)
  refine ⟨_, by cases ev2; rfl, t_L_law_515 (Nat.le_of_eq (Nat.zero_add _)) hf2 (by omega) (m_thrown P2) (fun _ => t_L_law_528 (fun _ => t_L_law_545 (H m2 hJ)) (fun z => t_L_law_533 h532 (by omega) (vp_in_nI (show 0 < 1 by omega) (by omega)) (fun _ => t_L_law_545 (H m2 hJ)) (fun y => absurd ?_ y))) (fun z => absurd rfl z)⟩
  rw [lg_cmp_eq]
  exact hg ((nI_eq (b := 0) (by omega) (by omega)).mp z)
theorem q_remove (hi : i + 6 ≤ ns) (hN : ns < 2 ^ 20) (h7 : 7 ≤ b) (J0 : J G m) (H : ∀ m2, J G m2 → mm_W l G (k_L_law ns xs) 1018 [(0, .ref 0), (1, .ref 1), (2, .ref 336), (3, .ref 353), (4, .int (nI i))] [] (b - 7) m2 Q) : mm_W l G (k_L_law ns xs) 548 [(0, .ref 0), (1, .ref 1), (2, .ref 336), (3, .ref 353), (4, .int (nI i))] [] b m Q := by
  obtain ⟨S, c, g, C, P, h53⟩ := J0
  refine t_L_law_548 (vin 1 (by omega) hN) (show 7 + (b - 7) ≤ b by omega) (l_remove C (Nat.le_refl _) (xs (nI i + nI 1).toNatClampNeg)) (fun E n hn => ?_) (fun v m1 hn => ?_)
  · cases hn.1
  obtain ⟨ev, F, C1⟩ := hn
  have P1 := MP_eq P (fun a h1 h2 => F a (by omega))
  obtain ⟨fs1, hf1⟩ := MP_hd P1
  refine ⟨_, by cases ev; rfl, t_L_law_558 (vin 1 (by omega) hN) (Nat.le_of_eq (Nat.zero_add _)) hf1 (by omega) (m_remove P1 (xs (nI i + nI 1).toNatClampNeg)) (fun E n hn => ?_) (fun v m2 hn => ?_)⟩
  · cases hn.1
  obtain ⟨ev2, F2, P2⟩ := hn
  obtain ⟨fs2, hf2⟩ := MP_hd P2
  have C2 := CP_eq C1 (fun a h1 h2 => F2 a (by omega))
  have hJ : J G m2 := ⟨_, _, g, C2, P2, (F2 353 (by omega)).trans ((F 353 (by omega)).trans h53)⟩
  exact ⟨by cases ev2; rfl, t_L_law_570 (Nat.le_of_eq (Nat.zero_add _)) hf2 (by omega) (m_thrown P2) (fun _ => t_L_law_581 (H m2 hJ)) (fun z => absurd rfl z)⟩
theorem q_move (hi : i + 6 ≤ ns) (hN : ns < 2 ^ 20) (h7 : 7 ≤ b) (J0 : J G m) (H : ∀ m2, J G m2 → mm_W l G (k_L_law ns xs) 1018 [(0, .ref 0), (1, .ref 1), (2, .ref 336), (3, .ref 353), (4, .int (nI i))] [] (b - 7) m2 Q) : mm_W l G (k_L_law ns xs) 584 [(0, .ref 0), (1, .ref 1), (2, .ref 336), (3, .ref 353), (4, .int (nI i))] [] b m Q := by
  obtain ⟨S, c, g, C, P, h53⟩ := J0
  refine t_L_law_584 (vin 1 (by omega) hN) (vin 2 (by omega) hN) (show 7 + (b - 7) ≤ b by omega) (l_move C (Nat.le_refl _) (xs (nI i + nI 1).toNatClampNeg) (xs (nI i + nI 2).toNatClampNeg)) (fun E n hn => ?_) (fun v m1 hn => ?_)
  · cases hn.1
  obtain ⟨ev, F, C1⟩ := hn
  have P1 := MP_eq P (fun a h1 h2 => F a (by omega))
  obtain ⟨fs1, hf1⟩ := MP_hd P1
  refine ⟨_, by cases ev; rfl, t_L_law_600 (vin 1 (by omega) hN) (vin 2 (by omega) hN) (Nat.le_of_eq (Nat.zero_add _)) hf1 (by omega) (m_move P1 (xs (nI i + nI 1).toNatClampNeg) (xs (nI i + nI 2).toNatClampNeg)) (fun E n hn => ?_) (fun v m2 hn => ?_)⟩
  · cases hn.1
  obtain ⟨ev2, F2, P2⟩ := hn
  obtain ⟨fs2, hf2⟩ := MP_hd P2
  have C2 := CP_eq C1 (fun a h1 h2 => F2 a (by omega))
  have hJ : J G m2 := ⟨_, _, g, C2, P2, (F2 353 (by omega)).trans ((F 353 (by omega)).trans h53)⟩
  exact ⟨by cases ev2; rfl, t_L_law_618 (Nat.le_of_eq (Nat.zero_add _)) hf2 (by omega) (m_thrown P2) (fun _ => t_L_law_629 (H m2 hJ)) (fun z => absurd rfl z)⟩
theorem q_find (hi : i + 6 ≤ ns) (hN : ns < 2 ^ 20) (h7 : 7 ≤ b) (J0 : J G m) (H : ∀ m2, J G m2 → mm_W l G (k_L_law ns xs) 1018 [(0, .ref 0), (1, .ref 1), (2, .ref 336), (3, .ref 353), (4, .int (nI i))] [] (b - 7) m2 Q) : mm_W l G (k_L_law ns xs) 632 [(0, .ref 0), (1, .ref 1), (2, .ref 336), (3, .ref 353), (4, .int (nI i))] [] b m Q := by
  obtain ⟨S, c, g, C, P, h53⟩ := J0
  refine t_L_law_632 (Nat.le_of_eq (Nat.zero_add _)) C.1 (by omega) (p_find C) (fun E n hn => ?_) (fun v m1 hn => ?_)
  · exact (rv_x hn.1).1 rfl
  obtain ⟨ev, F, C1⟩ := hn
  have P1 := MP_eq P (fun a h1 h2 => F a (by omega))
  obtain ⟨fs1, hf1⟩ := MP_hd P1
  refine ⟨_, (rv_v ev).2, t_L_law_636 (Nat.le_of_eq (Nat.zero_add _)) hf1 (by omega) (m_find P1) (fun E n hn => ?_) (fun v m2 hn => ?_)⟩
  · cases hn.1
  obtain ⟨ev2, F2, P2⟩ := hn
  have C2 := CP_eq C1 (fun a h1 h2 => F2 a (by omega))
  have H9 := mm_less (Nat.sub_le b 7) (H m2 ⟨_, _, g, C2, P2, (F2 353 (by omega)).trans ((F 353 (by omega)).trans h53)⟩)
  exact ⟨_, by cases ev2; rfl, t_L_law_640 (fun _ => H9) (fun z => absurd rfl z)⟩
theorem q_about (hi : i + 6 ≤ ns) (hN : ns < 2 ^ 20) (h7 : 7 ≤ b) (J0 : J G m) (H : ∀ m2, J G m2 → mm_W l G (k_L_law ns xs) 1018 [(0, .ref 0), (1, .ref 1), (2, .ref 336), (3, .ref 353), (4, .int (nI i))] [] (b - 7) m2 Q) : mm_W l G (k_L_law ns xs) 645 [(0, .ref 0), (1, .ref 1), (2, .ref 336), (3, .ref 353), (4, .int (nI i))] [] b m Q := by
  obtain ⟨S, c, g, C, P, h53⟩ := J0
  refine t_L_law_645 (vin 1 (by omega) hN) (vin 2 (by omega) hN) (show 7 + (b - 7) ≤ b by omega) (l_about C h53 (Nat.le_refl _) (xs (nI i + nI 1).toNatClampNeg) (xs (nI i + nI 2).toNatClampNeg)) (fun E n hn => ?_) (fun v m1 hn => ?_)
  · cases hn.1
  obtain ⟨ev, F, C1, g1, h531, hg⟩ := hn
  have P1 := MP_eq P (fun a h1 h2 => F a (by omega) (by omega))
  obtain ⟨fs1, hf1⟩ := MP_hd P1
  refine ⟨_, by cases ev; rfl, t_L_law_662 (vin 1 (by omega) hN) (vin 2 (by omega) hN) (Nat.le_of_eq (Nat.zero_add _)) hf1 (by omega) (m_about P1 (xs (nI i + nI 1).toNatClampNeg) (xs (nI i + nI 2).toNatClampNeg)) (fun E n hn => ?_) (fun v m2 hn => ?_)⟩
  · cases hn.1
  obtain ⟨ev2, F2, P2⟩ := hn
  obtain ⟨fs2, hf2⟩ := MP_hd P2
  have C2 := CP_eq C1 (fun a h1 h2 => F2 a (by omega))
  have h532 := (F2 353 (by omega)).trans h531
  have hJ : J G m2 := ⟨_, _, g1, C2, P2, h532⟩
  have hc := c_about S (xs (nI i + nI 1).toNatClampNeg) (xs (nI i + nI 2).toNatClampNeg)
  refine ⟨_, by cases ev2; rfl, t_L_law_680 (Nat.le_of_eq (Nat.zero_add _)) hf2 (by omega) (m_thrown P2) (fun _ => t_L_law_693 (fun _ => t_L_law_710 (H m2 hJ)) (fun z => t_L_law_698 h532 (by omega) (vp_in_nI (show 0 < 1 by omega) (by omega)) (fun _ => t_L_law_710 (H m2 hJ)) (fun y => absurd ?_ y))) (fun z => absurd rfl z)⟩
  rw [lg_cmp_eq]
  exact hg ((nI_eq (b := 0) (by omega) (by omega)).mp z)
theorem q_name (hi : i + 6 ≤ ns) (hN : ns < 2 ^ 20) (h7 : 7 ≤ b) (J0 : J G m) (H : ∀ m2, J G m2 → mm_W l G (k_L_law ns xs) 1018 [(0, .ref 0), (1, .ref 1), (2, .ref 336), (3, .ref 353), (4, .int (nI i))] [] (b - 7) m2 Q) : mm_W l G (k_L_law ns xs) 713 [(0, .ref 0), (1, .ref 1), (2, .ref 336), (3, .ref 353), (4, .int (nI i))] [] b m Q := by
  obtain ⟨S, c, g, C, P, h53⟩ := J0
  refine t_L_law_713 (vin 1 (by omega) hN) (vin 2 (by omega) hN) (show 7 + (b - 7) ≤ b by omega) (l_name C h53 (Nat.le_refl _) (xs (nI i + nI 1).toNatClampNeg) (xs (nI i + nI 2).toNatClampNeg)) (fun E n hn => ?_) (fun v m1 hn => ?_)
  · cases hn.1
  obtain ⟨ev, F, C1, g1, h531, hg⟩ := hn
  have P1 := MP_eq P (fun a h1 h2 => F a (by omega) (by omega))
  obtain ⟨fs1, hf1⟩ := MP_hd P1
  refine ⟨_, by cases ev; rfl, t_L_law_730 (vin 1 (by omega) hN) (vin 2 (by omega) hN) (Nat.le_of_eq (Nat.zero_add _)) hf1 (by omega) (m_name P1 (xs (nI i + nI 1).toNatClampNeg) (xs (nI i + nI 2).toNatClampNeg)) (fun E n hn => ?_) (fun v m2 hn => ?_)⟩
  · cases hn.1
  obtain ⟨ev2, F2, P2⟩ := hn
  obtain ⟨fs2, hf2⟩ := MP_hd P2
  have C2 := CP_eq C1 (fun a h1 h2 => F2 a (by omega))
  have h532 := (F2 353 (by omega)).trans h531
  have hJ : J G m2 := ⟨_, _, g1, C2, P2, h532⟩
  have hc := c_name S (xs (nI i + nI 1).toNatClampNeg) (xs (nI i + nI 2).toNatClampNeg)
  refine ⟨_, by cases ev2; rfl, t_L_law_748 (Nat.le_of_eq (Nat.zero_add _)) hf2 (by omega) (m_thrown P2) (fun _ => t_L_law_761 (fun _ => t_L_law_778 (H m2 hJ)) (fun z => t_L_law_766 h532 (by omega) (vp_in_nI (show 0 < 1 by omega) (by omega)) (fun _ => t_L_law_778 (H m2 hJ)) (fun y => absurd ?_ y))) (fun z => absurd rfl z)⟩
  rw [lg_cmp_eq]
  exact hg ((nI_eq (b := 0) (by omega) (by omega)).mp z)
theorem q_part (hi : i + 6 ≤ ns) (hN : ns < 2 ^ 20) (h7 : 7 ≤ b) (J0 : J G m) (H : ∀ m2, J G m2 → mm_W l G (k_L_law ns xs) 1018 [(0, .ref 0), (1, .ref 1), (2, .ref 336), (3, .ref 353), (4, .int (nI i))] [] (b - 7) m2 Q) : mm_W l G (k_L_law ns xs) 781 [(0, .ref 0), (1, .ref 1), (2, .ref 336), (3, .ref 353), (4, .int (nI i))] [] b m Q := by
  obtain ⟨S, c, g, C, P, h53⟩ := J0
  refine t_L_law_781 (vin 1 (by omega) hN) (vin 2 (by omega) hN) (show 7 + (b - 7) ≤ b by omega) (l_part C h53 (Nat.le_refl _) (xs (nI i + nI 1).toNatClampNeg) (xs (nI i + nI 2).toNatClampNeg)) (fun E n hn => ?_) (fun v m1 hn => ?_)
  · cases hn.1
  obtain ⟨ev, F, C1, g1, h531, hg⟩ := hn
  have P1 := MP_eq P (fun a h1 h2 => F a (by omega) (by omega))
  obtain ⟨fs1, hf1⟩ := MP_hd P1
  refine ⟨_, by cases ev; rfl, t_L_law_798 (vin 1 (by omega) hN) (vin 2 (by omega) hN) (Nat.le_of_eq (Nat.zero_add _)) hf1 (by omega) (m_part P1 (xs (nI i + nI 1).toNatClampNeg) (xs (nI i + nI 2).toNatClampNeg)) (fun E n hn => ?_) (fun v m2 hn => ?_)⟩
  · cases hn.1
  obtain ⟨ev2, F2, P2⟩ := hn
  obtain ⟨fs2, hf2⟩ := MP_hd P2
  have C2 := CP_eq C1 (fun a h1 h2 => F2 a (by omega))
  have h532 := (F2 353 (by omega)).trans h531
  have hJ : J G m2 := ⟨_, _, g1, C2, P2, h532⟩
  have hc := c_part S (xs (nI i + nI 1).toNatClampNeg) (xs (nI i + nI 2).toNatClampNeg)
  refine ⟨_, by cases ev2; rfl, t_L_law_816 (Nat.le_of_eq (Nat.zero_add _)) hf2 (by omega) (m_thrown P2) (fun _ => t_L_law_829 (fun _ => t_L_law_846 (H m2 hJ)) (fun z => t_L_law_834 h532 (by omega) (vp_in_nI (show 0 < 1 by omega) (by omega)) (fun _ => t_L_law_846 (H m2 hJ)) (fun y => absurd ?_ y))) (fun z => absurd rfl z)⟩
  rw [lg_cmp_eq]
  exact hg ((nI_eq (b := 0) (by omega) (by omega)).mp z)
theorem q_write (hi : i + 6 ≤ ns) (hN : ns < 2 ^ 20) (h7 : 7 ≤ b) (J0 : J G m) (H : ∀ m2, J G m2 → mm_W l G (k_L_law ns xs) 1018 [(0, .ref 0), (1, .ref 1), (2, .ref 336), (3, .ref 353), (4, .int (nI i))] [] (b - 7) m2 Q) : mm_W l G (k_L_law ns xs) 849 [(0, .ref 0), (1, .ref 1), (2, .ref 336), (3, .ref 353), (4, .int (nI i))] [] b m Q := by
  obtain ⟨S, c, g, C, P, h53⟩ := J0
  refine t_L_law_849 (show 7 + (b - 7) ≤ b by omega) (l_write C h53 (Nat.le_refl _)) (fun E n hn => ?_) (fun v m1 hn => ?_)
  · cases hn.1
  obtain ⟨ev, F, C1, g1, h531, hg⟩ := hn
  have P1 := MP_eq P (fun a h1 h2 => F a (by omega) (by omega))
  obtain ⟨fs1, hf1⟩ := MP_hd P1
  refine ⟨_, by cases ev; rfl, t_L_law_854 (Nat.le_of_eq (Nat.zero_add _)) hf1 (by omega) (m_write P1) (fun E n hn => ?_) (fun v m2 hn => ?_)⟩
  · cases hn.1
  obtain ⟨ev2, F2, P2⟩ := hn
  obtain ⟨fs2, hf2⟩ := MP_hd P2
  have C2 := CP_eq C1 (fun a h1 h2 => F2 a (by omega))
  have h532 := (F2 353 (by omega)).trans h531
  have hJ : J G m2 := ⟨_, _, g1, C2, P2, h532⟩
  have hc := c_write S
  refine ⟨_, by cases ev2; rfl, t_L_law_860 (Nat.le_of_eq (Nat.zero_add _)) hf2 (by omega) (m_thrown P2) (fun _ => t_L_law_873 (fun _ => t_L_law_890 (H m2 hJ)) (fun z => t_L_law_878 h532 (by omega) (vp_in_nI (show 0 < 1 by omega) (by omega)) (fun _ => t_L_law_890 (H m2 hJ)) (fun y => absurd ?_ y))) (fun z => absurd rfl z)⟩
  rw [lg_cmp_eq]
  exact hg ((nI_eq (b := 0) (by omega) (by omega)).mp z)
theorem q_read (hi : i + 6 ≤ ns) (hN : ns < 2 ^ 20) (h7 : 7 ≤ b) (J0 : J G m) (H : ∀ m2, J G m2 → mm_W l G (k_L_law ns xs) 1018 [(0, .ref 0), (1, .ref 1), (2, .ref 336), (3, .ref 353), (4, .int (nI i))] [] (b - 7) m2 Q) : mm_W l G (k_L_law ns xs) 893 [(0, .ref 0), (1, .ref 1), (2, .ref 336), (3, .ref 353), (4, .int (nI i))] [] b m Q := by
  obtain ⟨S, c, g, C, P, h53⟩ := J0
  refine t_L_law_893 (vin 1 (by omega) hN) (show 7 + (b - 7) ≤ b by omega) (l_read C h53 (Nat.le_refl _) (xs (nI i + nI 1).toNatClampNeg)) (fun E n hn => ?_) (fun v m1 hn => ?_)
  · obtain ⟨q, hq, e1, -⟩ := hn
    cases e1
  obtain ⟨q, hq, ev, F, C1, g1, h531, hg⟩ := hn
  have P1 := MP_eq P (fun a h1 h2 => F a (by omega) (by omega))
  obtain ⟨fs1, hf1⟩ := MP_hd P1
  refine ⟨_, by cases ev; rfl, t_L_law_904 (vin 1 (by omega) hN) (Nat.le_of_eq (Nat.zero_add _)) hf1 (by omega) (m_read P1 (xs (nI i + nI 1).toNatClampNeg) hq) (fun E n hn => ?_) (fun v m2 hn => ?_)⟩
  · cases hn.1
  obtain ⟨ev2, F2, P2⟩ := hn
  obtain ⟨fs2, hf2⟩ := MP_hd P2
  have C2 := CP_eq C1 (fun a h1 h2 => F2 a (by omega))
  have h532 := (F2 353 (by omega)).trans h531
  have hJ : J G m2 := ⟨_, _, g1, C2, P2, h532⟩
  have hc := c_read S (xs (nI i + nI 1).toNatClampNeg) q
  refine ⟨_, by cases ev2; rfl, t_L_law_916 (Nat.le_of_eq (Nat.zero_add _)) hf2 (by omega) (m_thrown P2) (fun _ => t_L_law_929 (fun _ => t_L_law_946 (H m2 hJ)) (fun z => t_L_law_934 h532 (by omega) (vp_in_nI (show 0 < 1 by omega) (by omega)) (fun _ => t_L_law_946 (H m2 hJ)) (fun y => absurd ?_ y))) (fun z => absurd rfl z)⟩
  rw [lg_cmp_eq]
  exact hg ((nI_eq (b := 0) (by omega) (by omega)).mp z)
theorem q_blame (hi : i + 6 ≤ ns) (hN : ns < 2 ^ 20) (h7 : 7 ≤ b) (J0 : J G m) (H : ∀ m2, J G m2 → mm_W l G (k_L_law ns xs) 1018 [(0, .ref 0), (1, .ref 1), (2, .ref 336), (3, .ref 353), (4, .int (nI i))] [] (b - 7) m2 Q) : mm_W l G (k_L_law ns xs) 949 [(0, .ref 0), (1, .ref 1), (2, .ref 336), (3, .ref 353), (4, .int (nI i))] [] b m Q := by
  obtain ⟨S, c, g, C, P, h53⟩ := J0
  refine t_L_law_949 (vin 1 (by omega) hN) (show 7 + (b - 7) ≤ b by omega) (l_blame C h53 (Nat.le_refl _) (xs (nI i + nI 1).toNatClampNeg)) (fun E n hn => ?_) (fun v m1 hn => ?_)
  · cases hn.1
  obtain ⟨ev, F, C1, g1, h531, hg⟩ := hn
  have P1 := MP_eq P (fun a h1 h2 => F a (by omega) (by omega))
  obtain ⟨fs1, hf1⟩ := MP_hd P1
  refine ⟨_, by cases ev; rfl, t_L_law_960 (vin 1 (by omega) hN) (Nat.le_of_eq (Nat.zero_add _)) hf1 (by omega) (m_blame P1 (xs (nI i + nI 1).toNatClampNeg)) (fun E n hn => ?_) (fun v m2 hn => ?_)⟩
  · cases hn.1
  obtain ⟨ev2, F2, P2⟩ := hn
  obtain ⟨fs2, hf2⟩ := MP_hd P2
  have C2 := CP_eq C1 (fun a h1 h2 => F2 a (by omega))
  have h532 := (F2 353 (by omega)).trans h531
  have hJ : J G m2 := ⟨_, _, g1, C2, P2, h532⟩
  have hc := c_blame S (xs (nI i + nI 1).toNatClampNeg)
  refine ⟨_, by cases ev2; rfl, t_L_law_972 (Nat.le_of_eq (Nat.zero_add _)) hf2 (by omega) (m_thrown P2) (fun _ => t_L_law_985 (fun _ => t_L_law_1002 (H m2 hJ)) (fun z => t_L_law_990 h532 (by omega) (vp_in_nI (show 0 < 1 by omega) (by omega)) (fun _ => t_L_law_1002 (H m2 hJ)) (fun y => absurd ?_ y))) (fun z => absurd rfl z)⟩
  rw [lg_cmp_eq]
  exact hg ((nI_eq (b := 0) (by omega) (by omega)).mp z)
theorem q_count (hi : i + 6 ≤ ns) (hN : ns < 2 ^ 20) (h7 : 7 ≤ b) (J0 : J G m) (H : ∀ m2, J G m2 → mm_W l G (k_L_law ns xs) 1018 [(0, .ref 0), (1, .ref 1), (2, .ref 336), (3, .ref 353), (4, .int (nI i))] [] (b - 7) m2 Q) : mm_W l G (k_L_law ns xs) 1005 [(0, .ref 0), (1, .ref 1), (2, .ref 336), (3, .ref 353), (4, .int (nI i))] [] b m Q := by
  obtain ⟨S, c, g, C, P, h53⟩ := J0
  refine t_L_law_1005 (Nat.le_of_eq (Nat.zero_add _)) C.1 (by omega) (p_count C) (fun E n hn => ?_) (fun v m1 hn => ?_)
  · exact (rv_x hn.1).1 rfl
  obtain ⟨ev, F, C1⟩ := hn
  have P1 := MP_eq P (fun a h1 h2 => F a (by omega))
  obtain ⟨fs1, hf1⟩ := MP_hd P1
  refine ⟨_, (rv_v ev).2, t_L_law_1009 (Nat.le_of_eq (Nat.zero_add _)) hf1 (by omega) (m_count P1) (fun E n hn => ?_) (fun v m2 hn => ?_)⟩
  · cases hn.1
  obtain ⟨ev2, F2, P2⟩ := hn
  have C2 := CP_eq C1 (fun a h1 h2 => F2 a (by omega))
  have H9 := mm_less (Nat.sub_le b 7) (H m2 ⟨_, _, g, C2, P2, (F2 353 (by omega)).trans ((F 353 (by omega)).trans h53)⟩)
  exact ⟨_, by cases ev2; rfl, t_L_law_1013 (fun _ => H9) (fun z => absurd rfl z)⟩
end LAWC
