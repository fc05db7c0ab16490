/-! the law -/
section LAW
variable {l : Launch} {G : mm_G} {ns : Nat} {xs : Nat → Int32}
theorem law_ex {n i : Nat} (hn : n < 2 ^ 20) (hi : i < 2 ^ 20) : nI n - 6 < nI i ↔ n < i + 6 := by
  by_cases q : n < 6
  · have h : ∀ k : Nat, k < 6 → nI k - 6 < 0 := by decide
    have h2 := h n q
    have h3 : (0 : Int32) ≤ nI i := nI_pos' (by omega)
    exact ⟨fun _ => by omega, fun _ => Int32.lt_of_lt_of_le h2 h3⟩
  · rw [show nI n - 6 = nI (n - 6) from pk_sub (b := 6) (by omega), nI_ltI (by omega) (by omega)]
    omega
theorem law_loop (hN : ns < 2 ^ 19) : ∀ w i b m, ns < i + 6 * w → i < ns + 7 → 7 * w ≤ b → J G m → mm_W l G (k_L_law ns xs) 23 [(0, .ref 0), (1, .ref 1), (2, .ref 336), (3, .ref 353), (4, .int (nI i))] [] b m (fun v _ => v = .inl (some (.int 1))) := by
  intro w
  induction w with
  | zero =>
    intro i b m h1 h2 h3 J0
    refine t_L_law_23 (fun _ => t_L_law_1024 rfl rfl) (fun z => absurd ?_ z)
    rw [law_ex (by omega) (by omega)]
    omega
  | succ w ih =>
    intro i b m h1 h2 h3 J0
    refine t_L_law_23 (fun _ => t_L_law_1024 rfl rfl) (fun z => ?_)
    rw [law_ex (by omega) (by omega)] at z
    have hi : i + 6 ≤ ns := by omega
    have h7 : 7 ≤ b := by omega
    have hN : ns < 2 ^ 20 := by omega
    have H : ∀ m2, J G m2 → mm_W l G (k_L_law ns xs) 1018 [(0, .ref 0), (1, .ref 1), (2, .ref 336), (3, .ref 353), (4, .int (nI i))] [] (b - 7) m2 (fun v _ => v = .inl (some (.int 1))) := by
      intro m2 J2
      refine t_L_law_1018 ?_
      rw [show nI i + 6 = nI (i + 6) from nI_add i 6]
      exact ih (i + 6) (b - 7) m2 (by omega) (by omega) (by omega) J2
    exact t_L_law_33 (vp_in_nI (by omega) (by omega)) (fun _ => q_feed hi hN h7 J0 H) (fun _ => q_end hi hN h7 J0 H) (fun _ => q_alter hi hN h7 J0 H) (fun _ => q_length hi hN h7 J0 H) (fun _ => q_byteAt hi hN h7 J0 H) (fun _ => q_type hi hN h7 J0 H) (fun _ => q_erase hi hN h7 J0 H) (fun _ => q_add hi hN h7 J0 H) (fun _ => q_addPacked hi hN h7 J0 H) (fun _ => q_remove hi hN h7 J0 H) (fun _ => q_move hi hN h7 J0 H) (fun _ => q_find hi hN h7 J0 H) (fun _ => q_about hi hN h7 J0 H) (fun _ => q_name hi hN h7 J0 H) (fun _ => q_part hi hN h7 J0 H) (fun _ => q_write hi hN h7 J0 H) (fun _ => q_read hi hN h7 J0 H) (fun _ => q_blame hi hN h7 J0 H) (fun _ => q_count hi hN h7 J0 H) (fun _ => mm_less (Nat.sub_le b 7) (H m J0))
theorem law_all {m : mm_Mem} {b : Nat} (hN : ns < 2 ^ 19) (hn : mm_n m = 0) (hb : 338914 + 7 * (ns + 1) ≤ b) : mm_W l G (k_L_law ns xs) 0 (lv_args 0 [.ref 0]) [] b m (fun v _ => v = .inl (some (.int 1))) := by
  refine t_L_law_0 (show 5 + 1 + (b - 6) ≤ b by omega) (show 137388 + (b - 137394) ≤ b - 6 by omega) (s_P_init (by omega) pu_s (by rw [mm_n_push, hn]) (Nat.le_refl _)) (fun E n h => ?_) (fun v M1 h => ?_)
  · cases h.1
  obtain ⟨ev, n1, C1⟩ := h
  refine ⟨by cases ev; rfl, ?_⟩
  rw [hn]
  refine t_L_law_7 (show 29 + 1 + (b - 137424) ≤ b - 137394 by omega) rfl (show 201488 + (b - 338912) ≤ b - 137424 by omega) (s_M_init (by omega) pu_s (by rw [mm_n_push, n1]) (Nat.le_refl _)) (fun E n h => ?_) (fun v M2 h => ?_)
  · cases h.1
  obtain ⟨ev2, O2, n2, P2⟩ := h
  refine ⟨by cases ev2; rfl, ?_⟩
  rw [n1]
  refine t_L_law_15 (by decide) rfl (by decide) (show 1 + 1 + (b - 338914) ≤ b - 338912 by omega) ?_
  rw [n2]
  refine law_loop hN (ns + 1) 0 _ _ (by omega) (by omega) (by omega) ⟨S0, 0, fun _ => 0, ?_, ?_, ?_⟩
  · refine CP_eq C1 (fun a q1 q2 => ?_)
    rw [pu_o (by omega) (by omega), O2 a (by omega) (by omega), pu_o (by omega) (by omega)]
  · exact MP_eq P2 (fun a q1 q2 => pu_o (by omega) (by omega))
  · have := pu_s (m := M2) (x := aO G (fun _ => 0))
    rw [n2] at this
    exact this
end LAW
