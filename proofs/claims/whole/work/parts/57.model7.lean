/-! the model's write -/
def HO (hp ot : Nat) (u tu k us : Int32) (t : Int32 × Int32 × Int32) (x : Int32 × Int32 × Int64 × Int32 × Int32) (o : Int32) : List Value := ML hp ot 0 u tu k us t (x.1, x.2.1, x.2.2.1, x.2.2.2.1, o)
/-- the model's memory while it writes: ys stands in the row -/
def VM (G : mm_G) (mB : mm_Mem) (H : Int32 → List Value) (f : Nat → Int32) (ys : List Int32) : mm_Mem := va_up (va_up mB 337 (aB G (app f 0 ys))) 336 (.inr (8, H (nI ys.length)))
def lw (v : Int32) (n : Nat) : List Int32 := (List.range n).map (fun k => if k < 4 then tb (sh v (8 * nI k)) else 0)
theorem lw_len (v : Int32) (n : Nat) : (lw v n).length = n := by simp [lw]
theorem lw_succ (v : Int32) (n : Nat) : lw v (n + 1) = lw v n ++ [if n < 4 then tb (sh v (8 * nI n)) else 0] := by
  unfold lw
  rw [List.range_succ, List.map_append]
  rfl
theorem lw_nb {v : Int32} {n : Nat} (h : n ≤ 4) : lw v n = nb v n := by
  unfold lw nb
  exact List.map_congr_left (fun k hk => by rw [if_pos (by have := List.mem_range.mp hk; omega)])
theorem lw_0 : lw 0 10 = nb 0 2 ++ (nb 0 2 ++ (nb 0 2 ++ nb 0 4)) := by decide +kernel
theorem low_sh : ∀ k : Nat, k < 4 → ((8 * nI k) &&& 31).toBitVec.smod 32 = BitVec.ofNat 32 (8 * k) := by decide +kernel
theorem sh_0 (v : Int32) : sh v 0 = v := by
  rw [← Int32.toBitVec_inj, show (0 : Int32) = nI 0 from rfl, sh_bv v 0 (by omega)]
  rfl
theorem lw_1 {v : Int32} (h : v.toInt8.toInt32 = v) : lw v 1 = [v] := by
  show [if 0 < 4 then tb (sh v (8 * nI 0)) else 0] = [v]
  rw [if_pos (by omega), show 8 * nI 0 = (0 : Int32) from rfl, sh_0]
  unfold tb
  rw [h]
def mid (z : En) : List Int32 := nb 0 2 ++ (nb z.2.2.1 2 ++ (nb 0 4 ++ (nb z.2.2.2.2 4 ++ (nb (nI z.2.1.2) 4 ++ (nb z.2.2.2.1 4 ++ (nb (nI z.1.2) 2 ++ nb 0 2))))))
theorem mid_len (z : En) : (mid z).length = 24 := by simp [mid, nb_len]
theorem mid_fct (z : En) : nb 20 2 ++ mid z = fct (zf z) (zn z).2 := rfl
section MO7
variable {l : Launch} {G : mm_G} {m : mm_Mem} {b : Nat} {S : St} {c0 : Int32} {hp ot : Nat} {u tu k us9 : Int32} {t : Int32 × Int32 × Int32} {x : Int32 × Int32 × Int64 × Int32 × Int32} {A : Nat → Nat → Int32} {hf f : Nat → Int32} {ys : List Int32}
theorem VM_o {H : Int32 → List Value} {a : Nat} (h1 : a ≠ 336) (h2 : a ≠ 337) : VM G m H f ys a = m a := (up_n h1).trans (up_n h2)
theorem VM_h {H : Int32 → List Value} : VM G m H f ys 336 = .inr (8, H (nI ys.length)) := up_s
theorem VM_r {H : Int32 → List Value} : VM G m H f ys 337 = aB G (app f 0 ys) := (up_n (by omega)).trans up_s
theorem s_M_low (v : Int32) (n : Nat) (hn : n ≤ 10) (hl : ys.length + n ≤ 65536) : mm_W l G k_M_low 0 (lv_args 0 [.ref 336, .int v, .int (nI n)]) [] b (VM G m (HO hp ot u tu k us9 t x) f ys) (mm_is (.inl none) (VM G m (HO hp ot u tu k us9 t x) f (ys ++ lw v n))) := by
  have L : ∀ w i, i + w = n → mm_W l G k_M_low 2 [(0, .ref 336), (1, .int v), (2, .int (nI n)), (3, .int (nI i))] [] b (VM G m (HO hp ot u tu k us9 t x) f (ys ++ lw v i)) (mm_is (.inl none) (VM G m (HO hp ot u tu k us9 t x) f (ys ++ lw v n))) := by
    intro w
    induction w with
    | zero =>
      intro i hi
      have e : i = n := by omega
      subst e
      exact t_M_low_2 (fun _ => t_M_low_48 ⟨rfl, rfl⟩) (fun z => absurd (nI_le (Nat.le_refl _) (by omega)) z)
    | succ w ih =>
      intro i hi
      refine t_M_low_2 (fun z => absurd z (nI_ge (by omega) (by omega))) (fun _ => ?_)
      have hlen : (ys ++ lw v i).length = ys.length + i := by rw [List.length_append, lw_len]
      have h30 : ∀ y : Int32, tb y = (if i < 4 then tb (sh v (8 * nI i)) else 0) → mm_W l G k_M_low 30 [(0, .ref 336), (1, .int v), (2, .int (nI n)), (3, .int (nI i))] [.int y, .int (nI (ys ++ lw v i).length), .ref 337] b (VM G m (HO hp ot u tu k us9 t x) f (ys ++ lw v i)) (mm_is (.inl none) (VM G m (HO hp ot u tu k us9 t x) f (ys ++ lw v n))) := by
        intro y hy
        refine t_M_low_30 VM_r (by omega) (vp_in_nI (by omega) (by omega)) ((up_n (by omega)).trans VM_h) (by omega) rfl (Nat.le_of_ble_eq_true rfl) rfl ?_
        rw [nI_1, vp_nar_byte, show y.toInt8.toInt32.toInt8.toInt32 = tb y from tb_tb y, hy, nI_clamp (by omega)]
        have e1 : upd (app f 0 (ys ++ lw v i)) (ys ++ lw v i).length (if i < 4 then tb (sh v (8 * nI i)) else 0) = app f 0 (ys ++ lw v (i + 1)) := by
          have := app_snoc f 0 (ys ++ lw v i) (if i < 4 then tb (sh v (8 * nI i)) else 0)
          rw [Nat.zero_add] at this
          rw [this, lw_succ, List.append_assoc]
        rw [e1]
        have e2 : (HO hp ot u tu k us9 t x (nI (ys ++ lw v i).length)).set 28 (.int (nI (ys ++ lw v i).length + 1)) = HO hp ot u tu k us9 t x (nI (ys ++ lw v (i + 1)).length) := by
          have e3 : (ys ++ lw v (i + 1)).length = (ys ++ lw v i).length + 1 := by rw [hlen, List.length_append, lw_len]; omega
          rw [e3, ← nI_1]
          rfl
        rw [e2]
        have e4 : va_up (va_up (VM G m (HO hp ot u tu k us9 t x) f (ys ++ lw v i)) 337 (.inl (G.2 0, 65536, .inl (app f 0 (ys ++ lw v (i + 1)))))) 336 (.inr (8, HO hp ot u tu k us9 t x (nI (ys ++ lw v (i + 1)).length))) = VM G m (HO hp ot u tu k us9 t x) f (ys ++ lw v (i + 1)) := by
          unfold VM
          rw [up_cm (by omega : (336 : Nat) ≠ 337), up_uu, up_uu]
        rw [e4]
        exact ih (i + 1) (by omega)
      refine t_M_low_7 VM_h (by omega) rfl rfl (fun z => t_M_low_29 (h30 0 ?_)) (fun z => t_M_low_20 (h30 _ ?_))
      · have z : 4 ≤ i := (nI_leI (a := 4) (by omega) (by omega)).mp z
        rw [if_neg (by omega)]
        rfl
      · have z : ¬ 4 ≤ i := fun q => z ((nI_leI (a := 4) (by omega) (by omega)).mpr q)
        rw [if_pos (by omega), (sar_low (n := 8 * i) (by omega) (low_sh i (by omega))).1, ← nI_mul]
        rfl
  have h0 := L n 0 (by omega)
  rw [show lw v 0 = [] from rfl, List.append_nil] at h0
  exact t_M_low_0 h0
/-- the arrays as the writer reads them -/
def WA (G : mm_G) (m : mm_Mem) (A : Nat → Nat → Int32) (hp : Nat) (hf : Nat → Int32) : Prop := m 339 = aN G (A 339) ∧ (∀ a, 340 ≤ a → a ≤ 345 → m a = aI G (A a)) ∧ m hp = aB G hf
theorem low4 (v : Int32) (n : Nat) (hn : n ≤ 4) (hl : ys.length + n ≤ 65536) : mm_W l G k_M_low 0 (lv_args 0 [.ref 336, .int v, .int (nI n)]) [] b (VM G m (HO hp ot u tu k us9 t x) f ys) (mm_is (.inl none) (VM G m (HO hp ot u tu k us9 t x) f (ys ++ nb v n))) := by
  have h := s_M_low (l := l) (b := b) (G := G) (m := m) (hp := hp) (ot := ot) (u := u) (tu := tu) (k := k) (us9 := us9) (t := t) (x := x) (f := f) (ys := ys) v n (by omega) hl
  rw [lw_nb hn] at h
  exact h
theorem s_M_middle {i U : Nat} {z : En} (hi : i < 64) (hA : WA G m A hp hf) (M : MEn A hf U i z) (hl : ys.length + 24 ≤ 65536) : mm_W l G k_M_middle 0 (lv_args 0 [.ref 336, .int (nI i)]) [] b (VM G m (HO hp ot u tu k us9 t x) f ys) (mm_is (.inl none) (VM G m (HO hp ot u tu k us9 t x) f (ys ++ mid z))) := by
  obtain ⟨q1, q2, q3, q4, q5, q6, q7, -⟩ := M
  have ec : (nI i).toNatClampNeg = i := nI_clamp (by omega)
  have vA : ∀ a zs, 340 ≤ a → a ≤ 345 → VM G m (HO hp ot u tu k us9 t x) f zs a = aI G (A a) := fun a zs h1 h2 => (VM_o (by omega) (by omega)).trans (hA.2.1 a h1 h2)
  rw [← ec] at q1 q4 q5 q6 q7
  refine t_M_middle_0 (Nat.le_of_eq (Nat.zero_add _)) VM_h (by omega) (low4 0 2 (by omega) (by omega)) VM_h rfl (vA 341 _ (by omega) (by omega)) (by omega) (vp_in_nI (by omega) (by omega)) (Nat.le_of_eq (Nat.zero_add _)) (low4 _ 2 (by omega) (by simp only [List.length_append, nb_len]; omega)) (Nat.le_of_eq (Nat.zero_add _)) VM_h (low4 0 4 (by omega) (by simp only [List.length_append, nb_len]; omega)) VM_h rfl (vA 345 _ (by omega) (by omega)) (by omega) (vp_in_nI (by omega) (by omega)) (Nat.le_of_eq (Nat.zero_add _)) (low4 _ 4 (by omega) (by simp only [List.length_append, nb_len]; omega)) VM_h rfl (vA 343 _ (by omega) (by omega)) (by omega) (vp_in_nI (by omega) (by omega)) (Nat.le_of_eq (Nat.zero_add _)) (low4 _ 4 (by omega) (by simp only [List.length_append, nb_len]; omega)) VM_h rfl (vA 344 _ (by omega) (by omega)) (by omega) (vp_in_nI (by omega) (by omega)) (Nat.le_of_eq (Nat.zero_add _)) (low4 _ 4 (by omega) (by simp only [List.length_append, nb_len]; omega)) VM_h rfl (vA 340 _ (by omega) (by omega)) (by omega) (vp_in_nI (by omega) (by omega)) (Nat.le_of_eq (Nat.zero_add _)) (low4 _ 2 (by omega) (by simp only [List.length_append, nb_len]; omega)) (Nat.le_of_eq (Nat.zero_add _)) VM_h (low4 0 2 (by omega) (by simp only [List.length_append, nb_len]; omega)) ⟨rfl, ?_⟩
  rw [q1, q4, q5, q6, q7]
  simp only [mid, List.append_assoc]
theorem s_M_writeName {i U : Nat} {z : En} (hi : i < 64) (hA : WA G m A hp hf) (M : MEn A hf U i z) (hl : ys.length + z.1.2 ≤ 65536) : mm_W l G k_M_writeName 0 (lv_args 0 [.ref 336, .int (nI i)]) [] b (VM G m (HO hp ot u tu k us9 t x) f ys) (mm_is (.inl none) (VM G m (HO hp ot u tu k us9 t x) f (ys ++ seg (zn z).1 0 (zn z).2))) := by
  obtain ⟨q1, q2, q3, -⟩ := M
  have ec : (nI i).toNatClampNeg = i := nI_clamp (by omega)
  have vA : ∀ a zs, 340 ≤ a → a ≤ 345 → VM G m (HO hp ot u tu k us9 t x) f zs a = aI G (A a) := fun a zs h1 h2 => (VM_o (by omega) (by omega)).trans (hA.2.1 a h1 h2)
  have L : ∀ w j, j + w = z.1.2 → mm_W l G k_M_writeName 2 [(0, .ref 336), (1, .int (nI i)), (2, .int (nI j))] [] b (VM G m (HO hp ot u tu k us9 t x) f (ys ++ seg (zn z).1 0 j)) (mm_is (.inl none) (VM G m (HO hp ot u tu k us9 t x) f (ys ++ seg (zn z).1 0 z.1.2))) := by
    intro w
    induction w with
    | zero =>
      intro j hj
      have e : j = z.1.2 := by omega
      subst e
      refine t_M_writeName_2 VM_h (by omega) rfl (vA 340 _ (by omega) (by omega)) (by omega) (vp_in_nI (by omega) (by omega)) (fun _ => t_M_writeName_34 ⟨rfl, rfl⟩) (fun y => absurd ?_ y)
      rw [ec, q1]
      exact nI_le (Nat.le_refl _) (by omega)
    | succ w ih =>
      intro j hj
      obtain ⟨r1, r2⟩ := q3 j (by omega)
      have ea : (64 * nI i + nI j).toNatClampNeg = 64 * i + j := by rw [nI_64, nI_clamp (by omega)]
      refine t_M_writeName_2 VM_h (by omega) rfl (vA 340 _ (by omega) (by omega)) (by omega) (vp_in_nI (by omega) (by omega)) (fun y => absurd y ?_) (fun _ => ?_)
      · rw [ec, q1]
        exact nI_ge (by omega) (by omega)
      · have hM := s_M_low (l := l) (b := 0) (G := G) (m := m) (hp := hp) (ot := ot) (u := u) (tu := tu) (k := k) (us9 := us9) (t := t) (x := x) (f := f) (ys := ys ++ seg (zn z).1 0 j) (nI (z.1.1 j)) 1 (by omega) (by rw [List.length_append, seg_len]; omega)
        rw [lw_1 (by have := tb_small r2; unfold tb at this; exact this)] at hM
        have hM2 := hM
        rw [← r1, ← ea] at hM2
        refine t_M_writeName_12 VM_h (by omega) rfl ((VM_o (by omega) (by omega)).trans hA.1) (by omega) (by rw [nI_64]; exact vp_in_nI (by omega) (by omega)) (Nat.le_of_eq (Nat.zero_add _)) hM2 ?_
        rw [ea, r1, nI_1, List.append_assoc]
        have e5 : seg (zn z).1 0 j ++ [nI (z.1.1 j)] = seg (zn z).1 0 (j + 1) := by
          rw [seg_succ, Nat.zero_add]
          rfl
        rw [e5]
        exact ih (j + 1) (by omega)
  have h0 := L z.1.2 0 (by omega)
  rw [show seg (zn z).1 0 0 = [] from rfl, List.append_nil] at h0
  exact t_M_writeName_0 h0
end MO7
