/-! the model's write, whole -/
def h1 (E : Nat → En) (i : Nat) : List Int32 := hd1 (zf (E i)) (zn (E i)) (E i).2.1
def h2 (E : Nat → En) (i : Nat) : List Int32 := hd2 (zf (E i)) (zn (E i)) (sum (zl E) i)
def dl2 (E : Nat → En) (i : Nat) : Nat := 46 + (E i).1.2
theorem h1_len (E : Nat → En) (i : Nat) : (h1 E i).length = zl E i := by
  unfold h1 zl
  rw [hd1_len]
  rfl
theorem h2_len (E : Nat → En) (i : Nat) : (h2 E i).length = dl2 E i := by
  unfold h2 dl2
  rw [hd2_len]
  rfl
theorem zt_eq (E : Nat → En) (k : Nat) : zt k E = 22 + sum (zl E) k + sum (dl2 E) k := by
  unfold zt
  rw [sum_add (zl E) (fun i => 46 + (E i).1.2), ← Nat.add_assoc]
  rfl
theorem zw_len (E : Nat → En) (k : Nat) : (zw k E).length = zt k E := by
  show (cat (h1 E) k ++ (cat (h2 E) k ++ hd3 k (sum (zl E) k) (sum (zl E) k + sum (fun i => 46 + (E i).1.2) k))).length = _
  rw [List.length_append, List.length_append, hd3_len, cat_len _ (zl E) (h1_len E), cat_len _ (dl2 E) (h2_len E), zt_eq]
  omega
section MO8
variable {l : Launch} {G : mm_G} {m mB : mm_Mem} {b : Nat} {S : St} {c0 : Int32} {hp ot : Nat} {x : Int32 × Int32 × Int64 × Int32 × Int32} {A : Nat → Nat → Int32} {hf f : Nat → Int32} {ys : List Int32}
theorem VM_up {H : Int32 → List Value} {e : va_E} : va_up (VM G m H f ys) 349 e = VM G (va_up m 349 e) H f ys := by
  unfold VM
  rw [up_cm (by omega : (336 : Nat) ≠ 349), up_cm (by omega : (337 : Nat) ≠ 349)]
theorem MW_349 (W : MW G m S c0 hp ot x A hf) (g : Nat → Int64) : MW G (va_up m 349 (aL G g)) S c0 hp ot x A hf := by
  obtain ⟨w1, w2, w3, ⟨a1, a2, a3, ⟨q, a4⟩, ⟨⟨s1, d1⟩, ⟨s2, d2⟩, ⟨s3, d3⟩, ⟨s4, d4⟩, s5, d5⟩, a6⟩, w5⟩ := W
  have hsw : 346 ≤ hp ∧ hp ≤ 347 ∧ 346 ≤ ot ∧ ot ≤ 347 := by unfold sw at a6; omega
  exact ⟨(up_n (by omega)).trans w1, (up_n (by omega)).trans w2, (up_n (by omega)).trans w3, ⟨(up_n (by omega)).trans a1, fun a q1 q2 => (up_n (by omega)).trans (a2 a q1 q2), (up_n (by omega)).trans a3, ⟨q, (up_n (by omega)).trans a4.1, a4.2⟩, ⟨⟨s1, (up_n (by omega)).trans d1⟩, ⟨g, up_s⟩, ⟨s3, (up_n (by omega)).trans d3⟩, ⟨s4, (up_n (by omega)).trans d4⟩, s5, (up_n (by omega)).trans d5⟩, a6⟩, w5⟩
theorem MW_WA (W : MW G m S c0 hp ot x A hf) : WA G m A hp hf := ⟨W.2.2.2.1.1, W.2.2.2.1.2.1, W.2.2.2.1.2.2.1⟩
/-- the header while write goes on -/
def HW (S : St) (hp ot : Nat) (x : Int32 × Int32 × Int64 × Int32 × Int32) : Int32 → List Value := HO hp ot (nI S.1.2) (nI S.2.1.2) (nI S.2.2.1.1) (nI (us S)) S.2.2.2 x
theorem okf_zn {z : En} {U i : Nat} (M : MEn A hf U i z) : okb (seg (zn z).1 0 (zn z).2) := by
  intro y hy
  obtain ⟨j, hj, rfl⟩ := List.mem_map.mp hy
  have h := (M.2.2.1 (0 + j) (by have h9 := List.mem_range.mp hj; have h8 : (zn z).2 = z.1.2 := rfl; omega)).2
  have := tb_small h
  unfold tb at this
  exact this
theorem okf_bytes {z : En} {U i : Nat} (M : MEn A hf U i z) (ho : okf hf) : okb (seg z.2.1.1 0 z.2.1.2) := by
  intro y hy
  obtain ⟨j, hj, rfl⟩ := List.mem_map.mp hy
  obtain ⟨g, -, -, h3⟩ := M.2.2.2.2.2.2.2
  have h9 := List.mem_range.mp hj
  rw [← h3 (0 + j) (by omega)]
  exact ho _
theorem okb_zw (W : MW G m S c0 hp ot x A hf) : okb (zw S.2.2.1.1 S.2.2.1.2) := by
  have hB := W.2.2.2.2.1
  have ho := hB.2.2.2
  show okb (cat (h1 S.2.2.1.2) S.2.2.1.1 ++ (cat (h2 S.2.2.1.2) S.2.2.1.1 ++ hd3 S.2.2.1.1 (sum (zl S.2.2.1.2) S.2.2.1.1) (sum (zl S.2.2.1.2) S.2.2.1.1 + sum (fun i => 46 + (S.2.2.1.2 i).1.2) S.2.2.1.1)))
  refine okb_app (okb_cat (k := S.2.2.1.1) (fun i hi => ?_) _ (Nat.le_refl _)) (okb_app (okb_cat (k := S.2.2.1.1) (fun i hi => ?_) _ (Nat.le_refl _)) ?_)
  · have M := hB.1 i hi
    unfold h1 hd1
    have h : okb ((nb 67324752 4 ++ fct (zf (S.2.2.1.2 i)) (zn (S.2.2.1.2 i)).2) ++ (seg (zn (S.2.2.1.2 i)).1 0 (zn (S.2.2.1.2 i)).2 ++ seg (S.2.2.1.2 i).2.1.1 0 (S.2.2.1.2 i).2.1.2)) := okb_app (okb_fct (nb_tb _ _) _ _) (okb_app (okf_zn M) (okf_bytes M ho))
    rw [List.append_assoc] at h
    exact h
  · have M := hB.1 i hi
    unfold h2 hd2
    have h : okb ((nb 33639248 4 ++ nb 20 2 ++ fct (zf (S.2.2.1.2 i)) (zn (S.2.2.1.2 i)).2) ++ (nb 0 2 ++ (nb 0 2 ++ (nb 0 2 ++ (nb 0 4 ++ (nb (nI (sum (zl S.2.2.1.2) i)) 4 ++ seg (zn (S.2.2.1.2 i)).1 0 (zn (S.2.2.1.2 i)).2)))))) := okb_app (okb_fct (okb_nb (nb_tb _ _) _ _) _ _) (okb_app (nb_tb _ _) (okb_app (nb_tb _ _) (okb_app (nb_tb _ _) (okb_app (nb_tb _ _) (okb_app (nb_tb _ _) (okf_zn M))))))
    simp only [List.append_assoc] at h
    exact h
  · unfold hd3
    exact okb_app (nb_tb _ _) (okb_app (nb_tb _ _) (okb_app (nb_tb _ _) (okb_app (nb_tb _ _) (okb_app (nb_tb _ _) (okb_app (nb_tb _ _) (nb_tb _ _))))))
theorem L_M_write1 {Q : mm_O → mm_Mem → Prop} (hz : zt S.2.2.1.1 S.2.2.1.2 ≤ 65536) (H : ∀ mB g, MW G mB S 0 hp ot x A hf → FR 336 352 m mB → mB 349 = aL G g → (∀ j, j < S.2.2.1.1 → (g j).toInt32 = nI (sum (zl S.2.2.1.2) j)) → mm_W l G k_M_write 156 [(0, .ref 336)] [] b (VM G mB (HW S hp ot x) f (cat (h1 S.2.2.1.2) S.2.2.1.1)) Q) : ∀ w i mB g, i + w = S.2.2.1.1 → MW G mB S 0 hp ot x A hf → FR 336 352 m mB → mB 349 = aL G g → (∀ j, j < i → (g j).toInt32 = nI (sum (zl S.2.2.1.2) j)) → mm_W l G k_M_write 71 [(0, .ref 336), (2, .int (nI i))] [] b (VM G mB (HW S hp ot x) f (cat (h1 S.2.2.1.2) i)) Q := by
  intro w
  induction w with
  | zero =>
    intro i mB g hi W F h9 hg
    have hk := W.2.2.2.2.1.2.1
    have e : i = S.2.2.1.1 := by omega
    subst e
    exact t_M_write_71 VM_h (by omega) rfl (fun _ => H mB g W F h9 hg) (fun z => absurd (nI_le (Nat.le_refl _) (by omega)) z)
  | succ w ih =>
    intro i mB g hi W F h9 hg
    have hB := W.2.2.2.2.1
    have hk := hB.2.1
    have M := hB.1 i (by omega)
    have hlen : (cat (h1 S.2.2.1.2) i).length = sum (zl S.2.2.1.2) i := cat_len _ _ (h1_len _) i
    have hs1 := sum_le (zl S.2.2.1.2) (show i + 1 ≤ S.2.2.1.1 by omega)
    have hs2 : sum (zl S.2.2.1.2) (i + 1) = sum (zl S.2.2.1.2) i + (30 + (S.2.2.1.2 i).1.2 + (S.2.2.1.2 i).2.1.2) := rfl
    rw [zt_eq] at hz
    have ec : (nI i).toNatClampNeg = i := nI_clamp (by omega)
    have e2 : aL G (vp_updL g (nI i).toNatClampNeg (nI (cat (h1 S.2.2.1.2) i).length).toInt64) = aL G (vp_updL g i (nI (sum (zl S.2.2.1.2) i)).toInt64) := by rw [ec, hlen]
    have W2 := MW_349 W (vp_updL g (nI i).toNatClampNeg (nI (cat (h1 S.2.2.1.2) i).length).toInt64)
    have hM1 := low4 (l := l) (b := 0) (G := G) (m := va_up mB 349 (aL G (vp_updL g (nI i).toNatClampNeg (nI (cat (h1 S.2.2.1.2) i).length).toInt64))) (hp := hp) (ot := ot) (u := nI S.1.2) (tu := nI S.2.1.2) (k := nI S.2.2.1.1) (us9 := nI (us S)) (t := S.2.2.2) (x := x) (f := f) (ys := cat (h1 S.2.2.1.2) i) 67324752 4 (by omega) (by omega)
    rw [← VM_up] at hM1
    refine t_M_write_71 VM_h (by omega) rfl (fun z => absurd z (nI_ge (by omega) (by omega))) (fun _ => t_M_write_79 VM_h (by omega) rfl rfl ((VM_o (by omega) (by omega)).trans h9) (by omega) (vp_in_nI (by omega) (by omega)) (Nat.le_of_eq (Nat.zero_add _)) ((up_n (by omega)).trans VM_h) hM1 (Nat.le_of_eq (Nat.zero_add _)) VM_h (low4 20 2 (by omega) (by simp only [List.length_append, nb_len]; omega)) (Nat.le_of_eq (Nat.zero_add _)) VM_h (s_M_middle (by omega) (MW_WA W2) M (by simp only [List.length_append, nb_len]; omega)) (Nat.le_of_eq (Nat.zero_add _)) VM_h (s_M_writeName (by omega) (MW_WA W2) M (by simp only [List.length_append, nb_len, mid_len]; omega)) ?_)
    obtain ⟨q1, q2, q3, q4, q5, q6, q7, gg, q8, q9, q10⟩ := M
    have hus := hB.2.2.1
    have hhp : hp ≠ 336 ∧ hp ≠ 337 := by have := W2.2.2.2.1.2.2.2.2.2; unfold sw at this; omega
    generalize hm2 : va_up mB 349 (aL G (vp_updL g (nI i).toNatClampNeg (nI (cat (h1 S.2.2.1.2) i).length).toInt64)) = mB2 at W2
    have L2 : ∀ w j, j + w = (S.2.2.1.2 i).2.1.2 → mm_W l G k_M_write 116 [(0, .ref 336), (2, .int (nI i)), (3, .int (nI j))] [] b (VM G mB2 (HW S hp ot x) f (cat (h1 S.2.2.1.2) i ++ nb 67324752 4 ++ nb 20 2 ++ mid (S.2.2.1.2 i) ++ seg (zn (S.2.2.1.2 i)).1 0 (zn (S.2.2.1.2 i)).2 ++ seg (S.2.2.1.2 i).2.1.1 0 j)) Q := by
      intro w
      induction w with
      | zero =>
        intro j hj
        have e : j = (S.2.2.1.2 i).2.1.2 := by omega
        subst e
        refine t_M_write_116 VM_h (by omega) rfl ((VM_o (by omega) (by omega)).trans (W2.2.2.2.1.2.1 343 (by omega) (by omega))) (by omega) (vp_in_nI (by omega) (by omega)) (fun _ => t_M_write_150 ?_) (fun z => absurd ?_ z)
        · rw [nI_1]
          have ey : cat (h1 S.2.2.1.2) i ++ nb 67324752 4 ++ nb 20 2 ++ mid (S.2.2.1.2 i) ++ seg (zn (S.2.2.1.2 i)).1 0 (zn (S.2.2.1.2 i)).2 ++ seg (S.2.2.1.2 i).2.1.1 0 (S.2.2.1.2 i).2.1.2 = cat (h1 S.2.2.1.2) (i + 1) := by
            show _ = cat (h1 S.2.2.1.2) i ++ (nb 67324752 4 ++ (fct (zf (S.2.2.1.2 i)) (zn (S.2.2.1.2 i)).2 ++ (seg (zn (S.2.2.1.2 i)).1 0 (zn (S.2.2.1.2 i)).2 ++ seg (S.2.2.1.2 i).2.1.1 0 (S.2.2.1.2 i).2.1.2)))
            rw [← mid_fct]
            simp only [List.append_assoc]
          rw [ey]
          have F2 : FR 336 352 m mB2 := by
            rw [← hm2]
            exact FR_tr F (FR_up (by omega) (by omega))
          refine ih (i + 1) mB2 (vp_updL g i (nI (sum (zl S.2.2.1.2) i)).toInt64) (by omega) W2 F2 ?_ (fun j hj => ?_)
          · rw [← hm2, up_s, e2]
          · unfold vp_updL
            by_cases q : j = i
            · rw [if_pos q, q]
              exact Int32.toInt32_toInt64 _
            · rw [if_neg q]
              exact hg j (by omega)
        · rw [ec, q5]
          exact nI_le (Nat.le_refl _) (by omega)
      | succ w ih2 =>
        intro j hj
        refine t_M_write_116 VM_h (by omega) rfl ((VM_o (by omega) (by omega)).trans (W2.2.2.2.1.2.1 343 (by omega) (by omega))) (by omega) (vp_in_nI (by omega) (by omega)) (fun z => absurd z ?_) (fun _ => ?_)
        · rw [ec, q5]
          exact nI_ge (by omega) (by omega)
        · have eA : A 342 (nI i).toNatClampNeg + nI j = nI (gg + j) := by rw [ec, q8, nI_add]
          have eH : hf (A 342 (nI i).toNatClampNeg + nI j).toNatClampNeg = (S.2.2.1.2 i).2.1.1 j := by rw [eA, nI_clamp (by omega), q10 j (by omega)]
          have hM := s_M_low (l := l) (b := 0) (G := G) (m := mB2) (hp := hp) (ot := ot) (u := nI S.1.2) (tu := nI S.2.1.2) (k := nI S.2.2.1.1) (us9 := nI (us S)) (t := S.2.2.2) (x := x) (f := f) (ys := cat (h1 S.2.2.1.2) i ++ nb 67324752 4 ++ nb 20 2 ++ mid (S.2.2.1.2 i) ++ seg (zn (S.2.2.1.2 i)).1 0 (zn (S.2.2.1.2 i)).2 ++ seg (S.2.2.1.2 i).2.1.1 0 j) (hf (A 342 (nI i).toNatClampNeg + nI j).toNatClampNeg) 1 (by omega) (by simp only [List.length_append, nb_len, mid_len, seg_len]; have h8 : (zn (S.2.2.1.2 i)).2 = (S.2.2.1.2 i).1.2 := rfl; omega)
          rw [lw_1 (hB.2.2.2 _)] at hM
          refine t_M_write_126 VM_h (by omega) rfl rfl ((VM_o (by omega) (by omega)).trans (W2.2.2.2.1.2.1 342 (by omega) (by omega))) (by omega) (vp_in_nI (by omega) (by omega)) ((VM_o hhp.1 hhp.2).trans W2.2.2.2.1.2.2.1) (by have := W2.2.2.2.1.2.2.2.2.2; unfold sw at this; omega) (by rw [eA]; exact vp_in_nI (by omega) (by omega)) (Nat.le_of_eq (Nat.zero_add _)) hM ?_
          rw [eH, nI_1, List.append_assoc, show seg (S.2.2.1.2 i).2.1.1 0 j ++ [(S.2.2.1.2 i).2.1.1 j] = seg (S.2.2.1.2 i).2.1.1 0 (j + 1) by rw [seg_succ, Nat.zero_add]]
          exact ih2 (j + 1) (by omega)
    have h0 := L2 (S.2.2.1.2 i).2.1.2 0 (by omega)
    rw [show seg (S.2.2.1.2 i).2.1.1 0 0 = [] from rfl, List.append_nil] at h0
    exact h0
theorem L_M_write2 {Q : mm_O → mm_Mem → Prop} (W : MW G mB S 0 hp ot x A hf) {g : Nat → Int64} (h9 : mB 349 = aL G g) (hg : ∀ j, j < S.2.2.1.1 → (g j).toInt32 = nI (sum (zl S.2.2.1.2) j)) {y0 : List Int32} {d : Int32} (hz : y0.length + sum (dl2 S.2.2.1.2) S.2.2.1.1 ≤ 65536) (H : mm_W l G k_M_write 227 [(0, .ref 336), (2, .int d)] [] b (VM G mB (HW S hp ot x) f (y0 ++ cat (h2 S.2.2.1.2) S.2.2.1.1)) Q) : ∀ w i, i + w = S.2.2.1.1 → mm_W l G k_M_write 163 [(0, .ref 336), (2, .int d), (3, .int (nI i))] [] b (VM G mB (HW S hp ot x) f (y0 ++ cat (h2 S.2.2.1.2) i)) Q := by
  have hB := W.2.2.2.2.1
  have hk := hB.2.1
  intro w
  induction w with
  | zero =>
    intro i hi
    have e : i = S.2.2.1.1 := by omega
    subst e
    exact t_M_write_163 VM_h (by omega) rfl (fun _ => H) (fun z => absurd (nI_le (Nat.le_refl _) (by omega)) z)
  | succ w ih =>
    intro i hi
    have M := hB.1 i (by omega)
    have hlen : (cat (h2 S.2.2.1.2) i).length = sum (dl2 S.2.2.1.2) i := cat_len _ _ (h2_len _) i
    have hs1 := sum_le (dl2 S.2.2.1.2) (show i + 1 ≤ S.2.2.1.1 by omega)
    have hs2 : sum (dl2 S.2.2.1.2) (i + 1) = sum (dl2 S.2.2.1.2) i + (46 + (S.2.2.1.2 i).1.2) := rfl
    have ec : (nI i).toNatClampNeg = i := nI_clamp (by omega)
    have eg : (g (nI i).toNatClampNeg).toInt32 = nI (sum (zl S.2.2.1.2) i) := by rw [ec]; exact hg i (by omega)
    refine t_M_write_163 VM_h (by omega) rfl (fun z => absurd z (nI_ge (by omega) (by omega))) (fun _ => t_M_write_171 (Nat.le_of_eq (Nat.zero_add _)) VM_h (by omega) (low4 33639248 4 (by omega) (by simp only [List.length_append, hlen]; omega)) (Nat.le_of_eq (Nat.zero_add _)) VM_h (low4 20 2 (by omega) (by simp only [List.length_append, nb_len, hlen]; omega)) (Nat.le_of_eq (Nat.zero_add _)) VM_h (low4 20 2 (by omega) (by simp only [List.length_append, nb_len, hlen]; omega)) (Nat.le_of_eq (Nat.zero_add _)) VM_h (s_M_middle (by omega) (MW_WA W) M (by simp only [List.length_append, nb_len, hlen]; omega)) (Nat.le_of_eq (Nat.zero_add _)) VM_h (s_M_low 0 10 (by omega) (by simp only [List.length_append, nb_len, hlen, mid_len]; omega)) VM_h rfl ((VM_o (by omega) (by omega)).trans h9) (by omega) (vp_in_nI (by omega) (by omega)) (Nat.le_of_eq (Nat.zero_add _)) (low4 _ 4 (by omega) (by simp only [List.length_append, nb_len, hlen, mid_len, lw_len]; omega)) (Nat.le_of_eq (Nat.zero_add _)) VM_h (s_M_writeName (by omega) (MW_WA W) M (by simp only [List.length_append, nb_len, hlen, mid_len, lw_len]; omega)) ?_)
    rw [eg, nI_1]
    have ey : y0 ++ cat (h2 S.2.2.1.2) i ++ nb 33639248 4 ++ nb 20 2 ++ nb 20 2 ++ mid (S.2.2.1.2 i) ++ lw 0 10 ++ nb (nI (sum (zl S.2.2.1.2) i)) 4 ++ seg (zn (S.2.2.1.2 i)).1 0 (zn (S.2.2.1.2 i)).2 = y0 ++ cat (h2 S.2.2.1.2) (i + 1) := by
      show _ = y0 ++ (cat (h2 S.2.2.1.2) i ++ (nb 33639248 4 ++ (nb 20 2 ++ (fct (zf (S.2.2.1.2 i)) (zn (S.2.2.1.2 i)).2 ++ (nb 0 2 ++ (nb 0 2 ++ (nb 0 2 ++ (nb 0 4 ++ (nb (nI (sum (zl S.2.2.1.2) i)) 4 ++ seg (zn (S.2.2.1.2 i)).1 0 (zn (S.2.2.1.2 i)).2)))))))))
      rw [← mid_fct, lw_0]
      simp only [List.append_assoc]
    rw [ey]
    exact ih (i + 1) (by omega)
theorem m_write (h : MP G m S c0) : MO l G k_M_write [] b m false (o_write S) := by
  obtain ⟨hp, ot, x, A, hf, W⟩ := h
  have hB := W.2.2.2.2.1
  have hk := hB.2.1
  have hus := hB.2.2.1
  have hS := W.2.2.2.2.2
  have hM : ∀ i, i < S.2.2.1.1 → (S.2.2.1.2 i).1.2 ≤ 64 ∧ (S.2.2.1.2 i).2.1.2 ≤ 65536 := by
    intro i hi
    obtain ⟨q1, q2, q3, q4, q5, q6, q7, gg, q8, q9, q10⟩ := hB.1 i hi
    exact ⟨q2, by omega⟩
  have hzb : ∀ i, i ≤ S.2.2.1.1 → zt i S.2.2.1.2 ≤ 22 + 64 * 70000 := by
    intro i hi
    have h1 := sum_bnd (g := fun i => zl S.2.2.1.2 i + (46 + (S.2.2.1.2 i).1.2)) (M := 70000) i (fun j hj => by
      have h2 := hM j (by omega)
      unfold zl
      omega)
    have h4 : i * 70000 ≤ 64 * 70000 := Nat.mul_le_mul_right _ (by omega)
    unfold zt
    omega
  have L0 : ∀ (R : mm_O → mm_Mem → Prop), mm_W l G k_M_write 40 [(0, .ref 336), (1, .int (nI (zt S.2.2.1.1 S.2.2.1.2)))] [] b m R → ∀ w i, i + w = S.2.2.1.1 → mm_W l G k_M_write 5 [(0, .ref 336), (1, .int (nI (zt i S.2.2.1.2))), (2, .int (nI i))] [] b m R := by
    intro R HR w
    induction w with
    | zero =>
      intro i hi
      have e : i = S.2.2.1.1 := by omega
      subst e
      exact t_M_write_5 W.1 (by omega) rfl (fun _ => HR) (fun z => absurd (nI_le (Nat.le_refl _) (by omega)) z)
    | succ w ih =>
      intro i hi
      obtain ⟨q1, q2, q3, q4, q5, q6, q7, -⟩ := hB.1 i (by omega)
      have ec : (nI i).toNatClampNeg = i := nI_clamp (by omega)
      refine t_M_write_5 W.1 (by omega) rfl (fun z => absurd z (nI_ge (by omega) (by omega))) (fun _ => t_M_write_13 W.1 (by omega) rfl (W.2.2.2.1.2.1 340 (by omega) (by omega)) (by omega) (vp_in_nI (by omega) (by omega)) rfl (W.2.2.2.1.2.1 343 (by omega) (by omega)) (by omega) (vp_in_nI (by omega) (by omega)) ?_)
      rw [ec, q1, q5, nI_1, show (2 : Int32) = nI 2 from rfl, nI_mul, show (76 : Int32) = nI 76 from rfl, nI_add, nI_add, nI_add, show zt i S.2.2.1.2 + (76 + 2 * (S.2.2.1.2 i).1.2 + (S.2.2.1.2 i).2.1.2) = zt (i + 1) S.2.2.1.2 by (unfold zt; simp only [sum]; unfold zl; omega)]
      exact ih (i + 1) (by omega)
  refine t_M_write_0 (L0 _ ?_ S.2.2.1.1 0 (by omega))
  have hzk := hzb S.2.2.1.1 (Nat.le_refl _)
  refine t_M_write_40 (fun z => ?_) (fun z => ?_)
  · have z : zt S.2.2.1.1 S.2.2.1.2 ≤ 65536 := (nI_leI (b := 65536) (by omega) (by omega)).mp z
    have hr : o_write S = (0, nI (zt S.2.2.1.1 S.2.2.1.2), (app S.1.1 0 (zw S.2.2.1.1 S.2.2.1.2), zt S.2.2.1.1 S.2.2.1.2), S.2) := if_neg (by omega)
    rw [hr]
    have W1 : MW G _ S 0 hp ot x A hf := MW_h W 0 S.2.2.2 x
    have F1 : FR 336 352 m (va_up m 336 (.inr (8, ML hp ot 0 (nI S.1.2) (nI S.2.1.2) (nI S.2.2.1.1) (nI (us S)) S.2.2.2 x))) := FR_up (by omega) (by omega)
    refine t_M_write_51 (t_M_write_52 W.1 (by omega) (Nat.le_of_ble_eq_true rfl) up_s (by omega) rfl (fun _ => ?_) (fun z => absurd (by decide) z))
    have e0 : (ML hp ot c0 (nI S.1.2) (nI S.2.1.2) (nI S.2.2.1.1) (nI (us S)) S.2.2.2 x).set 0 (.int 0) = ML hp ot 0 (nI S.1.2) (nI S.2.1.2) (nI S.2.2.1.1) (nI (us S)) S.2.2.2 x := rfl
    rw [e0]
    generalize va_up m 336 (.inr (8, ML hp ot 0 (nI S.1.2) (nI S.2.1.2) (nI S.2.2.1.1) (nI (us S)) S.2.2.2 x)) = m1 at W1 F1 ⊢
    refine t_M_write_64 W1.1 (by omega) (Nat.le_of_ble_eq_true rfl) ?_
    have eV : va_up m1 336 (.inr (8, (ML hp ot 0 (nI S.1.2) (nI S.2.1.2) (nI S.2.2.1.1) (nI (us S)) S.2.2.2 x).set 28 (.int 0))) = VM G m1 (HW S hp ot x) S.1.1 (cat (h1 S.2.2.1.2) 0) := by
      unfold VM
      rw [show cat (h1 S.2.2.1.2) 0 = [] from rfl, app_nil, up_id W1.2.1]
      rfl
    rw [eV]
    obtain ⟨g0, hg0⟩ := W1.2.2.2.1.2.2.2.2.1.2.1
    have hlen : (cat (h1 S.2.2.1.2) S.2.2.1.1).length = sum (zl S.2.2.1.2) S.2.2.1.1 := cat_len _ _ (h1_len _) _
    have hlen2 : (cat (h2 S.2.2.1.2) S.2.2.1.1).length = sum (dl2 S.2.2.1.2) S.2.2.1.1 := cat_len _ _ (h2_len _) _
    have hz2 := zt_eq S.2.2.1.2 S.2.2.1.1
    refine L_M_write1 (m := m) (A := A) (hf := hf) z (fun mB g W2 F2 h9 hg => t_M_write_156 VM_h (by omega) rfl ?_) S.2.2.1.1 0 m1 g0 (by omega) W1 F1 hg0 (fun j hj => absurd hj (by omega))
    have h0 := L_M_write2 (l := l) (b := b) (f := S.1.1) W2 h9 hg (y0 := cat (h1 S.2.2.1.2) S.2.2.1.1) (d := nI (cat (h1 S.2.2.1.2) S.2.2.1.1).length) (Q := fun v m2 => v = .inl (some (.int (nI (zt S.2.2.1.1 S.2.2.1.2)))) ∧ FR 336 352 m m2 ∧ MP G m2 ((app S.1.1 0 (zw S.2.2.1.1 S.2.2.1.2), zt S.2.2.1.1 S.2.2.1.2), S.2) (nI 0)) (by omega) ?_ S.2.2.1.1 0 (by omega)
    · rw [show cat (h2 S.2.2.1.2) 0 = [] from rfl, List.append_nil] at h0
      exact h0
    · have ey : ∀ d, d = nI (sum (zl S.2.2.1.2) S.2.2.1.1 + sum (dl2 S.2.2.1.2) S.2.2.1.1 - sum (zl S.2.2.1.2) S.2.2.1.1) → cat (h1 S.2.2.1.2) S.2.2.1.1 ++ cat (h2 S.2.2.1.2) S.2.2.1.1 ++ nb 101010256 4 ++ nb 0 4 ++ nb (nI S.2.2.1.1) 2 ++ nb (nI S.2.2.1.1) 2 ++ nb d 4 ++ nb (nI (sum (zl S.2.2.1.2) S.2.2.1.1)) 4 ++ nb 0 2 = zw S.2.2.1.1 S.2.2.1.2 := by
        intro d hd
        rw [hd]
        show _ = cat (h1 S.2.2.1.2) S.2.2.1.1 ++ (cat (h2 S.2.2.1.2) S.2.2.1.1 ++ (nb 101010256 4 ++ (nb 0 4 ++ (nb (nI S.2.2.1.1) 2 ++ (nb (nI S.2.2.1.1) 2 ++ (nb (nI (sum (zl S.2.2.1.2) S.2.2.1.1 + sum (dl2 S.2.2.1.2) S.2.2.1.1 - sum (zl S.2.2.1.2) S.2.2.1.1)) 4 ++ (nb (nI (sum (zl S.2.2.1.2) S.2.2.1.1)) 4 ++ nb 0 2)))))))
        simp only [List.append_assoc]
      refine t_M_write_227 VM_h (by omega) rfl (Nat.le_of_eq (Nat.zero_add _)) (low4 101010256 4 (by omega) (by simp only [List.length_append, hlen, hlen2]; omega)) (Nat.le_of_eq (Nat.zero_add _)) VM_h (low4 0 4 (by omega) (by simp only [List.length_append, nb_len, hlen, hlen2]; omega)) VM_h rfl (Nat.le_of_eq (Nat.zero_add _)) (low4 _ 2 (by omega) (by simp only [List.length_append, nb_len, hlen, hlen2]; omega)) VM_h rfl (Nat.le_of_eq (Nat.zero_add _)) (low4 _ 2 (by omega) (by simp only [List.length_append, nb_len, hlen, hlen2]; omega)) (Nat.le_of_eq (Nat.zero_add _)) VM_h (low4 _ 4 (by omega) (by simp only [List.length_append, nb_len, hlen, hlen2]; omega)) (Nat.le_of_eq (Nat.zero_add _)) VM_h (low4 _ 4 (by omega) (by simp only [List.length_append, nb_len, hlen, hlen2]; omega)) (Nat.le_of_eq (Nat.zero_add _)) VM_h (low4 0 2 (by omega) (by simp only [List.length_append, nb_len, hlen, hlen2]; omega)) VM_h rfl (Nat.le_of_ble_eq_true rfl) up_s rfl ?_
      have hd : nI (cat (h1 S.2.2.1.2) S.2.2.1.1 ++ cat (h2 S.2.2.1.2) S.2.2.1.1).length - nI (cat (h1 S.2.2.1.2) S.2.2.1.1).length = nI (sum (zl S.2.2.1.2) S.2.2.1.1 + sum (dl2 S.2.2.1.2) S.2.2.1.1 - sum (zl S.2.2.1.2) S.2.2.1.1) := by
        rw [List.length_append, hlen, hlen2]
        exact pk_sub (by omega)
      rw [hlen] at hd ⊢
      rw [ey _ hd, zw_len]
      refine ⟨rfl, FR_tr F2 (FR_tr (FR_tr (FR_up (by omega) (by omega)) (FR_up (by omega) (by omega))) (FR_up (by omega) (by omega))), hp, ot, _, A, hf, MW_gen W2 (f := app S.1.1 0 (zw S.2.2.1.1 S.2.2.1.2)) (u := zt S.2.2.1.1 S.2.2.1.2) (g := S.2.1.1) (tu := S.2.1.2) (x2 := (x.1, x.2.1, x.2.2.1, x.2.2.2.1, nI (zt S.2.2.1.1 S.2.2.1.2))) up_s ((up_n (by omega)).trans VM_r) ((up_n (by omega)).trans ((VM_o (by omega) (by omega)).trans W2.2.2.1)) (fun a q1 q2 => (up_n (by omega)).trans (VM_o (by omega) (by omega))) ⟨z, hS.2.1, hS.2.2.1, app_tb hS.2.2.2 (okb_zw W2)⟩⟩
  · have z : ¬ zt S.2.2.1.1 S.2.2.1.2 ≤ 65536 := fun q => z ((nI_leI (b := 65536) (by omega) (by omega)).mpr q)
    have hr : o_write S = (1, 0, S) := if_pos (by omega)
    rw [hr]
    exact t_M_write_47 (t_M_write_52 W.1 (by omega) (Nat.le_of_ble_eq_true rfl) up_s (by omega) rfl (fun z => absurd z (by decide)) (fun _ => t_M_write_62 ⟨rfl, MO_c W 1⟩))
end MO8
