/-! the box: what write puts into the row -/
def okb (xs : List Int32) : Prop := ∀ x ∈ xs, x.toInt8.toInt32 = x
theorem okb_nb {xs : List Int32} (h : okb xs) (v : Int32) (w : Nat) : okb (xs ++ nb v w) := m_app h (nb_tb v w)
theorem okb_app {xs ys : List Int32} (h : okb xs) (h2 : okb ys) : okb (xs ++ ys) := m_app h h2
theorem okb_nil : okb [] := fun _ h => absurd h List.not_mem_nil
/-- what both kinds of head say alike -/
def fct (e : Ef) (nl : Nat) : List Int32 := nb 20 2 ++ (nb 0 2 ++ (nb e.1 2 ++ (nb 0 4 ++ (nb e.2.2.2.2 4 ++ (nb (nI e.2.2.1) 4 ++ (nb e.2.2.2.1 4 ++ (nb (nI nl) 2 ++ nb 0 2)))))))
theorem fct_len (e : Ef) (nl : Nat) : (fct e nl).length = 26 := by simp [fct, nb_len]
theorem okb_fct {xs : List Int32} (h : okb xs) (e : Ef) (nl : Nat) : okb (xs ++ fct e nl) := by
  unfold fct
  refine m_app h (m_app (nb_tb _ _) (m_app (nb_tb _ _) (m_app (nb_tb _ _) (m_app (nb_tb _ _) (m_app (nb_tb _ _) (m_app (nb_tb _ _) (m_app (nb_tb _ _) (m_app (nb_tb _ _) (nb_tb _ _)))))))))
/-- an entry with its head; an entry's head in the directory; the end -/
def hd1 (e : Ef) (n s : Nf) : List Int32 := nb 67324752 4 ++ (fct e n.2 ++ (seg n.1 0 n.2 ++ seg s.1 e.2.1 e.2.2.1))
def hd2 (e : Ef) (n : Nf) (p : Nat) : List Int32 := nb 33639248 4 ++ (nb 20 2 ++ (fct e n.2 ++ (nb 0 2 ++ (nb 0 2 ++ (nb 0 2 ++ (nb 0 4 ++ (nb (nI p) 4 ++ seg n.1 0 n.2)))))))
def hd3 (k d t : Nat) : List Int32 := nb 101010256 4 ++ (nb 0 4 ++ (nb (nI k) 2 ++ (nb (nI k) 2 ++ (nb (nI (t - d)) 4 ++ (nb (nI d) 4 ++ nb 0 2)))))
theorem hd1_len (e : Ef) (n s : Nf) : (hd1 e n s).length = 30 + n.2 + e.2.2.1 := by simp [hd1, nb_len, fct_len, seg_len]; omega
theorem hd2_len (e : Ef) (n : Nf) (p : Nat) : (hd2 e n p).length = 46 + n.2 := by simp [hd2, nb_len, fct_len, seg_len]; omega
theorem hd3_len (k d t : Nat) : (hd3 k d t).length = 22 := by simp [hd3, nb_len]
def cat (h : Nat → List Int32) : Nat → List Int32
  | 0 => []
  | i + 1 => cat h i ++ h i
def sum (h : Nat → Nat) : Nat → Nat
  | 0 => 0
  | i + 1 => sum h i + h i
theorem cat_len (h : Nat → List Int32) (g : Nat → Nat) (hg : ∀ i, (h i).length = g i) : ∀ i, (cat h i).length = sum g i := by
  intro i
  induction i with
  | zero => rfl
  | succ i ih => simp [cat, sum, ih, hg]
theorem sum_le (g : Nat → Nat) {i k : Nat} (h : i ≤ k) : sum g i ≤ sum g k := by
  induction k with
  | zero => rw [show i = 0 by omega]; exact Nat.le_refl _
  | succ k ih =>
    by_cases q : i = k + 1
    · rw [q]; exact Nat.le_refl _
    · have := ih (by omega)
      simp only [sum]
      omega
theorem sum_add (g h : Nat → Nat) (k : Nat) : sum (fun i => g i + h i) k = sum g k + sum h k := by
  induction k with
  | zero => rfl
  | succ k ih => simp only [sum, ih]; omega
section PBW
variable {l : Launch} {G : mm_G} {m : mm_Mem} {k : Nat} {o : Nat → Nat} {e : Nat → Ef} {n : Nat → Nf} {s : Nf} {b : Nat} {f g : Nat → Int32} {u : Nat} {ys : List Int32}
theorem w_B (B : BY G m 2 3 65536 g u) (hf : ∀ j, (f j).toInt8.toInt32 = f j) (hy : okb ys) (hl : ys.length ≤ 65536) : BL G (BT G m 2 3 65536 f 0 ys) 2 3 65536 f 0 ys := BL_BT B hf hy (by omega)
theorem w_P (P : PB G m k o e n s) : PB G (BT G m 2 3 65536 f 0 ys) k o e n s := PB_eq P (fun a h1 h2 => BS_o (by omega) (by omega))
theorem pn (B : BY G m 2 3 65536 g u) (hf : ∀ j, (f j).toInt8.toInt32 = f j) (hy : okb ys) (w : Nat) (hw : w ≤ 4) (hl : ys.length + w ≤ 65536) (v : Int32) : mm_W l G k_B_pushNumber 0 (lv_args 0 [.ref 2, .int v, .int (nI w)]) [] b (BT G m 2 3 65536 f 0 ys) (mm_is (.inl none) (BT G m 2 3 65536 f 0 (ys ++ nb v w))) := by
  have h := s_B_pushNumber (l := l) (b := b) (w_B B hf hy (by omega)) hf hy hw (by omega) v
  rw [BT_BT (by omega)] at h
  exact h
theorem pa (B : BY G m 2 3 65536 g u) (hf : ∀ j, (f j).toInt8.toInt32 = f j) (hy : okb ys) {r c N w : Nat} {q : Nat → Int32} (B2 : BY G m r c N q w) (h1 : r ≠ 2) (h2 : r ≠ 3) (h3 : c ≠ 2) (h4 : c ≠ 3) {a t : Nat} (ha : a + t ≤ w) (hl : ys.length + t ≤ 65536) : mm_W l G k_B_pushAll 0 (lv_args 0 [.ref 2, .ref r, .int (nI a), .int (nI t)]) [] b (BT G m 2 3 65536 f 0 ys) (mm_is (.inl none) (BT G m 2 3 65536 f 0 (ys ++ seg q a t))) := by
  have h := s_B_pushAll (l := l) (b := b) (w_B B hf hy (by omega)) (BY_o B2 h1 h2 h3 h4) (by omega) (by omega) (by omega) (by omega) ha (by omega)
  rw [BT_BT (by omega)] at h
  exact h
theorem s_X_writeFacts (P : PB G m k o e n s) (B : BY G m 2 3 65536 g u) (hf : ∀ j, (f j).toInt8.toInt32 = f j) (hy : okb ys) {j : Nat} (hj : j < 64) (hl : ys.length + 26 ≤ 65536) : mm_W l G k_X_writeFacts 0 (lv_args 0 [.ref 8, .ref 2, .ref (10 + 3 * j)]) [] b (BT G m 2 3 65536 f 0 ys) (mm_is (.inl none) (BT G m 2 3 65536 f 0 (ys ++ fct (e j) (n j).2))) := by
  have w2 : ∀ zs, BT G m 2 3 65536 f 0 zs 2 = .inr (2, [.ref 3, .int (nI (0 + zs.length))]) := fun zs => BS_r
  have wE : ∀ zs, BT G m 2 3 65536 f 0 zs (10 + 3 * j) = .inr (4, PE j (e j)) := fun zs => ((w_P P).2.2.2.1 j hj).1
  have wN : ∀ zs, BY G (BT G m 2 3 65536 f 0 zs) (11 + 3 * j) (12 + 3 * j) 64 (n j).1 (n j).2 := fun zs => ((w_P P).2.2.2.1 j hj).2
  have o1 := okb_nb hy 20 2
  have o2 := okb_nb o1 0 2
  have o3 := okb_nb o2 (e j).1 2
  have o4 := okb_nb o3 0 4
  have o5 := okb_nb o4 (e j).2.2.2.2 4
  have o6 := okb_nb o5 (nI (e j).2.2.1) 4
  have o7 := okb_nb o6 (e j).2.2.2.1 4
  have o8 := okb_nb o7 (nI (n j).2) 2
  refine t_X_writeFacts_0 (Nat.le_of_eq (Nat.zero_add _)) (w2 _) (by omega) (pn B hf hy 2 (by omega) (by omega) _) (Nat.le_of_eq (Nat.zero_add _)) (w2 _) (pn B hf o1 2 (by omega) (by simp only [List.length_append, nb_len]; omega) _) (wE _) (by omega) rfl (Nat.le_of_eq (Nat.zero_add _)) (w2 _) (pn B hf o2 2 (by omega) (by simp only [List.length_append, nb_len]; omega) _) (Nat.le_of_eq (Nat.zero_add _)) (w2 _) (pn B hf o3 4 (by omega) (by simp only [List.length_append, nb_len]; omega) _) (wE _) rfl (Nat.le_of_eq (Nat.zero_add _)) (w2 _) (pn B hf o4 4 (by omega) (by simp only [List.length_append, nb_len]; omega) _) (wE _) rfl (Nat.le_of_eq (Nat.zero_add _)) (w2 _) (pn B hf o5 4 (by omega) (by simp only [List.length_append, nb_len]; omega) _) (wE _) rfl (Nat.le_of_eq (Nat.zero_add _)) (w2 _) (pn B hf o6 4 (by omega) (by simp only [List.length_append, nb_len]; omega) _) (wE _) rfl (Nat.le_of_eq (Nat.zero_add _)) ((wN _).1) (by omega) (s_B_size (wN _)) (Nat.le_of_eq (Nat.zero_add _)) (w2 _) (pn B hf o7 2 (by omega) (by simp only [List.length_append, nb_len]; omega) _) (Nat.le_of_eq (Nat.zero_add _)) (w2 _) (pn B hf o8 2 (by omega) (by simp only [List.length_append, nb_len]; omega) _) ⟨rfl, ?_⟩
  simp only [fct, List.append_assoc]
theorem s_X_writeEntry (P : PB G m k o e n s) (B : BY G m 2 3 65536 g u) (hf : ∀ j, (f j).toInt8.toInt32 = f j) (hy : okb ys) {j : Nat} (hj : j < 64) (hin : (e j).2.1 + (e j).2.2.1 ≤ s.2) (hl : ys.length + (30 + (n j).2 + (e j).2.2.1) ≤ 65536) : mm_W l G k_X_writeEntry 0 (lv_args 0 [.ref 8, .ref 2, .ref (10 + 3 * j)]) [] b (BT G m 2 3 65536 f 0 ys) (mm_is (.inl none) (BT G m 2 3 65536 f 0 (ys ++ hd1 (e j) (n j) s))) := by
  have w2 : ∀ zs, BT G m 2 3 65536 f 0 zs 2 = .inr (2, [.ref 3, .int (nI (0 + zs.length))]) := fun zs => BS_r
  have wE : ∀ zs, BT G m 2 3 65536 f 0 zs (10 + 3 * j) = .inr (4, PE j (e j)) := fun zs => ((w_P P).2.2.2.1 j hj).1
  have wN : ∀ zs, BY G (BT G m 2 3 65536 f 0 zs) (11 + 3 * j) (12 + 3 * j) 64 (n j).1 (n j).2 := fun zs => ((w_P P).2.2.2.1 j hj).2
  have w8 : ∀ zs, BT G m 2 3 65536 f 0 zs 8 = .inr (1, [.ref 9, .ref 202, .int (nI k)]) := fun zs => (w_P P).1
  have N := (P.2.2.2.1 j hj).2
  have S := P.2.2.2.2.1
  have o1 := okb_nb hy 67324752 4
  have o2 := okb_fct o1 (e j) (n j).2
  have o3 : okb (ys ++ nb 67324752 4 ++ fct (e j) (n j).2 ++ seg (n j).1 0 (n j).2) := okb_app o2 (seg_tb N.2.2.2.2.2.2.2 _ _)
  refine t_X_writeEntry_0 (Nat.le_of_eq (Nat.zero_add _)) (w2 _) (by omega) (pn B hf hy 4 (by omega) (by omega) _) (Nat.le_of_eq (Nat.zero_add _)) (w8 _) (by omega) (s_X_writeFacts P B hf o1 hj (by simp only [List.length_append, nb_len]; omega)) (wE _) (by omega) rfl (Nat.le_of_eq (Nat.zero_add _)) ((wN _).1) (by omega) (s_B_size (wN _)) (Nat.le_of_eq (Nat.zero_add _)) (w2 _) (pa B hf o2 N (by omega) (by omega) (by omega) (by omega) (a := 0) (by omega) (by simp only [List.length_append, nb_len, fct_len]; omega)) (w8 _) rfl (wE _) rfl rfl (Nat.le_of_eq (Nat.zero_add _)) (w2 _) (pa B hf o3 S (by omega) (by omega) (by omega) (by omega) hin (by simp only [List.length_append, nb_len, fct_len, seg_len]; omega)) ⟨rfl, ?_⟩
  simp only [hd1, List.append_assoc]
theorem s_X_writeDirectoryHead (P : PB G m k o e n s) (B : BY G m 2 3 65536 g u) (hf : ∀ j, (f j).toInt8.toInt32 = f j) (hy : okb ys) {j : Nat} (hj : j < 64) (p : Nat) (hl : ys.length + (46 + (n j).2) ≤ 65536) : mm_W l G k_X_writeDirectoryHead 0 (lv_args 0 [.ref 8, .ref 2, .ref (10 + 3 * j), .int (nI p)]) [] b (BT G m 2 3 65536 f 0 ys) (mm_is (.inl none) (BT G m 2 3 65536 f 0 (ys ++ hd2 (e j) (n j) p))) := by
  have w2 : ∀ zs, BT G m 2 3 65536 f 0 zs 2 = .inr (2, [.ref 3, .int (nI (0 + zs.length))]) := fun zs => BS_r
  have wE : ∀ zs, BT G m 2 3 65536 f 0 zs (10 + 3 * j) = .inr (4, PE j (e j)) := fun zs => ((w_P P).2.2.2.1 j hj).1
  have wN : ∀ zs, BY G (BT G m 2 3 65536 f 0 zs) (11 + 3 * j) (12 + 3 * j) 64 (n j).1 (n j).2 := fun zs => ((w_P P).2.2.2.1 j hj).2
  have w8 : ∀ zs, BT G m 2 3 65536 f 0 zs 8 = .inr (1, [.ref 9, .ref 202, .int (nI k)]) := fun zs => (w_P P).1
  have N := (P.2.2.2.1 j hj).2
  have o1 := okb_nb hy 33639248 4
  have o2 := okb_nb o1 20 2
  have o3 := okb_fct o2 (e j) (n j).2
  have o4 := okb_nb o3 0 2
  have o5 := okb_nb o4 0 2
  have o6 := okb_nb o5 0 2
  have o7 := okb_nb o6 0 4
  have o8 := okb_nb o7 (nI p) 4
  refine t_X_writeDirectoryHead_0 (Nat.le_of_eq (Nat.zero_add _)) (w2 _) (by omega) (pn B hf hy 4 (by omega) (by omega) _) (Nat.le_of_eq (Nat.zero_add _)) (w2 _) (pn B hf o1 2 (by omega) (by simp only [List.length_append, nb_len]; omega) _) (Nat.le_of_eq (Nat.zero_add _)) (w8 _) (by omega) (s_X_writeFacts P B hf o2 hj (by simp only [List.length_append, nb_len]; omega)) (Nat.le_of_eq (Nat.zero_add _)) (w2 _) (pn B hf o3 2 (by omega) (by simp only [List.length_append, nb_len, fct_len]; omega) _) (Nat.le_of_eq (Nat.zero_add _)) (w2 _) (pn B hf o4 2 (by omega) (by simp only [List.length_append, nb_len, fct_len]; omega) _) (Nat.le_of_eq (Nat.zero_add _)) (w2 _) (pn B hf o5 2 (by omega) (by simp only [List.length_append, nb_len, fct_len]; omega) _) (Nat.le_of_eq (Nat.zero_add _)) (w2 _) (pn B hf o6 4 (by omega) (by simp only [List.length_append, nb_len, fct_len]; omega) _) (Nat.le_of_eq (Nat.zero_add _)) (w2 _) (pn B hf o7 4 (by omega) (by simp only [List.length_append, nb_len, fct_len]; omega) _) (wE _) (by omega) rfl (Nat.le_of_eq (Nat.zero_add _)) ((wN _).1) (by omega) (s_B_size (wN _)) (Nat.le_of_eq (Nat.zero_add _)) (w2 _) (pa B hf o8 N (by omega) (by omega) (by omega) (by omega) (a := 0) (by omega) (by simp only [List.length_append, nb_len, fct_len]; omega)) ⟨rfl, ?_⟩
  simp only [hd2, List.append_assoc]
theorem s_X_writeEnd (P : PB G m k o e n s) (B : BY G m 2 3 65536 g u) (hf : ∀ j, (f j).toInt8.toInt32 = f j) (hy : okb ys) {d : Nat} (hd : d ≤ ys.length) (hl : ys.length + 22 ≤ 65536) : mm_W l G k_X_writeEnd 0 (lv_args 0 [.ref 8, .ref 2, .int (nI d)]) [] b (BT G m 2 3 65536 f 0 ys) (mm_is (.inl none) (BT G m 2 3 65536 f 0 (ys ++ hd3 k d ys.length))) := by
  have w2 : ∀ zs, BT G m 2 3 65536 f 0 zs 2 = .inr (2, [.ref 3, .int (nI (0 + zs.length))]) := fun zs => BS_r
  have w8 : ∀ zs, BT G m 2 3 65536 f 0 zs 8 = .inr (1, [.ref 9, .ref 202, .int (nI k)]) := fun zs => (w_P P).1
  have o1 := okb_nb hy 101010256 4
  have o2 := okb_nb o1 0 4
  have o3 := okb_nb o2 (nI k) 2
  have o4 := okb_nb o3 (nI k) 2
  have o5 := okb_nb o4 (nI (0 + ys.length) - nI d) 4
  have o6 := okb_nb o5 (nI d) 4
  refine t_X_writeEnd_0 (Nat.le_of_eq (Nat.zero_add _)) (w2 _) (by omega) (s_B_size (w_B B hf hy (by omega))) (Nat.le_of_eq (Nat.zero_add _)) (w2 _) (pn B hf hy 4 (by omega) (by omega) _) (Nat.le_of_eq (Nat.zero_add _)) (w2 _) (pn B hf o1 4 (by omega) (by simp only [List.length_append, nb_len]; omega) _) (w8 _) (by omega) rfl (Nat.le_of_eq (Nat.zero_add _)) (w2 _) (pn B hf o2 2 (by omega) (by simp only [List.length_append, nb_len]; omega) _) (w8 _) rfl (Nat.le_of_eq (Nat.zero_add _)) (w2 _) (pn B hf o3 2 (by omega) (by simp only [List.length_append, nb_len]; omega) _) (Nat.le_of_eq (Nat.zero_add _)) (w2 _) (pn B hf o4 4 (by omega) (by simp only [List.length_append, nb_len]; omega) _) (Nat.le_of_eq (Nat.zero_add _)) (w2 _) (pn B hf o5 4 (by omega) (by simp only [List.length_append, nb_len]; omega) _) (Nat.le_of_eq (Nat.zero_add _)) (w2 _) (pn B hf o6 2 (by omega) (by simp only [List.length_append, nb_len]; omega) _) ⟨rfl, ?_⟩
  rw [Nat.zero_add, pk_sub hd]
  simp only [hd3, List.append_assoc]
theorem s_X_lengthWithHead (P : PB G m k o e n s) {j : Nat} (hj : j < 64) : mm_W l G k_X_lengthWithHead 0 (lv_args 0 [.ref (10 + 3 * j)]) [] b m (mm_is (.inl (some (.int (nI (30 + (n j).2 + (e j).2.2.1))))) m) := by
  obtain ⟨a1, a2⟩ := P.2.2.2.1 j hj
  refine t_X_lengthWithHead_0 a1 (by omega) rfl (Nat.le_of_eq (Nat.zero_add _)) a2.1 (by omega) (s_B_size a2) a1 rfl ⟨?_, rfl⟩
  rw [← nI_add, ← nI_add]
  rfl
def wlen (o : Nat → Nat) (e : Nat → Ef) (n : Nat → Nf) (i : Nat) : Nat := 30 + (n (o i)).2 + (e (o i)).2.2.1
theorem L_X_writtenLength (P : PB G m k o e n s) : ∀ w i x, i + w = k → x = 22 + sum (fun i => wlen o e n i + (46 + (n (o i)).2)) i → mm_W l G k_X_writtenLength 5 [(0, .ref 8), (1, .int (nI x)), (2, .int (nI i))] [] b m (mm_is (.inl (some (.int (nI (22 + sum (fun i => wlen o e n i + (46 + (n (o i)).2)) k))))) m) := by
  have P0 := P
  obtain ⟨p1, ⟨F, p2, p3⟩, p4, p5, p6, p7⟩ := P0
  intro w
  induction w with
  | zero =>
    intro i x hi hx
    have hik : i = k := by omega
    subst hik
    refine t_X_writtenLength_5 p1 (by omega) rfl (fun _ => t_X_writtenLength_47 ⟨by rw [hx], rfl⟩) (fun z => absurd (nI_le (by omega) (by omega)) z)
  | succ w ih =>
    intro i x hi hx
    refine t_X_writtenLength_5 p1 (by omega) rfl (fun z => absurd z (nI_ge (by omega) (by omega))) (fun _ => ?_)
    have hc : (nI i).toNatClampNeg = i := nI_clamp (by omega)
    have hF : F (nI i).toNatClampNeg = some (10 + 3 * o i) := by rw [hc]; exact p3 i (by omega)
    have ho := p4 i (by omega)
    obtain ⟨a1, a2⟩ := p5 (o i) ho
    refine t_X_writtenLength_13 p1 (by omega) rfl p2 (by omega) (vp_in_nI (by omega) (by omega)) hF (Nat.le_of_eq (Nat.zero_add _)) (s_X_lengthWithHead P ho) p1 rfl p2 (by omega) (vp_in_nI (by omega) (by omega)) hF a1 (by omega) rfl (Nat.le_of_eq (Nat.zero_add _)) a2.1 (by omega) (s_B_size a2) ?_
    rw [nI_1, show nI (30 + (n (o i)).2 + (e (o i)).2.2.1) + 46 + nI (n (o i)).2 = nI (wlen o e n i + (46 + (n (o i)).2)) by rw [show (46 : Int32) = nI 46 from rfl, nI_add, nI_add]; unfold wlen; rw [Nat.add_assoc], nI_add]
    exact ih (i + 1) _ (by omega) (by rw [hx]; simp only [sum]; omega)
theorem s_X_writtenLength (P : PB G m k o e n s) : mm_W l G k_X_writtenLength 0 (lv_args 0 [.ref 8]) [] b m (mm_is (.inl (some (.int (nI (22 + sum (fun i => wlen o e n i + (46 + (n (o i)).2)) k))))) m) :=
  t_X_writtenLength_0 (L_X_writtenLength P k 0 22 (by omega) rfl)
/-- all that write puts into the row -/
def wall (k : Nat) (o : Nat → Nat) (e : Nat → Ef) (n : Nat → Nf) (s : Nf) : List Int32 := cat (fun i => hd1 (e (o i)) (n (o i)) s) k ++ (cat (fun i => hd2 (e (o i)) (n (o i)) (sum (wlen o e n) i)) k ++ hd3 k (sum (wlen o e n) k) (sum (wlen o e n) k + sum (fun i => 46 + (n (o i)).2) k))
theorem okb_hd1 {x : Ef} {y z : Nf} (hy : ∀ j, (y.1 j).toInt8.toInt32 = y.1 j) (hz : ∀ j, (z.1 j).toInt8.toInt32 = z.1 j) : okb (hd1 x y z) := by
  unfold hd1
  have h : okb ((nb 67324752 4 ++ fct x y.2) ++ (seg y.1 0 y.2 ++ seg z.1 x.2.1 x.2.2.1)) := okb_app (okb_fct (nb_tb _ _) x y.2) (okb_app (seg_tb hy _ _) (seg_tb hz _ _))
  rw [List.append_assoc] at h
  exact h
theorem okb_hd2 {x : Ef} {y : Nf} {p : Nat} (hy : ∀ j, (y.1 j).toInt8.toInt32 = y.1 j) : okb (hd2 x y p) := by
  unfold hd2
  have h : okb ((nb 33639248 4 ++ nb 20 2 ++ fct x y.2) ++ (nb 0 2 ++ (nb 0 2 ++ (nb 0 2 ++ (nb 0 4 ++ (nb (nI p) 4 ++ seg y.1 0 y.2)))))) := okb_app (okb_fct (okb_nb (nb_tb _ _) _ _) x y.2) (okb_app (nb_tb _ _) (okb_app (nb_tb _ _) (okb_app (nb_tb _ _) (okb_app (nb_tb _ _) (okb_app (nb_tb _ _) (seg_tb hy _ _))))))
  simp only [List.append_assoc] at h
  exact h
theorem okb_cat {h : Nat → List Int32} {k : Nat} (hh : ∀ i, i < k → okb (h i)) : ∀ i, i ≤ k → okb (cat h i) := by
  intro i
  induction i with
  | zero => exact fun _ => okb_nil
  | succ i ih => exact fun hi => okb_app (ih (by omega)) (hh i (by omega))
theorem L_X_writeOver1 (P : PB G m k o e n s) (B : BY G m 2 3 65536 g u) (hf : ∀ j, (f j).toInt8.toInt32 = f j) (hin : ∀ i, i < k → (e (o i)).2.1 + (e (o i)).2.2.1 ≤ s.2) (hl : sum (wlen o e n) k ≤ 65536) {Q : mm_O → mm_Mem → Prop} (H : mm_W l G k_X_writeOver 32 [(0, .ref 8), (1, .ref 2)] [] b (BT G m 2 3 65536 f 0 (cat (fun i => hd1 (e (o i)) (n (o i)) s) k)) Q) : ∀ w i, i + w = k → mm_W l G k_X_writeOver 7 [(0, .ref 8), (1, .ref 2), (2, .int (nI i))] [] b (BT G m 2 3 65536 f 0 (cat (fun i => hd1 (e (o i)) (n (o i)) s) i)) Q := by
  have p7 := P.2.2.2.2.2
  have hok : ∀ i, i ≤ k → okb (cat (fun i => hd1 (e (o i)) (n (o i)) s) i) := okb_cat (fun i hi => okb_hd1 (P.2.2.2.1 (o i) (P.2.2.1 i (by omega))).2.2.2.2.2.2.2.2 P.2.2.2.2.1.2.2.2.2.2.2.2)
  have hlen : ∀ i, (cat (fun i => hd1 (e (o i)) (n (o i)) s) i).length = sum (wlen o e n) i := cat_len _ _ (fun i => hd1_len _ _ _)
  intro w
  induction w with
  | zero =>
    intro i hi
    have hik : i = k := by omega
    subst hik
    exact t_X_writeOver_7 ((w_P P).1) (by omega) rfl (fun _ => H) (fun z => absurd (nI_le (by omega) (by omega)) z)
  | succ w ih =>
    intro i hi
    refine t_X_writeOver_7 ((w_P P).1) (by omega) rfl (fun z => absurd z (nI_ge (by omega) (by omega))) (fun _ => ?_)
    have hc : (nI i).toNatClampNeg = i := nI_clamp (by omega)
    obtain ⟨F, p2, p3⟩ := (w_P (f := f) (ys := cat (fun i => hd1 (e (o i)) (n (o i)) s) i) P).2.1
    have ho := P.2.2.1 i (by omega)
    have hs1 := sum_le (wlen o e n) (show i + 1 ≤ k by omega)
    have hs2 : sum (wlen o e n) (i + 1) = sum (wlen o e n) i + (30 + (n (o i)).2 + (e (o i)).2.2.1) := rfl
    refine t_X_writeOver_15 ((w_P P).1) (by omega) rfl p2 (by omega) (vp_in_nI (by omega) (by omega)) (by rw [hc]; exact p3 i (by omega)) (Nat.le_of_eq (Nat.zero_add _)) (s_X_writeEntry P B hf (hok i (by omega)) ho (hin i (by omega)) (by rw [hlen]; omega)) ?_
    rw [nI_1]
    exact ih (i + 1) (by omega)
theorem L_X_writeOver2 (P : PB G m k o e n s) (B : BY G m 2 3 65536 g u) (hf : ∀ j, (f j).toInt8.toInt32 = f j) {y0 : List Int32} (hy : okb y0) (hl : y0.length + sum (fun i => 46 + (n (o i)).2) k ≤ 65536) {d : Int32} {Q : mm_O → mm_Mem → Prop} (H : mm_W l G k_X_writeOver 83 [(0, .ref 8), (1, .ref 2), (2, .int d)] [] b (BT G m 2 3 65536 f 0 (y0 ++ cat (fun i => hd2 (e (o i)) (n (o i)) (sum (wlen o e n) i)) k)) Q) : ∀ w i, i + w = k → mm_W l G k_X_writeOver 42 [(0, .ref 8), (1, .ref 2), (2, .int d), (3, .int (nI (sum (wlen o e n) i))), (4, .int (nI i))] [] b (BT G m 2 3 65536 f 0 (y0 ++ cat (fun i => hd2 (e (o i)) (n (o i)) (sum (wlen o e n) i)) i)) Q := by
  have p7 := P.2.2.2.2.2
  have hok : ∀ i, i ≤ k → okb (cat (fun i => hd2 (e (o i)) (n (o i)) (sum (wlen o e n) i)) i) := okb_cat (fun i hi => okb_hd2 (P.2.2.2.1 (o i) (P.2.2.1 i (by omega))).2.2.2.2.2.2.2.2)
  have hlen : ∀ i, (cat (fun i => hd2 (e (o i)) (n (o i)) (sum (wlen o e n) i)) i).length = sum (fun i => 46 + (n (o i)).2) i := cat_len _ _ (fun i => hd2_len _ _ _)
  intro w
  induction w with
  | zero =>
    intro i hi
    have hik : i = k := by omega
    subst hik
    exact t_X_writeOver_42 ((w_P P).1) (by omega) rfl (fun _ => H) (fun z => absurd (nI_le (by omega) (by omega)) z)
  | succ w ih =>
    intro i hi
    refine t_X_writeOver_42 ((w_P P).1) (by omega) rfl (fun z => absurd z (nI_ge (by omega) (by omega))) (fun _ => ?_)
    have hc : (nI i).toNatClampNeg = i := nI_clamp (by omega)
    obtain ⟨F, p2, p3⟩ := (w_P (f := f) (ys := y0 ++ cat (fun i => hd2 (e (o i)) (n (o i)) (sum (wlen o e n) i)) i) P).2.1
    obtain ⟨F2, q2, q3⟩ := (w_P (f := f) (ys := y0 ++ cat (fun i => hd2 (e (o i)) (n (o i)) (sum (wlen o e n) i)) i ++ hd2 (e (o i)) (n (o i)) (sum (wlen o e n) i)) P).2.1
    have ho := P.2.2.1 i (by omega)
    have hs1 := sum_le (fun i => 46 + (n (o i)).2) (show i + 1 ≤ k by omega)
    have hs2 : sum (fun i => 46 + (n (o i)).2) (i + 1) = sum (fun i => 46 + (n (o i)).2) i + (46 + (n (o i)).2) := rfl
    refine t_X_writeOver_51 ((w_P P).1) (by omega) rfl p2 (by omega) (vp_in_nI (by omega) (by omega)) (by rw [hc]; exact p3 i (by omega)) (Nat.le_of_eq (Nat.zero_add _)) (s_X_writeDirectoryHead P B hf (okb_app hy (hok i (by omega))) ho _ (by rw [List.length_append, hlen]; omega)) ((w_P P).1) rfl q2 (by omega) (vp_in_nI (by omega) (by omega)) (by rw [hc]; exact q3 i (by omega)) (Nat.le_of_eq (Nat.zero_add _)) (s_X_lengthWithHead (w_P P) ho) ?_
    rw [nI_1, nI_add, List.append_assoc]
    exact ih (i + 1) (by omega)
theorem s_X_writeOver (P : PB G m k o e n s) (B : BY G m 2 3 65536 f u) (hin : ∀ i, i < k → (e (o i)).2.1 + (e (o i)).2.2.1 ≤ s.2) (hl : 22 + sum (fun i => wlen o e n i + (46 + (n (o i)).2)) k ≤ 65536) : mm_W l G k_X_writeOver 0 (lv_args 0 [.ref 8, .ref 2]) [] b m (mm_is (.inl none) (BT G m 2 3 65536 f 0 (wall k o e n s))) := by
  have p7 := P.2.2.2.2.2
  have hf := B.2.2.2.2.2.2.2
  rw [sum_add] at hl
  have e0 : BS G m 2 3 65536 f 0 = BT G m 2 3 65536 f 0 [] := by unfold BT; rw [app_nil]; rfl
  have hk := s_B_keep (l := l) (b := 0) B (n := 0) (by omega)
  rw [e0] at hk
  have hlen : ∀ i, (cat (fun i => hd1 (e (o i)) (n (o i)) s) i).length = sum (wlen o e n) i := cat_len _ _ (fun i => hd1_len _ _ _)
  have hlen2 : ∀ i, (cat (fun i => hd2 (e (o i)) (n (o i)) (sum (wlen o e n) i)) i).length = sum (fun i => 46 + (n (o i)).2) i := cat_len _ _ (fun i => hd2_len _ _ _)
  have hok : okb (cat (fun i => hd1 (e (o i)) (n (o i)) s) k) := okb_cat (fun i hi => okb_hd1 (P.2.2.2.1 (o i) (P.2.2.1 i (by omega))).2.2.2.2.2.2.2.2 P.2.2.2.2.1.2.2.2.2.2.2.2) k (Nat.le_refl _)
  have hok2 : okb (cat (fun i => hd2 (e (o i)) (n (o i)) (sum (wlen o e n) i)) k) := okb_cat (fun i hi => okb_hd2 (P.2.2.2.1 (o i) (P.2.2.1 i (by omega))).2.2.2.2.2.2.2.2) k (Nat.le_refl _)
  refine t_X_writeOver_0 (Nat.le_of_eq (Nat.zero_add _)) B.1 (by omega) hk ?_
  refine L_X_writeOver1 P B hf hin (by omega) ?_ k 0 (by omega)
  have hsz := s_B_size (l := l) (b := 0) (w_B (f := f) B hf hok (by rw [hlen]; omega))
  rw [Nat.zero_add, hlen] at hsz
  refine t_X_writeOver_32 (Nat.le_of_eq (Nat.zero_add _)) BS_r (by omega) hsz ?_
  have h2 := L_X_writeOver2 (l := l) (b := b) (d := nI (sum (wlen o e n) k)) (Q := mm_is (.inl none) (BT G m 2 3 65536 f 0 (wall k o e n s))) P B hf hok (by rw [hlen]; omega) ?_ k 0 (by omega)
  · rw [show cat (fun i => hd2 (e (o i)) (n (o i)) (sum (wlen o e n) i)) 0 = [] from rfl, List.append_nil] at h2
    exact h2
  · have hE := s_X_writeEnd (l := l) (b := 0) P B hf (okb_app hok hok2) (d := sum (wlen o e n) k) (by rw [List.length_append, hlen]; omega) (by rw [List.length_append, hlen, hlen2]; omega)
    refine t_X_writeOver_83 (Nat.le_of_eq (Nat.zero_add _)) ((w_P P).1) (by omega) hE ⟨rfl, ?_⟩
    rw [List.length_append, hlen, hlen2, List.append_assoc]
    rfl
theorem wall_len (k : Nat) (o : Nat → Nat) (e : Nat → Ef) (n : Nat → Nf) (s : Nf) : (wall k o e n s).length = 22 + sum (fun i => wlen o e n i + (46 + (n (o i)).2)) k := by
  unfold wall
  rw [List.length_append, List.length_append, hd3_len, cat_len _ (wlen o e n) (fun i => hd1_len _ _ _), cat_len _ (fun i => 46 + (n (o i)).2) (fun i => hd2_len _ _ _), sum_add (wlen o e n) (fun i => 46 + (n (o i)).2)]
  omega
end PBW
