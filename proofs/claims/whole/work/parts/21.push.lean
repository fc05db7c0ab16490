/-! rows of bytes, going on: what is pushed as a list behind what is there -/
def app (f : Nat → Int32) (k : Nat) (xs : List Int32) : Nat → Int32 := fun j => if k ≤ j ∧ j < k + xs.length then xs.getD (j - k) 0 else f j
theorem app_nil (f : Nat → Int32) (k : Nat) : app f k [] = f := by
  funext j
  unfold app
  rw [if_neg]
  simp only [List.length_nil]
  omega
theorem app_snoc (f : Nat → Int32) (k : Nat) (xs : List Int32) (x : Int32) : upd (app f k xs) (k + xs.length) x = app f k (xs ++ [x]) := by
  funext j
  unfold upd app
  by_cases h1 : j = k + xs.length
  · rw [if_pos h1, if_pos (by simp only [List.length_append, List.length_cons, List.length_nil]; omega)]
    rw [List.getD_eq_getElem?_getD, List.getElem?_append_right (by omega)]
    have : j - k - xs.length = 0 := by omega
    rw [this]
    rfl
  · rw [if_neg h1]
    by_cases h2 : k ≤ j ∧ j < k + xs.length
    · rw [if_pos h2, if_pos (by simp only [List.length_append, List.length_cons, List.length_nil]; omega)]
      rw [List.getD_eq_getElem?_getD, List.getD_eq_getElem?_getD, List.getElem?_append_left (by omega)]
    · rw [if_neg h2, if_neg (by simp only [List.length_append, List.length_cons, List.length_nil]; omega)]
theorem app_app (f : Nat → Int32) (k : Nat) (xs ys : List Int32) : app (app f k xs) (k + xs.length) ys = app f k (xs ++ ys) := by
  funext j
  unfold app
  simp only [List.length_append]
  by_cases h1 : k + xs.length ≤ j ∧ j < k + xs.length + ys.length
  · rw [if_pos h1, if_pos (by omega)]
    rw [List.getD_eq_getElem?_getD, List.getD_eq_getElem?_getD, List.getElem?_append_right (by omega)]
    congr 2
    omega
  · rw [if_neg h1]
    by_cases h2 : k ≤ j ∧ j < k + xs.length
    · rw [if_pos h2, if_pos (by omega), List.getD_eq_getElem?_getD, List.getD_eq_getElem?_getD, List.getElem?_append_left (by omega)]
    · rw [if_neg h2, if_neg (by omega)]
theorem app_tb {f : Nat → Int32} {k : Nat} {xs : List Int32} (h : ∀ j, (f j).toInt8.toInt32 = f j) (hx : ∀ x ∈ xs, x.toInt8.toInt32 = x) : ∀ j, ((app f k xs) j).toInt8.toInt32 = (app f k xs) j := by
  intro j
  unfold app
  split
  · next h1 =>
    rw [List.getD_eq_getElem?_getD, List.getElem?_eq_getElem (by omega)]
    exact hx _ (List.getElem_mem _)
  · exact h j
/-- a row of bytes with the list xs behind its first k -/
abbrev BL (G : mm_G) (m : mm_Mem) (r c N : Nat) (f : Nat → Int32) (k : Nat) (xs : List Int32) : Prop := BY G m r c N (app f k xs) (k + xs.length)
abbrev BT (G : mm_G) (m : mm_Mem) (r c N : Nat) (f : Nat → Int32) (k : Nat) (xs : List Int32) : mm_Mem := BS G m r c N (app f k xs) (k + xs.length)
theorem BL_BT {G : mm_G} {m : mm_Mem} {r c N u k : Nat} {f g : Nat → Int32} {xs : List Int32} (h : BY G m r c N g u) (hf : ∀ j, (f j).toInt8.toInt32 = f j) (hx : ∀ x ∈ xs, x.toInt8.toInt32 = x) (hk : k + xs.length ≤ N) : BL G (BT G m r c N f k xs) r c N f k xs := BY_BS h hk (app_tb hf hx)
def sh (w k : Int32) : Int32 := (w.toUInt32 >>> (k.toUInt32 &&& Int32.toUInt32 31)).toInt32
theorem m_snoc {α : Type} {xs : List α} {x : α} {P : α → Prop} (h : ∀ a ∈ xs, P a) (hx : P x) : ∀ a ∈ xs ++ [x], P a := fun a ha => by
  rcases List.mem_append.mp ha with h1 | h1
  · exact h a h1
  · rw [List.mem_singleton.mp h1]; exact hx
section SB2
variable {l : Launch} {G : mm_G} {m : mm_Mem} {r c N u k : Nat} {f : Nat → Int32} {xs : List Int32} {b : Nat}
theorem s_B_pushL (B : BL G m r c N f k xs) (hu : k + xs.length < N) (x : Int32) : mm_W l G k_B_push 0 (lv_args 0 [.ref r, .int x]) [] b m (mm_is (.inl none) (BT G m r c N f k (xs ++ [tb x]))) := by
  have h := s_B_push (l := l) (b := b) B hu x
  rw [app_snoc] at h
  have e : k + (xs ++ [tb x]).length = k + xs.length + 1 := by simp; omega
  unfold BT
  rw [e]
  exact h
/-- one push out of a loop: the rest of the walk over the memory with one byte more -/
theorem BT_BT {G : mm_G} {m : mm_Mem} {r c N k : Nat} {f : Nat → Int32} {xs ys : List Int32} (h : r ≠ c) : BT G (BT G m r c N f k xs) r c N f k ys = BT G m r c N f k ys := BS_BS h
theorem s_B_pushWord (B : BL G m r c N f k xs) (hf : ∀ j, (f j).toInt8.toInt32 = f j) (hx : ∀ x ∈ xs, x.toInt8.toInt32 = x) (hu : k + xs.length + 4 ≤ N) (w : Int32) : mm_W l G k_B_pushWord 0 (lv_args 0 [.ref r, .int w]) [] b m (mm_is (.inl none) (BT G m r c N f k (xs ++ [tb (sh w 24), tb (sh w 16), tb (sh w 8), tb (sh w 0)]))) := by
  have e0 := B
  obtain ⟨h1, h2, h3, h4, h5, h6, h7, h8⟩ := e0
  have hb0 : 0 + b ≤ b := by omega
  refine t_B_pushWord_0 (t_B_pushWord_3 (fun z => absurd z (by decide)) (fun _ => ?_))
  refine t_B_pushWord_7 hb0 h1 h3 (s_B_pushL B (by omega) _) ?_
  have x1 := m_snoc hx (tb_tb (sh w 24))
  have B1 : BL G (BT G m r c N f k (xs ++ [tb (sh w 24)])) r c N f k (xs ++ [tb (sh w 24)]) := BL_BT B hf x1 (by simp; omega)
  refine t_B_pushWord_3 (fun z => absurd z (by decide)) (fun _ => ?_)
  refine t_B_pushWord_7 hb0 B1.1 h3 (s_B_pushL B1 (by simp; omega) _) ?_
  have x2 := m_snoc x1 (tb_tb (sh w 16))
  have B2 : BL G (BT G m r c N f k (xs ++ [tb (sh w 24)] ++ [tb (sh w 16)])) r c N f k (xs ++ [tb (sh w 24)] ++ [tb (sh w 16)]) := BL_BT B hf x2 (by simp; omega)
  rw [BT_BT h5]
  refine t_B_pushWord_3 (fun z => absurd z (by decide)) (fun _ => ?_)
  refine t_B_pushWord_7 hb0 B2.1 h3 (s_B_pushL B2 (by simp; omega) _) ?_
  have x3 := m_snoc x2 (tb_tb (sh w 8))
  have B3 : BL G (BT G m r c N f k (xs ++ [tb (sh w 24)] ++ [tb (sh w 16)] ++ [tb (sh w 8)])) r c N f k (xs ++ [tb (sh w 24)] ++ [tb (sh w 16)] ++ [tb (sh w 8)]) := BL_BT B hf x3 (by simp; omega)
  rw [BT_BT h5]
  refine t_B_pushWord_3 (fun z => absurd z (by decide)) (fun _ => ?_)
  refine t_B_pushWord_7 hb0 B3.1 h3 (s_B_pushL B3 (by simp; omega) _) ?_
  rw [BT_BT h5]
  refine t_B_pushWord_3 (fun _ => ?_) (fun z => absurd (by decide) z)
  refine t_B_pushWord_20 ⟨rfl, ?_⟩
  rw [List.append_assoc, List.append_assoc, List.append_assoc]
  rfl
end SB2
