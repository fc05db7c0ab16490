/-! rows of bytes: what the methods of PartBox$Bytes do -/
/-- a row of bytes: its object at r, its cells at c, N places, f their contents, u of them used -/
def BY (G : mm_G) (m : mm_Mem) (r c N : Nat) (f : Nat → Int32) (u : Nat) : Prop := m r = .inr (2, [.ref c, .int (nI u)]) ∧ m c = .inl (G.2 0, N, .inl f) ∧ r ≠ 0 ∧ c ≠ 0 ∧ r ≠ c ∧ u ≤ N ∧ N ≤ 65536 ∧ ∀ j, (f j).toInt8.toInt32 = f j
/-- the memory with this row of bytes changed -/
def BS (G : mm_G) (m : mm_Mem) (r c N : Nat) (f : Nat → Int32) (u : Nat) : mm_Mem := va_up (va_up m c (.inl (G.2 0, N, .inl f))) r (.inr (2, [.ref c, .int (nI u)]))
theorem up_s {m : mm_Mem} {r : Nat} {x : va_E} : va_up m r x r = x := if_pos rfl
theorem up_n {m : mm_Mem} {r q : Nat} {x : va_E} (h : q ≠ r) : va_up m r x q = m q := if_neg h
theorem up_id {m : mm_Mem} {r : Nat} {x : va_E} (h : m r = x) : va_up m r x = m := by
  funext q
  by_cases hq : q = r
  · rw [hq, up_s, h]
  · rw [up_n hq]
theorem up_uu {m : mm_Mem} {r : Nat} {x y : va_E} : va_up (va_up m r x) r y = va_up m r y := by
  funext q
  by_cases hq : q = r
  · rw [hq, up_s, up_s]
  · rw [up_n hq, up_n hq, up_n hq]
theorem up_cm {m : mm_Mem} {r s : Nat} {x y : va_E} (h : r ≠ s) : va_up (va_up m r x) s y = va_up (va_up m s y) r x := by
  funext q
  by_cases hr : q = r
  · rw [hr, up_n h, up_s, up_s]
  · by_cases hs : q = s
    · rw [hs, up_s, up_n (fun e => h e.symm), up_s]
    · rw [up_n hs, up_n hr, up_n hr, up_n hs]
theorem BS_id {G : mm_G} {m : mm_Mem} {r c N u : Nat} {f : Nat → Int32} (h : BY G m r c N f u) : BS G m r c N f u = m := by
  unfold BS
  rw [up_id h.2.1, up_id h.1]
theorem BS_BS {G : mm_G} {m : mm_Mem} {r c N u v : Nat} {f g : Nat → Int32} (h : r ≠ c) : BS G (BS G m r c N f u) r c N g v = BS G m r c N g v := by
  unfold BS
  rw [up_cm h, up_uu, up_uu]
theorem BS_o {G : mm_G} {m : mm_Mem} {r c N u q : Nat} {f : Nat → Int32} (h1 : q ≠ r) (h2 : q ≠ c) : BS G m r c N f u q = m q := by
  unfold BS
  rw [up_n h1, up_n h2]
theorem BS_n {G : mm_G} {m : mm_Mem} {r c N u : Nat} {f : Nat → Int32} (h1 : r ≠ 0) (h2 : c ≠ 0) : mm_n (BS G m r c N f u) = mm_n m := by
  unfold BS
  rw [mm_n_up h1, mm_n_up h2]
theorem BY_BS {G : mm_G} {m : mm_Mem} {r c N u v : Nat} {f g : Nat → Int32} (h : BY G m r c N f u) (hv : v ≤ N) (hg : ∀ j, (g j).toInt8.toInt32 = g j) : BY G (BS G m r c N g v) r c N g v := by
  obtain ⟨h1, h2, h3, h4, h5, h6, h7, h8⟩ := h
  refine ⟨up_s, ?_, h3, h4, h5, hv, h7, hg⟩
  unfold BS
  rw [up_n (fun e => h5 e.symm), up_s]
/-- another row of bytes isn't touched -/
theorem BY_o {G : mm_G} {m : mm_Mem} {r c N u r2 c2 N2 v : Nat} {f g : Nat → Int32} (h : BY G m r c N f u) (a : r ≠ r2) (a2 : r ≠ c2) (a3 : c ≠ r2) (a4 : c ≠ c2) : BY G (BS G m r2 c2 N2 g v) r c N f u := by
  obtain ⟨h1, h2, h3⟩ := h
  exact ⟨(BS_o a a2).trans h1, (BS_o a3 a4).trans h2, h3⟩
theorem in_lt {x : Int32} {u N : Nat} (h0 : ¬ x < 0) (h1 : x < nI u) (hu : u ≤ N) (hN : N ≤ 65536) : vp_in x N := by
  rw [vp_in_iff]
  have a := nI_toInt (n := u) (by omega)
  rw [Int32.lt_iff_toInt_lt] at h0 h1
  rw [a] at h1
  rw [Int32.toInt_zero] at h0
  omega
theorem i_nlt {x y : Int32} : ¬ x < y ↔ y ≤ x := Int32.not_lt
theorem i_nle {x y : Int32} : ¬ x ≤ y ↔ y < x := Int32.not_le
def bget (f : Nat → Int32) (u : Nat) (i : Int32) : Int32 := if i < 0 ∨ nI u ≤ i then -1 else f i.toNatClampNeg &&& 255
section SB
variable {l : Launch} {G : mm_G} {m : mm_Mem} {r c N u : Nat} {f : Nat → Int32} {b : Nat}
theorem s_B_size (B : BY G m r c N f u) : mm_W l G k_B_size 0 (lv_args 0 [.ref r]) [] b m (mm_is (.inl (some (.int (nI u)))) m) := t_B_size_0 B.1 B.2.2.1 rfl ⟨rfl, rfl⟩
theorem s_B_free (B : BY G m r c N f u) : mm_W l G k_B_free 0 (lv_args 0 [.ref r]) [] b m (mm_is (.inl (some (.int (nI (N - u))))) m) := t_B_free_0 B.1 B.2.2.1 rfl B.2.1 B.2.2.2.1 rfl ⟨by rw [pk_sub B.2.2.2.2.2.1], rfl⟩
theorem s_B_get (B : BY G m r c N f u) (i : Int32) : mm_W l G k_B_get 0 (lv_args 0 [.ref r, .int i]) [] b m (mm_is (.inl (some (.int (bget f u i)))) m) := by
  obtain ⟨h1, h2, h3, h4, h5, h6, h7, h8⟩ := B
  refine t_B_get_0 (fun c1 => ?_) (fun c1 => ?_)
  · refine t_B_get_12 (t_B_get_26 ⟨?_, rfl⟩)
    simp [bget, c1]
  · refine t_B_get_4 h1 h3 rfl (fun c2 => ?_) (fun c2 => ?_)
    · refine t_B_get_16 h1 h3 rfl h2 h4 (in_lt c1 c2 h6 h7) (t_B_get_26 ⟨?_, rfl⟩)
      unfold bget
      rw [if_neg]
      rintro (a | a)
      · exact c1 a
      · exact i_nle.mpr c2 a
    · refine t_B_get_12 (t_B_get_26 ⟨?_, rfl⟩)
      unfold bget
      rw [if_pos (Or.inr (i_nlt.mp c2))]
/-- keep(n) -/
theorem s_B_keep (B : BY G m r c N f u) {n : Nat} (hn : n ≤ u) : mm_W l G k_B_keep 0 (lv_args 0 [.ref r, .int (nI n)]) [] b m (mm_is (.inl none) (BS G m r c N f n)) := by
  obtain ⟨h1, h2, h3, h4, h5, h6, h7, h8⟩ := B
  refine t_B_keep_0 (fun c1 => absurd c1 (nI_pos (by omega))) (fun c1 => ?_)
  refine t_B_keep_4 h1 h3 rfl (fun c2 => absurd c2 (nI_nlt hn (by omega))) (fun c2 => ?_)
  refine t_B_keep_12 h1 h3 (Nat.le_of_ble_eq_true rfl) (t_B_keep_17 ⟨rfl, ?_⟩)
  unfold BS
  rw [up_id h2]
  rfl
def tb (x : Int32) : Int32 := x.toInt8.toInt32
theorem tb_tb (x : Int32) : (tb x).toInt8.toInt32 = tb x := by
  unfold tb
  simp
theorem upd_tb {f : Nat → Int32} (h : ∀ j, (f j).toInt8.toInt32 = f j) (k : Nat) (x : Int32) : ∀ j, ((upd f k (tb x)) j).toInt8.toInt32 = (upd f k (tb x)) j := by
  intro j
  unfold upd
  split
  · exact tb_tb x
  · exact h j
/-- push(x), where there is room -/
theorem s_B_push (B : BY G m r c N f u) (hu : u < N) (x : Int32) : mm_W l G k_B_push 0 (lv_args 0 [.ref r, .int x]) [] b m (mm_is (.inl none) (BS G m r c N (upd f u (tb x)) (u + 1))) := by
  obtain ⟨h1, h2, h3, h4, h5, h6, h7, h8⟩ := B
  refine t_B_push_0 h1 h3 rfl rfl h2 h4 (fun c1 => absurd c1 (nI_ge hu (by omega))) (fun c1 => ?_)
  refine t_B_push_12 h1 h3 rfl rfl h2 h4 (vp_in_nI hu (by omega)) ((up_n h5).trans h1) rfl (Nat.le_of_ble_eq_true rfl) rfl (t_B_push_33 ⟨rfl, ?_⟩)
  unfold BS
  rw [nI_clamp (by omega), vp_nar_byte]
  show va_up (va_up m c (.inl (G.2 0, N, .inl (upd f u (x.toInt8.toInt32.toInt8.toInt32))))) r (.inr (2, [.ref c, .int (nI u + 1)])) = _
  rw [nI_1, show x.toInt8.toInt32.toInt8.toInt32 = tb x from tb_tb x]
end SB
