/-! the checker, an entry's facts, what reading finds of an entry -/
theorem BY_up {G : mm_G} {m : mm_Mem} {r c N u a : Nat} {f : Nat → Int32} {x : va_E} (B : BY G m r c N f u) (h1 : r ≠ a) (h2 : c ≠ a) : BY G (va_up m a x) r c N f u :=
  ⟨(up_n h1).trans B.1, (up_n h2).trans B.2.1, B.2.2⟩
/-- the checker at rc with its table at q -/
def CK (G : mm_G) (m : mm_Mem) (rc q : Nat) (T : Nat → Int32) : Prop := m rc = .inr (3, [.ref q]) ∧ m q = .inl (G.2 1, 256, .inl T) ∧ rc ≠ 0 ∧ q ≠ 0 ∧ ∀ j, j < 256 → T j = csn (nI j) 8
theorem CK_up {G : mm_G} {m : mm_Mem} {rc q a : Nat} {T : Nat → Int32} {x : va_E} (B : CK G m rc q T) (h1 : rc ≠ a) (h2 : q ≠ a) : CK G (va_up m a x) rc q T :=
  ⟨(up_n h1).trans B.1, (up_n h2).trans B.2.1, B.2.2⟩
def FL (f : Nat → Int32) (v : Nat) : List Value := [.int (nI (le f (v + 2) 2)), .int (nI (le f (v + 4) 2)), .long (lN (le f (v + 10) 4)), .long (lN (le f (v + 14) 4)), .long (lN (le f (v + 18) 4)), .int (nI (le f (v + 22) 2)), .int (nI (le f (v + 24) 2))]
section SC
variable {l : Launch} {G : mm_G} {m : mm_Mem} {r c N u : Nat} {f : Nat → Int32} {b : Nat}
theorem num_at (B : BY G m r c N f u) (v k w : Nat) (h : v + k + w ≤ u) (hw : w ≤ 4) : mm_W l G k_B_number 0 (lv_args 0 [.ref r, .int (nI v + nI k), .int (nI w)]) [] b m (mm_is (.inl (some (.long (lN (le f (v + k) w))))) m) := by
  rw [nI_add]
  exact s_B_numberI B hw h
theorem L_C_checkOf {rc q : Nat} {T : Nat → Int32} (C : CK G m rc q T) (B : BY G m r c N f u) {s n : Nat} (hs : s + n ≤ u) : ∀ k i, i + k = n → mm_W l G k_C_checkOf 6 [(0, .ref rc), (1, .ref r), (2, .int (nI s)), (3, .int (nI n)), (4, .int (crc f s i)), (5, .int (nI i))] [] b m (mm_is (.inl (some (.int (crc f s n ^^^ (-1))))) m) := by
  have q2 := B.2.2.2.2.2.1
  have q3 := B.2.2.2.2.2.2.1
  intro k
  induction k with
  | zero =>
    intro i hi
    have e : i = n := by omega
    subst e
    refine t_C_checkOf_6 (fun _ => ?_) (fun z => absurd (nI_le (Nat.le_refl _) (by omega)) z)
    exact t_C_checkOf_46 ⟨rfl, rfl⟩
  | succ k ih =>
    intro i hi
    refine t_C_checkOf_6 (fun z => absurd z (nI_ge (by omega) (by omega))) (fun _ => ?_)
    have hg := s_B_get (l := l) (b := 0) B (nI (s + i))
    rw [bget_in (by omega) (by omega), ← nI_add] at hg
    have hu := ub_lt (crc f s i ^^^ nI (ub (f (s + i))))
    refine t_C_checkOf_12 C.1 C.2.2.1 rfl (Nat.le_of_eq (Nat.zero_add b)) B.1 B.2.2.1 hg C.2.1 C.2.2.2.1 (by rw [ub_and]; exact vp_in_nI hu (by omega)) ?_
    rw [ub_and, nI_clamp (by omega), C.2.2.2.2 _ hu, nI_1]
    have e : (crc f s i).toUInt32 >>> ((8 : Int32).toUInt32 &&& Int32.toUInt32 31) = (crc f s i).toUInt32 >>> ((8 : Int32).toUInt32 &&& Int32.toUInt32 31) := rfl
    have e2 : ((crc f s i).toUInt32 >>> ((8 : Int32).toUInt32 &&& Int32.toUInt32 31)).toInt32 ^^^ csn (nI (ub (crc f s i ^^^ nI (ub (f (s + i)))))) 8 = crc f s (i + 1) := (csn_tab (crc f s i) (ub (f (s + i))) (ub_lt _)).symm
    rw [e2]
    exact ih (i + 1) (by omega)
theorem s_C_checkOf {rc q : Nat} {T : Nat → Int32} (C : CK G m rc q T) (B : BY G m r c N f u) {s n : Nat} (hs : s + n ≤ u) : mm_W l G k_C_checkOf 0 (lv_args 0 [.ref rc, .ref r, .int (nI s), .int (nI n)]) [] b m (mm_is (.inl (some (.int (crc f s n ^^^ (-1))))) m) :=
  t_C_checkOf_0 (L_C_checkOf C B hs n 0 (by omega))
theorem s_E_describe {a : Nat} {v0 v1 v2 v3 v4 v5 : Value} (h : m a = .inr (4, [v0, v1, v2, v3, v4, v5])) (h0 : a ≠ 0) (x y z : Int32) : mm_W l G k_E_describe 0 (lv_args 0 [.ref a, .int x, .int y, .int z]) [] b m (mm_is (.inl none) (va_up m a (.inr (4, [v0, .int x, v2, v3, .int y, .int z])))) := by
  refine t_E_describe_0 h h0 (Nat.le_of_ble_eq_true rfl) up_s (Nat.le_of_ble_eq_true rfl) up_s (Nat.le_of_ble_eq_true rfl) ⟨rfl, ?_⟩
  rw [up_uu, up_uu]
  rfl
theorem s_F_hasTail {a : Nat} {fl : Nat} {fs : List Value} (h : m a = .inr (5, .int (nI fl) :: fs)) (h0 : a ≠ 0) : mm_W l G k_F_hasTail 0 (lv_args 0 [.ref a]) [] b m (mm_is (.inl (some (.int (b1 (¬ (nI fl &&& 8) = 0))))) m) := by
  refine t_F_hasTail_0 h h0 rfl (fun z => ?_) (fun z => ?_)
  · refine t_F_hasTail_14 (t_F_hasTail_15 ⟨?_, rfl⟩ rfl)
    rw [b1_f (fun q => q z)]
  · refine t_F_hasTail_10 (t_F_hasTail_15 ⟨?_, rfl⟩ rfl)
    rw [b1_t z]
theorem s_F_takeFrom {a : Nat} {v0 v1 v2 v3 v4 v5 v6 : Value} (h : m a = .inr (5, [v0, v1, v2, v3, v4, v5, v6])) (h0 : a ≠ 0) (B : BY G m r c N f u) (hr : r ≠ a) (hc : c ≠ a) {v : Nat} (hv : v + 26 ≤ u) : mm_W l G k_F_takeFrom 0 (lv_args 0 [.ref a, .ref r, .int (nI v)]) [] b m (mm_is (.inl none) (va_up m a (.inr (5, FL f v)))) := by
  have hb : 0 + b ≤ b := by omega
  have hr0 := B.2.2.1
  refine t_F_takeFrom_0 hb B.1 hr0 (num_at B v 2 2 (by omega) (by decide)) h h0 (Nat.le_of_ble_eq_true rfl) hb ((up_n hr).trans B.1) (num_at (BY_up B hr hc) v 4 2 (by omega) (by decide)) up_s (Nat.le_of_ble_eq_true rfl) hb ((up_n hr).trans ((up_n hr).trans B.1)) (num_at (BY_up (BY_up B hr hc) hr hc) v 10 4 (by omega) (by decide)) up_s (Nat.le_of_ble_eq_true rfl) hb ((up_n hr).trans ((up_n hr).trans ((up_n hr).trans B.1))) (num_at (BY_up (BY_up (BY_up B hr hc) hr hc) hr hc) v 14 4 (by omega) (by decide)) up_s (Nat.le_of_ble_eq_true rfl) hb ((up_n hr).trans ((up_n hr).trans ((up_n hr).trans ((up_n hr).trans B.1)))) (num_at (BY_up (BY_up (BY_up (BY_up B hr hc) hr hc) hr hc) hr hc) v 18 4 (by omega) (by decide)) up_s (Nat.le_of_ble_eq_true rfl) hb ((up_n hr).trans ((up_n hr).trans ((up_n hr).trans ((up_n hr).trans ((up_n hr).trans B.1))))) (num_at (BY_up (BY_up (BY_up (BY_up (BY_up B hr hc) hr hc) hr hc) hr hc) hr hc) v 22 2 (by omega) (by decide)) up_s (Nat.le_of_ble_eq_true rfl) hb ((up_n hr).trans ((up_n hr).trans ((up_n hr).trans ((up_n hr).trans ((up_n hr).trans ((up_n hr).trans B.1)))))) (num_at (BY_up (BY_up (BY_up (BY_up (BY_up (BY_up B hr hc) hr hc) hr hc) hr hc) hr hc) hr hc) v 24 2 (by omega) (by decide)) up_s (Nat.le_of_ble_eq_true rfl) ⟨rfl, ?_⟩
  rw [up_uu, up_uu, up_uu, up_uu, up_uu, up_uu, lN_i, lN_i, lN_i, lN_i]
  rfl
/-- what Finding.takeFrom leaves: the facts at a2, the finding's own fields at a1 -/
def GL (a2 : Nat) (f : Nat → Int32) (v : Nat) (fb en : Value) : List Value := [.ref a2, .int (nI (v + 46)), .int (nI (v + 46 + le f (v + 28) 2 + le f (v + 30) 2 + le f (v + 32) 2)), .long (lN (le f (v + 42) 4)), fb, en]
theorem s_G_takeFrom {a1 a2 : Nat} {v0 v1 v2 v3 v4 v5 v6 w1 w2 w3 fb en : Value} (h : m a1 = .inr (6, [.ref a2, w1, w2, w3, fb, en])) (h0 : a1 ≠ 0) (h2 : m a2 = .inr (5, [v0, v1, v2, v3, v4, v5, v6])) (h20 : a2 ≠ 0) (h12 : a1 ≠ a2) (B : BY G m r c N f u) (hr : r ≠ a1) (hc : c ≠ a1) (hr2 : r ≠ a2) (hc2 : c ≠ a2) {v : Nat} (hv : v + 46 ≤ u) : mm_W l G k_G_takeFrom 0 (lv_args 0 [.ref a1, .ref r, .int (nI v)]) [] b m (mm_is (.inl none) (va_up (va_up m a2 (.inr (5, FL f (v + 6)))) a1 (.inr (6, GL a2 f v fb en)))) := by
  have hb : 0 + b ≤ b := by omega
  have hr0 := B.2.2.1
  have hM := s_F_takeFrom (l := l) (b := 0) h2 h20 B hr2 hc2 (v := v + 6) (by omega)
  rw [← nI_add] at hM
  have B2 := BY_up (x := .inr (5, FL f (v + 6))) B hr2 hc2
  refine t_G_takeFrom_0 h h0 rfl hb h2 h20 hM hb B2.1 hr0 (num_at B2 v 32 2 (by omega) (by decide)) hb B2.1 (num_at B2 v 42 4 (by omega) (by decide)) ((up_n h12).trans h) (Nat.le_of_ble_eq_true rfl) up_s (Nat.le_of_ble_eq_true rfl) up_s rfl rfl (((up_n (fun e => h12 e.symm)).trans (up_n (fun e => h12 e.symm))).trans up_s) h20 rfl rfl (Nat.le_of_ble_eq_true rfl) rfl ⟨rfl, ?_⟩
  rw [up_uu, up_uu, lN_i]
  have e : nI v + 46 + nI (le f (v + 6 + 22) 2) + nI (le f (v + 6 + 24) 2) + nI (le f (v + 32) 2) = nI (v + 46 + le f (v + 28) 2 + le f (v + 30) 2 + le f (v + 32) 2) := by
    rw [show (46 : Int32) = nI 46 from rfl, nI_add, nI_add, nI_add, nI_add]
  have e2 : nI v + 46 = nI (v + 46) := nI_add v 46
  show va_up (va_up m a2 (.inr (5, FL f (v + 6)))) a1 (.inr (6, [.ref a2, .int (nI v + 46), .int (nI v + 46 + nI (le f (v + 6 + 22) 2) + nI (le f (v + 6 + 24) 2) + nI (le f (v + 32) 2)), .long (lN (le f (v + 42) 4)), fb, en])) = _
  rw [e, e2]
  rfl
end SC
