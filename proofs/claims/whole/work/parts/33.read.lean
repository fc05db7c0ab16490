/-! reading: what stands where in a row, and what is the first fault; both sides are held against this -/
noncomputable def ifc {α : Type} (p : Prop) (a b : α) : α := @ite α p (Classical.propDecidable p) a b
theorem ifc_t {α : Type} {p : Prop} {a b : α} (h : p) : ifc p a b = a := if_pos h
theorem ifc_f {α : Type} {p : Prop} {a b : α} (h : ¬ p) : ifc p a b = b := if_neg h
noncomputable def bp (p : Prop) : Int32 := ifc p 1 0
theorem bp_t {p : Prop} (h : p) : bp p = 1 := ifc_t h
theorem bp_f {p : Prop} (h : ¬ p) : bp p = 0 := ifc_f h
theorem bp_0 {p : Prop} : bp p = 0 ↔ ¬ p := by
  by_cases h : p
  · rw [bp_t h]; exact ⟨fun z => absurd z (by decide), fun z => absurd h z⟩
  · rw [bp_f h]; exact ⟨fun _ => h, fun _ => rfl⟩
theorem bp_n0 {p : Prop} (h : ¬ bp p = 0) : p := by
  by_cases q : p
  · exact q
  · exact absurd (bp_f q) h
theorem bp_nar (p : Prop) : narrow .boolean (.int (bp p)) = .int (bp p) := by
  by_cases h : p
  · rw [bp_t h]; rfl
  · rw [bp_f h]; rfl
theorem bp_b1 {p : Prop} [Decidable p] : b1 p = bp p := by
  by_cases h : p
  · rw [bp_t h, b1_t h]
  · rw [bp_f h, b1_f h]
theorem bp_iff {p q : Prop} (h : p ↔ q) : bp p = bp q := by rw [propext h]
theorem lN_int {n : Nat} (h : n < 2 ^ 62) : (lN n).toInt = (n : Int) := lg_ofNat_toInt (by omega)
theorem lN_ltB {a b : Nat} (ha : a < 2 ^ 62) (hb : b < 2 ^ 62) : lN a < lN b ↔ a < b := by rw [Int64.lt_iff_toInt_lt, lN_int ha, lN_int hb]; omega
theorem lN_leB {a b : Nat} (ha : a < 2 ^ 62) (hb : b < 2 ^ 62) : lN a ≤ lN b ↔ a ≤ b := by rw [Int64.le_iff_toInt_le, lN_int ha, lN_int hb]; omega
theorem lN_eqB {a b : Nat} (ha : a < 2 ^ 62) (hb : b < 2 ^ 62) : lN a = lN b ↔ a = b := by rw [← Int64.toInt_inj, lN_int ha, lN_int hb]; omega
theorem le2 (f : Nat → Int32) (a : Nat) : le f a 2 < 65536 := le_lt f 2 a
theorem le4 (f : Nat → Int32) (a : Nat) : le f a 4 < 4294967296 := le_lt f 4 a
theorem le_ub (f : Nat → Int32) (a : Nat) : le f a 4 = ub (f a) + 256 * (ub (f (a + 1)) + 256 * (ub (f (a + 2)) + 256 * ub (f (a + 3)))) := by simp [le]
theorem le_ub2 (f : Nat → Int32) (a : Nat) : le f a 2 = ub (f a) + 256 * ub (f (a + 1)) := by simp [le]
/-- a mark in the row is its number -/
theorem mk_le {f : Nat → Int32} {u a : Nat} (h : a + 4 ≤ u) (hu : u ≤ 65536) {x : Int32} {c0 c1 c2 c3 : Nat} (h0 : c0 < 256) (h1 : c1 < 256) (h2 : c2 < 256) (h3 : c3 < 256) (e0 : sh x (8 * nI 0) &&& 255 = nI c0) (e1 : sh x (8 * nI 1) &&& 255 = nI c1) (e2 : sh x (8 * nI 2) &&& 255 = nI c2) (e3 : sh x (8 * nI 3) &&& 255 = nI c3) : mk f u a x 4 ↔ le f a 4 = c0 + 256 * (c1 + 256 * (c2 + 256 * c3)) := by
  have hg : ∀ j, j < 4 → bget f u (nI (a + j)) = nI (ub (f (a + j))) := fun j hj => bget_in (by omega) hu
  have b0 := ub_lt (f a)
  have b1 := ub_lt (f (a + 1))
  have b2 := ub_lt (f (a + 2))
  have b3 := ub_lt (f (a + 3))
  rw [le_ub]
  constructor
  · intro q
    have q0 := q 0 (by omega)
    have q1 := q 1 (by omega)
    have q2 := q 2 (by omega)
    have q3 := q 3 (by omega)
    rw [hg 0 (by omega), e0, Nat.add_zero, nI_eq (by omega) (by omega)] at q0
    rw [hg 1 (by omega), e1, nI_eq (by omega) (by omega)] at q1
    rw [hg 2 (by omega), e2, nI_eq (by omega) (by omega)] at q2
    rw [hg 3 (by omega), e3, nI_eq (by omega) (by omega)] at q3
    rw [q0, q1, q2, q3]
  · intro q
    have q0 : ub (f a) = c0 := by omega
    have q1 : ub (f (a + 1)) = c1 := by omega
    have q2 : ub (f (a + 2)) = c2 := by omega
    have q3 : ub (f (a + 3)) = c3 := by omega
    intro j hj
    rcases (by omega : j = 0 ∨ j = 1 ∨ j = 2 ∨ j = 3) with rfl | rfl | rfl | rfl
    · rw [hg 0 (by omega), e0, Nat.add_zero, q0]
    · rw [hg 1 (by omega), e1, q1]
    · rw [hg 2 (by omega), e2, q2]
    · rw [hg 3 (by omega), e3, q3]
theorem mk_out {f : Nat → Int32} {u a : Nat} (h : u < a + 4) (ha : a < 2 ^ 30) {x : Int32} (hx : ¬ sh x (8 * nI 3) &&& 255 = -1) : ¬ mk f u a x 4 := by
  intro q
  have := q 3 (by omega)
  rw [bget_out (by omega) (by omega)] at this
  exact hx this.symm
theorem mk_end {f : Nat → Int32} {u a : Nat} (h : a + 4 ≤ u) (hu : u ≤ 65536) : mk f u a 101010256 4 ↔ le f a 4 = 101010256 := mk_le h hu (c0 := 80) (c1 := 75) (c2 := 5) (c3 := 6) (by omega) (by omega) (by omega) (by omega) (by decide) (by decide) (by decide) (by decide)
theorem mk_dir {f : Nat → Int32} {u a : Nat} (h : a + 4 ≤ u) (hu : u ≤ 65536) : mk f u a 33639248 4 ↔ le f a 4 = 33639248 := mk_le h hu (c0 := 80) (c1 := 75) (c2 := 1) (c3 := 2) (by omega) (by omega) (by omega) (by omega) (by decide) (by decide) (by decide) (by decide)
theorem mk_head {f : Nat → Int32} {u a : Nat} (h : a + 4 ≤ u) (hu : u ≤ 65536) : mk f u a 67324752 4 ↔ le f a 4 = 67324752 := mk_le h hu (c0 := 80) (c1 := 75) (c2 := 3) (c3 := 4) (by omega) (by omega) (by omega) (by omega) (by decide) (by decide) (by decide) (by decide)
theorem mk_tail {f : Nat → Int32} {u a : Nat} (h : a + 4 ≤ u) (hu : u ≤ 65536) : mk f u a 134695760 4 ↔ le f a 4 = 134695760 := mk_le h hu (c0 := 80) (c1 := 75) (c2 := 7) (c3 := 8) (by omega) (by omega) (by omega) (by omega) (by decide) (by decide) (by decide) (by decide)
abbrev Fl : Type := Option (Int32 × Int32 × Int32)
/-- the end: the last place where one stands -/
noncomputable def lend (f : Nat → Int32) (u : Nat) : Nat → Option Nat
  | 0 => none
  | a + 1 => ifc (le f a 4 = 101010256 ∧ a + 22 + le f (a + 20) 2 = u) (some a) (lend f u a)
theorem lend_lt {f : Nat → Int32} {u p : Nat} : ∀ {a}, lend f u a = some p → p < a := by
  intro a
  induction a with
  | zero => intro h; cases h
  | succ a ih =>
    intro h
    by_cases q : le f a 4 = 101010256 ∧ a + 22 + le f (a + 20) 2 = u
    · rw [lend, ifc_t q] at h; cases h; omega
    · rw [lend, ifc_f q] at h; have := ih h; omega
def ebad (f : Nat → Int32) (p : Nat) : Prop := ¬ le f (p + 4) 4 = 0 ∨ ¬ le f (p + 8) 2 = le f (p + 10) 2 ∨ 64 < le f (p + 10) 2 ∨ ¬ le f (p + 16) 4 + le f (p + 12) 4 = p
/-- places of the heads in the directory, and what they say -/
def dp (f : Nat → Int32) (d : Nat) : Nat → Nat
  | 0 => d
  | i + 1 => dp f d i + 46 + le f (dp f d i + 28) 2 + le f (dp f d i + 30) 2 + le f (dp f d i + 32) 2
def dfl (f : Nat → Int32) (d i : Nat) : Nat := le f (dp f d i + 8) 2
def dme (f : Nat → Int32) (d i : Nat) : Nat := le f (dp f d i + 10) 2
def dck (f : Nat → Int32) (d i : Nat) : Nat := le f (dp f d i + 16) 4
def dbc (f : Nat → Int32) (d i : Nat) : Nat := le f (dp f d i + 20) 4
def dsz (f : Nat → Int32) (d i : Nat) : Nat := le f (dp f d i + 24) 4
def dnl (f : Nat → Int32) (d i : Nat) : Nat := le f (dp f d i + 28) 2
def dhd (f : Nat → Int32) (d i : Nat) : Nat := le f (dp f d i + 42) 4
def dnm (f : Nat → Int32) (d i : Nat) : Nat → Nat := fun j => ub (f (dp f d i + 46 + j))
def df1 (f : Nat → Int32) (p d i : Nat) : Prop := p < dp f d i + 46 ∨ ¬ le f (dp f d i) 4 = 33639248 ∨ p < dp f d (i + 1)
def df2 (f : Nat → Int32) (d i : Nat) : Prop := ¬ (nI (dfl f d i) &&& (-2057)) = 0 ∨ (¬ dme f d i = 0 ∧ ¬ dme f d i = 8) ∨ ¬ le f (dp f d i + 34) 2 = 0
def tw (f : Nat → Int32) (d i : Nat) : Prop := ∃ j, j < i ∧ alk (dnl f d j) (dnm f d j) (dnl f d i) (dnm f d i) = true
def df3 (f : Nat → Int32) (d i : Nat) : Prop := isNm (dnm f d i) (dnl f d i) = false ∨ tw f d i
def df4 (f : Nat → Int32) (d i : Nat) : Prop := dme f d i = 0 ∧ ¬ dbc f d i = dsz f d i
def df5 (f : Nat → Int32) (d lim i : Nat) : Prop := lim < sum (dbc f d) (i + 1) ∨ lim < sum (dsz f d) (i + 1)
noncomputable def dflt (f : Nat → Int32) (p d lim i : Nat) : Nat := ifc (df1 f p d i) 3 (ifc (df2 f d i) 4 (ifc (df3 f d i) 5 (ifc (df4 f d i) 6 (ifc (df5 f d lim i) 9 0))))
theorem dflt_0 {f : Nat → Int32} {p d lim i : Nat} (h : dflt f p d lim i = 0) : ¬ df1 f p d i ∧ ¬ df2 f d i ∧ ¬ df3 f d i ∧ ¬ df4 f d i ∧ ¬ df5 f d lim i := by
  unfold dflt at h
  by_cases h1 : df1 f p d i
  · rw [ifc_t h1] at h; cases h
  · rw [ifc_f h1] at h
    by_cases h2 : df2 f d i
    · rw [ifc_t h2] at h; cases h
    · rw [ifc_f h2] at h
      by_cases h3 : df3 f d i
      · rw [ifc_t h3] at h; cases h
      · rw [ifc_f h3] at h
        by_cases h4 : df4 f d i
        · rw [ifc_t h4] at h; cases h
        · rw [ifc_f h4] at h
          by_cases h5 : df5 f d lim i
          · rw [ifc_t h5] at h; cases h
          · exact ⟨h1, h2, h3, h4, h5⟩
theorem dflt_lt (f : Nat → Int32) (p d lim i : Nat) : dflt f p d lim i < 10 := by
  unfold dflt
  by_cases h1 : df1 f p d i
  · rw [ifc_t h1]; omega
  · rw [ifc_f h1]
    by_cases h2 : df2 f d i
    · rw [ifc_t h2]; omega
    · rw [ifc_f h2]
      by_cases h3 : df3 f d i
      · rw [ifc_t h3]; omega
      · rw [ifc_f h3]
        by_cases h4 : df4 f d i
        · rw [ifc_t h4]; omega
        · rw [ifc_f h4]
          by_cases h5 : df5 f d lim i
          · rw [ifc_t h5]; omega
          · rw [ifc_f h5]; omega
noncomputable def dsr (f : Nat → Int32) (p d lim : Nat) : Nat → Nat → Fl
  | 0, i => ifc (dp f d i = p) none (some (3, nI (dp f d i), -1))
  | w + 1, i => ifc (dflt f p d lim i = 0) (dsr f p d lim w (i + 1)) (some (nI (dflt f p d lim i), nI (dp f d i), nI i))
/-- an entry's own head and bytes -/
def tl (f : Nat → Int32) (d i : Nat) : Prop := ¬ (nI (dfl f d i) &&& 8) = 0
def agr (f : Nat → Int32) (d i x y : Nat) : Prop := x = y ∨ (tl f d i ∧ x = 0)
def dat (f : Nat → Int32) (d i : Nat) : Nat := dhd f d i + 30 + le f (dhd f d i + 26) 2 + le f (dhd f d i + 28) 2
def nsm (f : Nat → Int32) (a b n : Nat) : Prop := ∀ j, j < n → ub (f (a + j)) = ub (f (b + j))
def hok1 (f : Nat → Int32) (d i : Nat) : Prop := dhd f d i + 30 ≤ d ∧ le f (dhd f d i) 4 = 67324752 ∧ dat f d i ≤ d
def hok2 (f : Nat → Int32) (d i : Nat) : Prop := le f (dhd f d i + 6) 2 = dfl f d i ∧ le f (dhd f d i + 8) 2 = dme f d i ∧ le f (dhd f d i + 26) 2 = dnl f d i ∧ nsm f (dhd f d i + 30) (dp f d i + 46) (dnl f d i) ∧ agr f d i (le f (dhd f d i + 14) 4) (dck f d i) ∧ agr f d i (le f (dhd f d i + 18) 4) (dbc f d i) ∧ agr f d i (le f (dhd f d i + 22) 4) (dsz f d i)
def hok (f : Nat → Int32) (d i : Nat) : Prop := hok1 f d i ∧ hok2 f d i
def bend (f : Nat → Int32) (d i : Nat) : Nat := dat f d i + dbc f d i
noncomputable def tat (f : Nat → Int32) (u d i : Nat) : Nat := ifc (bend f d i + 4 ≤ u ∧ le f (bend f d i) 4 = 134695760) (bend f d i + 4) (bend f d i)
def bok1 (f : Nat → Int32) (u d i : Nat) : Prop := tat f u d i + 12 ≤ d ∧ le f (tat f u d i) 4 = dck f d i ∧ le f (tat f u d i + 4) 4 = dbc f d i ∧ le f (tat f u d i + 8) 4 = dsz f d i
noncomputable def bok (f : Nat → Int32) (u d i : Nat) : Prop := ifc (tl f d i) (bok1 f u d i) (bend f d i ≤ d)
noncomputable def tend (f : Nat → Int32) (u d i : Nat) : Nat := ifc (tl f d i) (tat f u d i + 12) (bend f d i)
theorem bok_le {f : Nat → Int32} {u d i : Nat} (h : bok f u d i) : bend f d i ≤ d ∧ tend f u d i ≤ d := by
  unfold bok at h
  unfold tend
  by_cases q : tl f d i
  · rw [ifc_t q] at h
    rw [ifc_t q]
    have h1 := h.1
    refine ⟨?_, h1⟩
    unfold tat at h1
    by_cases q2 : bend f d i + 4 ≤ u ∧ le f (bend f d i) 4 = 134695760
    · rw [ifc_t q2] at h1; omega
    · rw [ifc_f q2] at h1; omega
  · rw [ifc_f q] at h
    rw [ifc_f q]
    exact ⟨h, h⟩
def mn (a : Nat) : Nat := if 65536 < a then 65536 else a
noncomputable def esr (f : Nat → Int32) (u d : Nat) : Nat → Nat → Fl
  | 0, _ => none
  | w + 1, i => ifc (hok f d i) (ifc (bok f u d i) (esr f u d w (i + 1)) (some (8, nI (mn (dhd f d i)), nI i))) (some (7, nI (mn (dhd f d i)), nI i))
/-- the places of the entries in the order q -/
noncomputable def gsr (f : Nat → Int32) (u d : Nat) (q : Nat → Nat) : Nat → Nat → Nat → Fl
  | 0, _, t => ifc (t = d) none (some (10, nI t, -1))
  | w + 1, i, t => ifc (dhd f d (q i) = t) (gsr f u d q w (i + 1) (tend f u d (q i))) (some (10, nI t, nI (q i)))
/-- a before b: by their heads, and of equal ones by their numbers -/
def lx (h : Nat → Nat) (a b : Nat) : Prop := h a < h b ∨ (h a = h b ∧ a < b)
def sp (h : Nat → Nat) (n : Nat) (q : Nat → Nat) : Prop := (∀ i, i < n → q i < n) ∧ (∀ i j, i < j → j < n → lx h (q i) (q j)) ∧ ∀ j, j < n → ∃ i, i < n ∧ q i = j
def cok (f : Nat → Int32) (d i : Nat) : Prop := dme f d i = 0 → crc f (dat f d i) (dbc f d i) ^^^ (-1) = nI (dck f d i)
noncomputable def csr (f : Nat → Int32) (d : Nat) : Nat → Nat → Fl
  | 0, _ => none
  | w + 1, i => ifc (cok f d i) (csr f d w (i + 1)) (some (11, nI (dat f d i), nI i))
/-- all of it: first the end, then the directory, the entries, the places, the checks -/
noncomputable def rd3 (f : Nat → Int32) (u lim p d h : Nat) (q : Nat → Nat) : Fl :=
  match dsr f p d lim h 0 with
  | some x => some x
  | none => match esr f u d h 0 with
    | some x => some x
    | none => match gsr f u d q h 0 0 with
      | some x => some x
      | none => csr f d h 0
noncomputable def rd2 (f : Nat → Int32) (u lim p : Nat) (q : Nat → Nat) : Fl := rd3 f u lim p (le f (p + 16) 4) (le f (p + 10) 2) q
noncomputable def rd (f : Nat → Int32) (u lim : Nat) (q : Nat → Nat) : Fl :=
  match lend f u (u - 21) with
  | none => some (1, nI u, -1)
  | some p => ifc (ebad f p) (some (2, nI p, -1)) (rd2 f u lim p q)
theorem lx_asym {h : Nat → Nat} {a b : Nat} (h1 : lx h a b) (h2 : lx h b a) : False := by
  unfold lx at h1 h2
  omega
theorem lx_tr {h : Nat → Nat} {a b c : Nat} (h1 : lx h a b) (h2 : lx h b c) : lx h a c := by
  unfold lx at h1 h2 ⊢
  omega
theorem lx_tot {h : Nat → Nat} {a b : Nat} (h1 : a ≠ b) : lx h a b ∨ lx h b a := by
  unfold lx
  omega
