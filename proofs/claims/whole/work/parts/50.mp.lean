/-! the model in its cells 336 .. 352 -/
def ML (hp ot : Nat) (c u tu k us : Int32) (t : Int32 × Int32 × Int32) (x : Int32 × Int32 × Int64 × Int32 × Int32) : List Value := [.int c, .int u, .ref 337, .int tu, .ref 338, .int k, .ref 339, .ref 340, .ref 341, .ref 342, .ref 343, .ref 344, .ref 345, .int us, .ref hp, .ref ot, .int t.1, .int t.2.1, .int t.2.2, .int x.1, .int x.2.1, .long x.2.2.1, .int x.2.2.2.1, .ref 348, .ref 349, .ref 350, .ref 351, .ref 352, .int x.2.2.2.2]
def sw (hp ot : Nat) : Prop := (hp = 346 ∧ ot = 347) ∨ (hp = 347 ∧ ot = 346)
abbrev aB (G : mm_G) (f : Nat → Int32) : va_E := .inl (G.2 0, 65536, .inl f)
abbrev aI (G : mm_G) (f : Nat → Int32) : va_E := .inl (G.2 1, 64, .inl f)
abbrev aL (G : mm_G) (f : Nat → Int64) : va_E := .inl (G.2 2, 64, .inr (.inl f))
abbrev aN (G : mm_G) (f : Nat → Int32) : va_E := .inl (G.2 1, 4096, .inl f)
abbrev aZ (G : mm_G) (f : Nat → Int32) : va_E := .inl (G.2 3, 64, .inl f)
def SC (G : mm_G) (m : mm_Mem) : Prop := (∃ a, m 348 = aI G a) ∧ (∃ g, m 349 = aL G g) ∧ (∃ g, m 350 = aL G g) ∧ (∃ g, m 351 = aL G g) ∧ ∃ g, m 352 = aZ G g
def MEn (A : Nat → Nat → Int32) (hf : Nat → Int32) (U i : Nat) (z : En) : Prop := A 340 i = nI z.1.2 ∧ z.1.2 ≤ 64 ∧ (∀ j, j < z.1.2 → A 339 (64 * i + j) = nI (z.1.1 j) ∧ z.1.1 j < 128) ∧ A 341 i = z.2.2.1 ∧ A 343 i = nI z.2.1.2 ∧ A 344 i = z.2.2.2.1 ∧ A 345 i = z.2.2.2.2 ∧ ∃ g, A 342 i = nI g ∧ g + z.2.1.2 ≤ U ∧ ∀ j, j < z.2.1.2 → hf (g + j) = z.2.1.1 j
def us (S : St) : Nat := sum (fun i => (S.2.2.1.2 i).2.1.2) S.2.2.1.1
def okf (f : Nat → Int32) : Prop := ∀ j, (f j).toInt8.toInt32 = f j
def MB (S : St) (A : Nat → Nat → Int32) (hf : Nat → Int32) : Prop := (∀ i, i < S.2.2.1.1 → MEn A hf (us S) i (S.2.2.1.2 i)) ∧ S.2.2.1.1 ≤ 64 ∧ us S ≤ 65536 ∧ okf hf
def MS (S : St) : Prop := S.1.2 ≤ 65536 ∧ S.2.1.2 ≤ 64 ∧ (∀ j, S.2.1.1 j < 128) ∧ okf S.1.1
/-- the arrays but the row and the typed name -/
def MA (G : mm_G) (m : mm_Mem) (hp ot : Nat) (A : Nat → Nat → Int32) (hf : Nat → Int32) : Prop := m 339 = aN G (A 339) ∧ (∀ a, 340 ≤ a → a ≤ 345 → m a = aI G (A a)) ∧ m hp = aB G hf ∧ (∃ g, m ot = aB G g ∧ okf g) ∧ SC G m ∧ sw hp ot
def MW (G : mm_G) (m : mm_Mem) (S : St) (c : Int32) (hp ot : Nat) (x : Int32 × Int32 × Int64 × Int32 × Int32) (A : Nat → Nat → Int32) (hf : Nat → Int32) : Prop := m 336 = .inr (8, ML hp ot c (nI S.1.2) (nI S.2.1.2) (nI S.2.2.1.1) (nI (us S)) S.2.2.2 x) ∧ m 337 = aB G S.1.1 ∧ m 338 = aI G (fun j => nI (S.2.1.1 j)) ∧ MA G m hp ot A hf ∧ MB S A hf ∧ MS S
def MP (G : mm_G) (m : mm_Mem) (S : St) (c : Int32) : Prop := ∃ hp ot x A hf, MW G m S c hp ot x A hf
section MPS
variable {G : mm_G} {m m2 : mm_Mem} {S : St} {c : Int32} {hp ot : Nat} {x : Int32 × Int32 × Int64 × Int32 × Int32} {A : Nat → Nat → Int32} {hf : Nat → Int32}
theorem SC_eq (h : SC G m) (e : ∀ a, 348 ≤ a → a ≤ 352 → m2 a = m a) : SC G m2 := by
  obtain ⟨⟨a, h1⟩, ⟨g2, h2⟩, ⟨g3, h3⟩, ⟨g4, h4⟩, g5, h5⟩ := h
  exact ⟨⟨a, (e _ (by omega) (by omega)).trans h1⟩, ⟨g2, (e _ (by omega) (by omega)).trans h2⟩, ⟨g3, (e _ (by omega) (by omega)).trans h3⟩, ⟨g4, (e _ (by omega) (by omega)).trans h4⟩, g5, (e _ (by omega) (by omega)).trans h5⟩
theorem MA_eq (h : MA G m hp ot A hf) (e : ∀ a, 339 ≤ a → a ≤ 352 → m2 a = m a) : MA G m2 hp ot A hf := by
  obtain ⟨h1, h2, h3, ⟨g, h4⟩, h5, h6⟩ := h
  have hsw : 346 ≤ hp ∧ hp ≤ 347 ∧ 346 ≤ ot ∧ ot ≤ 347 := by unfold sw at h6; omega
  exact ⟨(e _ (by omega) (by omega)).trans h1, fun a q1 q2 => (e _ (by omega) (by omega)).trans (h2 a q1 q2), (e _ (by omega) (by omega)).trans h3, ⟨g, (e _ (by omega) (by omega)).trans h4.1, h4.2⟩, SC_eq h5 (fun a q1 q2 => e a (by omega) (by omega)), h6⟩
theorem MP_eq (h : MP G m S c) (e : ∀ a, 336 ≤ a → a ≤ 352 → m2 a = m a) : MP G m2 S c := by
  obtain ⟨hp, ot, x, A, hf, h1, h2, h3, h4, h5⟩ := h
  exact ⟨hp, ot, x, A, hf, (e _ (by omega) (by omega)).trans h1, (e _ (by omega) (by omega)).trans h2, (e _ (by omega) (by omega)).trans h3, MA_eq h4 (fun a q1 q2 => e a (by omega) (by omega)), h5⟩
/-- only the header has changed: code, fault, and what the box's state isn't -/
theorem MW_h (h : MW G m S c hp ot x A hf) (c2 : Int32) (t2 : Int32 × Int32 × Int32) (x2 : Int32 × Int32 × Int64 × Int32 × Int32) : MW G (va_up m 336 (.inr (8, ML hp ot c2 (nI S.1.2) (nI S.2.1.2) (nI S.2.2.1.1) (nI (us S)) t2 x2))) (S.1, S.2.1, S.2.2.1, t2) c2 hp ot x2 A hf := by
  obtain ⟨h1, h2, h3, h4, h5⟩ := h
  exact ⟨up_s, (up_n (by omega)).trans h2, (up_n (by omega)).trans h3, MA_eq h4 (fun a q1 q2 => up_n (by omega)), h5⟩
/-- the row has changed -/
theorem MW_row (h : MW G m S c hp ot x A hf) {f : Nat → Int32} {u : Nat} (c2 : Int32) (x2 : Int32 × Int32 × Int64 × Int32 × Int32) (hu : u ≤ 65536) (hf2 : okf f) : MW G (va_up (va_up m 337 (aB G f)) 336 (.inr (8, ML hp ot c2 (nI u) (nI S.2.1.2) (nI S.2.2.1.1) (nI (us S)) S.2.2.2 x2))) ((f, u), S.2) c2 hp ot x2 A hf := by
  obtain ⟨h1, h2, h3, h4, h5, h6⟩ := h
  exact ⟨up_s, (up_n (by omega)).trans up_s, (up_n (by omega)).trans ((up_n (by omega)).trans h3), MA_eq h4 (fun a q1 q2 => (up_n (by omega)).trans (up_n (by omega))), h5, hu, h6.2.1, h6.2.2.1, hf2⟩
theorem MW_typed (h : MW G m S c hp ot x A hf) {g : Nat → Nat} {u : Nat} (c2 : Int32) (hu : u ≤ 64) (hg : ∀ j, g j < 128) : MW G (va_up (va_up m 338 (aI G (fun j => nI (g j)))) 336 (.inr (8, ML hp ot c2 (nI S.1.2) (nI u) (nI S.2.2.1.1) (nI (us S)) S.2.2.2 x))) (S.1, (g, u), S.2.2) c2 hp ot x A hf := by
  obtain ⟨h1, h2, h3, h4, h5, h6⟩ := h
  exact ⟨up_s, (up_n (by omega)).trans ((up_n (by omega)).trans h2), (up_n (by omega)).trans up_s, MA_eq h4 (fun a q1 q2 => (up_n (by omega)).trans (up_n (by omega))), h5, h6.1, hu, hg, h6.2.2.2⟩
end MPS
/-- a method of the model keeps its contract: its answer where the code is 0, the code, the new state -/
def MO (l : Launch) (G : mm_G) (K : mm_M) (as : List Value) (b : Nat) (m : mm_Mem) (vd : Bool) (r : Rs) : Prop := mm_W l G K 0 (lv_args 0 (.ref 336 :: as)) [] b m (fun v m2 => v = .inl (if vd then none else some (.int r.2.1)) ∧ FR 336 352 m m2 ∧ MP G m2 r.2.2 (nI r.1))
/-- shifts with the sign and without it have the same low byte -/
theorem sar_bv {x k : Int32} {n : Nat} (hn : n ≤ 24) (hk : (k &&& 31).toBitVec.smod 32 = BitVec.ofNat 32 n) : (x >>> (k &&& 31)).toBitVec = x.toBitVec.sshiftRight n := by
  rw [Int32.toBitVec_shiftRight, hk, BitVec.sshiftRight']
  congr 1
  rw [BitVec.toNat_ofNat]
  omega
theorem low8 {x y : Int32} (h : ∀ i, i < 8 → x.toBitVec.getLsbD i = y.toBitVec.getLsbD i) : tb x = tb y ∧ ub x = ub y := by
  have e : x.toBitVec.setWidth 8 = y.toBitVec.setWidth 8 := by
    apply BitVec.eq_of_getLsbD_eq
    intro i hi
    rw [BitVec.getLsbD_setWidth, BitVec.getLsbD_setWidth, h i hi]
  constructor
  · unfold tb
    have : x.toInt8 = y.toInt8 := by
      apply Int8.toBitVec_inj.mp
      rw [Int32.toBitVec_toInt8, Int32.toBitVec_toInt8]
      apply BitVec.eq_of_getLsbD_eq
      intro i hi
      rw [BitVec.getLsbD_signExtend, BitVec.getLsbD_signExtend, if_pos (by omega), if_pos (by omega), h i hi]
    rw [this]
  · have := congrArg BitVec.toNat e
    rw [BitVec.toNat_setWidth, BitVec.toNat_setWidth] at this
    exact this
theorem sar_low {x k : Int32} {n : Nat} (hn : n ≤ 24) (hk : (k &&& 31).toBitVec.smod 32 = BitVec.ofNat 32 n) : tb (x >>> (k &&& 31)) = tb (sh x (nI n)) ∧ ub (x >>> (k &&& 31)) = ub (sh x (nI n)) := by
  refine low8 (fun i hi => ?_)
  rw [sar_bv hn hk, sh_bv x n (by omega), BitVec.getLsbD_sshiftRight, BitVec.getLsbD_ushiftRight]
  rw [if_pos (by omega)]
  simp
  omega
