/-! the check: one step, eight steps, a table of eight steps -/
theorem nf_sl9 : ∀ l, l < 32 → (((nI l).toUInt32 &&& Int32.toUInt32 31).toBitVec % 32).toNat = l := by decide +kernel
def cs (v : Int32) : Int32 := if v &&& 1 = 1 then sh v 1 ^^^ (-306674912) else sh v 1
def csn (v : Int32) : Nat → Int32
  | 0 => v
  | n + 1 => cs (csn v n)
/-- the check of n bytes from s on, before its bits are turned -/
def crc (f : Nat → Int32) (s : Nat) : Nat → Int32
  | 0 => -1
  | n + 1 => csn (crc f s n ^^^ nI (ub (f (s + n)))) 8
def cbv (x : BitVec 32) : BitVec 32 := (x >>> 1) ^^^ (if x.getLsbD 0 then (-306674912 : Int32).toBitVec else 0#32)
theorem sh_bv (v : Int32) (k : Nat) (hk : k < 32) : (sh v (nI k)).toBitVec = v.toBitVec >>> k := by
  apply BitVec.eq_of_toNat_eq
  unfold sh
  rw [pk_ushr v (nI k) k (nf_sl9 k hk)]
  rw [BitVec.toNat_ushiftRight, Nat.shiftRight_eq_div_pow]
theorem and1_bv (v : Int32) : v &&& 1 = 1 ↔ v.toBitVec.getLsbD 0 = true := by
  rw [← Int32.toBitVec_inj]
  rw [Int32.toBitVec_and]
  show v.toBitVec &&& 1#32 = 1#32 ↔ _
  constructor
  · intro h
    have := congrArg (fun b => b.getLsbD 0) h
    simpa using this
  · intro h
    apply BitVec.eq_of_getLsbD_eq
    intro i hi
    by_cases h0 : i = 0
    · subst h0
      simp [h]
    · simp [BitVec.getLsbD_one, h0]
theorem cs_bv (v : Int32) : (cs v).toBitVec = cbv v.toBitVec := by
  unfold cs cbv
  have h1 : (sh v 1).toBitVec = v.toBitVec >>> 1 := sh_bv v 1 (by decide)
  by_cases h : v &&& 1 = 1
  · rw [if_pos h, if_pos ((and1_bv v).mp h), Int32.toBitVec_xor, h1]
  · rw [if_neg h, if_neg (fun q => h ((and1_bv v).mpr q)), h1]
    simp
theorem cbv_xor (x y : BitVec 32) : cbv (x ^^^ y) = cbv x ^^^ cbv y := by
  have key : ∀ (p q : Bool) (a b k : BitVec 32), (a ^^^ b) ^^^ (if (p ^^ q) = true then k else 0#32) = (a ^^^ (if p = true then k else 0#32)) ^^^ (b ^^^ (if q = true then k else 0#32)) := by
    intro p q a b k
    apply BitVec.eq_of_getLsbD_eq
    intro i hi
    rw [BitVec.getLsbD_xor, BitVec.getLsbD_xor, BitVec.getLsbD_xor, BitVec.getLsbD_xor, BitVec.getLsbD_xor]
    cases p <;> cases q <;> simp <;> cases a.getLsbD i <;> cases b.getLsbD i <;> cases k.getLsbD i <;> rfl
  unfold cbv
  rw [BitVec.ushiftRight_xor_distrib, BitVec.getLsbD_xor]
  exact key _ _ _ _ _
theorem cs_xor (x y : Int32) : cs (x ^^^ y) = cs x ^^^ cs y := by
  rw [← Int32.toBitVec_inj, cs_bv, Int32.toBitVec_xor, Int32.toBitVec_xor, cbv_xor, cs_bv, cs_bv]
theorem csn_xor (x y : Int32) (n : Nat) : csn (x ^^^ y) n = csn x n ^^^ csn y n := by
  induction n with
  | zero => rfl
  | succ n ih =>
    show cs _ = cs _ ^^^ cs _
    rw [ih, cs_xor]
theorem csn_high (x : Int32) (h : ∀ i, i < 8 → x.toBitVec.getLsbD i = false) : ∀ n, n ≤ 8 → (csn x n).toBitVec = x.toBitVec >>> n := by
  intro n
  induction n with
  | zero => intro _; simp [csn]
  | succ n ih =>
    intro hn
    show (cs (csn x n)).toBitVec = _
    rw [cs_bv, ih (by omega)]
    unfold cbv
    rw [if_neg]
    · rw [BitVec.xor_zero, ← BitVec.shiftRight_add]
    · rw [BitVec.getLsbD_ushiftRight, Nat.add_zero, h n (by omega)]
      decide
theorem and255_bv (x : Int32) (i : Nat) : (x &&& 255).toBitVec.getLsbD i = (x.toBitVec.getLsbD i && decide (i < 8)) := by
  rw [Int32.toBitVec_and, BitVec.getLsbD_and]
  congr 1
  show (255#32).getLsbD i = _
  by_cases h : i < 8
  · rcases (by omega : i = 0 ∨ i = 1 ∨ i = 2 ∨ i = 3 ∨ i = 4 ∨ i = 5 ∨ i = 6 ∨ i = 7) with rfl | rfl | rfl | rfl | rfl | rfl | rfl | rfl <;> decide
  · rw [decide_eq_false h]
    have : (255#32).toNat < 2 ^ i := Nat.lt_of_lt_of_le (by decide : 255 < 2 ^ 8) (Nat.pow_le_pow_right (by decide) (by omega))
    rw [BitVec.getLsbD, Nat.testBit_lt_two_pow this]
theorem csn_8 (x : Int32) : csn x 8 = sh x 8 ^^^ csn (x &&& 255) 8 := by
  have e : x = (x ^^^ (x &&& 255)) ^^^ (x &&& 255) := by
    rw [← Int32.toBitVec_inj, Int32.toBitVec_xor, Int32.toBitVec_xor, BitVec.xor_assoc, BitVec.xor_self, BitVec.xor_zero]
  have h0 : ∀ i, i < 8 → (x ^^^ (x &&& 255)).toBitVec.getLsbD i = false := by
    intro i hi
    rw [Int32.toBitVec_xor, BitVec.getLsbD_xor, and255_bv]
    simp [hi]
  have h1 : csn (x ^^^ (x &&& 255)) 8 = sh x 8 := by
    rw [← Int32.toBitVec_inj, csn_high _ h0 8 (Nat.le_refl _), show (8 : Int32) = nI 8 from rfl, sh_bv x 8 (by decide)]
    apply BitVec.eq_of_getLsbD_eq
    intro i hi
    rw [BitVec.getLsbD_ushiftRight, BitVec.getLsbD_ushiftRight, Int32.toBitVec_xor, BitVec.getLsbD_xor, and255_bv, decide_eq_false (by omega), Bool.and_false, Bool.xor_false]
  conv => lhs; rw [e]
  rw [csn_xor, h1]
/-- a byte by the table -/
theorem csn_tab (v : Int32) (x : Nat) (hx : x < 256) : csn (v ^^^ nI x) 8 = sh v 8 ^^^ csn (nI (ub (v ^^^ nI x))) 8 := by
  rw [csn_8, ub_and]
  congr 1
  rw [← Int32.toBitVec_inj, show (8 : Int32) = nI 8 from rfl, sh_bv _ 8 (by decide), sh_bv _ 8 (by decide), Int32.toBitVec_xor, BitVec.ushiftRight_xor_distrib]
  have : (nI x).toBitVec >>> 8 = 0#32 := by
    apply BitVec.eq_of_toNat_eq
    rw [BitVec.toNat_ushiftRight, pk_tn (by omega), Nat.shiftRight_eq_div_pow]
    show x / 256 = 0
    omega
  rw [this, BitVec.xor_zero]
