/-! what each call does, as such: its code, its answer, the new state -/
abbrev St : Type := Nf × ((Nat → Nat) × Nat) × (Nat × (Nat → En)) × (Int32 × Int32 × Int32)
abbrev Rs : Type := Nat × Int32 × St
def w4 (w : Int32) : List Int32 := [tb (sh w 24), tb (sh w 16), tb (sh w 8), tb (sh w 0)]
def o_feed (S : St) (a b c d e : Int32) : Rs := if 65536 < S.1.2 + 20 then (1, 0, S) else (0, 0, (app S.1.1 S.1.2 (w4 a ++ (w4 b ++ (w4 c ++ (w4 d ++ w4 e)))), S.1.2 + 20), S.2)
def o_end (S : St) (n : Int32) : Rs := if n < 0 ∨ nI S.1.2 < n then (1, 0, S) else (0, 0, (S.1.1, n.toNatClampNeg), S.2)
def o_alter (S : St) (i b : Int32) : Rs := if i < 0 ∨ nI S.1.2 ≤ i then (1, 0, S) else if b < 0 ∨ 255 < b then (2, 0, S) else (0, 0, (upd S.1.1 i.toNatClampNeg (tb b), S.1.2), S.2)
def o_length (S : St) : Rs := (0, nI S.1.2, S)
def o_byteAt (S : St) (i : Int32) : Rs := if i < 0 ∨ nI S.1.2 ≤ i then (1, 0, S) else (0, S.1.1 i.toNatClampNeg &&& 255, S)
def lt (w : Int32) (k : Int32) : Nat := ub (sh w k)
def bl (c : Nat) : Bool := decide (c ≠ 0) && (decide (c < 33) || decide (126 < c))
def lc (c : Nat) : Nat := if c = 0 then 0 else 1
def pt (T : (Nat → Nat) × Nat) (c : Nat) : (Nat → Nat) × Nat := if c = 0 then T else (va_up T.1 T.2 c, T.2 + 1)
def o_type (S : St) (w : Int32) : Rs := if bl (lt w 24) = true ∨ bl (lt w 16) = true ∨ bl (lt w 8) = true ∨ bl (lt w 0) = true then (1, 0, S) else if 64 < S.2.1.2 + (lc (lt w 24) + lc (lt w 16) + lc (lt w 8) + lc (lt w 0)) then (2, 0, S) else (0, nI (S.2.1.2 + (lc (lt w 24) + lc (lt w 16) + lc (lt w 8) + lc (lt w 0))), S.1, pt (pt (pt (pt S.2.1 (lt w 24)) (lt w 16)) (lt w 8)) (lt w 0), S.2.2)
def o_erase (S : St) : Rs := (0, 0, S.1, (S.2.1.1, 0), S.2.2)
def fnd (S : St) : Int32 := nof (fun i => alk (S.2.2.1.2 i).1.2 (S.2.2.1.2 i).1.1 S.2.1.2 S.2.1.1) S.2.2.1.1 0
def refd (S : St) : Prop := ¬ isNm S.2.1.1 S.2.1.2 = true ∨ ¬ fnd S = -1
def full (S : St) : Prop := S.2.2.1.1 = 64 ∨ 65536 < sum (fun i => (S.2.2.1.2 i).2.1.2) S.2.2.1.1 + S.1.2
def put (S : St) (me sz ck : Int32) : St := (S.1, S.2.1, (S.2.2.1.1 + 1, va_up S.2.2.1.2 S.2.2.1.1 (S.2.1, (fun j => S.1.1 (0 + j), S.1.2), me, sz, ck)), S.2.2.2)
noncomputable def o_add (S : St) : Rs := ifc (refd S) (1, 0, S) (ifc (full S) (2, 0, S) (0, nI S.2.2.1.1, put S 0 (nI S.1.2) (crc S.1.1 0 S.1.2 ^^^ (-1))))
noncomputable def o_addPacked (S : St) (sz ck : Int32) : Rs := ifc (refd S ∨ sz < 0) (1, 0, S) (ifc (full S) (2, 0, S) (0, nI S.2.2.1.1, put S 8 sz ck))
def o_remove (S : St) (i : Int32) : Rs := if hs i S.2.2.1.1 then (0, 0, S.1, S.2.1, (S.2.2.1.1 - 1, dl S.2.2.1.2 i.toNatClampNeg), S.2.2.2) else (1, 0, S)
def o_move (S : St) (i j : Int32) : Rs := if hs i S.2.2.1.1 ∧ hs j S.2.2.1.1 then (0, 0, S.1, S.2.1, (S.2.2.1.1, mv S.2.2.1.2 i.toNatClampNeg j.toNatClampNeg), S.2.2.2) else (1, 0, S)
def o_find (S : St) : Rs := (0, fnd S, S)
def abt (z : En) (w : Int32) : Int32 := if w = 0 then z.2.2.1 else if w = 1 then nI z.2.1.2 else if w = 2 then z.2.2.2.1 else if w = 3 then z.2.2.2.2 else nI z.1.2
def o_about (S : St) (i w : Int32) : Rs := if hs i S.2.2.1.1 then (if w < 0 ∨ 4 < w then (2, 0, S) else (0, abt (S.2.2.1.2 i.toNatClampNeg) w, S)) else (1, 0, S)
def o_name (S : St) (i j : Int32) : Rs := if hs i S.2.2.1.1 then (0, (if j < 0 ∨ nI (S.2.2.1.2 i.toNatClampNeg).1.2 ≤ j then -1 else nI ((S.2.2.1.2 i.toNatClampNeg).1.1 j.toNatClampNeg)), S) else (1, 0, S)
def o_part (S : St) (i j : Int32) : Rs := if hs i S.2.2.1.1 ∧ hs j (S.2.2.1.2 i.toNatClampNeg).2.1.2 then (0, (S.2.2.1.2 i.toNatClampNeg).2.1.1 j.toNatClampNeg &&& 255, S) else (1, 0, S)
/-- what write puts into the row, of the entries as such -/
def zf (z : En) : Ef := (z.2.2.1, 0, z.2.1.2, z.2.2.2.1, z.2.2.2.2)
def zn (z : En) : Nf := (fun j => nI (z.1.1 j), z.1.2)
def zl (E : Nat → En) (i : Nat) : Nat := 30 + (E i).1.2 + (E i).2.1.2
def zw (k : Nat) (E : Nat → En) : List Int32 := cat (fun i => hd1 (zf (E i)) (zn (E i)) (E i).2.1) k ++ (cat (fun i => hd2 (zf (E i)) (zn (E i)) (sum (zl E) i)) k ++ hd3 k (sum (zl E) k) (sum (zl E) k + sum (fun i => 46 + (E i).1.2) k))
def zt (k : Nat) (E : Nat → En) : Nat := 22 + sum (fun i => zl E i + (46 + (E i).1.2)) k
def o_write (S : St) : Rs := if 65536 < zt S.2.2.1.1 S.2.2.1.2 then (1, 0, S) else (0, nI (zt S.2.2.1.1 S.2.2.1.2), (app S.1.1 0 (zw S.2.2.1.1 S.2.2.1.2), zt S.2.2.1.1 S.2.2.1.2), S.2)
noncomputable def got (S : St) : Nat × (Nat → En) := match lend S.1.1 S.1.2 (S.1.2 - 21) with
  | none => S.2.2.1
  | some p => (le S.1.1 (p + 10) 2, re S.1.1 (le S.1.1 (p + 16) 4))
noncomputable def o_rd (S : St) (o : Fl) : Rs := match o with
  | some r => (0, r.1, S.1, S.2.1, S.2.2.1, r)
  | none => (0, 0, S.1, S.2.1, got S, 0, -1, -1)
noncomputable def o_read (S : St) (w : Int32) (q : Nat → Nat) : Rs := if w < 0 ∨ 65536 < w then (1, 0, S) else o_rd S (rd S.1.1 S.1.2 w.toNatClampNeg q)
def o_blame (S : St) (w : Int32) : Rs := if w < 0 ∨ 2 < w then (1, 0, S) else (0, (if w = 0 then S.2.2.2.1 else if w = 1 then S.2.2.2.2.1 else S.2.2.2.2.2), S)
def o_count (S : St) : Rs := (0, nI S.2.2.1.1, S)
/-- the object in its cells 1 .. 335 -/
def CP (G : mm_G) (m : mm_Mem) (S : St) : Prop := m 1 = .inr (0, [.ref 2, .ref 4, .ref 6, .ref 8, .ref 204]) ∧ BY G m 2 3 65536 S.1.1 S.1.2 ∧ BY G m 4 5 64 (fun j => nI (S.2.1.1 j)) S.2.1.2 ∧ (∀ j, S.2.1.1 j < 128) ∧ (∃ T, CK G m 6 7 T) ∧ (∃ o e n s, PB G m S.2.2.1.1 o e n s ∧ AB S.2.2.1.1 o e n s S.2.2.1.2) ∧ RS G m ∧ ∃ x y z a c, m 204 = .inr (7, RF S.2.2.2 x y z a c)
/-- how the object's method ends: with an exception by its code, or with its answer -/
def rv (ex : Nat → String) (vd : Bool) (r : Rs) : mm_O := if r.1 = 0 then .inl (if vd then none else some (.int r.2.1)) else .inr (ex r.1)
def xI (_ : Nat) : String := "java/lang/IllegalStateException"
def xA (_ : Nat) : String := "java/lang/IllegalArgumentException"
def xB (_ : Nat) : String := "java/lang/IndexOutOfBoundsException"
def xBA (c : Nat) : String := if c = 1 then "java/lang/IndexOutOfBoundsException" else "java/lang/IllegalArgumentException"
def xAI (c : Nat) : String := if c = 1 then "java/lang/IllegalArgumentException" else "java/lang/IllegalStateException"
/-- a method of the object keeps its contract -/
def CO (l : Launch) (G : mm_G) (K : mm_M) (as : List Value) (b : Nat) (m : mm_Mem) (ex : Nat → String) (vd : Bool) (r : Rs) : Prop := mm_W l G K 0 (lv_args 0 (.ref 1 :: as)) [] b m (fun v m2 => v = rv ex vd r ∧ FR 1 335 m m2 ∧ CP G m2 r.2.2)
theorem CP_eq {G : mm_G} {m m2 : mm_Mem} {S : St} (C : CP G m S) (h : ∀ a, 1 ≤ a → a ≤ 335 → m2 a = m a) : CP G m2 S := by
  obtain ⟨c1, c2, c3, c4, ⟨T, c5⟩, ⟨o, e, n, s, c6, c7⟩, c8, x, y, z, a, c, c9⟩ := C
  exact ⟨(h _ (by omega) (by omega)).trans c1, ⟨(h _ (by omega) (by omega)).trans c2.1, (h _ (by omega) (by omega)).trans c2.2.1, c2.2.2⟩, ⟨(h _ (by omega) (by omega)).trans c3.1, (h _ (by omega) (by omega)).trans c3.2.1, c3.2.2⟩, c4, ⟨T, (h _ (by omega) (by omega)).trans c5.1, (h _ (by omega) (by omega)).trans c5.2.1, c5.2.2⟩, ⟨o, e, n, s, PB_eq c6 (fun a h1 h2 => h a (by omega) (by omega)), c7⟩, RS_eq c8 (fun a h1 h2 => h a (by omega) (by omega)), x, y, z, a, c, (h _ (by omega) (by omega)).trans c9⟩
/-- the row has changed -/
theorem CP_row {G : mm_G} {m : mm_Mem} {S : St} (C : CP G m S) {f : Nat → Int32} {u : Nat} (hu : u ≤ 65536) (hf : ∀ j, (f j).toInt8.toInt32 = f j) : CP G (BS G m 2 3 65536 f u) ((f, u), S.2) := by
  obtain ⟨c1, c2, c3, c4, ⟨T, c5⟩, ⟨o, e, n, s, c6, c7⟩, c8, x, y, z, a, c, c9⟩ := C
  have h : ∀ a, a ≠ 2 → a ≠ 3 → BS G m 2 3 65536 f u a = m a := fun a h1 h2 => BS_o h1 h2
  exact ⟨(h _ (by omega) (by omega)).trans c1, BY_BS c2 hu hf, BY_o c3 (by omega) (by omega) (by omega) (by omega), c4, ⟨T, (h _ (by omega) (by omega)).trans c5.1, (h _ (by omega) (by omega)).trans c5.2.1, c5.2.2⟩, ⟨o, e, n, s, PB_eq c6 (fun a h1 h2 => h a (by omega) (by omega)), c7⟩, RS_eq c8 (fun a h1 h2 => h a (by omega) (by omega)), x, y, z, a, c, (h _ (by omega) (by omega)).trans c9⟩
/-- the typed name has changed -/
theorem CP_typed {G : mm_G} {m : mm_Mem} {S : St} (C : CP G m S) {f : Nat → Int32} {g : Nat → Nat} {u : Nat} (hu : u ≤ 64) (hg : ∀ j, f j = nI (g j)) (hf : ∀ j, (f j).toInt8.toInt32 = f j) (h128 : ∀ j, g j < 128) : CP G (BS G m 4 5 64 f u) (S.1, (g, u), S.2.2) := by
  obtain ⟨c1, c2, c3, c4, ⟨T, c5⟩, ⟨o, e, n, s, c6, c7⟩, c8, x, y, z, a, c, c9⟩ := C
  have h : ∀ a, a ≠ 4 → a ≠ 5 → BS G m 4 5 64 f u a = m a := fun a h1 h2 => BS_o h1 h2
  have ef : f = fun j => nI (g j) := funext hg
  have c3' := BY_BS c3 hu hf
  rw [ef] at c3'
  refine ⟨(h _ (by omega) (by omega)).trans c1, BY_o c2 (by omega) (by omega) (by omega) (by omega), ?_, h128, ⟨T, (h _ (by omega) (by omega)).trans c5.1, (h _ (by omega) (by omega)).trans c5.2.1, c5.2.2⟩, ⟨o, e, n, s, PB_eq c6 (fun a h1 h2 => h a (by omega) (by omega)), c7⟩, RS_eq c8 (fun a h1 h2 => h a (by omega) (by omega)), x, y, z, a, c, (h _ (by omega) (by omega)).trans c9⟩
  rw [ef]
  exact c3'
/-- the box has changed -/
theorem CP_box {G : mm_G} {m m2 : mm_Mem} {S : St} (C : CP G m S) {k : Nat} {E : Nat → En} (h : FR 8 203 m m2) (h2 : ∃ o e n s, PB G m2 k o e n s ∧ AB k o e n s E) : CP G m2 (S.1, S.2.1, (k, E), S.2.2.2) := by
  obtain ⟨c1, c2, c3, c4, ⟨T, c5⟩, -, c8, x, y, z, a, c, c9⟩ := C
  exact ⟨(h _ (by omega)).trans c1, BY_fr c2 h (by omega) (by omega), BY_fr c3 h (by omega) (by omega), c4, ⟨T, (h _ (by omega)).trans c5.1, (h _ (by omega)).trans c5.2.1, c5.2.2⟩, h2, RS_eq c8 (fun a h1 h2 => h a (by omega)), x, y, z, a, c, (h _ (by omega)).trans c9⟩
/-- the reader has changed -/
theorem CP_reader {G : mm_G} {m m2 : mm_Mem} {S : St} (C : CP G m S) {t : Int32 × Int32 × Int32} (h : FR 204 335 m m2) (h2 : RS G m2) (h3 : ∃ x y z a c, m2 204 = .inr (7, RF t x y z a c)) : CP G m2 (S.1, S.2.1, S.2.2.1, t) := by
  obtain ⟨c1, c2, c3, c4, ⟨T, c5⟩, ⟨o, e, n, s, c6, c7⟩, -⟩ := C
  exact ⟨(h _ (by omega)).trans c1, BY_fr c2 h (by omega) (by omega), BY_fr c3 h (by omega) (by omega), c4, ⟨T, (h _ (by omega)).trans c5.1, (h _ (by omega)).trans c5.2.1, c5.2.2⟩, ⟨o, e, n, s, PB_eq c6 (fun a h1 h2 => h a (by omega)), c7⟩, h2, h3⟩
