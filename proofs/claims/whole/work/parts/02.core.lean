/-! THE SMALL MACHINE (mm_): a walk of a method over a flat memory of numbered cells. Cell 0 of a memory holds how many cells there are. mm_W says: from here, over every real heap that holds this memory, the method comes to an end with Q. -/
abbrev mm_O : Type := Option Value ⊕ String
abbrev mm_Mem : Type := Nat → va_E
abbrev mm_M : Type := String × ByteArray × Nat × Option FieldType × (Nat × Nat) × List (Nat × Nat × Nat × Nat) × String × Option (Nat × (Nat → Int32))
abbrev mm_G : Type := va_G × (Nat → ClassId)
def mm_v (ad : Nat → Nat) : Value → Value
  | .ref r => .ref (ad r)
  | v => v
def mm_e (ad : Nat → Nat) (x : va_E) : va_E := match x with
  | .inl (c, n, .inr (.inr (.inr (.inr f)))) => .inl (c, n, .inr (.inr (.inr (.inr (fun j => (f j).map ad)))))
  | .inl y => .inl y
  | .inr (ci, fs) => .inr (ci, fs.map (mm_v ad))
def mm_cv (n : Nat) : Value → Prop
  | .ref r => r ≤ n
  | _ => True
def mm_ce (n : Nat) (x : va_E) : Prop := match x with
  | .inl (_, _, .inr (.inr (.inr (.inr f)))) => ∀ j r, f j = some r → r ≤ n
  | .inl _ => True
  | .inr (_, fs) => ∀ v ∈ fs, mm_cv n v
def mm_j : va_E := .inr (1000, [])
def mm_n (m : mm_Mem) : Nat := match m 0 with
  | .inr (n, _) => n
  | .inl _ => 0
def mm_w (ad : Nat → Nat) (m : mm_Mem) : va_W := (List.range (mm_n m)).map (fun r => (ad (r + 1), mm_e ad (m (r + 1))))
def mm_R (D : va_G) (A : Nat → Prop) (ad : Nat → Nat) (m : mm_Mem) (H : Heap) : Prop :=
  va_P D mm_cl (mm_w ad m) H ∧ va_D A (mm_w ad m) ∧ (∀ r, mm_n m < r → m r = mm_j) ∧ ∀ r, 0 < r → mm_ce (mm_n m) (m r)
def mm_push (m : mm_Mem) (x : va_E) : mm_Mem := va_up (va_up m (mm_n m + 1) x) 0 (.inr (mm_n m + 1, []))
theorem mm_v_cat (ad : Nat → Nat) (v : Value) : (mm_v ad v).category = v.category := by cases v <;> rfl
theorem mm_v_ag {n : Nat} {ad ad' : Nat → Nat} (h : ∀ r, r ≤ n → ad' r = ad r) {v : Value} (hv : mm_cv n v) : mm_v ad' v = mm_v ad v := by
  cases v <;> first | rfl | (simp only [mm_v]; rw [h _ hv])
theorem mm_cv_mono {n n' : Nat} (h : n ≤ n') {v : Value} (hv : mm_cv n v) : mm_cv n' v := by
  cases v <;> first | trivial | exact Nat.le_trans hv h
theorem mm_ce_mono {n n' : Nat} (h : n ≤ n') {x : va_E} (hx : mm_ce n x) : mm_ce n' x := by
  rcases x with ⟨c, k, f | f | f | f | f⟩ | ⟨ci, fs⟩
  · trivial
  · trivial
  · trivial
  · trivial
  · exact fun j r hr => Nat.le_trans (hx j r hr) h
  · exact fun v hv => mm_cv_mono h (hx v hv)
theorem mm_e_ag {n : Nat} {ad ad' : Nat → Nat} (h : ∀ r, r ≤ n → ad' r = ad r) {x : va_E} (hx : mm_ce n x) : mm_e ad' x = mm_e ad x := by
  rcases x with ⟨c, k, f | f | f | f | f⟩ | ⟨ci, fs⟩
  · rfl
  · rfl
  · rfl
  · rfl
  · have e : (fun j => (f j).map ad') = fun j => (f j).map ad := by
      funext j
      cases hf : f j with
      | none => rfl
      | some r => simp [h r (hx j r hf)]
    simp only [mm_e, e]
  · have e : fs.map (mm_v ad') = fs.map (mm_v ad) := List.map_congr_left fun v hv => mm_v_ag h (hx v hv)
    simp only [mm_e, e]
theorem mm_st_ag {n : Nat} {ad ad' : Nat → Nat} (h : ∀ r, r ≤ n → ad' r = ad r) {st : List Value} (hx : ∀ v ∈ st, mm_cv n v) : st.map (mm_v ad') = st.map (mm_v ad) := List.map_congr_left fun v hv => mm_v_ag h (hx v hv)
def mm_q (ad : Nat → Nat) (q : Nat × Value) : Nat × Value := (q.1, mm_v ad q.2)
theorem mm_lv_ag {n : Nat} {ad ad' : Nat → Nat} (h : ∀ r, r ≤ n → ad' r = ad r) {lv : List (Nat × Value)} (hx : ∀ q ∈ lv, mm_cv n q.2) : lv.map (mm_q ad') = lv.map (mm_q ad) :=
  List.map_congr_left fun q hq => by unfold mm_q; rw [mm_v_ag h (hx q hq)]
theorem mm_n_up {m : mm_Mem} {r : Nat} {x : va_E} (h0 : r ≠ 0) : mm_n (va_up m r x) = mm_n m := by
  unfold mm_n va_up
  rw [if_neg (fun q => h0 q.symm)]
theorem mm_n_push (m : mm_Mem) (x : va_E) : mm_n (mm_push m x) = mm_n m + 1 := by
  unfold mm_push
  generalize mm_n m + 1 = k
  unfold mm_n va_up
  rw [if_pos rfl]
theorem mm_lt {m : mm_Mem} (hj : ∀ r, mm_n m < r → m r = mm_j) {r : Nat} {x : va_E} (hx : m r = x) (hne : x ≠ mm_j) : r ≤ mm_n m := by
  rcases Nat.lt_or_ge (mm_n m) r with h | h
  · exact absurd (hx.symm.trans (hj r h)) hne
  · exact h
theorem mm_at {ad : Nat → Nat} {m : mm_Mem} (hj : ∀ r, mm_n m < r → m r = mm_j) {r : Nat} (h0 : r ≠ 0) {x : va_E} (hx : m r = x) (hne : x ≠ mm_j) : (mm_w ad m)[r - 1]? = some (ad r, mm_e ad x) := by
  have h1 := mm_lt hj hx hne
  have h2 : r - 1 + 1 = r := by omega
  unfold mm_w
  rw [List.getElem?_map, List.getElem?_range (by omega)]
  simp only [Option.map_some, h2, hx]
theorem mm_set {ad : Nat → Nat} {m : mm_Mem} {r : Nat} (h0 : r ≠ 0) (x : va_E) : (mm_w ad m).set (r - 1) (ad r, mm_e ad x) = mm_w ad (va_up m r x) := by
  apply List.ext_getElem?
  intro i
  unfold mm_w
  rw [mm_n_up h0, List.getElem?_set, List.getElem?_map, List.length_map, List.length_range]
  by_cases hi : r - 1 = i
  · rw [if_pos hi]
    by_cases hl : r - 1 < mm_n m
    · rw [if_pos hl, List.getElem?_map, List.getElem?_range (by omega)]
      have h2 : i + 1 = r := by omega
      simp [h2, va_up]
    · rw [if_neg hl, List.getElem?_map, List.getElem?_eq_none (by rw [List.length_range]; omega)]
      rfl
  · rw [if_neg hi, List.getElem?_map]
    have h2 : i + 1 ≠ r := by omega
    cases hg : (List.range (mm_n m))[i]? with
    | none => rfl
    | some k =>
      have hk : k = i := by
        have := List.getElem?_eq_some_iff.mp hg
        obtain ⟨_, h3⟩ := this
        simpa using h3.symm
      subst hk
      simp [va_up, h2]
theorem mm_put {D : va_G} {A : Nat → Prop} {ad : Nat → Nat} {m : mm_Mem} {H H1 : Heap} {r : Nat} (h0 : r ≠ 0) {y : va_E} (hR : mm_R D A ad m H) (hy : m r = y) (hne : y ≠ mm_j) {x : va_E} (hx : mm_ce (mm_n m) x) (hP : va_P D mm_cl ((mm_w ad m).set (r - 1) (ad r, mm_e ad x)) H1) (hD : va_D A ((mm_w ad m).set (r - 1) (ad r, mm_e ad x))) : mm_R D A ad (va_up m r x) H1 := by
  rw [mm_set h0] at hP hD
  refine ⟨hP, hD, fun k hk => ?_, fun k hk => ?_⟩
  · rw [mm_n_up h0] at hk
    have h1 := mm_lt hR.2.2.1 hy hne
    have : k ≠ r := by omega
    unfold va_up
    rw [if_neg this]
    exact hR.2.2.1 k hk
  · rw [mm_n_up h0]
    unfold va_up
    by_cases hk2 : k = r
    · rw [if_pos hk2]; exact hx
    · rw [if_neg hk2]; exact hR.2.2.2 k hk
theorem mm_grow {D : va_G} {A : Nat → Prop} {ad : Nat → Nat} {m : mm_Mem} {H H1 : Heap} {q : Nat} {x : va_E} (hR : mm_R D A ad m H) (hx : mm_ce (mm_n m) x) (he : mm_e (va_up ad (mm_n m + 1) q) x = x) (hP : va_P D mm_cl (mm_w ad m ++ [(q, x)]) H1) (hD : va_D A (mm_w ad m ++ [(q, x)])) : mm_R D A (va_up ad (mm_n m + 1) q) (mm_push m x) H1 := by
  have hag : ∀ r, r ≤ mm_n m → va_up ad (mm_n m + 1) q r = ad r := fun r hr => by unfold va_up; rw [if_neg (by omega)]
  have key : mm_w ad m ++ [(q, x)] = mm_w (va_up ad (mm_n m + 1) q) (mm_push m x) := by
    unfold mm_w
    rw [mm_n_push, List.range_succ, List.map_append]
    congr 1
    · refine List.map_congr_left fun r hr => ?_
      have hr' : r < mm_n m := List.mem_range.mp hr
      have h1 : mm_push m x (r + 1) = m (r + 1) := by
        unfold mm_push va_up
        rw [if_neg (by omega), if_neg (by omega)]
      rw [h1, hag _ (by omega), mm_e_ag hag (hR.2.2.2 (r + 1) (by omega))]
    · have h1 : mm_push m x (mm_n m + 1) = x := by
        unfold mm_push va_up
        rw [if_neg (by omega), if_pos rfl]
      simp only [List.map_cons, List.map_nil]
      rw [h1, he]
      simp [va_up]
  rw [key] at hP hD
  refine ⟨hP, hD, fun k hk => ?_, fun k hk => ?_⟩
  · rw [mm_n_push] at hk
    unfold mm_push va_up
    rw [if_neg (by omega), if_neg (by omega)]
    exact hR.2.2.1 k (by omega)
  · rw [mm_n_push]
    unfold mm_push va_up
    rw [if_neg (by omega)]
    by_cases hk2 : k = mm_n m + 1
    · rw [if_pos hk2]; exact mm_ce_mono (Nat.le_succ _) hx
    · rw [if_neg hk2]; exact mm_ce_mono (Nat.le_succ _) (hR.2.2.2 k hk)
/-- a static field of references: where it lies, and that it holds a reference; its cell is none of A -/
def mm_S1 (C n d : String) (A : Nat → Prop) (U : State) (H : Heap) : Prop := ∃ (c : ClassId) (k : Class) (i : Nat) (f : Field) (a : Nat) (cell : Cell) (v : Value), U.vm.findClass C = some c ∧ U.fieldFound? C n d = some (c, k, i, f) ∧ f.isStatic = true ∧ k.statics = some a ∧ H[a]? = some cell ∧ cell.vm.isStatics = true ∧ cell.cls = c ∧ k.staticTypes[f.slot]? = some f.type ∧ cell.slots[f.slot]? = some v ∧ v.isRef = true ∧ k.init = .initialized ∧ ¬ A a
theorem mm_S1.moved {C n d : String} {A : Nat → Prop} {u U : State} {H : Heap} (hvm : u.vm.Alike U.vm) (h : mm_S1 C n d A u H) : mm_S1 C n d A U H := by
  obtain ⟨c, k, i, f, a, cell, v, h1, h2, h3, h4, h5, h6, h7, h8, h9, h10, h11, h12⟩ := h
  obtain ⟨k', hi', he⟩ := State.fieldFound?_setVm hvm h2
  exact ⟨c, k', i, f, a, cell, v, by rw [hvm.findClass]; exact h1, hi', h3, by rw [he]; exact h4, h5, h6, h7, by rw [he]; exact h8, h9, h10, by rw [he]; exact h11, h12⟩
theorem mm_S1.kept {C n d : String} {A : Nat → Prop} {U : State} {H H1 : Heap} (h : mm_S1 C n d A U H) (hq : ∀ a : Nat, a < H.size → ¬ A a → H1[a]? = H[a]?) : mm_S1 C n d A U H1 := by
  obtain ⟨c, k, i, f, a, cell, v, h1, h2, h3, h4, h5, h6, h7, h8, h9, h10, h11, h12⟩ := h
  exact ⟨c, k, i, f, a, cell, v, h1, h2, h3, h4, by rw [hq a (Array.getElem?_eq_some_iff.mp h5).1 h12]; exact h5, h6, h7, h8, h9, h10, h11, h12⟩
theorem mm_S1.narrow {C n d : String} {A B : Nat → Prop} {U : State} {H : Heap} (h : mm_S1 C n d A U H) (hAB : ∀ q, q < H.size → B q → A q) : mm_S1 C n d B U H := by
  obtain ⟨c, k, i, f, a, cell, v, h1, h2, h3, h4, h5, h6, h7, h8, h9, h10, h11, h12⟩ := h
  exact ⟨c, k, i, f, a, cell, v, h1, h2, h3, h4, h5, h6, h7, h8, h9, h10, h11, fun z => h12 (hAB _ (Array.getElem?_eq_some_iff.mp h5).1 z)⟩
theorem mm_S1.word {C n d : String} {A : Nat → Prop} {s : State} {args : Array Value} (h : mm_S1 C n d A s s.heap) : (Cond.laysStatic C n d).before args s = true ∧ (Cond.isRef (.static C n d)).before args s = true := by
  obtain ⟨c, k, i, f, a, cell, v, h1, h2, h3, h4, h5, h6, h7, h8, h9, h10, h11, -⟩ := h
  refine ⟨?_, ?_⟩
  · show (Cond.laysStatic C n d).holds args s none s [] = true
    exact Cond.laysStatic_of h1 h2 h3 h4 h5 h6 h7 (Array.getElem?_eq_some_iff.mp h9).1 h8
  · have he : (Term.static C n d).eval args s none [] s = some v := by
      simp [Term.eval, State.fieldNamed?, h2, h3, h4, h5, h6, h9]
    simp only [Cond.before, Cond.holds, Cond.value, he]
    cases v <;> simp_all [Value.isRef]
/-- what holds of the tables and the statics at every state of the run -/
def mm_X (G : mm_G) (A : Nat → Prop) (s : State) : Prop := va_K G.1 mm_cl (mm_tys G.2) s ∧ (∀ w ∈ mm_NW, va_Nw w s) ∧ (∀ q ∈ mm_ST, mm_S1 q.1 q.2.1 q.2.2 A s s.heap) ∧ (∀ q ∈ mm_SR, ∃ a, vk_R q.1 q.2.1 q.2.2 a s) ∧ ∀ q ∈ mm_NC, va_Nc q.1 q.2 s
def mm_C (l : Launch) (G : mm_G) (K : mm_M) (p : Program) (s : State) (mid : MethodId) (args : Array Value) (meth : Method) (c : Code) (A : Nat → Prop) (b0 : Nat) : Prop :=
  p.tables.exec = Jvm.exec ∧ c.code = K.2.1 ∧ c.maxLocals = K.2.2.1 ∧ meth.sig.returnType = K.2.2.2.1 ∧ meth.locks = false ∧ meth.name = K.2.2.2.2.2.2.1 ∧ s.vm.findClass K.1 = some mid.cls ∧ c.exceptionTable.toList = tableOf K.2.2.2.2.2.1 ∧ (∀ w ∈ mm_T, w.before args s = true) ∧ mm_X G A s ∧ (∀ (q : Nat) (cell : Cell), A q → s.heap[q]? = some cell → cell.vm.isStatics = false) ∧ l.stackTraces = false ∧
  (match K.2.2.2.2.2.2.2 with
   | none => True
   | some (L, xs) => va_X b0 L xs s s.heap ∧ b0 < s.heap.size ∧ ¬ A b0)
def mm_room (K : mm_M) (mc ms : Nat) : Room := { frames := K.2.2.2.2.1.1, cells := mc, slots := ms, locals := K.2.2.2.2.1.2 }
def mm_out (s t : State) (ad : Nat → Nat) (n : Nat) (u : mm_O) (o : Outcome) : Prop := match u with
  | .inl v => o = .returned (v.map (mm_v ad)) ∧ ∀ w, v = some w → mm_cv n w
  | .inr E => ∃ (q : Addr) (ce : Cell), o = .threw q ∧ t.heap[q]? = some ce ∧ ce.vm = .none ∧ s.vm.findClass E = some ce.cls
def mm_Q (G : mm_G) (A : Nat → Prop) (n0 : Nat) (ad0 : Nat → Nat) (Q : mm_O → mm_Mem → Prop) (s : State) (o : Outcome) (t : State) : Prop :=
  ∃ (u : mm_O) (m : mm_Mem) (ad : Nat → Nat), Q u m ∧ mm_R G.1 A ad m t.heap ∧ n0 ≤ mm_n m ∧ (∀ r, r ≤ n0 → ad r = ad0 r) ∧ va_F A s t ∧ mm_out s t ad (mm_n m) u o
def mm_Z (G : mm_G) (A : Nat → Prop) (below : List Frame) (s : State) (mc ms n0 : Nat) (ad0 : Nat → Nat) (Q : mm_O → mm_Mem → Prop) : State → Prop := fun t =>
  ∃ o, t.status = .running ∧ Ended t below o ∧ mm_Q G A n0 ad0 Q s o t ∧ ∃ L, s.WarmedH t.vm ∧ s.sameButNew ({ t with vm := s.vm } : State) L mc ms ∧ ∀ q ∈ L, A q.base
/-- the method K stands at pc with these locals and operands over the memory m; b more cells and slots may be made; it comes to an end with Q -/
def mm_W (l : Launch) (G : mm_G) (K : mm_M) (pc : Nat) (lv : List (Nat × Value)) (st : List Value) (b : Nat) (m : mm_Mem) (Q : mm_O → mm_Mem → Prop) : Prop :=
  ∀ (p : Program) (e : Env) (s : State) (mid : MethodId) (args : Array Value) (below : List Frame) (meth : Method) (c : Code) (mc ms n0 : Nat) (ad0 ad : Nat → Nat) (A : Nat → Prop) (H : Heap) (locs : List Loc) (cells slots : Nat) (ls : Array Slot),
    mm_C l G K p s mid args meth c A (ad0 0) → (∀ q, s.heap.size ≤ q → A q) → n0 ≤ mm_n m → (∀ r, r ≤ n0 → ad r = ad0 r) → mm_R G.1 A ad m H → va_S A s.heap H locs → lv_has ls K.2.2.1 (lv.map (mm_q ad)) → (∀ q ∈ lv, mm_cv (mm_n m) q.2) → (∀ v ∈ st, mm_cv (mm_n m) v) → cells + b ≤ mc → slots + b ≤ ms →
    W p l e (mm_room K mc ms) s mid args below meth c H locs cells slots (mm_Z G A below s mc ms n0 ad0 Q) (F0 mid pc ls (st.map (mm_v ad)))
/-- .. and so with an exception of class E thrown at pc -/
def mm_WX (l : Launch) (G : mm_G) (K : mm_M) (pc : Nat) (lv : List (Nat × Value)) (E : String) (b : Nat) (m : mm_Mem) (Q : mm_O → mm_Mem → Prop) : Prop :=
  ∀ (p : Program) (e : Env) (s : State) (mid : MethodId) (args : Array Value) (below : List Frame) (meth : Method) (c : Code) (mc ms n0 : Nat) (ad0 ad : Nat → Nat) (A : Nat → Prop) (H : Heap) (locs : List Loc) (cells slots : Nat) (ls : Array Slot),
    mm_C l G K p s mid args meth c A (ad0 0) → (∀ q, s.heap.size ≤ q → A q) → n0 ≤ mm_n m → (∀ r, r ≤ n0 → ad r = ad0 r) → mm_R G.1 A ad m H → va_S A s.heap H locs → lv_has ls K.2.2.1 (lv.map (mm_q ad)) → (∀ q ∈ lv, mm_cv (mm_n m) q.2) → cells + b ≤ mc → slots + b ≤ ms →
    ∀ (q : Addr) (ce : Cell) (stC : List Value), H[q]? = some ce → ce.vm = .none → s.vm.findClass E = some ce.cls → ∀ T : State, T.heap = H → Stand p l e (mm_room K mc ms) s mid args below meth c T locs cells slots →
      ∃ t, Steps p.tables e below ((T.setTop (F0 mid pc ls stC)).pushFrame (.throwing q)) t ∧ mm_Z G A below s mc ms n0 ad0 Q t
theorem mm_sc {n : Nat} {v : Value} {st : List Value} (hv : mm_cv n v) (h : ∀ w ∈ st, mm_cv n w) : ∀ w ∈ v :: st, mm_cv n w := fun w hw => by
  rcases List.mem_cons.mp hw with rfl | hw
  · exact hv
  · exact h w hw
theorem mm_sd {n : Nat} {v : Value} {st : List Value} (h : ∀ w ∈ v :: st, mm_cv n w) : ∀ w ∈ st, mm_cv n w := fun w hw => h w (List.mem_cons_of_mem _ hw)
theorem mm_sh {n : Nat} {v : Value} {st : List Value} (h : ∀ w ∈ v :: st, mm_cv n w) : mm_cv n v := h v List.mem_cons_self
theorem mm_lg {ls : Array Slot} {nL : Nat} {ad : Nat → Nat} {lv : List (Nat × Value)} (h : lv_has ls nL (lv.map (mm_q ad))) (j : Nat) {i : Nat} {v : Value} (hj : lv[j]? = some (i, v)) : ls[i]? = some (.val (mm_v ad v)) :=
  lv_at h j (by rw [List.getElem?_map, hj]; rfl)
theorem mm_lc {n : Nat} {lv : List (Nat × Value)} (h : ∀ q ∈ lv, mm_cv n q.2) {j i : Nat} {v : Value} (hj : lv[j]? = some (i, v)) : mm_cv n v := h (i, v) (List.mem_of_getElem? hj)
theorem mm_mono {p : Program} {l : Launch} {e : Env} {R : Room} {s : State} {m : MethodId} {args : Array Value} {below : List Frame} {meth : Method} {c : Code} {H : Heap} {locs : List Loc} {cells slots : Nat} {Q Q' : State → Prop} {g : JFrame} (h : ∀ t, Q t → Q' t) (k : W p l e R s m args below meth c H locs cells slots Q g) : W p l e R s m args below meth c H locs cells slots Q' g := fun T hT X => by
  obtain ⟨t, a, b⟩ := k T hT X
  exact ⟨t, a, h t b⟩
theorem mm_ofMQ {G : mm_G} {A : Nat → Prop} {below : List Frame} {args : Array Value} {s : State} {mc ms n0 : Nat} {ad0 : Nat → Nat} {Q : mm_O → mm_Mem → Prop} (t : State) (h : MQ below (fun _ s o t => mm_Q G A n0 ad0 Q s o t) args s mc ms A t) : mm_Z G A below s mc ms n0 ad0 Q t := by
  obtain ⟨o, h1, h2, h3, L, h4, h5⟩ := h
  exact ⟨o, h1, h2, h3, L, h4.2.1, h4.2.2, h5⟩

section MMR
variable {l : Launch} {G : mm_G} {K : mm_M} {pc : Nat} {lv lv2 : List (Nat × Value)} {st : List Value} {b : Nat} {m : mm_Mem} {Q : mm_O → mm_Mem → Prop}
theorem mm_iconst {n : Int} {v : Int32} (hd : decode K.2.1 pc = .ok (.iconst n, 1)) (hv : Int32.ofInt n = v) (h : mm_W l G K (pc + 1) lv (.int v :: st) b m Q) : mm_W l G K pc lv st b m Q := by
  intro p e s mid args below meth c mc ms n0 ad0 ad A H locs cells slots ls C hA hn had hR hS hls hlc hsc hb1 hb2
  exact lv_iconst C.1 C.2.1 hd hv (h p e s mid args below meth c mc ms n0 ad0 ad A H locs cells slots ls C hA hn had hR hS hls hlc (mm_sc trivial hsc) hb1 hb2)
theorem mm_bipush {n : Int} {v : Int32} (hd : decode K.2.1 pc = .ok (.bipush n, 2)) (hv : (Int8.ofInt n).toInt32 = v) (h : mm_W l G K (pc + 2) lv (.int v :: st) b m Q) : mm_W l G K pc lv st b m Q := by
  intro p e s mid args below meth c mc ms n0 ad0 ad A H locs cells slots ls C hA hn had hR hS hls hlc hsc hb1 hb2
  exact lv_bipush C.1 C.2.1 hd hv (h p e s mid args below meth c mc ms n0 ad0 ad A H locs cells slots ls C hA hn had hR hS hls hlc (mm_sc trivial hsc) hb1 hb2)
theorem mm_sipush {n : Int} {v : Int32} (hd : decode K.2.1 pc = .ok (.sipush n, 3)) (hv : (Int16.ofInt n).toInt32 = v) (h : mm_W l G K (pc + 3) lv (.int v :: st) b m Q) : mm_W l G K pc lv st b m Q := by
  intro p e s mid args below meth c mc ms n0 ad0 ad A H locs cells slots ls C hA hn had hR hS hls hlc hsc hb1 hb2
  exact lv_sipush C.1 C.2.1 hd hv (h p e s mid args below meth c mc ms n0 ad0 ad A H locs cells slots ls C hA hn had hR hS hls hlc (mm_sc trivial hsc) hb1 hb2)
theorem mm_lconst {n : Fin 2} {v : Int64} (hd : decode K.2.1 pc = .ok (.lconst n, 1)) (hv : Int64.ofNat (n : Nat) = v) (h : mm_W l G K (pc + 1) lv (.long v :: st) b m Q) : mm_W l G K pc lv st b m Q := by
  intro p e s mid args below meth c mc ms n0 ad0 ad A H locs cells slots ls C hA hn had hR hS hls hlc hsc hb1 hb2
  exact lv_lconst C.1 C.2.1 hd hv (h p e s mid args below meth c mc ms n0 ad0 ad A H locs cells slots ls C hA hn had hR hS hls hlc (mm_sc trivial hsc) hb1 hb2)
theorem mm_ldc {index : Nat} {v : Int32} (hc : Jvm.Cond.constant K.1 index v ∈ mm_T) (hd : decode K.2.1 pc = .ok (.ldc index, 2)) (h : mm_W l G K (pc + 2) lv (.int v :: st) b m Q) : mm_W l G K pc lv st b m Q := by
  intro p e s mid args below meth c mc ms n0 ad0 ad A H locs cells slots ls C hA hn had hR hS hls hlc hsc hb1 hb2
  obtain ⟨hx, hb, -, -, -, -, hown, -, hts, -⟩ := id C
  exact lv_ldc hx hb hown (hts _ hc) hd (h p e s mid args below meth c mc ms n0 ad0 ad A H locs cells slots ls C hA hn had hR hS hls hlc (mm_sc trivial hsc) hb1 hb2)
theorem mm_ldcw {index : Nat} {v : Int32} (hc : Jvm.Cond.constant K.1 index v ∈ mm_T) (hd : decode K.2.1 pc = .ok (.ldc_w index, 3)) (h : mm_W l G K (pc + 3) lv (.int v :: st) b m Q) : mm_W l G K pc lv st b m Q := by
  intro p e s mid args below meth c mc ms n0 ad0 ad A H locs cells slots ls C hA hn had hR hS hls hlc hsc hb1 hb2
  obtain ⟨hx, hb, -, -, -, -, hown, -, hts, -⟩ := id C
  exact lv_ldcw hx hb hown (hts _ hc) hd (h p e s mid args below meth c mc ms n0 ad0 ad A H locs cells slots ls C hA hn had hR hS hls hlc (mm_sc trivial hsc) hb1 hb2)
theorem mm_ldc2 {index : Nat} {v : Int64} (hc : Jvm.Cond.constantLong K.1 index v ∈ mm_T) (hd : decode K.2.1 pc = .ok (.ldc2_w index, 3)) (h : mm_W l G K (pc + 3) lv (.long v :: st) b m Q) : mm_W l G K pc lv st b m Q := by
  intro p e s mid args below meth c mc ms n0 ad0 ad A H locs cells slots ls C hA hn had hR hS hls hlc hsc hb1 hb2
  obtain ⟨hx, hb, -, -, -, -, hown, -, hts, -⟩ := id C
  exact lv_ldc2 hx hb hown (hts _ hc) hd (h p e s mid args below meth c mc ms n0 ad0 ad A H locs cells slots ls C hA hn had hR hS hls hlc (mm_sc trivial hsc) hb1 hb2)
theorem mm_null (hd : decode K.2.1 pc = .ok (.aconst_null, 1)) (h : mm_W l G K (pc + 1) lv (.null :: st) b m Q) : mm_W l G K pc lv st b m Q := by
  intro p e s mid args below meth c mc ms n0 ad0 ad A H locs cells slots ls C hA hn had hR hS hls hlc hsc hb1 hb2
  exact lv_null C.1 C.2.1 hd (h p e s mid args below meth c mc ms n0 ad0 ad A H locs cells slots ls C hA hn had hR hS hls hlc (mm_sc trivial hsc) hb1 hb2)
theorem mm_iload_n (j : Nat) {k : Fin 4} {i : Nat} {x : Int32} (hd : decode K.2.1 pc = .ok (.iload_n k, 1)) (hi : (k : Nat) = i) (hj : lv[j]? = some (i, .int x)) (h : mm_W l G K (pc + 1) lv (.int x :: st) b m Q) : mm_W l G K pc lv st b m Q := by
  intro p e s mid args below meth c mc ms n0 ad0 ad A H locs cells slots ls C hA hn had hR hS hls hlc hsc hb1 hb2
  exact lv_iload_n C.1 C.2.1 hd hi (mm_lg hls j hj) (h p e s mid args below meth c mc ms n0 ad0 ad A H locs cells slots ls C hA hn had hR hS hls hlc (mm_sc trivial hsc) hb1 hb2)
theorem mm_iload (j : Nat) {i : Nat} {x : Int32} (hd : decode K.2.1 pc = .ok (.iload i, 2)) (hj : lv[j]? = some (i, .int x)) (h : mm_W l G K (pc + 2) lv (.int x :: st) b m Q) : mm_W l G K pc lv st b m Q := by
  intro p e s mid args below meth c mc ms n0 ad0 ad A H locs cells slots ls C hA hn had hR hS hls hlc hsc hb1 hb2
  exact lv_iload C.1 C.2.1 hd (mm_lg hls j hj) (h p e s mid args below meth c mc ms n0 ad0 ad A H locs cells slots ls C hA hn had hR hS hls hlc (mm_sc trivial hsc) hb1 hb2)
theorem mm_lload_n (j : Nat) {k : Fin 4} {i : Nat} {x : Int64} (hd : decode K.2.1 pc = .ok (.lload_n k, 1)) (hi : (k : Nat) = i) (hj : lv[j]? = some (i, .long x)) (h : mm_W l G K (pc + 1) lv (.long x :: st) b m Q) : mm_W l G K pc lv st b m Q := by
  intro p e s mid args below meth c mc ms n0 ad0 ad A H locs cells slots ls C hA hn had hR hS hls hlc hsc hb1 hb2
  exact lv_lload_n C.1 C.2.1 hd hi (mm_lg hls j hj) (h p e s mid args below meth c mc ms n0 ad0 ad A H locs cells slots ls C hA hn had hR hS hls hlc (mm_sc trivial hsc) hb1 hb2)
theorem mm_lload (j : Nat) {i : Nat} {x : Int64} (hd : decode K.2.1 pc = .ok (.lload i, 2)) (hj : lv[j]? = some (i, .long x)) (h : mm_W l G K (pc + 2) lv (.long x :: st) b m Q) : mm_W l G K pc lv st b m Q := by
  intro p e s mid args below meth c mc ms n0 ad0 ad A H locs cells slots ls C hA hn had hR hS hls hlc hsc hb1 hb2
  exact lv_lload C.1 C.2.1 hd (mm_lg hls j hj) (h p e s mid args below meth c mc ms n0 ad0 ad A H locs cells slots ls C hA hn had hR hS hls hlc (mm_sc trivial hsc) hb1 hb2)
theorem mm_aload_n (j : Nat) {k : Fin 4} {i x : Nat} (hd : decode K.2.1 pc = .ok (.aload_n k, 1)) (hi : (k : Nat) = i) (hj : lv[j]? = some (i, .ref x)) (h : mm_W l G K (pc + 1) lv (.ref x :: st) b m Q) : mm_W l G K pc lv st b m Q := by
  intro p e s mid args below meth c mc ms n0 ad0 ad A H locs cells slots ls C hA hn had hR hS hls hlc hsc hb1 hb2
  exact lv_aload_n C.1 C.2.1 hd hi (mm_lg hls j hj) (h p e s mid args below meth c mc ms n0 ad0 ad A H locs cells slots ls C hA hn had hR hS hls hlc (mm_sc (mm_lc hlc hj) hsc) hb1 hb2)
theorem mm_aload (j : Nat) {i x : Nat} (hd : decode K.2.1 pc = .ok (.aload i, 2)) (hj : lv[j]? = some (i, .ref x)) (h : mm_W l G K (pc + 2) lv (.ref x :: st) b m Q) : mm_W l G K pc lv st b m Q := by
  intro p e s mid args below meth c mc ms n0 ad0 ad A H locs cells slots ls C hA hn had hR hS hls hlc hsc hb1 hb2
  exact lv_aload C.1 C.2.1 hd (mm_lg hls j hj) (h p e s mid args below meth c mc ms n0 ad0 ad A H locs cells slots ls C hA hn had hR hS hls hlc (mm_sc (mm_lc hlc hj) hsc) hb1 hb2)
theorem mm_aload_nN (j : Nat) {k : Fin 4} {i : Nat} (hd : decode K.2.1 pc = .ok (.aload_n k, 1)) (hi : (k : Nat) = i) (hj : lv[j]? = some (i, .null)) (h : mm_W l G K (pc + 1) lv (.null :: st) b m Q) : mm_W l G K pc lv st b m Q := by
  intro p e s mid args below meth c mc ms n0 ad0 ad A H locs cells slots ls C hA hn had hR hS hls hlc hsc hb1 hb2
  exact lv_aload_nN C.1 C.2.1 hd hi (mm_lg hls j hj) (h p e s mid args below meth c mc ms n0 ad0 ad A H locs cells slots ls C hA hn had hR hS hls hlc (mm_sc trivial hsc) hb1 hb2)
theorem mm_aloadN (j : Nat) {i : Nat} (hd : decode K.2.1 pc = .ok (.aload i, 2)) (hj : lv[j]? = some (i, .null)) (h : mm_W l G K (pc + 2) lv (.null :: st) b m Q) : mm_W l G K pc lv st b m Q := by
  intro p e s mid args below meth c mc ms n0 ad0 ad A H locs cells slots ls C hA hn had hR hS hls hlc hsc hb1 hb2
  exact lv_aloadN C.1 C.2.1 hd (mm_lg hls j hj) (h p e s mid args below meth c mc ms n0 ad0 ad A H locs cells slots ls C hA hn had hR hS hls hlc (mm_sc trivial hsc) hb1 hb2)
end MMR
theorem mm_f1 {ad : Nat → Nat} {lv : List (Nat × Value)} (i : Nat) (v : Value) : (i, mm_v ad v) :: (lv.map (mm_q ad)).filter (fun q => !(q.1 == i) && !(q.1 + 1 == i && q.2.category == 2)) = ((i, v) :: lv.filter (fun q => !(q.1 == i) && !(q.1 + 1 == i && q.2.category == 2))).map (mm_q ad) := by
  rw [List.map_cons, List.filter_map]
  congr 2
  refine List.filter_congr fun q _ => ?_
  simp only [Function.comp, mm_q, mm_v_cat]
theorem mm_f2 {ad : Nat → Nat} {lv : List (Nat × Value)} (i : Nat) (v : Value) : (i, mm_v ad v) :: (lv.map (mm_q ad)).filter (fun q => !(q.1 == i) && (!(q.1 == i + 1) && !(q.1 + 1 == i && q.2.category == 2))) = ((i, v) :: lv.filter (fun q => !(q.1 == i) && (!(q.1 == i + 1) && !(q.1 + 1 == i && q.2.category == 2)))).map (mm_q ad) := by
  rw [List.map_cons, List.filter_map]
  congr 2
  refine List.filter_congr fun q _ => ?_
  simp only [Function.comp, mm_q, mm_v_cat]
theorem mm_fc {n i : Nat} {v : Value} {lv : List (Nat × Value)} {P : Nat × Value → Bool} (h : ∀ q ∈ lv, mm_cv n q.2) (hv : mm_cv n v) : ∀ q ∈ (i, v) :: lv.filter P, mm_cv n q.2 := fun q hq => by
  rcases List.mem_cons.mp hq with rfl | hq
  · exact hv
  · exact h q (List.mem_filter.mp hq).1
section MMS
variable {l : Launch} {G : mm_G} {K : mm_M} {pc : Nat} {lv lv2 : List (Nat × Value)} {st : List Value} {b : Nat} {m : mm_Mem} {Q : mm_O → mm_Mem → Prop}
theorem mm_istore_n {k : Fin 4} {i : Nat} {x : Int32} (hd : decode K.2.1 pc = .ok (.istore_n k, 1)) (hi : (k : Nat) = i) (hn : i < K.2.2.1) (hl : (i, .int x) :: lv.filter (fun q => !(q.1 == i) && !(q.1 + 1 == i && q.2.category == 2)) = lv2) (h : mm_W l G K (pc + 1) lv2 st b m Q) : mm_W l G K pc lv (.int x :: st) b m Q := by
  intro p e s mid args below meth c mc ms n0 ad0 ad A H locs cells slots ls C hA hn0 had hR hS hls hlc hsc hb1 hb2
  subst hl
  exact lv_istore_n C.1 C.2.1 hd hi hls hn (mm_f1 (ad := ad) i (.int x)) (fun ls hls => (h p e s mid args below meth c mc ms n0 ad0 ad A H locs cells slots ls C hA hn0 had hR hS hls (mm_fc hlc trivial) (mm_sd hsc) hb1 hb2))
theorem mm_lstore_n {k : Fin 4} {i : Nat} {x : Int64} (hd : decode K.2.1 pc = .ok (.lstore_n k, 1)) (hi : (k : Nat) = i) (hn : i + 1 < K.2.2.1) (hl : (i, .long x) :: lv.filter (fun q => !(q.1 == i) && (!(q.1 == i + 1) && !(q.1 + 1 == i && q.2.category == 2))) = lv2) (h : mm_W l G K (pc + 1) lv2 st b m Q) : mm_W l G K pc lv (.long x :: st) b m Q := by
  intro p e s mid args below meth c mc ms n0 ad0 ad A H locs cells slots ls C hA hn0 had hR hS hls hlc hsc hb1 hb2
  subst hl
  exact lv_lstore_n C.1 C.2.1 hd hi hls hn (mm_f2 (ad := ad) i (.long x)) (fun ls hls => (h p e s mid args below meth c mc ms n0 ad0 ad A H locs cells slots ls C hA hn0 had hR hS hls (mm_fc hlc trivial) (mm_sd hsc) hb1 hb2))
theorem mm_astore_n {k : Fin 4} {i : Nat} {x : Nat} (hd : decode K.2.1 pc = .ok (.astore_n k, 1)) (hi : (k : Nat) = i) (hn : i < K.2.2.1) (hl : (i, .ref x) :: lv.filter (fun q => !(q.1 == i) && !(q.1 + 1 == i && q.2.category == 2)) = lv2) (h : mm_W l G K (pc + 1) lv2 st b m Q) : mm_W l G K pc lv (.ref x :: st) b m Q := by
  intro p e s mid args below meth c mc ms n0 ad0 ad A H locs cells slots ls C hA hn0 had hR hS hls hlc hsc hb1 hb2
  subst hl
  exact lv_astore_n C.1 C.2.1 hd hi hls hn (mm_f1 (ad := ad) i (.ref x)) (fun ls hls => (h p e s mid args below meth c mc ms n0 ad0 ad A H locs cells slots ls C hA hn0 had hR hS hls (mm_fc hlc (mm_sh hsc)) (mm_sd hsc) hb1 hb2))
theorem mm_astore_nN {k : Fin 4} {i : Nat} (hd : decode K.2.1 pc = .ok (.astore_n k, 1)) (hi : (k : Nat) = i) (hn : i < K.2.2.1) (hl : (i, .null) :: lv.filter (fun q => !(q.1 == i) && !(q.1 + 1 == i && q.2.category == 2)) = lv2) (h : mm_W l G K (pc + 1) lv2 st b m Q) : mm_W l G K pc lv (.null :: st) b m Q := by
  intro p e s mid args below meth c mc ms n0 ad0 ad A H locs cells slots ls C hA hn0 had hR hS hls hlc hsc hb1 hb2
  subst hl
  exact lv_astore_nN C.1 C.2.1 hd hi hls hn (mm_f1 (ad := ad) i (.null)) (fun ls hls => (h p e s mid args below meth c mc ms n0 ad0 ad A H locs cells slots ls C hA hn0 had hR hS hls (mm_fc hlc trivial) (mm_sd hsc) hb1 hb2))
theorem mm_istore {i : Nat} {x : Int32} (hd : decode K.2.1 pc = .ok (.istore i, 2)) (hn : i < K.2.2.1) (hl : (i, .int x) :: lv.filter (fun q => !(q.1 == i) && !(q.1 + 1 == i && q.2.category == 2)) = lv2) (h : mm_W l G K (pc + 2) lv2 st b m Q) : mm_W l G K pc lv (.int x :: st) b m Q := by
  intro p e s mid args below meth c mc ms n0 ad0 ad A H locs cells slots ls C hA hn0 had hR hS hls hlc hsc hb1 hb2
  subst hl
  exact lv_istore C.1 C.2.1 hd hls hn (mm_f1 (ad := ad) i (.int x)) (fun ls hls => (h p e s mid args below meth c mc ms n0 ad0 ad A H locs cells slots ls C hA hn0 had hR hS hls (mm_fc hlc trivial) (mm_sd hsc) hb1 hb2))
theorem mm_lstore {i : Nat} {x : Int64} (hd : decode K.2.1 pc = .ok (.lstore i, 2)) (hn : i + 1 < K.2.2.1) (hl : (i, .long x) :: lv.filter (fun q => !(q.1 == i) && (!(q.1 == i + 1) && !(q.1 + 1 == i && q.2.category == 2))) = lv2) (h : mm_W l G K (pc + 2) lv2 st b m Q) : mm_W l G K pc lv (.long x :: st) b m Q := by
  intro p e s mid args below meth c mc ms n0 ad0 ad A H locs cells slots ls C hA hn0 had hR hS hls hlc hsc hb1 hb2
  subst hl
  exact lv_lstore C.1 C.2.1 hd hls hn (mm_f2 (ad := ad) i (.long x)) (fun ls hls => (h p e s mid args below meth c mc ms n0 ad0 ad A H locs cells slots ls C hA hn0 had hR hS hls (mm_fc hlc trivial) (mm_sd hsc) hb1 hb2))
theorem mm_astore {i : Nat} {x : Nat} (hd : decode K.2.1 pc = .ok (.astore i, 2)) (hn : i < K.2.2.1) (hl : (i, .ref x) :: lv.filter (fun q => !(q.1 == i) && !(q.1 + 1 == i && q.2.category == 2)) = lv2) (h : mm_W l G K (pc + 2) lv2 st b m Q) : mm_W l G K pc lv (.ref x :: st) b m Q := by
  intro p e s mid args below meth c mc ms n0 ad0 ad A H locs cells slots ls C hA hn0 had hR hS hls hlc hsc hb1 hb2
  subst hl
  exact lv_astore C.1 C.2.1 hd hls hn (mm_f1 (ad := ad) i (.ref x)) (fun ls hls => (h p e s mid args below meth c mc ms n0 ad0 ad A H locs cells slots ls C hA hn0 had hR hS hls (mm_fc hlc (mm_sh hsc)) (mm_sd hsc) hb1 hb2))
theorem mm_astoreN {i : Nat} (hd : decode K.2.1 pc = .ok (.astore i, 2)) (hn : i < K.2.2.1) (hl : (i, .null) :: lv.filter (fun q => !(q.1 == i) && !(q.1 + 1 == i && q.2.category == 2)) = lv2) (h : mm_W l G K (pc + 2) lv2 st b m Q) : mm_W l G K pc lv (.null :: st) b m Q := by
  intro p e s mid args below meth c mc ms n0 ad0 ad A H locs cells slots ls C hA hn0 had hR hS hls hlc hsc hb1 hb2
  subst hl
  exact lv_astoreN C.1 C.2.1 hd hls hn (mm_f1 (ad := ad) i (.null)) (fun ls hls => (h p e s mid args below meth c mc ms n0 ad0 ad A H locs cells slots ls C hA hn0 had hR hS hls (mm_fc hlc trivial) (mm_sd hsc) hb1 hb2))
theorem mm_iinc (j : Nat) {i : Nat} {n : Int} {x v : Int32} (hd : decode K.2.1 pc = .ok (.iinc i n, 3)) (hj : lv[j]? = some (i, .int x)) (hv : x + Int32.ofInt n = v) (hn : i < K.2.2.1) (hl : (i, .int v) :: lv.filter (fun q => !(q.1 == i) && !(q.1 + 1 == i && q.2.category == 2)) = lv2) (h : mm_W l G K (pc + 3) lv2 st b m Q) : mm_W l G K pc lv st b m Q := by
  intro p e s mid args below meth c mc ms n0 ad0 ad A H locs cells slots ls C hA hn0 had hR hS hls hlc hsc hb1 hb2
  subst hl
  exact lv_iinc (k := j) C.1 C.2.1 hd hls (by rw [List.getElem?_map, hj]; rfl) hv hn (mm_f1 (ad := ad) i (.int v)) (fun ls hls => (h p e s mid args below meth c mc ms n0 ad0 ad A H locs cells slots ls C hA hn0 had hR hS hls (mm_fc hlc trivial) hsc hb1 hb2))
end MMS
section MMA
variable {l : Launch} {G : mm_G} {K : mm_M} {pc : Nat} {lv lv2 : List (Nat × Value)} {st : List Value} {b : Nat} {m : mm_Mem} {Q : mm_O → mm_Mem → Prop}
theorem mm_iadd {x y : Int32} (hd : decode K.2.1 pc = .ok (.iadd, 1)) (h : mm_W l G K (pc + 1) lv (.int (x + y) :: st) b m Q) : mm_W l G K pc lv (.int y :: .int x :: st) b m Q := by
  intro p e s mid args below meth c mc ms n0 ad0 ad A H locs cells slots ls C hA hn had hR hS hls hlc hsc hb1 hb2
  exact lv_iadd C.1 C.2.1 hd (h p e s mid args below meth c mc ms n0 ad0 ad A H locs cells slots ls C hA hn had hR hS hls hlc (mm_sc trivial (mm_sd (mm_sd hsc))) hb1 hb2)
theorem mm_isub {x y : Int32} (hd : decode K.2.1 pc = .ok (.isub, 1)) (h : mm_W l G K (pc + 1) lv (.int (x - y) :: st) b m Q) : mm_W l G K pc lv (.int y :: .int x :: st) b m Q := by
  intro p e s mid args below meth c mc ms n0 ad0 ad A H locs cells slots ls C hA hn had hR hS hls hlc hsc hb1 hb2
  exact lv_isub C.1 C.2.1 hd (h p e s mid args below meth c mc ms n0 ad0 ad A H locs cells slots ls C hA hn had hR hS hls hlc (mm_sc trivial (mm_sd (mm_sd hsc))) hb1 hb2)
theorem mm_imul {x y : Int32} (hd : decode K.2.1 pc = .ok (.imul, 1)) (h : mm_W l G K (pc + 1) lv (.int (x * y) :: st) b m Q) : mm_W l G K pc lv (.int y :: .int x :: st) b m Q := by
  intro p e s mid args below meth c mc ms n0 ad0 ad A H locs cells slots ls C hA hn had hR hS hls hlc hsc hb1 hb2
  exact lv_imul C.1 C.2.1 hd (h p e s mid args below meth c mc ms n0 ad0 ad A H locs cells slots ls C hA hn had hR hS hls hlc (mm_sc trivial (mm_sd (mm_sd hsc))) hb1 hb2)
theorem mm_iand {x y : Int32} (hd : decode K.2.1 pc = .ok (.iand, 1)) (h : mm_W l G K (pc + 1) lv (.int (x &&& y) :: st) b m Q) : mm_W l G K pc lv (.int y :: .int x :: st) b m Q := by
  intro p e s mid args below meth c mc ms n0 ad0 ad A H locs cells slots ls C hA hn had hR hS hls hlc hsc hb1 hb2
  exact lv_iand C.1 C.2.1 hd (h p e s mid args below meth c mc ms n0 ad0 ad A H locs cells slots ls C hA hn had hR hS hls hlc (mm_sc trivial (mm_sd (mm_sd hsc))) hb1 hb2)
theorem mm_ior {x y : Int32} (hd : decode K.2.1 pc = .ok (.ior, 1)) (h : mm_W l G K (pc + 1) lv (.int (x ||| y) :: st) b m Q) : mm_W l G K pc lv (.int y :: .int x :: st) b m Q := by
  intro p e s mid args below meth c mc ms n0 ad0 ad A H locs cells slots ls C hA hn had hR hS hls hlc hsc hb1 hb2
  exact lv_ior C.1 C.2.1 hd (h p e s mid args below meth c mc ms n0 ad0 ad A H locs cells slots ls C hA hn had hR hS hls hlc (mm_sc trivial (mm_sd (mm_sd hsc))) hb1 hb2)
theorem mm_ixor {x y : Int32} (hd : decode K.2.1 pc = .ok (.ixor, 1)) (h : mm_W l G K (pc + 1) lv (.int (x ^^^ y) :: st) b m Q) : mm_W l G K pc lv (.int y :: .int x :: st) b m Q := by
  intro p e s mid args below meth c mc ms n0 ad0 ad A H locs cells slots ls C hA hn had hR hS hls hlc hsc hb1 hb2
  exact lv_ixor C.1 C.2.1 hd (h p e s mid args below meth c mc ms n0 ad0 ad A H locs cells slots ls C hA hn had hR hS hls hlc (mm_sc trivial (mm_sd (mm_sd hsc))) hb1 hb2)
theorem mm_ishl {x y : Int32} (hd : decode K.2.1 pc = .ok (.ishl, 1)) (h : mm_W l G K (pc + 1) lv (.int (x <<< (y &&& 31)) :: st) b m Q) : mm_W l G K pc lv (.int y :: .int x :: st) b m Q := by
  intro p e s mid args below meth c mc ms n0 ad0 ad A H locs cells slots ls C hA hn had hR hS hls hlc hsc hb1 hb2
  exact lv_ishl C.1 C.2.1 hd (h p e s mid args below meth c mc ms n0 ad0 ad A H locs cells slots ls C hA hn had hR hS hls hlc (mm_sc trivial (mm_sd (mm_sd hsc))) hb1 hb2)
theorem mm_ishr {x y : Int32} (hd : decode K.2.1 pc = .ok (.ishr, 1)) (h : mm_W l G K (pc + 1) lv (.int (x >>> (y &&& 31)) :: st) b m Q) : mm_W l G K pc lv (.int y :: .int x :: st) b m Q := by
  intro p e s mid args below meth c mc ms n0 ad0 ad A H locs cells slots ls C hA hn had hR hS hls hlc hsc hb1 hb2
  exact lv_ishr C.1 C.2.1 hd (h p e s mid args below meth c mc ms n0 ad0 ad A H locs cells slots ls C hA hn had hR hS hls hlc (mm_sc trivial (mm_sd (mm_sd hsc))) hb1 hb2)
theorem mm_iushr {x y : Int32} (hd : decode K.2.1 pc = .ok (.iushr, 1)) (h : mm_W l G K (pc + 1) lv (.int (x.toUInt32 >>> (y.toUInt32 &&& Int32.toUInt32 31)).toInt32 :: st) b m Q) : mm_W l G K pc lv (.int y :: .int x :: st) b m Q := by
  intro p e s mid args below meth c mc ms n0 ad0 ad A H locs cells slots ls C hA hn had hR hS hls hlc hsc hb1 hb2
  exact lv_iushr C.1 C.2.1 hd rfl (h p e s mid args below meth c mc ms n0 ad0 ad A H locs cells slots ls C hA hn had hR hS hls hlc (mm_sc trivial (mm_sd (mm_sd hsc))) hb1 hb2)
theorem mm_irem {x y : Int32} (hd : decode K.2.1 pc = .ok (.irem, 1)) (hy : ¬ y = 0) (h : mm_W l G K (pc + 1) lv (.int (x - x / y * y) :: st) b m Q) : mm_W l G K pc lv (.int y :: .int x :: st) b m Q := by
  intro p e s mid args below meth c mc ms n0 ad0 ad A H locs cells slots ls C hA hn had hR hS hls hlc hsc hb1 hb2
  exact lv_irem C.1 C.2.1 hd hy (h p e s mid args below meth c mc ms n0 ad0 ad A H locs cells slots ls C hA hn had hR hS hls hlc (mm_sc trivial (mm_sd (mm_sd hsc))) hb1 hb2)
theorem mm_ladd {x y : Int64} (hd : decode K.2.1 pc = .ok (.ladd, 1)) (h : mm_W l G K (pc + 1) lv (.long (x + y) :: st) b m Q) : mm_W l G K pc lv (.long y :: .long x :: st) b m Q := by
  intro p e s mid args below meth c mc ms n0 ad0 ad A H locs cells slots ls C hA hn had hR hS hls hlc hsc hb1 hb2
  exact lv_ladd C.1 C.2.1 hd (h p e s mid args below meth c mc ms n0 ad0 ad A H locs cells slots ls C hA hn had hR hS hls hlc (mm_sc trivial (mm_sd (mm_sd hsc))) hb1 hb2)
theorem mm_lsub {x y : Int64} (hd : decode K.2.1 pc = .ok (.lsub, 1)) (h : mm_W l G K (pc + 1) lv (.long (x - y) :: st) b m Q) : mm_W l G K pc lv (.long y :: .long x :: st) b m Q := by
  intro p e s mid args below meth c mc ms n0 ad0 ad A H locs cells slots ls C hA hn had hR hS hls hlc hsc hb1 hb2
  exact lv_lsub C.1 C.2.1 hd (h p e s mid args below meth c mc ms n0 ad0 ad A H locs cells slots ls C hA hn had hR hS hls hlc (mm_sc trivial (mm_sd (mm_sd hsc))) hb1 hb2)
theorem mm_lmul {x y : Int64} (hd : decode K.2.1 pc = .ok (.lmul, 1)) (h : mm_W l G K (pc + 1) lv (.long (x * y) :: st) b m Q) : mm_W l G K pc lv (.long y :: .long x :: st) b m Q := by
  intro p e s mid args below meth c mc ms n0 ad0 ad A H locs cells slots ls C hA hn had hR hS hls hlc hsc hb1 hb2
  exact lv_lmul C.1 C.2.1 hd (h p e s mid args below meth c mc ms n0 ad0 ad A H locs cells slots ls C hA hn had hR hS hls hlc (mm_sc trivial (mm_sd (mm_sd hsc))) hb1 hb2)
theorem mm_land {x y : Int64} (hd : decode K.2.1 pc = .ok (.land, 1)) (h : mm_W l G K (pc + 1) lv (.long (x &&& y) :: st) b m Q) : mm_W l G K pc lv (.long y :: .long x :: st) b m Q := by
  intro p e s mid args below meth c mc ms n0 ad0 ad A H locs cells slots ls C hA hn had hR hS hls hlc hsc hb1 hb2
  exact lv_land C.1 C.2.1 hd (h p e s mid args below meth c mc ms n0 ad0 ad A H locs cells slots ls C hA hn had hR hS hls hlc (mm_sc trivial (mm_sd (mm_sd hsc))) hb1 hb2)
theorem mm_lor {x y : Int64} (hd : decode K.2.1 pc = .ok (.lor, 1)) (h : mm_W l G K (pc + 1) lv (.long (x ||| y) :: st) b m Q) : mm_W l G K pc lv (.long y :: .long x :: st) b m Q := by
  intro p e s mid args below meth c mc ms n0 ad0 ad A H locs cells slots ls C hA hn had hR hS hls hlc hsc hb1 hb2
  exact lv_lor C.1 C.2.1 hd (h p e s mid args below meth c mc ms n0 ad0 ad A H locs cells slots ls C hA hn had hR hS hls hlc (mm_sc trivial (mm_sd (mm_sd hsc))) hb1 hb2)
theorem mm_lxor {x y : Int64} (hd : decode K.2.1 pc = .ok (.lxor, 1)) (h : mm_W l G K (pc + 1) lv (.long (x ^^^ y) :: st) b m Q) : mm_W l G K pc lv (.long y :: .long x :: st) b m Q := by
  intro p e s mid args below meth c mc ms n0 ad0 ad A H locs cells slots ls C hA hn had hR hS hls hlc hsc hb1 hb2
  exact lv_lxor C.1 C.2.1 hd (h p e s mid args below meth c mc ms n0 ad0 ad A H locs cells slots ls C hA hn had hR hS hls hlc (mm_sc trivial (mm_sd (mm_sd hsc))) hb1 hb2)
theorem mm_lcmp {x y : Int64} (hd : decode K.2.1 pc = .ok (.lcmp, 1)) (h : mm_W l G K (pc + 1) lv (.int (lg_cmp x y) :: st) b m Q) : mm_W l G K pc lv (.long y :: .long x :: st) b m Q := by
  intro p e s mid args below meth c mc ms n0 ad0 ad A H locs cells slots ls C hA hn had hR hS hls hlc hsc hb1 hb2
  exact W.lcmp C.1 C.2.1 hd (h p e s mid args below meth c mc ms n0 ad0 ad A H locs cells slots ls C hA hn had hR hS hls hlc (mm_sc trivial (mm_sd (mm_sd hsc))) hb1 hb2)
theorem mm_lshl {x : Int64} {y : Int32} (hd : decode K.2.1 pc = .ok (.lshl, 1)) (h : mm_W l G K (pc + 1) lv (.long (x <<< (y.toInt64 &&& 63)) :: st) b m Q) : mm_W l G K pc lv (.int y :: .long x :: st) b m Q := by
  intro p e s mid args below meth c mc ms n0 ad0 ad A H locs cells slots ls C hA hn had hR hS hls hlc hsc hb1 hb2
  exact lv_lshl C.1 C.2.1 hd rfl (h p e s mid args below meth c mc ms n0 ad0 ad A H locs cells slots ls C hA hn had hR hS hls hlc (mm_sc trivial (mm_sd (mm_sd hsc))) hb1 hb2)
theorem mm_i2l {x : Int32} (hd : decode K.2.1 pc = .ok (.i2l, 1)) (h : mm_W l G K (pc + 1) lv (.long x.toInt64 :: st) b m Q) : mm_W l G K pc lv (.int x :: st) b m Q := by
  intro p e s mid args below meth c mc ms n0 ad0 ad A H locs cells slots ls C hA hn had hR hS hls hlc hsc hb1 hb2
  exact lv_i2l C.1 C.2.1 hd rfl (h p e s mid args below meth c mc ms n0 ad0 ad A H locs cells slots ls C hA hn had hR hS hls hlc (mm_sc trivial (mm_sd hsc)) hb1 hb2)
theorem mm_l2i {x : Int64} (hd : decode K.2.1 pc = .ok (.l2i, 1)) (h : mm_W l G K (pc + 1) lv (.int x.toInt32 :: st) b m Q) : mm_W l G K pc lv (.long x :: st) b m Q := by
  intro p e s mid args below meth c mc ms n0 ad0 ad A H locs cells slots ls C hA hn had hR hS hls hlc hsc hb1 hb2
  exact lv_l2i C.1 C.2.1 hd rfl (h p e s mid args below meth c mc ms n0 ad0 ad A H locs cells slots ls C hA hn had hR hS hls hlc (mm_sc trivial (mm_sd hsc)) hb1 hb2)
theorem mm_i2b {x : Int32} (hd : decode K.2.1 pc = .ok (.i2b, 1)) (h : mm_W l G K (pc + 1) lv (.int x.toInt8.toInt32 :: st) b m Q) : mm_W l G K pc lv (.int x :: st) b m Q := by
  intro p e s mid args below meth c mc ms n0 ad0 ad A H locs cells slots ls C hA hn had hR hS hls hlc hsc hb1 hb2
  exact lv_i2b C.1 C.2.1 hd rfl (h p e s mid args below meth c mc ms n0 ad0 ad A H locs cells slots ls C hA hn had hR hS hls hlc (mm_sc trivial (mm_sd hsc)) hb1 hb2)
theorem mm_ineg {x : Int32} (hd : decode K.2.1 pc = .ok (.ineg, 1)) (h : mm_W l G K (pc + 1) lv (.int (-x) :: st) b m Q) : mm_W l G K pc lv (.int x :: st) b m Q := by
  intro p e s mid args below meth c mc ms n0 ad0 ad A H locs cells slots ls C hA hn had hR hS hls hlc hsc hb1 hb2
  exact lv_ineg C.1 C.2.1 hd (h p e s mid args below meth c mc ms n0 ad0 ad A H locs cells slots ls C hA hn had hR hS hls hlc (mm_sc trivial (mm_sd hsc)) hb1 hb2)
theorem mm_dup {v : Value} (hd : decode K.2.1 pc = .ok (.dup, 1)) (hv : v.category = 1) (h : mm_W l G K (pc + 1) lv (v :: v :: st) b m Q) : mm_W l G K pc lv (v :: st) b m Q := by
  intro p e s mid args below meth c mc ms n0 ad0 ad A H locs cells slots ls C hA hn had hR hS hls hlc hsc hb1 hb2
  exact lv_dup C.1 C.2.1 hd ((mm_v_cat ad v).trans hv) (h p e s mid args below meth c mc ms n0 ad0 ad A H locs cells slots ls C hA hn had hR hS hls hlc (mm_sc (mm_sh hsc) hsc) hb1 hb2)
theorem mm_pop {v : Value} (hd : decode K.2.1 pc = .ok (.pop, 1)) (hv : v.category = 1) (h : mm_W l G K (pc + 1) lv st b m Q) : mm_W l G K pc lv (v :: st) b m Q := by
  intro p e s mid args below meth c mc ms n0 ad0 ad A H locs cells slots ls C hA hn had hR hS hls hlc hsc hb1 hb2
  exact lv_pop C.1 C.2.1 hd ((mm_v_cat ad v).trans hv) (h p e s mid args below meth c mc ms n0 ad0 ad A H locs cells slots ls C hA hn had hR hS hls hlc (mm_sd hsc) hb1 hb2)
theorem mm_pop2 {v : Value} (hd : decode K.2.1 pc = .ok (.pop2, 1)) (hv : v.category = 2) (h : mm_W l G K (pc + 1) lv st b m Q) : mm_W l G K pc lv (v :: st) b m Q := by
  intro p e s mid args below meth c mc ms n0 ad0 ad A H locs cells slots ls C hA hn had hR hS hls hlc hsc hb1 hb2
  exact lv_pop2_2 C.1 C.2.1 hd ((mm_v_cat ad v).trans hv) (h p e s mid args below meth c mc ms n0 ad0 ad A H locs cells slots ls C hA hn had hR hS hls hlc (mm_sd hsc) hb1 hb2)
theorem mm_dup_x1 {v w : Value} (hd : decode K.2.1 pc = .ok (.dup_x1, 1)) (hv : v.category = 1) (hw : w.category = 1) (h : mm_W l G K (pc + 1) lv (v :: w :: v :: st) b m Q) : mm_W l G K pc lv (v :: w :: st) b m Q := by
  intro p e s mid args below meth c mc ms n0 ad0 ad A H locs cells slots ls C hA hn had hR hS hls hlc hsc hb1 hb2
  exact lv_dup_x1 C.1 C.2.1 hd ((mm_v_cat ad v).trans hv) ((mm_v_cat ad w).trans hw) (h p e s mid args below meth c mc ms n0 ad0 ad A H locs cells slots ls C hA hn had hR hS hls hlc (mm_sc (mm_sh hsc) (mm_sc (mm_sh (mm_sd hsc)) (mm_sc (mm_sh hsc) (mm_sd (mm_sd hsc))))) hb1 hb2)
theorem mm_dup_x2 {v w x : Value} (hd : decode K.2.1 pc = .ok (.dup_x2, 1)) (hv : v.category = 1) (hw : w.category = 1) (hx : x.category = 1) (h : mm_W l G K (pc + 1) lv (v :: w :: x :: v :: st) b m Q) : mm_W l G K pc lv (v :: w :: x :: st) b m Q := by
  intro p e s mid args below meth c mc ms n0 ad0 ad A H locs cells slots ls C hA hn had hR hS hls hlc hsc hb1 hb2
  exact lv_dup_x2 C.1 C.2.1 hd ((mm_v_cat ad v).trans hv) ((mm_v_cat ad w).trans hw) ((mm_v_cat ad x).trans hx) (h p e s mid args below meth c mc ms n0 ad0 ad A H locs cells slots ls C hA hn had hR hS hls hlc (mm_sc (mm_sh hsc) (mm_sc (mm_sh (mm_sd hsc)) (mm_sc (mm_sh (mm_sd (mm_sd hsc))) (mm_sc (mm_sh hsc) (mm_sd (mm_sd (mm_sd hsc))))))) hb1 hb2)
theorem mm_dup2 {v w : Value} (hd : decode K.2.1 pc = .ok (.dup2, 1)) (hv : v.category = 1) (hw : w.category = 1) (h : mm_W l G K (pc + 1) lv (v :: w :: v :: w :: st) b m Q) : mm_W l G K pc lv (v :: w :: st) b m Q := by
  intro p e s mid args below meth c mc ms n0 ad0 ad A H locs cells slots ls C hA hn had hR hS hls hlc hsc hb1 hb2
  exact lv_dup2_11 C.1 C.2.1 hd ((mm_v_cat ad v).trans hv) ((mm_v_cat ad w).trans hw) (h p e s mid args below meth c mc ms n0 ad0 ad A H locs cells slots ls C hA hn had hR hS hls hlc (mm_sc (mm_sh hsc) (mm_sc (mm_sh (mm_sd hsc)) hsc)) hb1 hb2)
theorem mm_dup2L {v : Value} (hd : decode K.2.1 pc = .ok (.dup2, 1)) (hv : v.category = 2) (h : mm_W l G K (pc + 1) lv (v :: v :: st) b m Q) : mm_W l G K pc lv (v :: st) b m Q := by
  intro p e s mid args below meth c mc ms n0 ad0 ad A H locs cells slots ls C hA hn had hR hS hls hlc hsc hb1 hb2
  exact lv_dup2_2 C.1 C.2.1 hd ((mm_v_cat ad v).trans hv) (h p e s mid args below meth c mc ms n0 ad0 ad A H locs cells slots ls C hA hn had hR hS hls hlc (mm_sc (mm_sh hsc) hsc) hb1 hb2)
theorem mm_dup2_x1L {v w : Value} (hd : decode K.2.1 pc = .ok (.dup2_x1, 1)) (hv : v.category = 2) (hw : w.category = 1) (h : mm_W l G K (pc + 1) lv (v :: w :: v :: st) b m Q) : mm_W l G K pc lv (v :: w :: st) b m Q := by
  intro p e s mid args below meth c mc ms n0 ad0 ad A H locs cells slots ls C hA hn had hR hS hls hlc hsc hb1 hb2
  exact lv_dup2_x1_2 C.1 C.2.1 hd ((mm_v_cat ad v).trans hv) ((mm_v_cat ad w).trans hw) (h p e s mid args below meth c mc ms n0 ad0 ad A H locs cells slots ls C hA hn had hR hS hls hlc (mm_sc (mm_sh hsc) (mm_sc (mm_sh (mm_sd hsc)) (mm_sc (mm_sh hsc) (mm_sd (mm_sd hsc))))) hb1 hb2)
theorem mm_goto {off : Int} {tgt : Nat} (hd : decode K.2.1 pc = .ok (.goto off, 3)) (ht : (pc : Int) + off = (tgt : Int)) (h : mm_W l G K tgt lv st b m Q) : mm_W l G K pc lv st b m Q := by
  intro p e s mid args below meth c mc ms n0 ad0 ad A H locs cells slots ls C hA hn had hR hS hls hlc hsc hb1 hb2
  exact lv_goto C.1 C.2.1 hd ht (h p e s mid args below meth c mc ms n0 ad0 ad A H locs cells slots ls C hA hn had hR hS hls hlc hsc hb1 hb2)
theorem mm_if_eq {x : Int32} {off : Int} {tgt : Nat} (hd : decode K.2.1 pc = .ok (.ifCond .eq off, 3)) (ht : (pc : Int) + off = (tgt : Int)) (k1 : x = 0 → mm_W l G K tgt lv st b m Q) (k2 : ¬ x = 0 → mm_W l G K (pc + 3) lv st b m Q) : mm_W l G K pc lv (.int x :: st) b m Q := by
  intro p e s mid args below meth c mc ms n0 ad0 ad A H locs cells slots ls C hA hn had hR hS hls hlc hsc hb1 hb2
  exact lv_if_eq C.1 C.2.1 hd ht (fun z => (k1 z p e s mid args below meth c mc ms n0 ad0 ad A H locs cells slots ls C hA hn had hR hS hls hlc (mm_sd hsc) hb1 hb2)) (fun z => (k2 z p e s mid args below meth c mc ms n0 ad0 ad A H locs cells slots ls C hA hn had hR hS hls hlc (mm_sd hsc) hb1 hb2))
theorem mm_icmp_eq {x y : Int32} {off : Int} {tgt : Nat} (hd : decode K.2.1 pc = .ok (.if_icmp .eq off, 3)) (ht : (pc : Int) + off = (tgt : Int)) (k1 : x = y → mm_W l G K tgt lv st b m Q) (k2 : ¬ x = y → mm_W l G K (pc + 3) lv st b m Q) : mm_W l G K pc lv (.int y :: .int x :: st) b m Q := by
  intro p e s mid args below meth c mc ms n0 ad0 ad A H locs cells slots ls C hA hn had hR hS hls hlc hsc hb1 hb2
  exact lv_icmp_eq C.1 C.2.1 hd ht (fun z => (k1 z p e s mid args below meth c mc ms n0 ad0 ad A H locs cells slots ls C hA hn had hR hS hls hlc (mm_sd (mm_sd hsc)) hb1 hb2)) (fun z => (k2 z p e s mid args below meth c mc ms n0 ad0 ad A H locs cells slots ls C hA hn had hR hS hls hlc (mm_sd (mm_sd hsc)) hb1 hb2))
theorem mm_if_ne {x : Int32} {off : Int} {tgt : Nat} (hd : decode K.2.1 pc = .ok (.ifCond .ne off, 3)) (ht : (pc : Int) + off = (tgt : Int)) (k1 : ¬ x = 0 → mm_W l G K tgt lv st b m Q) (k2 : x = 0 → mm_W l G K (pc + 3) lv st b m Q) : mm_W l G K pc lv (.int x :: st) b m Q := by
  intro p e s mid args below meth c mc ms n0 ad0 ad A H locs cells slots ls C hA hn had hR hS hls hlc hsc hb1 hb2
  exact lv_if_ne C.1 C.2.1 hd ht (fun z => (k1 z p e s mid args below meth c mc ms n0 ad0 ad A H locs cells slots ls C hA hn had hR hS hls hlc (mm_sd hsc) hb1 hb2)) (fun z => (k2 z p e s mid args below meth c mc ms n0 ad0 ad A H locs cells slots ls C hA hn had hR hS hls hlc (mm_sd hsc) hb1 hb2))
theorem mm_icmp_ne {x y : Int32} {off : Int} {tgt : Nat} (hd : decode K.2.1 pc = .ok (.if_icmp .ne off, 3)) (ht : (pc : Int) + off = (tgt : Int)) (k1 : ¬ x = y → mm_W l G K tgt lv st b m Q) (k2 : x = y → mm_W l G K (pc + 3) lv st b m Q) : mm_W l G K pc lv (.int y :: .int x :: st) b m Q := by
  intro p e s mid args below meth c mc ms n0 ad0 ad A H locs cells slots ls C hA hn had hR hS hls hlc hsc hb1 hb2
  exact lv_icmp_ne C.1 C.2.1 hd ht (fun z => (k1 z p e s mid args below meth c mc ms n0 ad0 ad A H locs cells slots ls C hA hn had hR hS hls hlc (mm_sd (mm_sd hsc)) hb1 hb2)) (fun z => (k2 z p e s mid args below meth c mc ms n0 ad0 ad A H locs cells slots ls C hA hn had hR hS hls hlc (mm_sd (mm_sd hsc)) hb1 hb2))
theorem mm_if_lt {x : Int32} {off : Int} {tgt : Nat} (hd : decode K.2.1 pc = .ok (.ifCond .lt off, 3)) (ht : (pc : Int) + off = (tgt : Int)) (k1 : x < 0 → mm_W l G K tgt lv st b m Q) (k2 : ¬ x < 0 → mm_W l G K (pc + 3) lv st b m Q) : mm_W l G K pc lv (.int x :: st) b m Q := by
  intro p e s mid args below meth c mc ms n0 ad0 ad A H locs cells slots ls C hA hn had hR hS hls hlc hsc hb1 hb2
  exact lv_if_lt C.1 C.2.1 hd ht (fun z => (k1 z p e s mid args below meth c mc ms n0 ad0 ad A H locs cells slots ls C hA hn had hR hS hls hlc (mm_sd hsc) hb1 hb2)) (fun z => (k2 z p e s mid args below meth c mc ms n0 ad0 ad A H locs cells slots ls C hA hn had hR hS hls hlc (mm_sd hsc) hb1 hb2))
theorem mm_icmp_lt {x y : Int32} {off : Int} {tgt : Nat} (hd : decode K.2.1 pc = .ok (.if_icmp .lt off, 3)) (ht : (pc : Int) + off = (tgt : Int)) (k1 : x < y → mm_W l G K tgt lv st b m Q) (k2 : ¬ x < y → mm_W l G K (pc + 3) lv st b m Q) : mm_W l G K pc lv (.int y :: .int x :: st) b m Q := by
  intro p e s mid args below meth c mc ms n0 ad0 ad A H locs cells slots ls C hA hn had hR hS hls hlc hsc hb1 hb2
  exact lv_icmp_lt C.1 C.2.1 hd ht (fun z => (k1 z p e s mid args below meth c mc ms n0 ad0 ad A H locs cells slots ls C hA hn had hR hS hls hlc (mm_sd (mm_sd hsc)) hb1 hb2)) (fun z => (k2 z p e s mid args below meth c mc ms n0 ad0 ad A H locs cells slots ls C hA hn had hR hS hls hlc (mm_sd (mm_sd hsc)) hb1 hb2))
theorem mm_if_ge {x : Int32} {off : Int} {tgt : Nat} (hd : decode K.2.1 pc = .ok (.ifCond .ge off, 3)) (ht : (pc : Int) + off = (tgt : Int)) (k1 : 0 ≤ x → mm_W l G K tgt lv st b m Q) (k2 : ¬ 0 ≤ x → mm_W l G K (pc + 3) lv st b m Q) : mm_W l G K pc lv (.int x :: st) b m Q := by
  intro p e s mid args below meth c mc ms n0 ad0 ad A H locs cells slots ls C hA hn had hR hS hls hlc hsc hb1 hb2
  exact lv_if_ge C.1 C.2.1 hd ht (fun z => (k1 z p e s mid args below meth c mc ms n0 ad0 ad A H locs cells slots ls C hA hn had hR hS hls hlc (mm_sd hsc) hb1 hb2)) (fun z => (k2 z p e s mid args below meth c mc ms n0 ad0 ad A H locs cells slots ls C hA hn had hR hS hls hlc (mm_sd hsc) hb1 hb2))
theorem mm_icmp_ge {x y : Int32} {off : Int} {tgt : Nat} (hd : decode K.2.1 pc = .ok (.if_icmp .ge off, 3)) (ht : (pc : Int) + off = (tgt : Int)) (k1 : y ≤ x → mm_W l G K tgt lv st b m Q) (k2 : ¬ y ≤ x → mm_W l G K (pc + 3) lv st b m Q) : mm_W l G K pc lv (.int y :: .int x :: st) b m Q := by
  intro p e s mid args below meth c mc ms n0 ad0 ad A H locs cells slots ls C hA hn had hR hS hls hlc hsc hb1 hb2
  exact lv_icmp_ge C.1 C.2.1 hd ht (fun z => (k1 z p e s mid args below meth c mc ms n0 ad0 ad A H locs cells slots ls C hA hn had hR hS hls hlc (mm_sd (mm_sd hsc)) hb1 hb2)) (fun z => (k2 z p e s mid args below meth c mc ms n0 ad0 ad A H locs cells slots ls C hA hn had hR hS hls hlc (mm_sd (mm_sd hsc)) hb1 hb2))
theorem mm_if_gt {x : Int32} {off : Int} {tgt : Nat} (hd : decode K.2.1 pc = .ok (.ifCond .gt off, 3)) (ht : (pc : Int) + off = (tgt : Int)) (k1 : 0 < x → mm_W l G K tgt lv st b m Q) (k2 : ¬ 0 < x → mm_W l G K (pc + 3) lv st b m Q) : mm_W l G K pc lv (.int x :: st) b m Q := by
  intro p e s mid args below meth c mc ms n0 ad0 ad A H locs cells slots ls C hA hn had hR hS hls hlc hsc hb1 hb2
  exact lv_if_gt C.1 C.2.1 hd ht (fun z => (k1 z p e s mid args below meth c mc ms n0 ad0 ad A H locs cells slots ls C hA hn had hR hS hls hlc (mm_sd hsc) hb1 hb2)) (fun z => (k2 z p e s mid args below meth c mc ms n0 ad0 ad A H locs cells slots ls C hA hn had hR hS hls hlc (mm_sd hsc) hb1 hb2))
theorem mm_icmp_gt {x y : Int32} {off : Int} {tgt : Nat} (hd : decode K.2.1 pc = .ok (.if_icmp .gt off, 3)) (ht : (pc : Int) + off = (tgt : Int)) (k1 : y < x → mm_W l G K tgt lv st b m Q) (k2 : ¬ y < x → mm_W l G K (pc + 3) lv st b m Q) : mm_W l G K pc lv (.int y :: .int x :: st) b m Q := by
  intro p e s mid args below meth c mc ms n0 ad0 ad A H locs cells slots ls C hA hn had hR hS hls hlc hsc hb1 hb2
  exact lv_icmp_gt C.1 C.2.1 hd ht (fun z => (k1 z p e s mid args below meth c mc ms n0 ad0 ad A H locs cells slots ls C hA hn had hR hS hls hlc (mm_sd (mm_sd hsc)) hb1 hb2)) (fun z => (k2 z p e s mid args below meth c mc ms n0 ad0 ad A H locs cells slots ls C hA hn had hR hS hls hlc (mm_sd (mm_sd hsc)) hb1 hb2))
theorem mm_if_le {x : Int32} {off : Int} {tgt : Nat} (hd : decode K.2.1 pc = .ok (.ifCond .le off, 3)) (ht : (pc : Int) + off = (tgt : Int)) (k1 : x ≤ 0 → mm_W l G K tgt lv st b m Q) (k2 : ¬ x ≤ 0 → mm_W l G K (pc + 3) lv st b m Q) : mm_W l G K pc lv (.int x :: st) b m Q := by
  intro p e s mid args below meth c mc ms n0 ad0 ad A H locs cells slots ls C hA hn had hR hS hls hlc hsc hb1 hb2
  exact lv_if_le C.1 C.2.1 hd ht (fun z => (k1 z p e s mid args below meth c mc ms n0 ad0 ad A H locs cells slots ls C hA hn had hR hS hls hlc (mm_sd hsc) hb1 hb2)) (fun z => (k2 z p e s mid args below meth c mc ms n0 ad0 ad A H locs cells slots ls C hA hn had hR hS hls hlc (mm_sd hsc) hb1 hb2))
theorem mm_icmp_le {x y : Int32} {off : Int} {tgt : Nat} (hd : decode K.2.1 pc = .ok (.if_icmp .le off, 3)) (ht : (pc : Int) + off = (tgt : Int)) (k1 : x ≤ y → mm_W l G K tgt lv st b m Q) (k2 : ¬ x ≤ y → mm_W l G K (pc + 3) lv st b m Q) : mm_W l G K pc lv (.int y :: .int x :: st) b m Q := by
  intro p e s mid args below meth c mc ms n0 ad0 ad A H locs cells slots ls C hA hn had hR hS hls hlc hsc hb1 hb2
  exact lv_icmp_le C.1 C.2.1 hd ht (fun z => (k1 z p e s mid args below meth c mc ms n0 ad0 ad A H locs cells slots ls C hA hn had hR hS hls hlc (mm_sd (mm_sd hsc)) hb1 hb2)) (fun z => (k2 z p e s mid args below meth c mc ms n0 ad0 ad A H locs cells slots ls C hA hn had hR hS hls hlc (mm_sd (mm_sd hsc)) hb1 hb2))
theorem mm_ifnonnull {r : Nat} {off : Int} {tgt : Nat} (hd : decode K.2.1 pc = .ok (.ifnonnull off, 3)) (ht : (pc : Int) + off = (tgt : Int)) (h : mm_W l G K tgt lv st b m Q) : mm_W l G K pc lv (.ref r :: st) b m Q := by
  intro p e s mid args below meth c mc ms n0 ad0 ad A H locs cells slots ls C hA hn had hR hS hls hlc hsc hb1 hb2
  exact lv_ifnonnull C.1 C.2.1 hd ht (h p e s mid args below meth c mc ms n0 ad0 ad A H locs cells slots ls C hA hn had hR hS hls hlc (mm_sd hsc) hb1 hb2)
theorem mm_ifnull {r : Nat} {off : Int} (hd : decode K.2.1 pc = .ok (.ifnull off, 3)) (h : mm_W l G K (pc + 3) lv st b m Q) : mm_W l G K pc lv (.ref r :: st) b m Q := by
  intro p e s mid args below meth c mc ms n0 ad0 ad A H locs cells slots ls C hA hn had hR hS hls hlc hsc hb1 hb2
  exact lv_ifnull C.1 C.2.1 hd (h p e s mid args below meth c mc ms n0 ad0 ad A H locs cells slots ls C hA hn had hR hS hls hlc (mm_sd hsc) hb1 hb2)
theorem mm_ifnonnullN {off : Int} (hd : decode K.2.1 pc = .ok (.ifnonnull off, 3)) (h : mm_W l G K (pc + 3) lv st b m Q) : mm_W l G K pc lv (.null :: st) b m Q := by
  intro p e s mid args below meth c mc ms n0 ad0 ad A H locs cells slots ls C hA hn had hR hS hls hlc hsc hb1 hb2
  exact lv_ifnonnullN C.1 C.2.1 hd (h p e s mid args below meth c mc ms n0 ad0 ad A H locs cells slots ls C hA hn had hR hS hls hlc (mm_sd hsc) hb1 hb2)
theorem mm_ifnullN {off : Int} {tgt : Nat} (hd : decode K.2.1 pc = .ok (.ifnull off, 3)) (ht : (pc : Int) + off = (tgt : Int)) (h : mm_W l G K tgt lv st b m Q) : mm_W l G K pc lv (.null :: st) b m Q := by
  intro p e s mid args below meth c mc ms n0 ad0 ad A H locs cells slots ls C hA hn had hR hS hls hlc hsc hb1 hb2
  exact lv_ifnullN C.1 C.2.1 hd ht (h p e s mid args below meth c mc ms n0 ad0 ad A H locs cells slots ls C hA hn had hR hS hls hlc (mm_sd hsc) hb1 hb2)
theorem mm_tableOut {dflt lo hi : Int} {offs : Array Int} {len : Nat} {x : Int32} {tgt : Nat} (hd : decode K.2.1 pc = .ok (.tableswitch dflt lo hi offs, len)) (hx : x.toInt < lo ∨ hi < x.toInt) (ht : (pc : Int) + dflt = (tgt : Int)) (h : mm_W l G K tgt lv st b m Q) : mm_W l G K pc lv (.int x :: st) b m Q := by
  intro p e s mid args below meth c mc ms n0 ad0 ad A H locs cells slots ls C hA hn had hR hS hls hlc hsc hb1 hb2
  exact lv_tableOut C.1 C.2.1 hd hx ht (h p e s mid args below meth c mc ms n0 ad0 ad A H locs cells slots ls C hA hn had hR hS hls hlc (mm_sd hsc) hb1 hb2)
theorem mm_tableIn {dflt lo hi : Int} {offs : Array Int} {len : Nat} {x : Int32} {off : Int} {tgt : Nat} (hd : decode K.2.1 pc = .ok (.tableswitch dflt lo hi offs, len)) (h1 : ¬ x.toInt < lo) (h2 : ¬ hi < x.toInt) (ho : offs[(x.toInt - lo).toNat]? = some off) (ht : (pc : Int) + off = (tgt : Int)) (h : mm_W l G K tgt lv st b m Q) : mm_W l G K pc lv (.int x :: st) b m Q := by
  intro p e s mid args below meth c mc ms n0 ad0 ad A H locs cells slots ls C hA hn had hR hS hls hlc hsc hb1 hb2
  exact lv_tableIn C.1 C.2.1 hd h1 h2 ho ht (h p e s mid args below meth c mc ms n0 ad0 ad A H locs cells slots ls C hA hn had hR hS hls hlc (mm_sd hsc) hb1 hb2)
theorem mm_sub (ks : List Nat) (hl : lv_pick lv ks = lv2) (h : mm_W l G K pc lv2 st b m Q) : mm_W l G K pc lv st b m Q := by
  intro p e s mid args below meth c mc ms n0 ad0 ad A H locs cells slots ls C hA hn had hR hS hls hlc hsc hb1 hb2
  subst hl
  have e8 : (lv_pick lv ks).map (mm_q ad) = lv_pick (lv.map (mm_q ad)) ks := by
    unfold lv_pick
    rw [List.map_filterMap]
    congr 1
    funext k
    rw [List.getElem?_map]
  refine h p e s mid args below meth c mc ms n0 ad0 ad A H locs cells slots ls C hA hn had hR hS (by rw [e8]; exact lv_sub hls ks rfl) (fun q hq => ?_) hsc hb1 hb2
  obtain ⟨k, -, hk⟩ := List.mem_filterMap.mp hq
  exact hlc q (List.mem_of_getElem? hk)
theorem mm_less {b2 : Nat} (hb : b2 ≤ b) (h : mm_W l G K pc lv st b2 m Q) : mm_W l G K pc lv st b m Q := by
  intro p e s mid args below meth c mc ms n0 ad0 ad A H locs cells slots ls C hA hn had hR hS hls hlc hsc hb1 hb2
  exact h p e s mid args below meth c mc ms n0 ad0 ad A H locs cells slots ls C hA hn had hR hS hls hlc hsc (by omega) (by omega)
theorem mm_post {Q2 : mm_O → mm_Mem → Prop} (hq : ∀ u m, Q2 u m → Q u m) (h : mm_W l G K pc lv st b m Q2) : mm_W l G K pc lv st b m Q := by
  intro p e s mid args below meth c mc ms n0 ad0 ad A H locs cells slots ls C hA hn had hR hS hls hlc hsc hb1 hb2
  refine mm_mono (fun t ht => ?_) (h p e s mid args below meth c mc ms n0 ad0 ad A H locs cells slots ls C hA hn had hR hS hls hlc hsc hb1 hb2)
  obtain ⟨o, h1, h2, ⟨u, m2, ad2, g1, g2⟩, h3⟩ := ht
  exact ⟨o, h1, h2, ⟨u, m2, ad2, hq u m2 g1, g2⟩, h3⟩
theorem mm_iret {x : Int32} (hd : decode K.2.1 pc = .ok (.ireturn, 1)) (hr : K.2.2.2.1 = some .int) (hq : Q (.inl (some (.int x))) m) : mm_W l G K pc lv (.int x :: []) b m Q := by
  intro p e s mid args below meth c mc ms n0 ad0 ad A H locs cells slots ls C hA hn had hR hS hls hlc hsc hb1 hb2
  exact mm_mono mm_ofMQ (W.widen (k := mc) (n := ms) (by omega) (by omega) (W.iret C.1 C.2.1 (C.2.2.2.1.trans hr) (fun t ht hW => ⟨_, m, ad, hq, by rw [ht]; exact hR, hn, had, hS.F ht, rfl, fun w hw => by cases hw; trivial⟩) hS.2.2 hd C.2.2.2.2.1))
theorem mm_zret {x : Int32} {ty : FieldType} (hd : decode K.2.1 pc = .ok (.ireturn, 1)) (hr : K.2.2.2.1 = some ty) (hx : narrow ty (.int x) = .int x) (hq : Q (.inl (some (.int x))) m) : mm_W l G K pc lv (.int x :: []) b m Q := by
  intro p e s mid args below meth c mc ms n0 ad0 ad A H locs cells slots ls C hA hn had hR hS hls hlc hsc hb1 hb2
  exact mm_mono mm_ofMQ (W.widen (k := mc) (n := ms) (by omega) (by omega) (W.zret C.1 C.2.1 (C.2.2.2.1.trans hr) hx (fun t ht hW => ⟨_, m, ad, hq, by rw [ht]; exact hR, hn, had, hS.F ht, rfl, fun w hw => by cases hw; trivial⟩) hS.2.2 hd C.2.2.2.2.1))
theorem mm_lret {x : Int64} (hd : decode K.2.1 pc = .ok (.lreturn, 1)) (hr : K.2.2.2.1 = some .long) (hq : Q (.inl (some (.long x))) m) : mm_W l G K pc lv (.long x :: []) b m Q := by
  intro p e s mid args below meth c mc ms n0 ad0 ad A H locs cells slots ls C hA hn had hR hS hls hlc hsc hb1 hb2
  exact mm_mono mm_ofMQ (W.widen (k := mc) (n := ms) (by omega) (by omega) (W.lret C.1 C.2.1 (C.2.2.2.1.trans hr) (fun t ht hW => ⟨_, m, ad, hq, by rw [ht]; exact hR, hn, had, hS.F ht, rfl, fun w hw => by cases hw; trivial⟩) hS.2.2 hd C.2.2.2.2.1))
theorem mm_vret (hd : decode K.2.1 pc = .ok (.return_, 1)) (hr : K.2.2.2.1 = none) (hq : Q (.inl none) m) : mm_W l G K pc lv [] b m Q := by
  intro p e s mid args below meth c mc ms n0 ad0 ad A H locs cells slots ls C hA hn had hR hS hls hlc hsc hb1 hb2
  exact mm_mono mm_ofMQ (W.widen (k := mc) (n := ms) (by omega) (by omega) (W.vret C.1 C.2.1 (C.2.2.2.1.trans hr) (fun t ht hW => ⟨_, m, ad, hq, by rw [ht]; exact hR, hn, had, hS.F ht, rfl, fun w hw => by cases hw⟩) hS.2.2 hd C.2.2.2.2.1))
theorem mm_aret {v : Value} {C0 : String} (hd : decode K.2.1 pc = .ok (.areturn, 1)) (hr : K.2.2.2.1 = some (.object C0)) (hv : v = .null ∨ ∃ r, v = .ref r) (hq : Q (.inl (some v)) m) : mm_W l G K pc lv (v :: []) b m Q := by
  intro p e s mid args below meth c mc ms n0 ad0 ad A H locs cells slots ls C hA hn had hR hS hls hlc hsc hb1 hb2
  have hv2 : mm_v ad v = .null ∨ ∃ a, mm_v ad v = .ref a := by
    rcases hv with rfl | ⟨r, rfl⟩
    · exact Or.inl rfl
    · exact Or.inr ⟨_, rfl⟩
  exact mm_mono mm_ofMQ (W.widen (k := mc) (n := ms) (by omega) (by omega) (W.aret (v := mm_v ad v) C.1 C.2.1 (C.2.2.2.1.trans hr) (Or.inl ⟨_, rfl⟩) hv2 (fun t ht hW => ⟨_, m, ad, hq, by rw [ht]; exact hR, hn, had, hS.F ht, rfl, fun w hw => by cases hw; exact mm_sh hsc⟩) hS.2.2 hd C.2.2.2.2.1))
end MMA
