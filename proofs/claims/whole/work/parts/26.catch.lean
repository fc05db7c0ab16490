/-! exceptions that a handler of the method takes: the class that the handler names is resolved at the search, cold or warm -/
theorem mm_row {Q : Handler → Pre} {E : CtlPost} {e : Env} {d : Bool} {acts : List Action} {s0 S : State} {f : JFrame} {a : Addr} {x : ExceptionTableEntry} {t : List ExceptionTableEntry} {c : ClassId} {cell : Cell} (hx : covers x f.pc = true) (h0 : x.catchType ≠ 0) (hl : s0.vm.ClassLinks e.platform f.method.cls x.catchType c) (hW : s0.WarmedH S.vm) (hcell : S.heap[a]? = some cell) (hobj : cell.vm = .none) (hk : ∃ k, s0.vm.classes[cell.cls]? = some k) :
    s0.WarmedH (S.vm.noted f.method.cls x.catchType (.cls c)) ∧ (wp (findHandler.go f a (x :: t)) Q E e d acts S ↔ if s0.vm.assignable cell.cls c = true then Q (.found x.handlerPc) d acts (S.setVm (S.vm.noted f.method.cls x.catchType (.cls c))) else wp (findHandler.go f a t) Q E e d acts (S.setVm (S.vm.noted f.method.cls x.catchType (.cls c)))) := by
  have hcl := hl
  obtain ⟨dk, _, _, kt, hd, _, _, _, _, hkt, _, hopen⟩ := hcl.here
  have hW2 : s0.WarmedH (S.vm.noted f.method.cls x.catchType (.cls c)) := hW.noted hd hopen (State.rightAt_cls hl)
  refine ⟨hW2, ?_⟩
  obtain ⟨r1, r2⟩ := (resolveClass_links e.toSetting (hW.classLinks hl)).op (op := VmOp.resolveClass f.method.cls x.catchType) rfl
  obtain ⟨k1, hk1⟩ := hk
  obtain ⟨j1, hj1, -⟩ := hW2.alike.2.2 _ _ hk1
  obtain ⟨j2, hj2, -⟩ := hW2.alike.2.2 _ _ hkt
  have hst : ∀ k, cell.vm ≠ .statics k := fun k hk => by rw [hobj] at hk; cases hk
  have has : (S.vm.noted f.method.cls x.catchType (.cls c)).assignable cell.cls c = s0.vm.assignable cell.cls c := by rw [hW2.alike.assignable]
  simp only [covers] at hx
  cases hfit : s0.vm.assignable cell.cls c <;> rw [hfit] at has <;> simp [findHandler.go, hx, h0, r1, r2, hcell, hst, hj1, hj2, has, VmOp.dirties, VmOp.acts]
theorem mm_asg (vm : Vm) (c : ClassId) : vm.assignable c c = true := by
  show vm.assignableAux (255 + 1) c c = true
  rw [Vm.assignableAux, Bool.or_eq_true, beq_iff_eq]
  exact Or.inl rfl
/-- one step: the search ends at a handler, and leaves other tables -/
theorem mm_seek {tb : Tables} {e : Env} {s target : State} {g : JFrame} {c : Code} {below : List Frame} {a : Addr} (h : At s g.method c below) {pc : Nat} {vm2 : Vm}
    (hf : ∀ (Q : Handler → Pre) (E : CtlPost) (d : Bool) (acts : List Action), wp (findHandler g a) Q E e d acts ((s.setTop g).pushFrame (.throwing a)) ↔ Q (.found pc) d acts (((s.setTop g).pushFrame (.throwing a)).setVm vm2)) (hr : Steps tb e below ((s.setVm vm2).setTop { g with pc := pc, stack := [.ref a] }) target) :
    Steps tb e below ((s.setTop g).pushFrame (.throwing a)) target := by
  obtain ⟨hgo, hw⟩ := h.throwing a
  refine Steps.head hgo hw ?_
  have hc : ∀ r : List Frame, (stepThrowing e ((s.setTop g).pushFrame (.throwing a)) a (.java g :: r)).Is ((((s.setTop g).pushFrame (.throwing a)).setVm vm2).setFrames (.java { g with pc := pc, stack := [.ref a] } :: r)) [] := by
    intro r
    simp only [stepThrowing, searchFrame, vmDo]
    generalize hr : Sem.go _ e false [] ((s.setTop g).pushFrame (.throwing a)) = res
    obtain ⟨as, rfl, ha⟩ := Sem.eq_ok_of hr (a := Handler.found pc) (s' := ((s.setTop g).pushFrame (.throwing a)).setVm vm2) (acts' := []) (by simp [hf _ _ _ _])
    exact ⟨rfl, ha⟩
  rw [stepThread_throwing (frames_entered h.top _), (hc _).1]
  obtain ⟨g0, hg⟩ := Option.isSome_iff_exists.mp h.top
  obtain ⟨r, hr0⟩ := State.topJava?_eq_some.mp hg
  have hr1 : (s.setVm vm2).frames = .java g0 :: r := hr0
  have hsf : ∀ (u : State) (F F2 : List Frame), ((u.setFrames F).setVm vm2).setFrames F2 = (u.setVm vm2).setFrames F2 := fun u F F2 => by
    have h1 : (u.setFrames F).setVm vm2 = (u.setVm vm2).setFrames F := rfl
    rw [h1, State.setFrames_setFrames]
  rw [State.setTop_of_frames _ hr1] at hr
  rw [hr0, List.tail_cons, State.pushFrame, hsf, State.setTop_of_frames _ hr0, hsf]
  exact hr
section MMK
variable {l : Launch} {G : mm_G} {K : mm_M} {pc : Nat} {lv : List (Nat × Value)} {b : Nat} {m : mm_Mem} {Q : mm_O → mm_Mem → Prop}
/-- the handler's first instruction lays the exception into a local that nobody reads -/
def mm_lay (K : mm_M) (hp n : Nat) : Prop := (∃ (k : Fin 4), decode K.2.1 hp = .ok (.astore_n k, 1) ∧ (k : Nat) < K.2.2.1 ∧ n = hp + 1) ∨ ∃ i : Nat, decode K.2.1 hp = .ok (.astore i, 2) ∧ i < K.2.2.1 ∧ n = hp + 2
theorem mm_laid {hp n : Nat} (hl : mm_lay K hp n) (h : mm_W l G K n [] [] b m Q) : ∀ (p : Program) (e : Env) (s : State) (mid : MethodId) (args : Array Value) (below : List Frame) (meth : Method) (c : Code) (mc ms n0 : Nat) (ad0 ad : Nat → Nat) (A : Nat → Prop) (H : Heap) (locs : List Loc) (cells slots : Nat) (ls : Array Slot),
    mm_C l G K p s mid args meth c A (ad0 0) → (∀ q, s.heap.size ≤ q → A q) → n0 ≤ mm_n m → (∀ r, r ≤ n0 → ad r = ad0 r) → mm_R G.1 A ad m H → va_S A s.heap H locs → lv_has ls K.2.2.1 (lv.map (mm_q ad)) → cells + b ≤ mc → slots + b ≤ ms → ∀ q : Addr,
    W p l e (mm_room K mc ms) s mid args below meth c H locs cells slots (mm_Z G A below s mc ms n0 ad0 Q) (F0 mid hp ls [.ref q]) := by
  intro p e s mid args below meth c mc ms n0 ad0 ad A H locs cells slots ls C hA hn had hR hS hls hb1 hb2 q
  have hls0 : lv_has ls K.2.2.1 [] := ⟨hls.1, hls.2.1, fun _ h => absurd h List.not_mem_nil⟩
  rcases hl with ⟨k, hd, hk, rfl⟩ | ⟨i, hd, hk, rfl⟩
  · exact lv_astore_n C.1 C.2.1 hd rfl hls0 hk rfl (fun ls2 hls2 => h p e s mid args below meth c mc ms n0 ad0 ad A H locs cells slots ls2 C hA hn had hR hS ⟨hls2.1, hls2.2.1, fun _ h => absurd h List.not_mem_nil⟩ (fun _ h => absurd h List.not_mem_nil) (fun _ h => absurd h List.not_mem_nil) hb1 hb2)
  · exact lv_astore C.1 C.2.1 hd hls0 hk rfl (fun ls2 hls2 => h p e s mid args below meth c mc ms n0 ad0 ad A H locs cells slots ls2 C hA hn had hR hS ⟨hls2.1, hls2.2.1, fun _ h => absurd h List.not_mem_nil⟩ (fun _ h => absurd h List.not_mem_nil) (fun _ h => absurd h List.not_mem_nil) hb1 hb2)
/-- the first handler takes it -/
theorem mm_catch1 {E : String} {hp n : Nat} {sp ep ct : Nat} {tl : List (Nat × Nat × Nat × Nat)} (ht : K.2.2.2.2.2.1 = (sp, ep, hp, ct) :: tl) (hcov : (decide (sp ≤ pc) && decide (pc < ep)) = true) (h0 : ct ≠ 0) (hk : Cond.classLink K.1 ct E ∈ mm_T) (hl : mm_lay K hp n) (h : mm_W l G K n [] [] b m Q) : mm_WX l G K pc lv E b m Q := by
  intro p e s mid args below meth c mc ms n0 ad0 ad A H locs cells slots ls C hA hn had hR hS hls hlc hb1 hb2 q ce stC hce hcv hcl T hT X
  obtain ⟨-, -, -, -, -, -, hown, hex, hts, -⟩ := id C
  have hpl : e.platform.magicAccessors = ({} : Platform).magicAccessors := by rw [X.admits.platform]
  obtain ⟨c1, hc1, hcl1⟩ := Cond.classLink_spec hown (hts _ hk) e.platform hpl
  cases hcl.symm.trans hc1
  have hkc : ∃ k, s.vm.classes[ce.cls]? = some k := Vm.classAt_of_findClass hcl
  have hvm : ((T.setTop (F0 mid pc ls stC)).pushFrame (.throwing q)).vm = T.vm := Stand.throwing_vm T _ q
  have hhp : ((T.setTop (F0 mid pc ls stC)).pushFrame (.throwing q)).heap = T.heap := Stand.throwing_heap T _ q
  have hrow := fun (Q : Handler → Pre) (E : CtlPost) (d : Bool) (acts : List Action) => mm_row (Q := Q) (E := E) (d := d) (acts := acts) (e := e) (s0 := s) (S := (T.setTop (F0 mid pc ls stC)).pushFrame (.throwing q)) (f := F0 mid pc ls stC) (a := q) (x := ⟨sp, ep, hp, ct⟩) (t := tableOf tl) (c := ce.cls) (cell := ce) hcov h0 hcl1 (by rw [hvm]; exact X.warmed) (by rw [hhp, hT]; exact hce) hcv hkc
  have hW2 := (hrow (fun _ _ _ _ => True) (fun _ _ _ => True) false []).1
  rw [hvm] at hW2
  have X2 := X.noted hW2
  obtain ⟨t, t1, t2⟩ := mm_laid (lv := lv) hl h p e s mid args below meth c mc ms n0 ad0 ad A H locs cells slots ls C hA hn had hR hS hls hb1 hb2 q (T.setVm (T.vm.noted mid.cls ct (.cls ce.cls))) hT X2
  refine ⟨t, mm_seek X.here (fun Q E d acts => ?_) t1, t2⟩
  rw [W.findHandler_eq (meth := meth) (code := c) (by rw [hvm]; exact X.method') X.code, hex, ht]
  have := (hrow Q E d acts).2
  rw [if_pos (mm_asg _ _)] at this
  rw [hvm] at this
  exact this
/-- the first handler lets it pass, the second takes it -/
theorem mm_catch2 {E D : String} {hp n : Nat} {sp ep h1 ct sp2 ep2 ct2 : Nat} {tl : List (Nat × Nat × Nat × Nat)} (ht : K.2.2.2.2.2.1 = (sp, ep, h1, ct) :: (sp2, ep2, hp, ct2) :: tl) (hcov : (decide (sp ≤ pc) && decide (pc < ep)) = true) (h0 : ct ≠ 0) (hk : Cond.classLink K.1 ct D ∈ mm_T) (hno : (E, D) ∈ mm_NC) (hcov2 : (decide (sp2 ≤ pc) && decide (pc < ep2)) = true) (h02 : ct2 ≠ 0) (hk2 : Cond.classLink K.1 ct2 E ∈ mm_T) (hl : mm_lay K hp n) (h : mm_W l G K n [] [] b m Q) : mm_WX l G K pc lv E b m Q := by
  intro p e s mid args below meth c mc ms n0 ad0 ad A H locs cells slots ls C hA hn had hR hS hls hlc hb1 hb2 q ce stC hce hcv hcl T hT X
  obtain ⟨-, -, -, -, -, -, hown, hex, hts, hX, -⟩ := id C
  have hpl : e.platform.magicAccessors = ({} : Platform).magicAccessors := by rw [X.admits.platform]
  obtain ⟨cE, cD, n1, n2, n3⟩ := hX.2.2.2.2 _ hno
  cases hcl.symm.trans n1
  obtain ⟨c0, hc0, hcl0⟩ := Cond.classLink_spec hown (hts _ hk) e.platform hpl
  cases n2.symm.trans hc0
  obtain ⟨c1, hc1, hcl1⟩ := Cond.classLink_spec hown (hts _ hk2) e.platform hpl
  cases hcl.symm.trans hc1
  have hkc : ∃ k, s.vm.classes[ce.cls]? = some k := Vm.classAt_of_findClass hcl
  have hvm : ((T.setTop (F0 mid pc ls stC)).pushFrame (.throwing q)).vm = T.vm := Stand.throwing_vm T _ q
  have hhp : ((T.setTop (F0 mid pc ls stC)).pushFrame (.throwing q)).heap = T.heap := Stand.throwing_heap T _ q
  have hrow := fun (Q : Handler → Pre) (E : CtlPost) (d : Bool) (acts : List Action) => mm_row (Q := Q) (E := E) (d := d) (acts := acts) (e := e) (s0 := s) (S := (T.setTop (F0 mid pc ls stC)).pushFrame (.throwing q)) (f := F0 mid pc ls stC) (a := q) (x := ⟨sp, ep, h1, ct⟩) (t := tableOf ((sp2, ep2, hp, ct2) :: tl)) (c := cD) (cell := ce) hcov h0 hcl0 (by rw [hvm]; exact X.warmed) (by rw [hhp, hT]; exact hce) hcv hkc
  have hW1 := (hrow (fun _ _ _ _ => True) (fun _ _ _ => True) false []).1
  rw [hvm] at hW1
  have hrow2 := fun (Q : Handler → Pre) (E : CtlPost) (d : Bool) (acts : List Action) => mm_row (Q := Q) (E := E) (d := d) (acts := acts) (e := e) (s0 := s) (S := ((T.setTop (F0 mid pc ls stC)).pushFrame (.throwing q)).setVm (T.vm.noted mid.cls ct (.cls cD))) (f := F0 mid pc ls stC) (a := q) (x := ⟨sp2, ep2, hp, ct2⟩) (t := tableOf tl) (c := ce.cls) (cell := ce) hcov2 h02 hcl1 hW1 (by show ((T.setTop (F0 mid pc ls stC)).pushFrame (.throwing q)).heap[q]? = _; rw [hhp, hT]; exact hce) hcv hkc
  have hW2 := (hrow2 (fun _ _ _ _ => True) (fun _ _ _ => True) false []).1
  have X2 := X.noted hW2
  obtain ⟨t, t1, t2⟩ := mm_laid (lv := lv) hl h p e s mid args below meth c mc ms n0 ad0 ad A H locs cells slots ls C hA hn had hR hS hls hb1 hb2 q (T.setVm ((T.vm.noted mid.cls ct (.cls cD)).noted mid.cls ct2 (.cls ce.cls))) hT X2
  refine ⟨t, mm_seek X.here (fun Q E d acts => ?_) t1, t2⟩
  rw [W.findHandler_eq (meth := meth) (code := c) (by rw [hvm]; exact X.method') X.code, hex, ht]
  have a1 := (hrow Q E d acts).2
  rw [if_neg (by rw [n3]; decide), hvm] at a1
  have a2 := (hrow2 Q E d acts).2
  rw [if_pos (mm_asg _ _)] at a2
  exact a1.trans a2
end MMK
