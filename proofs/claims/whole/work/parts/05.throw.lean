/-! exceptions: made and thrown, caught; a nest mate's private constructor -/
def mm_sw : List Cond := [.isRef (.static "java/lang/Throwable" "UNASSIGNED_STACK" "[Ljava/lang/StackTraceElement;"), .isRef (.static "java/lang/Throwable" "SUPPRESSED_SENTINEL" "Ljava/util/List;"), .laysStatic "java/lang/Throwable" "UNASSIGNED_STACK" "[Ljava/lang/StackTraceElement;", .laysStatic "java/lang/Throwable" "SUPPRESSED_SENTINEL" "Ljava/util/List;"]
/-- the words of 'throw new cls(text)', all of them at hand -/
def mm_own (own : String) (ic : Nat) (cls : String) (names : List String) : Prop := ∀ w ∈ Bundle.ownAtoms own ic cls names, w ∈ mm_T ∨ w ∈ mm_NW ∨ w ∈ mm_sw
theorem mm_kind_use {w : Cond} (hk : mm_kind w = true) {args : Array Value} {s : State} (h : va_Nw w s) : w.before args s = true := by
  cases w <;> first
    | exact va_Nw.use rfl h
    | (rename_i t; cases t <;> first | exact va_AO.use h | (cases hk))
    | (cases hk)
/-- the frame as it stands, seen as one that is just entered in this heap -/
theorem mm_anew {p : Program} {l : Launch} {e : Env} {R R2 : Room} {s : State} {mid : MethodId} {args : Array Value} {below : List Frame} {meth : Method} {c : Code} {T : State} {locs : List Loc} {cells slots : Nat} (X : Stand p l e R s mid args below meth c T locs cells slots) (h1 : R2.frames ≤ R.frames) (h2 : R2.locals ≤ R.locals) (h3 : cells + R2.cells ≤ R.cells) (h4 : slots + R2.slots ≤ R.slots) : Stand p l e R2 ((T.setVm s.vm).setFrames (.invoking mid args :: below)) mid args below meth c T [] 0 0 := by
  have htop : (T.setVm s.vm).topJava?.isSome := X.here.top
  have hfr : ((T.setVm s.vm).setFrames (.invoking mid args :: below)).frames = .invoking mid args :: below := State.frames_setFrames _ (State.cur_lt_of_top htop)
  obtain ⟨g0, hg0⟩ := X.frames_eq
  have hg1 : (T.setVm s.vm).frames = .java g0 :: below := hg0
  have hlim : e.platform.stackLimits (T.setVm s.vm).me = e.platform.stackLimits s.me := X.limits
  have hby : (T.setVm s.vm).me.stackBytes = s.me.stackBytes := X.bytes
  have hnil : T.heap.toList.drop T.heap.size = [] := List.drop_eq_nil_of_le (Nat.le_of_eq Array.length_toList)
  refine { admits := X.admits, cas := X.cas, clock := X.clock, frames := hfr, room := ?_, hears := X.hears, method := X.method, code := X.code, here := X.here, tail := X.tail, warmed := X.warmed, limits := ?_, bytes := ?_, same := ?_ }
  · have hroom := X.room
    have huse : ((T.setVm s.vm).setFrames (.invoking mid args :: below)).localsInUse = s.localsInUse := by
      rw [State.localsInUse_invoking hfr (meth := meth) (c := c) X.method X.code, State.localsInUse_invoking X.frames X.method X.code]
    have hsz := X.heapSize
    have hus := X.used
    have hbk := X.book
    simp only [State.hasRoom, Bool.and_eq_true, decide_eq_true_eq] at hroom ⊢
    rw [X.frames, List.length_cons] at hroom
    simp only [hfr, huse, List.length_cons, State.stackLimits_setFrames, State.stackBytes_setFrames, hlim, hby]
    obtain ⟨⟨⟨⟨a1, a2, a3, a4, a5, a6⟩, a7⟩, a8⟩, a9⟩ := hroom
    refine ⟨⟨⟨⟨by omega, by omega, by omega, by omega, by omega, a6⟩, ?_⟩, ?_⟩, hbk⟩
    · show T.heap.size + R2.cells ≤ e.platform.maxCells
      omega
    · show T.slotsUsed + R2.slots ≤ e.platform.maxSlots
      omega
  · rw [State.stackLimits_setFrames]
    rfl
  · rw [State.stackBytes_setFrames]
    rfl
  · obtain ⟨t, ht, -⟩ := State.frames_cons hg1
    refine ⟨?_, Nat.le_refl _, Nat.le_refl _, ?_, ?_, fun a c9 h9 => ⟨c9, h9, rfl, rfl, fun _ _ => rfl⟩⟩
    · show T.setVm s.vm = { ((T.setVm s.vm).setFrames (.invoking mid args :: below)).setFrames (T.setVm s.vm).frames with heap := T.heap, slotsUsed := T.slotsUsed }
      rw [State.setFrames_setFrames, State.setFrames_self ht]
      rfl
    · show T.slotsUsed = T.slotsUsed + ((T.heap.toList.drop T.heap.size).map (·.slots.size)).sum
      rw [hnil]
      rfl
    · show ((T.heap.toList.drop T.heap.size).map (·.slots.size)).sum ≤ 0
      rw [hnil]
      exact Nat.le_refl _
/-- what stood before stands as it stood, but for the places written -/
theorem mm_kept {s U : State} {locs : List Loc} {k n : Nat} (h : s.sameButNew ({ U with vm := s.vm } : State) locs k n) : s.heap.size ≤ U.heap.size ∧ ∀ q : Nat, q < s.heap.size → (∀ z ∈ locs, z.base ≠ q) → U.heap[q]? = s.heap[q]? := by
  obtain ⟨-, a2, -, -, -, a6⟩ := h
  refine ⟨a2, fun q hq hz => ?_⟩
  obtain ⟨c9, b1, b2, b3, b4⟩ := a6 q _ (Array.getElem?_eq_getElem hq)
  have hsl : c9.slots = (s.heap[q]).slots := Array.ext_getElem? fun i => b4 i fun hm => hz _ hm rfl
  have hc : c9 = s.heap[q] := by
    rw [hsl] at b2
    exact b2
  rw [show U.heap[q]? = some c9 from b1, hc, Array.getElem?_eq_getElem hq]
theorem mm_sr1 {own tx : String} {k a : Nat} {A : Array Value} {U : State} (h : vk_R own k tx a U) : (Cond.stringRef own k tx).before A U = true := h.1
theorem mm_sr2 {own tx : String} {k a : Nat} {A : Array Value} {U : State} (h : vk_R own k tx a U) : (Term.string own k).eval A U none [] U = some (.ref a) := h.2
section MMT
variable {l : Launch} {G : mm_G} {K Kc : mm_M} {pc : Nat} {lv lv2 : List (Nat × Value)} {st as : List Value} {b bc b2 : Nat} {m : mm_Mem} {Q Qc : mm_O → mm_Mem → Prop}
theorem mm_throwS {cls tx : String} {names : List String} {ik is ic : Nat} (hcl : Cond.classLink K.1 ik cls ∈ mm_T) (hini : Cond.initialized cls ∈ mm_T) (hat : mm_own K.1 ic cls names) (hcf : Bundle.fit cls = true) (hnf : ∀ n ∈ names, Bundle.fit n = true) (hsr : (K.1, is, tx) ∈ mm_SR) (d0 : decode K.2.1 pc = .ok (.new ik, 3)) (d3 : decode K.2.1 (pc + 3) = .ok (.dup, 1)) (d4 : decode K.2.1 (pc + 4) = .ok (.ldc is, 2)) (d6 : decode K.2.1 (pc + 6) = .ok (.invokespecial ic, 3)) (d9 : decode K.2.1 (pc + 9) = .ok (.athrow, 1)) (hh : (tableOf K.2.2.2.2.2.1).all (fun x => !covers x (pc + 9)) = true) (hfr : names.length + 3 < K.2.2.2.2.1.1) (hlo : (st.map fun v => v.category).sum + (13 * (names.length + 1) + 43) ≤ K.2.2.2.2.1.2) (hb7 : 7 ≤ b) (hq : Q (.inr cls) m) : mm_W l G K pc lv st b m Q := by
  intro p e s mid args below meth c mc ms n0 ad0 ad A H locs cells slots ls C hA hn had hR hS hls hlc hsc hb1 hb2
  obtain ⟨hx, hb, hml, -, hlk, -, hown, hex, hts, hX, hns, hlt, -⟩ := id C
  intro T hT X
  have htr : e.platform.stackTraces = false := (show e.platform.stackTraces = l.stackTraces by rw [X.admits.platform]).trans hlt
  have Y := mm_anew X (R2 := { frames := K.2.2.2.2.1.1, locals := K.2.2.2.2.1.2, cells := 1, slots := 6 }) (Nat.le_refl _) (Nat.le_refl _) (show cells + 1 ≤ mc by omega) (show slots + 6 ≤ ms by omega)
  obtain ⟨s2, hs2⟩ : ∃ z, z = (T.setVm s.vm).setFrames (.invoking mid args :: below) := ⟨_, rfl⟩
  rw [← hs2] at Y
  have hvm : s2.vm = s.vm := by rw [hs2]; rfl
  have hhp : s2.heap = H := by rw [hs2]; exact hT
  have hW0 : s.WarmedH s2.vm := by rw [hvm]; exact State.WarmedH.refl s
  have hts2 : ∀ w ∈ mm_T, w.before args s2 = true := fun w hw => word_at hW0 (good_of_word (mm_T_good w hw)) (hts w hw)
  have hX2 : mm_X G A s2 := mm_Xat hX hW0 (fun a h1 h2 => by rw [hhp]; exact hS.2.1 a h1 h2) (fun _ _ h => h)
  have hw : ∀ w ∈ Bundle.ownAtoms K.1 ic cls names, w.before args s2 = true := fun w hw => by
    rcases hat w hw with h1 | h1 | h1
    · exact hts2 w h1
    · exact mm_kind_use (mm_NW_ok w h1) (hX2.2.1 w h1)
    · have z1 := (hX2.2.2.1 ("java/lang/Throwable", "UNASSIGNED_STACK", "[Ljava/lang/StackTraceElement;") (by simp [mm_ST])).word (args := args)
      have z2 := (hX2.2.2.1 ("java/lang/Throwable", "SUPPRESSED_SENTINEL", "Ljava/util/List;") (by simp [mm_ST])).word (args := args)
      simp only [mm_sw, List.mem_cons, List.not_mem_nil, or_false] at h1
      rcases h1 with rfl | rfl | rfl | rfl
      · exact z1.2
      · exact z2.2
      · exact z1.1
      · exact z2.1
  obtain ⟨sa, hsa⟩ := hX2.2.2.2.1 _ hsr
  have hown2 : s2.vm.findClass K.1 = some mid.cls := by rw [hvm]; exact hown
  have hins : (Cond.instantiable cls 6).before args s2 = true := hw _ (by simp [Bundle.ownAtoms])
  obtain ⟨vm1, cX, kX, hfX, hkX, -, -, X1, st1⟩ := Y.newCold hx (own := K.1) (C := cls) (index := ik) (n := 6) hown2 (hts2 _ hcl) hins (hts2 _ hini) (g := F0 mid pc ls (st.map (mm_v ad))) rfl (by rw [hb]; exact d0) (Nat.le_refl _) (Nat.le_refl _)
  generalize hT1 : (T.setVm vm1).pushCell { cls := cX, slots := kX.instanceTypes.map defaultValue, vm := .none } = T1 at X1 st1
  have hcellA : T1.heap[T.heap.size]? = some (freshCell cX kX) := by rw [← hT1]; exact State.heap_pushCell_size _ _
  have hcat : (Value.ref T.heap.size).category = 1 := rfl
  have d3' : decode c.code (pc + 3) = .ok (.dup, 1) := by rw [hb]; exact d3
  have d4' : decode c.code (pc + 4) = .ok (.ldc is, 2) := by rw [hb]; exact d4
  obtain ⟨U, hsteps, hrun, hend, hW, hsame, ce, hce, hO⟩ := X1.ctorThrowS hx htr (own := K.1) (cls := cls) (names := names) (ic := ic) hown2 hcf hnf hw (fun x hx => nomatch hx) hfX hkX hcellA (by rw [hhp, hT]; exact Nat.le_refl _) (msg := .ref sa) rfl
    (g := { method := mid, pc := pc + 6, locals := ls, stack := .ref sa :: .ref T.heap.size :: .ref T.heap.size :: st.map (mm_v ad), locked := none }) rfl (hls.1.trans hml.symm) rfl rfl (rest := st.map (mm_v ad)) rfl (by rw [hb]; exact d6) (by rw [hb]; exact d9) (outside_of_table hex hh) hfr (by
      show 2 * 0 + ((Value.ref T.heap.size :: st.map (mm_v ad)).map fun v => v.category).sum + (13 * (names.length + 1) + 42) ≤ K.2.2.2.2.1.2
      rw [List.map_cons, List.sum_cons, hcat, mm_cat_map]
      omega) hlk
  obtain ⟨f1, f2⟩ := mm_kept hsame
  rw [hhp] at f1 f2
  have hkq : ∀ q : Nat, q < H.size → U.heap[q]? = H[q]? := fun q hq => f2 q hq (fun z hz => nomatch hz)
  have hWs : s.WarmedH U.vm := State.WarmedH.trans hW0 hW
  have hcl2 : s.vm.findClass cls = some ce.cls := by
    have h9 := hO.cls
    rw [hvm] at h9
    exact h9
  have hall : s.sameButNew ({ U with vm := s.vm } : State) locs mc ms := by
    subst hs2
    obtain ⟨e1, e2⟩ := hsame
    rw [State.setFrames_setFrames] at e1
    have h2 : (T.setVm s.vm).sameButNew ({ U with vm := s.vm } : State) [] (0 + 1) (0 + 6) := ⟨e1, e2⟩
    have h3 := X.same.trans h2
    rw [List.append_nil] at h3
    exact h3.mono (by omega) (by omega)
  have hRU : mm_R G.1 A ad m U.heap := ⟨hR.1.kept (fun k x hx => hkq x.1 ((hR.1 k x hx).lt)), hR.2⟩
  have hFU : va_F A s U := ⟨Nat.le_trans hS.1 f1, fun q h1 h2 => by rw [hkq q (Nat.lt_of_lt_of_le h1 hS.1)]; exact hS.2.1 q h1 h2⟩
  refine ⟨U, ?_, .threw T.heap.size, hrun, hend, ⟨.inr cls, m, ad, hq, hRU, hn, had, hFU, T.heap.size, ce, rfl, hce, hO.vm, hcl2⟩, locs, hWs, hall, hS.2.2⟩
  refine st1 _ ?_
  show Steps p.tables e below (T1.setTop { method := mid, pc := pc + 3, locals := ls, stack := .ref T.heap.size :: st.map (mm_v ad), locked := none }) _
  jvm_step X1.here [X1.here.top, hx, d3', Value.category]
  exact X1.ldcString hx (own := K.1) (text := tx) (index := is) (a := sa) hown2 (mm_sr1 hsa) (mm_sr2 hsa) (g := { method := mid, pc := pc + 4, locals := ls, stack := .ref T.heap.size :: .ref T.heap.size :: st.map (mm_v ad), locked := none }) rfl d4' _ hsteps
/-- a private constructor of a nest mate -/
theorem mm_callIN {y : MethodName} {idx np r : Nat} {host : String} (hc : mm_cal Kc y np) (hyi : y.name = "<init>") (hh : Kc.2.2.2.2.2.1 = []) (hrt : Kc.2.2.2.1 = none) (hl : Cond.methodLinkNest K.1 idx y host ∈ mm_NW) (hi : Cond.instanceMethod y ∈ mm_T) (hd : decode K.2.1 pc = .ok (.invokespecial idx, 3)) (hnp : as.length = np) (hst : (st.map fun v => v.category).sum + (Kc.2.2.1 + 11) + Kc.2.2.2.2.1.2 ≤ K.2.2.2.2.1.2) (hdep : Kc.2.2.2.2.1.1 + 1 ≤ K.2.2.2.2.1.1) (hlen : (lg_sl (.ref r :: as)).length ≤ Kc.2.2.1) (hbd : bc + b2 ≤ b) (hM : mm_W l G Kc 0 (lv_args 0 (.ref r :: as)) [] bc m Qc)
    (hx1 : ∀ E m2, Qc (.inr E) m2 → mm_WX l G K pc lv E b2 m2 Q) (h : ∀ v m2, Qc (.inl v) m2 → mm_W l G K (pc + 3) lv (v.toList ++ st) b2 m2 Q) : mm_W l G K pc lv (as.reverse ++ .ref r :: st) b m Q := by
  intro p e s mid args below meth c mc ms n0 ad0 ad A H locs cells slots ls C hA hn had hR hS hls hlc hsc hb1 hb2
  obtain ⟨hx, hb, hml, -, -, -, hown, -, hts, ⟨hK, hNW, -⟩, -⟩ := id C
  obtain ⟨c1, c2, c3, c4, c5, c6, c7, c8⟩ := hc
  obtain ⟨mk, mt, ck, hF⟩ := mm_F.of (hts _ c1) c2 c3
  have hcode : (Cond.code y Kc.2.1 Kc.2.2.1 none).before args s = true := by
    have h9 := hts _ c1
    unfold mm_cw at h9
    rw [hh, hrt] at h9
    exact h9
  intro T hT X
  have hpl : e.platform.magicAccessors = ({} : Platform).magicAccessors := by rw [X.admits.platform]
  obtain ⟨mk2, mt2, cM, kP, vm1, hnm2, hmt2, -, -, -, -, -, -, hW1, st1⟩ := Steps.initColdArgsNest (e := e) X.here hx X.warmed hpl hown hyi c6 ((hNW _ hl).use rfl) (hts _ hi) hcode (f := F0 mid pc ls ((as.reverse ++ .ref r :: st).map (mm_v ad))) rfl (argsL := as.map (mm_v ad)) (a := ad r) (rest := st.map (mm_v ad)) (fun sig hs => by rw [List.length_map, hnp]; exact mm_np c7 hs) (by show (as.reverse ++ .ref r :: st).map _ = _; rw [List.map_append, List.map_reverse]; rfl) (by rw [hb]; exact hd)
  cases hF.1.symm.trans hnm2
  have X1 := X.noted hW1
  have hsr : ∀ v ∈ st, mm_cv (mm_n m) v := fun v hv => hsc v (List.mem_append_right _ (List.mem_cons_of_mem _ hv))
  rcases mm_enter (stC := st.map (mm_v ad)) X1 hT C hA hR hS hls.1 hF c4 c5 hd (by rw [mm_cat_map]; exact hst) hdep (by omega) (by omega) (as := .ref r :: as) (mm_sc (hsc _ (List.mem_append_right _ List.mem_cons_self)) (fun v hv => hsc v (List.mem_append_left _ (List.mem_reverse.mpr hv)))) hlen hM with ⟨v, m2, ad2, T2, L, hQ, hR2, hn2, had2, hS2, X2, hcv, hgo⟩ | ⟨E, m2, ad2, T2, L, q, ce, hQ, hR2, hn2, had2, hS2, X2, hce, hcv, hcl, hgo⟩
  · obtain ⟨t, a1, a2⟩ := h v m2 hQ p e s mid args below meth c mc ms n0 ad0 ad2 A T2.heap (locs ++ L) (cells + bc) (slots + bc) ls C hA (Nat.le_trans hn hn2) (fun r hr => (had2 r (Nat.le_trans hr hn)).trans (had r hr)) hR2 hS2 (by rw [mm_lv_ag had2 hlc]; exact hls) (fun q hq => mm_cv_mono hn2 (hlc q hq)) (fun w hw => by
      rcases List.mem_append.mp hw with hw | hw
      · exact hcv w (Option.mem_toList.mp hw)
      · exact mm_cv_mono hn2 (hsr w hw)) (by omega) (by omega) T2 rfl X2
    refine ⟨t, st1 t (fun acts => (hgo acts).trans ?_), a2⟩
    rw [List.map_append, mm_st_ag had2 hsr] at a1
    rw [show (v.map (mm_v ad2)).toList = v.toList.map (mm_v ad2) by cases v <;> rfl]
    exact a1
  · obtain ⟨t, a1, a2⟩ := hx1 E m2 hQ p e s mid args below meth c mc ms n0 ad0 ad2 A T2.heap (locs ++ L) (cells + bc) (slots + bc) ls C hA (Nat.le_trans hn hn2) (fun r hr => (had2 r (Nat.le_trans hr hn)).trans (had r hr)) hR2 hS2 (by rw [mm_lv_ag had2 hlc]; exact hls) (fun q hq => mm_cv_mono hn2 (hlc q hq)) (by omega) (by omega) q ce (st.map (mm_v ad)) hce hcv hcl T2 rfl X2
    exact ⟨t, st1 t (fun acts => (hgo acts).trans a1), a2⟩
end MMT
