section TH3
variable {p : Program} {l : Launch} {e : Env} {R : Room} {s : State} {m : MethodId} {args : Array Value} {below : List Frame} {meth : Method} {c : Code} {locs : List Loc} {cells slots : Nat}
/-- a frame that stands, seen as if its method were called in this heap: what comes to pass from there on, comes to pass from the first start on -/
theorem th_base {T : State} (X : Stand p l e R s m args below meth c T locs cells slots) {k n : Nat} (hc : cells + k ≤ R.cells) (hs : slots + n ≤ R.slots) :
    ∃ s' : State, s'.vm = s.vm ∧ s'.heap = T.heap ∧ Stand p l e { frames := R.frames, locals := R.locals, cells := k, slots := n } s' m args below meth c T [] 0 0 ∧
      ∀ (U : State) (L : List Loc) (a b : Nat), s'.sameButNew ({ U with vm := s.vm } : State) L a b → s.sameButNew ({ U with vm := s.vm } : State) (locs ++ L) (cells + a) (slots + b) := by
  have htop : (T.setVm s.vm).topJava?.isSome := X.here.top
  obtain ⟨g0, hg0⟩ := Option.isSome_iff_exists.mp htop
  obtain ⟨r, hr⟩ := State.topJava?_eq_some.mp hg0
  obtain ⟨th, hth, -⟩ := State.frames_cons hr
  have hF : ((T.setVm s.vm).setFrames (.invoking m args :: below)).frames = .invoking m args :: below := State.frames_setFrames _ (State.cur_lt_of_top htop)
  have hU : ((T.setVm s.vm).setFrames (.invoking m args :: below)).localsInUse = s.localsInUse := by
    rw [State.localsInUse_invoking hF (meth := meth) (c := c) X.method X.code, State.localsInUse_invoking X.frames X.method X.code]
  have q1 := X.heapSize
  have q2 := X.used
  have q3 : e.platform.stackLimits (T.setVm s.vm).me = e.platform.stackLimits s.me := X.limits
  have q4 : (T.setVm s.vm).me.stackBytes = s.me.stackBytes := X.bytes
  have hroom : ((T.setVm s.vm).setFrames (.invoking m args :: below)).hasRoom e.platform { frames := R.frames, locals := R.locals, cells := k, slots := n } = true := by
    have h := X.room
    simp only [State.hasRoom, Bool.and_eq_true, decide_eq_true_eq] at h ⊢
    rw [X.frames] at h
    simp only [hF, hU, State.stackLimits_setFrames, State.stackBytes_setFrames, q3, q4]
    obtain ⟨⟨⟨⟨h1, h2⟩, h3⟩, h4⟩, -⟩ := h
    refine ⟨⟨⟨⟨h1, h2⟩, ?_⟩, ?_⟩, X.book⟩
    · show T.heap.size + k ≤ e.platform.maxCells
      omega
    · show T.slotsUsed + n ≤ e.platform.maxSlots
      omega
  have hnone : ((T.heap.toList.drop T.heap.size).map (fun x : Cell => x.slots.size)).sum = 0 := by
    rw [List.drop_eq_nil_of_le (Nat.le_of_eq Array.length_toList)]
    rfl
  refine ⟨(T.setVm s.vm).setFrames (.invoking m args :: below), rfl, rfl, ⟨X.admits, X.cas, X.clock, hF, hroom, X.hears, X.method, X.code, X.here, X.tail, X.warmed, by rw [State.stackLimits_setFrames]; rfl, by rw [State.stackBytes_setFrames]; rfl, ?_, Nat.le_refl _, Nat.le_refl _, ?_, ?_, fun a c9 h9 => ⟨c9, h9, rfl, rfl, fun _ _ => rfl⟩⟩, ?_⟩
  · show T.setVm s.vm = { ((T.setVm s.vm).setFrames (.invoking m args :: below)).setFrames (T.setVm s.vm).frames with heap := T.heap, slotsUsed := T.slotsUsed }
    rw [State.setFrames_setFrames, State.setFrames_self hth]
    rfl
  · show T.slotsUsed = T.slotsUsed + ((T.heap.toList.drop T.heap.size).map (·.slots.size)).sum
    rw [hnone]
    rfl
  · show ((T.heap.toList.drop T.heap.size).map (·.slots.size)).sum ≤ 0
    rw [hnone]
    exact Nat.le_refl _
  · intro U L a b hq
    obtain ⟨e1, e2⟩ := hq
    rw [State.setFrames_setFrames] at e1
    have h2 : (T.setVm s.vm).sameButNew ({ U with vm := s.vm } : State) L a b := ⟨e1, e2⟩
    exact X.same.trans h2
/-- what was there and is not named stays -/
theorem th_stay {U : State} {k n : Nat} (h : s.sameButNew ({ U with vm := s.vm } : State) [] k n) : s.heap.size ≤ U.heap.size ∧ ∀ q : Nat, q < s.heap.size → U.heap[q]? = s.heap[q]? := by
  obtain ⟨-, h2, -, -, -, h6⟩ := h
  refine ⟨h2, fun q hq => ?_⟩
  obtain ⟨c9, e1, e2, e3, e4⟩ := h6 q _ (Array.getElem?_eq_getElem hq)
  have hsl : c9.slots = (s.heap[q]).slots := Array.ext_getElem? fun i => e4 i (fun hm => nomatch hm)
  have e5 : U.heap[q]? = some c9 := e1
  rw [e5, Array.getElem?_eq_getElem hq]
  rw [hsl] at e2
  exact congrArg some e2
theorem th_throw {H : Heap} {Z : State → Prop} {cc : ByteArray} {pc w i : Nat} {la : Array Slot} {rest : List Value} {ad : Nat → Nat} (hexec : p.tables.exec = Jvm.exec) (hb : c.code = cc) (hl : l.stackTraces = false) (hown : s.vm.findClass RX11 = some m.cls) (hG : th_G ad s) (hi : i ∈ [136, 165, 419])
    (hS : va_S (m2_A ad s.heap.size) s.heap H locs) (hsize : la.size = c.maxLocals) (d0 : decode cc pc = .ok (.new 134, 3)) (d3 : decode cc (pc + 3) = .ok (.dup, 1)) (d4 : (w = 2 ∧ decode cc (pc + 4) = .ok (.ldc i, 2)) ∨ (w = 3 ∧ decode cc (pc + 4) = .ok (.ldc_w i, 3)))
    (d6 : decode cc (pc + 4 + w) = .ok (.invokespecial 138, 3)) (d9 : decode cc (pc + 4 + w + 3) = .ok (.athrow, 1)) (hout : ∀ x ∈ c.exceptionTable.toList, covers x (pc + 4 + w + 3) = false) (hRf : 6 ≤ R.frames) (hRl : (rest.map fun v => v.category).sum + 82 ≤ R.locals) (hRc : cells + 1 ≤ R.cells) (hRs : slots + 6 ≤ R.slots) (hlocks : meth.locks = false)
    (k : ∀ (U : State) (q : Addr) (ce : Cell), U.status = .running → Ended U below (.threw q) → s.WarmedH U.vm → s.sameButNew ({ U with vm := s.vm } : State) locs (cells + 1) (slots + 6) → U.heap[q]? = some ce → ce.vm = .none → s.vm.findClass th_E = some ce.cls → H.size ≤ U.heap.size → (∀ z : Nat, z < H.size → U.heap[z]? = H[z]?) → Z U) :
    W p l e R s m args below meth c H locs cells slots Z (F0 m pc la rest) := by
  intro T hT X
  have htr : e.platform.stackTraces = false := (show e.platform.stackTraces = l.stackTraces by rw [X.admits.platform]).trans hl
  obtain ⟨s', hv, hh, Y, hback⟩ := th_base X (k := 1) (n := 6) hRc hRs
  have hW0 : s.WarmedH s'.vm := by rw [hv]; exact State.WarmedH.refl s
  have hG' : th_G ad s' := th_G.moved hS (hh.trans hT) hW0 hG
  have hown' : s'.vm.findClass RX11 = some m.cls := by rw [hv]; exact hown
  have hw : ∀ x ∈ th_WS, x.before args s' = true := fun x hx => th_warm (State.WarmedH.refl s') (List.mem_filter.mp hx).2 (hG'.1 x hx)
  have hins : (Cond.instantiable th_E 6).before args s' = true := hG'.atoms _ (by simp [th_at])
  obtain ⟨vm₁, cX, kX, hfX, hkX, -, -, X₁, st1⟩ := Y.newCold hexec (own := RX11) (C := th_E) (index := 134) (n := 6) hown' (hw _ (th_links _ (by simp))) hins (hw _ (th_links _ (by simp)))
    (g := F0 m pc la rest) rfl (by rw [hb]; exact d0) (Nat.le_refl _) (Nat.le_refl _)
  generalize hT1 : (T.setVm vm₁).pushCell { cls := cX, slots := kX.instanceTypes.map defaultValue, vm := .none } = T1 at X₁ st1
  have hcat : (Value.ref T.heap.size).category = 1 := rfl
  have hcell : T1.heap[T.heap.size]? = some (freshCell cX kX) := by rw [← hT1]; exact State.heap_pushCell_size _ _
  have d3' : decode c.code (pc + 3) = .ok (.dup, 1) := by rw [hb]; exact d3
  obtain ⟨sa, hstr⟩ := hG'.2.2.2 i hi
  obtain ⟨U, hsteps, hrun, hend, hW, hsame, ce, hce, hcv, hcc⟩ := th_ctor X₁ hexec htr hown' hG'.atoms (fun x hx => nomatch hx) hfX hkX hcell (by rw [hh]; exact Nat.le_refl _) (msg := .ref sa) rfl
    (g := { method := m, pc := pc + 4 + w, locals := la, stack := .ref sa :: .ref T.heap.size :: .ref T.heap.size :: rest, locked := none }) rfl hsize rfl rfl (rest := rest) rfl
    (by rw [hb]; exact d6) (by rw [hb]; exact d9) hout hRf (by
      show 2 * 0 + ((Value.ref T.heap.size :: rest).map fun v => v.category).sum + 81 ≤ R.locals
      simp only [List.map_cons, List.sum_cons, hcat]
      omega) hlocks
  have hsame' : s'.sameButNew ({ U with vm := s.vm } : State) [] (0 + 1) (0 + 6) := by rw [← hv]; exact hsame
  obtain ⟨f1, f2⟩ := th_stay (s := s') (U := U) hsame
  rw [hh, hT] at f1 f2
  have hall := hback U [] _ _ hsame'
  rw [List.append_nil] at hall
  refine ⟨U, st1 _ ?_, k U T.heap.size ce hrun hend (State.WarmedH.trans hW0 hW) hall hce hcv (by rw [hcc, ← hv]; exact hfX) f1 f2⟩
  show Steps p.tables e below (T1.setTop { method := m, pc := pc + 3, locals := la, stack := .ref T.heap.size :: rest, locked := none }) _
  jvm_step X₁.here [X₁.here.top, hexec, d3', Value.category]
  rcases d4 with ⟨rfl, d4⟩ | ⟨rfl, d4⟩
  · exact X₁.ldcString hexec (own := RX11) (text := th_tx i) (index := i) (a := sa) hown' hstr.1 hstr.2
      (g := { method := m, pc := pc + 4, locals := la, stack := .ref T.heap.size :: .ref T.heap.size :: rest, locked := none }) rfl (by rw [hb]; exact d4) _ hsteps
  · exact X₁.ldcStringW hexec (own := RX11) (text := th_tx i) (index := i) (a := sa) hown' hstr.1 hstr.2
      (g := { method := m, pc := pc + 4, locals := la, stack := .ref T.heap.size :: .ref T.heap.size :: rest, locked := none }) rfl (by rw [hb]; exact d4) _ hsteps
end TH3
