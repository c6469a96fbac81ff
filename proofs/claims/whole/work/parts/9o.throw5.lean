/-! the caller's side: a call that returns or throws; the one row of the caller's table -/
section TH5
variable {p : Program} {l : Launch} {e : Env} {R : Room} {s : State} {m : MethodId} {args : Array Value} {below : List Frame} {meth : Method} {c : Code} {H : Heap} {locs : List Loc} {cells slots : Nat}
theorem th_call {cc : ByteArray} {own : String} {nL d : Nat} {D : va_G} {dA : Nat → ClassId} {ad : Nat → Nat} (hC : m2_C cc own nL (d + 1) p R s m args meth c D dA ad cells slots) (hst : l.stackTraces = false) {idx ci c0 nY n : Nat} {C : String} {T0 : u_T} {N : Nat} {y : MethodName} {cy : ByteArray} {ret : Option FieldType} {ks : List Nat} {as : List Value} {μ : m2M} {Q : Option Value → m2M → Prop} {XX : m2M → Prop}
    (hL : m2_LV own idx C y cy nY ret n) (hn : as.length = n) (hs : m2_sh c0 = some (.inr (ci, ks))) (hCl : vwCl[ci]? = some (C, T0, N)) (hM : m2_MX d y cy nY ret (.ref c0 :: as) μ Q XX) (hG : th_G ad s) (hP : va_P D vwCl (m2_ws dA ad μ) H) (hS : va_S (m2_A ad s.heap.size) s.heap H locs)
    {g : JFrame} (hg : g.method = m) (hsize : g.locals.size = nL) {rest : List Value} (hstack : g.stack = (as.map (m2_rv ad)).reverse ++ .ref (ad c0) :: rest) (hW : 2 * g.monitorRoom + (rest.map fun v => v.category).sum ≤ 8) (hdg : decode cc g.pc = .ok (.invokevirtual idx, 3)) (hc1 : cells + 1 ≤ R.cells) (hs6 : slots + 6 ≤ R.slots)
    {T : State} (hT : T.heap = H) (X : Stand p l e R s m args below meth c T locs cells slots) :
    (∃ (v : Option Value) (st₀ t T' : State) (L : List Loc), st₀.heap = H ∧ Stand p l e R s m args below meth c T' (locs ++ L) (cells + 1) (slots + 6) ∧ (∀ q ∈ L, m2_A ad H.size q.base) ∧ T'.heap = t.heap ∧ m2_Qc ret D dA ad (m2_A ad H.size) Q (Value.ref (ad c0) :: as.map (m2_rv ad)).toArray st₀ (.returned v) t ∧ Steps p.tables e below (T.setTop g) (T'.setTop { g with pc := g.pc + 3, stack := v.toList ++ rest })) ∨
    (∃ (q : Addr) (ce : Cell) (μ' : m2M) (T' : State) (L : List Loc), XX μ' ∧ Stand p l e R s m args below meth c T' (locs ++ L) (cells + 1) (slots + 6) ∧ (∀ z ∈ L, m2_A ad H.size z.base) ∧ T'.heap[q]? = some ce ∧ ce.vm = .none ∧ s.vm.findClass th_E = some ce.cls ∧ va_P D vwCl (m2_ws dA ad μ') T'.heap ∧ H.size ≤ T'.heap.size ∧ (∀ z : Nat, z < H.size → ¬ m2_A ad H.size z → T'.heap[z]? = H[z]?) ∧
      Steps p.tables e below (T.setTop g) ((T'.setTop { g with stack := rest }).pushFrame (.throwing q))) := by
  obtain ⟨hx, hb, hml, ho, hw, hK, hj, hk, hfr, hlo, hce, hsl⟩ := hC
  obtain ⟨hgd, ⟨hyC, hy1, hy2, hpar⟩, hnY⟩ := hL
  subst hyC
  have ok : ∀ w ∈ wsV own idx y.cls y (.code y cy nY ret :: m2_WS), w.before args s = true := fun w h => hw w (hgd w h).1
  obtain ⟨mk, methM, hnamed, hmethM, hstM, habM⟩ := Cond.instanceMethod_spec (ok (.instanceMethod y) (by simp [wsV]))
  obtain ⟨methM', cM, hmethM', hcM, -, hlM, -, -, -, hsigM⟩ := Cond.code_spec hnamed (ok (.code y cy nY ret) (by simp [wsV]))
  cases hmethM.symm.trans hmethM'
  obtain ⟨cellB, hcB, hoB, hclB⟩ := va_recv hK.1 hP (ci := ci) (q0 := c0) (fs := m2_fs ad (μ.1 c0) ks) hCl (by rw [m2_ws_get (m2_sh_lt hs), m2_ce_obj hs])
  obtain ⟨c2, r2, m2, q1, q2, q3, q4, kP, hkP, hkPi⟩ := Cond.selects_spec (ok (.selects y.cls y y) (by simp [wsV]))
  cases hclB.symm.trans q1
  cases (State.methodFound?_of_named hnamed ⟨hy1, hy2⟩).symm.trans q2
  cases hnamed.symm.trans q3
  have hselP : selectMethod e.platform s.vm cellB.cls mk = .method mk := by rw [Launch.admits_selectMethod X.admits]; exact q4
  have hlen : (as.map (m2_rv ad)).length = methM.sig.parameters.length := by
    rw [List.length_map, hn]
    rw [hsigM] at hpar
    exact (Option.some.inj hpar).symm
  obtain ⟨vm₁, X₁, hstep₁⟩ := X.invokevirtual hx ho (ok (.methodLink own idx y) (by simp [wsV])) hnamed hmethM hstM hkP hkPi ⟨hy1, hy2⟩ (a := ad c0) (cell := cellB) (by rw [hT]; exact hcB)
    (fun z h => by rw [h] at hoB; cases hoB) hselP hmethM habM hkP hkPi (g := g) hg (argsL := as.map (m2_rv ad)) (rest := rest) hlen hstack (by rw [hb]; exact hdg)
  have hkinit : ∀ kY : Class, (T.setVm vm₁).vm.classes[mk.cls]? = some kY → kY.init = .initialized := fun kY hkY =>
    Cond.initialized_spec (findClass_of_methodNamed (X₁.named hnamed)) hkY (word_at (a' := args) X₁.warmed (Or.inl rfl) (ok (.initialized y.cls) (by simp [wsV])))
  obtain ⟨methY, cY, hmY, hcY, -, hlY, -, -, -, -⟩ := Cond.code_spec (X₁.named hnamed) (word_at (a' := args) X₁.warmed (Or.inl rfl) (ok (.code y cy nY ret) (by simp [wsV])))
  obtain ⟨kY, hkY, -⟩ := className_of_methodNamed (X₁.named hnamed)
  have hA1 : At (T.setVm vm₁) ({ g with stack := rest } : JFrame).method c below := by
    show At (T.setVm vm₁) g.method c below
    rw [hg]
    exact X₁.here
  have happ : (headSpec (.code y cy nY ret :: m2_WS) (m2_rx d)).appliesLoose y e.platform ((T.setVm vm₁).calling { g with stack := rest } mk (Value.ref (ad c0) :: as.map (m2_rv ad)).toArray) = true := by
    refine Spec.appliesLoose_calling (g := { g with stack := rest }) hA1 (by rw [hb]; exact hdg) (X₁.named hnamed) hkY (hkinit kY hkY)
      (X₁.room_calling (g := { g with stack := rest }) (R' := m2_rx d) (hsize.trans hml.symm) hmY hcY hfr ?_ hc1 hs6) (atoms_intro fun w hw' => word_at X₁.warmed (good_of_word (by
        rcases List.mem_cons.mp hw' with rfl | h
        · rfl
        · exact (List.mem_filter.mp h).2)) (ok w (by unfold wsV; exact List.mem_append_right _ hw')))
    rw [hlY]
    show _ + (40 * d) ≤ R.locals
    have hW9 : 2 * ({ g with stack := rest } : JFrame).monitorRoom + ((({ g with stack := rest } : JFrame).stack).map fun v => v.category).sum ≤ 8 := hW
    omega
  obtain ⟨mid, hmid⟩ := hA1.above
  have hfrm : ((T.setVm vm₁).setTop { g with stack := rest }).frames = (.java { g with stack := rest } :: mid) ++ below := by rw [State.frames_setTop' _ hA1.top, hmid]; rfl
  obtain ⟨o, s₂, hsteps, -, hend, hq⟩ := Steps.callFree (hM l D dA ad H.size hst hj) p X.admits X.cas X.clock (acts := []) hfrm happ
    ⟨rfl, by rw [← hT]; rfl, by show va_P D vwCl (m2_ws dA ad μ) T.heap; rw [hT]; exact hP, m2_K.same (s := T.setVm vm₁) rfl (hK.moved X₁.warmed), th_G.moved (U := (T.setVm vm₁).calling { g with stack := rest } mk (Value.ref (ad c0) :: as.map (m2_rv ad)).toArray) hS hT X₁.warmed hG⟩ trivial
  rw [State.frames_setTop' _ hA1.top] at hend
  obtain ⟨g₀, hg0⟩ := Option.isSome_iff_exists.mp hA1.top
  obtain ⟨r, hr⟩ := State.topJava?_eq_some.mp hg0
  obtain ⟨tt, htt, -⟩ := State.frames_cons hr
  generalize hU : T.setVm vm₁ = U at X₁ hstep₁ hA1 hsteps hend hq hr htt
  have hUh : U.heap = H := by rw [← hU]; exact hT
  have hr' : (({ U with heap := s₂.heap, slotsUsed := s₂.slotsUsed } : State).setVm s₂.vm).frames = .java g₀ :: r := hr
  have key : ∀ L : List Loc, U.WarmedH s₂.vm → (U.calling { g with stack := rest } mk (Value.ref (ad c0) :: as.map (m2_rv ad)).toArray).sameButNew ({ s₂ with vm := U.vm } : State) L 1 6 →
      Stand p l e R s m args below meth c (({ U with heap := s₂.heap, slotsUsed := s₂.slotsUsed } : State).setVm s₂.vm) (locs ++ L) (cells + 1) (slots + 6) ∧ ∀ F : List Frame, s₂.frames = F → s₂ = (({ U with heap := s₂.heap, slotsUsed := s₂.slotsUsed } : State).setVm s₂.vm).setFrames F := by
    intro L hW2 hsm
    obtain ⟨e2, q5, q6, q7, q8, q9⟩ := id hsm
    have e3 : s₂ = ({ (U.calling { g with stack := rest } mk (Value.ref (ad c0) :: as.map (m2_rv ad)).toArray).setFrames s₂.frames with heap := s₂.heap, slotsUsed := s₂.slotsUsed } : State).setVm s₂.vm := by
      have h1 : s₂ = ({ s₂ with vm := U.vm } : State).setVm s₂.vm := rfl
      rw [e2] at h1
      exact h1
    have hsame : U.sameButNew ({ U with heap := s₂.heap, slotsUsed := s₂.slotsUsed } : State) L 1 6 := by
      refine ⟨?_, q5, q6, q7, q8, q9⟩
      show ({ U with heap := s₂.heap, slotsUsed := s₂.slotsUsed } : State) = { U.setFrames U.frames with heap := s₂.heap, slotsUsed := s₂.slotsUsed }
      rw [State.setFrames_self htt]
    refine ⟨⟨X₁.admits, X₁.cas, X₁.clock, X₁.frames, X₁.room, X₁.hears, X₁.method, X₁.code, (X₁.here.setHeapUsed s₂.heap s₂.slotsUsed).setVm hW2.alike, X₁.tail, State.WarmedH.trans X₁.warmed hW2, X₁.limits, X₁.bytes, X₁.same.trans (hsame.setVm s.vm)⟩, fun F hF => ?_⟩
    refine e3.trans ?_
    rw [hF, State.calling_eq hA1.top, State.setFrames_setFrames]
    rfl
  rcases hq with ⟨hqc, L, hfe, hL⟩ | ⟨q, ce, L, μ', rfl, hXX, hce', hcv, hcl, hW2, hsm, hL, hP', hF⟩
  · obtain ⟨⟨v, rfl⟩, hW2, hsm⟩ := id hfe
    obtain ⟨XS, hs2⟩ := key L hW2 hsm
    obtain ⟨c₂, i₂, len₂, hc₂, hd₂, hf₂⟩ := hend
    have hW' : U.WarmedH s₂.vm := hW2
    have hcc : c₂ = c := by
      have h1 : s₂.code? ({ g with stack := rest } : JFrame).method = U.code? ({ g with stack := rest } : JFrame).method := by
        rw [State.code?_eq, State.code?_eq, hW'.alike.method?]
      exact Option.some.inj (hc₂.symm.trans (h1.trans hA1.code))
    subst hcc
    have hd3 : decode c₂.code g.pc = .ok (i₂, len₂) := hd₂
    rw [hb, hdg] at hd3
    cases hd3
    have hs3 := hs2 _ hf₂
    refine Or.inl ⟨v, U.calling { g with stack := rest } mk (Value.ref (ad c0) :: as.map (m2_rv ad)).toArray, s₂, _, L, hUh, XS, hL, rfl, hqc, ?_⟩
    rw [State.setTop_of_frames _ hr']
    refine hstep₁ _ fun acts => ?_
    rw [doInvoke_state]
    rw [hr] at hs3
    rw [hs3] at hsteps
    exact hsteps
  · obtain ⟨XS, hs2⟩ := key L hW2 hsm
    have hf₂ : s₂.frames = .throwing q :: .java { g with stack := rest } :: U.frames.tail := hend
    have hs3 := hs2 _ hf₂
    refine Or.inr ⟨q, ce, μ', _, L, hXX, XS, hL, hce', hcv, ?_, hP', ?_, ?_, ?_⟩
    · have h9 : U.vm.findClass th_E = some ce.cls := hcl
      rw [X₁.warmed.alike.findClass] at h9
      exact h9
    · have h9 : U.heap.size ≤ s₂.heap.size := hF.1
      rw [hUh] at h9
      exact h9
    · intro z hz hnz
      have h9 := hF.2 z (by show z < U.heap.size; rw [hUh]; exact hz) hnz
      have h8 : s₂.heap[z]? = U.heap[z]? := h9
      rw [hUh] at h8
      exact h8
    · refine hstep₁ _ fun acts => ?_
      rw [doInvoke_state, State.pushFrame, State.frames_setTop _ hr', State.setTop_of_frames _ hr', State.setFrames_setFrames]
      rw [hr] at hs3
      rw [hs3] at hsteps
      exact hsteps
end TH5
