section TH6
variable {p : Program} {l : Launch} {e : Env} {R : Room} {s : State} {m : MethodId} {args : Array Value} {below : List Frame} {meth : Method} {c : Code} {locs : List Loc} {cells slots : Nat}
theorem th_find {S : State} {f : JFrame} {a : Addr} {x : ExceptionTableEntry} {cC : ClassId} {cell : Cell} (hm : S.vm.method? f.method = some meth) (hc : meth.code = some c) (ht : c.exceptionTable.toList = [x]) (hx : covers x f.pc = true) (h0 : x.catchType ≠ 0) (hl : S.vm.ClassLinks e.platform f.method.cls x.catchType cC) (hcell : S.heap[a]? = some cell) (hobj : ∀ k, cell.vm ≠ .statics k)
    (hk : ∃ k, S.vm.classes[cell.cls]? = some k) (hcC : ∃ k, S.vm.classes[cC]? = some k) (hfit : S.vm.assignable cell.cls cC = true) (Q : Handler → Pre) (E : CtlPost) (d : Bool) (acts : List Action) : wp (findHandler f a) Q E e d acts S ↔ Q (.found x.handlerPc) d acts (S.setVm (S.vm.noted f.method.cls x.catchType (.cls cC))) := by
  rw [_root_.Jvm.W.findHandler_eq hm hc, ht]
  simp only [covers] at hx
  obtain ⟨g1, g2⟩ := (resolveClass_links e.toSetting hl).op (op := VmOp.resolveClass f.method.cls x.catchType) rfl
  have hal : S.vm.Alike (S.vm.noted f.method.cls x.catchType (.cls cC)) := (Vm.Alike.refl S.vm).noted _ _ _
  obtain ⟨k1, hk1⟩ := hk
  obtain ⟨k2, hk2⟩ := hcC
  obtain ⟨k3, hk3, -⟩ := hal.2.2 _ _ hk1
  obtain ⟨k4, hk4, -⟩ := hal.2.2 _ _ hk2
  have hfit2 : (S.vm.noted f.method.cls x.catchType (.cls cC)).assignable cell.cls cC = true := by rw [hal.assignable]; exact hfit
  simp [findHandler.go, hx, h0, g1, g2, hcell, hobj, hk3, hk4, hfit2, VmOp.dirties, VmOp.acts]
/-- thrown by a callee, taken by the one row of this method's table -/
theorem th_catch {T : State} {x : ExceptionTableEntry} {q : Addr} {ce : Cell} {pc : Nat} {la : Array Slot} {st : List Value} {Z : State → Prop} (hown : s.vm.findClass RL = some m.cls) (ht : c.exceptionTable.toList = [x]) (hx : covers x pc = true) (h13 : x.catchType = 13) (hw : ∀ w ∈ th_WS, w.before args s = true)
    (X : Stand p l e R s m args below meth c T locs cells slots) (hcell : T.heap[q]? = some ce) (hcv : ce.vm = .none) (hcl : s.vm.findClass th_E = some ce.cls) (k : W p l e R s m args below meth c T.heap locs cells slots Z (F0 m x.handlerPc la [.ref q])) :
    ∃ t, Steps p.tables e below ((T.setTop (F0 m pc la st)).pushFrame (.throwing q)) t ∧ Z t := by
  have hpl : e.platform.magicAccessors = ({} : Platform).magicAccessors := by rw [X.admits.platform]
  have hlink : (Cond.classLink RL x.catchType th_E).before args s = true := by rw [h13]; exact hw _ (th_links _ (by simp))
  obtain ⟨cT, hcT, hl0⟩ := Cond.classLink_spec hown hlink e.platform hpl
  have e1 : cT = ce.cls := Option.some.inj (hcT.symm.trans hcl)
  subst e1
  obtain ⟨c3, c4, hc3, hc4, hasg⟩ := Cond.castable_spec (hw (.castable th_E th_E) (th_links _ (by simp)))
  have e2 : c3 = ce.cls := Option.some.inj (hc3.symm.trans hcl)
  have e3 : c4 = ce.cls := Option.some.inj (hc4.symm.trans hcl)
  subst e2
  subst e3
  obtain ⟨dk, _, _, kt, hd, _, _, _, _, hkt, _, hopen⟩ := hl0.here
  have hlT := X.warmed.classLinks hl0
  have hal := X.warmed.alike
  obtain ⟨kt', hkt', -⟩ := hal.2.2 _ _ hkt
  have hfit : T.vm.assignable ce.cls ce.cls = true := by rw [hal.assignable]; exact hasg
  have hW' : s.WarmedH (T.vm.noted m.cls x.catchType (.cls ce.cls)) := X.warmed.noted hd hopen (State.rightAt_cls hl0)
  obtain ⟨t, a1, b1⟩ := k (T.setVm (T.vm.noted m.cls x.catchType (.cls ce.cls))) rfl (X.noted hW')
  refine ⟨t, ?_, b1⟩
  have hfind := th_find (e := e) (S := (T.setTop (F0 m pc la st)).pushFrame (.throwing q)) (f := F0 m pc la st) (a := q) (x := x) (cC := ce.cls) (cell := ce) (meth := meth) (c := c) X.method' X.code ht hx (by rw [h13]; decide) hlT hcell (by intro k hk; rw [hcv] at hk; cases hk) ⟨kt', hkt'⟩ ⟨kt', hkt'⟩ hfit
  have hstep : ∀ r : List Frame, (stepThrowing e ((T.setTop (F0 m pc la st)).pushFrame (.throwing q)) q (.java (F0 m pc la st) :: r)).Is ((((T.setTop (F0 m pc la st)).pushFrame (.throwing q)).setVm (T.vm.noted m.cls x.catchType (.cls ce.cls))).setFrames (.java (F0 m x.handlerPc la [.ref q]) :: r)) [] := by
    intro r
    simp only [stepThrowing, searchFrame, vmDo]
    generalize hr : Sem.go _ e false [] ((T.setTop (F0 m pc la st)).pushFrame (.throwing q)) = res
    obtain ⟨as, rfl, ha⟩ := Sem.eq_ok_of hr (a := Handler.found x.handlerPc) (s' := ((T.setTop (F0 m pc la st)).pushFrame (.throwing q)).setVm (T.vm.noted m.cls x.catchType (.cls ce.cls))) (acts' := []) (by simp [hfind _ _ _ _]; rfl)
    exact ⟨rfl, ha⟩
  have hhere : At T (F0 m pc la st).method c below := X.here
  obtain ⟨hgo, hwi⟩ := hhere.throwing q
  refine Steps.head hgo hwi ?_
  rw [stepThread_throwing (frames_entered X.here.top _), (hstep _).1]
  obtain ⟨g0, hg0⟩ := Option.isSome_iff_exists.mp X.here.top
  obtain ⟨r, hr⟩ := State.topJava?_eq_some.mp hg0
  have hr' : (T.setVm (T.vm.noted m.cls x.catchType (.cls ce.cls))).frames = .java g0 :: r := hr
  have hf2 : ∀ (u : State) (vm' : Vm) (F G : List Frame), ((u.setFrames F).setVm vm').setFrames G = (u.setVm vm').setFrames G := by
    intro u vm' F G
    have h1 : (u.setFrames F).setVm vm' = (u.setVm vm').setFrames F := rfl
    rw [h1, State.setFrames_setFrames]
  rw [State.setTop_of_frames _ hr'] at a1
  rw [hr, List.tail_cons, State.pushFrame, hf2, State.setTop_of_frames _ hr, hf2]
  exact a1
theorem th_lv {ad : Nat → Nat} {nL i : Nat} {ls : List Value} {la la' : Array Slot} {v : Value} (h : m2_lv ad nL ls la) (h' : lv_has la' nL ((i, v) :: (m2_pairs ad ls).filter (fun q => !(q.1 == i) && !(q.1 + 1 == i && q.2.category == 2)))) : m2_lv ad nL (m2_st ls i .null) la' := by
  refine ⟨by unfold m2_st; rw [List.length_set, m2_kl_len]; exact h.1, h'.1, h'.2.1, fun j w hj hw => ?_⟩
  unfold m2_st at hj
  by_cases hji : j = i
  · subst hji
    have hl := (List.getElem?_eq_some_iff.mp hj).1
    rw [List.getElem?_set_self (by simpa using hl)] at hj
    cases hj
    exact absurd rfl hw
  · rw [List.getElem?_set_ne (fun q => hji q.symm)] at hj
    obtain ⟨h1, h2⟩ := m2_kl_of hj hw
    refine h'.2.2 (j, m2_rv ad w) (List.mem_cons_of_mem _ (List.mem_filter.mpr ⟨m2_pairs_mem h1 hw, ?_⟩))
    simp only [Bool.and_eq_true, Bool.not_eq_true', beq_eq_false_iff_ne, ne_eq, Bool.and_eq_false_iff, m2_rv_cat]
    exact ⟨hji, by by_cases q : j + 1 = i; exact Or.inr (fun z => h2 ⟨q, z⟩); exact Or.inl q⟩
end TH6
