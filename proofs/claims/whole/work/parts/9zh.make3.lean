/-! making: calls of constructors, their ends, their contracts -/
def m3_rm (d a b : Nat) : Room := { frames := d, cells := a, slots := b, locals := 40 * d }
/-- the constructor y: on these arguments it makes the world wl' of the world wl -/
def m3_MT (d : Nat) (y : MethodName) (cc : ByteArray) (nL : Nat) (as : List Value) (wl wl' : List m3C) : Prop :=
  ∀ (l : Launch) (D : va_G) (dA : Nat → ClassId) (ad : Nat → Nat) (bs : Nat), m3_ad bs ad → Met l y (.code y cc nL none :: m2_WS) (m3_rm d (wl'.length - wl.length) (m3_sl wl' - m3_sl wl)) (va_Pc (as.map (m2_rv ad)) (fun U => U.heap.size = bs + wl.length ∧ va_P D vwCl (m3_ws dA ad wl) U.heap ∧ m3_K D dA U)) (va_Qv (fun _ : Unit => True) (fun _ t => t.heap.size = bs + wl'.length ∧ va_P D vwCl (m3_ws dA ad wl') t.heap) (fun q => bs ≤ q)) (wl'.length - wl.length) (m3_sl wl' - m3_sl wl) (fun q => bs ≤ q)
def m3_RL (κ : Nat → List Value → List Value → List m3C → Prop) (cc : ByteArray) (own : String) (nL d : Nat) (wl wl' : List m3C) : Prop :=
  ∃ (p : Program) (l : Launch) (e : Env) (R : Room) (s : State) (m : MethodId) (args : Array Value) (below : List Frame) (meth : Method) (c : Code) (D : va_G) (dA : Nat → ClassId) (ad : Nat → Nat) (bs : Nat), m3_C cc own "<init>" nL d wl'.length (m3_sl wl') wl.length (m3_sl wl) bs p R s m args meth c D dA ad ∧ meth.sig.returnType = none ∧
    κ = m3_J nL wl.length (m3_sl wl) bs p l e R s m args below meth c D dA ad (MQ below (va_Qv (fun _ : Unit => True) (fun _ t => t.heap.size = bs + wl'.length ∧ va_P D vwCl (m3_ws dA ad wl') t.heap) (fun q => bs ≤ q)) args s (wl'.length - wl.length) (m3_sl wl' - m3_sl wl) (fun q => bs ≤ q))
theorem m3_RL.b {κ : Nat → List Value → List Value → List m3C → Prop} {cc : ByteArray} {own : String} {nL d : Nat} {wl wl' : List m3C} (h : m3_RL κ cc own nL d wl wl') : m3_B κ cc own "<init>" nL d wl'.length (m3_sl wl') := by
  obtain ⟨p, l, e, R, s, m, args, below, meth, c, D, dA, ad, bs, hC, -, rfl⟩ := h
  exact ⟨p, l, e, R, s, m, args, below, meth, c, D, dA, ad, _, _, bs, _, hC, rfl⟩
theorem m3_vret {κ : Nat → List Value → List Value → List m3C → Prop} {cc : ByteArray} {own : String} {nL d pc : Nat} {ls : List Value} {wl wl' : List m3C} (h : m3_RL κ cc own nL d wl wl') (hd : decode cc pc = .ok (.return_, 1)) : κ pc ls [] wl' := by
  obtain ⟨p, l, e, R, s, m, args, below, meth, c, D, dA, ad, bs, ⟨hx, hb, hml, ho, hw, hK, hj, hk, hfr, hlo, hce, hsl, hbs, hnm⟩, hr, rfl⟩ := h
  intro H locs la cn sn hP hS hl
  obtain ⟨hP, hz, hc, hs⟩ := hP
  have e1 : cn = wl'.length - wl.length := by omega
  have e2 : sn = m3_sl wl' - m3_sl wl := by omega
  subst e1
  subst e2
  exact W.vret hx hb hr (fun t ht _ => ⟨⟨(), rfl, trivial, by show t.heap.size = bs + wl'.length ∧ va_P D vwCl (m3_ws dA ad wl') t.heap; rw [ht]; exact ⟨hz, hP⟩⟩, hS.F ht⟩) hS.2.2 hd hk
/-- what the tables say of a call of a constructor; of a nest mate's private one -/
def m3_LI (own : String) (idx : Nat) (y : MethodName) (cc : ByteArray) (nL n : Nat) : Prop :=
  Cond.methodLink own idx y ∈ m2_WS ∧ Cond.instanceMethod y ∈ m2_WS ∧ Cond.initialized y.cls ∈ m2_WS ∧ Cond.code y cc nL none ∈ m2_WS ∧ y.name = "<init>" ∧ (y.cls ≠ "java/lang/invoke/MethodHandle" ∧ y.cls ≠ "java/lang/invoke/VarHandle" ∧ (parseMethodDescriptor y.desc).map (fun d => d.parameters.length) = some n) ∧ nL ≤ 21
def m3_LN (own : String) (idx : Nat) (y : MethodName) (cc : ByteArray) (nL n : Nat) : Prop :=
  ∃ host : String, Cond.methodLinkNest own idx y host ∈ m2_NW ∧ Cond.instanceMethod y ∈ m2_WS ∧ Cond.initialized y.cls ∈ m2_WS ∧ Cond.code y cc nL none ∈ m2_WS ∧ y.name = "<init>" ∧ (y.cls ≠ "java/lang/invoke/MethodHandle" ∧ y.cls ≠ "java/lang/invoke/VarHandle" ∧ (parseMethodDescriptor y.desc).map (fun d => d.parameters.length) = some n) ∧ nL ≤ 21
section M3K
variable {κ : Nat → List Value → List Value → List m3C → Prop} {cc : ByteArray} {own nm : String} {nL d mt ss pc : Nat} {ls st stk : List Value} {μ μ' : List m3C}
theorem m3_inv (h : m3_B κ cc own nm nL (d + 1) mt ss) {idx c0 nY n : Nat} {y : MethodName} {cy : ByteArray} {as : List Value} (hd : decode cc pc = .ok (.invokespecial idx, 3)) (hL : m3_LI own idx y cy nY n) (hn : as.length = n) (hcat : (st.map fun v => v.category).sum ≤ 8) (hstk : stk = as.reverse ++ .ref c0 :: st) (h1 : μ.length ≤ μ'.length) (h2 : m3_sl μ ≤ m3_sl μ') (h3 : μ'.length ≤ mt) (h4 : m3_sl μ' ≤ ss)
    (hM : m3_MT d y cy nY (.ref c0 :: as) μ μ') (k : κ (pc + 3) ls st μ') : κ pc ls stk μ := by
  obtain ⟨p, l, e, R, s, m, args, below, meth, c, D, dA, ad, n0, s0, bs, Z, ⟨hx, hb, hml, ho, hw, hK, hj, hk, hfr, hlo, hce, hsl, hbs, hnm⟩, rfl⟩ := h
  obtain ⟨l1, l2, l3, l4, l5, l6, l7⟩ := hL
  intro H locs la cn sn hP hS hl
  obtain ⟨hP, hz, hc, hs⟩ := hP
  refine va_callv (va_runI (As := as.map (m2_rv ad)) (rest := st.map (m2_rv ad)) (b := ad c0) (n := n) ⟨hx, hb, hml, ho, hw⟩ (hM l D dA ad bs hj) (cwI n hw (m2_goodC l4) rfl rfl rfl (hw _ l3) (hw _ l1) (hw _ l2) l5 l6 ⟨?_, ?_⟩) ⟨?_, ?_⟩ rfl (by rw [List.length_map]; exact hn) hl.2.1 ?_ (lv_room (by rw [m2_cat]; exact hcat)) hd ⟨by omega, by omega⟩) hS (fun q _ z => z) (fun q z => z) (fun u t H1 locs1 ht _ _ hB _ _ hS1 => k H1 locs1 la _ _ ⟨by rw [← ht]; exact hB.2, by rw [← ht]; exact hB.1, by omega, by omega⟩ hS1 hl)
  · show d + 1 ≤ R.frames
    exact hfr
  · show 8 + (nY + 11) + 40 * d ≤ R.locals
    omega
  · intro a U g mk q
    obtain ⟨q0, q1, qP, qK⟩ := q
    exact ⟨q0, q1, qP, m3_K.same (s := U) (U := U.calling g mk a) rfl qK⟩
  · exact fun U hU hW => ⟨rfl, by rw [hU]; exact hz, by rw [hU]; exact hP, hK.moved hW⟩
  · show (stk.map (m2_rv ad)) = (as.map (m2_rv ad)).reverse ++ Value.ref (ad c0) :: st.map (m2_rv ad)
    rw [hstk, List.map_append, List.map_reverse]
    rfl
theorem m3_invN (h : m3_B κ cc own nm nL (d + 1) mt ss) {idx c0 nY n : Nat} {y : MethodName} {cy : ByteArray} {as : List Value} (hd : decode cc pc = .ok (.invokespecial idx, 3)) (hL : m3_LN own idx y cy nY n) (hn : as.length = n) (hcat : (st.map fun v => v.category).sum ≤ 8) (hstk : stk = as.reverse ++ .ref c0 :: st) (h1 : μ.length ≤ μ'.length) (h2 : m3_sl μ ≤ m3_sl μ') (h3 : μ'.length ≤ mt) (h4 : m3_sl μ' ≤ ss)
    (hM : m3_MT d y cy nY (.ref c0 :: as) μ μ') (k : κ (pc + 3) ls st μ') : κ pc ls stk μ := by
  obtain ⟨p, l, e, R, s, m, args, below, meth, c, D, dA, ad, n0, s0, bs, Z, ⟨hx, hb, hml, ho, hw, hK, hj, hk, hfr, hlo, hce, hsl, hbs, hnm⟩, rfl⟩ := h
  obtain ⟨host, l1, l2, l3, l4, l5, l6, l7⟩ := hL
  intro H locs la cn sn hP hS hl
  obtain ⟨hP, hz, hc, hs⟩ := hP
  refine va_callv (va_runIN (As := as.map (m2_rv ad)) (rest := st.map (m2_rv ad)) (b := ad c0) (n := n) ⟨hx, hb, hml, ho, hw⟩ (hM l D dA ad bs hj) ⟨va_cnB n hw (m2_goodC l4) rfl rfl rfl (hK.1.2 _ l1) (hw _ l3) l6 ⟨?_, ?_⟩, l5, hw _ l2⟩ ⟨?_, ?_⟩ rfl (by rw [List.length_map]; exact hn) hl.2.1 ?_ (lv_room (by rw [m2_cat]; exact hcat)) hd ⟨by omega, by omega⟩) hS (fun q _ z => z) (fun q z => z) (fun u t H1 locs1 ht _ _ hB _ _ hS1 => k H1 locs1 la _ _ ⟨by rw [← ht]; exact hB.2, by rw [← ht]; exact hB.1, by omega, by omega⟩ hS1 hl)
  · show d + 1 ≤ R.frames
    exact hfr
  · show 8 + (nY + 11) + 40 * d ≤ R.locals
    omega
  · intro a U g mk q
    obtain ⟨q0, q1, qP, qK⟩ := q
    exact ⟨q0, q1, qP, m3_K.same (s := U) (U := U.calling g mk a) rfl qK⟩
  · exact fun U hU hW => ⟨rfl, by rw [hU]; exact hz, by rw [hU]; exact hP, hK.moved hW⟩
  · show (stk.map (m2_rv ad)) = (as.map (m2_rv ad)).reverse ++ Value.ref (ad c0) :: st.map (m2_rv ad)
    rw [hstk, List.map_append, List.map_reverse]
    rfl
end M3K
theorem m3_MT.intro {d : Nat} {y : MethodName} {cc : ByteArray} {nL : Nat} {as ls : List Value} {wl wl' : List m3C} (hy : plainName y.cls = true) (hyn : y.name = "<init>") (hls : m2_in as ++ List.replicate (nL - (m2_in as).length) .null = ls) (hnl : (m2_in as).length ≤ nL)
    (hb : ∀ κ : Nat → List Value → List Value → List m3C → Prop, m3_RL κ cc y.cls nL d wl wl' → κ 0 ls [] wl) : m3_MT d y cc nL as wl wl' := by
  intro l D dA ad bs hj
  refine Met.ofW (cc := cc) (maxL := nL) (ret := none) hy rfl ?_
  intro p e s m args below meth c s₁ B hml hv
  obtain ⟨rfl, hsz, hP, hK⟩ := hv
  have hts := atoms_spec (ws := .code y cc nL none :: m2_WS) B.pre
  have hown : s.vm.findClass y.cls = some m.cls := findClass_of_methodNamed B.named
  have hin : meth.name = y.name := (name_of_methodNamed B.named B.method).1
  have hl := lv_entry (as.map (m2_rv ad)) (n := nL) (by rw [m2_in_len]; exact hnl)
  rw [lg_entry_eq]
  generalize (lg_sl (as.map (m2_rv ad)) ++ List.replicate (nL - (lg_sl (as.map (m2_rv ad))).length) Slot.unset).toArray = la at hl ⊢
  have hlen : ls.length = nL := by
    rw [← hls, List.length_append, List.length_replicate]
    omega
  refine hb _ ⟨p, l, e, m3_rm d (wl'.length - wl.length) (m3_sl wl' - m3_sl wl), s, m, _, below, meth, c, D, dA, ad, bs, ⟨B.exec, B.bytes, hml, hown, fun w h => hts w (List.mem_cons_of_mem _ h), hK, hj, B.notSynchronized, Nat.le_refl _, Nat.le_refl _, by show wl'.length ≤ wl'.length - wl.length + wl.length; omega, by show m3_sl wl' ≤ m3_sl wl' - m3_sl wl + m3_sl wl; omega, by omega, hin.trans hyn⟩, B.returns, rfl⟩ s.heap [] la 0 0 ⟨hP, hsz, Nat.zero_add _, Nat.zero_add _⟩ va_S.rf ⟨hlen, hl.1, hl.2.1, fun i v hi hn => ?_⟩
  have hi2 : (m2_in as)[i]? = some v := by
    rw [← hls] at hi
    by_cases hlt : i < (m2_in as).length
    · rw [List.getElem?_append_left hlt] at hi
      exact hi
    · rw [List.getElem?_append_right (by omega)] at hi
      have := List.eq_of_mem_replicate (List.mem_of_getElem? hi)
      exact absurd this hn
  have h1 := m2_in_args (ad := ad) as 0 i v hi2 hn
  rw [Nat.zero_add] at h1
  exact hl.2.2 _ h1
