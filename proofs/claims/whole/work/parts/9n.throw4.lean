/-! a method of the class that returns or throws a NoSuchElementException: its contract, the walk of its body -/
def m2_rx (d : Nat) : Room := { frames := d, cells := 1, slots := 6, locals := 40 * d }
def m2_XQ (ret : Option FieldType) (D : va_G) (dA : Nat → ClassId) (ad : Nat → Nat) (A : Nat → Prop) (Q : Option Value → m2M → Prop) (X : m2M → Prop) : Array Value → State → Outcome → State → Prop := fun a st o t =>
  (m2_Qc ret D dA ad A Q a st o t ∧ ∃ L, FrameEnd st o t L 1 6 ∧ ∀ q ∈ L, A q.base) ∨
  ∃ (q : Addr) (ce : Cell) (L : List Loc) (μ' : m2M), o = .threw q ∧ X μ' ∧ t.heap[q]? = some ce ∧ ce.vm = .none ∧ st.vm.findClass th_E = some ce.cls ∧ st.WarmedH t.vm ∧ st.sameButNew ({ t with vm := st.vm } : State) L 1 6 ∧ (∀ z ∈ L, A z.base) ∧ va_P D vwCl (m2_ws dA ad μ') t.heap ∧ va_F A st t
def m2_XP (D : va_G) (dA : Nat → ClassId) (ad : Nat → Nat) (sz : Nat) (as : List Value) (μ : m2M) : Array Value → State → Prop := va_Pc (as.map (m2_rv ad)) (fun U => U.heap.size = sz ∧ va_P D vwCl (m2_ws dA ad μ) U.heap ∧ m2_K D dA U ∧ th_G ad U)
def m2_MX (d : Nat) (y : MethodName) (cc : ByteArray) (nL : Nat) (ret : Option FieldType) (as : List Value) (μ : m2M) (Q : Option Value → m2M → Prop) (X : m2M → Prop) : Prop :=
  ∀ (l : Launch) (D : va_G) (dA : Nat → ClassId) (ad : Nat → Nat) (sz : Nat), l.stackTraces = false → m2_inj ad → MetFree l y (headSpec (.code y cc nL ret :: m2_WS) (m2_rx d)) (m2_XP D dA ad sz as μ) (fun _ _ _ _ _ => True) (m2_XQ ret D dA ad (m2_A ad sz) Q X)
def m2_RX (κ : Nat → List Value → List Value → m2M → Prop) (cc : ByteArray) (own : String) (nL d : Nat) (ret : Option FieldType) (Q : Option Value → m2M → Prop) (X : m2M → Prop) : Prop :=
  ∃ (p : Program) (l : Launch) (e : Env) (R : Room) (s : State) (m : MethodId) (args : Array Value) (below : List Frame) (meth : Method) (c : Code) (D : va_G) (dA : Nat → ClassId) (ad : Nat → Nat), m2_C cc own nL d p R s m args meth c D dA ad 0 0 ∧ meth.sig.returnType = ret ∧ l.stackTraces = false ∧ th_G ad s ∧ (∀ x ∈ c.exceptionTable.toList, False) ∧ 1 ≤ R.cells ∧ 6 ≤ R.slots ∧
    κ = m2_J nL p l e R s m args below meth c D dA ad 0 0 (fun t => ∃ o, t.status = .running ∧ Ended t below o ∧ m2_XQ ret D dA ad (m2_A ad s.heap.size) Q X args s o t)
theorem th_W {p : Program} {l : Launch} {e : Env} {R : Room} {s : State} {m : MethodId} {args : Array Value} {below : List Frame} {meth : Method} {c : Code} {H : Heap} {locs : List Loc} {cells slots : Nat} {Z Z' : State → Prop} {g : JFrame} (h : W p l e R s m args below meth c H locs cells slots Z g) (hz : ∀ t, Z t → Z' t) : W p l e R s m args below meth c H locs cells slots Z' g := fun T hT X => by
  obtain ⟨t, a, b⟩ := h T hT X
  exact ⟨t, a, hz t b⟩
section TH4
variable {κ : Nat → List Value → List Value → m2M → Prop} {cc : ByteArray} {own : String} {nL d pc : Nat} {ls st : List Value} {μ : m2M} {Q : Option Value → m2M → Prop} {X : m2M → Prop} {ret : Option FieldType}
theorem m2_RX.b (h : m2_RX κ cc own nL d ret Q X) : m2_B κ cc own nL d := by
  obtain ⟨p, l, e, R, s, m, args, below, meth, c, D, dA, ad, hC, -, -, -, -, -, -, hk⟩ := h
  exact ⟨p, l, e, R, s, m, args, below, meth, c, D, dA, ad, 0, 0, _, hC, hk⟩
theorem th_MQ {D : va_G} {dA : Nat → ClassId} {ad : Nat → Nat} {A : Nat → Prop} {below : List Frame} {args : Array Value} {s t : State} (h : MQ below (m2_Qc ret D dA ad A Q) args s 0 0 A t) : ∃ o, t.status = .running ∧ Ended t below o ∧ m2_XQ ret D dA ad A Q X args s o t := by
  obtain ⟨o, h1, h2, h3, L, h4, h5⟩ := h
  exact ⟨o, h1, h2, Or.inl ⟨h3, L, ⟨h4.1, h4.2.1, h4.2.2.mono (Nat.zero_le _) (Nat.zero_le _)⟩, h5⟩⟩
theorem m2_xiret (h : m2_RX κ cc own nL d (some .int) Q X) {v : Int32} (hd : decode cc pc = .ok (.ireturn, 1)) (hq : Q (some (.int v)) μ) : κ pc ls [.int v] μ := by
  obtain ⟨p, l, e, R, s, m, args, below, meth, c, D, dA, ad, ⟨hx, hb, hml, ho, hw, hK, hj, hk, hfr, hlo, hce, hsl⟩, hr, -, -, -, -, -, rfl⟩ := h
  intro H locs la hP hS hl
  exact th_W (W.iret hx hb hr (fun t ht _ => ⟨⟨v, μ, rfl, hq, by show va_P D vwCl (m2_ws dA ad μ) t.heap; rw [ht]; exact hP⟩, hS.F ht⟩) hS.2.2 hd hk) (fun t ht => th_MQ (ret := some .int) ht)
theorem m2_xlret (h : m2_RX κ cc own nL d (some .long) Q X) {v : Int64} (hd : decode cc pc = .ok (.lreturn, 1)) (hq : Q (some (.long v)) μ) : κ pc ls [.long v] μ := by
  obtain ⟨p, l, e, R, s, m, args, below, meth, c, D, dA, ad, ⟨hx, hb, hml, ho, hw, hK, hj, hk, hfr, hlo, hce, hsl⟩, hr, -, -, -, -, -, rfl⟩ := h
  intro H locs la hP hS hl
  exact th_W (W.lret hx hb hr (fun t ht _ => ⟨⟨v, μ, rfl, hq, by show va_P D vwCl (m2_ws dA ad μ) t.heap; rw [ht]; exact hP⟩, hS.F ht⟩) hS.2.2 hd hk) (fun t ht => th_MQ (ret := some .long) ht)
theorem m2_xthrow (h : m2_RX κ cc RX11 nL d ret Q X) {w i : Nat} (hi : i ∈ [136, 165, 419]) (d0 : decode cc pc = .ok (.new 134, 3)) (d3 : decode cc (pc + 3) = .ok (.dup, 1)) (d4 : (w = 2 ∧ decode cc (pc + 4) = .ok (.ldc i, 2)) ∨ (w = 3 ∧ decode cc (pc + 4) = .ok (.ldc_w i, 3)))
    (d6 : decode cc (pc + 4 + w) = .ok (.invokespecial 138, 3)) (d9 : decode cc (pc + 4 + w + 3) = .ok (.athrow, 1)) (hd : 6 ≤ d) (hcat : (st.map fun v => v.category).sum ≤ 8) (hX : X μ) : κ pc ls st μ := by
  obtain ⟨p, l, e, R, s, m, args, below, meth, c, D, dA, ad, ⟨hx, hb, hml, ho, hw, hK, hj, hk, hfr, hlo, hce, hsl⟩, hr, hst, hG, hno, hc1, hs6, rfl⟩ := h
  intro H locs la hP hS hl
  refine th_throw hx hb hst ho hG hi hS (by rw [hml]; exact hl.2.1) d0 d3 d4 d6 d9 (fun x hx => (hno x hx).elim) (by omega) ?_ (by omega) (by omega) hk ?_
  · rw [m2_cat]
    omega
  · intro U q ce h1 h2 h3 h4 h5 h6 h7 h8 h9
    refine ⟨.threw q, h1, h2, Or.inr ⟨q, ce, locs, μ, rfl, hX, h5, h6, h7, h3, h4.mono (by omega) (by omega), hS.2.2, hP.kept (fun k x hk => h9 _ (hP k x hk).lt), Nat.le_trans hS.1 h8, fun z hz hn => ?_⟩⟩
    rw [h9 z (Nat.lt_of_lt_of_le hz hS.1)]
    exact hS.2.1 z hz hn
end TH4
theorem m2_MX.intro {d : Nat} {y : MethodName} {cc : ByteArray} {nL : Nat} {ret : Option FieldType} {as ls : List Value} {μ : m2M} {Q : Option Value → m2M → Prop} {X : m2M → Prop} (hy : plainName y.cls = true) (hls : m2_in as ++ List.replicate (nL - (m2_in as).length) .null = ls) (hnl : (m2_in as).length ≤ nL)
    (hb : ∀ κ : Nat → List Value → List Value → m2M → Prop, m2_RX κ cc y.cls nL d ret Q X → κ 0 ls [] μ) : m2_MX d y cc nL ret as μ Q X := by
  intro l D dA ad sz hst hj
  refine MetFree.of_bodyS (code := cc) (maxLocals := nL) (ret := ret) hy ?_ ?_
  · intro args s m h hn
    obtain ⟨meth, c, h1, h2, h3, h4, h5, h6, -, -⟩ := Cond.code_spec hn (atoms_spec (ws := .code y cc nL ret :: m2_WS) h _ List.mem_cons_self)
    exact ⟨meth, c, h1, h2, h3, h4, h5, h6⟩
  · intro p e s m args below meth c s₁ B hml hv _
    obtain ⟨rfl, hsz, hP, hK, hG⟩ := hv
    subst hsz
    have hh0 : s₁.heap = s.heap := by rw [B.state]; rfl
    have hts := atoms_spec (ws := .code y cc nL ret :: m2_WS) B.pre
    have hown : s.vm.findClass y.cls = some m.cls := findClass_of_methodNamed B.named
    have hno : ∀ x ∈ c.exceptionTable.toList, False := by
      obtain ⟨meth9, c9, h1, h2, -, -, -, -, h7, -⟩ := Cond.code_spec B.named (hts _ List.mem_cons_self)
      cases Option.some.inj (h1.symm.trans B.method)
      cases Option.some.inj (h2.symm.trans (Stand.of_body B).code)
      intro x hx
      rw [Array.isEmpty_iff.mp h7] at hx
      cases hx
    have hl := lv_entry (as.map (m2_rv ad)) (n := nL) (by rw [m2_in_len]; exact hnl)
    have hlen : ls.length = nL := by
      rw [← hls, List.length_append, List.length_replicate]
      omega
    have hJ := hb _ ⟨p, l, e, m2_rx d, s, m, _, below, meth, c, D, dA, ad, ⟨B.exec, B.bytes, hml, hown, fun w h => hts w (List.mem_cons_of_mem _ h), hK, hj, B.notSynchronized, Nat.le_refl _, Nat.le_refl _, Nat.zero_le _, Nat.zero_le _⟩, B.returns, hst, hG, hno, Nat.le_refl _, Nat.le_refl _, rfl⟩ s.heap [] (lg_sl (as.map (m2_rv ad)) ++ List.replicate (nL - (lg_sl (as.map (m2_rv ad))).length) Slot.unset).toArray hP va_S.rf ⟨hlen, hl.1, hl.2.1, fun i v hi hn => ?_⟩
    · obtain ⟨t, a1, o, b1, b2, b3⟩ := hJ s₁ hh0 (Stand.of_body B)
      rw [List.map_nil, ← lg_entry_eq] at a1
      exact ⟨t, o, a1, b1, b2, b3⟩
    · have hi2 : (m2_in as)[i]? = some v := by
        rw [← hls] at hi
        by_cases hlt : i < (m2_in as).length
        · rw [List.getElem?_append_left hlt] at hi
          exact hi
        · rw [List.getElem?_append_right (by omega)] at hi
          have := List.eq_of_mem_replicate (List.mem_of_getElem? hi)
          exact absurd this hn
      have h1 := m2_in_args (ad := ad) as 0 i v hi2 hn
      rw [Nat.zero_add] at h1
      exact hl.2.2 _ h1
