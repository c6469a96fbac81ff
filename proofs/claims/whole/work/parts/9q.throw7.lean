/-! a static helper of the law with one row in its table: its contract, its walk (κ ahead of the call, κ' behind it), the call with both ends -/
def m2_MY (d : Nat) (y : MethodName) (cc : ByteArray) (nL : Nat) (ret : Option FieldType) (hh : List (Nat × Nat × Nat × Nat)) (as : List Value) (μ : m2M) (Q : Option Value → m2M → Prop) : Prop :=
  ∀ (l : Launch) (D : va_G) (dA : Nat → ClassId) (ad : Nat → Nat) (sz : Nat), l.stackTraces = false → m2_inj ad → Met l y (.codeWith y cc nL ret hh :: m2_WS) (m2_rx d) (m2_XP D dA ad sz as μ) (m2_Qc ret D dA ad (m2_A ad sz) Q) 1 6 (m2_A ad sz)
def m2_RY (κ κ' : Nat → List Value → List Value → m2M → Prop) (cc : ByteArray) (own : String) (nL d : Nat) (ret : Option FieldType) (hh : List (Nat × Nat × Nat × Nat)) (Q : Option Value → m2M → Prop) : Prop :=
  ∃ (p : Program) (l : Launch) (e : Env) (R : Room) (s : State) (m : MethodId) (args : Array Value) (below : List Frame) (meth : Method) (c : Code) (D : va_G) (dA : Nat → ClassId) (ad : Nat → Nat), m2_C cc own nL d p R s m args meth c D dA ad 1 6 ∧ meth.sig.returnType = ret ∧ l.stackTraces = false ∧ th_G ad s ∧ c.exceptionTable.toList.map (fun h => (h.startPc, h.endPc, h.handlerPc, h.catchType)) = hh ∧
    κ = m2_J nL p l e R s m args below meth c D dA ad 0 0 (MQ below (m2_Qc ret D dA ad (m2_A ad s.heap.size) Q) args s 1 6 (m2_A ad s.heap.size)) ∧
    κ' = m2_J nL p l e R s m args below meth c D dA ad 1 6 (MQ below (m2_Qc ret D dA ad (m2_A ad s.heap.size) Q) args s 1 6 (m2_A ad s.heap.size))
theorem th_C0 {cc : ByteArray} {own : String} {nL d : Nat} {p : Program} {R : Room} {s : State} {m : MethodId} {args : Array Value} {meth : Method} {c : Code} {D : va_G} {dA : Nat → ClassId} {ad : Nat → Nat} {i j : Nat} (h : m2_C cc own nL d p R s m args meth c D dA ad i j) : m2_C cc own nL d p R s m args meth c D dA ad 0 0 := by
  obtain ⟨hx, hb, hml, ho, hw, hK, hj, hk, hfr, hlo, hce, hsl⟩ := h
  exact ⟨hx, hb, hml, ho, hw, hK, hj, hk, hfr, hlo, Nat.zero_le _, Nat.zero_le _⟩
theorem th_Qc {ret : Option FieldType} {D : va_G} {dA : Nat → ClassId} {ad : Nat → Nat} {A : Nat → Prop} {Q : Option Value → m2M → Prop} {a : Array Value} {st t : State} {v : Option Value} (h : m2_Qc ret D dA ad A Q a st (.returned v) t) : ∃ μ' : m2M, m2_okr ret v ∧ Q v μ' ∧ va_P D vwCl (m2_ws dA ad μ') t.heap ∧ va_F A st t := by
  cases ret with
  | none =>
    obtain ⟨⟨u, h1, h2, h3⟩, h4⟩ := h
    cases h1
    exact ⟨u, rfl, h2, h3, h4⟩
  | some ty =>
    cases ty <;> (obtain ⟨⟨r, u, h1, h2, h3⟩, h4⟩ := h; cases h1; exact ⟨u, ⟨r, rfl⟩, h2, h3, h4⟩)
theorem th_S2 {ad : Nat → Nat} {H0 H H1 : Heap} {locs L : List Loc} (hS : va_S (m2_A ad H0.size) H0 H locs) (h1 : H.size ≤ H1.size) (h2 : ∀ z : Nat, z < H.size → ¬ m2_A ad H.size z → H1[z]? = H[z]?) (h3 : ∀ z ∈ L, m2_A ad H.size z.base) : va_S (m2_A ad H0.size) H0 H1 (locs ++ L) := by
  have hA : ∀ q, m2_A ad H.size q → m2_A ad H0.size q := by
    intro q hq
    rcases hq with h | h
    · exact Or.inl h
    · exact Or.inr (Nat.le_trans hS.1 h)
  refine ⟨Nat.le_trans hS.1 h1, fun q hq hn => ?_, fun z hz => ?_⟩
  · rw [h2 q (Nat.lt_of_lt_of_le hq hS.1) (fun w => hn (hA q w))]
    exact hS.2.1 q hq hn
  · rcases List.mem_append.mp hz with h | h
    · exact hS.2.2 z h
    · exact hA _ (h3 z h)
theorem th_row {c : Code} {a b h0 : Nat} (h : c.exceptionTable.toList.map (fun h => (h.startPc, h.endPc, h.handlerPc, h.catchType)) = [(a, b, h0, 13)]) : ∃ x : ExceptionTableEntry, c.exceptionTable.toList = [x] ∧ x.startPc = a ∧ x.endPc = b ∧ x.handlerPc = h0 ∧ x.catchType = 13 := by
  cases hl : c.exceptionTable.toList with
  | nil => rw [hl] at h; cases h
  | cons x r =>
    rw [hl] at h
    cases r with
    | cons y r => simp at h
    | nil =>
      simp only [List.map_cons, List.map_nil, List.cons.injEq, Prod.mk.injEq, and_true] at h
      exact ⟨x, rfl, h.1, h.2.1, h.2.2.1, h.2.2.2⟩
section TH7
variable {κ κ' : Nat → List Value → List Value → m2M → Prop} {cc : ByteArray} {own : String} {nL d pc : Nat} {ls ls' st stk : List Value} {μ : m2M} {Q : Option Value → m2M → Prop} {ret : Option FieldType} {hh : List (Nat × Nat × Nat × Nat)}
theorem m2_RY.b (h : m2_RY κ κ' cc own nL d ret hh Q) : m2_B κ cc own nL d := by
  obtain ⟨p, l, e, R, s, m, args, below, meth, c, D, dA, ad, hC, -, -, -, -, hk, -⟩ := h
  exact ⟨p, l, e, R, s, m, args, below, meth, c, D, dA, ad, 0, 0, _, th_C0 hC, hk⟩
theorem m2_RY.rl (h : m2_RY κ κ' cc own nL d ret hh Q) : m2_RL κ' cc own nL d ret Q := by
  obtain ⟨p, l, e, R, s, m, args, below, meth, c, D, dA, ad, hC, hr, -, -, -, -, hk⟩ := h
  exact ⟨p, l, e, R, s, m, args, below, meth, c, D, dA, ad, 1, 6, hC, hr, hk⟩
theorem m2_invX {a b h0 w : Nat} (h : m2_RY κ κ' cc RL nL (d + 1) ret [(a, b, h0, 13)] Q) {idx ci c0 nY n i : Nat} {C : String} {T : u_T} {N : Nat} {y : MethodName} {cy : ByteArray} {rt : Option FieldType} {ks : List Nat} {as : List Value} {Q1 : Option Value → m2M → Prop} {X1 : m2M → Prop} (hd : decode cc pc = .ok (.invokevirtual idx, 3)) (hL : m2_LV RL idx C y cy nY rt n) (hn : as.length = n) (hs : m2_sh c0 = some (.inr (ci, ks))) (hC : vwCl[ci]? = some (C, T, N)) (hcat : (st.map fun v => v.category).sum ≤ 8) (hstk : stk = as.reverse ++ .ref c0 :: st)
    (hM : m2_MX d y cy nY rt (.ref c0 :: as) μ Q1 X1) (hpc : a ≤ pc ∧ pc < b) (dh : (w = 2 ∧ decode cc h0 = .ok (.astore i, 2)) ∨ (w = 1 ∧ ∃ k4 : Fin 4, (k4 : Nat) = i ∧ decode cc h0 = .ok (.astore_n k4, 1))) (hi : i < nL) (hls : m2_st ls i .null = ls')
    (k : ∀ (r : Option Value) (μ' : m2M), m2_okr rt r → Q1 r μ' → κ' (pc + 3) ls (r.toList ++ st) μ') (kx : ∀ μ' : m2M, X1 μ' → κ' (h0 + w) ls' [] μ') : κ pc ls stk μ := by
  obtain ⟨p, l, e, R, s, m, args, below, meth, c, D, dA, ad, hc, hr, hst, hG, htab, rfl, rfl⟩ := h
  obtain ⟨x, htx, rfl, rfl, rfl, h13⟩ := th_row htab
  obtain ⟨hx, hb, hml, ho, hw, hK, hj, hk, hfr, hlo, hce, hsl⟩ := id hc
  intro H locs la hP hS hl T' hT X
  have hstk' : (F0 m pc la (stk.map (m2_rv ad))).stack = (as.map (m2_rv ad)).reverse ++ .ref (ad c0) :: st.map (m2_rv ad) := by
    show (stk.map (m2_rv ad)) = (as.map (m2_rv ad)).reverse ++ Value.ref (ad c0) :: st.map (m2_rv ad)
    rw [hstk, List.map_append, List.map_reverse]
    rfl
  rcases th_call (th_C0 hc) hst hL hn hs hC hM hG hP hS (g := F0 m pc la (stk.map (m2_rv ad))) rfl hl.2.1 hstk' (lv_room (by rw [m2_cat]; exact hcat)) hd (by omega) (by omega) hT X with ⟨v, st₀, t, T2, L, e0, XS, hLA, e1, hqc, hsteps⟩ | ⟨q, ce, μ', T2, L, hX1, XS, hLA, hcell, hcv, hcl, hP2, hz1, hz2, hsteps⟩
  · obtain ⟨μ', o1, o2, o3, o4⟩ := th_Qc hqc
    have hS2 : va_S (m2_A ad s.heap.size) s.heap T2.heap (locs ++ L) := by
      refine th_S2 hS ?_ (fun z hz hn => ?_) hLA
      · rw [e1, ← e0]; exact o4.1
      · rw [e1, ← e0]; exact o4.2 z (by rw [e0]; exact hz) hn
    obtain ⟨t2, a1, b1⟩ := k v μ' o1 o2 T2.heap (locs ++ L) la (by rw [e1]; exact o3) hS2 hl T2 rfl XS
    refine ⟨t2, hsteps.trans ?_, b1⟩
    rw [List.map_append] at a1
    have hv : v.toList.map (m2_rv ad) = v.toList := by
      cases rt with
      | none => cases o1; rfl
      | some ty => cases ty <;> (obtain ⟨r, rfl⟩ := o1; rfl)
    rw [hv] at a1
    exact a1
  · have hS2 : va_S (m2_A ad s.heap.size) s.heap T2.heap (locs ++ L) := th_S2 hS hz1 hz2 hLA
    have hwS : ∀ w ∈ th_WS, w.before args s = true := fun w hw' => th_warm (State.WarmedH.refl s) (List.mem_filter.mp hw').2 (hG.1 w hw')
    obtain ⟨t2, a1, b1⟩ := th_catch (pc := pc) (la := la) (st := st.map (m2_rv ad)) ho htx (by simp only [covers, Bool.and_eq_true, decide_eq_true_eq]; exact hpc) h13 hwS XS hcell hcv hcl (Z := MQ below (m2_Qc ret D dA ad (m2_A ad s.heap.size) Q) args s 1 6 (m2_A ad s.heap.size)) (by
      rcases dh with ⟨rfl, dh⟩ | ⟨rfl, k4, hk4, dh⟩
      · exact lv_astore hx hb dh hl.has hi rfl (fun la' h' => kx μ' hX1 T2.heap (locs ++ L) la' hP2 hS2 (hls ▸ th_lv hl h'))
      · exact lv_astore_n hx hb dh hk4 hl.has hi rfl (fun la' h' => kx μ' hX1 T2.heap (locs ++ L) la' hP2 hS2 (hls ▸ th_lv hl h')))
    exact ⟨t2, hsteps.trans a1, b1⟩
end TH7
theorem m2_MY.intro {d : Nat} {y : MethodName} {cc : ByteArray} {nL : Nat} {ret : Option FieldType} {hh : List (Nat × Nat × Nat × Nat)} {as ls : List Value} {μ : m2M} {Q : Option Value → m2M → Prop} (hy : plainName y.cls = true) (hls : m2_in as ++ List.replicate (nL - (m2_in as).length) .null = ls) (hnl : (m2_in as).length ≤ nL)
    (hb : ∀ κ κ' : Nat → List Value → List Value → m2M → Prop, m2_RY κ κ' cc y.cls nL d ret hh Q → κ 0 ls [] μ) : m2_MY d y cc nL ret hh as μ Q := by
  intro l D dA ad sz hst hj
  refine MetFree.of_bodyS (code := cc) (maxLocals := nL) (ret := ret) hy ?_ ?_
  · intro args s m h hn
    obtain ⟨m9, meth, c, hn9, h1, h2, h3, h4, -, h5, h6, -⟩ := Cond.codeWith_spec (atoms_spec (ws := .codeWith y cc nL ret hh :: m2_WS) h _ List.mem_cons_self)
    cases hn.symm.trans hn9
    exact ⟨meth, c, h1, h2, h3, h4, h5, h6⟩
  · intro p e s m args below meth c s₁ B hml hv _
    obtain ⟨rfl, hsz, hP, hK, hG⟩ := hv
    subst hsz
    have hh0 : s₁.heap = s.heap := by rw [B.state]; rfl
    have hts := atoms_spec (ws := .codeWith y cc nL ret hh :: m2_WS) B.pre
    have hown : s.vm.findClass y.cls = some m.cls := findClass_of_methodNamed B.named
    have htab : c.exceptionTable.toList.map (fun h => (h.startPc, h.endPc, h.handlerPc, h.catchType)) = hh := by
      obtain ⟨m9, meth9, c9, hn9, h1, h2, -, -, h7, -⟩ := Cond.codeWith_spec (hts _ List.mem_cons_self)
      cases B.named.symm.trans hn9
      cases Option.some.inj (h1.symm.trans B.method)
      cases Option.some.inj (h2.symm.trans (Stand.of_body B).code)
      exact h7
    have hl := lv_entry (as.map (m2_rv ad)) (n := nL) (by rw [m2_in_len]; exact hnl)
    have hlen : ls.length = nL := by
      rw [← hls, List.length_append, List.length_replicate]
      omega
    have hJ := hb _ _ ⟨p, l, e, m2_rx d, s, m, _, below, meth, c, D, dA, ad, ⟨B.exec, B.bytes, hml, hown, fun w h => hts w (List.mem_cons_of_mem _ h), hK, hj, B.notSynchronized, Nat.le_refl _, Nat.le_refl _, Nat.le_refl _, Nat.le_refl _⟩, B.returns, hst, hG, htab, rfl, rfl⟩ s.heap [] (lg_sl (as.map (m2_rv ad)) ++ List.replicate (nL - (lg_sl (as.map (m2_rv ad))).length) Slot.unset).toArray hP va_S.rf ⟨hlen, hl.1, hl.2.1, fun i v hi hn => ?_⟩
    · obtain ⟨t, a1, o, b1, b2, b3⟩ := hJ s₁ hh0 (Stand.of_body B)
      rw [List.map_nil, ← lg_entry_eq] at a1
      exact ⟨t, o, a1, b1, b2, b3⟩
    · have hi2 : (m2_in as)[i]? = some v := by
        rw [← hls] at hi
        by_cases hlt : i < (m2_in as).length
        · rw [List.getElem?_append_left hlt] at hi
          exact hi
        · rw [List.getElem?_append_right (by omega)] at hi
          have := List.eq_of_mem_replicate (List.mem_of_getElem? hi)
          exact absurd this hn
      have h1 := m2_in_args (ad := ad) as 0 i v hi2 hn
      rw [Nat.zero_add] at h1
      exact hl.2.2 _ h1
