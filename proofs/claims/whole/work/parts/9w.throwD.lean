/-! the law's call of a helper: a cell and six slots more behind it -/
def m2_LY (own : String) (idx : Nat) (y : MethodName) (cc : ByteArray) (nL : Nat) (ret : Option FieldType) (hh : List (Nat × Nat × Nat × Nat)) (n : Nat) : Prop :=
  (Cond.methodLink own idx y ∈ m2_WS ∧ Cond.static y ∈ m2_WS ∧ Cond.initialized y.cls ∈ m2_WS ∧ Cond.codeWith y cc nL ret hh ∈ m2_WS) ∧ (y.cls ≠ "java/lang/invoke/MethodHandle" ∧ y.cls ≠ "java/lang/invoke/VarHandle" ∧ (parseMethodDescriptor y.desc).map (fun d => d.parameters.length) = some n) ∧ nL ≤ 21
theorem ly_door : m2_LY RL 45 yL_door cL_door 5 (some .int) [(0, 10, 13, 13)] 4 := ⟨⟨m2_WS_in (by decide +kernel) rfl, m2_WS_in (by decide +kernel) rfl, m2_WS_in (by decide +kernel) rfl, m2_WS_in (by decide +kernel) rfl⟩, ⟨by decide, by decide, by decide +kernel⟩, by decide⟩
theorem ly_of : m2_LY RL 54 yL_of cL_of 5 (some .int) [(0, 10, 13, 13)] 4 := ⟨⟨m2_WS_in (by decide +kernel) rfl, m2_WS_in (by decide +kernel) rfl, m2_WS_in (by decide +kernel) rfl, m2_WS_in (by decide +kernel) rfl⟩, ⟨by decide, by decide, by decide +kernel⟩, by decide⟩
theorem ly_row : m2_LY RL 200 yL_row cL_row 4 (some .int) [(0, 8, 11, 13)] 3 := ⟨⟨m2_WS_in (by decide +kernel) rfl, m2_WS_in (by decide +kernel) rfl, m2_WS_in (by decide +kernel) rfl, m2_WS_in (by decide +kernel) rfl⟩, ⟨by decide, by decide, by decide +kernel⟩, by decide⟩
/-- κ' is κ with room for one throw more taken up -/
def m2_BB (κ κ' : Nat → List Value → List Value → m2M → Prop) (cc : ByteArray) (own : String) (nL d : Nat) : Prop :=
  ∃ (p : Program) (l : Launch) (e : Env) (R : Room) (s : State) (m : MethodId) (args : Array Value) (below : List Frame) (meth : Method) (c : Code) (D : va_G) (dA : Nat → ClassId) (ad : Nat → Nat) (cells slots : Nat) (Z : State → Prop), m2_C cc own nL d p R s m args meth c D dA ad (cells + 1) (slots + 6) ∧ l.stackTraces = false ∧ th_G ad s ∧
    κ = m2_J nL p l e R s m args below meth c D dA ad cells slots Z ∧ κ' = m2_J nL p l e R s m args below meth c D dA ad (cells + 1) (slots + 6) Z
theorem th_blind {D : va_G} {dA : Nat → ClassId} {ad : Nat → Nat} {sz : Nat} {as : List Value} {μ : m2M} : FrameBlind (m2_XP D dA ad sz as μ) := by
  intro a U g mk q
  obtain ⟨q0, q1, qP, qK, qG⟩ := q
  exact ⟨q0, q1, qP, m2_K.same (s := U) (U := U.calling g mk a) rfl qK, th_G.same (s := U) (U := U.calling g mk a) rfl rfl qG⟩
theorem m2_invY {κ κ' : Nat → List Value → List Value → m2M → Prop} {cc : ByteArray} {own : String} {nL d pc : Nat} {ls st stk : List Value} {μ : m2M} (h : m2_BB κ κ' cc own nL (d + 1)) {idx nY n : Nat} {y : MethodName} {cy : ByteArray} {ret : Option FieldType} {hh : List (Nat × Nat × Nat × Nat)} {as : List Value} {Q1 : Option Value → m2M → Prop} (hd : decode cc pc = .ok (.invokestatic idx, 3)) (hL : m2_LY own idx y cy nY ret hh n) (hn : as.length = n) (hcat : (st.map fun v => v.category).sum ≤ 8) (hstk : stk = as.reverse ++ st)
    (hM : m2_MY d y cy nY ret hh as μ Q1) (k : ∀ (r : Option Value) (μ' : m2M), m2_okr ret r → Q1 r μ' → κ' (pc + 3) ls (r.toList ++ st) μ') : κ pc ls stk μ := by
  obtain ⟨p, l, e, R, s, m, args, below, meth, c, D, dA, ad, cells, slots, Z, ⟨hx, hb, hml, ho, hw, hK, hj, hk, hfr, hlo, hce, hsl⟩, hst, hG, rfl, rfl⟩ := h
  obtain ⟨⟨w1, w2, w3, w4⟩, ⟨hy1, hy2, hpar⟩, hnY⟩ := hL
  intro H locs la hP hS hl T hT X
  obtain ⟨mk, methM, cM, hnamed, hmethM, -, -, -, -, -, -, hsigM⟩ := Cond.codeWith_spec (hw _ w4)
  have hall : ∀ w ∈ Cond.codeWith y cy nY ret hh :: m2_WS, w ∈ m2_WS := fun w hw' => by
    rcases List.mem_cons.mp hw' with rfl | h
    · exact w4
    · exact h
  have hBk : Back l R p e below s args y 3 8 (PreOf R 1 6 (m2_XP D dA ad H.size as μ)) (PostOf (m2_Qc ret D dA ad (m2_A ad H.size) Q1) 1 6 (m2_A ad H.size)) := by
    refine va_backW (hh := hh) (bytes := cy) (maxL := nY) (ret := ret) (hM l D dA ad H.size hst hj) th_blind rfl rfl hfr ?_ (fun w hw' a' U hU => word_at hU (m2_WS_good w (hall w hw')).2 (hw w (hall w hw'))) List.mem_cons_self (fun a' U hU => word_at hU (m2_WS_good _ w3).2 (hw _ w3))
    show 8 + (nY + 11) + 40 * d ≤ R.locals
    omega
  have hlen : ∀ sig, parseMethodDescriptor y.desc = some sig → (as.map (m2_rv ad)).length = sig.parameters.length := fun sig hs => by
    rw [List.length_map, hn]
    rw [hs] at hpar
    exact (Option.some.inj hpar).symm
  have hstk' : (F0 m pc la (stk.map (m2_rv ad))).stack = (as.map (m2_rv ad)).reverse ++ st.map (m2_rv ad) := by
    show (stk.map (m2_rv ad)) = (as.map (m2_rv ad)).reverse ++ st.map (m2_rv ad)
    rw [hstk, List.map_append, List.map_reverse]
  obtain ⟨v, vm₁, ⟨U', l2, c2, s2⟩, hW₁, X', ⟨g', mk', t, L, e1, e2, hq, q1, hLA, q2, q3⟩, hsteps⟩ := X.staticBack hx ho (hw _ w1) (hw _ w2) (hw _ w3) hnamed hmethM hsigM ⟨hy1, hy2⟩ hBk (g := F0 m pc la (stk.map (m2_rv ad))) rfl (hl.2.1.trans hml.symm) (Steps.refl _) (argsL := as.map (m2_rv ad)) (rest := st.map (m2_rv ad)) hlen hstk' (lv_room (by rw [m2_cat]; exact hcat)) (by rw [hb]; exact hd)
    (fun vm₁ hW₁ => ⟨hce, hsl, rfl, by show T.heap.size = H.size; rw [hT], by show va_P D vwCl (m2_ws dA ad μ) T.heap; rw [hT]; exact hP, hK.moved (U := T.setVm vm₁) hW₁, th_G.moved (U := T.setVm vm₁) hS hT hW₁ hG⟩)
  dsimp only [Pt.U, Pt.locs, Pt.cells, Pt.slots] at X' e1 e2 q1 q2 q3 hsteps
  subst q1
  subst q2
  subst q3
  obtain ⟨μ', o1, o2, o3, o4⟩ := th_Qc hq
  have o5 : H.size ≤ t.heap.size := by rw [← hT]; exact o4.1
  have o6 : ∀ z : Nat, z < H.size → ¬ m2_A ad H.size z → t.heap[z]? = H[z]? := fun z hz hn => by
    have h9 : t.heap[z]? = T.heap[z]? := o4.2 z (by show z < T.heap.size; rw [hT]; exact hz) hn
    rw [hT] at h9
    exact h9
  obtain ⟨t2, a1, b1⟩ := k v μ' o1 o2 U'.heap (locs ++ L) la (by rw [e1]; exact o3) (th_S2 hS (by rw [e1]; exact o5) (fun z hz hn => by rw [e1]; exact o6 z hz hn) hLA) hl U' rfl X'
  refine ⟨t2, hsteps.trans ?_, b1⟩
  rw [List.map_append] at a1
  have hv : v.toList.map (m2_rv ad) = v.toList := by
    cases ret with
    | none => cases o1; rfl
    | some ty => cases ty <;> (obtain ⟨r, rfl⟩ := o1; rfl)
  rw [hv] at a1
  exact a1
