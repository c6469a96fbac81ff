/-! calls, ends, and the contract of a method out of a walk of its body -/
theorem m2_NW_tab {w : Cond} (h : w ∈ m2_NW) : ∃ (a : String) (i : Nat) (x : MethodName) (b : String), w = .methodLinkNest a i x b := by
  have h2 := (List.mem_filter.mp h).2
  cases w <;> first | (cases h2; done) | exact ⟨_, _, _, _, rfl⟩
theorem m2_K.moved {D : va_G} {dA : Nat → ClassId} {s U : State} (hW : s.WarmedH U.vm) (h : m2_K D dA s) : m2_K D dA U := by
  refine ⟨va_K.moved hW.alike h.1, fun w hw => ?_⟩
  obtain ⟨a, i, x, b, rfl⟩ := m2_NW_tab hw
  exact va_Nw.warmM hW (h.2 _ hw)
theorem m2_K.same {D : va_G} {dA : Nat → ClassId} {s U : State} (hv : s.vm = U.vm) (h : m2_K D dA s) : m2_K D dA U := by
  refine ⟨va_K.moved (by rw [← hv]; exact Vm.Alike.refl s.vm) h.1, fun w hw => ?_⟩
  obtain ⟨a, i, x, b, rfl⟩ := m2_NW_tab hw
  exact va_Nw.same rfl hv (h.2 _ hw)
/-- what the tables say of a call of an object's method, of a static one, of a nest mate's static one -/
def m2_LV (own : String) (idx : Nat) (C : String) (y : MethodName) (cc : ByteArray) (nL : Nat) (ret : Option FieldType) (n : Nat) : Prop :=
  GoodIn m2_WS (wsV own idx C y (.code y cc nL ret :: m2_WS)) ∧ (y.cls = C ∧ y.cls ≠ "java/lang/invoke/MethodHandle" ∧ y.cls ≠ "java/lang/invoke/VarHandle" ∧ (parseMethodDescriptor y.desc).map (fun d => d.parameters.length) = some n) ∧ nL ≤ 21
def m2_LS (own : String) (idx : Nat) (y : MethodName) (cc : ByteArray) (nL : Nat) (ret : Option FieldType) (n : Nat) : Prop :=
  GoodIn m2_WS (va_wsS own idx y (.code y cc nL ret :: m2_WS)) ∧ (y.cls ≠ "java/lang/invoke/MethodHandle" ∧ y.cls ≠ "java/lang/invoke/VarHandle" ∧ (parseMethodDescriptor y.desc).map (fun d => d.parameters.length) = some n) ∧ nL ≤ 21
def m2_LN (own : String) (idx : Nat) (y : MethodName) (cc : ByteArray) (nL : Nat) (ret : Option FieldType) (n : Nat) : Prop :=
  ∃ host : String, Cond.methodLinkNest own idx y host ∈ m2_NW ∧ Cond.static y ∈ m2_WS ∧ Cond.initialized y.cls ∈ m2_WS ∧ GoodIn m2_WS (.code y cc nL ret :: m2_WS) ∧ (y.cls ≠ "java/lang/invoke/MethodHandle" ∧ y.cls ≠ "java/lang/invoke/VarHandle" ∧ (parseMethodDescriptor y.desc).map (fun d => d.parameters.length) = some n) ∧ nL ≤ 21
theorem m2_goodV {own : String} {idx : Nat} {C : String} {y : MethodName} {cc : ByteArray} {nL : Nat} {ret : Option FieldType} (h1 : Cond.methodLink own idx y ∈ m2_WS) (h2 : Cond.instanceMethod y ∈ m2_WS) (h3 : Cond.selects C y y ∈ m2_WS) (h4 : Cond.initialized C ∈ m2_WS) (h5 : Cond.code y cc nL ret ∈ m2_WS) : GoodIn m2_WS (wsV own idx C y (.code y cc nL ret :: m2_WS)) := by
  intro w hw
  have hin : w ∈ m2_WS := by
    simp only [wsV, List.cons_append, List.nil_append, List.mem_cons] at hw
    rcases hw with rfl | rfl | rfl | rfl | rfl | h
    · exact h1
    · exact h2
    · exact h3
    · exact h4
    · exact h5
    · exact h
  exact m2_WS_good w hin
theorem m2_goodS {own : String} {idx : Nat} {y : MethodName} {cc : ByteArray} {nL : Nat} {ret : Option FieldType} (h1 : Cond.methodLink own idx y ∈ m2_WS) (h2 : Cond.static y ∈ m2_WS) (h4 : Cond.initialized y.cls ∈ m2_WS) (h5 : Cond.code y cc nL ret ∈ m2_WS) : GoodIn m2_WS (va_wsS own idx y (.code y cc nL ret :: m2_WS)) := by
  intro w hw
  have hin : w ∈ m2_WS := by
    simp only [va_wsS, List.cons_append, List.nil_append, List.mem_cons] at hw
    rcases hw with rfl | rfl | rfl | rfl | h
    · exact h1
    · exact h2
    · exact h4
    · exact h5
    · exact h
  exact m2_WS_good w hin
theorem m2_goodC {y : MethodName} {cc : ByteArray} {nL : Nat} {ret : Option FieldType} (h5 : Cond.code y cc nL ret ∈ m2_WS) : GoodIn m2_WS (.code y cc nL ret :: m2_WS) := by
  intro w hw
  rcases List.mem_cons.mp hw with rfl | h
  · exact m2_WS_good _ h5
  · exact m2_WS_good w h
theorem m2_cat (ad : Nat → Nat) (st : List Value) : ((st.map (m2_rv ad)).map fun v => v.category).sum = (st.map fun v => v.category).sum := by
  rw [List.map_map]
  rw [show ((fun v : Value => v.category) ∘ m2_rv ad) = (fun v => v.category) from funext fun v => m2_rv_cat ad v]
/-- what kind of answer a method of that type gives -/
def m2_okr (ret : Option FieldType) (r : Option Value) : Prop := match ret with
  | none => r = none
  | some .long => ∃ x : Int64, r = some (.long x)
  | some _ => ∃ x : Int32, r = some (.int x)
section M2K
variable {κ : Nat → List Value → List Value → m2M → Prop} {cc : ByteArray} {own : String} {nL d pc : Nat} {ls ls' st stk : List Value} {μ : m2M}
theorem m2_behind {p : Program} {l : Launch} {e : Env} {R : Room} {s : State} {m : MethodId} {args : Array Value} {below : List Frame} {meth : Method} {c : Code} {D : va_G} {dA : Nat → ClassId} {ad : Nat → Nat} {cells slots : Nat} {Z : State → Prop} {H : Heap} {locs : List Loc} {la : Array Slot} {st0 : List Value} {a : Array Value} {ret : Option FieldType} {Q1 : Option Value → m2M → Prop}
    (hr : va_Run p l e R s m args below meth c H locs cells slots 0 0 (F0 m pc la st0) (st.map (m2_rv ad)) (m2_Qc ret D dA ad (m2_A ad H.size) Q1 a) (m2_A ad H.size)) (hS : va_S (m2_A ad s.heap.size) s.heap H locs) (hl : m2_lv ad nL ls la)
    (k : ∀ (r : Option Value) (μ' : m2M), m2_okr ret r → Q1 r μ' → m2_J nL p l e R s m args below meth c D dA ad cells slots Z (pc + 3) ls (r.toList ++ st) μ') : W p l e R s m args below meth c H locs cells slots Z (F0 m pc la st0) := by
  have hA : ∀ q, m2_A ad H.size q → m2_A ad s.heap.size q := by
    intro q hq
    rcases hq with h | h
    · exact Or.inl h
    · exact Or.inr (Nat.le_trans hS.1 h)
  have kv : ∀ (_ : ∀ (r : Option Value) (μ' : m2M), r = none → Q1 r μ' → m2_J nL p l e R s m args below meth c D dA ad cells slots Z (pc + 3) ls (r.toList ++ st) μ') (hr : va_Run p l e R s m args below meth c H locs cells slots 0 0 (F0 m pc la st0) (st.map (m2_rv ad)) (va_Qv (fun μ' : m2M => Q1 none μ') (fun μ' t => va_P D vwCl (m2_ws dA ad μ') t.heap) (m2_A ad H.size) a) (m2_A ad H.size)), W p l e R s m args below meth c H locs cells slots Z (F0 m pc la st0) := fun k hr =>
    va_callv hr hS (fun q _ h => hA q h) hA (fun u t H1 locs1 ht _ hw hB _ _ hS1 => k none u rfl hw H1 locs1 la (by rw [← ht]; exact hB) hS1 hl)
  have ki : ∀ (_ : ∀ (r : Option Value) (μ' : m2M), (∃ x : Int32, r = some (.int x)) → Q1 r μ' → m2_J nL p l e R s m args below meth c D dA ad cells slots Z (pc + 3) ls (r.toList ++ st) μ') (hr : va_Run p l e R s m args below meth c H locs cells slots 0 0 (F0 m pc la st0) (st.map (m2_rv ad)) (va_Qi (fun (r : Int32) (μ' : m2M) => Q1 (some (.int r)) μ') (fun μ' t => va_P D vwCl (m2_ws dA ad μ') t.heap) (m2_A ad H.size) a) (m2_A ad H.size)), W p l e R s m args below meth c H locs cells slots Z (F0 m pc la st0) := fun k hr =>
    va_calli hr hS (fun q _ h => hA q h) hA (fun r u t H1 locs1 ht _ hw hB _ _ hS1 => k (some (.int r)) u ⟨r, rfl⟩ hw H1 locs1 la (by rw [← ht]; exact hB) hS1 hl)
  have kl : ∀ (_ : ∀ (r : Option Value) (μ' : m2M), (∃ x : Int64, r = some (.long x)) → Q1 r μ' → m2_J nL p l e R s m args below meth c D dA ad cells slots Z (pc + 3) ls (r.toList ++ st) μ') (hr : va_Run p l e R s m args below meth c H locs cells slots 0 0 (F0 m pc la st0) (st.map (m2_rv ad)) (va_Ql (fun (r : Int64) (μ' : m2M) => Q1 (some (.long r)) μ') (fun μ' t => va_P D vwCl (m2_ws dA ad μ') t.heap) (m2_A ad H.size) a) (m2_A ad H.size)), W p l e R s m args below meth c H locs cells slots Z (F0 m pc la st0) := fun k hr =>
    va_calll hr hS (fun q _ h => hA q h) hA (fun r u t H1 locs1 ht _ hw hB _ _ hS1 => k (some (.long r)) u ⟨r, rfl⟩ hw H1 locs1 la (by rw [← ht]; exact hB) hS1 hl)
  cases ret with
  | none => exact kv k hr
  | some ty => cases ty <;> first | exact kl k hr | exact ki k hr
theorem m2_inv (h : m2_B κ cc own nL (d + 1)) {idx ci c0 nY n : Nat} {C : String} {T : u_T} {N : Nat} {y : MethodName} {cy : ByteArray} {ret : Option FieldType} {ks : List Nat} {as : List Value} {Q1 : Option Value → m2M → Prop} (hd : decode cc pc = .ok (.invokevirtual idx, 3)) (hL : m2_LV own idx C y cy nY ret n) (hn : as.length = n) (hs : m2_sh c0 = some (.inr (ci, ks))) (hC : vwCl[ci]? = some (C, T, N)) (hcat : (st.map fun v => v.category).sum ≤ 8) (hstk : stk = as.reverse ++ .ref c0 :: st)
    (hM : m2_MT d y cy nY ret (.ref c0 :: as) μ Q1) (k : ∀ (r : Option Value) (μ' : m2M), m2_okr ret r → Q1 r μ' → κ (pc + 3) ls (r.toList ++ st) μ') : κ pc ls stk μ := by
  obtain ⟨p, l, e, R, s, m, args, below, meth, c, D, dA, ad, cells, slots, Z, ⟨hx, hb, hml, ho, hw, hK, hj, hk, hfr, hlo, hce, hsl⟩, rfl⟩ := h
  intro H locs la hP hS hl
  refine m2_behind (a := (Value.ref (ad c0) :: as.map (m2_rv ad)).toArray) (va_runV (As := as.map (m2_rv ad)) (rest := st.map (m2_rv ad)) (b := ad c0) (C := C) (n := n) ⟨hx, hb, hml, ho, hw⟩ (hM l D dA ad H.size hj) (cwV n hw hL.1 rfl rfl rfl hL.2.1 ⟨?_, ?_⟩) ⟨?_, ?_, ?_⟩ rfl (by rw [List.length_map]; exact hn) hl.2.1 ?_ (lv_room (by rw [m2_cat]; exact hcat)) hd ⟨hce, hsl⟩) hS hl k
  · show d + 1 ≤ R.frames
    exact hfr
  · show 8 + (nY + 11) + 40 * d ≤ R.locals
    have := hL.2.2
    omega
  · intro a U g mk q
    obtain ⟨q0, q1, qP, qK⟩ := q
    exact ⟨q0, q1, qP, m2_K.same (s := U) (U := U.calling g mk a) rfl qK⟩
  · exact va_recv hK.1 hP (ci := ci) (q0 := c0) (fs := m2_fs ad (μ.1 c0) ks) hC (by rw [m2_ws_get (m2_sh_lt hs), m2_ce_obj hs])
  · exact fun U hU hW => ⟨rfl, by rw [hU], by rw [hU]; exact hP, hK.moved hW⟩
  · show (stk.map (m2_rv ad)) = (as.map (m2_rv ad)).reverse ++ Value.ref (ad c0) :: st.map (m2_rv ad)
    rw [hstk, List.map_append, List.map_reverse]
    rfl
theorem m2_invS (h : m2_B κ cc own nL (d + 1)) {idx nY n : Nat} {y : MethodName} {cy : ByteArray} {ret : Option FieldType} {as : List Value} {Q1 : Option Value → m2M → Prop} (hd : decode cc pc = .ok (.invokestatic idx, 3)) (hL : m2_LS own idx y cy nY ret n) (hn : as.length = n) (hcat : (st.map fun v => v.category).sum ≤ 8) (hstk : stk = as.reverse ++ st)
    (hM : m2_MT d y cy nY ret as μ Q1) (k : ∀ (r : Option Value) (μ' : m2M), m2_okr ret r → Q1 r μ' → κ (pc + 3) ls (r.toList ++ st) μ') : κ pc ls stk μ := by
  obtain ⟨p, l, e, R, s, m, args, below, meth, c, D, dA, ad, cells, slots, Z, ⟨hx, hb, hml, ho, hw, hK, hj, hk, hfr, hlo, hce, hsl⟩, rfl⟩ := h
  intro H locs la hP hS hl
  refine m2_behind (a := (as.map (m2_rv ad)).toArray) (va_runS (As := as.map (m2_rv ad)) (rest := st.map (m2_rv ad)) (n := n) ⟨hx, hb, hml, ho, hw⟩ (hM l D dA ad H.size hj) (va_cwS n hw hL.1 rfl rfl rfl hL.2.1 ⟨?_, ?_⟩) ⟨?_, ?_⟩ rfl (by rw [List.length_map]; exact hn) hl.2.1 ?_ (lv_room (by rw [m2_cat]; exact hcat)) hd ⟨hce, hsl⟩) hS hl k
  · show d + 1 ≤ R.frames
    exact hfr
  · show 8 + (nY + 11) + 40 * d ≤ R.locals
    have := hL.2.2
    omega
  · intro a U g mk q
    obtain ⟨q0, q1, qP, qK⟩ := q
    exact ⟨q0, q1, qP, m2_K.same (s := U) (U := U.calling g mk a) rfl qK⟩
  · exact fun U hU hW => ⟨rfl, by rw [hU], by rw [hU]; exact hP, hK.moved hW⟩
  · show (stk.map (m2_rv ad)) = (as.map (m2_rv ad)).reverse ++ st.map (m2_rv ad)
    rw [hstk, List.map_append, List.map_reverse]
theorem m2_invN (h : m2_B κ cc own nL (d + 1)) {idx nY n : Nat} {y : MethodName} {cy : ByteArray} {ret : Option FieldType} {as : List Value} {Q1 : Option Value → m2M → Prop} (hd : decode cc pc = .ok (.invokestatic idx, 3)) (hL : m2_LN own idx y cy nY ret n) (hn : as.length = n) (hcat : (st.map fun v => v.category).sum ≤ 8) (hstk : stk = as.reverse ++ st)
    (hM : m2_MT d y cy nY ret as μ Q1) (k : ∀ (r : Option Value) (μ' : m2M), m2_okr ret r → Q1 r μ' → κ (pc + 3) ls (r.toList ++ st) μ') : κ pc ls stk μ := by
  obtain ⟨p, l, e, R, s, m, args, below, meth, c, D, dA, ad, cells, slots, Z, ⟨hx, hb, hml, ho, hw, hK, hj, hk, hfr, hlo, hce, hsl⟩, rfl⟩ := h
  obtain ⟨host, l1, l2, l3, l4, l5, l6⟩ := hL
  intro H locs la hP hS hl
  refine m2_behind (a := (as.map (m2_rv ad)).toArray) (va_runSN (As := as.map (m2_rv ad)) (rest := st.map (m2_rv ad)) (n := n) ⟨hx, hb, hml, ho, hw⟩ (hM l D dA ad H.size hj) ⟨va_cnB n hw l4 rfl rfl rfl (hK.2 _ l1) (hw _ l3) l5 ⟨?_, ?_⟩, hw _ l2, trivial⟩ ⟨?_, ?_⟩ rfl (by rw [List.length_map]; exact hn) hl.2.1 ?_ (lv_room (by rw [m2_cat]; exact hcat)) hd ⟨hce, hsl⟩) hS hl k
  · show d + 1 ≤ R.frames
    exact hfr
  · show 8 + (nY + 11) + 40 * d ≤ R.locals
    omega
  · intro a U g mk q
    obtain ⟨q0, q1, qP, qK⟩ := q
    exact ⟨q0, q1, qP, m2_K.same (s := U) (U := U.calling g mk a) rfl qK⟩
  · exact fun U hU hW => ⟨rfl, by rw [hU], by rw [hU]; exact hP, hK.moved hW⟩
  · show (stk.map (m2_rv ad)) = (as.map (m2_rv ad)).reverse ++ st.map (m2_rv ad)
    rw [hstk, List.map_append, List.map_reverse]
theorem m2_invv (h : m2_B κ cc own nL (d + 1)) {idx ci c0 nY n : Nat} {C : String} {T : u_T} {N : Nat} {y : MethodName} {cy : ByteArray} {ks : List Nat} {as : List Value} {Q1 : Option Value → m2M → Prop} (hd : decode cc pc = .ok (.invokevirtual idx, 3)) (hL : m2_LV own idx C y cy nY none n) (hn : as.length = n) (hs : m2_sh c0 = some (.inr (ci, ks))) (hC : vwCl[ci]? = some (C, T, N)) (hcat : (st.map fun v => v.category).sum ≤ 8) (hstk : stk = as.reverse ++ .ref c0 :: st) (hM : m2_MT d y cy nY none (.ref c0 :: as) μ Q1) (k : ∀ μ' : m2M, Q1 none μ' → κ (pc + 3) ls st μ') : κ pc ls stk μ := m2_inv h hd hL hn hs hC hcat hstk hM (fun r μ' hr hq => by cases hr; exact k μ' hq)
theorem m2_invi (h : m2_B κ cc own nL (d + 1)) {idx ci c0 nY n : Nat} {C : String} {T : u_T} {N : Nat} {y : MethodName} {cy : ByteArray} {ks : List Nat} {as : List Value} {Q1 : Option Value → m2M → Prop} (hd : decode cc pc = .ok (.invokevirtual idx, 3)) (hL : m2_LV own idx C y cy nY (some .int) n) (hn : as.length = n) (hs : m2_sh c0 = some (.inr (ci, ks))) (hC : vwCl[ci]? = some (C, T, N)) (hcat : (st.map fun v => v.category).sum ≤ 8) (hstk : stk = as.reverse ++ .ref c0 :: st) (hM : m2_MT d y cy nY (some .int) (.ref c0 :: as) μ Q1) (k : ∀ (x : Int32) (μ' : m2M), Q1 (some (.int x)) μ' → κ (pc + 3) ls (.int x :: st) μ') : κ pc ls stk μ := m2_inv h hd hL hn hs hC hcat hstk hM (fun r μ' hr hq => by obtain ⟨x, rfl⟩ := hr; exact k x μ' hq)
theorem m2_invz (h : m2_B κ cc own nL (d + 1)) {idx ci c0 nY n : Nat} {C : String} {T : u_T} {N : Nat} {y : MethodName} {cy : ByteArray} {ks : List Nat} {as : List Value} {Q1 : Option Value → m2M → Prop} (hd : decode cc pc = .ok (.invokevirtual idx, 3)) (hL : m2_LV own idx C y cy nY (some .boolean) n) (hn : as.length = n) (hs : m2_sh c0 = some (.inr (ci, ks))) (hC : vwCl[ci]? = some (C, T, N)) (hcat : (st.map fun v => v.category).sum ≤ 8) (hstk : stk = as.reverse ++ .ref c0 :: st) (hM : m2_MT d y cy nY (some .boolean) (.ref c0 :: as) μ Q1) (k : ∀ (x : Int32) (μ' : m2M), Q1 (some (.int x)) μ' → κ (pc + 3) ls (.int x :: st) μ') : κ pc ls stk μ := m2_inv h hd hL hn hs hC hcat hstk hM (fun r μ' hr hq => by obtain ⟨x, rfl⟩ := hr; exact k x μ' hq)
theorem m2_invl (h : m2_B κ cc own nL (d + 1)) {idx ci c0 nY n : Nat} {C : String} {T : u_T} {N : Nat} {y : MethodName} {cy : ByteArray} {ks : List Nat} {as : List Value} {Q1 : Option Value → m2M → Prop} (hd : decode cc pc = .ok (.invokevirtual idx, 3)) (hL : m2_LV own idx C y cy nY (some .long) n) (hn : as.length = n) (hs : m2_sh c0 = some (.inr (ci, ks))) (hC : vwCl[ci]? = some (C, T, N)) (hcat : (st.map fun v => v.category).sum ≤ 8) (hstk : stk = as.reverse ++ .ref c0 :: st) (hM : m2_MT d y cy nY (some .long) (.ref c0 :: as) μ Q1) (k : ∀ (x : Int64) (μ' : m2M), Q1 (some (.long x)) μ' → κ (pc + 3) ls (.long x :: st) μ') : κ pc ls stk μ := m2_inv h hd hL hn hs hC hcat hstk hM (fun r μ' hr hq => by obtain ⟨x, rfl⟩ := hr; exact k x μ' hq)
theorem m2_invSv (h : m2_B κ cc own nL (d + 1)) {idx nY n : Nat} {y : MethodName} {cy : ByteArray} {as : List Value} {Q1 : Option Value → m2M → Prop} (hd : decode cc pc = .ok (.invokestatic idx, 3)) (hL : m2_LS own idx y cy nY none n) (hn : as.length = n) (hcat : (st.map fun v => v.category).sum ≤ 8) (hstk : stk = as.reverse ++ st) (hM : m2_MT d y cy nY none as μ Q1) (k : ∀ μ' : m2M, Q1 none μ' → κ (pc + 3) ls st μ') : κ pc ls stk μ := m2_invS h hd hL hn hcat hstk hM (fun r μ' hr hq => by cases hr; exact k μ' hq)
theorem m2_invSi (h : m2_B κ cc own nL (d + 1)) {idx nY n : Nat} {y : MethodName} {cy : ByteArray} {as : List Value} {Q1 : Option Value → m2M → Prop} (hd : decode cc pc = .ok (.invokestatic idx, 3)) (hL : m2_LS own idx y cy nY (some .int) n) (hn : as.length = n) (hcat : (st.map fun v => v.category).sum ≤ 8) (hstk : stk = as.reverse ++ st) (hM : m2_MT d y cy nY (some .int) as μ Q1) (k : ∀ (x : Int32) (μ' : m2M), Q1 (some (.int x)) μ' → κ (pc + 3) ls (.int x :: st) μ') : κ pc ls stk μ := m2_invS h hd hL hn hcat hstk hM (fun r μ' hr hq => by obtain ⟨x, rfl⟩ := hr; exact k x μ' hq)
theorem m2_invSz (h : m2_B κ cc own nL (d + 1)) {idx nY n : Nat} {y : MethodName} {cy : ByteArray} {as : List Value} {Q1 : Option Value → m2M → Prop} (hd : decode cc pc = .ok (.invokestatic idx, 3)) (hL : m2_LS own idx y cy nY (some .boolean) n) (hn : as.length = n) (hcat : (st.map fun v => v.category).sum ≤ 8) (hstk : stk = as.reverse ++ st) (hM : m2_MT d y cy nY (some .boolean) as μ Q1) (k : ∀ (x : Int32) (μ' : m2M), Q1 (some (.int x)) μ' → κ (pc + 3) ls (.int x :: st) μ') : κ pc ls stk μ := m2_invS h hd hL hn hcat hstk hM (fun r μ' hr hq => by obtain ⟨x, rfl⟩ := hr; exact k x μ' hq)
theorem m2_invSl (h : m2_B κ cc own nL (d + 1)) {idx nY n : Nat} {y : MethodName} {cy : ByteArray} {as : List Value} {Q1 : Option Value → m2M → Prop} (hd : decode cc pc = .ok (.invokestatic idx, 3)) (hL : m2_LS own idx y cy nY (some .long) n) (hn : as.length = n) (hcat : (st.map fun v => v.category).sum ≤ 8) (hstk : stk = as.reverse ++ st) (hM : m2_MT d y cy nY (some .long) as μ Q1) (k : ∀ (x : Int64) (μ' : m2M), Q1 (some (.long x)) μ' → κ (pc + 3) ls (.long x :: st) μ') : κ pc ls stk μ := m2_invS h hd hL hn hcat hstk hM (fun r μ' hr hq => by obtain ⟨x, rfl⟩ := hr; exact k x μ' hq)
theorem m2_invNv (h : m2_B κ cc own nL (d + 1)) {idx nY n : Nat} {y : MethodName} {cy : ByteArray} {as : List Value} {Q1 : Option Value → m2M → Prop} (hd : decode cc pc = .ok (.invokestatic idx, 3)) (hL : m2_LN own idx y cy nY none n) (hn : as.length = n) (hcat : (st.map fun v => v.category).sum ≤ 8) (hstk : stk = as.reverse ++ st) (hM : m2_MT d y cy nY none as μ Q1) (k : ∀ μ' : m2M, Q1 none μ' → κ (pc + 3) ls st μ') : κ pc ls stk μ := m2_invN h hd hL hn hcat hstk hM (fun r μ' hr hq => by cases hr; exact k μ' hq)
theorem m2_invNi (h : m2_B κ cc own nL (d + 1)) {idx nY n : Nat} {y : MethodName} {cy : ByteArray} {as : List Value} {Q1 : Option Value → m2M → Prop} (hd : decode cc pc = .ok (.invokestatic idx, 3)) (hL : m2_LN own idx y cy nY (some .int) n) (hn : as.length = n) (hcat : (st.map fun v => v.category).sum ≤ 8) (hstk : stk = as.reverse ++ st) (hM : m2_MT d y cy nY (some .int) as μ Q1) (k : ∀ (x : Int32) (μ' : m2M), Q1 (some (.int x)) μ' → κ (pc + 3) ls (.int x :: st) μ') : κ pc ls stk μ := m2_invN h hd hL hn hcat hstk hM (fun r μ' hr hq => by obtain ⟨x, rfl⟩ := hr; exact k x μ' hq)
theorem m2_invNz (h : m2_B κ cc own nL (d + 1)) {idx nY n : Nat} {y : MethodName} {cy : ByteArray} {as : List Value} {Q1 : Option Value → m2M → Prop} (hd : decode cc pc = .ok (.invokestatic idx, 3)) (hL : m2_LN own idx y cy nY (some .boolean) n) (hn : as.length = n) (hcat : (st.map fun v => v.category).sum ≤ 8) (hstk : stk = as.reverse ++ st) (hM : m2_MT d y cy nY (some .boolean) as μ Q1) (k : ∀ (x : Int32) (μ' : m2M), Q1 (some (.int x)) μ' → κ (pc + 3) ls (.int x :: st) μ') : κ pc ls stk μ := m2_invN h hd hL hn hcat hstk hM (fun r μ' hr hq => by obtain ⟨x, rfl⟩ := hr; exact k x μ' hq)
theorem m2_invNl (h : m2_B κ cc own nL (d + 1)) {idx nY n : Nat} {y : MethodName} {cy : ByteArray} {as : List Value} {Q1 : Option Value → m2M → Prop} (hd : decode cc pc = .ok (.invokestatic idx, 3)) (hL : m2_LN own idx y cy nY (some .long) n) (hn : as.length = n) (hcat : (st.map fun v => v.category).sum ≤ 8) (hstk : stk = as.reverse ++ st) (hM : m2_MT d y cy nY (some .long) as μ Q1) (k : ∀ (x : Int64) (μ' : m2M), Q1 (some (.long x)) μ' → κ (pc + 3) ls (.long x :: st) μ') : κ pc ls stk μ := m2_invN h hd hL hn hcat hstk hM (fun r μ' hr hq => by obtain ⟨x, rfl⟩ := hr; exact k x μ' hq)
end M2K
section M2E
variable {κ : Nat → List Value → List Value → m2M → Prop} {cc : ByteArray} {own : String} {nL d pc : Nat} {ls : List Value} {μ : m2M} {Q : Option Value → m2M → Prop}
theorem m2_iret (h : m2_RL κ cc own nL d (some .int) Q) {v : Int32} (hd : decode cc pc = .ok (.ireturn, 1)) (hq : Q (some (.int v)) μ) : κ pc ls [.int v] μ := by
  obtain ⟨p, l, e, R, s, m, args, below, meth, c, D, dA, ad, cells, slots, ⟨hx, hb, hml, ho, hw, hK, hj, hk, hfr, hlo, hce, hsl⟩, hr, rfl⟩ := h
  intro H locs la hP hS hl
  exact W.iret hx hb hr (fun t ht _ => ⟨⟨v, μ, rfl, hq, by show va_P D vwCl (m2_ws dA ad μ) t.heap; rw [ht]; exact hP⟩, hS.F ht⟩) hS.2.2 hd hk
theorem m2_zret (h : m2_RL κ cc own nL d (some .boolean) Q) {v : Int32} (hd : decode cc pc = .ok (.ireturn, 1)) (h01 : v = 0 ∨ v = 1) (hq : Q (some (.int v)) μ) : κ pc ls [.int v] μ := by
  obtain ⟨p, l, e, R, s, m, args, below, meth, c, D, dA, ad, cells, slots, ⟨hx, hb, hml, ho, hw, hK, hj, hk, hfr, hlo, hce, hsl⟩, hr, rfl⟩ := h
  intro H locs la hP hS hl
  exact W.zret hx hb hr (by rcases h01 with rfl | rfl <;> rfl) (fun t ht _ => ⟨⟨v, μ, rfl, hq, by show va_P D vwCl (m2_ws dA ad μ) t.heap; rw [ht]; exact hP⟩, hS.F ht⟩) hS.2.2 hd hk
theorem m2_lret (h : m2_RL κ cc own nL d (some .long) Q) {v : Int64} (hd : decode cc pc = .ok (.lreturn, 1)) (hq : Q (some (.long v)) μ) : κ pc ls [.long v] μ := by
  obtain ⟨p, l, e, R, s, m, args, below, meth, c, D, dA, ad, cells, slots, ⟨hx, hb, hml, ho, hw, hK, hj, hk, hfr, hlo, hce, hsl⟩, hr, rfl⟩ := h
  intro H locs la hP hS hl
  exact W.lret hx hb hr (fun t ht _ => ⟨⟨v, μ, rfl, hq, by show va_P D vwCl (m2_ws dA ad μ) t.heap; rw [ht]; exact hP⟩, hS.F ht⟩) hS.2.2 hd hk
theorem m2_vret (h : m2_RL κ cc own nL d none Q) (hd : decode cc pc = .ok (.return_, 1)) (hq : Q none μ) : κ pc ls [] μ := by
  obtain ⟨p, l, e, R, s, m, args, below, meth, c, D, dA, ad, cells, slots, ⟨hx, hb, hml, ho, hw, hK, hj, hk, hfr, hlo, hce, hsl⟩, hr, rfl⟩ := h
  intro H locs la hP hS hl
  exact W.vret hx hb hr (fun t ht _ => ⟨⟨μ, rfl, hq, by show va_P D vwCl (m2_ws dA ad μ) t.heap; rw [ht]; exact hP⟩, hS.F ht⟩) hS.2.2 hd hk
end M2E
theorem m2_in_args {ad : Nat → Nat} : ∀ (as : List Value) (i : Nat) (j : Nat) (v : Value), (m2_in as)[j]? = some v → v ≠ .null → (i + j, m2_rv ad v) ∈ lv_args i (as.map (m2_rv ad))
  | [], i, j, v, h, _ => by simp [m2_in] at h
  | w :: r, i, j, v, h, hn => by
    have e : m2_in (w :: r) = (if w.category = 2 then [w, .null] else [w]) ++ m2_in r := rfl
    rw [e] at h
    simp only [List.map_cons, lv_args, m2_rv_cat]
    by_cases hc : w.category = 2
    · rw [if_pos hc] at h
      rw [if_pos hc]
      match j, h with
      | 0, h =>
        cases h
        exact List.mem_cons_self
      | 1, h =>
        cases h
        exact absurd rfl hn
      | j + 2, h =>
        have h1 : (m2_in r)[j]? = some v := h
        have := m2_in_args (ad := ad) r (i + 2) j v h1 hn
        rw [show i + (j + 2) = i + 2 + j by omega]
        exact List.mem_cons_of_mem _ this
    · rw [if_neg hc] at h
      rw [if_neg hc]
      match j, h with
      | 0, h =>
        cases h
        exact List.mem_cons_self
      | j + 1, h =>
        have h1 : (m2_in r)[j]? = some v := h
        have := m2_in_args (ad := ad) r (i + 1) j v h1 hn
        rw [show i + (j + 1) = i + 1 + j by omega]
        exact List.mem_cons_of_mem _ this
theorem m2_in_len (ad : Nat → Nat) : ∀ as : List Value, (lg_sl (as.map (m2_rv ad))).length = (m2_in as).length
  | [] => rfl
  | w :: r => by
    have e : m2_in (w :: r) = (if w.category = 2 then [w, .null] else [w]) ++ m2_in r := rfl
    have e2 : lg_sl ((w :: r).map (m2_rv ad)) = (if (m2_rv ad w).category = 2 then [Slot.val (m2_rv ad w), .second] else [Slot.val (m2_rv ad w)]) ++ lg_sl (r.map (m2_rv ad)) := rfl
    rw [e, e2, List.length_append, List.length_append, m2_in_len ad r, m2_rv_cat]
    split <;> rfl
theorem m2_MT.intro {d : Nat} {y : MethodName} {cc : ByteArray} {nL : Nat} {ret : Option FieldType} {as ls : List Value} {μ : m2M} {Q : Option Value → m2M → Prop} (hy : plainName y.cls = true) (hls : m2_in as ++ List.replicate (nL - (m2_in as).length) .null = ls) (hnl : (m2_in as).length ≤ nL)
    (hb : ∀ κ : Nat → List Value → List Value → m2M → Prop, m2_RL κ cc y.cls nL d ret Q → κ 0 ls [] μ) : m2_MT d y cc nL ret as μ Q := by
  intro l D dA ad sz hj
  refine Met.ofW (cc := cc) (maxL := nL) (ret := ret) hy rfl ?_
  intro p e s m args below meth c s₁ B hml hv
  obtain ⟨rfl, hsz, hP, hK⟩ := hv
  subst hsz
  have hts := atoms_spec (ws := .code y cc nL ret :: m2_WS) B.pre
  have hown : s.vm.findClass y.cls = some m.cls := findClass_of_methodNamed B.named
  have hl := lv_entry (as.map (m2_rv ad)) (n := nL) (by rw [m2_in_len]; exact hnl)
  rw [lg_entry_eq]
  generalize (lg_sl (as.map (m2_rv ad)) ++ List.replicate (nL - (lg_sl (as.map (m2_rv ad))).length) Slot.unset).toArray = la at hl ⊢
  have hlen : ls.length = nL := by
    rw [← hls, List.length_append, List.length_replicate]
    omega
  refine hb _ ⟨p, l, e, m2_rm d, s, m, _, below, meth, c, D, dA, ad, 0, 0, ⟨B.exec, B.bytes, hml, hown, fun w h => hts w (List.mem_cons_of_mem _ h), hK, hj, B.notSynchronized, Nat.le_refl _, Nat.le_refl _, Nat.le_refl _, Nat.le_refl _⟩, B.returns, rfl⟩ s.heap [] la hP va_S.rf ⟨hlen, hl.1, hl.2.1, fun i v hi hn => ?_⟩
  have hi2 : (m2_in as)[i]? = some v := by
    rw [← hls] at hi
    by_cases hlt : i < (m2_in as).length
    · rw [List.getElem?_append_left hlt] at hi
      exact hi
    · rw [List.getElem?_append_right (by omega)] at hi
      have := List.eq_of_mem_replicate (List.mem_of_getElem? hi)
      exact absurd this hn
  have h1 := m2_in_args (ad := ad) as 0 i v hi2 hn
  rw [Nat.zero_add] at h1
  exact hl.2.2 _ h1
/-- a contract with a weaker end, with more levels below it -/
theorem m2_Qc_mono {ret : Option FieldType} {D : va_G} {dA : Nat → ClassId} {ad : Nat → Nat} {A : Nat → Prop} {Q Q' : Option Value → m2M → Prop} (h : ∀ r μ', Q r μ' → Q' r μ') {a : Array Value} {st : State} {o : Outcome} {t : State} (hq : m2_Qc ret D dA ad A Q a st o t) : m2_Qc ret D dA ad A Q' a st o t := by
  cases ret with
  | none =>
    obtain ⟨⟨u, h1, h2, h3⟩, h4⟩ := hq
    exact ⟨⟨u, h1, h _ _ h2, h3⟩, h4⟩
  | some ty =>
    cases ty <;> (obtain ⟨⟨r, u, h1, h2, h3⟩, h4⟩ := hq; exact ⟨⟨r, u, h1, h _ _ h2, h3⟩, h4⟩)
