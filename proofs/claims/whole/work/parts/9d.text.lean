/-! a text constant: no call changes it; its place is 1000, that of its signs 1001 -/
def lmB (j : Nat) : Int32 := ([108, 109, 111, 104, 119, 107] : List Int32).getD j 0
def m2_Str (ad : Nat → Nat) (U : State) : Prop :=
  vk_R RX7 91 "lmohwk" (ad 1000) U ∧ va_O "java/lang/String" (ad 1000) (m2_A ad U.heap.size) U U.heap ∧ va_OF "java/lang/String" "coder" "B" (.int 0) (ad 1000) (m2_A ad U.heap.size) U U.heap ∧ va_OF "java/lang/String" "value" "[B" (.ref (ad 1001)) (ad 1000) (m2_A ad U.heap.size) U U.heap ∧ va_T .byte (ad 1001) 6 (fun j => .int (lmB j)) (m2_A ad U.heap.size) U U.heap ∧ va_Z "java/lang/String" "COMPACT_STRINGS" "Z" (.int 1) (m2_A ad U.heap.size) U U.heap
theorem m2_Str.moved {ad : Nat → Nat} {s U : State} {H : Heap} {locs : List Loc} (hS : va_S (m2_A ad s.heap.size) s.heap H locs) (hU : U.heap = H) (hW : s.WarmedH U.vm) (h : m2_Str ad s) : m2_Str ad U := by
  subst hU
  have hA : ∀ q, m2_A ad U.heap.size q → m2_A ad s.heap.size q := by
    intro q hq
    rcases hq with h | h
    · exact Or.inl h
    · exact Or.inr (Nat.le_trans hS.1 h)
  obtain ⟨h1, h2, h3, h4, h5, h6⟩ := h
  exact ⟨vk_R.warm hW h1, ((h2.kept hS.2.1).moved hW.alike).narrow hA, ((h3.kept hS.2.1).moved hW.alike).narrow hA, ((h4.kept hS.2.1).moved hW.alike).narrow hA, ((h5.kept hS.2.1).moved hW.alike).narrow hA, ((h6.kept hS.2.1).moved hW.alike).narrow hA⟩
theorem m2_Str.same {ad : Nat → Nat} {s U : State} (hh : s.heap = U.heap) (hv : s.vm = U.vm) (h : m2_Str ad s) : m2_Str ad U := by
  have hal : s.vm.Alike U.vm := by rw [← hv]; exact Vm.Alike.refl s.vm
  obtain ⟨h1, h2, h3, h4, h5, h6⟩ := h
  rw [hh] at h2 h3 h4 h5 h6
  exact ⟨vk_R.same hv.symm h1, h2.moved hal, h3.moved hal, h4.moved hal, h5.moved hal, h6.moved hal⟩
/-- method y, where the text is there -/
def m2_MTs (d : Nat) (y : MethodName) (cc : ByteArray) (nL : Nat) (ret : Option FieldType) (as : List Value) (μ : m2M) (Q : Option Value → m2M → Prop) : Prop :=
  ∀ (l : Launch) (D : va_G) (dA : Nat → ClassId) (ad : Nat → Nat) (sz : Nat), m2_inj ad → Met l y (.code y cc nL ret :: m2_WS) (m2_rm d) (va_Pc (as.map (m2_rv ad)) (fun U => U.heap.size = sz ∧ va_P D vwCl (m2_ws dA ad μ) U.heap ∧ m2_K D dA U ∧ m2_Str ad U)) (m2_Qc ret D dA ad (m2_A ad sz) Q) 0 0 (m2_A ad sz)
def m2_Bs (κ : Nat → List Value → List Value → m2M → Prop) (cc : ByteArray) (own : String) (nL d : Nat) : Prop :=
  ∃ (p : Program) (l : Launch) (e : Env) (R : Room) (s : State) (m : MethodId) (args : Array Value) (below : List Frame) (meth : Method) (c : Code) (D : va_G) (dA : Nat → ClassId) (ad : Nat → Nat) (cells slots : Nat) (Z : State → Prop), m2_C cc own nL d p R s m args meth c D dA ad cells slots ∧ m2_Str ad s ∧ κ = m2_J nL p l e R s m args below meth c D dA ad cells slots Z
def m2_RLs (κ : Nat → List Value → List Value → m2M → Prop) (cc : ByteArray) (own : String) (nL d : Nat) (ret : Option FieldType) (Q : Option Value → m2M → Prop) : Prop :=
  ∃ (p : Program) (l : Launch) (e : Env) (R : Room) (s : State) (m : MethodId) (args : Array Value) (below : List Frame) (meth : Method) (c : Code) (D : va_G) (dA : Nat → ClassId) (ad : Nat → Nat) (cells slots : Nat), m2_C cc own nL d p R s m args meth c D dA ad cells slots ∧ m2_Str ad s ∧ meth.sig.returnType = ret ∧
    κ = m2_J nL p l e R s m args below meth c D dA ad cells slots (MQ below (m2_Qc ret D dA ad (m2_A ad s.heap.size) Q) args s cells slots (m2_A ad s.heap.size))
theorem m2_RLs.rl {κ : Nat → List Value → List Value → m2M → Prop} {cc : ByteArray} {own : String} {nL d : Nat} {ret : Option FieldType} {Q : Option Value → m2M → Prop} (h : m2_RLs κ cc own nL d ret Q) : m2_RL κ cc own nL d ret Q := by
  obtain ⟨p, l, e, R, s, m, args, below, meth, c, D, dA, ad, cells, slots, hC, -, hr, hk⟩ := h
  exact ⟨p, l, e, R, s, m, args, below, meth, c, D, dA, ad, cells, slots, hC, hr, hk⟩
theorem m2_RLs.bs {κ : Nat → List Value → List Value → m2M → Prop} {cc : ByteArray} {own : String} {nL d : Nat} {ret : Option FieldType} {Q : Option Value → m2M → Prop} (h : m2_RLs κ cc own nL d ret Q) : m2_Bs κ cc own nL d := by
  obtain ⟨p, l, e, R, s, m, args, below, meth, c, D, dA, ad, cells, slots, hC, hs, -, hk⟩ := h
  exact ⟨p, l, e, R, s, m, args, below, meth, c, D, dA, ad, cells, slots, _, hC, hs, hk⟩
theorem m2_MTs.intro {d : Nat} {y : MethodName} {cc : ByteArray} {nL : Nat} {ret : Option FieldType} {as ls : List Value} {μ : m2M} {Q : Option Value → m2M → Prop} (hy : plainName y.cls = true) (hls : m2_in as ++ List.replicate (nL - (m2_in as).length) .null = ls) (hnl : (m2_in as).length ≤ nL)
    (hb : ∀ κ : Nat → List Value → List Value → m2M → Prop, m2_RLs κ cc y.cls nL d ret Q → κ 0 ls [] μ) : m2_MTs d y cc nL ret as μ Q := by
  intro l D dA ad sz hj
  refine Met.ofW (cc := cc) (maxL := nL) (ret := ret) hy rfl ?_
  intro p e s m args below meth c s₁ B hml hv
  obtain ⟨rfl, hsz, hP, hK, hZ⟩ := hv
  subst hsz
  have hts := atoms_spec (ws := .code y cc nL ret :: m2_WS) B.pre
  have hown : s.vm.findClass y.cls = some m.cls := findClass_of_methodNamed B.named
  have hl := lv_entry (as.map (m2_rv ad)) (n := nL) (by rw [m2_in_len]; exact hnl)
  rw [lg_entry_eq]
  generalize (lg_sl (as.map (m2_rv ad)) ++ List.replicate (nL - (lg_sl (as.map (m2_rv ad))).length) Slot.unset).toArray = la at hl ⊢
  have hlen : ls.length = nL := by
    rw [← hls, List.length_append, List.length_replicate]
    omega
  refine hb _ ⟨p, l, e, m2_rm d, s, m, _, below, meth, c, D, dA, ad, 0, 0, ⟨B.exec, B.bytes, hml, hown, fun w h => hts w (List.mem_cons_of_mem _ h), hK, hj, B.notSynchronized, Nat.le_refl _, Nat.le_refl _, Nat.le_refl _, Nat.le_refl _⟩, hZ, B.returns, rfl⟩ s.heap [] la hP va_S.rf ⟨hlen, hl.1, hl.2.1, fun i v hi hn => ?_⟩
  have hi2 : (m2_in as)[i]? = some v := by
    rw [← hls] at hi
    by_cases hlt : i < (m2_in as).length
    · rw [List.getElem?_append_left hlt] at hi
      exact hi
    · rw [List.getElem?_append_right (by omega)] at hi
      have := List.eq_of_mem_replicate (List.mem_of_getElem? hi)
      exact absurd this hn
  have h1 := m2_in_args (ad := ad) as 0 i v hi2 hn
  rw [Nat.zero_add] at h1
  exact hl.2.2 _ h1
section M2S
variable {κ : Nat → List Value → List Value → m2M → Prop} {cc : ByteArray} {own : String} {nL d pc : Nat} {ls st stk : List Value} {μ : m2M}
theorem m2_ldcS (h : m2_Bs κ cc RX7 nL d) (hd : decode cc pc = .ok (.ldc 91, 2)) (k : κ (pc + 2) ls (.ref 1000 :: st) μ) : κ pc ls st μ := by
  obtain ⟨p, l, e, R, s, m, args, below, meth, c, D, dA, ad, cells, slots, Z, ⟨hx, hb, hml, ho, hw, hK, hj, hk, hfr, hlo, hce, hsl⟩, hZ, rfl⟩ := h
  intro H locs la hP hS hl
  exact va_ldcS hx hb ho hZ.1 hd (k H locs la hP hS hl)
theorem m2_getV (h : m2_Bs κ cc RJ0 nL d) (hd : decode cc pc = .ok (.getfield 9, 3)) (k : κ (pc + 3) ls (.ref 1001 :: st) μ) : κ pc ls (.ref 1000 :: st) μ := by
  obtain ⟨p, l, e, R, s, m, args, below, meth, c, D, dA, ad, cells, slots, Z, ⟨hx, hb, hml, ho, hw, hK, hj, hk, hfr, hlo, hce, hsl⟩, hZ, rfl⟩ := h
  intro H locs la hP hS hl
  exact vk_getf hx hb hZ.2.2.2.1 hS ho (hw _ (m2_at (w := .fieldLink RJ0 9 RJ0 "value" "[B") 2100 (by decide +kernel) rfl)) (fun _ q => q) hd (k H locs la hP hS hl)
theorem m2_getC (h : m2_Bs κ cc RJ0 nL d) (hd : decode cc pc = .ok (.getfield 15, 3)) (k : κ (pc + 3) ls (.int 0 :: st) μ) : κ pc ls (.ref 1000 :: st) μ := by
  obtain ⟨p, l, e, R, s, m, args, below, meth, c, D, dA, ad, cells, slots, Z, ⟨hx, hb, hml, ho, hw, hK, hj, hk, hfr, hlo, hce, hsl⟩, hZ, rfl⟩ := h
  intro H locs la hP hS hl
  exact vk_getf hx hb hZ.2.2.1 hS ho (hw _ (m2_at (w := .fieldLink RJ0 15 RJ0 "coder" "B") 2099 (by decide +kernel) rfl)) (fun _ q => q) hd (k H locs la hP hS hl)
theorem m2_getsS (h : m2_Bs κ cc RJ0 nL d) (hd : decode cc pc = .ok (.getstatic 38, 3)) (k : κ (pc + 3) ls (.int 1 :: st) μ) : κ pc ls st μ := by
  obtain ⟨p, l, e, R, s, m, args, below, meth, c, D, dA, ad, cells, slots, Z, ⟨hx, hb, hml, ho, hw, hK, hj, hk, hfr, hlo, hce, hsl⟩, hZ, rfl⟩ := h
  intro H locs la hP hS hl
  exact va_gets hx hb hZ.2.2.2.2.2 hS ho (hw _ (m2_at (w := .fieldLink RJ0 38 RJ0 "COMPACT_STRINGS" "Z") 774 (by decide +kernel) rfl)) (fun _ q => q) hd (k H locs la hP hS hl)
theorem m2_baldS (h : m2_Bs κ cc own nL d) {j : Nat} (hd : decode cc pc = .ok (.baload, 1)) (hj6 : j < 6) (k : κ (pc + 1) ls (.int (lmB j) :: st) μ) : κ pc ls (.int (nI j) :: .ref 1001 :: st) μ := by
  obtain ⟨p, l, e, R, s, m, args, below, meth, c, D, dA, ad, cells, slots, Z, ⟨hx, hb, hml, ho, hw, hK, hj, hk, hfr, hlo, hce, hsl⟩, hZ, rfl⟩ := h
  intro H locs la hP hS hl
  exact va_tb hx hb hZ.2.2.2.2.1 hS (vp_in_nI hj6 (by decide)) (by show Value.int (lmB (nI j).toNatClampNeg) = .int (lmB j); rw [nI_clamp (by omega)]) hd (k H locs la hP hS hl)
theorem m2_alenS (h : m2_Bs κ cc own nL d) (hd : decode cc pc = .ok (.arraylength, 1)) (k : κ (pc + 1) ls (.int 6 :: st) μ) : κ pc ls (.ref 1001 :: st) μ := by
  obtain ⟨p, l, e, R, s, m, args, below, meth, c, D, dA, ad, cells, slots, Z, ⟨hx, hb, hml, ho, hw, hK, hj, hk, hfr, hlo, hce, hsl⟩, hZ, rfl⟩ := h
  intro H locs la hP hS hl
  exact va_tlen hx hb hZ.2.2.2.2.1 hS (v := 6) (by decide) hd (k H locs la hP hS hl)
/-- calls of methods that want the text: of the text's own, of the class's, static ones -/
theorem m2_invT (h : m2_Bs κ cc own nL (d + 1)) {idx nY n : Nat} {y : MethodName} {cy : ByteArray} {ret : Option FieldType} {as : List Value} {Q1 : Option Value → m2M → Prop} (hd : decode cc pc = .ok (.invokevirtual idx, 3)) (hL : m2_LV own idx RJ0 y cy nY ret n) (hn : as.length = n) (hcat : (st.map fun v => v.category).sum ≤ 8) (hstk : stk = as.reverse ++ .ref 1000 :: st)
    (hM : m2_MTs d y cy nY ret (.ref 1000 :: as) μ Q1) (k : ∀ (r : Option Value) (μ' : m2M), m2_okr ret r → Q1 r μ' → κ (pc + 3) ls (r.toList ++ st) μ') : κ pc ls stk μ := by
  obtain ⟨p, l, e, R, s, m, args, below, meth, c, D, dA, ad, cells, slots, Z, ⟨hx, hb, hml, ho, hw, hK, hj, hk, hfr, hlo, hce, hsl⟩, hZ, rfl⟩ := h
  intro H locs la hP hS hl
  refine m2_behind (a := (Value.ref (ad 1000) :: as.map (m2_rv ad)).toArray) (va_runV (As := as.map (m2_rv ad)) (rest := st.map (m2_rv ad)) (b := ad 1000) (C := RJ0) (n := n) ⟨hx, hb, hml, ho, hw⟩ (hM l D dA ad H.size hj) (cwV n hw hL.1 rfl rfl rfl hL.2.1 ⟨?_, ?_⟩) ⟨?_, ?_, ?_⟩ rfl (by rw [List.length_map]; exact hn) hl.2.1 ?_ (lv_room (by rw [m2_cat]; exact hcat)) hd ⟨hce, hsl⟩) hS hl k
  · show d + 1 ≤ R.frames
    exact hfr
  · show 8 + (nY + 11) + 40 * d ≤ R.locals
    have := hL.2.2
    omega
  · intro a U g mk q
    obtain ⟨q0, q1, qP, qK, qZ⟩ := q
    exact ⟨q0, q1, qP, m2_K.same (s := U) (U := U.calling g mk a) rfl qK, m2_Str.same (s := U) (U := U.calling g mk a) rfl rfl qZ⟩
  · obtain ⟨cell, h1, h2, h3, -⟩ := hZ.2.1.kept hS.2.1
    exact ⟨cell, h1, h2, h3⟩
  · exact fun U hU hW => ⟨rfl, by rw [hU], by rw [hU]; exact hP, hK.moved hW, hZ.moved hS hU hW⟩
  · show (stk.map (m2_rv ad)) = (as.map (m2_rv ad)).reverse ++ Value.ref (ad 1000) :: st.map (m2_rv ad)
    rw [hstk, List.map_append, List.map_reverse]
    rfl
theorem m2_invs (h : m2_Bs κ cc own nL (d + 1)) {idx ci c0 nY n : Nat} {C : String} {T : u_T} {N : Nat} {y : MethodName} {cy : ByteArray} {ret : Option FieldType} {ks : List Nat} {as : List Value} {Q1 : Option Value → m2M → Prop} (hd : decode cc pc = .ok (.invokevirtual idx, 3)) (hL : m2_LV own idx C y cy nY ret n) (hn : as.length = n) (hs : m2_sh c0 = some (.inr (ci, ks))) (hC : vwCl[ci]? = some (C, T, N)) (hcat : (st.map fun v => v.category).sum ≤ 8) (hstk : stk = as.reverse ++ .ref c0 :: st)
    (hM : m2_MTs d y cy nY ret (.ref c0 :: as) μ Q1) (k : ∀ (r : Option Value) (μ' : m2M), m2_okr ret r → Q1 r μ' → κ (pc + 3) ls (r.toList ++ st) μ') : κ pc ls stk μ := by
  obtain ⟨p, l, e, R, s, m, args, below, meth, c, D, dA, ad, cells, slots, Z, ⟨hx, hb, hml, ho, hw, hK, hj, hk, hfr, hlo, hce, hsl⟩, hZ, rfl⟩ := h
  intro H locs la hP hS hl
  refine m2_behind (a := (Value.ref (ad c0) :: as.map (m2_rv ad)).toArray) (va_runV (As := as.map (m2_rv ad)) (rest := st.map (m2_rv ad)) (b := ad c0) (C := C) (n := n) ⟨hx, hb, hml, ho, hw⟩ (hM l D dA ad H.size hj) (cwV n hw hL.1 rfl rfl rfl hL.2.1 ⟨?_, ?_⟩) ⟨?_, ?_, ?_⟩ rfl (by rw [List.length_map]; exact hn) hl.2.1 ?_ (lv_room (by rw [m2_cat]; exact hcat)) hd ⟨hce, hsl⟩) hS hl k
  · show d + 1 ≤ R.frames
    exact hfr
  · show 8 + (nY + 11) + 40 * d ≤ R.locals
    have := hL.2.2
    omega
  · intro a U g mk q
    obtain ⟨q0, q1, qP, qK, qZ⟩ := q
    exact ⟨q0, q1, qP, m2_K.same (s := U) (U := U.calling g mk a) rfl qK, m2_Str.same (s := U) (U := U.calling g mk a) rfl rfl qZ⟩
  · exact va_recv hK.1 hP (ci := ci) (q0 := c0) (fs := m2_fs ad (μ.1 c0) ks) hC (by rw [m2_ws_get (m2_sh_lt hs), m2_ce_obj hs])
  · exact fun U hU hW => ⟨rfl, by rw [hU], by rw [hU]; exact hP, hK.moved hW, hZ.moved hS hU hW⟩
  · show (stk.map (m2_rv ad)) = (as.map (m2_rv ad)).reverse ++ Value.ref (ad c0) :: st.map (m2_rv ad)
    rw [hstk, List.map_append, List.map_reverse]
    rfl
theorem m2_invSs (h : m2_Bs κ cc own nL (d + 1)) {idx nY n : Nat} {y : MethodName} {cy : ByteArray} {ret : Option FieldType} {as : List Value} {Q1 : Option Value → m2M → Prop} (hd : decode cc pc = .ok (.invokestatic idx, 3)) (hL : m2_LS own idx y cy nY ret n) (hn : as.length = n) (hcat : (st.map fun v => v.category).sum ≤ 8) (hstk : stk = as.reverse ++ st)
    (hM : m2_MTs d y cy nY ret as μ Q1) (k : ∀ (r : Option Value) (μ' : m2M), m2_okr ret r → Q1 r μ' → κ (pc + 3) ls (r.toList ++ st) μ') : κ pc ls stk μ := by
  obtain ⟨p, l, e, R, s, m, args, below, meth, c, D, dA, ad, cells, slots, Z, ⟨hx, hb, hml, ho, hw, hK, hj, hk, hfr, hlo, hce, hsl⟩, hZ, rfl⟩ := h
  intro H locs la hP hS hl
  refine m2_behind (a := (as.map (m2_rv ad)).toArray) (va_runS (As := as.map (m2_rv ad)) (rest := st.map (m2_rv ad)) (n := n) ⟨hx, hb, hml, ho, hw⟩ (hM l D dA ad H.size hj) (va_cwS n hw hL.1 rfl rfl rfl hL.2.1 ⟨?_, ?_⟩) ⟨?_, ?_⟩ rfl (by rw [List.length_map]; exact hn) hl.2.1 ?_ (lv_room (by rw [m2_cat]; exact hcat)) hd ⟨hce, hsl⟩) hS hl k
  · show d + 1 ≤ R.frames
    exact hfr
  · show 8 + (nY + 11) + 40 * d ≤ R.locals
    have := hL.2.2
    omega
  · intro a U g mk q
    obtain ⟨q0, q1, qP, qK, qZ⟩ := q
    exact ⟨q0, q1, qP, m2_K.same (s := U) (U := U.calling g mk a) rfl qK, m2_Str.same (s := U) (U := U.calling g mk a) rfl rfl qZ⟩
  · exact fun U hU hW => ⟨rfl, by rw [hU], by rw [hU]; exact hP, hK.moved hW, hZ.moved hS hU hW⟩
  · show (stk.map (m2_rv ad)) = (as.map (m2_rv ad)).reverse ++ st.map (m2_rv ad)
    rw [hstk, List.map_append, List.map_reverse]
theorem m2_yret {Q : Option Value → m2M → Prop} (h : m2_RL κ cc own nL d (some .byte) Q) (hd : decode cc pc = .ok (.ireturn, 1)) (hq : Q (some (.int 0)) μ) : κ pc ls [.int 0] μ := by
  obtain ⟨p, l, e, R, s, m, args, below, meth, c, D, dA, ad, cells, slots, ⟨hx, hb, hml, ho, hw, hK, hj, hk, hfr, hlo, hce, hsl⟩, hr, rfl⟩ := h
  intro H locs la hP hS hl
  exact W.zret hx hb hr (by rfl) (fun t ht _ => ⟨⟨0, μ, rfl, hq, by show va_P D vwCl (m2_ws dA ad μ) t.heap; rw [ht]; exact hP⟩, hS.F ht⟩) hS.2.2 hd hk
end M2S
theorem dJ0_length_8abf5_0 : decode cJ0_length_8abf5 0 = .ok (.aload_n 0, 1) := by decide +kernel
theorem dJ0_length_8abf5_1 : decode cJ0_length_8abf5 1 = .ok (.getfield 9, 3) := by decide +kernel
theorem dJ0_length_8abf5_4 : decode cJ0_length_8abf5 4 = .ok (.arraylength, 1) := by decide +kernel
theorem dJ0_length_8abf5_5 : decode cJ0_length_8abf5 5 = .ok (.aload_n 0, 1) := by decide +kernel
theorem dJ0_length_8abf5_6 : decode cJ0_length_8abf5 6 = .ok (.invokevirtual 335, 3) := by decide +kernel
theorem dJ0_length_8abf5_9 : decode cJ0_length_8abf5 9 = .ok (.ishr, 1) := by decide +kernel
theorem dJ0_length_8abf5_10 : decode cJ0_length_8abf5 10 = .ok (.ireturn, 1) := by decide +kernel
theorem dJ0_coder_7d493_0 : decode cJ0_coder_7d493 0 = .ok (.getstatic 38, 3) := by decide +kernel
theorem dJ0_coder_7d493_3 : decode cJ0_coder_7d493 3 = .ok (.ifCond .eq 10, 3) := by decide +kernel
theorem dJ0_coder_7d493_6 : decode cJ0_coder_7d493 6 = .ok (.aload_n 0, 1) := by decide +kernel
theorem dJ0_coder_7d493_7 : decode cJ0_coder_7d493 7 = .ok (.getfield 15, 3) := by decide +kernel
theorem dJ0_coder_7d493_10 : decode cJ0_coder_7d493 10 = .ok (.goto 4, 3) := by decide +kernel
theorem dJ0_coder_7d493_13 : decode cJ0_coder_7d493 13 = .ok (.iconst 1, 1) := by decide +kernel
theorem dJ0_coder_7d493_14 : decode cJ0_coder_7d493 14 = .ok (.ireturn, 1) := by decide +kernel
theorem dJ0_indexOf_0f7a4_0 : decode cJ0_indexOf_0f7a4 0 = .ok (.aload_n 0, 1) := by decide +kernel
theorem dJ0_indexOf_0f7a4_1 : decode cJ0_indexOf_0f7a4 1 = .ok (.iload_n 1, 1) := by decide +kernel
theorem dJ0_indexOf_0f7a4_2 : decode cJ0_indexOf_0f7a4 2 = .ok (.iconst 0, 1) := by decide +kernel
theorem dJ0_indexOf_0f7a4_3 : decode cJ0_indexOf_0f7a4 3 = .ok (.invokevirtual 633, 3) := by decide +kernel
theorem dJ0_indexOf_0f7a4_6 : decode cJ0_indexOf_0f7a4 6 = .ok (.ireturn, 1) := by decide +kernel
theorem dJ0_indexOf_7cf53_0 : decode cJ0_indexOf_7cf53 0 = .ok (.aload_n 0, 1) := by decide +kernel
theorem dJ0_indexOf_7cf53_1 : decode cJ0_indexOf_7cf53 1 = .ok (.invokevirtual 492, 3) := by decide +kernel
theorem dJ0_indexOf_7cf53_4 : decode cJ0_indexOf_7cf53 4 = .ok (.ifCond .eq 19, 3) := by decide +kernel
theorem dJ0_indexOf_7cf53_7 : decode cJ0_indexOf_7cf53 7 = .ok (.aload_n 0, 1) := by decide +kernel
theorem dJ0_indexOf_7cf53_8 : decode cJ0_indexOf_7cf53 8 = .ok (.getfield 9, 3) := by decide +kernel
theorem dJ0_indexOf_7cf53_11 : decode cJ0_indexOf_7cf53 11 = .ok (.iload_n 1, 1) := by decide +kernel
theorem dJ0_indexOf_7cf53_12 : decode cJ0_indexOf_7cf53 12 = .ok (.iload_n 2, 1) := by decide +kernel
theorem dJ0_indexOf_7cf53_13 : decode cJ0_indexOf_7cf53 13 = .ok (.aload_n 0, 1) := by decide +kernel
theorem dJ0_indexOf_7cf53_14 : decode cJ0_indexOf_7cf53 14 = .ok (.invokevirtual 505, 3) := by decide +kernel
theorem dJ0_indexOf_7cf53_17 : decode cJ0_indexOf_7cf53 17 = .ok (.invokestatic 637, 3) := by decide +kernel
theorem dJ0_indexOf_7cf53_20 : decode cJ0_indexOf_7cf53 20 = .ok (.goto 16, 3) := by decide +kernel
theorem dJ0_indexOf_7cf53_23 : decode cJ0_indexOf_7cf53 23 = .ok (.aload_n 0, 1) := by decide +kernel
theorem dJ0_indexOf_7cf53_24 : decode cJ0_indexOf_7cf53 24 = .ok (.getfield 9, 3) := by decide +kernel
theorem dJ0_indexOf_7cf53_27 : decode cJ0_indexOf_7cf53 27 = .ok (.iload_n 1, 1) := by decide +kernel
theorem dJ0_indexOf_7cf53_28 : decode cJ0_indexOf_7cf53 28 = .ok (.iload_n 2, 1) := by decide +kernel
theorem dJ0_indexOf_7cf53_29 : decode cJ0_indexOf_7cf53 29 = .ok (.aload_n 0, 1) := by decide +kernel
theorem dJ0_indexOf_7cf53_30 : decode cJ0_indexOf_7cf53 30 = .ok (.invokevirtual 505, 3) := by decide +kernel
theorem dJ0_indexOf_7cf53_33 : decode cJ0_indexOf_7cf53 33 = .ok (.invokestatic 640, 3) := by decide +kernel
theorem dJ0_indexOf_7cf53_36 : decode cJ0_indexOf_7cf53 36 = .ok (.ireturn, 1) := by decide +kernel
theorem dJ0_isLatin1_aae02_0 : decode cJ0_isLatin1_aae02 0 = .ok (.getstatic 38, 3) := by decide +kernel
theorem dJ0_isLatin1_aae02_3 : decode cJ0_isLatin1_aae02 3 = .ok (.ifCond .eq 14, 3) := by decide +kernel
theorem dJ0_isLatin1_aae02_6 : decode cJ0_isLatin1_aae02 6 = .ok (.aload_n 0, 1) := by decide +kernel
theorem dJ0_isLatin1_aae02_7 : decode cJ0_isLatin1_aae02 7 = .ok (.getfield 15, 3) := by decide +kernel
theorem dJ0_isLatin1_aae02_10 : decode cJ0_isLatin1_aae02 10 = .ok (.ifCond .ne 7, 3) := by decide +kernel
theorem dJ0_isLatin1_aae02_13 : decode cJ0_isLatin1_aae02 13 = .ok (.iconst 1, 1) := by decide +kernel
theorem dJ0_isLatin1_aae02_14 : decode cJ0_isLatin1_aae02 14 = .ok (.goto 4, 3) := by decide +kernel
theorem dJ0_isLatin1_aae02_17 : decode cJ0_isLatin1_aae02 17 = .ok (.iconst 0, 1) := by decide +kernel
theorem dJ0_isLatin1_aae02_18 : decode cJ0_isLatin1_aae02 18 = .ok (.ireturn, 1) := by decide +kernel
theorem dJ1_canEncode_9a6ad_0 : decode cJ1_canEncode_9a6ad 0 = .ok (.iload_n 0, 1) := by decide +kernel
theorem dJ1_canEncode_9a6ad_1 : decode cJ1_canEncode_9a6ad 1 = .ok (.ifCond .lt 14, 3) := by decide +kernel
theorem dJ1_canEncode_9a6ad_4 : decode cJ1_canEncode_9a6ad 4 = .ok (.iload_n 0, 1) := by decide +kernel
theorem dJ1_canEncode_9a6ad_5 : decode cJ1_canEncode_9a6ad 5 = .ok (.sipush 255, 3) := by decide +kernel
theorem dJ1_canEncode_9a6ad_8 : decode cJ1_canEncode_9a6ad 8 = .ok (.if_icmp .gt 7, 3) := by decide +kernel
theorem dJ1_canEncode_9a6ad_11 : decode cJ1_canEncode_9a6ad 11 = .ok (.iconst 1, 1) := by decide +kernel
theorem dJ1_canEncode_9a6ad_12 : decode cJ1_canEncode_9a6ad 12 = .ok (.goto 4, 3) := by decide +kernel
theorem dJ1_canEncode_9a6ad_15 : decode cJ1_canEncode_9a6ad 15 = .ok (.iconst 0, 1) := by decide +kernel
theorem dJ1_canEncode_9a6ad_16 : decode cJ1_canEncode_9a6ad 16 = .ok (.ireturn, 1) := by decide +kernel
theorem dJ1_indexOf_4cfef_0 : decode cJ1_indexOf_4cfef 0 = .ok (.iload_n 1, 1) := by decide +kernel
theorem dJ1_indexOf_4cfef_1 : decode cJ1_indexOf_4cfef 1 = .ok (.invokestatic 88, 3) := by decide +kernel
theorem dJ1_indexOf_4cfef_4 : decode cJ1_indexOf_4cfef 4 = .ok (.ifCond .ne 5, 3) := by decide +kernel
theorem dJ1_indexOf_4cfef_7 : decode cJ1_indexOf_4cfef 7 = .ok (.iconst (-1), 1) := by decide +kernel
theorem dJ1_indexOf_4cfef_8 : decode cJ1_indexOf_4cfef 8 = .ok (.ireturn, 1) := by decide +kernel
theorem dJ1_indexOf_4cfef_9 : decode cJ1_indexOf_4cfef 9 = .ok (.iload_n 2, 1) := by decide +kernel
theorem dJ1_indexOf_4cfef_10 : decode cJ1_indexOf_4cfef 10 = .ok (.iconst 0, 1) := by decide +kernel
theorem dJ1_indexOf_4cfef_11 : decode cJ1_indexOf_4cfef 11 = .ok (.invokestatic 92, 3) := by decide +kernel
theorem dJ1_indexOf_4cfef_14 : decode cJ1_indexOf_4cfef 14 = .ok (.istore_n 2, 1) := by decide +kernel
theorem dJ1_indexOf_4cfef_15 : decode cJ1_indexOf_4cfef 15 = .ok (.iload_n 3, 1) := by decide +kernel
theorem dJ1_indexOf_4cfef_16 : decode cJ1_indexOf_4cfef 16 = .ok (.aload_n 0, 1) := by decide +kernel
theorem dJ1_indexOf_4cfef_17 : decode cJ1_indexOf_4cfef 17 = .ok (.arraylength, 1) := by decide +kernel
theorem dJ1_indexOf_4cfef_18 : decode cJ1_indexOf_4cfef 18 = .ok (.invokestatic 38, 3) := by decide +kernel
theorem dJ1_indexOf_4cfef_21 : decode cJ1_indexOf_4cfef 21 = .ok (.istore_n 3, 1) := by decide +kernel
theorem dJ1_indexOf_4cfef_22 : decode cJ1_indexOf_4cfef 22 = .ok (.iload_n 2, 1) := by decide +kernel
theorem dJ1_indexOf_4cfef_23 : decode cJ1_indexOf_4cfef 23 = .ok (.iload_n 3, 1) := by decide +kernel
theorem dJ1_indexOf_4cfef_24 : decode cJ1_indexOf_4cfef 24 = .ok (.if_icmp .lt 5, 3) := by decide +kernel
theorem dJ1_indexOf_4cfef_27 : decode cJ1_indexOf_4cfef 27 = .ok (.iconst (-1), 1) := by decide +kernel
theorem dJ1_indexOf_4cfef_28 : decode cJ1_indexOf_4cfef 28 = .ok (.ireturn, 1) := by decide +kernel
theorem dJ1_indexOf_4cfef_29 : decode cJ1_indexOf_4cfef 29 = .ok (.aload_n 0, 1) := by decide +kernel
theorem dJ1_indexOf_4cfef_30 : decode cJ1_indexOf_4cfef 30 = .ok (.iload_n 1, 1) := by decide +kernel
theorem dJ1_indexOf_4cfef_31 : decode cJ1_indexOf_4cfef 31 = .ok (.iload_n 2, 1) := by decide +kernel
theorem dJ1_indexOf_4cfef_32 : decode cJ1_indexOf_4cfef 32 = .ok (.iload_n 3, 1) := by decide +kernel
theorem dJ1_indexOf_4cfef_33 : decode cJ1_indexOf_4cfef 33 = .ok (.invokestatic 95, 3) := by decide +kernel
theorem dJ1_indexOf_4cfef_36 : decode cJ1_indexOf_4cfef 36 = .ok (.ireturn, 1) := by decide +kernel
theorem dJ1_indexOfChar_4cfef_0 : decode cJ1_indexOfChar_4cfef 0 = .ok (.iload_n 1, 1) := by decide +kernel
theorem dJ1_indexOfChar_4cfef_1 : decode cJ1_indexOfChar_4cfef 1 = .ok (.i2b, 1) := by decide +kernel
theorem dJ1_indexOfChar_4cfef_2 : decode cJ1_indexOfChar_4cfef 2 = .ok (.istore 4, 2) := by decide +kernel
theorem dJ1_indexOfChar_4cfef_4 : decode cJ1_indexOfChar_4cfef 4 = .ok (.iload_n 2, 1) := by decide +kernel
theorem dJ1_indexOfChar_4cfef_5 : decode cJ1_indexOfChar_4cfef 5 = .ok (.istore 5, 2) := by decide +kernel
theorem dJ1_indexOfChar_4cfef_7 : decode cJ1_indexOfChar_4cfef 7 = .ok (.iload 5, 2) := by decide +kernel
theorem dJ1_indexOfChar_4cfef_9 : decode cJ1_indexOfChar_4cfef 9 = .ok (.iload_n 3, 1) := by decide +kernel
theorem dJ1_indexOfChar_4cfef_10 : decode cJ1_indexOfChar_4cfef 10 = .ok (.if_icmp .ge 21, 3) := by decide +kernel
theorem dJ1_indexOfChar_4cfef_13 : decode cJ1_indexOfChar_4cfef 13 = .ok (.aload_n 0, 1) := by decide +kernel
theorem dJ1_indexOfChar_4cfef_14 : decode cJ1_indexOfChar_4cfef 14 = .ok (.iload 5, 2) := by decide +kernel
theorem dJ1_indexOfChar_4cfef_16 : decode cJ1_indexOfChar_4cfef 16 = .ok (.baload, 1) := by decide +kernel
theorem dJ1_indexOfChar_4cfef_17 : decode cJ1_indexOfChar_4cfef 17 = .ok (.iload 4, 2) := by decide +kernel
theorem dJ1_indexOfChar_4cfef_19 : decode cJ1_indexOfChar_4cfef 19 = .ok (.if_icmp .ne 6, 3) := by decide +kernel
theorem dJ1_indexOfChar_4cfef_22 : decode cJ1_indexOfChar_4cfef 22 = .ok (.iload 5, 2) := by decide +kernel
theorem dJ1_indexOfChar_4cfef_24 : decode cJ1_indexOfChar_4cfef 24 = .ok (.ireturn, 1) := by decide +kernel
theorem dJ1_indexOfChar_4cfef_25 : decode cJ1_indexOfChar_4cfef 25 = .ok (.iinc 5 1, 3) := by decide +kernel
theorem dJ1_indexOfChar_4cfef_28 : decode cJ1_indexOfChar_4cfef 28 = .ok (.goto (-21), 3) := by decide +kernel
theorem dJ1_indexOfChar_4cfef_31 : decode cJ1_indexOfChar_4cfef 31 = .ok (.iconst (-1), 1) := by decide +kernel
theorem dJ1_indexOfChar_4cfef_32 : decode cJ1_indexOfChar_4cfef 32 = .ok (.ireturn, 1) := by decide +kernel
/-- indexOf in what is left of the text -/
def lmF (c : Int32) : Nat → Nat → Int32
  | 0, _ => -1
  | f + 1, i => if lmB i = c then nI i else lmF c f (i + 1)
def lmX (c : Int32) : Int32 := if c < 0 then -1 else if 255 < c then -1 else lmF c.toInt8.toInt32 6 0
theorem S_indexOfChar {D : Nat} (c : Int32) (μ : m2M) : m2_MTs D yJ1_indexOfChar_4cfef cJ1_indexOfChar_4cfef 6 (some .int) [.ref 1001, .int c, .int 0, .int 6] μ (fun r μ' => r = some (.int (lmF c.toInt8.toInt32 6 0)) ∧ μ' = μ) := by
  refine m2_MTs.intro (ls := [.ref 1001, .int c, .int 0, .int 6, .null, .null]) (by decide +kernel) rfl (ble rfl) (fun κ hs => ?_)
  have h := hs.rl
  have hB := h.b
  have loop : ∀ (f i : Nat), i + f = 6 → lmF c.toInt8.toInt32 6 0 = lmF c.toInt8.toInt32 f i → κ 7 [.ref 1001, .int c, .int 0, .int 6, .int c.toInt8.toInt32, .int (nI i)] [] μ := by
    intro f
    induction f with
    | zero =>
      intro i hi e
      have hi : i = 6 := by omega
      subst hi
      refine m2_iload hB dJ1_indexOfChar_4cfef_7 rfl ?_
      refine m2_iload_n hB dJ1_indexOfChar_4cfef_9 rfl ?_
      refine m2_icmp_ge hB dJ1_indexOfChar_4cfef_10 (tgt := 31) (by decide) (fun _ => ?_) (fun q => absurd (show (6 : Int32) ≤ nI 6 by decide) q)
      refine m2_iconst hB dJ1_indexOfChar_4cfef_31 (v := -1) (by decide) ?_
      refine m2_iret h dJ1_indexOfChar_4cfef_32 ⟨?_, rfl⟩
      rw [e]
      rfl
    | succ f ih =>
      intro i hi e
      have hlt : i < 6 := by omega
      refine m2_iload hB dJ1_indexOfChar_4cfef_7 rfl ?_
      refine m2_iload_n hB dJ1_indexOfChar_4cfef_9 rfl ?_
      refine m2_icmp_ge hB dJ1_indexOfChar_4cfef_10 (tgt := 31) (by decide) (fun q => absurd q (nI_ge (b := 6) hlt (by decide))) (fun _ => ?_)
      refine m2_aload_n hB dJ1_indexOfChar_4cfef_13 rfl ?_
      refine m2_iload hB dJ1_indexOfChar_4cfef_14 rfl ?_
      refine m2_baldS hs.bs dJ1_indexOfChar_4cfef_16 hlt ?_
      refine m2_iload hB dJ1_indexOfChar_4cfef_17 rfl ?_
      have e2 : lmF c.toInt8.toInt32 (f + 1) i = if lmB i = c.toInt8.toInt32 then nI i else lmF c.toInt8.toInt32 f (i + 1) := rfl
      rw [e2] at e
      refine m2_icmp_ne hB dJ1_indexOfChar_4cfef_19 (tgt := 25) (by decide) (fun q => ?_) (fun q => ?_)
      · rw [if_neg q] at e
        refine m2_iinc hB (ls' := [.ref 1001, .int c, .int 0, .int 6, .int c.toInt8.toInt32, .int (nI (i + 1))]) (v := nI (i + 1)) dJ1_indexOfChar_4cfef_25 rfl (by decide) (nI_1 i) rfl ?_
        refine m2_goto hB dJ1_indexOfChar_4cfef_28 (tgt := 7) (by decide) ?_
        exact ih (i + 1) (by omega) e
      · rw [if_pos q] at e
        refine m2_iload hB dJ1_indexOfChar_4cfef_22 rfl ?_
        refine m2_iret h dJ1_indexOfChar_4cfef_24 ⟨?_, rfl⟩
        rw [e]
  refine m2_iload_n hB dJ1_indexOfChar_4cfef_0 rfl ?_
  refine m2_i2b hB dJ1_indexOfChar_4cfef_1 ?_
  refine m2_istore hB (ls' := [.ref 1001, .int c, .int 0, .int 6, .int c.toInt8.toInt32, .null]) dJ1_indexOfChar_4cfef_2 (by decide) rfl ?_
  refine m2_iload_n hB dJ1_indexOfChar_4cfef_4 rfl ?_
  refine m2_istore hB (ls' := [.ref 1001, .int c, .int 0, .int 6, .int c.toInt8.toInt32, .int 0]) dJ1_indexOfChar_4cfef_5 (by decide) rfl ?_
  have := loop 6 0 rfl rfl
  rw [nI_0] at this
  exact this
theorem S_canEncode {D : Nat} (c : Int32) (μ : m2M) : m2_MT D yJ1_canEncode_9a6ad cJ1_canEncode_9a6ad 1 (some .boolean) [.int c] μ (fun r μ' => r = some (.int (if c < 0 then 0 else if 255 < c then 0 else 1)) ∧ μ' = μ) := by
  refine m2_MT.intro (ls := [.int c]) (by decide +kernel) rfl (ble rfl) (fun κ h => ?_)
  have hB := h.b
  refine m2_iload_n hB dJ1_canEncode_9a6ad_0 rfl ?_
  refine m2_if_lt hB dJ1_canEncode_9a6ad_1 (tgt := 15) (by decide) (fun q => ?_) (fun q => ?_)
  · refine m2_iconst hB dJ1_canEncode_9a6ad_15 (v := 0) (by decide) ?_
    exact m2_zret h dJ1_canEncode_9a6ad_16 (Or.inl rfl) ⟨by rw [if_pos q], rfl⟩
  · refine m2_iload_n hB dJ1_canEncode_9a6ad_4 rfl ?_
    refine m2_sipush hB dJ1_canEncode_9a6ad_5 (v := 255) (by decide) ?_
    refine m2_icmp_gt hB dJ1_canEncode_9a6ad_8 (tgt := 15) (by decide) (fun w => ?_) (fun w => ?_)
    · refine m2_iconst hB dJ1_canEncode_9a6ad_15 (v := 0) (by decide) ?_
      exact m2_zret h dJ1_canEncode_9a6ad_16 (Or.inl rfl) ⟨by rw [if_neg q, if_pos w], rfl⟩
    · refine m2_iconst hB dJ1_canEncode_9a6ad_11 (v := 1) (by decide) ?_
      refine m2_goto hB dJ1_canEncode_9a6ad_12 (tgt := 16) (by decide) ?_
      exact m2_zret h dJ1_canEncode_9a6ad_16 (Or.inr rfl) ⟨by rw [if_neg q, if_neg w], rfl⟩
theorem S_indexOfL {D : Nat} (hD : 1 ≤ D) (c : Int32) (μ : m2M) : m2_MTs D yJ1_indexOf_4cfef cJ1_indexOf_4cfef 4 (some .int) [.ref 1001, .int c, .int 0, .int 6] μ (fun r μ' => r = some (.int (lmX c)) ∧ μ' = μ) := by
  obtain ⟨D, rfl⟩ : ∃ E, D = E + 1 := ⟨D - 1, by omega⟩
  refine m2_MTs.intro (ls := [.ref 1001, .int c, .int 0, .int 6]) (by decide +kernel) rfl (ble rfl) (fun κ hs => ?_)
  have h := hs.rl
  have hB := h.b
  refine m2_iload_n hB dJ1_indexOf_4cfef_0 rfl ?_
  refine m2_invSz hB dJ1_indexOf_4cfef_1 ms_J1_88 (as := [.int c]) rfl (by decide) rfl (S_canEncode c μ) (fun y μ' hy => ?_)
  obtain ⟨e1, e2⟩ := hy
  cases e1
  have e2 := e2.symm
  subst e2
  refine m2_if_ne hB dJ1_indexOf_4cfef_4 (tgt := 9) (by decide) (fun q => ?_) (fun q => ?_)
  · have h0 : ¬ c < 0 := fun w => q (by rw [if_pos w])
    have h1 : ¬ 255 < c := fun w => q (by rw [if_neg h0, if_pos w])
    refine m2_iload_n hB dJ1_indexOf_4cfef_9 rfl ?_
    refine m2_iconst hB dJ1_indexOf_4cfef_10 (v := 0) (by decide) ?_
    refine m2_mmax hB dJ1_indexOf_4cfef_11 ms_J1_92 (by decide) ?_
    refine m2_istore_n hB (ls' := [.ref 1001, .int c, .int 0, .int 6]) dJ1_indexOf_4cfef_14 rfl (by decide) rfl ?_
    refine m2_iload_n hB dJ1_indexOf_4cfef_15 rfl ?_
    refine m2_aload_n hB dJ1_indexOf_4cfef_16 rfl ?_
    refine m2_alenS hs.bs dJ1_indexOf_4cfef_17 ?_
    refine m2_mmin hB dJ1_indexOf_4cfef_18 ms_J1_38 (by decide) ?_
    refine m2_istore_n hB (ls' := [.ref 1001, .int c, .int 0, .int 6]) dJ1_indexOf_4cfef_21 rfl (by decide) rfl ?_
    refine m2_iload_n hB dJ1_indexOf_4cfef_22 rfl ?_
    refine m2_iload_n hB dJ1_indexOf_4cfef_23 rfl ?_
    refine m2_icmp_lt hB dJ1_indexOf_4cfef_24 (tgt := 29) (by decide) (fun _ => ?_) (fun w => absurd (by decide) w)
    refine m2_aload_n hB dJ1_indexOf_4cfef_29 rfl ?_
    refine m2_iload_n hB dJ1_indexOf_4cfef_30 rfl ?_
    refine m2_iload_n hB dJ1_indexOf_4cfef_31 rfl ?_
    refine m2_iload_n hB dJ1_indexOf_4cfef_32 rfl ?_
    refine m2_invSs hs.bs dJ1_indexOf_4cfef_33 ms_J1_95 (as := [.ref 1001, .int c, .int 0, .int 6]) (st := []) rfl (by decide) rfl (S_indexOfChar c μ) (fun r μ' hr hq => ?_)
    obtain ⟨e3, e4⟩ := hq
    subst e3
    have e4 := e4.symm
    subst e4
    refine m2_iret h dJ1_indexOf_4cfef_36 ⟨?_, rfl⟩
    unfold lmX
    rw [if_neg h0, if_neg h1]
  · refine m2_iconst hB dJ1_indexOf_4cfef_7 (v := -1) (by decide) ?_
    refine m2_iret h dJ1_indexOf_4cfef_8 ⟨?_, rfl⟩
    unfold lmX
    by_cases h0 : c < 0
    · rw [if_pos h0]
    · rw [if_neg h0]
      by_cases h1 : 255 < c
      · rw [if_pos h1]
      · rw [if_neg h0, if_neg h1] at q; exact absurd q (by decide)
theorem S_coder {D : Nat} (μ : m2M) : m2_MTs D yJ0_coder_7d493 cJ0_coder_7d493 1 (some .byte) [.ref 1000] μ (fun r μ' => r = some (.int 0) ∧ μ' = μ) := by
  refine m2_MTs.intro (ls := [.ref 1000]) (by decide +kernel) rfl (ble rfl) (fun κ hs => ?_)
  have h := hs.rl
  have hB := h.b
  refine m2_getsS hs.bs dJ0_coder_7d493_0 ?_
  refine m2_if_eq hB dJ0_coder_7d493_3 (tgt := 13) (by decide) (fun q => absurd q (by decide)) (fun _ => ?_)
  refine m2_aload_n hB dJ0_coder_7d493_6 rfl ?_
  refine m2_getC hs.bs dJ0_coder_7d493_7 ?_
  refine m2_goto hB dJ0_coder_7d493_10 (tgt := 14) (by decide) ?_
  exact m2_yret h dJ0_coder_7d493_14 ⟨rfl, rfl⟩
theorem S_isLatin1 {D : Nat} (μ : m2M) : m2_MTs D yJ0_isLatin1_aae02 cJ0_isLatin1_aae02 1 (some .boolean) [.ref 1000] μ (fun r μ' => r = some (.int 1) ∧ μ' = μ) := by
  refine m2_MTs.intro (ls := [.ref 1000]) (by decide +kernel) rfl (ble rfl) (fun κ hs => ?_)
  have h := hs.rl
  have hB := h.b
  refine m2_getsS hs.bs dJ0_isLatin1_aae02_0 ?_
  refine m2_if_eq hB dJ0_isLatin1_aae02_3 (tgt := 17) (by decide) (fun q => absurd q (by decide)) (fun _ => ?_)
  refine m2_aload_n hB dJ0_isLatin1_aae02_6 rfl ?_
  refine m2_getC hs.bs dJ0_isLatin1_aae02_7 ?_
  refine m2_if_ne hB dJ0_isLatin1_aae02_10 (tgt := 17) (by decide) (fun q => absurd rfl q) (fun _ => ?_)
  refine m2_iconst hB dJ0_isLatin1_aae02_13 (v := 1) (by decide) ?_
  refine m2_goto hB dJ0_isLatin1_aae02_14 (tgt := 18) (by decide) ?_
  exact m2_zret h dJ0_isLatin1_aae02_18 (Or.inr rfl) ⟨rfl, rfl⟩
theorem S_lengthS {D : Nat} (hD : 1 ≤ D) (μ : m2M) : m2_MTs D yJ0_length_8abf5 cJ0_length_8abf5 1 (some .int) [.ref 1000] μ (fun r μ' => r = some (.int 6) ∧ μ' = μ) := by
  obtain ⟨D, rfl⟩ : ∃ E, D = E + 1 := ⟨D - 1, by omega⟩
  refine m2_MTs.intro (ls := [.ref 1000]) (by decide +kernel) rfl (ble rfl) (fun κ hs => ?_)
  have h := hs.rl
  have hB := h.b
  refine m2_aload_n hB dJ0_length_8abf5_0 rfl ?_
  refine m2_getV hs.bs dJ0_length_8abf5_1 ?_
  refine m2_alenS hs.bs dJ0_length_8abf5_4 ?_
  refine m2_aload_n hB dJ0_length_8abf5_5 rfl ?_
  refine m2_invT hs.bs dJ0_length_8abf5_6 mv_J0_335 (as := []) (st := [.int 6]) rfl (by decide) rfl (S_coder μ) (fun r μ' hr hq => ?_)
  obtain ⟨e1, e2⟩ := hq
  subst e1
  have e2 := e2.symm
  subst e2
  refine m2_ishr hB dJ0_length_8abf5_9 ?_
  exact m2_iret h dJ0_length_8abf5_10 ⟨by decide, rfl⟩
theorem S_indexOf2 {D : Nat} (hD : 2 ≤ D) (c : Int32) (μ : m2M) : m2_MTs D yJ0_indexOf_7cf53 cJ0_indexOf_7cf53 3 (some .int) [.ref 1000, .int c, .int 0] μ (fun r μ' => r = some (.int (lmX c)) ∧ μ' = μ) := by
  obtain ⟨D, rfl⟩ : ∃ E, D = E + 1 := ⟨D - 1, by omega⟩
  refine m2_MTs.intro (ls := [.ref 1000, .int c, .int 0]) (by decide +kernel) rfl (ble rfl) (fun κ hs => ?_)
  have h := hs.rl
  have hB := h.b
  refine m2_aload_n hB dJ0_indexOf_7cf53_0 rfl ?_
  refine m2_invT hs.bs dJ0_indexOf_7cf53_1 mv_J0_492 (as := []) (st := []) rfl (by decide) rfl (S_isLatin1 μ) (fun r μ' hr hq => ?_)
  obtain ⟨e1, e2⟩ := hq
  subst e1
  have e2 := e2.symm
  subst e2
  refine m2_if_eq hB dJ0_indexOf_7cf53_4 (tgt := 23) (by decide) (fun q => absurd q (by decide)) (fun _ => ?_)
  refine m2_aload_n hB dJ0_indexOf_7cf53_7 rfl ?_
  refine m2_getV hs.bs dJ0_indexOf_7cf53_8 ?_
  refine m2_iload_n hB dJ0_indexOf_7cf53_11 rfl ?_
  refine m2_iload_n hB dJ0_indexOf_7cf53_12 rfl ?_
  refine m2_aload_n hB dJ0_indexOf_7cf53_13 rfl ?_
  refine m2_invT hs.bs dJ0_indexOf_7cf53_14 mv_J0_505 (as := []) (st := [.int 0, .int c, .ref 1001]) rfl (ble rfl) rfl (S_lengthS (by omega) μ) (fun r μ' hr hq => ?_)
  obtain ⟨e1, e2⟩ := hq
  subst e1
  have e2 := e2.symm
  subst e2
  refine m2_invSs hs.bs dJ0_indexOf_7cf53_17 ms_J0_637 (as := [.ref 1001, .int c, .int 0, .int 6]) (st := []) rfl (by decide) rfl (S_indexOfL (by omega) c μ) (fun r μ' hr hq => ?_)
  obtain ⟨e1, e2⟩ := hq
  subst e1
  have e2 := e2.symm
  subst e2
  refine m2_goto hB dJ0_indexOf_7cf53_20 (tgt := 36) (by decide) ?_
  exact m2_iret h dJ0_indexOf_7cf53_36 ⟨rfl, rfl⟩
theorem S_indexOf {D : Nat} (hD : 3 ≤ D) (c : Int32) (μ : m2M) : m2_MTs D yJ0_indexOf_0f7a4 cJ0_indexOf_0f7a4 2 (some .int) [.ref 1000, .int c] μ (fun r μ' => r = some (.int (lmX c)) ∧ μ' = μ) := by
  obtain ⟨D, rfl⟩ : ∃ E, D = E + 1 := ⟨D - 1, by omega⟩
  refine m2_MTs.intro (ls := [.ref 1000, .int c]) (by decide +kernel) rfl (ble rfl) (fun κ hs => ?_)
  have h := hs.rl
  have hB := h.b
  refine m2_aload_n hB dJ0_indexOf_0f7a4_0 rfl ?_
  refine m2_iload_n hB dJ0_indexOf_0f7a4_1 rfl ?_
  refine m2_iconst hB dJ0_indexOf_0f7a4_2 (v := 0) (by decide) ?_
  refine m2_invT hs.bs dJ0_indexOf_0f7a4_3 mv_J0_633 (as := [.int c, .int 0]) (st := []) rfl (by decide) rfl (S_indexOf2 (by omega) c μ) (fun r μ' hr hq => ?_)
  obtain ⟨e1, e2⟩ := hq
  subst e1
  have e2 := e2.symm
  subst e2
  exact m2_iret h dJ0_indexOf_0f7a4_6 ⟨rfl, rfl⟩
