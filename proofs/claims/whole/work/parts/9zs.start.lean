/-! THE LAW FROM ITS ENTRY: the two constructors, then the loop (what stands ahead of whole_start is the kit's skeleton) -/
def R_law : String := "ClosesAfterSeventhLaw"
def lw_P (b : Addr) (xs : List Int32) (args : Array Value) (s : State) : Prop := args = #[.ref b] ∧ s.IntsAt b xs ∧ xs.length ≤ 3584 ∧ (Jvm.Cond.and given_1 narrow_1).before args s = true
def lw_Q (_ : Array Value) (s : State) (o : Outcome) (t : State) : Prop := o = .returned (some (.int 1)) ∧ Framed s o t [] 601024 7293034
def lw_Z (below : List Frame) (a : Array Value) (s : State) : State → Prop := fun t => ∃ o, t.status = .running ∧ Ended t below o ∧ lw_Q a s o t
/-- the law's own end, with 1 on the stack, nothing written that was there before, its room as the claim has it -/
theorem lw_ret {p : Program} {l : Launch} {e : Env} {s : State} {m : MethodId} {below : List Frame} {meth : Method} {c : Code} {b : Nat} (hx : p.tables.exec = Jvm.exec) (hb : c.code = code) (hr : meth.sig.returnType = ret) (hlocks : meth.locks = false) {pc : Nat} {H : Heap} {ls : Array Slot} (hdg : decode code pc = .ok (.ireturn, 1)) : W p l e room_1 s m #[Value.ref b] below meth c H [] 601024 7293034 (lw_Z below #[Value.ref b] s) (F0 m pc ls [.int 1]) := by
  intro T hT X
  obtain ⟨fs, hret, hrun, hended, hW, hframe⟩ := X.leave (v := some (.int 1)) (hlocks := hlocks) (fun h => by rw [hr] at h; cases h)
  have hmeth' : T.vm.method? m = some meth := X.method'
  refine ⟨T.setFrames fs, ?_, .returned (some (.int 1)), hrun, hended, rfl, ⟨_, rfl⟩, hW, hframe⟩
  jvm_step X.here [X.here.top, hx, hb, hdg, hmeth', hr, ret, narrow_b1]
  (try refine ⟨rfl, ?_⟩); (try refine ⟨rfl, ?_⟩)
  first | (intro acts; rw [hret _ acts rfl rfl rfl]) | rw [hret _ _ rfl rfl rfl]
  exact Steps.refl _
/-- what holds at the law's entry: the machine, the code, the tables' words (any of lw_tbl by 'hts w (by decide +kernel)'), the script of L ints xs at the cell b, what the Statement gives of the start (any of its parts by flat_of_before) -/
def lw_At (p : Program) (s : State) (m : MethodId) (meth : Method) (c : Code) (b L : Nat) (xs : Nat → Int32) : Prop :=
  p.tables.exec = Jvm.exec ∧ c.code = code ∧ meth.sig.returnType = ret ∧ c.maxLocals = 8 ∧ s.vm.findClass R_law = some m.cls ∧ (∀ w ∈ lw_tbl, w.before #[Value.ref b] s = true) ∧ va_X b L xs s s.heap ∧ b < s.heap.size ∧ meth.locks = false ∧ (Jvm.Cond.and given_1 narrow_1).before #[Value.ref b] s = true
theorem dL_law_0 : decode code 0 = .ok (.new 8, 3) := by decide +kernel
theorem dL_law_3 : decode code 3 = .ok (.dup, 1) := by decide +kernel
theorem dL_law_4 : decode code 4 = .ok (.invokespecial 22, 3) := by decide +kernel
theorem dL_law_7 : decode code 7 = .ok (.astore_n 1, 1) := by decide +kernel
theorem dL_law_8 : decode code 8 = .ok (.new 23, 3) := by decide +kernel
theorem dL_law_11 : decode code 11 = .ok (.dup, 1) := by decide +kernel
theorem dL_law_12 : decode code 12 = .ok (.invokespecial 25, 3) := by decide +kernel
theorem dL_law_15 : decode code 15 = .ok (.astore_n 2, 1) := by decide +kernel
theorem dL_law_16 : decode code 16 = .ok (.iconst 1, 1) := by decide +kernel
theorem dL_law_17 : decode code 17 = .ok (.newarray .long, 2) := by decide +kernel
theorem dL_law_19 : decode code 19 = .ok (.astore_n 3, 1) := by decide +kernel
theorem dL_law_20 : decode code 20 = .ok (.iconst 0, 1) := by decide +kernel
theorem dL_law_21 : decode code 21 = .ok (.istore 4, 2) := by decide +kernel
theorem dL_law_1734 : decode code 1734 = .ok (.iconst 1, 1) := by decide +kernel
theorem dL_law_1735 : decode code 1735 = .ok (.ireturn, 1) := by decide +kernel
/-- the making: from the entry to the loop's head -/
theorem lw_make {κ : Nat → List Value → List Value → List m3C → Prop} {nm : String} (hB : m3_B κ code RL nm 8 421 wF.length (m3_sl wF)) (k : κ 23 [.ref 1002, .ref 0, .ref 185, .ref 227, .int 0, .null, .null, .null] [] wF) : κ 0 [.ref 1002, .null, .null, .null, .null, .null, .null, .null] [] [] := by
  refine m3_newO hB (C := RX11) (ci := 11) (N := 20) (vs := dfX11) (c1 := 0) kl_X11 cl_L_8 (by decide +kernel) dL_law_0 ?_
  refine m3_dup hB dL_law_3 rfl ?_
  refine m3_to (μ' := wA_X11) (by decide +kernel) ?_
  refine m3_inv (d := 420) hB (c0 := 0) (as := []) dL_law_4 ji_L_22 rfl (by decide) rfl (by decide +kernel) (by decide +kernel) (by decide +kernel) (by decide +kernel) (K_X11 (d := 417)) ?_
  refine m3_astore_n hB dL_law_7 rfl (ls' := [.ref 1002, .ref 0, .null, .null, .null, .null, .null, .null]) (by decide) rfl ?_
  refine m3_newO hB (C := RX12) (ci := 12) (N := 71) (vs := dfX12) (c1 := 185) kl_X12 cl_L_23 (by decide +kernel) dL_law_8 ?_
  refine m3_dup hB dL_law_11 rfl ?_
  refine m3_to (μ' := wA_X12) (by decide +kernel) ?_
  refine m3_inv (d := 420) hB (c0 := 185) (as := []) dL_law_12 ji_L_25 rfl (by decide) rfl (by decide +kernel) (by decide +kernel) (by decide +kernel) (by decide +kernel) (K_X12 (d := 419)) ?_
  refine m3_astore_n hB dL_law_15 rfl (ls' := [.ref 1002, .ref 0, .ref 185, .null, .null, .null, .null, .null]) (by decide) rfl ?_
  refine m3_iconst hB dL_law_16 (v := 1) (by decide) ?_
  refine m3_newJ hB (N := 1) (c1 := 227) (by decide +kernel) (by decide) dL_law_17 ?_
  refine m3_astore_n hB dL_law_19 rfl (ls' := [.ref 1002, .ref 0, .ref 185, .ref 227, .null, .null, .null, .null]) (by decide) rfl ?_
  refine m3_iconst hB dL_law_20 (v := 0) (by decide) ?_
  refine m3_istore hB dL_law_21 (ls' := [.ref 1002, .ref 0, .ref 185, .ref 227, .int 0, .null, .null, .null]) (by decide) rfl ?_
  exact k
theorem wF_len : wF.length = 228 := by decide +kernel
theorem wF_sl : m3_sl wF ≤ 10000 := by decide +kernel
/-- THE LAW, from its entry -/
theorem whole_start {p : Program} {e : Env} {s : State} {m : MethodId} {below : List Frame} {meth : Method} {c : Code} (l : Launch) (hst : l.stackTraces = false) {b L : Nat} {xs : Nat → Int32} (hL : L ≤ 3584) (C0 : lw_At p s m meth c b L xs) : W p l e room_1 s m #[Value.ref b] below meth c s.heap [] 0 0 (lw_Z below #[Value.ref b] s) (entryFrame m ([Value.ref b] : List Value).toArray 8) := by
  obtain ⟨hx, hb, hr, hml, hown, hts, hX, hbl, hlocks, hgv⟩ := C0
  have hw : ∀ w ∈ m2_WS, w.before #[Value.ref b] s = true := fun w h => hts w (List.mem_filter.mp h).1
  have hs := flat_of_before _ hgv
  obtain ⟨D, dA, hK⟩ := lw_known hts
  have hA0 : ∀ a : Nat, a < s.heap.size → ¬ (fun q : Nat => s.heap.size ≤ q) a := fun a h q => Nat.not_le.mpr h q
  obtain ⟨sa, sv, z1, z2, z3, z4, z5⟩ := lw_str (A := fun q : Nat => s.heap.size ≤ q) hts hgv hA0
  have z6 : va_Z "java/lang/String" "COMPACT_STRINGS" "Z" (.int 1) (fun q : Nat => s.heap.size ≤ q) s s.heap := va_Zof (args := #[Value.ref b]) (hts _ (by decide +kernel)) (hts _ (by decide +kernel)) (va_eqt (hs _ (by decide +kernel))) hA0
  obtain ⟨ad, had⟩ : ∃ ad : Nat → Nat, ad = fun k => if k < 1000 then s.heap.size + k else if k = 1000 then sa else if k = 1001 then sv else b := ⟨_, rfl⟩
  obtain ⟨ad2, had2⟩ : ∃ ad2 : Nat → Nat, ad2 = fun k => if k < 228 then s.heap.size + offc k else ad k := ⟨_, rfl⟩
  have hj : m3_ad s.heap.size ad := fun k hk => by rw [had]; exact if_pos hk
  have e2 : ∀ k, k < 228 → ad2 k = s.heap.size + offc k := fun k hk => by rw [had2]; exact if_pos hk
  have e3 : ∀ k, k < 228 → ad2 k = ad (offc k) := fun k hk => by rw [e2 k hk, hj _ (Nat.lt_trans (offc_lt hk) (by decide))]
  have a0 : ad 1000 = sa := by rw [had]; rfl
  have a1 : ad 1001 = sv := by rw [had]; rfl
  have a2 : ad 1002 = b := by rw [had]; rfl
  have b0 : ad2 1000 = sa := by rw [had2]; exact a0
  have b1 : ad2 1001 = sv := by rw [had2]; exact a1
  have b2 : ad2 1002 = b := by rw [had2]; exact a2
  have hA2 : ∀ q, m2_A ad2 s.heap.size q → s.heap.size ≤ q := by
    intro q hq
    rcases hq with ⟨c, hc, rfl⟩ | h
    · rw [e2 c hc]
      omega
    · exact h
  have hinj : m2_inj ad2 := fun i j hi hj e => by
    rw [e2 i hi, e2 j hj] at e
    exact offc_inj hi hj (by omega)
  have hnA : ∀ a : Nat, a < s.heap.size → ¬ m2_A ad2 s.heap.size a := fun a h q => absurd (hA2 a q) (by omega)
  have hStr : m2_Str ad2 s := by
    unfold m2_Str
    rw [b0, b1]
    exact ⟨z1, z2.narrow hA2, z3.narrow hA2, z4.narrow hA2, z5.narrow hA2, z6.narrow hA2⟩
  have hG : th_G ad2 s := lw_thG hts hgv hnA
  have hl := lv_entry ([.ref b]) (n := 8) (Nat.le_of_ble_eq_true rfl)
  rw [lg_entry_eq]
  generalize (lg_sl ([.ref b]) ++ List.replicate (8 - (lg_sl ([.ref b])).length) Slot.unset).toArray = la at hl ⊢
  have hl : lv_has la 8 [(0, .ref b)] := hl
  have hl0 : m2_lv ad 8 [.ref 1002, .null, .null, .null, .null, .null, .null, .null] la := by
    refine ⟨rfl, hl.1, hl.2.1, fun i v hi hn => ?_⟩
    match i, hi with
    | 0, hi =>
      cases hi
      show la[0]? = some (.val (.ref (ad 1002)))
      rw [a2]
      exact hl.2.2 (0, .ref b) List.mem_cons_self
    | 1, hi => cases hi; exact absurd rfl hn
    | 2, hi => cases hi; exact absurd rfl hn
    | 3, hi => cases hi; exact absurd rfl hn
    | 4, hi => cases hi; exact absurd rfl hn
    | 5, hi => cases hi; exact absurd rfl hn
    | 6, hi => cases hi; exact absurd rfl hn
    | 7, hi => cases hi; exact absurd rfl hn
    | i + 8, hi => cases hi
  obtain ⟨sF, hsF⟩ : ∃ sF : Nat, sF = m3_sl wF := ⟨_, rfl⟩
  have hsF1 : sF ≤ 10000 := by rw [hsF]; exact wF_sl
  have hLW : m2_LW (fun n => m2_J 8 p l e room_1 s m #[Value.ref b] below meth c D dA ad2 (228 + n) (sF + 6 * n) (lw_Z below #[Value.ref b] s)) 512 421 L xs := by
    refine ⟨p, l, e, room_1, s, m, #[Value.ref b], below, meth, c, D, dA, ad2, 228, sF, lw_Z below #[Value.ref b] s, ⟨hx, hb, hml, hown, hw, hK.1, hinj, hlocks, by decide, by decide, by decide, ?_⟩, hst, hG, hStr, by rw [b2]; exact hX, by rw [b2]; exact hbl, by rw [b2]; exact hnA b hbl, rfl⟩
    show sF + 6 * 512 ≤ 7293034
    omega
  have hB : m3_B (m3_J 8 0 0 s.heap.size p l e room_1 s m #[Value.ref b] below meth c D dA ad (lw_Z below #[Value.ref b] s)) code RL meth.name 8 421 wF.length (m3_sl wF) := by
    refine ⟨p, l, e, room_1, s, m, #[Value.ref b], below, meth, c, D, dA, ad, 0, 0, s.heap.size, lw_Z below #[Value.ref b] s, ⟨hx, hb, hml, hown, hw, hK, hj, hlocks, by decide, by decide, ?_, ?_, Nat.le_refl _, rfl⟩, rfl⟩
    · rw [wF_len]
      decide
    · exact Nat.le_trans wF_sl (by decide)
  refine lw_make hB ?_ s.heap [] la 0 0 ⟨fun k q h => by simp [m3_ws] at h, rfl, rfl, rfl⟩ va_S.rf hl0
  intro H locs la1 cn sn hP hS hl1
  obtain ⟨hP, hz, hc, hsn⟩ := hP
  have hcn : cn = 228 + 0 := by rw [wF_len] at hc; omega
  have h6 : sF + 6 * 0 = sF := by omega
  have hsn : sn = sF + 6 * 0 := by rw [h6, hsF]; exact hsn
  rw [hcn, hsn]
  have fin : ∀ (n i : Nat) (μ' : m2M), n ≤ 512 → m2_J 8 p l e room_1 s m #[Value.ref b] below meth c D dA ad2 (228 + n) (sF + 6 * n) (lw_Z below #[Value.ref b] s) 1734 [.ref 1002, .ref kC, .ref kM, .ref kOut, .int (nI i), .null, .null, .null] [] μ' := by
    intro n i μ' hn
    refine m2_iconst (hLW.b (n := n) hn) dL_law_1734 (v := 1) (by decide) ?_
    intro H locs la hP hS hl
    refine lw_fresh (fun z hz => hA2 _ (hS.2.2 z hz)) ?_
    refine W.widen (k := 601024) (n := 7293034) (by omega) (by omega) ?_
    exact lw_ret hx hb hr hlocks dL_law_1735
  refine LW_loop (D := 420) hLW hL (Nat.le_refl _) fin 512 0 0 mu0 REL_mu0 (Nat.zero_le _) (by omega) (Nat.le_refl _) H locs la1 (m3_world e3 hP) ⟨hS.1, fun q h1 _ => hS.2.1 q h1 (by show ¬ s.heap.size ≤ q; omega), fun z hz => Or.inr (hS.2.2 z hz)⟩ ⟨rfl, hl1.2.1, hl1.2.2.1, fun i v hi hn => ?_⟩
  match i, hi with
  | 0, hi =>
    cases hi
    have := hl1.2.2.2 0 (.ref 1002) rfl (by simp)
    rw [show m2_rv ad (.ref 1002) = .ref (ad 1002) from rfl, a2] at this
    show la1[0]? = some (.val (.ref (ad2 1002)))
    rw [b2]
    exact this
  | 1, hi =>
    cases hi
    have := hl1.2.2.2 1 (.ref 0) rfl (by simp)
    show la1[1]? = some (.val (.ref (ad2 0)))
    rw [e3 0 (by decide)]
    exact this
  | 2, hi =>
    cases hi
    have := hl1.2.2.2 2 (.ref 185) rfl (by simp)
    show la1[2]? = some (.val (.ref (ad2 65)))
    rw [e3 65 (by decide)]
    exact this
  | 3, hi =>
    cases hi
    have := hl1.2.2.2 3 (.ref 227) rfl (by simp)
    show la1[3]? = some (.val (.ref (ad2 227)))
    rw [e3 227 (by decide)]
    exact this
  | 4, hi =>
    cases hi
    exact hl1.2.2.2 4 (.int 0) rfl (by simp)
  | 5, hi => cases hi; exact absurd rfl hn
  | 6, hi => cases hi; exact absurd rfl hn
  | 7, hi => cases hi; exact absurd rfl hn
  | i + 8, hi => cases hi
