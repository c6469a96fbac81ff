/-! making: new arrays, new objects, fields, calls of constructors -/
theorem m3_push {D : va_G} {dA : Nat → ClassId} {ad : Nat → Nat} {wl : List m3C} {bs : Nat} {H H1 : Heap} {q : m3C} (ha : m3_ad bs ad) (hl : wl.length < 1000) (hP : va_P D vwCl (m3_ws dA ad wl) H) (hz : H.size = bs + wl.length) (hk : ∀ x : Nat, x < H.size → H1[x]? = H[x]?) (hn : va_at D vwCl (H.size, m3_e dA ad q) H1) : va_P D vwCl (m3_ws dA ad (wl ++ [q])) H1 := by
  rw [m3_ws_app, show ad wl.length = H.size by rw [ha _ hl, hz]]
  refine va_P.app (hP.kept (fun k x hx => hk x.1 ((hP k x hx).lt))) (fun k x hx => ?_)
  have hz : k < 1 := (List.getElem?_eq_some_iff.mp hx).1
  rw [show k = 0 by omega] at hx
  cases hx
  exact hn
theorem m3_S {A : Nat → Prop} {H0 H H1 : Heap} {locs : List Loc} (hS : va_S A H0 H locs) (hz : H.size ≤ H1.size) (hk : ∀ x : Nat, x < H.size → H1[x]? = H[x]?) : va_S A H0 H1 locs :=
  ⟨Nat.le_trans hS.1 hz, fun x h1 h2 => (hk x (Nat.lt_of_lt_of_le h1 hS.1)).trans (hS.2.1 x h1 h2), hS.2.2⟩
/-- a class whose objects are made: its number, its places, what a new one holds -/
def m3_CL (C : String) (ci N : Nat) (vs : List (Nat × Int32)) : Prop := ∃ (T : u_T) (ty0 : Nat → FieldType), vwCl[ci]? = some (C, T, N) ∧ (∀ w ∈ u_ws C T N, w ∈ m2_WS) ∧ (∀ k, k < N → parseFieldDescriptor (T k).2.2.1 = some (ty0 k)) ∧ Cond.instantiable C N ∈ m2_WS ∧ Cond.initialized C ∈ m2_WS ∧ vs.length = N ∧ ∀ (ad : Nat → Nat) (j : Nat), j < N → defaultValue (ty0 j) = vp_V (vs.map (m3_v ad)) j
section M3N
variable {κ : Nat → List Value → List Value → List m3C → Prop} {cc : ByteArray} {own nm : String} {nL d mt ss pc : Nat} {ls ls' st stk : List Value} {μ : List m3C}
theorem m3_newa (h : m3_B κ cc own nm nL d mt ss) {aty : ArrayType} {ty : FieldType} {t N : Nat} {n : Int32} (hty : newarray.typeOf aty = ty) (ht : ∀ dA : Nat → ClassId, (m2_tys dA)[t]? = some (dA t, ty)) (hRA : ∀ (U : State) (cA : ClassId), va_RA U cA ty → U.vm.findClass ("[" ++ ty.toString) = some cA) (hw0 : Cond.arrayClass ty ∈ m2_WS) (ha0 : ∀ (ad : Nat → Nat) (cA : ClassId), vp_cell cA (N, m3_a ad t []) = arrV cA N (fun _ => defaultValue ty)) (hn : ¬ n < 0) (hN : n.toNatClampNeg = N) (hby : N * componentBytes ty ≤ 536870912) (h1 : μ.length + 1 ≤ mt) (h2 : m3_sl μ + N ≤ ss) (h3 : μ.length < 1000) (hd : decode cc pc = .ok (.newarray aty, 2))
    (k : κ (pc + 2) ls (.ref μ.length :: st) (μ ++ [(t + 1, N, [])])) : κ pc ls (.int n :: st) μ := by
  obtain ⟨p, l, e, R, s, m, args, below, meth, c, D, dA, ad, n0, s0, bs, Z, ⟨hx, hb, hml, ho, hw, hK, hj, hk, hfr, hlo, hce, hsl, hbs, hnm⟩, rfl⟩ := h
  intro H locs la cn sn hP hS hl
  obtain ⟨hP, hz, hc, hs⟩ := hP
  subst hty
  refine va_newaK hx hb (hw _ hw0) rfl hd rfl hn hN hby (by omega) (by omega) rfl fun H1 cA e1 z1 o1 hAr hNm => ?_
  have hcA : cA = dA t := Option.some.inj (hNm.symm.trans (hRA _ _ (hK.1.1.2 t _ (ht dA)).2))
  subst hcA
  have e0 : ad μ.length = H.size := by rw [hj _ h3, hz]
  have k1 := k H1 locs la (cn + 1) (sn + N) ⟨m3_push hj h3 hP hz o1 (by show H1[H.size]? = some (vp_cell _ _); rw [ha0]; exact e1), by rw [z1, hz, List.length_append]; rfl, by rw [List.length_append]; show cn + 1 + n0 = μ.length + 1; omega, by rw [m3_sl_app]; show sn + N + s0 = m3_sl μ + N; omega⟩ (m3_S hS (by omega) o1) hl
  rw [List.map_cons, show m2_rv ad (.ref μ.length) = .ref H.size from congrArg Value.ref e0] at k1
  exact k1
theorem m3_new (h : m3_B κ cc own nm nL d mt ss) {C : String} {ci N idx : Nat} {vs : List (Nat × Int32)} (hC : m3_CL C ci N vs) (hl0 : Cond.classLink own idx C ∈ m2_WS) (h1 : μ.length + 1 ≤ mt) (h2 : m3_sl μ + N ≤ ss) (h3 : μ.length < 1000) (hd : decode cc pc = .ok (.new idx, 3))
    (k : κ (pc + 3) ls (.ref μ.length :: st) (μ ++ [(0, ci, vs)])) : κ pc ls st μ := by
  obtain ⟨p, l, e, R, s, m, args, below, meth, c, D, dA, ad, n0, s0, bs, Z, ⟨hx, hb, hml, ho, hw, hK, hj, hk, hfr, hlo, hce, hsl, hbs, hnm⟩, rfl⟩ := h
  intro H locs la cn sn hP hS hl
  obtain ⟨hP, hz, hc, hs⟩ := hP
  obtain ⟨T, ty0, c1, c2, c3, c4, c5, c6, c7⟩ := hC
  have hKn := hK.1.1.1 ci _ c1
  refine W.newcK hx hb ho (hw _ hl0) (hw _ c4) (hw _ c5) rfl hd (by omega) (by omega) hKn.2.1 rfl fun H1 kC hkC e1 z1 o1 => ?_
  have e0 : ad μ.length = H.size := by rw [hj _ h3, hz]
  have k1 := k H1 locs la (cn + 1) (sn + N) ⟨m3_push hj h3 hP hz o1 ⟨_, c1, (u_born ty0 hw c2 hKn hkC e1 c3).to (c7 ad)⟩, by rw [z1, hz, List.length_append]; rfl, by rw [List.length_append]; show cn + 1 + n0 = μ.length + 1; omega, by rw [m3_sl_app]; show sn + N + s0 = m3_sl μ + vs.length; omega⟩ (m3_S hS (by omega) o1) hl
  rw [List.map_cons, show m2_rv ad (.ref μ.length) = .ref H.size from congrArg Value.ref e0] at k1
  exact k1
theorem m3_anew (h : m3_B κ cc own nm nL d mt ss) {N idx : Nat} {n : Int32} (hl0 : Cond.classLink own idx "ClosesAfterSeventh$Kept" ∈ m2_WS) (hn : ¬ n < 0) (hN : n.toNatClampNeg = N) (hby : N * 4 ≤ 536870912) (h1 : μ.length + 1 ≤ mt) (h2 : m3_sl μ + N ≤ ss) (h3 : μ.length < 1000) (hd : decode cc pc = .ok (.anewarray idx, 3))
    (k : κ (pc + 3) ls (.ref μ.length :: st) (μ ++ [(6, N, List.replicate N (1, 0))])) : κ pc ls (.int n :: st) μ := by
  obtain ⟨p, l, e, R, s, m, args, below, meth, c, D, dA, ad, n0, s0, bs, Z, ⟨hx, hb, hml, ho, hw, hK, hj, hk, hfr, hlo, hce, hsl, hbs, hnm⟩, rfl⟩ := h
  intro H locs la cn sn hP hS hl
  obtain ⟨hP, hz, hc, hs⟩ := hP
  subst hN
  refine W.anew hx hb ho (hw _ hl0) (va_AO.use hK.2.1) rfl hd rfl hn hby (by omega) (by omega) fun cA kA comp f1 f2 f3 f4 => ?_
  obtain ⟨kA', comp', g1, g2, g3, g4⟩ := (hK.1.1.2 5 (dA 5, .object "ClosesAfterSeventh$Kept") rfl).2
  have hcA : cA = dA 5 := Option.some.inj (f1.symm.trans g4)
  subst hcA
  generalize hH1 : H.push ({ cls := dA 5, slots := Array.replicate n.toNatClampNeg .null, vm := .none } : Cell) = H1
  have z1 : H1.size = H.size + 1 := by rw [← hH1, Array.size_push]
  have e1 : H1[H.size]? = some (arrV (dA 5) n.toNatClampNeg (fun _ => .null)) := by rw [← hH1, Array.getElem?_push_size, ← arrV_new]
  have o1 : ∀ q : Nat, q < H.size → H1[q]? = H[q]? := fun q hq => by rw [← hH1, Array.getElem?_push, if_neg (Nat.ne_of_lt hq)]
  have e0 : ad μ.length = H.size := by rw [hj _ h3, hz]
  have ef : (fun j : Nat => ((List.replicate n.toNatClampNeg ((1, 0) : Nat × Int32))[j]?).bind (m3_o ad)) = fun _ => none := by
    funext j
    by_cases hj0 : j < n.toNatClampNeg
    · rw [List.getElem?_replicate, if_pos hj0]; rfl
    · rw [List.getElem?_replicate, if_neg hj0]; rfl
  have k1 := k H1 locs la (cn + 1) (sn + n.toNatClampNeg) ⟨m3_push hj h3 hP hz o1 (by
      show H1[H.size]? = some (vp_cell (dA 5) (n.toNatClampNeg, .inr (.inr (.inr (.inr (fun j : Nat => ((List.replicate n.toNatClampNeg ((1, 0) : Nat × Int32))[j]?).bind (m3_o ad)))))))
      rw [ef, vp_cell_q]
      exact e1), by rw [z1, hz, List.length_append]; rfl, by rw [List.length_append]; show cn + 1 + n0 = μ.length + 1; omega, by rw [m3_sl_app]; show sn + n.toNatClampNeg + s0 = m3_sl μ + n.toNatClampNeg; omega⟩ (m3_S hS (by omega) o1) hl
  rw [List.map_cons, show m2_rv ad (.ref μ.length) = .ref H.size from congrArg Value.ref e0] at k1
  exact k1
/-- a field is put: what the world is then -/
theorem m3_after {D : va_G} {dA : Nat → ClassId} {ad : Nat → Nat} {bs c0 ci kf N : Nat} {C : String} {T : u_T} {vs : List (Nat × Int32)} {q : Nat × Int32} {H H1 : Heap} {cell : Cell} (ha : m3_ad bs ad) (hlen : μ.length ≤ 1000) (hP : va_P D vwCl (m3_ws dA ad μ) H) (h0 : μ[c0]? = some (0, ci, vs)) (hc : vwCl[ci]? = some (C, T, N)) (hkf : kf < N) (hkv : kf < vs.length) (hap : ∀ x y, x < N → y < N → x ≠ y → (D.2 ci) x ≠ (D.2 ci) y) (q2 : cell.cls = D.1 ci) (q3 : cell.vm = .none) (q4 : ∀ k, k < N → cell.slots[D.2 ci k]? = some (vp_V (vs.map (m3_v ad)) k)) (e1 : H1[ad c0]? = some (cell.setSlot (D.2 ci kf) (m3_v ad q))) (e3 : ∀ x, x ≠ ad c0 → H1[x]? = H[x]?) : va_P D vwCl (m3_ws dA ad (μ.set c0 (0, ci, vs.set kf q))) H1 := by
  rw [← m3_ws_set]
  refine hP.set (m3_D ha hlen) (m3_ws_get h0) ?_ e3
  show ∃ r : vw_C, vwCl[ci]? = some r ∧ t_OB (ad c0) (D.1 ci) r.2.2 (D.2 ci) H1 (vp_V ((vs.set kf q).map (m3_v ad)))
  refine ⟨_, hc, t_OB.to (V := updV (vp_V (vs.map (m3_v ad))) kf (m3_v ad q)) ⟨_, e1, q2, q3, t_set q4 hap hkf (m3_v ad q)⟩ (fun j _ => ?_)⟩
  rw [List.map_set]
  exact vp_updV_set (by rw [List.length_map]; exact hkv) (m3_v ad q) j
theorem m3_putF (h : m3_B κ cc own "<init>" nL d mt ss) {idx ci kf c0 c1 : Nat} {ty : FieldType} {vs : List (Nat × Int32)} (hd : decode cc pc = .ok (.putfield idx, 3)) (hF : m2_FL own idx ci kf ty true) (hdecl : ∀ (C : String) (T : u_T) (N : Nat), vwCl[ci]? = some (C, T, N) → (T kf).1 = own) (hfit : ∀ a : Nat, narrow ty (.ref a) = .ref a ∧ fits ty (.ref a) = true) (h0 : μ[c0]? = some (0, ci, vs)) (hkv : kf < vs.length) (hlen : μ.length ≤ 1000)
    (k : κ (pc + 3) ls st (μ.set c0 (0, ci, vs.set kf (c1 + 2, 0)))) : κ pc ls (.ref c1 :: .ref c0 :: st) μ := by
  obtain ⟨p, l, e, R, s, m, args, below, meth, c, D, dA, ad, n0, s0, bs, Z, ⟨hx, hb, hml, ho, hw, hK, hj, hk, hfr, hlo, hce, hsl, hbs, hnm⟩, rfl⟩ := h
  intro H locs la cn sn hP hS hl
  obtain ⟨hP, hz, hc, hs⟩ := hP
  obtain ⟨C, T, N, ty0, f1, f2, f3, f4, f5, f6, f7, f8⟩ := hF
  have hap := va_apart (own := own) hw f4 ty0 f5 f6 hK.1.1 f1
  obtain ⟨r, g1, cell, q1, q2, q3, q4⟩ := hP c0 _ (m3_ws_get h0)
  have hr : r = (C, T, N) := Option.some.inj (g1.symm.trans f1)
  subst hr
  obtain ⟨hSl, hfc, kC, hkC, hkind⟩ := hK.1.1.1 ci _ f1
  obtain ⟨cf, kf1, fi, f, hi, hsl1⟩ := hSl kf f2
  have hlay := hw _ (f4 _ (u_in_lay f2))
  unfold u_lay at hlay
  rw [if_pos f7] at hlay
  have hst := (u_facts hfc hkC (u_lays hw f4 f2) hi).1
  have hcf : m.cls = cf := by
    obtain ⟨_, _, c', _, _, _, -, -, hf', -, -, -, hown2, -⟩ := Cond.laysFinal_spec hlay
    have e1 : c' = cf := by have := hi.symm.trans hf'; simp at this; exact this.1.symm
    rw [hdecl C T N f1] at hown2
    rw [← e1]; exact Option.some.inj (ho.symm.trans hown2)
  have h6 := u_fits hfc hkC hkind (Or.inr hlay) hi (ty := ty) (by rw [f5 kf f2, f8]) (hfit (ad c1)).1 (hfit (ad c1)).2
  refine W.putFinK hx hb ho (hw _ f3) hi hst hcf hnm (by rw [q2]; exact h6) q1 q3 (by rw [hsl1]; exact k2_hasslot (q4 kf f2)) rfl rfl hd fun H1 e1 e2 e3 => ?_
  rw [hsl1] at e1
  have hlt := m3_lt h0
  refine k H1 _ la cn sn ⟨m3_after hj hlen hP h0 f1 f2 hkv hap q2 q3 q4 (q := (c1 + 2, 0)) e1 e3, by rw [e2, hz, List.length_set], by rw [List.length_set]; exact hc, by rw [m3_sl_set h0 (by show (vs.set _ _).length = vs.length; rw [List.length_set])]; exact hs⟩ (hS.put e2 e3 (by show bs ≤ ad c0; rw [hj c0 (by omega)]; omega)) hl
theorem m3_putI (h : m3_B κ cc own nm nL d mt ss) {idx ci kf c0 : Nat} {x : Int32} {vs : List (Nat × Int32)} (hd : decode cc pc = .ok (.putfield idx, 3)) (hF : m2_FL own idx ci kf .int false) (h0 : μ[c0]? = some (0, ci, vs)) (hkv : kf < vs.length) (hlen : μ.length ≤ 1000)
    (k : κ (pc + 3) ls st (μ.set c0 (0, ci, vs.set kf (0, x)))) : κ pc ls (.int x :: .ref c0 :: st) μ := by
  obtain ⟨p, l, e, R, s, m, args, below, meth, c, D, dA, ad, n0, s0, bs, Z, ⟨hx, hb, hml, ho, hw, hK, hj, hk, hfr, hlo, hce, hsl, hbs, hnm⟩, rfl⟩ := h
  intro H locs la cn sn hP hS hl
  obtain ⟨hP, hz, hc, hs⟩ := hP
  obtain ⟨C, T, N, ty0, f1, f2, f3, f4, f5, f6, f7, f8⟩ := hF
  have hap := va_apart (own := own) hw f4 ty0 f5 f6 hK.1.1 f1
  obtain ⟨r, g1, cell, q1, q2, q3, q4⟩ := hP c0 _ (m3_ws_get h0)
  have hr : r = (C, T, N) := Option.some.inj (g1.symm.trans f1)
  subst hr
  obtain ⟨hSl, hfc, kC, hkC, hkind⟩ := hK.1.1.1 ci _ f1
  obtain ⟨cf, kf1, fi, f, hi, hsl1⟩ := hSl kf f2
  have hlay := hw _ (f4 _ (u_in_lay f2))
  unfold u_lay at hlay
  rw [if_neg (by rw [f7]; decide)] at hlay
  have hst := (u_facts hfc hkC (u_lays hw f4 f2) hi).1
  have h6 := u_store hfc hkC hkind hlay hi (ty := .int) (v := .int x) (by rw [f5 kf f2, f8]) rfl rfl
  refine W.putK hx hb (f := f) ⟨ho, hw _ f3, ⟨_, _, _, hi⟩, hst⟩ (by rw [q2]; exact h6) q1 q3 (by rw [hsl1]; exact k2_hasslot (q4 kf f2)) rfl rfl hd fun H1 e1 e2 e3 => ?_
  rw [hsl1] at e1
  have hlt := m3_lt h0
  refine k H1 _ la cn sn ⟨m3_after hj hlen hP h0 f1 f2 hkv hap q2 q3 q4 (q := (0, x)) e1 e3, by rw [e2, hz, List.length_set], by rw [List.length_set]; exact hc, by rw [m3_sl_set h0 (by show (vs.set _ _).length = vs.length; rw [List.length_set])]; exact hs⟩ (hS.put e2 e3 (by show bs ≤ ad c0; rw [hj c0 (by omega)]; omega)) hl
theorem m3_getR (h : m3_B κ cc own nm nL d mt ss) {idx ci kf c0 c1 : Nat} {x : Int32} {ty : FieldType} {fin : Bool} {vs : List (Nat × Int32)} (hd : decode cc pc = .ok (.getfield idx, 3)) (hF : m2_FL own idx ci kf ty fin) (h0 : μ[c0]? = some (0, ci, vs)) (hv : vs[kf]? = some (c1 + 2, x))
    (k : κ (pc + 3) ls (.ref c1 :: st) μ) : κ pc ls (.ref c0 :: st) μ := by
  obtain ⟨p, l, e, R, s, m, args, below, meth, c, D, dA, ad, n0, s0, bs, Z, ⟨hx, hb, hml, ho, hw, hK, hj, hk, hfr, hlo, hce, hsl, hbs, hnm⟩, rfl⟩ := h
  intro H locs la cn sn hP hS hl
  obtain ⟨C, T, N, ty0, f1, f2, f3, f4, f5, f6, f7, f8⟩ := hF
  exact va_get hx hb hw f4 ho hK.1.1 hP.1 c0 (m3_ws_get h0) f1 kf f2 (hw _ f3) (fun _ q => q) (v := .ref (ad c1)) (by rw [List.getElem?_map, hv]; rfl) hd (k H locs la cn sn hP hS hl)
theorem m3_aast (h : m3_B κ cc own nm nL d mt ss) {c0 c1 N j : Nat} {i : Int32} {rs vs : List (Nat × Int32)} (hd : decode cc pc = .ok (.aastore, 1)) (h0 : μ[c0]? = some (6, N, rs)) (h1 : μ[c1]? = some (0, 3, vs)) (hrs : rs.length = N) (hin : vp_in i N) (hj0 : i.toNatClampNeg = j) (hlen : μ.length ≤ 1000)
    (k : κ (pc + 1) ls st (μ.set c0 (6, N, rs.set j (c1 + 2, 0)))) : κ pc ls (.ref c1 :: .int i :: .ref c0 :: st) μ := by
  obtain ⟨p, l, e, R, s, m, args, below, meth, c, D, dA, ad, n0, s0, bs, Z, ⟨hx, hb, hml, ho, hw, hK, hj, hk, hfr, hlo, hce, hsl, hbs, hnm⟩, rfl⟩ := h
  intro H locs la cn sn hP hS hl
  obtain ⟨hP, hz, hc, hs⟩ := hP
  have hlt : i.toNatClampNeg < N := Nat.not_le.mp fun q => hin (Or.inr q)
  have hi0 : ¬ i < 0 := fun q => hin (Or.inl q)
  obtain ⟨r', hr', cellV, g1, g2, g3, -⟩ := hP c1 _ (m3_ws_get h1)
  have hcls := (hK.1.1.1 3 _ (show vwCl[3]? = some (RX3, TX3, 8) from rfl)).2
  obtain ⟨kA, comp, k1, k2, k3, -⟩ := (hK.1.1.2 5 (dA 5, .object "ClosesAfterSeventh$Kept") rfl).2
  have hcomp : comp = D.1 3 := Option.some.inj (k3.symm.trans hcls.1)
  subst hcomp
  obtain ⟨kC, hkC, -⟩ := hcls.2
  refine W.aast hx hb (hP c0 _ (m3_ws_get h0)) (fun q h => by cases h) (fun h => by cases h) k1 k2 rfl hkC ⟨hi0, by show _ < (arrV _ _ _).slots.size; rw [arrV_size]; exact hlt⟩ g1 (fun q h => by rw [g3] at h; cases h) (by rw [g2]; exact hkC) (by rw [g2]; exact va_assign hcls) rfl rfl hd fun H1 e1 z oq => ?_
  have hl0 := m3_lt h0
  refine k H1 _ la cn sn ⟨?_, by rw [z, hz, List.length_set], by rw [List.length_set]; exact hc, by rw [m3_sl_set (q' := (6, N, rs.set j (c1 + 2, 0))) h0 rfl]; exact hs⟩ (hS.put z oq (by show bs ≤ ad c0; rw [hj c0 (by omega)]; omega)) hl
  rw [← m3_ws_set]
  refine hP.set (m3_D hj hlen) (m3_ws_get h0) ?_ oq
  show H1[ad c0]? = some (vp_cell (dA 5) (N, .inr (.inr (.inr (.inr (fun j' : Nat => ((rs.set j (c1 + 2, 0))[j']?).bind (m3_o ad)))))))
  rw [e1]
  show some ((vp_cell (dA 5) (N, .inr (.inr (.inr (.inr (fun j' : Nat => (rs[j']?).bind (m3_o ad))))))).setSlot _ _) = _
  rw [vp_cell_q, vp_cell_q, arrV_store]
  congr 2
  funext q
  by_cases hq : q = i.toNatClampNeg
  · subst hq
    subst hj0
    simp [updV, va_rf, hrs, hlt, m3_o]
  · have hq' : ¬ j = q := fun z => hq (by rw [← z]; exact hj0.symm)
    simp [updV, hq, List.getElem?_set_ne hq']
theorem m3_objInit (h : m3_B κ cc own nm nL (d + 1) mt ss) {c0 idx : Nat} (hl0 : Cond.methodLink own idx Lib.objectInit ∈ m2_WS) (hl1 : Cond.instanceMethod Lib.objectInit ∈ m2_WS) (hl2 : Cond.code Lib.objectInit ⟨#[0xb1]⟩ 1 none ∈ m2_WS) (hst : (st.map fun v => v.category).sum ≤ 8) (hd : decode cc pc = .ok (.invokespecial idx, 3)) (k : κ (pc + 3) ls st μ) : κ pc ls (.ref c0 :: st) μ := by
  obtain ⟨p, l, e, R, s, m, args, below, meth, c, D, dA, ad, n0, s0, bs, Z, ⟨hx, hb, hml, ho, hw, hK, hj, hk, hfr, hlo, hce, hsl, hbs, hnm⟩, rfl⟩ := h
  intro H locs la cn sn hP hS hl
  refine W.objInit hx hb ho (hw _ hl0) (hw _ hl1) (hw _ hl2) rfl (hl.2.1.trans hml.symm) rfl hd (by omega) ?_ (k H locs la cn sn hP hS hl)
  show 2 * 0 + ((st.map (m2_rv ad)).map fun v => v.category).sum + 12 ≤ R.locals
  rw [m2_cat]
  omega
end M3N
