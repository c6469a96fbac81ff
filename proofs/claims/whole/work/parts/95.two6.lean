/-! two -/
theorem isW2_of {c : Nat} (h : isW2 c = true) : c = kM ∨ c = kM_firstWay ∨ c = kM_secondWay ∨ c = kM_bestTwo := by
  unfold isW2 at h
  simp only [Bool.or_eq_true, beq_iff_eq] at h
  omega
theorem frW2.z {μ μ' : m2M} (h : frW2 μ μ') : frZ μ μ' := by
  refine ⟨⟨fun c j hs => ?_, fun j => by rw [h.2.1], fun j => by rw [h.2.1]⟩, fun c hc => ⟨?_, h.2.1 c⟩⟩
  · cases e : isW2 c with
    | false => rw [h.1 c e]
    | true =>
      rcases isW2_of e with rfl | rfl | rfl | rfl
      · exact h.2.2 j (fun w => by rw [w] at hs; cases hs) (fun w => by rw [w] at hs; cases hs)
      · cases hs
      · cases hs
      · cases hs
  · cases e : isW2 c with
    | false => exact h.1 c e
    | true =>
      rcases isW2_of e with rfl | rfl | rfl | rfl <;> cases hc
theorem cntB {ν μ : m2M} {n p q : Nat} (h : RLn ν μ n p) (hq : q < p) : ν.1 kM_isStranger q = (if decide (ν.1 kM_isStranger q = 0) = true then 0 else 1) := by
  rcases (h.2.1.2.2.2 q hq).2.2.2.1 with z | z
  · rw [z]; rfl
  · rw [z]; rfl
theorem toL_map (l : List Nat) : (l.map (fun r => (nI r).toInt64)).length = l.length := by simp
set_option maxHeartbeats 2000000 in
theorem T_two {D : Nat} (hD : 16 ≤ D) (μ : m2M) (h : REL μ) (x1 x2 x3 x4 : Int32) : stp D yX11_two cX11_two 8 (some .int) yX12_two cX12_two 8 (some .int) [.int x1, .int x2, .int x3, .int x4] μ REL := by
  obtain ⟨D, rfl⟩ : ∃ E, D = E + 1 := ⟨D - 1, by omega⟩
  obtain ⟨n, p, hR⟩ := id h
  have hR : RLn μ μ n p := hR
  have hp := hR.p8
  have hn := hR.n20
  by_cases hx : in_ p x1 ∧ in_ p x3 ∧ x1 ≠ x3 ∧ in_ 12 x2 ∧ in_ 12 x4
  case neg =>
    refine T_of (some (.int (-1))) μ ?_ (fun ν hv => ?_)
    · refine m2_MT.intro (ls := [.ref kC, .int x1, .int x2, .int x3, .int x4, .null, .null, .null]) (by decide +kernel) rfl (ble rfl) (fun κ hk => ?_)
      refine B_X11_two_0 hk (by omega) ⟨fun w1 => ⟨fun w2 => ⟨fun _ => ⟨rfl, hR.r, fr.rf⟩, fun w3 => ⟨fun w4 => ⟨fun w5 => absurd ⟨(fX6_has_iff hR.2.1.1 hp).mp w1, (fX6_has_iff hR.2.1.1 hp).mp w2, w3, isRoom_iff.mp w4, isRoom_iff.mp w5⟩ hx, fun _ => ⟨rfl, hR.r, fr.rf⟩⟩, fun _ => ⟨rfl, hR.r, fr.rf⟩⟩⟩, fun _ => ⟨rfl, hR.r, fr.rf⟩⟩, fun _ => ⟨rfl, hR.r, fr.rf⟩⟩
    · refine m2_MT.intro (ls := [.ref kM, .int x1, .int x2, .int x3, .int x4, .null, .null, .null]) (by decide +kernel) rfl (ble rfl) (fun κ hk => ?_)
      have e7 : (m2_si ν kM 22 0).1 kM 7 = nI p := (hv.thr.1 kM 7 rfl rfl).trans hR.2.1.2.1
      have out : (some (Value.int (-1)) : Option Value) = some (.int (-1)) ∧ vM μ (m2_si ν kM 22 0) ∧ frM ν (m2_si ν kM 22 0) := ⟨rfl, hv.thr, fr_si rfl fr.rf⟩
      exact B_X12_two_0 hk (by omega) ⟨fun w1 => ⟨fun w2 => ⟨fun _ => out, fun w3 => ⟨fun w4 => ⟨fun w5 => absurd ⟨(fX12_isOne_iff e7 hp).mp w1, (fX12_isOne_iff e7 hp).mp w2, w3, isRoomM_iff.mp w4, isRoomM_iff.mp w5⟩ hx, fun _ => out⟩, fun _ => out⟩⟩, fun _ => out⟩, fun _ => out⟩
  obtain ⟨i1, i3, hne, i2, i4⟩ := hx
  obtain ⟨one, hone, rfl⟩ := id i1
  obtain ⟨oth, hoth, rfl⟩ := id i3
  obtain ⟨g1, hg1, rfl⟩ := id i2
  obtain ⟨g2, hg2, rfl⟩ := id i4
  have hw1 := hR.hw one hone
  have hw2 := hR.hw oth hoth
  let V : tB := twV (hA μ) (hB μ) (hT μ) (hL μ) n (decide (μ.1 kM_isStranger one = 0)) (decide (μ.1 kM_isStranger oth = 0)) (hW μ one) g1 (hW μ oth) g2
  let R : Option Value × m2M := match V with
    | none => (some (.int (-2)), μ)
    | some b => (some (.int (nI b.1)), tlM μ (b.2.map (fun r => (nI r).toInt64)))
  refine T_of R.1 R.2 ?_ (fun ν hv => ?_)
  · refine m2_MT.intro (ls := [.ref kC, .int (nI one), .int (nI g1), .int (nI oth), .int (nI g2), .null, .null, .null]) (by decide +kernel) rfl (ble rfl) (fun κ hk => ?_)
    -- behind the search
    have tail : ∀ (y v5 : Int32) (M : m2M), jC μ M → stA V M → y = (match V with | none => -1 | some q => nI q.1) → ((¬ y = (-1) → ∃ Q31 : Option Value → m2M → Prop, m2_MT D yX11_tell cX11_tell 3 none [.ref kC, .long ((M.1 kA 5)).toInt64] (m2_si M kC 3 0) Q31 ∧ ∀ (μ30 : m2M), Q31 none μ30 → (κ 136 [.ref kC, .int (nI one), .int (nI g1), .int (nI oth), .int (nI g2), .int v5, .int y, .int 0] [] μ30)) ∧ (y = (-1) → (fun (r' : Option Value) μ1 => r' = R.1 ∧ REL2 R.2 μ1 ∧ frC μ μ1) (some (.int (-2))) M)) := by
      intro y v5 M hM hV hy
      have hRM := hM.R hR
      rcases e : V with _ | b
      · rw [e] at hy
        have eR : R = (some (.int (-2)), μ) := by show (match V with | none => _ | some b => _) = _; rw [e]
        rw [eR]
        have hy : y = -1 := hy
        exact ⟨fun w => absurd hy w, fun _ => ⟨rfl, hRM.r, hM.2.c⟩⟩
      · rw [e] at hy hV
        have eR : R = (some (.int (nI b.1)), tlM μ (b.2.map (fun r => (nI r).toInt64))) := by show (match V with | none => _ | some b => _) = _; rw [e]
        rw [eR] at hk ⊢
        have hy : y = nI b.1 := hy
        obtain ⟨P, Q, c1, c2, c3, c4, c5, c6, c7, c8⟩ := hV
        have hb1 : b.1 ≤ 10 := by rw [c1]; show P.length + Q.length ≤ 10; omega
        refine ⟨fun _ => ?_, fun w => absurd (hy.symm.trans w) (nI_ne_m1 (by omega))⟩
        rw [c5, hy]
        have eb2 : b.2 = (P.length :: P) ++ Q := by rw [c1]; rfl
        have l0 : ((([] : List Nat).map (fun r => (nI r).toInt64)) ++ [(nI P.length).toInt64]) = [P.length].map (fun r => (nI r).toInt64) := rfl
        refine ⟨_, S_tellC (nI P.length).toInt64 _ (l := ([] : List Nat).map (fun r => (nI r).toInt64)) rC.i (by simp), fun μ30 h30 => ?_⟩
        obtain ⟨t1, t2⟩ := h30
        rw [l0] at t1
        have t2' : twC M μ30 := twC.i.tr t2
        have fin : ∀ M', rC (b.2.map (fun r => (nI r).toInt64)) M' → twC M M' → (some (Value.int (nI b.1)) : Option Value) = some (.int (nI b.1)) ∧ REL2 (tlM μ (b.2.map (fun r => (nI r).toInt64))) M' ∧ frC μ M' := by
          intro M' hr ht
          exact ⟨rfl, REL2.tell hRM.r hr ht (by rw [toL_map, eb2]; simp; omega), ht.fr rfl rfl hM.2.c⟩
        have sec : ∀ M', rC ((P.length :: P).map (fun r => (nI r).toInt64)) M' → twC M M' → κ 172 [.ref kC, .int (nI one), .int (nI g1), .int (nI oth), .int (nI g2), .int v5, .int (nI b.1), .int 0] [] M' := by
          intro M' hr' ht'
          refine dn (n := Q.length) (G := fun i => ∀ M', rC (((P.length :: P) ++ Q.take i).map (fun r => (nI r).toInt64)) M' → twC M M' → κ 172 [.ref kC, .int (nI one), .int (nI g1), .int (nI oth), .int (nI g2), .int v5, .int (nI b.1), .int (nI i)] [] M') (fun M' hr ht => ?_) (fun i hi ih M' hr ht => ?_) M' (by rw [List.take_zero, List.append_nil]; exact hr') ht'
          · have e7 : M'.1 kA 7 = nI Q.length := by rw [ht.cc (by decide)]; exact c6
            refine B_X11_two_172 hk ⟨fun _ => fin M' ?_ ht, fun w => absurd (by rw [e7]; exact nI_le (Nat.le_refl _) (by omega)) w⟩
            rw [List.take_length] at hr
            rw [eb2]
            exact hr
          · have e7 : M'.1 kA 7 = nI Q.length := by rw [ht.cc (by decide)]; exact c6
            obtain ⟨d, ed⟩ : ∃ d, Q[i]? = some d := ⟨Q[i], List.getElem?_eq_getElem hi⟩
            refine B_X11_two_172 hk ⟨fun w => absurd (by rw [e7] at w; exact w) (nI_ge hi (by omega)), fun _ => ⟨vp_in_nI (by omega) (by decide), ?_⟩⟩
            rw [nI_clamp (by omega), ht.cc (by decide), c8 i d ed, nI_1]
            refine ⟨_, S_tellC _ _ hr (by rw [toL_map]; simp; omega), fun μ5 h5 => ih μ5 ?_ (ht.tr h5.2)⟩
            have := h5.1
            rw [List.map_append, List.append_assoc, tk_s ed, ← List.map_append] at this
            exact this
        refine dn (n := P.length) (G := fun i => ∀ M', rC ((P.length :: P.take i).map (fun r => (nI r).toInt64)) M' → twC M M' → κ 136 [.ref kC, .int (nI one), .int (nI g1), .int (nI oth), .int (nI g2), .int v5, .int (nI b.1), .int (nI i)] [] M') (fun M' hr ht => ?_) (fun i hi ih M' hr ht => ?_) μ30 t1 t2'
        · have e5 : M'.1 kA 5 = nI P.length := by rw [ht.cc (by decide)]; exact c5
          refine B_X11_two_136 hk ⟨fun _ => sec M' ?_ ht, fun w => absurd (by rw [e5]; exact nI_le (Nat.le_refl _) (by omega)) w⟩
          rw [List.take_length] at hr
          exact hr
        · have e5 : M'.1 kA 5 = nI P.length := by rw [ht.cc (by decide)]; exact c5
          obtain ⟨d, ed⟩ : ∃ d, P[i]? = some d := ⟨P[i], List.getElem?_eq_getElem hi⟩
          refine B_X11_two_136 hk ⟨fun w => absurd (by rw [e5] at w; exact w) (nI_ge hi (by omega)), fun _ => ⟨vp_in_nI (by omega) (by decide), ?_⟩⟩
          rw [nI_clamp (by omega), ht.cc (by decide), c7 i d ed, nI_1]
          refine ⟨_, S_tellC _ _ hr (by rw [toL_map]; simp; omega), fun μ5 h5 => ih μ5 ?_ (ht.tr h5.2)⟩
          have := h5.1
          rw [List.map_cons, List.cons_append, tk_s ed] at this
          exact this
    have hcw1 := hR.cw one hone
    have hcw2 := hR.cw oth hoth
    have hst1 : μ.1 kP_stranger one = μ.1 kM_isStranger one := (hR.2.1.2.2.2 one hone).1.2.2.1
    have hst2 : μ.1 kP_stranger oth = μ.1 kM_isStranger oth := (hR.2.1.2.2.2 oth hoth).1.2.2.1
    refine B_X11_two_0 hk (by omega) ⟨fun _ => ⟨fun _ => ⟨fun w => absurd w hne, fun _ => ⟨fun _ => ⟨fun _ => ⟨vp_in_nI (by omega) (by decide), ?_⟩, fun w => absurd (isRoom_iff.mpr i4) w⟩, fun w => absurd (isRoom_iff.mpr i2) w⟩⟩, fun w => absurd ((fX6_has_iff hR.2.1.1 hp).mpr i3) w⟩, fun w => absurd ((fX6_has_iff hR.2.1.1 hp).mpr i1) w⟩
    rw [nI_clamp (by omega), nI_clamp (by omega), hst1, hst2, hcw1.1, hcw2.1]
    have call := S_pairs (c1 := decide (μ.1 kM_isStranger one = 0)) (c2 := decide (μ.1 kM_isStranger oth = 0)) (D := D) (by omega) μ μ hR hw1.2 hg1 hw2.2 hg2
    refine ⟨fun w => ⟨vp_in_nI (by omega) (by decide), ?_⟩, fun w => ⟨vp_in_nI (by omega) (by decide), ?_⟩⟩
    · rw [show (if (decide (μ.1 kM_isStranger one = 0) && decide (μ.1 kM_isStranger oth = 0)) = true then 1 else 0 : Int32) = 0 by rw [decide_eq_false w]; rfl] at call
      refine ⟨_, call, fun y M hM => ?_⟩
      obtain ⟨m1, m2, m3⟩ := hM
      exact tail y _ M m1 m2 (by cases m3; rfl)
    · rw [show (if (decide (μ.1 kM_isStranger one = 0) && decide (μ.1 kM_isStranger oth = 0)) = true then 1 else 0 : Int32) = if μ.1 kM_isStranger oth = 0 then 1 else 0 by rw [decide_eq_true w]; simp] at call
      refine ⟨_, call, fun y M hM => ?_⟩
      obtain ⟨m1, m2, m3⟩ := hM
      exact tail y _ M m1 m2 (by cases m3; rfl)
  · have hv' := hv.thr
    have f1 : frM ν (m2_si ν kM 22 0) := fr_si rfl fr.rf
    refine m2_MT.intro (ls := [.ref kM, .int (nI one), .int (nI g1), .int (nI oth), .int (nI g2), .null, .null, .null]) (by decide +kernel) rfl (ble rfl) (fun κ hk => ?_)
    have e7 : (m2_si ν kM 22 0).1 kM 7 = nI p := (hv'.1 kM 7 rfl rfl).trans hR.2.1.2.1
    refine B_X12_two_0 hk (by omega) ⟨fun _ => ⟨fun _ => ⟨fun w => absurd w hne, fun _ => ⟨fun _ => ⟨fun _ => ?_, fun w => absurd (isRoomM_iff.mpr i4) w⟩, fun w => absurd (isRoomM_iff.mpr i2) w⟩⟩, fun w => absurd ((fX12_isOne_iff e7 hp).mpr i3) w⟩, fun w => absurd ((fX12_isOne_iff e7 hp).mpr i1) w⟩
    generalize hX : m2_si (m2_si (m2_si (m2_si (m2_si (m2_si ν kM 22 0) kM 59 (nI one)) kM 60 (nI oth)) kM 61 (nI g1)) kM 62 (nI g2)) kM 58 (-1) = X
    have zX : frZ ν X := by
      rw [← hX]
      exact (((((frZ.rf.si rfl rfl).si rfl rfl).si rfl rfl).si rfl rfl).si rfl rfl).si rfl rfl
    have x58 : X.1 kM 58 = -1 := by rw [← hX, si_at]
    have x62 : X.1 kM 62 = nI g2 := by rw [← hX, si_nj _ _ _ (by decide), si_at]
    have x61 : X.1 kM 61 = nI g1 := by rw [← hX, si_nj _ _ _ (by decide), si_nj _ _ _ (by decide), si_at]
    have x60 : X.1 kM 60 = nI oth := by rw [← hX, si_nj _ _ _ (by decide), si_nj _ _ _ (by decide), si_nj _ _ _ (by decide), si_at]
    have x59 : X.1 kM 59 = nI one := by rw [← hX, si_nj _ _ _ (by decide), si_nj _ _ _ (by decide), si_nj _ _ _ (by decide), si_nj _ _ _ (by decide), si_at]
    refine dn (n := n) (G := fun i => ∀ M : m2M, frZ X M → (∀ c, c ≠ kM_wasLeft → M.1 c = X.1 c) → (∀ d, d < i → M.1 kM_wasLeft d = nI (hL μ d)) → κ 72 [.ref kM, .int (nI one), .int (nI g1), .int (nI oth), .int (nI g2), .int (nI i), .null, .null] [] M) (fun M hM hc hwl => ?_) (fun i hi ih M hM hc hwl => ?_) X frZ.rf (fun _ _ => rfl) (fun d hd => absurd hd (Nat.not_lt_zero d))
    · have zM : frZ ν M := zX.tr hM
      have vMM : vM μ M := hv.tr zM.1.m
      have e0 : M.1 kM 0 = nI n := (vMM.1 kM 0 rfl rfl).trans hR.1.2.1
      refine B_X12_two_72 hk ⟨fun _ => ⟨vp_in_nI (by omega) (by decide), ?_⟩, fun w => absurd (by rw [e0]; exact nI_le (Nat.le_refl _) (by omega)) w⟩
      have ew1 : M.1 kM_where one = nI (hW μ one) := (vMM.1 kM_where one rfl rfl).trans hw1.1
      have ew2 : M.1 kM_where oth = nI (hW μ oth) := (vMM.1 kM_where oth rfl rfl).trans hw2.1
      rw [nI_clamp (by omega), ew1, show (1 : Int32) <<< (nI (hW μ one) &&& 31) = bts (eqB (hW μ one)) 12 from bts_one (by decide) hw1.2]
      -- the house beyond the DOORS there are: nothing is said of it
      have hmg : mg M n (hA μ) (hB μ) (hT μ) := hR.mg vMM
      have hIW : ∀ d, d < n → M.1 kM_wasLeft d = nI (hL μ d) ∧ hL μ d < 61 := fun d hd => ⟨hwl d hd, (hR.hl d hd).2⟩
      have sM1 : M.1 kM_isStranger one = (if decide (μ.1 kM_isStranger one = 0) = true then 0 else 1) := (vMM.1 kM_isStranger one rfl rfl).trans (cntB hR hone)
      have sM2 : M.1 kM_isStranger oth = (if decide (μ.1 kM_isStranger oth = 0) = true then 0 else 1) := (vMM.1 kM_isStranger oth rfl rfl).trans (cntB hR hoth)
      have kx : ∀ j, M.1 kM j = X.1 kM j := fun j => by rw [hc kM (by decide)]
      have tI1 : tI M n (hA μ) (hB μ) (hT μ) (hL μ) 1 one g1 (decide (μ.1 kM_isStranger one = 0)) := ⟨hmg, hIW, by omega, by rw [if_neg (by decide), kx, x59], by rw [if_neg (by decide), kx, x61], hg1, sM1⟩
      have tI2 : tI M n (hA μ) (hB μ) (hT μ) (hL μ) 0 oth g2 (decide (μ.1 kM_isStranger oth = 0)) := ⟨hmg, hIW, by omega, by rw [if_pos rfl, kx, x60], by rw [if_pos rfl, kx, x62], hg2, sM2⟩
      have tLL : tL M n (hL μ) (decide (μ.1 kM_isStranger one = 0)) [] := fun d hd => by
        rw [if_neg (fun w => by simp at w)]
        exact (vMM.1 kM_left d rfl rfl).trans (hR.hl d hd).1
      have hall : ∀ d, d < n → hL μ d < 61 := fun d hd => (hR.hl d hd).2
      have call := S_two1 (b := none) (D := D) hall (by omega) M hw1.2 hw2.2 tI1 tI2 ew2 tLL ((kx 58).trans x58)
      refine ⟨_, call, fun μ6 h6 => ?_⟩
      obtain ⟨k1, k2⟩ := h6
      rw [mrg_none] at k2
      have k2 : stT V μ6 := k2
      have z6 : frZ ν μ6 := zM.tr k1.z
      have v6 : vM μ μ6 := hv.tr z6.1.m
      rcases e : V with _ | b
      · have eR : R = (some (.int (-2)), μ) := by show (match V with | none => _ | some b => _) = _; rw [e]
        rw [eR]
        rw [e] at k2
        have k2 : μ6.1 kM 58 = -1 := k2
        exact ⟨fun w => absurd k2 w, fun _ => ⟨rfl, v6, z6.2⟩⟩
      · have eR : R = (some (.int (nI b.1)), tlM μ (b.2.map (fun r => (nI r).toInt64))) := by show (match V with | none => _ | some b => _) = _; rw [e]
        rw [eR] at hk ⊢
        rw [e] at k2
        obtain ⟨P, Q, c1, c2, c3, c4, c5, c6, c7, c8⟩ := k2
        have hb1 : b.1 ≤ 10 := by rw [c1]; show P.length + Q.length ≤ 10; omega
        have eb2 : b.2 = (P.length :: P) ++ Q := by rw [c1]; rfl
        refine ⟨fun _ => ?_, fun w => absurd (c4.symm.trans w) (nI_ne_m1 (by omega))⟩
        have e1 : (1 : Int32) + nI P.length = nI (1 + P.length) := nI_add 1 _
        rw [c0_0, c5, e1, nI_clamp (by omega), c7]
        refine ⟨vp_in_nI (by omega) (by decide), ?_⟩
        have kM_o : ∀ {M M' : m2M}, twM M M' → M'.1 kM 58 = M.1 kM 58 ∧ M'.1 kM_bestTwo = M.1 kM_bestTwo := by
          intro M M' ht
          obtain ⟨g', z', rfl⟩ := ht
          exact ⟨si_nj _ _ _ (by decide), si_nc _ _ _ (by decide)⟩
        have l0 : ((([] : List Nat).map (fun r => (nI r).toInt64)) ++ [(nI P.length).toInt64]) = [P.length].map (fun r => (nI r).toInt64) := rfl
        refine ⟨_, S_tellM (nI P.length).toInt64 _ (l := ([] : List Nat).map (fun r => (nI r).toInt64)) rM.i (by simp), fun μ14 h14 => ?_⟩
        obtain ⟨t1, t2⟩ := h14
        rw [l0] at t1
        have t2' : twM μ6 μ14 := twM.i.tr t2
        have fin : ∀ M', rM (b.2.map (fun r => (nI r).toInt64)) M' → twM μ6 M' → (some (Value.int (M'.1 kM 58)) : Option Value) = some (.int (nI b.1)) ∧ vM (tlM μ (b.2.map (fun r => (nI r).toInt64))) M' ∧ frM ν M' := by
          intro M' hr ht
          exact ⟨by rw [(kM_o ht).1, c4], v6.tell hr ht (by rw [toL_map, eb2]; simp; omega), ht.fr rfl rfl z6.2⟩
        have sec : ∀ M', rM ((P.length :: P).map (fun r => (nI r).toInt64)) M' → twM μ6 M' → κ 196 [.ref kM, .int (nI one), .int (nI g1), .int (nI oth), .int (nI g2), .int (nI P.length), .int (nI Q.length), .int 0] [] M' := by
          intro M' hr' ht'
          refine dn (n := Q.length) (G := fun i => ∀ M', rM (((P.length :: P) ++ Q.take i).map (fun r => (nI r).toInt64)) M' → twM μ6 M' → κ 196 [.ref kM, .int (nI one), .int (nI g1), .int (nI oth), .int (nI g2), .int (nI P.length), .int (nI Q.length), .int (nI i)] [] M') (fun M' hr ht => ?_) (fun i hi ih M' hr ht => ?_) M' (by rw [List.take_zero, List.append_nil]; exact hr') ht'
          · refine B_X12_two_196 hk ⟨fun _ => fin M' ?_ ht, fun w => absurd (nI_le (Nat.le_refl _) (by omega)) w⟩
            rw [List.take_length] at hr
            rw [eb2]
            exact hr
          · obtain ⟨d, ed⟩ : ∃ d, Q[i]? = some d := ⟨Q[i], List.getElem?_eq_getElem hi⟩
            have e2 : (2 : Int32) + nI P.length + nI i = nI (2 + P.length + i) := by
              rw [show (2 : Int32) = nI 2 from rfl, nI_add, nI_add]
            refine B_X12_two_196 hk ⟨fun w => absurd w (nI_ge hi (by omega)), fun _ => ⟨by rw [e2]; exact vp_in_nI (by omega) (by decide), ?_⟩⟩
            rw [e2, nI_clamp (by omega), (kM_o ht).2, c8 i d ed, nI_1]
            refine ⟨_, S_tellM _ _ hr (by rw [toL_map]; simp; omega), fun μ5 h5 => ih μ5 ?_ (ht.tr h5.2)⟩
            have := h5.1
            rw [List.map_append, List.append_assoc, tk_s ed, ← List.map_append] at this
            exact this
        refine dn (n := P.length) (G := fun i => ∀ M', rM ((P.length :: P.take i).map (fun r => (nI r).toInt64)) M' → twM μ6 M' → κ 166 [.ref kM, .int (nI one), .int (nI g1), .int (nI oth), .int (nI g2), .int (nI P.length), .int (nI Q.length), .int (nI i)] [] M') (fun M' hr ht => ?_) (fun i hi ih M' hr ht => ?_) μ14 t1 t2'
        · refine B_X12_two_166 hk ⟨fun _ => sec M' ?_ ht, fun w => absurd (nI_le (Nat.le_refl _) (by omega)) w⟩
          rw [List.take_length] at hr
          exact hr
        · obtain ⟨d, ed⟩ : ∃ d, P[i]? = some d := ⟨P[i], List.getElem?_eq_getElem hi⟩
          have e2 : (1 : Int32) + nI i = nI (1 + i) := nI_add 1 i
          refine B_X12_two_166 hk ⟨fun w => absurd w (nI_ge hi (by omega)), fun _ => ⟨by rw [e2]; exact vp_in_nI (by omega) (by decide), ?_⟩⟩
          rw [e2, nI_clamp (by omega), (kM_o ht).2, c6 i d ed, nI_1]
          refine ⟨_, S_tellM _ _ hr (by rw [toL_map]; simp; omega), fun μ5 h5 => ih μ5 ?_ (ht.tr h5.2)⟩
          have := h5.1
          rw [List.map_cons, List.cons_append, tk_s ed] at this
          exact this
    · have zM : frZ ν M := zX.tr hM
      have vMM : vM μ M := hv.tr zM.1.m
      have e0 : M.1 kM 0 = nI n := (vMM.1 kM 0 rfl rfl).trans hR.1.2.1
      refine B_X12_two_72 hk ⟨fun w => absurd (by rw [e0] at w; exact w) (nI_ge hi (by omega)), fun _ => ⟨vp_in_nI (by omega) (by decide), ?_⟩⟩
      rw [nI_clamp (by omega), nI_1]
      refine ih _ (hM.si rfl rfl) (fun c hcw => ?_) (fun d hd => ?_)
      · rw [si_nc _ _ _ hcw]; exact hc c hcw
      · by_cases z : d = i
        · subst z
          rw [si_at]
          exact (vMM.1 kM_left d rfl rfl).trans (hR.hl d hi).1
        · rw [si_nj _ _ _ z]
          exact hwl d (by omega)
