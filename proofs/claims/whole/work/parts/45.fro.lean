/-! fro -/
/-- only the rows of Routes -/
def frR (μ μ' : m2M) : Prop := fr (fun c => Nat.ble 33 c && Nat.ble c 36) μ μ'
theorem frR.j {μ μ' : m2M} (h : frR μ μ') : jC μ μ' := by
  have key : ∀ c, (Nat.ble 33 c && Nat.ble c 36) = true → (∀ j, scr c j = true) ∧ Nat.ble c 64 = true := by
    intro c hc
    rw [Bool.and_eq_true, Nat.ble_eq, Nat.ble_eq] at hc
    rcases (show c = 33 ∨ c = 34 ∨ c = 35 ∨ c = 36 by omega) with rfl | rfl | rfl | rfl
    · exact ⟨fun _ => rfl, rfl⟩
    · exact ⟨fun _ => rfl, rfl⟩
    · exact ⟨fun _ => rfl, rfl⟩
    · exact ⟨fun _ => rfl, rfl⟩
  refine ⟨⟨fun c j hs => ?_, fun j => by rw [(h kC_row rfl).2], fun j => by rw [(h kM_row rfl).2]⟩, fr.mo h (fun c hc => ?_)⟩
  · cases e : (Nat.ble 33 c && Nat.ble c 36) with
    | false => rw [(h c e).1]
    | true => rw [(key c e).1 j] at hs; cases hs
  · show (Nat.ble 33 c && Nat.ble c 36) = false
    cases e : (Nat.ble 33 c && Nat.ble c 36) with
    | false => rfl
    | true => have := (key c e).2; rw [show Nat.ble c 64 = false from hc] at this; cases this
theorem S_findR {D n p frm goal : Nat} (hD : 2 ≤ D) {U : Nat → Bool} (ν μ : m2M) (h : RLn ν μ n p) (hc : ∀ d, d < n → μ.1 kR_cost d = if U d = true then 1 else 0) (hfrm : frm < 12) (hgoal : goal < 12) : m2_MT D yX8_find cX8_find 3 (some .int) [.ref kR, .int (nI frm), .int (nI goal)] μ (fun r μ' => frR μ μ' ∧ μ'.1 kR_cost = μ.1 kR_cost ∧ match wyU ν n U frm goal with
    | none => r = some (.int (-1))
    | some l => r = some (.int (nI l.length)) ∧ ∀ i d, l[i]? = some d → μ'.1 kR_found i = nI d) := by
  refine (S_find (C := fun d => if U d = true then 1 else 0) hD μ h.cg (fun d hd => ?_) hfrm hgoal).mono ?_
  · rw [hc d hd]
    by_cases z : U d = true
    · simp only [if_pos z]; exact ⟨rfl, by decide⟩
    · simp only [if_neg z]; exact ⟨rfl, by decide⟩
  · rintro r μ' ⟨h1, h2⟩
    obtain ⟨g1, g2, g3, rfl⟩ := id h1
    exact ⟨fr_sr rfl (fr_sr rfl (fr_sr rfl fr.rf)), rfl, h2⟩
theorem S_openR {D n p : Nat} (hD : 1 ≤ D) (ν μ : m2M) (hR : RLn ν μ n p) : m2_MT D yX8_useAbove cX8_useAbove 3 none [.ref kR, .int 0] μ (fun _ μ' => frR μ μ' ∧ ∀ d, d < n → μ'.1 kR_cost d = if hO ν d = true then 1 else 0) := by
  refine (S_useAbove (m := 0) hD μ hR.1.1 hR.n20 (fun d hd => ⟨(hR.cl d hd).1, by have := (hR.cl d hd).2; omega⟩) (by decide)).mono ?_
  rintro r μ' rfl
  refine ⟨fr_sr rfl fr.rf, fun d hd => ?_⟩
  show (if d < n then (if 0 < hL ν d then (1 : Int32) else 0) else _) = _
  rw [if_pos hd]
  unfold hO
  by_cases z : 0 < hL ν d
  · rw [if_pos z, if_pos (decide_eq_true z)]
  · rw [if_neg z, if_neg (by simp [z])]
/-- LEFT less by a way, if one counts -/
def gP (ν : m2M) (q : Nat) (l : List Nat) : m2M := if ν.1 kM_isStranger q = 0 then gD ν l else ν
theorem gP_ne {ν : m2M} {q : Nat} {l : List Nat} {c : Nat} (h : c ≠ kM_left) : (gP ν q l).1 c = ν.1 c := by
  unfold gP gD
  by_cases z : ν.1 kM_isStranger q = 0
  · rw [if_pos z, m2_sr_ne _ _ h]
  · rw [if_neg z]
theorem gP_mv {ν ν0 : m2M} {n p q : Nat} {l : List Nat} (h : mvd n p ν0 ν) (hl : ∀ d, d ∈ l → d < n) : mvd n p ν0 (gP ν q l) := by
  unfold gP
  by_cases z : ν.1 kM_isStranger q = 0
  · rw [if_pos z]
    refine mvd_left h (fun j hj => ?_)
    exact if_neg (fun w => by have := hl j w; omega)
  · rw [if_neg z]; exact h
theorem vM_gP {ν μ : m2M} {q : Nat} {l : List Nat} (h : vM ν μ) : vM (gP ν q l) (gP μ q l) := by
  unfold gP
  rw [h.1 kM_isStranger q rfl rfl]
  by_cases z : ν.1 kM_isStranger q = 0
  · rw [if_pos z, if_pos z]
    refine h.sr (by decide) (fun j _ => ?_)
    unfold decF
    rw [h.1 kM_left j rfl rfl]
  · rw [if_neg z, if_neg z]; exact h
theorem S_spendM {D q : Nat} {l : List Nat} (hq : q < 8) (hl12 : l.length ≤ 12) (hN : l.Nodup) (hl : ∀ i d : Nat, l[i]? = some d → d < 20) (μ : m2M) (h37 : μ.1 kM 37 = nI l.length) (hw : ∀ i d : Nat, l[i]? = some d → μ.1 kM_way i = nI d) : m2_MT D yX12_spend cX12_spend 3 (some .int) [.ref kM, .int (nI q)] μ (fun r μ' => r = some (.int (nI l.length)) ∧ μ' = gP μ q l) := by
  refine m2_MT.intro (ls := [.ref kM, .int (nI q), .null]) (by decide +kernel) rfl (ble rfl) (fun κ hk => ?_)
  refine B_X12_spend_0 hk ?_
  by_cases z : μ.1 kM_isStranger q = 0
  · have key := dn (n := l.length) (G := fun i => κ 2 [.ref kM, .int (nI q), .int (nI i)] [] (m2_sr μ kM_left (decF (μ.1 kM_left) (l.take i)))) ?_ (fun i hi ih => ?_)
    · rw [List.take_zero, decF_nil, m2_sr_id] at key
      exact key
    · rw [List.take_length]
      have e : (m2_sr μ kM_left (decF (μ.1 kM_left) l)).1 kM 37 = nI l.length := h37
      refine B_X12_spend_2 hk ?_
      rw [e]
      refine ⟨fun _ => ⟨rfl, ?_⟩, fun w => absurd (nI_le (Nat.le_refl _) (by omega)) w⟩
      unfold gP
      rw [if_pos z]
      rfl
    · have e : (m2_sr μ kM_left (decF (μ.1 kM_left) (l.take i))).1 kM 37 = nI l.length := h37
      have e0 : l[i]? = some l[i] := List.getElem?_eq_getElem hi
      have e1 : (m2_sr μ kM_left (decF (μ.1 kM_left) (l.take i))).1 kM_way i = nI l[i] := hw i _ e0
      have hd := hl i _ e0
      refine B_X12_spend_2 hk ?_
      rw [e]
      refine ⟨fun w => absurd w (nI_ge hi (by omega)), fun _ => ⟨vp_in_nI hq (by decide), ?_⟩⟩
      rw [nI_clamp (by omega), nI_clamp (by omega)]
      refine ⟨fun w => absurd z w, fun _ => ⟨vp_in_nI (by omega) (by decide), ?_⟩⟩
      rw [e1, nI_clamp (by omega), m2_si_sr, m2_sr_same, decF_s hN e0, nI_1]
      exact ⟨vp_in_nI (by omega) (by decide), ih⟩
  · have eg : gP μ q l = μ := if_neg z
    refine B_X12_spend_2 hk ?_
    rw [h37, eg]
    refine ⟨fun _ => ⟨rfl, rfl⟩, fun _ => ⟨vp_in_nI hq (by decide), ?_⟩⟩
    rw [nI_clamp (by omega)]
    exact ⟨fun _ => ⟨rfl, rfl⟩, fun w => absurd w z⟩
theorem S_crosses {D n p q a b : Nat} (hD : 3 ≤ D) (ν μ : m2M) (hR : RLn ν μ n p) (hq : q < p) (ha : a < 12) (hb : b < 12) : m2_MT D yX10_crosses cX10_crosses 6 (some .boolean) [.ref kW, .int (nI q), .int (nI a), .int (nI b)] μ (fun r μ' => frL μ μ' ∧ μ'.1 kW 8 = μ.1 kW 8 ∧ match wyU ν n (hO ν) a b with
    | none => r = some (.int 0) ∧ RLn ν μ' n p ∧ μ'.1 kW 7 = μ.1 kW 7
    | some l => r = some (.int 1) ∧ RLn (gP ν q l) μ' n p ∧ μ'.1 kW 7 = μ.1 kW 7 + nI l.length) := by
  obtain ⟨D, rfl⟩ : ∃ E, D = E + 1 := ⟨D - 1, by omega⟩
  have hn := hR.n20
  have hp := hR.p8
  refine m2_MT.intro (ls := [.ref kW, .int (nI q), .int (nI a), .int (nI b), .null, .null]) (by decide +kernel) rfl (ble rfl) (fun κ hk => ?_)
  refine B_X10_crosses_0 hk ⟨_, S_openR (by omega) ν μ hR, fun μ2 r2 => ?_⟩
  obtain ⟨f2, c2⟩ := r2
  have hR2 := f2.j.R hR
  refine ⟨_, S_findR (U := hO ν) (by omega) ν μ2 hR2 c2 ha hb, fun y6 μ7 r7 => ?_⟩
  obtain ⟨f7, _, m7⟩ := r7
  have hR7 := f7.j.R hR2
  have f27 : frR μ μ7 := f2.tr f7
  have w7 : ∀ j, μ7.1 kW j = μ.1 kW j := fun j => congrFun (f27 kW rfl).1 j
  revert m7
  cases e : wyU ν n (hO ν) a b with
  | none =>
    intro m7
    cases m7
    exact ⟨fun z => absurd rfl z, fun _ => ⟨f27.j.2, w7 8, rfl, hR7, w7 7⟩⟩
  | some l =>
    intro m7
    obtain ⟨m71, m72⟩ := m7
    cases m71
    obtain ⟨lN1, lN2, lN3, lN4⟩ := wyU_dec hR ha hb e
    refine ⟨fun _ => ?_, fun z => absurd z (nI_ne_m1 (by omega))⟩
    have hS : μ7.1 kP_stranger q = ν.1 kM_isStranger q := (hR7.2.1.2.2.2 q hq).1.2.2.1
    let μe : List Nat → m2M := fun l => if ν.1 kM_isStranger q = 0 then cD μ7 l else μ7
    have eμ : ∀ (l : List Nat) (c : Nat), c ≠ kD_left → (μe l).1 c = μ7.1 c := by
      intro l c hc
      show (if ν.1 kM_isStranger q = 0 then cD μ7 l else μ7).1 c = _
      by_cases z : ν.1 kM_isStranger q = 0
      · rw [if_pos z]; exact m2_sr_ne _ _ hc
      · rw [if_neg z]
    have key := dn (n := l.length) (G := fun i => κ 30 [.ref kW, .int (nI q), .int (nI a), .int (nI b), .int (nI l.length), .int (nI i)] [] (μe (l.take i))) ?_ (fun i hi ih => ?_)
    · rw [show μe (l.take 0) = μ7 from ?_] at key
      · exact key
      · show (if ν.1 kM_isStranger q = 0 then cD μ7 (l.take 0) else μ7) = μ7
        by_cases z : ν.1 kM_isStranger q = 0
        · rw [if_pos z]
          unfold cD
          rw [List.take_zero, decF_nil, m2_sr_id]
        · rw [if_neg z]
    · rw [List.take_length]
      refine B_X10_crosses_30 hk ⟨fun _ => ?_, fun w => absurd (nI_le (Nat.le_refl _) (by omega)) w⟩
      have hRe : RLn (gP ν q l) (μe l) n p := by
        show RLn (if ν.1 kM_isStranger q = 0 then gD ν l else ν) (if ν.1 kM_isStranger q = 0 then cD μ7 l else μ7) n p
        by_cases z : ν.1 kM_isStranger q = 0
        · rw [if_pos z, if_pos z]; exact hR7.dec lN4
        · rw [if_neg z, if_neg z]; exact hR7
      have fe : frL μ (μe l) := by
        show frL μ (if ν.1 kM_isStranger q = 0 then cD μ7 l else μ7)
        by_cases z : ν.1 kM_isStranger q = 0
        · rw [if_pos z]; exact fr_sr rfl f27.j.2
        · rw [if_neg z]; exact f27.j.2
      have e7 : (μe l).1 kW 7 = μ.1 kW 7 := (congrFun (eμ l kW (by decide)) 7).trans (w7 7)
      have e8 : (μe l).1 kW 8 = μ.1 kW 8 := (congrFun (eμ l kW (by decide)) 8).trans (w7 8)
      refine ⟨fr_si rfl fe, (si_nj _ _ _ (by decide)).trans e8, ?_⟩
      rw [e]
      refine ⟨rfl, hRe.c (ag_si rfl).c, ?_⟩
      rw [si_at, e7]
    · have e0 : l[i]? = some l[i] := List.getElem?_eq_getElem hi
      have e1 : (μe (l.take i)).1 kR_found i = nI l[i] := (congrFun (eμ _ kR_found (by decide)) i).trans (m72 i _ e0)
      have hd := lN3 i _ e0
      refine B_X10_crosses_30 hk ⟨fun w => absurd w (nI_ge hi (by omega)), fun _ => ⟨vp_in_nI (by omega) (by decide), ?_⟩⟩
      rw [nI_clamp (by omega), e1, nI_1]
      refine ⟨fun _ μ' => μ' = μe (l.take (i + 1)), ?_, fun μ5 e5 => ?_⟩
      · refine m2_MT.intro (ls := [.ref kW, .int (nI q), .int (nI l[i])]) (by decide +kernel) rfl (ble rfl) (fun κ' hk' => ?_)
        refine B_X10_spend_0 hk' ⟨vp_in_nI (by omega) (by decide), ?_⟩
        rw [nI_clamp (by omega), nI_clamp (by omega), (congrFun (eμ (l.take i) kP_stranger (by decide)) q).trans hS]
        refine ⟨fun z => ?_, fun z => ⟨vp_in_nI (by omega) (by decide), ?_⟩⟩
        · show (if ν.1 kM_isStranger q = 0 then _ else μ7) = (if ν.1 kM_isStranger q = 0 then _ else μ7)
          rw [if_neg z, if_neg z]
        · show m2_si (if ν.1 kM_isStranger q = 0 then cD μ7 (l.take i) else μ7) kD_left l[i] ((if ν.1 kM_isStranger q = 0 then cD μ7 (l.take i) else μ7).1 kD_left l[i] - 1) = (if ν.1 kM_isStranger q = 0 then cD μ7 (l.take (i + 1)) else μ7)
          rw [if_pos z, if_pos z]
          unfold cD
          rw [m2_si_sr, m2_sr_same, decF_s lN1 e0]
      · rw [e5]
        exact ih
/-- to and fro -/
def frS (n q a b : Nat) : Nat → m2M → Int32 → Nat → Nat × Int32 × Int32
  | 0, _, s, t => (t, 0, s)
  | k + 1, ν, s, t => match wyU ν n (hO ν) a b with
    | none => (t, 0, s)
    | some l => match wyU (gP ν q l) n (hO (gP ν q l)) b a with
      | none => (t, 1, s + nI l.length)
      | some l2 => frS n q a b k (gP (gP ν q l) q l2) (s + nI l.length + nI l2.length) (t + 1)
/-- the class comes back -/
theorem RLn_back {ν ν' μ : m2M} {n p : Nat} {L W R O : Nat → Int32} {hr : Int32} (h0 : RLn ν ν n p ∨ True) (hw : ∃ μ0, RLn ν μ0 n p) (h : RLn ν' μ n p) (hm : mvd n p ν ν') (hL : ∀ d, d < n → L d = ν.1 kM_left d) (hP : ∀ q, q < p → W q = ν.1 kM_where q ∧ R q = ν.1 kM_wasThere q ∧ O q = ν.1 kM_isDone q) (hh : hr = ν.1 kM 16) : RLn ν (gbC μ n p L W R O hr) n p := by
  obtain ⟨μ0, hw⟩ := hw
  have a0 := h.hour (x := hr) (by rw [hh]; exact hw.2.2.2.2.2.2.1.2)
  have a1 := RLn.left (f := lft (μ.1 kD_left) L n) (g := lft (ν'.1 kM_left) (ν.1 kM_left) n) a0 (fun d hd => by
    unfold lft
    rw [if_pos hd, if_pos hd]
    exact ⟨hL d hd, (hw.1.2.2.2 d hd).2.2.2.2.2.2.1⟩)
  have a2 := RLn.people (w := lft (ν'.1 kM_where) (ν.1 kM_where) p) (t := lft (ν'.1 kM_wasThere) (ν.1 kM_wasThere) p) (o := lft (ν'.1 kM_isDone) (ν.1 kM_isDone) p) (w' := lft (μ.1 kP_where) W p) (t' := lft (μ.1 kP_reached) R p) (o' := lft (μ.1 kP_done) O p) a1 (fun q hq => by
    unfold lft
    simp only [if_pos hq]
    obtain ⟨_, b1, b2, b3, b4, b5, b6, b7, b8, b9⟩ := hw.2.1.2.2.2 q hq
    refine ⟨(hP q hq).1, (hP q hq).2.1, (hP q hq).2.2, b1, b7, b8, fun z => b9 ?_, ?_⟩
    · exact (hm.1 kM_errand q rfl rfl rfl).symm.trans z
    · show ivP (ν'.1 kM_errand q) _ _ _ (ν'.1 kM_comesBack q) (ν'.1 kM_home q)
      rw [hm.1 kM_errand q rfl rfl rfl, hm.1 kM_comesBack q rfl rfl rfl, hm.1 kM_home q rfl rfl rfl]
      exact hw.2.2.2.2.2.2.2.2.2.1 p q hw.2.1.2.1 hw.2.1.2.2.1 hq)
  refine a2.z agC.rf ⟨fun c j a b => ?_, fun r j a b hj => ?_⟩
  · by_cases e2 : c = kM_isDone
    · subst e2
      rw [m2_sr_same]
      unfold lft
      by_cases w : j < p
      · rw [if_pos w]
      · rw [if_neg w]; exact (hm.1 kM_isDone j a b (mvc_done (by omega))).symm
    · rw [m2_sr_ne _ _ e2]
      by_cases e3 : c = kM_wasThere
      · subst e3
        rw [m2_sr_same]
        unfold lft
        by_cases w : j < p
        · rw [if_pos w]
        · rw [if_neg w]; exact (hm.1 kM_wasThere j a b (mvc_was (by omega))).symm
      · rw [m2_sr_ne _ _ e3]
        by_cases e4 : c = kM_where
        · subst e4
          rw [m2_sr_same]
          unfold lft
          by_cases w : j < p
          · rw [if_pos w]
          · rw [if_neg w]; exact (hm.1 kM_where j a b (mvc_where (by omega))).symm
        · rw [m2_sr_ne _ _ e4]
          by_cases e5 : c = kM_left
          · subst e5
            rw [m2_sr_same]
            unfold lft
            by_cases w : j < n
            · rw [if_pos w]
            · rw [if_neg w]; exact (hm.1 kM_left j a b (mvc_left (by omega))).symm
          · rw [m2_sr_ne _ _ e5]
            by_cases e1 : c = kM
            · subst e1
              by_cases e6 : j = 16
              · subst e6; rw [si_at, hh]
              · rw [si_nj _ _ _ e6]
                exact (hm.1 kM j a b (mvc_ne (by decide) (by decide) (by decide) (by decide) (fun z => e6 z.2))).symm
            · rw [si_nc _ _ _ e1]
              exact (hm.1 c j a b (mvc_ne e5 e4 e3 e2 (fun z => e1 z.1))).symm
  · have a' : ν'.1 kM 21 = nI r := a
    exact (hm.2 r j ((hm.1 kM 21 rfl rfl rfl).symm.trans a') b hj).symm
theorem T_fro {D : Nat} (hD : 6 ≤ D) (x y : Int32) (μ : m2M) (h : REL μ) : stp D yX11_fro cX11_fro 4 (some .int) yX12_fro cX12_fro 7 (some .int) [.int x, .int y] μ REL := by
  obtain ⟨D, rfl⟩ : ∃ E, D = E + 1 := ⟨D - 1, by omega⟩
  obtain ⟨n, p, hR⟩ := id h
  have hR : RLn μ μ n p := hR
  have hn := hR.n20
  have hp := hR.p8
  by_cases ok : ∃ q g : Nat, x = nI q ∧ q < p ∧ y = nI g ∧ g < 12 ∧ hW μ q ≠ g
  · obtain ⟨q, g, rfl, hq, rfl, hg, hne⟩ := ok
    have hw := hR.hw q hq
    generalize hz : frS n q (hW μ q) g 99 μ 0 0 = z
    refine T_of (some (.int (nI z.1))) (tlM μ [z.2.1.toInt64, z.2.2.toInt64]) ?_ (fun ν hv => ?_)
    · refine m2_MT.intro (ls := [.ref kC, .int (nI q), .int (nI g), .null]) (by decide +kernel) rfl (ble rfl) (fun κ hk => ?_)
      refine B_X11_fro_0 hk (Nat.zero_le _) ⟨fun _ => ⟨fun _ => ⟨vp_in_nI (by omega) (by decide), ?_⟩, fun w => absurd (isRoom_iff.mpr ⟨g, hg, rfl⟩) w⟩, fun w => absurd ((fX6_has_iff hR.2.1.1 hp).mpr ⟨q, hq, rfl⟩) w⟩
      rw [nI_clamp (by omega), (hR.cw q hq).1]
      refine ⟨fun _ => ?_, fun w => absurd ((nI_eq (by omega) (by omega)).mp w).symm hne⟩
      refine ⟨3, rfl, by decide, _, S_take (i := 3) (by omega) (by decide) hn hp μ hR.1.1 hR.2.1.1 (fun w hw => ?_), fun μ14 r14 => ?_⟩
      · obtain ⟨⟨a1, a2, a3, a4, a5, a6, a7, a8⟩, b1, b2, b3, b4, b5, b6, b7, b8, b9⟩ := hR.2.1.2.2.2 w hw
        rw [a7, a8]
        exact ⟨b7, b8⟩
      obtain ⟨k14, _, f14⟩ := r14
      have ag14 : agC μ μ14 := by
        refine ⟨fun c j a b => ?_, fun j => by rw [(f14 kC_row (kkS_out (by decide))).2]⟩
        refine congrFun (f14 c ?_).1 j
        unfold kkS
        cases e1 : Nat.ble (kK 3) c with
        | false => rfl
        | true =>
          exfalso
          have : scr c j = true := by
            unfold scr
            rw [show Nat.ble 122 c = true from e1]
            simp
          rw [this] at b
          cases b
      have hR14 : RLn μ μ14 n p := hR.c ag14
      refine ⟨fun r μ' => r = some (.int (nI z.1)) ∧ frL μ14 μ' ∧ (∃ ν', RLn ν' μ' n p ∧ mvd n p μ ν') ∧ (if μ'.1 kW 8 = 0 then (0 : Int32) else 1) = z.2.1 ∧ μ'.1 kW 7 = z.2.2, ?_, fun y18 μ19 r19 => ?_⟩
      · obtain ⟨D, rfl⟩ : ∃ E, D = E + 1 := ⟨D - 1, by omega⟩
        refine m2_MT.intro (ls := [.ref kW, .int (nI q), .int (nI g), .null, .null]) (by decide +kernel) rfl (ble rfl) (fun κ' hk' => ?_)
        refine B_X10_toAndFro_0 hk' ⟨vp_in_nI (by omega) (by decide), ?_⟩
        rw [nI_clamp (by omega), (hR14.cw q hq).1]
        have main : ∀ k t : Nat, t + k = 99 → ∀ (ν1 μ1 : m2M) (s : Int32), RLn ν1 μ1 n p → mvd n p μ ν1 → frL μ14 μ1 → μ1.1 kW 8 = 0 → μ1.1 kW 7 = s → frS n q (hW μ q) g k ν1 s t = z → κ' 23 [.ref kW, .int (nI q), .int (nI g), .int (nI (hW μ q)), .int (nI t)] [] μ1 := by
          intro k
          induction k with
          | zero =>
            intro t ht ν1 μ1 s r1 m1 f1 w8 w7 hs
            have : t = 99 := by omega
            subst this
            subst hs
            refine B_X10_toAndFro_23 hk' ⟨fun _ => ⟨rfl, f1, ⟨ν1, r1, m1⟩, ?_, w7⟩, fun w => absurd (by decide) w⟩
            rw [w8]
            rfl
          | succ k ih =>
            intro t ht ν1 μ1 s r1 m1 f1 w8 w7 hs
            refine B_X10_toAndFro_23 hk' ⟨fun w => absurd w (nI_ge (b := 99) (by omega) (by decide)), fun _ => ⟨_, S_crosses (by omega) ν1 μ1 r1 hq hw.2 hg, fun y2 μ3 r3 => ?_⟩⟩
            obtain ⟨f3, w38, m3⟩ := r3
            unfold frS at hs
            revert m3 hs
            cases e : wyU ν1 n (hO ν1) (hW μ q) g with
            | none =>
              rintro ⟨m31, m32, m33⟩ hs
              cases m31
              subst hs
              refine ⟨fun w => absurd rfl w, fun _ => ⟨rfl, f1.tr f3, ⟨ν1, m32, m1⟩, ?_, m33.trans w7⟩⟩
              rw [w38, w8]
              rfl
            | some l =>
              rintro ⟨m31, m32, m33⟩ hs
              have hs : (match wyU (gP ν1 q l) n (hO (gP ν1 q l)) g (hW μ q) with | none => ((t, 1, s + nI l.length) : Nat × Int32 × Int32) | some l2 => frS n q (hW μ q) g k (gP (gP ν1 q l) q l2) (s + nI l.length + nI l2.length) (t + 1)) = z := hs
              cases m31
              have lN := wyU_dec r1 hw.2 hg e
              have mv1 : mvd n p μ (gP ν1 q l) := gP_mv m1 (fun d hd => (lN.2.2.2 d hd).1)
              refine ⟨fun _ => ⟨_, S_crosses (by omega) (gP ν1 q l) μ3 m32 hq hg hw.2, fun y8 μ9 r9 => ?_⟩, fun w => absurd w (by decide)⟩
              obtain ⟨f9, w98, m9⟩ := r9
              revert m9 hs
              cases e2 : wyU (gP ν1 q l) n (hO (gP ν1 q l)) g (hW μ q) with
              | none =>
                intro hs
                rintro ⟨m91, m92, m93⟩
                cases m91
                have hs : (t, 1, s + nI l.length) = z := hs
                subst hs
                refine ⟨fun w => absurd rfl w, fun _ => ⟨rfl, fr_si rfl ((f1.tr f3).tr f9), ⟨gP ν1 q l, m92.c (ag_si rfl).c, mv1⟩, ?_, ?_⟩⟩
                · rw [si_at]
                  rfl
                · rw [si_nj _ _ _ (by decide), m93, m33, w7]
              | some l2 =>
                intro hs
                rintro ⟨m91, m92, m93⟩
                cases m91
                have hs : frS n q (hW μ q) g k (gP (gP ν1 q l) q l2) (s + nI l.length + nI l2.length) (t + 1) = z := hs
                have lN' := wyU_dec m32 hg hw.2 e2
                refine ⟨fun _ => ?_, fun w => absurd w (by decide)⟩
                rw [nI_1]
                exact ih (t + 1) (by omega) _ μ9 _ m92 (gP_mv mv1 (fun d hd => (lN'.2.2.2 d hd).1)) ((f1.tr f3).tr f9) (w98.trans (w38.trans w8)) (by rw [m93, m33, w7]) hs
        refine main 99 0 (by decide) μ _ 0 (hR14.c ((ag_si (j := 7) (x := 0) rfl).c.tr (ag_si (c := kW) (j := 8) (x := 0) rfl).c)) (mvd.of vM.rf) (fr_si rfl (fr_si rfl fr.rf)) ?_ ?_ hz
        · rw [si_at]
        · rw [si_nj _ _ _ (by decide), si_at]
      · obtain ⟨e18, f19, ⟨ν', r19, m19⟩, w8, w7⟩ := r19
        cases e18
        have kc : ∀ k j, k < 5 → μ19.1 (kK 3 + k) j = μ14.1 (kK 3 + k) j := by
          intro k j hk5
          refine congrFun (f19 _ (ble_f ?_)).1 j
          show 64 < 122 + k
          omega
        have kc0 : ∀ j, μ19.1 (kK 3) j = μ14.1 (kK 3) j := fun j => kc 0 j (by decide)
        have k19 : kpt μ19 3 n p (μ.1 kD_left) (μ.1 kP_where) (μ.1 kP_reached) (μ.1 kP_done) (μ.1 kD 7) := by
          obtain ⟨c1, c2, c3, c4, c5⟩ := k14
          refine ⟨(kc0 4).trans c1, (kc0 5).trans c2, (kc0 6).trans c3, fun d hd => (kc 1 d (by decide)).trans (c4 d hd), fun w hw => ⟨(kc 2 w (by decide)).trans (c5 w hw).1, (kc 3 w (by decide)).trans (c5 w hw).2.1, (kc 4 w (by decide)).trans (c5 w hw).2.2⟩⟩
        refine ⟨3, rfl, by decide, _, S_giveBack (i := 3) (by omega) (by decide) hn hp μ19 k19 (fun w hw => ?_), fun μ26 e26 => ?_⟩
        · obtain ⟨⟨a1, a2, a3, a4, a5, a6, a7, a8⟩, b1, b2, b3, b4, b5, b6, b7, b8, b9⟩ := hR.2.1.2.2.2 w hw
          rw [a7, a8]
          exact ⟨b7, b8⟩
        subst e26
        have hRb : RLn μ (gbC μ19 n p (μ.1 kD_left) (μ.1 kP_where) (μ.1 kP_reached) (μ.1 kP_done) (μ.1 kD 7)) n p := by
          refine RLn_back (Or.inr trivial) ⟨μ, hR⟩ r19 m19 (fun d hd => (hR.1.2.2.2 d hd).1.2.2.2.2.1) (fun w hw => ?_) hR.2.2.2.2.2.2.1.1
          obtain ⟨⟨a1, a2, a3, a4, a5, a6, a7, a8⟩, _⟩ := hR.2.1.2.2.2 w hw
          exact ⟨a1, a7, a8⟩
        have fb : frC μ (gbC μ19 n p (μ.1 kD_left) (μ.1 kP_where) (μ.1 kP_reached) (μ.1 kP_done) (μ.1 kD 7)) := frC_gbC ((fr_kk f14).tr f19.c)
        generalize hμb : gbC μ19 n p (μ.1 kD_left) (μ.1 kP_where) (μ.1 kP_reached) (μ.1 kP_done) (μ.1 kD 7) = μb at hRb fb ⊢
        have wb : ∀ j, μb.1 kW j = μ19.1 kW j := fun j => by rw [← hμb]; rfl
        rw [wb, w8]
        refine ⟨_, S_tellC _ _ rC.i (by decide), fun μ34 r34 => ?_⟩
        have w34 : μ34.1 kW 7 = z.2.2 := by
          obtain ⟨g', z', rfl⟩ := r34.2
          exact (wb 7).trans w7
        rw [w34]
        refine ⟨_, S_tellC _ _ r34.1 (ble rfl), fun μ39 r39 => ⟨rfl, ?_, ?_⟩⟩
        · exact REL2.tell hRb.r r39.1 ((twC.i.tr r34.2).tr r39.2) (ble rfl)
        · exact r39.2.fr rfl rfl (r34.2.fr rfl rfl (twC.i.fr rfl rfl fb))
    · have hv' := hv.thr
      have f1 : frM ν (m2_si ν kM 22 0) := fr_si rfl fr.rf
      have g7 : ν.1 kM 7 = nI p := (hv.1 kM 7 rfl rfl).trans hR.2.1.2.1
      refine m2_MT.intro (ls := [.ref kM, .int (nI q), .int (nI g), .null, .null, .null, .null]) (by decide +kernel) rfl (ble rfl) (fun κ hk => ?_)
      refine B_X12_fro_0 hk (by omega) ⟨fun _ => ⟨fun _ => ⟨vp_in_nI (by omega) (by decide), ?_⟩, fun w => absurd (isRoomM_iff.mpr ⟨g, hg, rfl⟩) w⟩, fun w => absurd ((fX12_isOne_iff (μ := m2_si ν kM 22 0) g7 hp).mpr ⟨q, hq, rfl⟩) w⟩
      rw [nI_clamp (by omega), hv.1 kM_where q rfl rfl, hw.1]
      refine ⟨fun _ => ⟨_, S_putBy (by omega) _, fun μ13 r13 => ?_⟩, fun w => absurd ((nI_eq (by omega) (by omega)).mp w) hne⟩
      obtain ⟨a13, q13, p13⟩ := r13
      have v13 : vM μ μ13 := hv'.tr a13.m
      have p13' : ∀ j, 135 ≤ j → j < 180 → μ13.1 kM_put j = ptG μ 3 j := fun j a b => (p13 j a b).trans (congrFun (vM_ptG hv') j)
      -- the end
      have fin : ∀ (ν1 μ1 : m2M) (v6 v5 : Int32) (t : Nat), vM ν1 μ1 → mvd n p μ ν1 → frM ν μ1 → (∀ j, 135 ≤ j → j < 180 → μ1.1 kM_put j = ptG μ 3 j) → (v6 = 0 ∨ v6 = 1) → (t, v6, v5) = z → κ 109 [.ref kM, .int (nI q), .int (nI g), .int (nI (hW μ q)), .int (nI t), .int v5, .int v6] [] μ1 := by
        rintro ν1 μ1 v6 v5 t v1 m1 f1 p1 h6 rfl
        refine B_X12_fro_109 hk ⟨_, S_bringBack (by omega) μ μ1 μ hR (m1.tr (mvd.of v1)) p1, fun μ2 r2 => ?_⟩
        have f2 : frM ν μ2 := by rw [r2.2]; exact frM_tkM f1
        have tl : ∀ a : Int64, a = v6.toInt64 → ∃ Q9 : Option Value → m2M → Prop, m2_MT D yX12_tell cX12_tell 3 none [.ref kM, .long a] (m2_si μ2 kM 21 0) Q9 ∧ ∀ (μ8 : m2M), Q9 none μ8 → (∃ Q14 : Option Value → m2M → Prop, m2_MT D yX12_tell cX12_tell 3 none [.ref kM, .long (v5).toInt64] μ8 Q14 ∧ ∀ (μ13 : m2M), Q14 none μ13 → (some (Value.int (nI t)) = some (Value.int (nI (t, v6, v5).1)) ∧ vM (tlM μ [(t, v6, v5).2.1.toInt64, (t, v6, v5).2.2.toInt64]) μ13 ∧ frM ν μ13)) := by
          rintro a rfl
          refine ⟨_, S_tellM _ _ rM.i (by decide), fun μ8 r8 => ⟨_, S_tellM _ _ r8.1 (ble rfl), fun μ9 r9 => ⟨rfl, ?_, ?_⟩⟩⟩
          · exact r2.1.tell r9.1 ((twM.i.tr r8.2).tr r9.2) (ble rfl)
          · exact r9.2.fr rfl rfl (r8.2.fr rfl rfl (twM.i.fr rfl rfl f2))
        refine ⟨fun w => tl 0 (by rw [w]; rfl), fun w => tl 1 ?_⟩
        rw [h6.resolve_left w]
        rfl
      have main : ∀ k t : Nat, t + k = 99 → ∀ (ν1 μ1 : m2M) (s : Int32) (ρ : m2M), RLn ν1 ρ n p → vM ν1 μ1 → mvd n p μ ν1 → frM ν μ1 → (∀ j, 135 ≤ j → j < 180 → μ1.1 kM_put j = ptG μ 3 j) → frS n q (hW μ q) g k ν1 s t = z → κ 52 [.ref kM, .int (nI q), .int (nI g), .int (nI (hW μ q)), .int (nI t), .int s, .int 0] [] μ1 := by
        intro k
        induction k with
        | zero =>
          intro t ht ν1 μ1 s ρ r1 v1 m1 f1 p1 hs
          have : t = 99 := by omega
          subst this
          exact B_X12_fro_52 hk ⟨fun _ => fin ν1 μ1 0 s 99 v1 m1 f1 p1 (Or.inl rfl) hs, fun w => absurd (by decide) w⟩
        | succ k ih =>
          intro t ht ν1 μ1 s ρ r1 v1 m1 f1 p1 hs
          refine B_X12_fro_52 hk ⟨fun w => absurd w (nI_ge (b := 99) (by omega) (by decide)), fun _ => ⟨_, S_findOpenWay (by omega) ν1 μ1 ρ r1 v1 hw.2 hg, fun y2 μ3 r3 => ?_⟩⟩
          obtain ⟨j3, m3⟩ := r3
          have v3 := j3.v v1
          have f3 : frM ν μ3 := f1.tr j3.2.m
          have p3 : ∀ j, 135 ≤ j → j < 180 → μ3.1 kM_put j = ptG μ 3 j := fun j a b => (j3.p j).trans (p1 j a b)
          unfold frS at hs
          revert m3 hs
          cases e : wyU ν1 n (hO ν1) (hW μ q) g with
          | none =>
            intro m3 hs
            cases m3
            exact ⟨fun _ => fin ν1 μ3 0 s t v3 m1 f3 p3 (Or.inl rfl) hs, fun w => absurd rfl w⟩
          | some l =>
            rintro ⟨m31, m32, m33⟩ hs
            have hs : (match wyU (gP ν1 q l) n (hO (gP ν1 q l)) g (hW μ q) with | none => ((t, 1, s + nI l.length) : Nat × Int32 × Int32) | some l2 => frS n q (hW μ q) g k (gP (gP ν1 q l) q l2) (s + nI l.length + nI l2.length) (t + 1)) = z := hs
            cases m31
            have lN := wyU_dec r1 hw.2 hg e
            have mv1 : mvd n p μ (gP ν1 q l) := gP_mv m1 (fun d hd => (lN.2.2.2 d hd).1)
            refine ⟨fun w => absurd w (by decide), fun _ => ⟨_, S_spendM (l := l) (by omega) (by omega) lN.1 (fun i d hd => by have := lN.2.2.1 i d hd; omega) μ3 m32 m33, fun y8 μ9 r9 => ?_⟩⟩
            obtain ⟨e8, e9⟩ := r9
            cases e8
            have v9 : vM (gP ν1 q l) μ9 := by rw [e9]; exact vM_gP v3
            have f9 : frM ν μ9 := by
              rw [e9]
              unfold gP
              by_cases z : μ3.1 kM_isStranger q = 0
              · rw [if_pos z]; exact fr_sr rfl f3
              · rw [if_neg z]; exact f3
            have p9 : ∀ j, 135 ≤ j → j < 180 → μ9.1 kM_put j = ptG μ 3 j := fun j a b => by
              rw [e9, gP_ne (by decide)]; exact p3 j a b
            have rho : ∃ ρ1, RLn (gP ν1 q l) ρ1 n p := by
              unfold gP
              by_cases z : ν1.1 kM_isStranger q = 0
              · rw [if_pos z]; exact ⟨_, r1.dec lN.2.2.2⟩
              · rw [if_neg z]; exact ⟨ρ, r1⟩
            obtain ⟨ρ1, hρ1⟩ := rho
            refine ⟨_, S_findOpenWay (by omega) (gP ν1 q l) μ9 ρ1 hρ1 v9 hg hw.2, fun y13 μ14 r14 => ?_⟩
            obtain ⟨j14, m14⟩ := r14
            have v14 := j14.v v9
            have f14 : frM ν μ14 := f9.tr j14.2.m
            have p14 : ∀ j, 135 ≤ j → j < 180 → μ14.1 kM_put j = ptG μ 3 j := fun j a b => (j14.p j).trans (p9 j a b)
            revert m14 hs
            cases e2 : wyU (gP ν1 q l) n (hO (gP ν1 q l)) g (hW μ q) with
            | none =>
              intro hs m14
              cases m14
              have hs : (t, 1, s + nI l.length) = z := hs
              exact ⟨fun w => absurd rfl w, fun _ => fin (gP ν1 q l) μ14 1 _ t v14 mv1 f14 p14 (Or.inr rfl) hs⟩
            | some l2 =>
              intro hs
              rintro ⟨m141, m142, m143⟩
              cases m141
              have hs : frS n q (hW μ q) g k (gP (gP ν1 q l) q l2) (s + nI l.length + nI l2.length) (t + 1) = z := hs
              have lN' := wyU_dec hρ1 hg hw.2 e2
              refine ⟨fun _ => ⟨_, S_spendM (l := l2) (by omega) (by omega) lN'.1 (fun i d hd => by have := lN'.2.2.1 i d hd; omega) μ14 m142 m143, fun y19 μ20 r20 => ?_⟩, fun w => absurd w (by decide)⟩
              obtain ⟨e19, e20⟩ := r20
              cases e19
              have rho : ∃ ρ2, RLn (gP (gP ν1 q l) q l2) ρ2 n p := by
                unfold gP
                by_cases z : (if ν1.1 kM_isStranger q = 0 then gD ν1 l else ν1).1 kM_isStranger q = 0
                · rw [if_pos z]; exact ⟨_, hρ1.dec lN'.2.2.2⟩
                · rw [if_neg z]; exact ⟨ρ1, hρ1⟩
              obtain ⟨ρ2, hρ2⟩ := rho
              rw [nI_1]
              refine ih (t + 1) (by omega) (gP (gP ν1 q l) q l2) μ20 _ ρ2 hρ2 (by rw [e20]; exact vM_gP v14) (gP_mv mv1 (fun d hd => (lN'.2.2.2 d hd).1)) ?_ (fun j a b => by rw [e20, gP_ne (by decide)]; exact p14 j a b) hs
              rw [e20]
              unfold gP
              by_cases z : μ14.1 kM_isStranger q = 0
              · rw [if_pos z]; exact fr_sr rfl f14
              · rw [if_neg z]; exact f14
      exact main 99 0 (by decide) μ μ13 0 μ hR v13 (mvd.of vM.rf) (f1.tr q13) p13' hz
  · have no : ∀ q g : Nat, x = nI q → q < p → y = nI g → g < 12 → hW μ q ≠ g → False := fun q g a b c d e => ok ⟨q, g, a, b, c, d, e⟩
    refine T_of (some (.int (-1))) μ ?_ (fun ν hv => ?_)
    · have fin : (some (Value.int (-1)) = some (Value.int (-1)) ∧ REL2 μ μ ∧ frC μ μ) := ⟨rfl, h, fr.rf⟩
      refine m2_MT.intro (ls := [.ref kC, .int x, .int y, .null]) (by decide +kernel) rfl (ble rfl) (fun κ hk => ?_)
      refine B_X11_fro_0 hk (Nat.zero_le _) ⟨fun w => ⟨fun w2 => ?_, fun _ => fin⟩, fun _ => fin⟩
      obtain ⟨q, hq, rfl⟩ := (fX6_has_iff hR.2.1.1 hp).mp w
      obtain ⟨g, hg, rfl⟩ := isRoom_iff.mp w2
      rw [nI_clamp (by omega), (hR.cw q hq).1]
      refine ⟨vp_in_nI (by omega) (by decide), fun w3 => (no q g rfl hq rfl hg (fun e => w3 (by rw [e]))).elim, fun _ => fin⟩
    · have fin : (some (Value.int (-1)) = some (Value.int (-1)) ∧ vM μ (m2_si ν kM 22 0) ∧ frM ν (m2_si ν kM 22 0)) := ⟨rfl, hv.thr, fr_si rfl fr.rf⟩
      have g7 : ν.1 kM 7 = nI p := (hv.1 kM 7 rfl rfl).trans hR.2.1.2.1
      refine m2_MT.intro (ls := [.ref kM, .int x, .int y, .null, .null, .null, .null]) (by decide +kernel) rfl (ble rfl) (fun κ hk => ?_)
      refine B_X12_fro_0 hk (by omega) ⟨fun w => ⟨fun w2 => ?_, fun _ => B_X12_fro_30 hk fin⟩, fun _ => B_X12_fro_30 hk fin⟩
      obtain ⟨q, hq, rfl⟩ := (fX12_isOne_iff (μ := m2_si ν kM 22 0) g7 hp).mp w
      obtain ⟨g, hg, rfl⟩ := isRoomM_iff.mp w2
      rw [nI_clamp (by omega), hv.1 kM_where q rfl rfl, (hR.hw q hq).1]
      exact ⟨vp_in_nI (by omega) (by decide), fun w3 => (no q g rfl hq rfl hg (fun e => w3 (by rw [e]))).elim, fun _ => B_X12_fro_30 hk fin⟩
