/-! the reference's findTheirWays; crowd -/
/-- only what findWay writes -/
def frV (μ μ' : m2M) : Prop := fr (fun c => (c == kM) || (c == kM_far) || (c == kM_way)) μ μ' ∧ ∀ j, j ≠ 37 → μ'.1 kM j = μ.1 kM j
theorem frV.tr {μ ν ρ : m2M} (h1 : frV μ ν) (h2 : frV ν ρ) : frV μ ρ := ⟨h1.1.tr h2.1, fun j hj => (h2.2 j hj).trans (h1.2 j hj)⟩
theorem S_findWayC {D n p frm goal : Nat} (hD : 1 ≤ D) {C : Nat → Nat} (ν μ μ0 : m2M) (h : RLn ν μ0 n p) (hv : vM ν μ) (hc : mc_ μ n C) (hfrm : frm < 12) (hgoal : goal < 12) : m2_MT D yX12_findWay cX12_findWay 7 (some .boolean) [.ref kM, .int (nI frm), .int (nI goal)] μ (fun r μ' => jM μ μ' ∧ frV μ μ' ∧ match wy (hA ν) (hB ν) (hT ν) C n 1125899906842624 frm goal with
    | none => r = some (.int 0)
    | some l => r = some (.int 1) ∧ μ'.1 kM 37 = nI l.length ∧ ∀ i d, l[i]? = some d → μ'.1 kM_way i = nI d) := by
  refine (S_findWay hD μ (h.mg hv) hc hfrm hgoal).mono ?_
  rintro r μ' ⟨gl, gw, h1⟩
  revert h1
  cases wy (hA ν) (hB ν) (hT ν) C n 1125899906842624 frm goal with
  | none =>
    rintro ⟨h1, rfl⟩
    exact ⟨jM_si (jM_sl jM.rf (by decide) (by decide) rfl) rfl rfl, ⟨fr_si rfl (fr_sl rfl fr.rf), fun j hj => si_nj _ _ _ hj⟩, h1⟩
  | some l =>
    rintro ⟨h1, rfl, h3, h4⟩
    exact ⟨jM_si (jM_sr (jM_sl jM.rf (by decide) (by decide) rfl) (fun _ => rfl) rfl) rfl rfl, ⟨fr_si rfl (fr_sr rfl (fr_sl rfl fr.rf)), fun j hj => si_nj _ _ _ hj⟩, h1, rfl, fun i d q => (h4 i d q).1⟩
theorem S_findWayV {D n p frm goal : Nat} (hD : 1 ≤ D) {U : Nat → Bool} (ν μ μ0 : m2M) (h : RLn ν μ0 n p) (hv : vM ν μ) (hc : ∀ d, d < n → μ.1 kM_cost d = if U d = true then 1 else 100000000) (hfrm : frm < 12) (hgoal : goal < 12) : m2_MT D yX12_findWay cX12_findWay 7 (some .boolean) [.ref kM, .int (nI frm), .int (nI goal)] μ (fun r μ' => jM μ μ' ∧ frV μ μ' ∧ match wyU ν n U frm goal with
    | none => r = some (.int 0)
    | some l => r = some (.int 1) ∧ μ'.1 kM 37 = nI l.length ∧ ∀ i d, l[i]? = some d → μ'.1 kM_way i = nI d) := by
  refine (S_findWayC (C := fun d => if U d = true then 1001 else 0) hD ν μ μ0 h hv (fun d hd => ?_) hfrm hgoal).mono ?_
  · rw [hc d hd]
    by_cases z : U d = true
    · rw [if_pos z]; exact Or.inr ⟨1, by decide, rfl, by simp only [if_pos z]⟩
    · rw [if_neg z]; exact Or.inl ⟨rfl, by simp only [if_neg z]⟩
  · rintro r μ' ⟨h1, h2, h3⟩
    refine ⟨h1, h2, ?_⟩
    unfold wyU
    rw [wy_open h.N h.AB hfrm hgoal]
    exact h3
def ortF (f : Nat → Int32) (l : List Nat) (c : Int32) : Nat → Int32 := fun d => if d ∈ l then f d ||| c else f d
theorem ortF_nil (f : Nat → Int32) (c : Int32) : ortF f [] c = f := by
  funext d
  unfold ortF
  rw [if_neg (by simp)]
theorem ortF_s {f : Nat → Int32} {c : Int32} {l : List Nat} (hN : l.Nodup) {i d : Nat} (h : l[i]? = some d) : upd (ortF f (l.take i) c) d (ortF f (l.take i) c d ||| c) = ortF f (l.take (i + 1)) c := by
  have h0 := take_mem hN h
  funext e
  unfold upd ortF
  by_cases w : e = d
  · subst w
    rw [if_pos rfl, if_neg h0, if_pos ((take_s h e).mpr (Or.inr rfl))]
  · rw [if_neg w]
    show (if e ∈ l.take i then f e ||| c else f e) = _
    by_cases z : e ∈ l.take i
    · rw [if_pos z, if_pos ((take_s h e).mpr (Or.inl z))]
    · rw [if_neg z, if_neg (fun q => ((take_s h e).mp q).elim z w)]
theorem S_findTheirWays {D n p : Nat} (hD : 2 ≤ D) (ν μ μ0 : m2M) (hR : RLn ν μ0 n p) (hv : vM ν μ) : m2_MT D yX12_findTheirWays cX12_findTheirWays 3 none [.ref kM] μ (fun _ μ' => jM μ μ' ∧ ∀ d, d < n → μ'.1 kM_isOnWay d = bts (fun q => wwB ν n q d) p ∧ μ'.1 kM_onTheirWay d = nI (cnb (fun q => wwB ν n q d) p)) := by
  obtain ⟨D, rfl⟩ : ∃ E, D = E + 1 := ⟨D - 1, by omega⟩
  have hn := hR.n20
  have hp := hR.p8
  refine m2_MT.intro (ls := [.ref kM, .null, .null]) (by decide +kernel) rfl (ble rfl) (fun κ hk => ?_)
  refine B_X12_findTheirWays_0 hk ?_
  have e0 : ∀ μ1, jM μ μ1 → μ1.1 kM 0 = nI n := fun μ1 j1 => ((j1.v hv).1 kM 0 rfl rfl).trans hR.1.2.1
  have e7 : ∀ μ1, jM μ μ1 → μ1.1 kM 7 = nI p := fun μ1 j1 => ((j1.v hv).1 kM 7 rfl rfl).trans hR.2.1.2.1
  have kA := dn (n := n) (G := fun i => κ 2 [.ref kM, .int (nI i), .null] [] (m2_sr μ kM_isOnWay (lft (μ.1 kM_isOnWay) (fun _ => 0) i))) ?_ (fun i hi ih => ?_)
  · rw [lft_0, m2_sr_id] at kA
    exact kA
  · have jA : jM μ (m2_sr μ kM_isOnWay (lft (μ.1 kM_isOnWay) (fun _ => 0) n)) := jM_sr jM.rf (fun _ => rfl) rfl
    refine B_X12_findTheirWays_2 hk ⟨fun _ => ?_, fun z => absurd (by rw [e0 _ jA]; exact nI_le (Nat.le_refl n) (by omega)) z⟩
    have kB := dn (n := p) (G := fun q => ∀ μ1, jM μ μ1 → (∀ d, d < n → μ1.1 kM_isOnWay d = bts (fun q => wwB ν n q d) q) → κ 25 [.ref kM, .int (nI q), .null] [] μ1) ?_ (fun q hq ih => ?_)
    · exact kB _ jA (fun d hd => if_pos hd)
    · intro μ1 j1 o1
      refine B_X12_findTheirWays_25 hk (Nat.zero_le _) ⟨fun _ => ?_, fun z => absurd (by rw [e7 _ j1]; exact nI_le (Nat.le_refl p) (by omega)) z⟩
      have kC' := dn (n := n) (G := fun i => κ 144 [.ref kM, .int (nI i), .null] [] (m2_sr μ1 kM_onTheirWay (lft (μ1.1 kM_onTheirWay) (fun d => nI (cnb (fun q => wwB ν n q d) p)) i))) ?_ (fun i hi ih => ?_)
      · rw [lft_0, m2_sr_id] at kC'
        exact kC'
      · have jE : jM μ (m2_sr μ1 kM_onTheirWay (lft (μ1.1 kM_onTheirWay) (fun d => nI (cnb (fun q => wwB ν n q d) p)) n)) := jM_sr j1 (fun _ => rfl) rfl
        exact B_X12_findTheirWays_144 hk (Nat.zero_le _) ⟨fun _ => ⟨jE, fun d hd => ⟨o1 d hd, if_pos hd⟩⟩, fun z => absurd (by rw [e0 _ jE]; exact nI_le (Nat.le_refl n) (by omega)) z⟩
      · have jE : jM μ (m2_sr μ1 kM_onTheirWay (lft (μ1.1 kM_onTheirWay) (fun d => nI (cnb (fun q => wwB ν n q d) p)) i)) := jM_sr j1 (fun _ => rfl) rfl
        refine B_X12_findTheirWays_144 hk (Nat.zero_le _) ⟨fun z => absurd (by rw [e0 _ jE] at z; exact z) (nI_ge hi (by omega)), fun _ => ⟨vp_in_nI (by omega) (by decide), ?_⟩⟩
        have e1 : (m2_sr μ1 kM_onTheirWay (lft (μ1.1 kM_onTheirWay) (fun d => nI (cnb (fun q => wwB ν n q d) p)) i)).1 kM_isOnWay i = bts (fun q => wwB ν n q i) p := o1 i hi
        rw [nI_clamp (by omega), e1, bitC (by omega), nI_1, m2_si_sr]
        rw [← lft_s] at ih
        exact ih
    · intro μ1 j1 o1
      have v1 := j1.v hv
      have hw := hR.hw q hq
      have bs : ∀ d, bts (fun q => wwB ν n q d) (q + 1) = bts (fun q => wwB ν n q d) q ||| (if wwB ν n q d = true then (1 : Int32) <<< (nI q &&& 31) else 0) := fun d => rfl
      have eN : fX12_nextOf (nI q) μ1 = gN ν q := vM_gN v1
      have skip : wwL ν n q = [] → κ 25 [.ref kM, .int (nI (q + 1)), .null] [] μ1 := by
        intro w
        refine ih μ1 j1 (fun d hd => ?_)
        have : wwB ν n q d = false := by unfold wwB; rw [w]; simp
        rw [bs, this]
        show _ = _ ||| 0
        rw [Int32.or_zero]
        exact o1 d hd
      refine B_X12_findTheirWays_25 hk (Nat.zero_le _) ⟨fun z => absurd (by rw [e7 _ j1] at z; exact z) (nI_ge hq (by omega)), fun _ => ⟨vp_in_nI (by omega) (by decide), ?_⟩⟩
      rw [eN, nI_1]
      refine ⟨fun z2 => ?_, fun z2 => skip (by unfold wwL; rw [if_pos z2])⟩
      obtain ⟨g, hg, eg⟩ := (hR.gin hq).resolve_left z2
      have el : wwL ν n q = (wyU ν n (hO ν) (hW ν q) g).getD [] := by
        unfold wwL
        rw [if_neg z2, eg, nI_clamp (by omega)]
      obtain ⟨l1, l2, l3⟩ := wwL_ok hR hq
      have kD' := dn (n := n) (G := fun i => κ 47 [.ref kM, .int (nI q), .int (nI i)] [] (m2_sr μ1 kM_cost (lft (μ1.1 kM_cost) (fun d => if hO ν d = true then 1 else 100000000) i))) ?_ (fun i hi ih2 => ?_)
      · rw [lft_0, m2_sr_id] at kD'
        exact kD'
      · have jc : jM μ1 (m2_sr μ1 kM_cost (lft (μ1.1 kM_cost) (fun d => if hO ν d = true then 1 else 100000000) n)) := jM_sr jM.rf (fun _ => rfl) rfl
        have vc := jc.v v1
        have eN2 : fX12_nextOf (nI q) (m2_sr μ1 kM_cost (lft (μ1.1 kM_cost) (fun d => if hO ν d = true then 1 else 100000000) n)) = gN ν q := vM_gN vc
        refine B_X12_findTheirWays_47 hk (Nat.zero_le _) ⟨fun _ => ⟨vp_in_nI (by omega) (by decide), ?_⟩, fun z => absurd (by rw [e0 _ (j1.tr jc)]; exact nI_le (Nat.le_refl n) (by omega)) z⟩
        rw [nI_clamp (by omega), vc.1 kM_where q rfl rfl, hw.1, eN2, eg]
        refine ⟨_, S_findWayV (U := hO ν) (by omega) ν _ μ0 hR vc (fun d hd => if_pos hd) hw.2 hg, fun y8 μ9 r9 => ?_⟩
        obtain ⟨j9, fv9, m9⟩ := r9
        have j9' : jM μ μ9 := (j1.tr jc).tr j9
        have o9 : ∀ d, d < n → μ9.1 kM_isOnWay d = bts (fun q => wwB ν n q d) q := by
          intro d hd
          rw [(fv9.1 kM_isOnWay rfl).1]
          exact o1 d hd
        revert m9
        cases e : wyU ν n (hO ν) (hW ν q) g with
        | none =>
          intro m9
          cases m9
          rw [e] at el
          refine ⟨fun w => absurd rfl w, fun _ => ?_⟩
          rw [nI_1]
          refine ih μ9 j9' (fun d hd => ?_)
          have : wwB ν n q d = false := by unfold wwB; rw [el]; simp
          rw [bs, this]
          show _ = _ ||| 0
          rw [Int32.or_zero]
          exact o9 d hd
        | some l =>
          rintro ⟨m91, m92, m93⟩
          cases m91
          rw [e] at el
          have el : wwL ν n q = l := el
          rw [el] at l1 l2 l3
          refine ⟨fun _ => ?_, fun w => absurd w (by decide)⟩
          have kk := dn (n := l.length) (G := fun i => κ 105 [.ref kM, .int (nI q), .int (nI i)] [] (m2_sr μ9 kM_isOnWay (ortF (μ9.1 kM_isOnWay) (l.take i) ((1 : Int32) <<< (nI q &&& 31))))) ?_ (fun i hi ih2 => ?_)
          · rw [List.take_zero, ortF_nil, m2_sr_id] at kk
            exact kk
          · rw [List.take_length]
            refine B_X12_findTheirWays_105 hk ⟨fun _ => ?_, fun w => absurd (by rw [show (m2_sr μ9 kM_isOnWay (ortF (μ9.1 kM_isOnWay) l ((1 : Int32) <<< (nI q &&& 31)))).1 kM 37 = nI l.length from m92]; exact nI_le (Nat.le_refl _) (by omega)) w⟩
            rw [nI_1]
            refine ih _ (jM_sr j9' (fun _ => rfl) rfl) (fun d hd => ?_)
            show ortF (μ9.1 kM_isOnWay) l ((1 : Int32) <<< (nI q &&& 31)) d = _
            rw [bs]
            have ew : wwB ν n q d = decide (d ∈ l) := by unfold wwB; rw [el]
            unfold ortF
            rw [o9 d hd, ew]
            by_cases w : d ∈ l
            · rw [if_pos w, if_pos (decide_eq_true w)]
            · rw [if_neg w, if_neg (by simp [w]), Int32.or_zero]
          · have e0' : l[i]? = some l[i] := List.getElem?_eq_getElem hi
            have hd := l3 i _ e0'
            have e1 : (m2_sr μ9 kM_isOnWay (ortF (μ9.1 kM_isOnWay) (l.take i) ((1 : Int32) <<< (nI q &&& 31)))).1 kM_way i = nI l[i] := m93 i _ e0'
            refine B_X12_findTheirWays_105 hk ⟨fun w => absurd (by rw [show (m2_sr μ9 kM_isOnWay (ortF (μ9.1 kM_isOnWay) (l.take i) ((1 : Int32) <<< (nI q &&& 31)))).1 kM 37 = nI l.length from m92] at w; exact w) (nI_ge hi (by omega)), fun _ => ⟨vp_in_nI (by omega) (by decide), ?_⟩⟩
            rw [nI_clamp (by omega), e1, nI_clamp (by omega), m2_si_sr, m2_sr_same, ortF_s l1 e0', nI_1]
            exact ⟨vp_in_nI (by omega) (by decide), ih2⟩
      · have jc : jM μ1 (m2_sr μ1 kM_cost (lft (μ1.1 kM_cost) (fun d => if hO ν d = true then 1 else 100000000) i)) := jM_sr jM.rf (fun _ => rfl) rfl
        refine B_X12_findTheirWays_47 hk (Nat.zero_le _) ⟨fun z => absurd (by rw [e0 _ (j1.tr jc)] at z; exact z) (nI_ge hi (by omega)), fun _ => ⟨vp_in_nI (by omega) (by decide), ?_⟩⟩
        rw [nI_clamp (by omega), nI_1, m2_si_sr]
        have e1 : (m2_sr μ1 kM_cost (lft (μ1.1 kM_cost) (fun d => if hO ν d = true then 1 else 100000000) i)).1 kM_left i = nI (hL ν i) := (v1.1 kM_left i rfl rfl).trans (hR.hl i hi).1
        rw [e1, show (if nI (hL ν i) ≤ 0 then 100000000 else 1 : Int32) = (fun d => if hO ν d = true then (1 : Int32) else 100000000) i from ?_, lft_s]
        · exact ih2
        · show _ = if hO ν i = true then (1 : Int32) else 100000000
          unfold hO
          have := (hR.hl i hi).2
          by_cases z : 0 < hL ν i
          · rw [if_neg (nI_nle z (by omega)), if_pos (decide_eq_true z)]
          · rw [if_pos (by rw [show hL ν i = 0 by omega]; decide), if_neg (by simp [z])]
  · have jA : jM μ (m2_sr μ kM_isOnWay (lft (μ.1 kM_isOnWay) (fun _ => 0) i)) := jM_sr jM.rf (fun _ => rfl) rfl
    refine B_X12_findTheirWays_2 hk ⟨fun z => absurd (by rw [e0 _ jA] at z; exact z) (nI_ge hi (by omega)), fun _ => ⟨vp_in_nI (by omega) (by decide), ?_⟩⟩
    rw [nI_clamp (by omega), nI_1, m2_si_sr, show upd (lft (μ.1 kM_isOnWay) (fun _ => 0) i) i 0 = lft (μ.1 kM_isOnWay) (fun _ => 0) (i + 1) from lft_s _ (fun _ => 0) i]
    exact ih
/-- the DOOR with most of them -/
def bstF (f : Nat → Int32) : Nat → Int32
  | 0 => -1
  | i + 1 => if bstF f i = -1 then (if f i ≤ 0 then -1 else nI i) else (if f i ≤ f (bstF f i).toNatClampNeg then bstF f i else nI i)
theorem bstF_in {f : Nat → Int32} : ∀ i, i ≤ 20 → bstF f i = -1 ∨ in_ i (bstF f i)
  | 0, _ => Or.inl rfl
  | i + 1, h => by
    have ih := bstF_in (f := f) i (by omega)
    unfold bstF
    by_cases z : bstF f i = -1
    · rw [if_pos z]
      by_cases w : f i ≤ 0
      · rw [if_pos w]; exact Or.inl rfl
      · rw [if_neg w]; exact Or.inr ⟨i, by omega, rfl⟩
    · rw [if_neg z]
      obtain ⟨a, ha, e⟩ := ih.resolve_left z
      by_cases w : f i ≤ f (bstF f i).toNatClampNeg
      · rw [if_pos w]; exact Or.inr ⟨a, by omega, e⟩
      · rw [if_neg w]; exact Or.inr ⟨i, by omega, rfl⟩
theorem T_crowd {D : Nat} (hD : 5 ≤ D) (μ : m2M) (h : REL μ) : stp D yX11_crowd cX11_crowd 3 (some .int) yX12_crowd cX12_crowd 4 (some .int) [] μ REL := by
  obtain ⟨D, rfl⟩ : ∃ E, D = E + 1 := ⟨D - 1, by omega⟩
  obtain ⟨n, p, hR⟩ := id h
  have hR : RLn μ μ n p := hR
  have hn := hR.n20
  have hp := hR.p8
  let f : Nat → Int32 := fun d => nI (cnb (fun q => wwB μ n q d) p)
  let g : Nat → Int32 := fun d => nI (cnb (fun q => wwB μ n q d && !decide (μ.1 kM_isStranger q = 0)) p)
  have ecw : ∀ d, cwF μ n (-1) d = fun q => !decide (nI q = -1) && wwB μ n q d := fun d => rfl
  have ec : ∀ d, cnb (cwF μ n (-1) d) p = cnb (fun q => wwB μ n q d) p := fun d => cnb_congr (fun q hq => by
    unfold cwF
    rw [decide_eq_false (nI_ne_m1 (by omega))]
    rfl)
  have es : ∀ d, cnb (csF μ n (-1) d) p = cnb (fun q => wwB μ n q d && !decide (μ.1 kM_isStranger q = 0)) p := fun d => cnb_congr (fun q hq => by
    unfold csF cwF
    rw [decide_eq_false (nI_ne_m1 (by omega))]
    rfl)
  let b := bstF f n
  have hb : b = -1 ∨ in_ n b := bstF_in n hn
  refine T_of (some (.int (if b = -1 then -2 else b))) (if b = -1 then μ else tlM μ [(f b.toNatClampNeg).toInt64, (g b.toNatClampNeg + m2_min (μ.1 kM_left b.toNatClampNeg) (f b.toNatClampNeg - g b.toNatClampNeg)).toInt64]) ?_ (fun ν hv => ?_)
  · refine m2_MT.intro (ls := [.ref kC, .null, .null]) (by decide +kernel) rfl (ble rfl) (fun κ hk => ?_)
    refine B_X11_crowd_0 hk ⟨_, S_countWays (by omega) (-1) μ μ hR, fun μ2 r2 => ?_⟩
    obtain ⟨f2, o2⟩ := r2
    have hR2 := f2.j.R hR
    have o3 : ∀ d, d < n → μ2.1 kW_onWay d = f d ∧ μ2.1 kW_strangersOnWay d = g d := fun d hd => ⟨by rw [(o2 d hd).1, ec], by rw [(o2 d hd).2, es]⟩
    refine dn (n := n) (G := fun i => κ 12 [.ref kC, .int (bstF f i), .int (nI i)] [] μ2) ?_ (fun i hi ih => ?_)
    · refine B_X11_crowd_12 hk (Nat.zero_le _) ⟨fun _ => ⟨fun z => ?_, fun z => ?_⟩, fun z => absurd (by rw [hR2.1.1]; exact nI_le (Nat.le_refl n) (by omega)) z⟩
      · obtain ⟨a, ha, ea⟩ := hb.resolve_left z
        have ea : bstF f n = nI a := ea
        have ea' : b = nI a := ea
        rw [if_neg (show ¬ b = -1 from z), if_neg (show ¬ b = -1 from z), ea', ea, nI_clamp (by omega)]
        refine ⟨vp_in_nI (by omega) (by decide), _, S_tellC _ _ rC.i (by decide), fun μ7 r7 => ?_⟩
        rw [(o3 a ha).1] at r7
        have e7 : μ7.1 kD_left a = μ.1 kM_left a ∧ μ7.1 kW_onWay a = f a := by
          obtain ⟨g', z', rfl⟩ := r7.2
          exact ⟨(hR2.1.2.2.2 a ha).1.2.2.2.2.1, (o3 a ha).1⟩
        rw [e7.1, e7.2, (o3 a ha).2]
        refine ⟨_, S_tellC _ _ r7.1 (ble rfl), fun μ14 r14 => ⟨rfl, ?_, ?_⟩⟩
        · exact REL2.tell hR2.r r14.1 ((twC.i.tr r7.2).tr r14.2) (ble rfl)
        · exact r14.2.fr rfl rfl (r7.2.fr rfl rfl (twC.i.fr rfl rfl f2.j.2.c))
      · rw [if_pos (show b = -1 from z), if_pos (show b = -1 from z)]
        exact ⟨rfl, hR2.r, f2.j.2.c⟩
    · refine B_X11_crowd_12 hk (Nat.zero_le _) ⟨fun z => absurd (by rw [hR2.1.1] at z; exact z) (nI_ge hi (by omega)), fun _ => ⟨vp_in_nI (by omega) (by decide), ?_⟩⟩
      rw [nI_clamp (by omega), nI_1, (o3 i hi).1]
      unfold bstF at ih
      refine ⟨fun z => ?_, fun z => ?_⟩
      · rw [if_neg z] at ih
        obtain ⟨a, ha, ea⟩ := (bstF_in i (by omega)).resolve_left z
        have e1 : μ2.1 kW_onWay (bstF f i).toNatClampNeg = f (bstF f i).toNatClampNeg := by
          rw [ea, nI_clamp (by omega)]
          exact (o3 a (by omega)).1
        rw [e1]
        refine ⟨?_, ih⟩
        rw [ea]
        exact vp_in_nI (by omega) (by decide)
      · rw [if_pos z] at ih
        rw [z]
        exact ih
  · have hv' := hv.thr
    have f1 : frM ν (m2_si ν kM 22 0) := fr_si rfl fr.rf
    refine m2_MT.intro (ls := [.ref kM, .null, .null, .null]) (by decide +kernel) rfl (ble rfl) (fun κ hk => ?_)
    refine B_X12_crowd_0 hk ⟨_, S_findTheirWays (by omega) μ _ μ hR hv', fun μ2 r2 => ?_⟩
    obtain ⟨j2, o2⟩ := r2
    have v2 := j2.v hv'
    have f2 : frM ν μ2 := f1.tr j2.2.m
    have e0 : μ2.1 kM 0 = nI n := (v2.1 kM 0 rfl rfl).trans hR.1.2.1
    have e7 : μ2.1 kM 7 = nI p := (v2.1 kM 7 rfl rfl).trans hR.2.1.2.1
    refine dn (n := n) (G := fun i => κ 13 [.ref kM, .int (bstF f i), .int (nI i), .null] [] μ2) ?_ (fun i hi ih => ?_)
    · refine B_X12_crowd_13 hk ⟨fun _ => ⟨fun z => ?_, fun z => ?_⟩, fun z => absurd (by rw [e0]; exact nI_le (Nat.le_refl n) (by omega)) z⟩
      · obtain ⟨a, ha, ea⟩ := hb.resolve_left z
        have ea : bstF f n = nI a := ea
        have ea' : b = nI a := ea
        have hk2 := hk
        rw [ea]
        refine dn (n := p) (G := fun i => κ 65 [.ref kM, .int (nI a), .int (nI (cnb (fun q => wwB μ n q a && !decide (μ.1 kM_isStranger q = 0)) i)), .int (nI i)] [] μ2) ?_ (fun i hi ih => ?_)
        · refine B_X12_crowd_65 hk (Nat.zero_le _) ⟨fun _ => ⟨vp_in_nI (by omega) (by decide), ?_⟩, fun z => absurd (by rw [e7]; exact nI_le (Nat.le_refl p) (by omega)) z⟩
          rw [if_neg (show ¬ b = -1 from z), if_neg (show ¬ b = -1 from z), ea', nI_clamp (by omega)]
          refine ⟨_, S_tellM _ _ rM.i (by decide), fun μ5 r5 => ?_⟩
          rw [(o2 a ha).2] at r5
          have e5 : μ5.1 kM_left a = μ.1 kM_left a ∧ μ5.1 kM_onTheirWay a = f a := by
            obtain ⟨g', z', rfl⟩ := r5.2
            exact ⟨v2.1 kM_left a rfl rfl, (o2 a ha).2⟩
          rw [e5.1, e5.2]
          refine ⟨_, S_tellM _ _ r5.1 (ble rfl), fun μ12 r12 => ⟨rfl, ?_, ?_⟩⟩
          · exact v2.tell r12.1 ((twM.i.tr r5.2).tr r12.2) (ble rfl)
          · exact r12.2.fr rfl rfl (r5.2.fr rfl rfl (twM.i.fr rfl rfl f2))
        · refine B_X12_crowd_65 hk (Nat.zero_le _) ⟨fun z => absurd (by rw [e7] at z; exact z) (nI_ge hi (by omega)), fun _ => ⟨vp_in_nI (by omega) (by decide), ?_⟩⟩
          have hbit : fX12_has (μ2.1 kM_isOnWay a) (nI i) = 1 ↔ wwB μ n i a = true := by
            rw [(o2 a ha).1, has_iff (by omega), bts_get _ _ (by omega)]
            simp [hi]
          rw [nI_clamp (by omega), nI_clamp (by omega), v2.1 kM_isStranger i rfl rfl, nI_1]
          have cs : cnb (fun q => wwB μ n q a && !decide (μ.1 kM_isStranger q = 0)) (i + 1) = cnb (fun q => wwB μ n q a && !decide (μ.1 kM_isStranger q = 0)) i + (if (wwB μ n i a && !decide (μ.1 kM_isStranger i = 0)) = true then 1 else 0) := rfl
          rw [cs] at ih
          refine ⟨fun w => ⟨vp_in_nI (by omega) (by decide), ?_⟩, fun w => ?_⟩
          · have w' := hbit.mp w
            by_cases v : μ.1 kM_isStranger i = 0
            · rw [if_pos v]
              rw [if_neg (by simp [v])] at ih
              rw [Int32.add_zero]
              exact ih
            · rw [if_neg v, nI_1]
              rw [if_pos (by simp [w', v])] at ih
              exact ih
          · have w' : ¬ wwB μ n i a = true := fun v => w (hbit.mpr v)
            rw [if_neg (by simp [w'])] at ih
            rw [Int32.add_zero]
            exact ih
      · rw [if_pos (show b = -1 from z), if_pos (show b = -1 from z)]
        exact ⟨rfl, v2, f2⟩
    · refine B_X12_crowd_13 hk ⟨fun z => absurd (by rw [e0] at z; exact z) (nI_ge hi (by omega)), fun _ => ⟨vp_in_nI (by omega) (by decide), ?_⟩⟩
      rw [nI_clamp (by omega), nI_1, (o2 i hi).2]
      unfold bstF at ih
      refine ⟨fun z => ?_, fun z => ?_⟩
      · rw [if_neg z] at ih
        obtain ⟨a, ha, ea⟩ := (bstF_in i (by omega)).resolve_left z
        have e1 : μ2.1 kM_onTheirWay (bstF f i).toNatClampNeg = f (bstF f i).toNatClampNeg := by
          rw [ea, nI_clamp (by omega)]
          exact (o2 a (by omega)).2
        rw [e1]
        refine ⟨?_, ih⟩
        rw [ea]
        exact vp_in_nI (by omega) (by decide)
      · rw [if_pos z] at ih
        rw [z]
        exact ih
