/-! sure, safe -/
theorem C_ft {D n p frm goal : Nat} (hD : 2 ≤ D) {U : Nat → Bool} (ν μ : m2M) (h : RLn ν μ n p) (hc : ∀ d, d < n → μ.1 kR_cost d = if U d = true then 1 else 0) (hfrm : frm < 12) (hgoal : goal < 12) {K : Int32 → m2M → Prop} (k0 : wyU ν n U frm goal = none → ∀ μ', jC μ μ' → K (-2) μ') (k1 : ∀ l, wyU ν n U frm goal = some l → ∀ μ' μ'', jC μ μ' → twC μ' μ'' → rC (lL l) μ'' → K (nI l.length) μ'') : ∃ Q17 : Option Value → m2M → Prop, m2_MT D yX8_find cX8_find 3 (some .int) [.ref kR, .int (nI frm), .int (nI goal)] μ Q17 ∧ ∀ (y15 : Int32) (μ16 : m2M), Q17 (some (.int y15)) μ16 → (∃ Q22 : Option Value → m2M → Prop, m2_MT D yX11_tellRoute cX11_tellRoute 3 (some .int) [.ref kC, .int y15] μ16 Q22 ∧ ∀ (y20 : Int32) (μ21 : m2M), Q22 (some (.int y20)) μ21 → K y20 μ21) := by
  have hn := h.n20
  refine ⟨_, S_findU (U := U) (by omega) ν μ h hc hfrm hgoal, fun y15 μ16 r16 => ?_⟩
  obtain ⟨j16, _, m16⟩ := r16
  revert m16
  cases e : wyU ν n U frm goal with
  | none =>
    intro m16
    cases m16
    refine ⟨fun r μ' => r = some (.int (-2)) ∧ μ' = μ16, ?_, fun y20 μ21 r21 => ?_⟩
    · refine m2_MT.intro (ls := [.ref kC, .int (-1), .null]) (by decide +kernel) rfl (ble rfl) (fun κ' hk' => ?_)
      exact B_X11_tellRoute_0 hk' ⟨fun z => absurd rfl z, fun _ => ⟨rfl, rfl⟩⟩
    · have := r21.1
      cases this
      rw [r21.2]
      exact k0 e μ16 j16
  | some l =>
    intro m16
    obtain ⟨a1, a2, a3, a4⟩ := wyU_ok h hfrm hgoal e
    have := m16.1
    cases this
    refine ⟨_, S_tellRoute (by omega) μ16 (by omega) (fun i d q => ⟨m16.2 i d q, by have := (a4 i d q).1; omega⟩), fun y20 μ21 r21 => ?_⟩
    have := r21.1
    cases this
    exact k1 l e μ16 μ21 j16 r21.2.2 r21.2.1
theorem M_ft {D n p frm goal : Nat} (hD : 1 ≤ D) {U : Nat → Bool} (ν μ μ0 : m2M) (h : RLn ν μ0 n p) (hv : vM ν μ) (hc : ∀ d, d < n → μ.1 kM_cost d = if U d = true then 1 else 100000000) (hfrm : frm < 12) (hgoal : goal < 12) {K0 K1 : m2M → Prop} (k0 : wyU ν n U frm goal = none → ∀ μ', jM μ μ' → K0 μ') (k1 : ∀ l, wyU ν n U frm goal = some l → ∀ μ' μ'', jM μ μ' → twM μ' μ'' → rM (lL l) μ'' → μ''.1 kM 37 = nI l.length → K1 μ'') : ∃ Q5 : Option Value → m2M → Prop, m2_MT D yX12_findWay cX12_findWay 7 (some .boolean) [.ref kM, .int (nI frm), .int (nI goal)] μ Q5 ∧ ∀ (y3 : Int32) (μ4 : m2M), Q5 (some (.int y3)) μ4 → ((¬ y3 = 0 → ∃ Q11 : Option Value → m2M → Prop, m2_MT D yX12_tellWay cX12_tellWay 2 none [.ref kM] (m2_si μ4 kM 21 0) Q11 ∧ ∀ (μ10 : m2M), Q11 none μ10 → K1 μ10) ∧ (y3 = 0 → K0 μ4)) := by
  have hn := h.n20
  refine ⟨_, S_findWayU (U := U) (by omega) ν μ μ0 h hv hc hfrm hgoal, fun y3 μ4 r4 => ?_⟩
  obtain ⟨j4, m4⟩ := r4
  revert m4
  cases e : wyU ν n U frm goal with
  | none =>
    intro m4
    cases m4
    exact ⟨fun z => absurd rfl z, fun _ => k0 e μ4 j4⟩
  | some l =>
    intro m4
    obtain ⟨a1, a2, a3, a4⟩ := wyU_ok h hfrm hgoal e
    have := m4.1
    cases this
    refine ⟨fun _ => ⟨_, S_tellWay (by omega) (m2_si μ4 kM 21 0) (l := l) (by omega) rM.i m4.2.1 (fun i d q => ⟨m4.2.2 i d q, by have := (a4 i d q).1; omega⟩), fun μ17 r17 => ?_⟩, fun z => absurd z (by decide)⟩
    exact k1 l e μ4 μ17 j4 (twM.i.tr r17.2.1) r17.1 r17.2.2
def hG (ν : m2M) (v d : Nat) : Bool := decide (v ≤ hL ν d)
/-- the greatest LEFT with which there is a way -/
def sur (ν : m2M) (n frm goal : Nat) : Nat → Option (Nat × List Nat)
  | 0 => none
  | v + 1 => match wyU ν n (hG ν (v + 1)) frm goal with
    | some l => some (v + 1, l)
    | none => sur ν n frm goal v
def surA : Option (Nat × List Nat) → Option Value
  | none => some (.int (-2))
  | some (v, _) => some (.int (nI v))
def surN (μ : m2M) : Option (Nat × List Nat) → m2M
  | none => μ
  | some (_, l) => tlM μ (lL l)
theorem S_someHasLeft {D n v : Nat} (μ : m2M) {L : Nat → Nat} (hn : μ.1 kD 6 = nI n) (hn20 : n ≤ 20) (hL : ∀ d, d < n → μ.1 kD_left d = nI (L d) ∧ L d < 61) (hv : v < 61) : m2_MT D yX0_someHasLeft cX0_someHasLeft 3 (some .boolean) [.ref kD, .int (nI v)] μ (fun r μ' => μ' = μ ∧ ((r = some (.int 0) ∧ ∀ d, d < n → L d ≠ v) ∨ r = some (.int 1))) := by
  refine m2_MT.intro (ls := [.ref kD, .int (nI v), .null]) (by decide +kernel) rfl (ble rfl) (fun κ hk => ?_)
  refine B_X0_someHasLeft_0 hk ?_
  have key := dn (n := n) (G := fun i => (∀ d, d < i → L d ≠ v) → κ 2 [.ref kD, .int (nI v), .int (nI i)] [] μ) ?_ (fun i hi ih => ?_)
  · exact key (fun d hd => absurd hd (Nat.not_lt_zero d))
  · intro hno
    exact B_X0_someHasLeft_2 hk ⟨fun _ => ⟨rfl, Or.inl ⟨rfl, hno⟩⟩, fun z => absurd (by rw [hn]; exact nI_le (Nat.le_refl n) (by omega)) z⟩
  · intro hno
    refine B_X0_someHasLeft_2 hk ⟨fun z => absurd (by rw [hn] at z; exact z) (nI_ge hi (by omega)), fun _ => ⟨vp_in_nI (by omega) (by decide), ?_⟩⟩
    rw [nI_clamp (by omega), nI_1, (hL i hi).1]
    have := (hL i hi).2
    refine ⟨fun z => ih (fun d hd => ?_), fun _ => ⟨rfl, Or.inr rfl⟩⟩
    by_cases w : d = i
    · subst w
      exact fun w2 => z (by rw [w2])
    · exact hno d (by omega)
theorem T_sure {D : Nat} (hD : 4 ≤ D) (x y : Int32) (μ : m2M) (h : REL μ) : stp D yX11_sure cX11_sure 4 (some .int) yX12_sure cX12_sure 5 (some .int) [.int x, .int y] μ REL := by
  obtain ⟨D, rfl⟩ : ∃ E, D = E + 1 := ⟨D - 1, by omega⟩
  obtain ⟨n, p, hR⟩ := id h
  have hR : RLn μ μ n p := hR
  have hn := hR.n20
  by_cases ok : in_ 12 x ∧ in_ 12 y ∧ x ≠ y
  · obtain ⟨⟨a, ha, rfl⟩, ⟨b, hb, rfl⟩, hne⟩ := id ok
    have hab : a ≠ b := fun z => hne (by rw [z])
    refine T_of (surA (sur μ n a b 60)) (surN μ (sur μ n a b 60)) ?_ (fun ν hv => ?_)
    · refine m2_MT.intro (ls := [.ref kC, .int (nI a), .int (nI b), .null]) (by decide +kernel) rfl (ble rfl) (fun κ hk => ?_)
      refine B_X11_sure_0 hk (by omega) ⟨fun _ => ?_, fun z => absurd (unlike_iff.mpr ok) z⟩
      have key : ∀ v, v ≤ 60 → ∀ μ1, jC μ μ1 → wyU μ n (hG μ (v + 1)) a b = none → sur μ n a b v = sur μ n a b 60 → κ 13 [.ref kC, .int (nI a), .int (nI b), .int (nI v)] [] μ1 := by
        intro v
        induction v with
        | zero =>
          intro _ μ1 j1 _ hs
          refine B_X11_sure_13 hk ⟨fun _ => ?_, fun z => absurd (by decide) z⟩
          rw [← hs]
          exact ⟨rfl, (j1.R hR).r, j1.2.c⟩
        | succ v ih =>
          intro hv μ1 j1 hno hs
          have hR1 := j1.R hR
          refine B_X11_sure_13 hk ⟨fun z => absurd z (nI_nle (by omega) (by omega)), fun _ => ⟨_, S_someHasLeft μ1 hR1.1.1 hn hR1.cl (by omega), fun y2 μ3 r3 => ?_⟩⟩
          obtain ⟨rfl, r3⟩ := r3
          have nx : wyU μ n (hG μ (v + 1)) a b = none → sur μ n a b v = sur μ n a b 60 := by
            intro e
            rw [← hs]
            show _ = match wyU μ n (hG μ (v + 1)) a b with | some l => some (v + 1, l) | none => sur μ n a b v
            rw [e]
          rw [pk_m1]
          refine ⟨fun z => ?_, fun z => ?_⟩
          · rcases r3 with ⟨_, w⟩ | w
            · have e : wyU μ n (hG μ (v + 1)) a b = none := by
                rw [← hno]
                refine wyU_congr (fun d hd => ?_)
                unfold hG
                have := w d hd
                by_cases q : v + 1 ≤ hL μ d
                · simp [q, show v + 1 + 1 ≤ hL μ d by omega]
                · simp [q, show ¬ v + 1 + 1 ≤ hL μ d by omega]
              exact ih (by omega) μ3 j1 e (nx e)
            · rw [z] at w
              cases w
          · rw [nI_pred]
            refine ⟨_, S_useAbove (m := v) (by omega) μ3 hR1.1.1 hn (fun d hd => ⟨(hR1.cl d hd).1, by have := (hR1.cl d hd).2; omega⟩) (by omega), fun μ9 e9 => ?_⟩
            have j9 : jC μ3 μ9 := by rw [e9]; exact jC_sr jC.rf (fun _ => rfl) rfl
            have hR9 := j9.R hR1
            have c9 : ∀ d, d < n → μ9.1 kR_cost d = if hG μ (v + 1) d = true then 1 else 0 := by
              intro d hd
              rw [e9]
              show (if d < n then (if v < hL μ d then (1 : Int32) else 0) else _) = _
              rw [if_pos hd]
              unfold hG
              by_cases z : v < hL μ d
              · rw [if_pos z, if_pos (decide_eq_true (by omega))]
              · rw [if_neg z, if_neg (by simp; omega)]
            refine C_ft (U := hG μ (v + 1)) (by omega) μ μ9 hR9 c9 ha hb (fun e μ' j' => ⟨fun _ => ?_, fun w => absurd rfl w⟩) (fun l e μ' μ'' j' t' r' => ⟨fun w => ?_, fun _ => ?_⟩)
            · exact ih (by omega) μ' ((j1.tr j9).tr j') e (nx e)
            · exfalso
              obtain ⟨a1, a2, a3, a4⟩ := wyU_ok hR ha hb e
              have : (nI l.length).toInt = -2 := by rw [w]; decide
              rw [nI_toInt (by omega)] at this
              omega
            · have e2 : sur μ n a b 60 = some (v + 1, l) := by
                rw [← hs]
                show (match wyU μ n (hG μ (v + 1)) a b with | some l => some (v + 1, l) | none => sur μ n a b v) = _
                rw [e]
              rw [e2]
              obtain ⟨a1, a2, a3, a4⟩ := wyU_ok hR ha hb e
              exact ⟨rfl, REL2.tell (j'.R hR9).r r' t' (by rw [lL_len]; omega), t'.fr rfl rfl (((j1.tr j9).tr j').2.c)⟩
      refine key 60 (by omega) μ jC.rf ?_ rfl
      refine wyU_none hR ha hb hab (fun d hd => ?_)
      unfold hG
      have := (hR.hl d hd).2
      simp
      omega
    · have hv' := hv.thr
      have f1 : frM ν (m2_si ν kM 22 0) := fr_si rfl fr.rf
      refine m2_MT.intro (ls := [.ref kM, .int (nI a), .int (nI b), .null, .null]) (by decide +kernel) rfl (ble rfl) (fun κ hk => ?_)
      refine B_X12_sure_0 hk (by omega) ⟨fun _ => ?_, fun z => absurd (ends_iff.mpr ok) z⟩
      have key : ∀ v, v ≤ 60 → ∀ μ1, vM μ μ1 → frM ν μ1 → sur μ n a b v = sur μ n a b 60 → κ 18 [.ref kM, .int (nI a), .int (nI b), .int (nI v), .null] [] μ1 := by
        intro v
        induction v with
        | zero =>
          intro _ μ1 j1 f1 hs
          refine B_X12_sure_18 hk ⟨fun _ => ?_, fun z => absurd (by decide) z⟩
          rw [← hs]
          exact ⟨rfl, j1, f1⟩
        | succ v ih =>
          intro hv μ1 v1 f1 hs
          have e0 : μ1.1 kM 0 = nI n := (v1.1 kM 0 rfl rfl).trans hR.1.2.1
          refine B_X12_sure_18 hk ⟨fun z => absurd z (nI_nle (by omega) (by omega)), fun _ => ?_⟩
          have kk := dn (n := n) (G := fun i => κ 25 [.ref kM, .int (nI a), .int (nI b), .int (nI (v + 1)), .int (nI i)] [] (m2_sr μ1 kM_cost (lft (μ1.1 kM_cost) (fun d => if hG μ (v + 1) d = true then 1 else 100000000) i))) ?_ (fun i hi ih2 => ?_)
          · rw [lft_0, m2_sr_id] at kk
            exact kk
          · have j1 : jM μ1 (m2_sr μ1 kM_cost (lft (μ1.1 kM_cost) (fun d => if hG μ (v + 1) d = true then 1 else 100000000) n)) := jM_sr jM.rf (fun _ => rfl) rfl
            refine B_X12_sure_25 hk ⟨fun _ => M_ft (U := hG μ (v + 1)) (by omega) μ _ μ hR (j1.v v1) (fun d hd => if_pos hd) ha hb (fun e μ' j' => ?_) (fun l e μ' μ'' j' t' r' w' => ?_), fun z => absurd (show μ1.1 kM 0 ≤ nI n by rw [e0]; exact nI_le (Nat.le_refl n) (by omega)) z⟩
            · rw [pk_m1]
              refine ih (by omega) μ' (j'.v (j1.v v1)) ((f1.tr j1.2.m).tr j'.2.m) ?_
              rw [← hs]
              show _ = match wyU μ n (hG μ (v + 1)) a b with | some l => some (v + 1, l) | none => sur μ n a b v
              rw [e]
            · have e2 : sur μ n a b 60 = some (v + 1, l) := by
                rw [← hs]
                show (match wyU μ n (hG μ (v + 1)) a b with | some l => some (v + 1, l) | none => sur μ n a b v) = _
                rw [e]
              rw [e2]
              obtain ⟨a1, a2, a3, a4⟩ := wyU_ok hR ha hb e
              exact ⟨rfl, (j'.v (j1.v v1)).tell r' t' (by rw [lL_len]; omega), t'.fr rfl rfl ((f1.tr j1.2.m).tr j'.2.m)⟩
          · refine B_X12_sure_25 hk ⟨fun z => absurd (show nI n ≤ nI i by rw [← e0]; exact z) (nI_ge hi (by omega)), fun _ => ⟨vp_in_nI (by omega) (by decide), ?_⟩⟩
            rw [nI_clamp (by omega), nI_1, m2_si_sr]
            have e1 : (m2_sr μ1 kM_cost (lft (μ1.1 kM_cost) (fun d => if hG μ (v + 1) d = true then 1 else 100000000) i)).1 kM_left i = nI (hL μ i) := (v1.1 kM_left i rfl rfl).trans (hR.hl i hi).1
            rw [e1, show (if nI (hL μ i) < nI (v + 1) then 100000000 else 1 : Int32) = (fun d => if hG μ (v + 1) d = true then (1 : Int32) else 100000000) i from ?_, lft_s]
            · exact ih2
            · show _ = if hG μ (v + 1) i = true then (1 : Int32) else 100000000
              unfold hG
              have := (hR.hl i hi).2
              by_cases z : v + 1 ≤ hL μ i
              · rw [if_neg (nI_nlt z (by omega)), if_pos (decide_eq_true z)]
              · rw [if_pos (nI_lt (by omega) (by omega)), if_neg (by simp; omega)]
      exact key 60 (by omega) _ hv' f1 rfl
  · refine T_of (some (.int (-1))) μ ?_ (fun ν hv => ?_)
    · refine m2_MT.intro (ls := [.ref kC, .int x, .int y, .null]) (by decide +kernel) rfl (ble rfl) (fun κ hk => ?_)
      exact B_X11_sure_0 hk (by omega) ⟨fun z => absurd (unlike_iff.mp z) ok, fun _ => ⟨rfl, h, fr.rf⟩⟩
    · refine m2_MT.intro (ls := [.ref kM, .int x, .int y, .null, .null]) (by decide +kernel) rfl (ble rfl) (fun κ hk => ?_)
      exact B_X12_sure_0 hk (by omega) ⟨fun z => absurd (ends_iff.mp z) ok, fun _ => ⟨rfl, hv.thr, fr_si rfl fr.rf⟩⟩
/-- DOORS of which those who are trusted say more than e -/
def sfb (ν : m2M) (m e : Int32) (i : Nat) : Bool := decide (fX12_has m (ν.1 kM_saysWho i) = 1 ∧ ¬ ν.1 kM_saysNumber i ≤ e)
def sfU (ν : m2M) (m e : Int32) : Nat → Nat → Bool
  | 0 => fun _ => false
  | i + 1 => fun d => sfU ν m e i d || (sfb ν m e i && decide (d = (ν.1 kM_saysDoor i).toNatClampNeg))
theorem sfU_s (ν : m2M) (m e : Int32) (i d : Nat) : sfU ν m e (i + 1) d = (sfU ν m e i d || (sfb ν m e i && decide (d = (ν.1 kM_saysDoor i).toNatClampNeg))) := rfl
theorem T_safe {D : Nat} (hD : 4 ≤ D) (x y m e : Int32) (μ : m2M) (h : REL μ) : stp D yX11_safe cX11_safe 7 (some .int) yX12_safe cX12_safe 6 (some .int) [.int x, .int y, .int m, .int e] μ REL := by
  obtain ⟨D, rfl⟩ : ∃ E, D = E + 1 := ⟨D - 1, by omega⟩
  obtain ⟨n, p, hR⟩ := id h
  have hR : RLn μ μ n p := hR
  have hn := hR.n20
  have hp := hR.p8
  obtain ⟨s, s1, s2, s3, s4⟩ := id hR.2.2.2.2.1
  by_cases ok : in_ p x ∧ in_ 12 y ∧ (¬ m < 1 ∧ ¬ 15 < m) ∧ in_ 61 e
  · obtain ⟨⟨q, hq, rfl⟩, ⟨g, hg, rfl⟩, ⟨hm1, hm2⟩, he⟩ := ok
    have hw := hR.hw q hq
    have hm3 : ¬ 16 ≤ m := Int32.not_le.mpr ((i32_lt_succ (k := 15) (by decide)).mpr hm2)
    let U := sfU μ m e s
    refine T_of (match wyU μ n U (hW μ q) g with | none => some (.int (-2)) | some l => some (.int (nI l.length))) (match wyU μ n U (hW μ q) g with | none => μ | some l => tlM μ (lL l)) ?_ (fun ν hv => ?_)
    · refine m2_MT.intro (ls := [.ref kC, .int (nI q), .int (nI g), .int m, .int e, .null, .null]) (by decide +kernel) rfl (ble rfl) (fun κ hk => ?_)
      have he1 : ¬ e < 0 ∧ e ≤ 60 := by
        obtain ⟨e', he', rfl⟩ := he
        exact ⟨nI_pos (by omega), nI_le (b := 60) (by omega) (by decide)⟩
      refine B_X11_safe_0 hk (Nat.zero_le _) ⟨fun _ => ⟨fun _ => ⟨fun z => absurd z hm1, fun _ => ⟨fun z => absurd z hm3, fun _ => ⟨fun z => absurd z he1.1, fun _ => ⟨fun _ => ?_, fun z => absurd he1.2 z⟩⟩⟩⟩, fun z => absurd (isRoom_iff.mpr ⟨g, hg, rfl⟩) z⟩, fun z => absurd ((fX6_has_iff hR.2.1.1 hp).mpr ⟨q, hq, rfl⟩) z⟩
      refine ⟨fun _ μ' => μ' = m2_sr μ kR_cost (fun j => if j < 20 then 0 else μ.1 kR_cost j), ?_, fun μ14 e14 => ?_⟩
      · obtain ⟨D, rfl⟩ : ∃ E, D = E + 1 := ⟨D - 1, by omega⟩
        refine m2_MT.intro (ls := [.ref kR]) (by decide +kernel) rfl (ble rfl) (fun κ' hk' => ?_)
        exact B_X8_useNone_0 hk' ⟨_, S_fill sh_kR_cost (by decide) 0 μ, fun μ2 e2 => e2⟩
      · have key := dn (n := s) (G := fun i => ∀ μ1 : m2M, jC μ μ1 → (∀ d, d < 20 → μ1.1 kR_cost d = if sfU μ m e i d = true then 1 else 0) → κ 65 [.ref kC, .int (nI q), .int (nI g), .int m, .int e, .int 1, .int (nI i)] [] μ1) ?_ (fun i hi ih => ?_)
        · refine key μ14 ?_ ?_
          · rw [e14]; exact jC_sr jC.rf (fun _ => rfl) rfl
          · intro d hd
            rw [e14]
            exact if_pos hd
        · intro μ1 j1 c1
          have hR1 := j1.R hR
          have e7 : μ1.1 kC 7 = nI s := (j1.1.1 kC 7 rfl).trans s2
          refine B_X11_safe_65 hk (Nat.zero_le _) ⟨fun _ => ⟨vp_in_nI (by omega) (by decide), ?_⟩, fun z => absurd (by rw [e7]; exact nI_le (Nat.le_refl s) (by omega)) z⟩
          rw [nI_clamp (by omega), (hR1.cw q hq).1]
          refine C_ft (U := U) (by omega) μ μ1 hR1 (fun d hd => c1 d (by omega)) hw.2 hg (fun e μ' j' => ?_) (fun l e μ' μ'' j' t' r' => ?_)
          · rw [e]
            exact ⟨rfl, (j'.R hR1).r, (j1.tr j').2.c⟩
          · rw [e]
            obtain ⟨a1, a2, a3, a4⟩ := wyU_ok hR hw.2 hg e
            exact ⟨rfl, REL2.tell (j'.R hR1).r r' t' (by rw [lL_len]; omega), t'.fr rfl rfl (j1.tr j').2.c⟩
        · intro μ1 j1 c1
          have e7 : μ1.1 kC 7 = nI s := (j1.1.1 kC 7 rfl).trans s2
          obtain ⟨a1, a2, a3, ⟨w, hw4, a4⟩, ⟨a, ha, a5⟩, a6⟩ := s4 i hi
          refine B_X11_safe_65 hk (Nat.zero_le _) ⟨fun z => absurd (by rw [e7] at z; exact z) (nI_ge hi (by omega)), fun _ => ⟨vp_in_nI (by omega) (by decide), ?_⟩⟩
          rw [nI_clamp (by omega), nI_1, (j1.1.1 kC_sayingMaid i rfl).trans a1, (j1.1.1 kC_sayingDoor i rfl).trans a2, (j1.1.1 kC_sayingNumber i rfl).trans a3]
          have hb : fX11_hasBit m (μ.1 kM_saysWho i) = 1 ↔ fX12_has m (μ.1 kM_saysWho i) = 1 := by
            rw [a4, hasBit_get (by omega), has_iff (by omega)]
          have nob : ¬ (fX12_has m (μ.1 kM_saysWho i) = 1 ∧ ¬ μ.1 kM_saysNumber i ≤ e) → ∀ d, d < 20 → μ1.1 kR_cost d = if sfU μ m e (i + 1) d = true then 1 else 0 := by
            intro z d hd
            rw [c1 d hd]
            rw [sfU_s]
            have : sfb μ m e i = false := decide_eq_false z
            rw [this, Bool.false_and, Bool.or_false]
          refine ⟨fun z => ⟨fun z2 => ih μ1 j1 (nob (fun w => w.2 z2)), fun z2 => ⟨?_, ?_⟩⟩, fun z => ih μ1 j1 (nob (fun w => z (hb.mpr w.1)))⟩
          · rw [a5]; exact vp_in_nI (by omega) (by decide)
          · refine ih _ (jC_si j1 rfl rfl) (fun d hd => ?_)
            rw [a5, nI_clamp (by omega)]
            rw [sfU_s]
            have : sfb μ m e i = true := decide_eq_true ⟨hb.mp z, z2⟩
            rw [this, Bool.true_and, a5, nI_clamp (by omega)]
            by_cases w : d = a
            · subst w
              rw [si_at]
              simp
            · rw [si_nj _ _ _ w, c1 d hd, decide_eq_false w, Bool.or_false]
    · have hv' := hv.thr
      have f1 : frM ν (m2_si ν kM 22 0) := fr_si rfl fr.rf
      have g7 : ν.1 kM 7 = nI p := (hv.1 kM 7 rfl rfl).trans hR.2.1.2.1
      have g0 : ν.1 kM 0 = nI n := (hv.1 kM 0 rfl rfl).trans hR.1.2.1
      refine m2_MT.intro (ls := [.ref kM, .int (nI q), .int (nI g), .int m, .int e, .null]) (by decide +kernel) rfl (ble rfl) (fun κ hk => ?_)
      refine B_X12_safe_0 hk (by omega) ⟨fun _ => ⟨fun _ => ⟨fun _ => ⟨fun _ => ?_, fun z => absurd ((in_k (k := 60) (by decide)).mpr he) z⟩, fun z => absurd (fX12_in_iff.mpr ⟨hm1, hm2⟩) z⟩, fun z => absurd (isRoomM_iff.mpr ⟨g, hg, rfl⟩) z⟩, fun z => absurd ((fX12_isOne_iff (μ := m2_si ν kM 22 0) g7 hp).mpr ⟨q, hq, rfl⟩) z⟩
      have j0 : jM ν (m2_si ν kM 22 0) := jM_si jM.rf rfl rfl
      have key0 := dn (n := n) (G := fun i => κ 46 [.ref kM, .int (nI q), .int (nI g), .int m, .int e, .int (nI i)] [] (m2_sr (m2_si ν kM 22 0) kM_cost (lft (ν.1 kM_cost) (fun _ => 100000000) i))) ?_ (fun i hi ih => ?_)
      · rw [lft_0] at key0
        rw [show m2_sr (m2_si ν kM 22 0) kM_cost (ν.1 kM_cost) = m2_si ν kM 22 0 from m2_sr_id (m2_si ν kM 22 0) kM_cost] at key0
        exact key0
      · refine B_X12_safe_46 hk ⟨fun _ => ?_, fun z => absurd (show ν.1 kM 0 ≤ nI n by rw [g0]; exact nI_le (Nat.le_refl n) (by omega)) z⟩
        have key := dn (n := s) (G := fun i => ∀ μ1 : m2M, jM ν μ1 → (∀ d, d < n → μ1.1 kM_cost d = if sfU μ m e i d = true then 1 else 100000000) → κ 73 [.ref kM, .int (nI q), .int (nI g), .int m, .int e, .int (nI i)] [] μ1) ?_ (fun i hi ih => ?_)
        · exact key _ (jM_sr j0 (fun _ => rfl) rfl) (fun d hd => if_pos hd)
        · intro μ1 j1 c1
          have v1 := j1.v hv
          have e64 : μ1.1 kM 64 = nI s := (v1.1 kM 64 rfl rfl).trans s3
          refine B_X12_safe_73 hk (Nat.zero_le _) ⟨fun _ => ⟨vp_in_nI (by omega) (by decide), ?_⟩, fun z => absurd (by rw [e64]; exact nI_le (Nat.le_refl s) (by omega)) z⟩
          rw [nI_clamp (by omega), v1.1 kM_where q rfl rfl, hw.1]
          refine M_ft (U := U) (by omega) μ μ1 μ hR v1 c1 hw.2 hg (fun e μ' j' => ?_) (fun l e μ' μ'' j' t' r' w' => ?_)
          · rw [e]
            exact ⟨rfl, j'.v v1, (j1.tr j').2.m⟩
          · rw [e]
            obtain ⟨a1, a2, a3, a4⟩ := wyU_ok hR hw.2 hg e
            exact ⟨by rw [w'], (j'.v v1).tell r' t' (by rw [lL_len]; omega), t'.fr rfl rfl (j1.tr j').2.m⟩
        · intro μ1 j1 c1
          have v1 := j1.v hv
          have e64 : μ1.1 kM 64 = nI s := (v1.1 kM 64 rfl rfl).trans s3
          obtain ⟨a1, a2, a3, ⟨w, hw4, a4⟩, ⟨a, ha, a5⟩, a6⟩ := s4 i hi
          refine B_X12_safe_73 hk (Nat.zero_le _) ⟨fun z => absurd (by rw [e64] at z; exact z) (nI_ge hi (by omega)), fun _ => ⟨vp_in_nI (by omega) (by decide), ?_⟩⟩
          rw [nI_clamp (by omega), nI_1, v1.1 kM_saysWho i rfl rfl, v1.1 kM_saysDoor i rfl rfl, v1.1 kM_saysNumber i rfl rfl]
          have nob : ¬ (fX12_has m (μ.1 kM_saysWho i) = 1 ∧ ¬ μ.1 kM_saysNumber i ≤ e) → ∀ d, d < n → μ1.1 kM_cost d = if sfU μ m e (i + 1) d = true then 1 else 100000000 := by
            intro z d hd
            rw [c1 d hd]
            rw [sfU_s]
            have : sfb μ m e i = false := decide_eq_false z
            rw [this, Bool.false_and, Bool.or_false]
          refine ⟨fun z => ⟨fun z2 => ih μ1 j1 (nob (fun w => w.2 z2)), fun z2 => ⟨?_, ?_⟩⟩, fun z => ih μ1 j1 (nob (fun w => z w.1))⟩
          · rw [a5]; exact vp_in_nI (by omega) (by decide)
          · refine ih _ (jM_si j1 rfl rfl) (fun d hd => ?_)
            rw [a5, nI_clamp (by omega)]
            rw [sfU_s]
            have : sfb μ m e i = true := decide_eq_true ⟨z, z2⟩
            rw [this, Bool.true_and, a5, nI_clamp (by omega)]
            by_cases w : d = a
            · subst w
              rw [si_at]
              simp
            · rw [si_nj _ _ _ w, c1 d hd, decide_eq_false w, Bool.or_false]
      · refine B_X12_safe_46 hk ⟨fun z => absurd (show nI n ≤ nI i by rw [← g0]; exact z) (nI_ge hi (by omega)), fun _ => ⟨vp_in_nI (by omega) (by decide), ?_⟩⟩
        rw [nI_clamp (by omega), nI_1, m2_si_sr, show upd (lft (ν.1 kM_cost) (fun _ => 100000000) i) i 100000000 = lft (ν.1 kM_cost) (fun _ => 100000000) (i + 1) from lft_s _ (fun _ => 100000000) i]
        exact ih
  · refine T_of (some (.int (-1))) μ ?_ (fun ν hv => ?_)
    · refine m2_MT.intro (ls := [.ref kC, .int x, .int y, .int m, .int e, .null, .null]) (by decide +kernel) rfl (ble rfl) (fun κ hk => ?_)
      have fin : (some (Value.int (-1)) = some (Value.int (-1)) ∧ REL2 μ μ ∧ frC μ μ) := ⟨rfl, h, fr.rf⟩
      refine B_X11_safe_0 hk (Nat.zero_le _) ⟨fun z => ⟨fun z2 => ⟨fun _ => fin, fun z3 => ⟨fun _ => fin, fun z4 => ⟨fun _ => fin, fun z5 => ⟨fun z6 => ?_, fun _ => fin⟩⟩⟩⟩, fun _ => fin⟩, fun _ => fin⟩
      exact absurd ⟨(fX6_has_iff hR.2.1.1 hp).mp z, isRoom_iff.mp z2, ⟨z3, (i32_lt_succ (k := 15) (by decide)).mp (Int32.not_le.mp z4)⟩, i32_in (k := 61) (by decide) z5 ((i32_lt_succ (k := 60) (by decide)).mpr (Int32.not_lt.mpr z6))⟩ ok
    · have fin : (some (Value.int (-1)) = some (Value.int (-1)) ∧ vM μ (m2_si ν kM 22 0) ∧ frM ν (m2_si ν kM 22 0)) := ⟨rfl, hv.thr, fr_si rfl fr.rf⟩
      have g7 : ν.1 kM 7 = nI p := (hv.1 kM 7 rfl rfl).trans hR.2.1.2.1
      refine m2_MT.intro (ls := [.ref kM, .int x, .int y, .int m, .int e, .null]) (by decide +kernel) rfl (ble rfl) (fun κ hk => ?_)
      refine B_X12_safe_0 hk (by omega) ⟨fun z => ⟨fun z2 => ⟨fun z3 => ⟨fun z4 => ?_, fun _ => fin⟩, fun _ => fin⟩, fun _ => fin⟩, fun _ => fin⟩
      exact absurd ⟨(fX12_isOne_iff (μ := m2_si ν kM 22 0) g7 hp).mp z, isRoomM_iff.mp z2, fX12_in_iff.mp z3, (in_k (k := 60) (by decide)).mp z4⟩ ok
