/-! a way gone in LEFT alone; late -/
def decF (f : Nat → Int32) (l : List Nat) : Nat → Int32 := fun d => if d ∈ l then f d - 1 else f d
theorem decF_nil (f : Nat → Int32) : decF f [] = f := by
  funext d
  unfold decF
  rw [if_neg (by simp)]
theorem take_mem {l : List Nat} (hN : l.Nodup) {i d : Nat} (h : l[i]? = some d) : d ∉ l.take i := by
  intro z
  obtain ⟨j, hj⟩ := List.mem_iff_getElem?.mp z
  have hj2 : j < i := by
    by_cases w : j < i
    · exact w
    · rw [List.getElem?_take, if_neg w] at hj
      cases hj
  rw [List.getElem?_take_of_lt hj2] at hj
  have hi : i < l.length := (List.getElem?_eq_some_iff.mp h).1
  have := (List.getElem?_inj (by omega : j < l.length) hN).mp (hj.trans h.symm)
  omega
theorem take_s {l : List Nat} {i d : Nat} (h : l[i]? = some d) (e : Nat) : e ∈ l.take (i + 1) ↔ e ∈ l.take i ∨ e = d := by
  rw [List.take_add_one, h]
  simp
theorem decF_s {f : Nat → Int32} {l : List Nat} (hN : l.Nodup) {i d : Nat} (h : l[i]? = some d) : upd (decF f (l.take i)) d (decF f (l.take i) d - 1) = decF f (l.take (i + 1)) := by
  have h0 := take_mem hN h
  funext e
  unfold upd decF
  by_cases w : e = d
  · subst w
    rw [if_pos rfl, if_neg h0, if_pos ((take_s h e).mpr (Or.inr rfl))]
  · rw [if_neg w]
    show (if e ∈ l.take i then f e - 1 else f e) = _
    by_cases z : e ∈ l.take i
    · rw [if_pos z, if_pos ((take_s h e).mpr (Or.inl z))]
    · rw [if_neg z, if_neg (fun q => ((take_s h e).mp q).elim z w)]
def incF (f : Nat → Int32) (l : List Nat) (i : Nat) : Nat → Int32 := fun d => if d ∈ l.take i then f d else decF f l d
theorem incF_0 (f : Nat → Int32) (l : List Nat) : incF f l 0 = decF f l := by
  funext d
  unfold incF
  rw [List.take_zero, if_neg (by simp)]
theorem incF_l (f : Nat → Int32) (l : List Nat) : incF f l l.length = f := by
  funext d
  unfold incF decF
  rw [List.take_length]
  by_cases z : d ∈ l
  · rw [if_pos z]
  · rw [if_neg z, if_neg z]
theorem sub_add1 (x : Int32) : x - 1 + 1 = x := by
  rw [Int32.sub_add_cancel]
theorem incF_s {f : Nat → Int32} {l : List Nat} (hN : l.Nodup) {i d : Nat} (h : l[i]? = some d) : upd (incF f l i) d (incF f l i d + 1) = incF f l (i + 1) := by
  have h0 := take_mem hN h
  have hd : d ∈ l := List.mem_of_getElem? h
  funext e
  unfold upd incF
  by_cases w : e = d
  · subst w
    rw [if_pos rfl, if_neg h0, if_pos ((take_s h e).mpr (Or.inr rfl))]
    unfold decF
    rw [if_pos hd, sub_add1]
  · rw [if_neg w]
    show (if e ∈ l.take i then f e else decF f l e) = _
    by_cases z : e ∈ l.take i
    · rw [if_pos z, if_pos ((take_s h e).mpr (Or.inl z))]
    · rw [if_neg z, if_neg (fun q => ((take_s h e).mp q).elim z w)]
def gD (ν : m2M) (l : List Nat) : m2M := m2_sr ν kM_left (decF (ν.1 kM_left) l)
def cD (μ : m2M) (l : List Nat) : m2M := m2_sr μ kD_left (decF (μ.1 kD_left) l)
theorem RLn.dec {ν μ : m2M} {n p : Nat} (h : RLn ν μ n p) {l : List Nat} (hl : ∀ d, d ∈ l → d < n ∧ ν.1 kM_left d ≠ 0) : RLn (gD ν l) (cD μ l) n p := by
  refine h.left (fun d hd => ?_)
  have e := (h.1.2.2.2 d hd).1.2.2.2.2.1
  have i61 := (h.1.2.2.2 d hd).2.2.2.2.2.2.1
  unfold decF
  rw [e]
  by_cases z : d ∈ l
  · rw [if_pos z]
    exact ⟨rfl, in_pred i61 (hl d z).2⟩
  · rw [if_neg z]
    exact ⟨rfl, i61⟩
theorem hO_ne {ν μ : m2M} {n p d : Nat} (h : RLn ν μ n p) (hd : d < n) (ho : hO ν d = true) : ν.1 kM_left d ≠ 0 := by
  have h1 : 0 < hL ν d := of_decide_eq_true ho
  rw [(h.hl d hd).1]
  exact nI_ne0 h1 (by have := (h.hl d hd).2; omega)
theorem wyU_dec {ν μ : m2M} {n p frm goal : Nat} {l : List Nat} (h : RLn ν μ n p) (hfrm : frm < 12) (hgoal : goal < 12) (q : wyU ν n (hO ν) frm goal = some l) : l.Nodup ∧ l.length ≤ 11 ∧ (∀ i d : Nat, l[i]? = some d → d < n) ∧ ∀ d, d ∈ l → d < n ∧ ν.1 kM_left d ≠ 0 := by
  obtain ⟨h1, h2, h3, h4⟩ := wyU_ok h hfrm hgoal q
  refine ⟨h2, h3, fun i d e => (h4 i d e).1, fun d hd => ?_⟩
  obtain ⟨i, hi⟩ := List.mem_iff_getElem?.mp hd
  exact ⟨(h4 i d hi).1, hO_ne h (h4 i d hi).1 (h4 i d hi).2⟩
def cnW (ν : m2M) (n p r : Nat) : Int32 := bts (fun q => (wyU ν n (hO ν) (hW ν q) r).isSome) p
theorem S_open {D n p : Nat} (hD : 1 ≤ D) (ν μ : m2M) (hR : RLn ν μ n p) : m2_MT D yX8_useAbove cX8_useAbove 3 none [.ref kR, .int 0] μ (fun _ μ' => jC μ μ' ∧ ∀ d, d < n → μ'.1 kR_cost d = if hO ν d = true then 1 else 0) := by
  refine (S_useAbove (m := 0) hD μ hR.1.1 hR.n20 (fun d hd => ⟨(hR.cl d hd).1, by have := (hR.cl d hd).2; omega⟩) (by decide)).mono ?_
  rintro r μ' rfl
  refine ⟨jC_sr jC.rf (fun _ => rfl) rfl, fun d hd => ?_⟩
  show (if d < n then (if 0 < hL ν d then (1 : Int32) else 0) else _) = _
  rw [if_pos hd]
  unfold hO
  by_cases z : 0 < hL ν d
  · rw [if_pos z, if_pos (decide_eq_true z)]
  · rw [if_neg z, if_neg (by simp [z])]
theorem S_measureU {D n p goal : Nat} (hD : 1 ≤ D) {U : Nat → Bool} (ν μ : m2M) (hR : RLn ν μ n p) (hc : ∀ d, d < n → μ.1 kR_cost d = if U d = true then 1 else 0) (hgoal : goal < 12) : m2_MT D yX8_measure cX8_measure 7 none [.ref kR, .int (nI goal)] μ (fun _ μ' => jC μ μ' ∧ μ'.1 kR_cost = μ.1 kR_cost ∧ ∀ u, u < 12 → μ'.1 kR_dist u = nI (wy_f (hA ν) (hB ν) (hT ν) (fun d => if U d = true then 1 else 0) n 268435456 goal u)) := by
  refine (S_measure (C := fun d => if U d = true then 1 else 0) hD μ hR.cg (fun d hd => ?_) hgoal (wy_F hR.N hR.AB hgoal)).mono ?_
  · rw [hc d hd]
    by_cases z : U d = true
    · simp only [if_pos z]; exact ⟨rfl, by decide⟩
    · simp only [if_neg z]; exact ⟨rfl, by decide⟩
  · rintro r μ' ⟨g, rfl, h2⟩
    exact ⟨jC_sr jC.rf (fun _ => rfl) rfl, rfl, fun u hu => h2 u hu⟩
theorem wyU_far {ν μ : m2M} {n p u goal : Nat} {U : Nat → Bool} (hR : RLn ν μ n p) (hgoal : goal < 12) : ((wyU ν n U u goal).isSome = true ↔ ¬ (268435456 : Int32) ≤ nI (wy_f (hA ν) (hB ν) (hT ν) (fun d => if U d = true then 1 else 0) n 268435456 goal u)) := by
  have hF := wy_F (T := hT ν) (C := fun d => if U d = true then 1 else 0) (far := 268435456) hR.N hR.AB hgoal
  have hb := hF.2.1 u
  rw [show (268435456 : Int32) = nI 268435456 by decide, nI_leI (by decide) (by omega)]
  unfold wyU wy
  by_cases z : wy_f (hA ν) (hB ν) (hT ν) (fun d => if U d = true then 1 else 0) n 268435456 goal u < 268435456
  · rw [if_pos z]
    simp
    omega
  · rw [if_neg z]
    simp
    omega
theorem S_canCome {D n p g : Nat} (hD : 2 ≤ D) (ν μ : m2M) (hR : RLn ν μ n p) (hg : g < 12) : m2_MT D yX10_canCome cX10_canCome 4 (some .int) [.ref kW, .int (nI g)] μ (fun r μ' => r = some (.int (cnW ν n p g)) ∧ ∃ g1 g2 : Nat → Int32, μ' = m2_sr (m2_sr μ kR_cost g1) kR_dist g2) := by
  obtain ⟨D, rfl⟩ : ∃ E, D = E + 1 := ⟨D - 1, by omega⟩
  have hp := hR.p8
  refine m2_MT.intro (ls := [.ref kW, .int (nI g), .null, .null]) (by decide +kernel) rfl (ble rfl) (fun κ hk => ?_)
  refine B_X10_canCome_0 hk ⟨_, S_useAbove (m := 0) (by omega) μ hR.1.1 hR.n20 (fun d hd => ⟨(hR.cl d hd).1, by have := (hR.cl d hd).2; omega⟩) (by decide), fun μ2 e2 => ?_⟩
  have j2 : jC μ μ2 := by rw [e2]; exact jC_sr jC.rf (fun _ => rfl) rfl
  have c2 : ∀ d, d < n → μ2.1 kR_cost d = if hO ν d = true then 1 else 0 := by
    intro d hd
    rw [e2]
    show (if d < n then (if 0 < hL ν d then (1 : Int32) else 0) else _) = _
    rw [if_pos hd]
    unfold hO
    by_cases z : 0 < hL ν d
    · rw [if_pos z, if_pos (decide_eq_true z)]
    · rw [if_neg z, if_neg (by simp [z])]
  have hR2 := j2.R hR
  have hc2 : cc_ μ2 n (fun d => if hO ν d = true then 1 else 0) := by
    intro d hd
    rw [c2 d hd]
    by_cases z : hO ν d = true
    · simp only [if_pos z]; exact ⟨rfl, by decide⟩
    · simp only [if_neg z]; exact ⟨rfl, by decide⟩
  refine ⟨_, S_measure (C := fun d => if hO ν d = true then 1 else 0) (by omega) μ2 hR2.cg hc2 hg (wy_F hR.N hR.AB hg), fun μ7 r7 => ?_⟩
  obtain ⟨gd, e7, h7⟩ := r7
  have j7 : jC μ2 μ7 := by rw [e7]; exact jC_sr jC.rf (fun _ => rfl) rfl
  have hR7 := j7.R hR2
  have d7 : ∀ u, u < 12 → μ7.1 kR_dist u = nI (wy_f (hA ν) (hB ν) (hT ν) (fun d => if hO ν d = true then 1 else 0) n 268435456 g u) := by
    intro u hu
    rw [e7]
    exact h7 u hu
  refine dn (n := p) (G := fun i => κ 20 [.ref kW, .int (nI g), .int (bts (fun q => (wyU ν n (hO ν) (hW ν q) g).isSome) i), .int (nI i)] [] μ7) ?_ (fun i hi ih => ?_)
  · refine B_X10_canCome_20 hk (Nat.zero_le _) ⟨fun _ => ⟨rfl, (fun d => if d < n then (if 0 < hL ν d then 1 else 0) else μ.1 kR_cost d), gd, ?_⟩, fun z => absurd (by rw [hR7.2.1.1]; exact nI_le (Nat.le_refl p) (by omega)) z⟩
    rw [e7, e2]
  · have hw := hR7.cw i hi
    refine B_X10_canCome_20 hk (Nat.zero_le _) ⟨fun z => absurd (by rw [hR7.2.1.1] at z; exact z) (nI_ge hi (by omega)), fun _ => ⟨vp_in_nI (by omega) (by decide), ?_⟩⟩
    rw [nI_clamp (by omega), hw.1, nI_clamp (by omega), d7 _ hw.2, shl_if, bts_s1 (f := fun q => (wyU ν n (hO ν) (hW ν q) g).isSome) (wyU_far hR hg), nI_1]
    exact ⟨vp_in_nI hw.2 (by decide), ih⟩
theorem S_whoCan {D n p g : Nat} (hD : 3 ≤ D) (ν μ μ0 : m2M) (hR : RLn ν μ0 n p) (hv : vM ν μ) (hg : g < 12) : m2_MT D yX12_whoCan cX12_whoCan 4 (some .int) [.ref kM, .int (nI g)] μ (fun r μ' => r = some (.int (cnW ν n p g)) ∧ jM μ μ') := by
  obtain ⟨D, rfl⟩ : ∃ E, D = E + 1 := ⟨D - 1, by omega⟩
  have hp := hR.p8
  refine m2_MT.intro (ls := [.ref kM, .int (nI g), .null, .null]) (by decide +kernel) rfl (ble rfl) (fun κ hk => ?_)
  refine B_X12_whoCan_0 hk ?_
  have key := dn (n := p) (G := fun i => ∀ μ1, jM μ μ1 → κ 4 [.ref kM, .int (nI g), .int (bts (fun q => (wyU ν n (hO ν) (hW ν q) g).isSome) i), .int (nI i)] [] μ1) ?_ (fun i hi ih => ?_)
  · exact key μ jM.rf
  · intro μ1 j1
    have e7 := ((j1.v hv).1 kM 7 rfl rfl).trans hR.2.1.2.1
    exact B_X12_whoCan_4 hk ⟨fun _ => ⟨rfl, j1⟩, fun z => absurd (by rw [e7]; exact nI_le (Nat.le_refl p) (by omega)) z⟩
  · intro μ1 j1
    have v1 := j1.v hv
    have e7 := (v1.1 kM 7 rfl rfl).trans hR.2.1.2.1
    have hw := hR.hw i hi
    refine B_X12_whoCan_4 hk ⟨fun z => absurd (by rw [e7] at z; exact z) (nI_ge hi (by omega)), fun _ => ⟨vp_in_nI (by omega) (by decide), ?_⟩⟩
    rw [nI_clamp (by omega), v1.1 kM_where i rfl rfl, hw.1]
    refine ⟨_, S_findOpenWay (by omega) ν μ1 μ0 hR v1 hw.2 hg, fun y4 μ5 r5 => ?_⟩
    obtain ⟨j5, m5⟩ := r5
    rw [nI_1, bts_s1 (f := fun q => (wyU ν n (hO ν) (hW ν q) g).isSome)]
    · exact ih μ5 (j1.tr j5)
    · revert m5
      show _ → ((wyU ν n (hO ν) (hW ν i) g).isSome = true ↔ _)
      cases wyU ν n (hO ν) (hW ν i) g with
      | none => intro m5; cases m5; simp
      | some l => intro m5; have := m5.1; cases this; simp
/-- who is shut out -/
def ltF (ν : m2M) (n p g : Nat) : Nat → Int32
  | 0 => 0
  | q + 1 => match wyU ν n (hO ν) (hW ν q) g with
    | none => ltF ν n p g q
    | some l => if ν.1 kM_isStranger q = 0 then ltF ν n p g q ||| ((cnW ν n p g &&& (((1 : Int32) <<< (nI q &&& 31)) ^^^ (-1))) &&& (cnW (gD ν l) n p g ^^^ (-1))) else ltF ν n p g q
theorem S_canComeBehind {D n p q g : Nat} {l : List Nat} (hD : 3 ≤ D) (ν μ : m2M) (hR : RLn ν μ n p) (hq : q < p) (hg : g < 12) (hl : wyU ν n (hO ν) (hW ν q) g = some l) : m2_MT D yX10_canComeBehind cX10_canComeBehind 6 (some .int) [.ref kW, .int (nI q), .int (nI g)] μ (fun r μ' => r = some (.int (cnW (gD ν l) n p g)) ∧ jC μ μ') := by
  obtain ⟨D, rfl⟩ : ∃ E, D = E + 1 := ⟨D - 1, by omega⟩
  have hn := hR.n20
  have hp := hR.p8
  have hw := hR.hw q hq
  obtain ⟨lN1, lN2, lN3, lN4⟩ := wyU_dec hR hw.2 hg hl
  refine m2_MT.intro (ls := [.ref kW, .int (nI q), .int (nI g), .null, .null, .null]) (by decide +kernel) rfl (ble rfl) (fun κ hk => ?_)
  refine B_X10_canComeBehind_0 hk ⟨_, S_open (by omega) ν μ hR, fun μ2 r2 => ⟨vp_in_nI (by omega) (by decide), ?_⟩⟩
  obtain ⟨j2, c2⟩ := r2
  have hR2 := j2.R hR
  rw [nI_clamp (by omega), (hR2.cw q hq).1]
  refine ⟨_, S_findU (U := hO ν) (by omega) ν μ2 hR2 c2 hw.2 hg, fun y7 μ8 r8 => ?_⟩
  obtain ⟨j8, _, m8⟩ := r8
  rw [hl] at m8
  obtain ⟨m81, m82⟩ := m8
  cases m81
  have hR8 := j8.R hR2
  have key := dn (n := l.length) (G := fun i => κ 29 [.ref kW, .int (nI q), .int (nI g), .int (nI l.length), .int (nI i), .null] [] (m2_sr μ8 kD_left (decF (μ8.1 kD_left) (l.take i)))) ?_ (fun i hi ih => ?_)
  · rw [List.take_zero, decF_nil, m2_sr_id] at key
    exact key
  · rw [List.take_length]
    have hRd := hR8.dec lN4
    refine B_X10_canComeBehind_29 hk ⟨fun _ => ⟨_, S_canCome (by omega) (gD ν l) (cD μ8 l) hRd hg, fun y3 μ4 r4 => ?_⟩, fun z => absurd (nI_le (Nat.le_refl _) (by omega)) z⟩
    obtain ⟨e3, g1, g2, e4⟩ := r4
    cases e3
    have key2 := dn (n := l.length) (G := fun i => κ 73 [.ref kW, .int (nI q), .int (nI g), .int (nI l.length), .int (cnW (gD ν l) n p g), .int (nI i)] [] (m2_sr (m2_sr (m2_sr μ8 kR_cost g1) kR_dist g2) kD_left (incF (μ8.1 kD_left) l i))) ?_ (fun i hi ih => ?_)
    · rw [incF_0] at key2
      rw [e4]
      unfold cD
      rw [m2_sr_comm _ (c := kD_left) (c' := kR_cost) _ _ (by decide), m2_sr_comm _ (c := kD_left) (c' := kR_dist) _ _ (by decide)]
      exact key2
    · refine B_X10_canComeBehind_73 hk ⟨fun _ => ⟨rfl, ?_⟩, fun z => absurd (nI_le (Nat.le_refl _) (by omega)) z⟩
      rw [incF_l]
      rw [show m2_sr (m2_sr (m2_sr μ8 kR_cost g1) kR_dist g2) kD_left (μ8.1 kD_left) = m2_sr (m2_sr μ8 kR_cost g1) kR_dist g2 from m2_sr_id (m2_sr (m2_sr μ8 kR_cost g1) kR_dist g2) kD_left]
      exact jC_sr (jC_sr (j2.tr j8) (fun _ => rfl) rfl) (fun _ => rfl) rfl
    · have e0 : l[i]? = some l[i] := List.getElem?_eq_getElem hi
      have e1 : (m2_sr (m2_sr (m2_sr μ8 kR_cost g1) kR_dist g2) kD_left (incF (μ8.1 kD_left) l i)).1 kR_found i = nI l[i] := m82 i _ e0
      have hd := lN3 i _ e0
      refine B_X10_canComeBehind_73 hk ⟨fun z => absurd z (nI_ge hi (by omega)), fun _ => ⟨vp_in_nI (by omega) (by decide), ?_⟩⟩
      rw [nI_clamp (by omega), e1, nI_clamp (by omega), m2_si_sr, m2_sr_same, incF_s lN1 e0, nI_1]
      exact ⟨vp_in_nI (by omega) (by decide), ih⟩
  · have e0 : l[i]? = some l[i] := List.getElem?_eq_getElem hi
    have e1 : (m2_sr μ8 kD_left (decF (μ8.1 kD_left) (l.take i))).1 kR_found i = nI l[i] := m82 i _ e0
    have hd := lN3 i _ e0
    refine B_X10_canComeBehind_29 hk ⟨fun z => absurd z (nI_ge hi (by omega)), fun _ => ⟨vp_in_nI (by omega) (by decide), ?_⟩⟩
    rw [nI_clamp (by omega), e1, nI_clamp (by omega), m2_si_sr, m2_sr_same, decF_s lN1 e0, nI_1]
    exact ⟨vp_in_nI (by omega) (by decide), ih⟩
