/-! Tours.prepare, fewestFrom -/
def frY (μ μ' : m2M) : Prop := ag μ μ' ∧ frC μ μ'
theorem frY.rf {μ : m2M} : frY μ μ := ⟨ag.rf, fr.rf⟩
theorem frY.tr {μ ν ρ : m2M} (h1 : frY μ ν) (h2 : frY ν ρ) : frY μ ρ := ⟨h1.1.tr h2.1, h1.2.tr h2.2⟩
theorem frY.si {μ μ' : m2M} {c j : Nat} {x : Int32} (h : frY μ μ') (h1 : scr c j = true) (h2 : isM c = false) : frY μ (m2_si μ' c j x) := ⟨h.1.tr (ag_si h1), fr_si (by show (!isM c) = true; rw [h2]; rfl) h.2⟩
theorem frY.sr {μ μ' : m2M} {c : Nat} {f : Nat → Int32} (h : frY μ μ') (h1 : ∀ j, scr c j = true) (h2 : isM c = false) : frY μ (m2_sr μ' c f) := ⟨h.1.tr (ag_sr h1), fr_sr (by show (!isM c) = true; rw [h2]; rfl) h.2⟩
theorem jC.y {μ μ' : m2M} (h : jC μ μ') : frY μ μ' := ⟨h.1, h.2.c⟩
theorem frY.R {ν μ μ' : m2M} {n p : Nat} (h : frY μ μ') (q : RLn ν μ n p) : RLn ν μ' n p := q.c h.1.c
theorem scr_far {i : Nat} (hi : i < 6) : (∀ j, scr (kFar i) j = true) ∧ isM (kFar i) = false := by
  rcases (show i = 0 ∨ i = 1 ∨ i = 2 ∨ i = 3 ∨ i = 4 ∨ i = 5 by omega) with rfl | rfl | rfl | rfl | rfl | rfl <;> exact ⟨fun _ => rfl, rfl⟩
theorem scr_rest {v : Nat} : (∀ j, scr (kRest v) j = true) ∧ isM (kRest v) = false := by
  refine ⟨fun j => ?_, ?_⟩
  · have : Nat.ble 122 (kRest v) = true := Nat.ble_eq.mpr (by show 122 ≤ 163 + v; omega)
    unfold scr
    rw [this]
    simp
  · have : Nat.ble (kRest v) 106 = false := by
      cases e : Nat.ble (kRest v) 106 with
      | false => rfl
      | true => have := Nat.ble_eq.mp e; have : 163 + v ≤ 106 := this; omega
    unfold isM
    rw [this, Bool.and_false]
theorem p2_int : ∀ m, m < 7 → (1 : Int32) <<< (nI m &&& 31) = nI (2 ^ m) := by decide +kernel
theorem p2_le {m : Nat} (h : m ≤ 6) : 2 ^ m ≤ 64 := Nat.le_trans (Nat.pow_le_pow_right (by decide) h) (by decide)
def ppT (ν : m2M) (n : Nat) (g : Nat → Bool) (k : Nat) (M : m2M) : Prop := M.1 kT 5 = nI k ∧ (∀ i, i < k → M.1 kT_rooms i = nI (rmN g i)) ∧ ∀ i u, i < k → u < 12 → M.1 (kFar i) u = nI (dF ν n u (rmN g i))
theorem S_measureV {D n p goal : Nat} (hD : 1 ≤ D) (ν μ : m2M) (hR : RLn ν μ n p) (hc : ∀ d, d < n → μ.1 kR_cost d = if hO ν d = true then 1 else 0) (hgoal : goal < 12) : m2_MT D yX8_measure cX8_measure 7 none [.ref kR, .int (nI goal)] μ (fun _ μ' => ∃ f : Nat → Int32, μ' = m2_sr μ kR_dist f ∧ ∀ u, u < 12 → f u = nI (dF ν n u goal)) := by
  refine S_measure hD μ hR.cg (C := fun d => if hO ν d = true then 1 else 0) (fun d hd => ?_) hgoal (wy_F hR.N hR.AB hgoal)
  rw [hc d hd]
  by_cases z : hO ν d = true
  · simp only [if_pos z]; exact ⟨rfl, by decide⟩
  · simp only [if_neg z]; exact ⟨rfl, by decide⟩
set_option maxHeartbeats 1000000 in
theorem S_prepare {D n p : Nat} {g : Nat → Bool} (hD : 2 ≤ D) (ν μ : m2M) (h : RLn ν μ n p) (hm : cnb g 12 ≤ 6) : m2_MT D yX9_prepare cX9_prepare 4 none [.ref kT, .int (bts g 12)] μ (fun _ μ' => frY μ μ' ∧ ppT ν n g (cnb g 12) μ' ∧ ∀ u i, u < 2 ^ cnb g 12 → i < cnb g 12 → μ'.1 (kRest u) i = nI (fvN ν n g u (rmN g i))) := by
  obtain ⟨D, rfl⟩ : ∃ E, D = E + 1 := ⟨D - 1, by omega⟩
  have hn := h.n20
  have hp2 := p2_le hm
  refine m2_MT.intro (ls := [.ref kT, .int (bts g 12), .null, .null]) (by decide +kernel) rfl (ble rfl) (fun κ hk => ?_)
  have y0 : frY μ (m2_si μ kT 5 0) := frY.rf.si rfl rfl
  have hR0 := y0.R h
  refine B_X9_prepare_0 hk ⟨_, S_useAbove (m := 0) (by omega) _ hR0.1.1 hn (fun d hd => ⟨(hR0.cl d hd).1, by have := (hR0.cl d hd).2; omega⟩) (by decide), fun μ2 e2 => ?_⟩
  -- the sets
  have sets : ∀ (M : m2M), frY μ M → ppT ν n g (cnb g 12) M → κ 97 [.ref kT, .int (bts g 12), .int 0, .null] [] M := by
    intro M0 y1 q1
    refine dn (n := 2 ^ cnb g 12) (G := fun v => ∀ M, frY μ M → ppT ν n g (cnb g 12) M → (∀ u i, u < v → i < cnb g 12 → M.1 (kRest u) i = nI (fvN ν n g u (rmN g i))) → κ 97 [.ref kT, .int (bts g 12), .int (nI v), .null] [] M) (fun M hM hP hr => ?_) (fun v hv ih M hM hP hr => ?_) M0 y1 q1 (fun u i hu => absurd hu (Nat.not_lt_zero u))
    · refine B_X9_prepare_97 hk ⟨fun _ => ⟨hM, hP, hr⟩, fun w => absurd ?_ w⟩
      rw [hP.1, p2_int _ (by omega)]
      exact nI_le (Nat.le_refl _) (by omega)
    · refine B_X9_prepare_97 hk ⟨fun w => absurd (by rw [hP.1, p2_int _ (by omega)] at w; exact w) (nI_ge hv (by omega)), fun _ => ?_⟩
      refine dn (n := cnb g 12) (G := fun i => ∀ M, frY μ M → ppT ν n g (cnb g 12) M → (∀ u j, u < v → j < cnb g 12 → M.1 (kRest u) j = nI (fvN ν n g u (rmN g j))) → (∀ j, j < i → M.1 (kRest v) j = nI (fvN ν n g v (rmN g j))) → κ 109 [.ref kT, .int (bts g 12), .int (nI v), .int (nI i)] [] M) (fun M hM hP hr hi => ?_) (fun i hi' ihi M hM hP hr hi => ?_) M hM hP hr (fun j hj => absurd hj (Nat.not_lt_zero j))
      · refine B_X9_prepare_109 hk ⟨fun _ => ?_, fun w => absurd (by rw [hP.1]; exact nI_le (Nat.le_refl _) (by omega)) w⟩
        rw [nI_1]
        refine ih M hM hP (fun u j hu hj => ?_)
        by_cases e : u = v
        · rw [e]; exact hi j hj
        · exact hr u j (by omega) hj
      · obtain ⟨a1, a2, a3⟩ := rmF_ok (g := g) hi'
        refine B_X9_prepare_109 hk ⟨fun w => absurd (by rw [hP.1] at w; exact w) (nI_ge hi' (by omega)), fun _ => ⟨v, rfl, by omega, vp_in_nI (by omega) (by decide), ?_⟩⟩
        rw [nI_clamp (by omega), hP.2.1 i hi']
        refine ⟨_, S_farFrom (g := g) (by omega) M (hM.R h) hm hP.1 hv (show rmN g i < 12 from a2) hP.2.2 hr, fun y5 μ6 h6 => ?_⟩
        obtain ⟨e5, e6⟩ := h6
        cases e5
        subst e6
        rw [nI_1]
        refine ihi _ (hM.si (scr_rest.1 _) scr_rest.2) ⟨?_, fun j hj => ?_, fun j u hj hu => ?_⟩ (fun u j hu hj => ?_) (fun j hj => ?_)
        · rw [si_nc _ _ _ (show kT ≠ 163 + v by show 55 ≠ _; omega)]; exact hP.1
        · rw [si_nc _ _ _ (show kT_rooms ≠ 163 + v by show 56 ≠ _; omega)]; exact hP.2.1 j hj
        · rw [si_nc _ _ _ (show 157 + j ≠ 163 + v by omega)]; exact hP.2.2 j u hj hu
        · rw [si_nc _ _ _ (show 163 + u ≠ 163 + v by omega)]; exact hr u j hu hj
        · by_cases e : j = i
          · rw [e, si_at]
          · rw [si_nj _ _ _ e]; exact hi j (by omega)
  -- the ROOMS
  have rooms : ∀ (f r : Nat) (M : m2M), r + f = 12 → frY μ M → ppT ν n g (cnb g r) M → (∀ d, d < n → M.1 kR_cost d = if hO ν d = true then 1 else 0) → κ 15 [.ref kT, .int (bts g 12), .int (nI r), .null] [] M := by
    intro f
    induction f with
    | zero =>
      intro r M hr hM hP hc
      have e : r = 12 := by omega
      subst e
      exact B_X9_prepare_15 hk (Nat.zero_le _) ⟨fun _ => sets M hM hP, fun w => absurd (nI_le (Nat.le_refl 12) (by decide)) w⟩
    | succ f ih =>
      intro r M hr hM hP hc
      have hr12 : r < 12 := by omega
      have hcr := cnb_mn (g := g) (a := r) (b := 12) (by omega)
      refine B_X9_prepare_15 hk (Nat.zero_le _) ⟨fun w => absurd w (nI_ge (b := 12) hr12 (by decide)), fun _ => ⟨fun w => ?_, fun w => ⟨fun w2 => ?_, fun w2 => ?_⟩⟩⟩
      · have h6 : 6 ≤ cnb g r := by
          apply Classical.byContradiction
          intro z
          rw [hP.1] at w
          exact nI_ge (b := 6) (show cnb g r < 6 by omega) (by decide) w
        have e : cnb g r = cnb g 12 := by omega
        rw [e] at hP
        exact sets M hM hP
      · have hg := (hasB12 hr12).mp w2
        have hc1 : cnb g (r + 1) = cnb g r + 1 := by
          show cnb g r + (if g r = true then 1 else 0) = _
          rw [if_pos hg]
        have hlt := cnb_in hg hr12
        refine ⟨_, S_measureV (by omega) ν M (hM.R h) hc hr12, fun μ14 h14 => ?_⟩
        obtain ⟨df, rfl, d14⟩ := h14
        have e5 : (m2_sr M kR_dist df).1 kT 5 = nI (cnb g r) := hP.1
        refine ⟨cnb g r, e5, by omega, ?_⟩
        have ez : ((0 : Int32)).toNatClampNeg = 0 := by decide
        have et : ((12 : Int32)).toNatClampNeg = 12 := by decide
        have e5' : ∀ F, (m2_sr (m2_sr M kR_dist df) (kFar (cnb g r)) F).1 kT 5 = nI (cnb g r) := fun F => by
          rw [m2_sr_ne _ _ (show kT ≠ 157 + cnb g r by show 55 ≠ _; omega)]
          exact e5
        rw [ez, et, e5', nI_clamp (by omega), nI_1, nI_1]
        refine ⟨vp_in_nI (by omega) (by decide), ?_⟩
        have erm : rmN g (cnb g r) = r := rmN_at hg hr12
        have sf := scr_far (i := cnb g r) (by omega)
        refine ih (r + 1) _ (by omega) ((((hM.sr (c := kR_dist) (fun _ => rfl) rfl).sr sf.1 sf.2).si rfl rfl).si rfl rfl) ?_ (fun d hd => ?_)
        · rw [hc1]
          refine ⟨si_at _ _ _ _, fun i hi => ?_, fun i u hi hu => ?_⟩
          · rw [si_nc _ _ _ (by decide)]
            by_cases e : i = cnb g r
            · rw [e, si_at, erm]
            · rw [si_nj _ _ _ e, m2_sr_ne _ _ (show kT_rooms ≠ 157 + cnb g r by show 56 ≠ _; omega), m2_sr_ne _ _ (by decide : kT_rooms ≠ kR_dist)]
              exact hP.2.1 i (by omega)
          · rw [si_nc _ _ _ (show 157 + i ≠ kT by show _ ≠ 55; omega), si_nc _ _ _ (show 157 + i ≠ kT_rooms by show _ ≠ 56; omega)]
            by_cases e : i = cnb g r
            · rw [e, erm, m2_sr_same, sb_cpy0 hu, m2_sr_same]
              exact d14 u hu
            · rw [m2_sr_ne _ _ (show 157 + i ≠ 157 + cnb g r by omega), m2_sr_ne _ _ (show 157 + i ≠ kR_dist by
                have : kR_dist ≤ 64 := by decide
                omega)]
              exact hP.2.2 i u (by omega) hu
        · rw [si_nc _ _ _ (by decide), si_nc _ _ _ (by decide), m2_sr_ne _ _ (show kR_cost ≠ 157 + cnb g r by
            have : kR_cost ≤ 64 := by decide
            omega), m2_sr_ne _ _ (by decide : kR_cost ≠ kR_dist)]
          exact hc d hd
      · have hg : ¬ g r = true := fun e => w2 ((hasB12 hr12).mpr e)
        have hc1 : cnb g (r + 1) = cnb g r := by
          show cnb g r + (if g r = true then 1 else 0) = _
          rw [if_neg hg]
          rfl
        rw [nI_1]
        refine ih (r + 1) M (by omega) hM (by rw [hc1]; exact hP) hc
  have y2 : frY μ μ2 := by
    rw [e2]
    exact y0.sr (fun _ => rfl) rfl
  refine rooms 12 0 μ2 rfl y2 ⟨?_, fun i hi => absurd hi (Nat.not_lt_zero i), fun i _ hi => absurd hi (Nat.not_lt_zero i)⟩ (fun d hd => ?_)
  · rw [e2, m2_sr_ne _ _ (by decide : kT ≠ kR_cost), si_at]
    rfl
  · rw [e2, m2_sr_same, if_pos hd]
    unfold hO
    by_cases z : 0 < hL ν d
    · rw [if_pos z, if_pos (decide_eq_true z)]
    · rw [if_neg z, if_neg (by rw [decide_eq_false z]; decide)]
