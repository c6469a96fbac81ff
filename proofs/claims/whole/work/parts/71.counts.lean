/-! counts -/
theorem dcut_cL {m : Nat} {A B : Nat → Nat} {T : Nat → Bool} {L L' : Nat → Nat} (h : ∀ d, d < m → L d = L' d) : dcut m A B T L = dcut m A B T L' := by
  funext X
  refine sumN_congr (fun d hd => ?_)
  unfold rcT fwS
  rw [h d hd]
set_option maxHeartbeats 1000000 in
theorem T_counts {D : Nat} (hD : 4 ≤ D) (μ : m2M) (h : REL μ) (x1 x2 x3 : Int32) : stp D yX11_counts cX11_counts 7 (some .int) yX12_counts cX12_counts 5 (some .int) [.int x1, .int x2, .int x3] μ REL := by
  obtain ⟨D, rfl⟩ : ∃ E, D = E + 1 := ⟨D - 1, by omega⟩
  obtain ⟨n, p, hR⟩ := id h
  have hR : RLn μ μ n p := hR
  have hn := hR.n20
  by_cases hx : (in_ 12 x1 ∧ in_ 12 x2 ∧ x1 ≠ x2) ∧ in_ n x3
  case neg =>
    refine T_of (some (.int (-1))) μ ?_ (fun ν hv => ?_)
    · refine m2_MT.intro (ls := [.ref kC, .int x1, .int x2, .int x3, .null, .null, .null]) (by decide +kernel) rfl (ble rfl) (fun κ hk => ?_)
      exact B_X11_counts_0 hk (by omega) ⟨fun w => ⟨fun w2 => absurd ⟨unlike_iff.mp w, (fX0_has_iff hR.1.1 hn).mp w2⟩ hx, fun _ => ⟨rfl, hR.r, fr.rf⟩⟩, fun _ => ⟨rfl, hR.r, fr.rf⟩⟩
    · refine m2_MT.intro (ls := [.ref kM, .int x1, .int x2, .int x3, .null]) (by decide +kernel) rfl (ble rfl) (fun κ hk => ?_)
      have e0 : (m2_si ν kM 22 0).1 kM 0 = nI n := (hv.thr.1 kM 0 rfl rfl).trans hR.1.2.1
      exact B_X12_counts_0 hk (by omega) ⟨fun w => ⟨fun w2 => absurd ⟨ends_iff.mp w, (fX12_isDoor_iff e0 hn).mp w2⟩ hx, fun _ => ⟨rfl, hv.thr, fr_si rfl fr.rf⟩⟩, fun _ => ⟨rfl, hv.thr, fr_si rfl fr.rf⟩⟩
  obtain ⟨hx0, hd0⟩ := id hx
  obtain ⟨⟨⟨a, ha, rfl⟩, ⟨b, hb, rfl⟩, hne⟩, ⟨d, hd, rfl⟩⟩ := hx
  have hab : a ≠ b := fun e => hne (by rw [e])
  have zd := hR.dr hd
  let L1 := updN (dL μ) d 0
  let L2 := updN (dL μ) d (dL μ d + 1)
  let dc0 := dcut n (dA μ) (dB μ) (dT μ) (dL μ)
  let dc1 := dcut n (dA μ) (dB μ) (dT μ) L1
  let dc2 := dcut n (dA μ) (dB μ) (dT μ) L2
  refine T_of (some (.int (nI (mV dc0 a b) - nI (mV dc1 a b)))) (tlM μ [(nI (mV dc2 a b) - nI (mV dc0 a b)).toInt64]) ?_ (fun ν hv => ?_)
  · refine m2_MT.intro (ls := [.ref kC, .int (nI a), .int (nI b), .int (nI d), .null, .null, .null]) (by decide +kernel) rfl (ble rfl) (fun κ hk => ?_)
    refine B_X11_counts_0 hk (by omega) ⟨fun _ => ⟨fun _ => ⟨_, S_load (by omega) μ μ hR, fun μ6 h6 => ?_⟩, fun w => absurd ((fX0_has_iff hR.1.1 hn).mpr hd0) w⟩, fun w => absurd (unlike_iff.mpr hx0) w⟩
    obtain ⟨f6, a6, _⟩ := h6
    refine ⟨_, S_greatestW (by omega) μ6 a6 ha hb hab, fun y14 μ15 h15 => ⟨vp_in_nI (by omega) (by decide), ?_⟩⟩
    obtain ⟨f15, e15, _⟩ := h15
    cases e15
    have fK15 : frK μ μ15 := f6.tr f15.k
    have a15 := f15.Aa a6
    rw [nI_clamp (by omega)]
    have a15' : fwA (m2_si μ15 kF_lets d 0) n (dA μ) (dB μ) (dT μ) L1 := a15.lets (d := d) (v := 0) (by omega)
    refine ⟨_, S_greatestW (by omega) _ a15' ha hb hab, fun y20 μ21 h21 => ⟨vp_in_nI (by omega) (by decide), ?_⟩⟩
    obtain ⟨f21, e21, _⟩ := h21
    cases e21
    have fK21 : frK μ μ21 := (show frK μ (m2_si μ15 kF_lets d 0) from fr_si rfl fK15).tr f21.k
    have a21 := f21.Aa a15'
    rw [(fK21 kD_left rfl).1, (hR.1.2.2.2 d hd).1.2.2.2.2.1, zd.2.2.2.2.2.2.1, nI_1]
    have a21' : fwA (m2_si μ21 kF_lets d (nI (dL μ d + 1))) n (dA μ) (dB μ) (dT μ) L2 := (a21.lets (d := d) (v := dL μ d + 1) (by omega)).cL (fun e he => by
      show updN (updN (dL μ) d 0) d (dL μ d + 1) e = updN (dL μ) d (dL μ d + 1) e
      by_cases z : e = d
      · rw [z, updN_at, updN_at]
      · rw [updN_ne z, updN_ne z, updN_ne z])
    refine ⟨_, S_greatestW (by omega) _ a21' ha hb hab, fun y27 μ28 h28 => ?_⟩
    obtain ⟨f28, e28, _⟩ := h28
    cases e28
    have fK28 : frK μ μ28 := (show frK μ (m2_si μ21 kF_lets d (nI (dL μ d + 1))) from fr_si rfl fK21).tr f28.k
    refine ⟨_, S_tellC _ _ rC.i (by decide), fun μ33 h33 => ⟨rfl, ?_, ?_⟩⟩
    · exact REL2.tell (fK28.j.R hR).r h33.1 (twC.i.tr h33.2) (ble rfl)
    · exact h33.2.fr rfl rfl (twC.i.fr rfl rfl fK28.j.2.c)
  · have hv' := hv.thr
    have f1 : frM ν (m2_si ν kM 22 0) := fr_si rfl fr.rf
    refine m2_MT.intro (ls := [.ref kM, .int (nI a), .int (nI b), .int (nI d), .null]) (by decide +kernel) rfl (ble rfl) (fun κ hk => ?_)
    have e0 : (m2_si ν kM 22 0).1 kM 0 = nI n := (hv'.1 kM 0 rfl rfl).trans hR.1.2.1
    refine B_X12_counts_0 hk (by omega) ⟨fun _ => ⟨fun _ => ⟨_, S_manyWith (L := dL μ) (by omega) μ μ _ hR hv'.f (by omega) (by omega) hab (fun e he => ⟨by have := (hR.dr he).2.2.2.2.2.2.2; omega, by rw [if_neg (nI_ne_m1 (by omega)), Int32.add_zero]⟩), fun y9 μ10 h10 => ?_⟩, fun w => absurd ((fX12_isDoor_iff e0 hn).mpr hd0) w⟩, fun w => absurd (ends_iff.mpr hx0) w⟩
    obtain ⟨f10, e10, _⟩ := h10
    cases e10
    have v10 := frGm_v f10 hv'
    have m10 : frM ν μ10 := f1.tr (frGm_m f10)
    refine ⟨_, S_manyWith (L := L2) (by omega) μ μ _ hR (twM.i.f v10.f) (by omega) (by omega) hab (fun e he => ?_), fun y14 μ15 h15 => ?_⟩
    · have ze := hR.dr he
      by_cases z : e = d
      · subst z
        rw [if_pos rfl]
        show updN (dL μ) e (dL μ e + 1) e ≤ 61 ∧ _ = nI (updN (dL μ) e (dL μ e + 1) e)
        rw [updN_at]
        exact ⟨by omega, nI_1 _⟩
      · rw [if_neg (fun w => z ((nI_eq (by omega) (by omega)).mp w)), Int32.add_zero]
        show updN (dL μ) d (dL μ d + 1) e ≤ 61 ∧ _ = nI (updN (dL μ) d (dL μ d + 1) e)
        rw [updN_ne z]
        exact ⟨by omega, rfl⟩
    obtain ⟨f15, e15, _⟩ := h15
    cases e15
    have t15 : rM [] μ15 := by
      refine ⟨?_, fun i hi => absurd hi (Nat.not_lt_zero i)⟩
      rw [(f15 kM rfl).1]
      exact rM.i.1
    refine ⟨_, S_tellM _ _ t15 (by decide), fun μ20 h20 => ⟨vp_in_nI (by omega) (by decide), ?_⟩⟩
    have vF20 : vF μ μ20 := h20.2.f (frGm_f f15 (twM.i.f v10.f))
    rw [nI_clamp (by omega), vF20 kM_left d rfl rfl (fun e => absurd e.1 (by decide)), zd.2.2.2.2.2.2.1]
    refine ⟨_, S_manyWith (L := L1) (by omega) μ μ _ hR vF20 (by omega) (by omega) hab (fun e he => ?_), fun y25 μ26 h26 => ?_⟩
    · have ze := hR.dr he
      by_cases z : e = d
      · subst z
        rw [if_pos rfl]
        show updN (dL μ) e 0 e ≤ 61 ∧ _ = nI (updN (dL μ) e 0 e)
        rw [updN_at]
        refine ⟨by omega, ?_⟩
        rw [← Int32.sub_eq_add_neg, Int32.sub_self]
        rfl
      · rw [if_neg (fun w => z ((nI_eq (by omega) (by omega)).mp w)), Int32.add_zero]
        show updN (dL μ) d 0 e ≤ 61 ∧ _ = nI (updN (dL μ) d 0 e)
        rw [updN_ne z]
        exact ⟨by omega, rfl⟩
    obtain ⟨f26, e26, _⟩ := h26
    cases e26
    have m20 : frM ν μ20 := h20.2.fr rfl rfl ((show frM ν (m2_si μ10 kM 21 0) from fr_si rfl m10).tr (frGm_m f15))
    refine ⟨rfl, frGm_v f26 ?_, m20.tr (frGm_m f26)⟩
    -- the ROW as it is told
    refine ⟨fun c j h1 h2 => ?_, fun r j h1 h2 h3 => ?_⟩
    · by_cases e : c = kM ∧ j = 21
      · rw [e.1, e.2, h20.1.1]
        exact (si_at _ _ _ _).symm
      · rw [vF20 c j h1 h2 e]
        unfold tlM
        by_cases e1 : c = kM
        · subst e1
          rw [si_nj _ _ _ (fun q => e ⟨rfl, q⟩)]
          rfl
        · rw [si_nc _ _ _ e1]
          rfl
    · have e1 : (tlM μ [(nI (mV dc2 a b) - nI (mV dc0 a b)).toInt64]).1 kM 21 = nI 1 := si_at _ _ _ _
      rw [e1] at h1
      have : 1 = r := (nI_eq (by decide) (by omega)).mp h1
      rw [h20.1.2 j (by simpa using (show j < 1 by omega))]
      unfold tlM
      rw [show (m2_si (m2_sl μ kM_row (lst [(nI (mV dc2 a b) - nI (mV dc0 a b)).toInt64])) kM 21 (nI ([(nI (mV dc2 a b) - nI (mV dc0 a b)).toInt64] : List Int64).length)).2 = (m2_sl μ kM_row (lst [(nI (mV dc2 a b) - nI (mV dc0 a b)).toInt64])).2 from rfl, m2_sl_same]
      rfl
