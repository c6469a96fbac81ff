/-! bars, counts -/
theorem fwA.lets {μ : m2M} {m d v : Nat} {A B : Nat → Nat} {T : Nat → Bool} {L : Nat → Nat} (q : fwA μ m A B T L) (hv : v ≤ 61) : fwA (m2_si μ kF_lets d (nI v)) m A B T (updN L d v) := by
  obtain ⟨h1, h2, h3⟩ := q
  refine ⟨by rw [si_nc _ _ _ (by decide)]; exact h1, h2, fun e he => ?_⟩
  rw [si_nc _ _ _ (by decide : kF_a ≠ kF_lets), si_nc _ _ _ (by decide : kF_b ≠ kF_lets), si_nc _ _ _ (by decide : kF_oneWay ≠ kF_lets)]
  obtain ⟨a1, a2, a3, a4, a5, a6, a7, a8⟩ := h3 e he
  refine ⟨a1, a2, a3, a4, a5, a6, ?_, ?_⟩
  · by_cases z : e = d
    · rw [z, si_at, updN_at]
    · rw [si_nj _ _ _ z, updN_ne z]; exact a7
  · by_cases z : e = d
    · rw [z, updN_at]; exact hv
    · rw [updN_ne z]; exact a8
theorem fwA.cL {μ : m2M} {m : Nat} {A B : Nat → Nat} {T : Nat → Bool} {L L' : Nat → Nat} (q : fwA μ m A B T L) (h : ∀ d, d < m → L d = L' d) : fwA μ m A B T L' := by
  obtain ⟨h1, h2, h3⟩ := q
  refine ⟨h1, h2, fun d hd => ?_⟩
  rw [← h d hd]
  exact h3 d hd
theorem lyS_skip {ν M : m2M} {L : Nat → Nat} {i : Nat} (h : lyS ν L i M) (hL : L i = 0) : lyS ν L (i + 1) M := by
  obtain ⟨c, c1, c2, c3⟩ := h
  refine ⟨c, c1, fun k hk => by have := c2 k hk; omega, fun X => ?_⟩
  rw [c3 X]
  show _ = sumN (rcT (dA ν) (dB ν) (dT ν) L L X) i + rcT (dA ν) (dB ν) (dT ν) L L X i
  have : rcT (dA ν) (dB ν) (dT ν) L L X i = 0 := by
    unfold rcT fwS
    rw [hL]
    simp
  rw [this, Nat.add_zero]
set_option maxHeartbeats 1000000 in
theorem T_bars {D : Nat} (hD : 4 ≤ D) (μ : m2M) (h : REL μ) (x1 x2 : Int32) : stp D yX11_bars cX11_bars 4 (some .int) yX12_bars cX12_bars 4 (some .int) [.int x1, .int x2] μ REL := by
  obtain ⟨D, rfl⟩ : ∃ E, D = E + 1 := ⟨D - 1, by omega⟩
  obtain ⟨n, p, hR⟩ := id h
  have hR : RLn μ μ n p := hR
  have hn := hR.n20
  by_cases hx : in_ 12 x1 ∧ in_ 12 x2 ∧ x1 ≠ x2
  case neg =>
    refine T_of (some (.int (-1))) μ ?_ (fun ν hv => ?_)
    · refine m2_MT.intro (ls := [.ref kC, .int x1, .int x2, .null]) (by decide +kernel) rfl (ble rfl) (fun κ hk => ?_)
      exact B_X11_bars_0 hk (by omega) ⟨fun w => absurd (unlike_iff.mp w) hx, fun _ => ⟨rfl, hR.r, fr.rf⟩⟩
    · refine m2_MT.intro (ls := [.ref kM, .int x1, .int x2, .null]) (by decide +kernel) rfl (ble rfl) (fun κ hk => ?_)
      exact B_X12_bars_0 hk (by omega) ⟨fun w => absurd (ends_iff.mp w) hx, fun _ => ⟨rfl, hv.thr, fr_si rfl fr.rf⟩⟩
  have hx0 := hx
  obtain ⟨⟨a, ha, rfl⟩, ⟨b, hb, rfl⟩, hne⟩ := hx
  have hab : a ≠ b := fun e => hne (by rw [e])
  let L : Nat → Nat := fun d => min (dL μ d) 1
  let dc := dcut n (dA μ) (dB μ) (dT μ) L
  refine T_of (some (.int (nI (mV dc a b)))) μ ?_ (fun ν hv => ?_)
  · refine m2_MT.intro (ls := [.ref kC, .int (nI a), .int (nI b), .null]) (by decide +kernel) rfl (ble rfl) (fun κ hk => ?_)
    refine B_X11_bars_0 hk (by omega) ⟨fun _ => ⟨_, S_load (by omega) μ μ hR, fun μ6 h6 => ?_⟩, fun w => absurd (unlike_iff.mpr hx0) w⟩
    obtain ⟨f6, a6, _⟩ := h6
    refine dn (n := n) (G := fun i => ∀ M, frK μ M → fwA M n (dA μ) (dB μ) (dT μ) (fun d => if d < i then L d else dL μ d) → κ 23 [.ref kC, .int (nI a), .int (nI b), .int (nI i)] [] M) (fun M hM hA => ?_) (fun i hi ih M hM hA => ?_) μ6 f6 (a6.cL (fun d _ => by rw [if_neg (Nat.not_lt_zero d)]))
    · have hA' : fwA M n (dA μ) (dB μ) (dT μ) L := hA.cL (fun d hd => by rw [if_pos hd])
      refine B_X11_bars_23 hk (Nat.zero_le _) ⟨fun _ => ⟨_, S_greatestW (by omega) M hA' ha hb hab, fun y3 μ4 h4 => ?_⟩, fun w => absurd (by rw [(hM kD rfl).1, hR.1.1]; exact nI_le (Nat.le_refl _) (by omega)) w⟩
      obtain ⟨f4, e4, _⟩ := h4
      cases e4
      have fK : frK μ μ4 := hM.tr f4.k
      exact ⟨rfl, (fK.j.R hR).r, fK.j.2.c⟩
    · refine B_X11_bars_23 hk (Nat.zero_le _) ⟨fun w => absurd (by rw [(hM kD rfl).1, hR.1.1] at w; exact w) (nI_ge hi (by omega)), fun _ => ⟨vp_in_nI (by omega) (by decide), vp_in_nI (by omega) (by decide), ?_⟩⟩
      have z := hR.dr hi
      rw [nI_clamp (by omega), (hM kD_left rfl).1, (hR.1.2.2.2 i hi).1.2.2.2.2.1, z.2.2.2.2.2.2.1, show (1 : Int32) = nI 1 from rfl, min_nI (by have := z.2.2.2.2.2.2.2; omega) (by decide), nI_add]
      refine ih _ (fr_si rfl hM) ((hA.lets (d := i) (v := min (dL μ i) 1) (by omega)).cL (fun d hd => ?_))
      by_cases e : d = i
      · rw [e, updN_at, if_pos (by omega)]
      · rw [updN_ne e]
        by_cases e2 : d < i
        · rw [if_pos e2, if_pos (by omega)]
        · rw [if_neg e2, if_neg (by omega)]
  · have hv' := hv.thr
    have f1 : frM ν (m2_si ν kM 22 0) := fr_si rfl fr.rf
    refine m2_MT.intro (ls := [.ref kM, .int (nI a), .int (nI b), .null]) (by decide +kernel) rfl (ble rfl) (fun κ hk => ?_)
    refine B_X12_bars_0 hk (by omega) ⟨fun _ => ⟨_, S_clearFlow _, fun μ6 h6 => ?_⟩, fun w => absurd (ends_iff.mpr hx0) w⟩
    refine dn (n := n) (G := fun i => ∀ M, fr isGm (m2_si ν kM 22 0) M → lyS μ L i M → κ 21 [.ref kM, .int (nI a), .int (nI b), .int (nI i)] [] M) (fun M hM hs => ?_) (fun i hi ih M hM hs => ?_) μ6 h6.1 (lyS_0 h6.2)
    · have vv := frGm_v hM hv'
      refine B_X12_bars_21 hk ⟨fun _ => ⟨_, S_flowD (by omega) μ M hn hs (by omega) (by omega) hab, fun y μ4 h4 => ?_⟩, fun w => absurd (by rw [vv.1 kM 0 rfl rfl, hR.1.2.1]; exact nI_le (Nat.le_refl _) (by omega)) w⟩
      obtain ⟨f4, e4, _⟩ := h4
      cases e4
      exact ⟨rfl, frGm_v f4 vv, f1.tr (frGm_m (hM.tr f4))⟩
    · have vv := frGm_v hM hv'
      have z := hR.dr hi
      refine B_X12_bars_21 hk ⟨fun w => absurd (by rw [vv.1 kM 0 rfl rfl, hR.1.2.1] at w; exact w) (nI_ge hi (by omega)), fun _ => ⟨vp_in_nI (by omega) (by decide), ?_⟩⟩
      rw [nI_clamp (by omega), vv.1 kM_left i rfl rfl, z.2.2.2.2.2.2.1, nI_1]
      have el := nI_le0 (a := dL μ i) (by have := z.2.2.2.2.2.2.2; omega)
      refine ⟨fun w => ih M hM (lyS_skip hs ?_), fun w => ?_⟩
      · show min (dL μ i) 1 = 0
        have := el.mp w
        omega
      · have e1 : L i = 1 := by
          show min (dL μ i) 1 = 1
          have : dL μ i ≠ 0 := fun e => w (el.mpr e)
          omega
        exact ⟨_, S_layDoor μ μ M hR vv.f hi (by omega) (by rw [e1]; rfl) hs, fun μ12 h12 => ih μ12 (hM.tr h12.1) h12.2⟩
