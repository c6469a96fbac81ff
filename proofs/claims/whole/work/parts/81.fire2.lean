/-! home, fire -/
theorem T_home {D : Nat} (hD : 6 ≤ D) (μ : m2M) (h : REL μ) (x1 : Int32) : stp D yX11_home cX11_home 2 (some .int) yX12_home cX12_home 2 (some .int) [.int x1] μ REL := by
  obtain ⟨D, rfl⟩ : ∃ E, D = E + 1 := ⟨D - 1, by omega⟩
  obtain ⟨n, p, hR⟩ := id h
  have hR : RLn μ μ n p := hR
  by_cases hx : in_ 12 x1
  case neg =>
    refine T_of (some (.int (-1))) μ ?_ (fun ν hv => ?_)
    · refine m2_MT.intro (ls := [.ref kC, .int x1]) (by decide +kernel) rfl (ble rfl) (fun κ hk => ?_)
      exact B_X11_home_0 hk (by omega) ⟨fun w => absurd (isRoom_iff.mp w) hx, fun _ => ⟨rfl, hR.r, fr.rf⟩⟩
    · refine m2_MT.intro (ls := [.ref kM, .int x1]) (by decide +kernel) rfl (ble rfl) (fun κ hk => ?_)
      exact B_X12_home_0 hk (by omega) ⟨fun w => absurd (isRoomM_iff.mp w) hx, fun _ => ⟨rfl, hv.thr, fr_si rfl fr.rf⟩⟩
  have hx0 := hx
  obtain ⟨a, ha, rfl⟩ := hx
  let F := fea (dcut n (dA μ) (dB μ) (dT μ) (dL μ)) (hW μ) (fun j => decide (j = a))
  refine T_of (some (.int (nI (cnb (gdB F p) 8)))) (tlM μ [(bts (gdB F p) 8).toInt64]) ?_ (fun ν hv => ?_)
  · refine m2_MT.intro (ls := [.ref kC, .int (nI a)]) (by decide +kernel) rfl (ble rfl) (fun κ hk => ?_)
    refine B_X11_home_0 hk (by omega) ⟨fun _ => ?_, fun w => absurd (isRoom_iff.mpr hx0) w⟩
    rw [bts_one (n := 12) (by decide) ha]
    exact ⟨_, S_rescued (by omega) μ hR, fun y5 μ6 h6 => h6⟩
  · refine m2_MT.intro (ls := [.ref kM, .int (nI a)]) (by decide +kernel) rfl (ble rfl) (fun κ hk => ?_)
    refine B_X12_home_0 hk (by omega) ⟨fun _ => ?_, fun w => absurd (isRoomM_iff.mpr hx0) w⟩
    rw [bts_one (n := 12) (by decide) ha]
    exact ⟨_, S_toRooms (by omega) μ μ _ hR hv.thr, fun y5 μ6 h6 => ⟨h6.1, h6.2.1, (show frM ν (m2_si ν kM 22 0) from fr_si rfl fr.rf).tr h6.2.2⟩⟩
theorem bits12 {x : Int32} (h1 : ¬ x < 1) (h2 : ¬ 4095 < x) : x = bts (fun j => x.toBitVec.getLsbD j) 12 := by
  have h0 : ¬ x < 0 := fun w => h1 (Int32.lt_trans w (by decide))
  obtain ⟨a, ha, rfl⟩ := nI_of h0
  have hle : a ≤ 4095 := by
    apply Classical.byContradiction
    intro w
    exact h2 (nI_lt (a := 4095) (by omega) ha)
  refine bv_ext (fun j hj => ?_)
  rw [bts_get _ _ (by decide)]
  by_cases z : j < 12
  · simp [z]
  · have e : (nI a).toBitVec.getLsbD j = false := by
      have : (nI a).toBitVec = BitVec.ofNat 32 a := rfl
      rw [this, BitVec.getLsbD_ofNat]
      have : a.testBit j = false := Nat.testBit_lt_two_pow (Nat.lt_of_lt_of_le (show a < 2 ^ 12 by omega) (Nat.pow_le_pow_right (by decide) (by omega)))
      rw [this, Bool.and_false]
    rw [e, Bool.and_false]
theorem T_fire {D : Nat} (hD : 6 ≤ D) (μ : m2M) (h : REL μ) (x1 : Int32) : stp D yX11_fire cX11_fire 2 (some .int) yX12_fire cX12_fire 2 (some .int) [.int x1] μ REL := by
  obtain ⟨D, rfl⟩ : ∃ E, D = E + 1 := ⟨D - 1, by omega⟩
  obtain ⟨n, p, hR⟩ := id h
  have hR : RLn μ μ n p := hR
  by_cases hx : ¬ x1 < 1 ∧ ¬ 4095 < x1
  case neg =>
    refine T_of (some (.int (-1))) μ ?_ (fun ν hv => ?_)
    · refine m2_MT.intro (ls := [.ref kC, .int x1]) (by decide +kernel) rfl (ble rfl) (fun κ hk => ?_)
      exact B_X11_fire_0 hk ⟨fun _ => ⟨rfl, hR.r, fr.rf⟩, fun w => ⟨fun _ => ⟨rfl, hR.r, fr.rf⟩, fun w2 => absurd ⟨w, w2⟩ hx⟩⟩
    · refine m2_MT.intro (ls := [.ref kM, .int x1]) (by decide +kernel) rfl (ble rfl) (fun κ hk => ?_)
      exact B_X12_fire_0 hk (by omega) ⟨fun w => absurd (fX12_in_iff.mp w) hx, fun _ => ⟨rfl, hv.thr, fr_si rfl fr.rf⟩⟩
  let F := fea (dcut n (dA μ) (dB μ) (dT μ) (dL μ)) (hW μ) (fun j => x1.toBitVec.getLsbD j)
  have ex := bits12 hx.1 hx.2
  refine T_of (some (.int (nI (cnb (gdB F p) 8)))) (tlM μ [(bts (gdB F p) 8).toInt64]) ?_ (fun ν hv => ?_)
  · refine m2_MT.intro (ls := [.ref kC, .int x1]) (by decide +kernel) rfl (ble rfl) (fun κ hk => ?_)
    refine B_X11_fire_0 hk ⟨fun w => absurd w hx.1, fun _ => ⟨fun w => absurd w hx.2, fun _ => ?_⟩⟩
    have t := S_rescued (D := D) (g := fun j => x1.toBitVec.getLsbD j) (by omega) μ hR
    rw [← ex] at t
    exact ⟨_, t, fun y5 μ6 h6 => h6⟩
  · refine m2_MT.intro (ls := [.ref kM, .int x1]) (by decide +kernel) rfl (ble rfl) (fun κ hk => ?_)
    refine B_X12_fire_0 hk (by omega) ⟨fun _ => ?_, fun w => absurd (fX12_in_iff.mpr hx) w⟩
    have t := S_toRooms (D := D) (g := fun j => x1.toBitVec.getLsbD j) (by omega) μ μ _ hR hv.thr
    rw [← ex] at t
    exact ⟨_, t, fun y5 μ6 h6 => ⟨h6.1, h6.2.1, (show frM ν (m2_si ν kM 22 0) from fr_si rfl fr.rf).tr h6.2.2⟩⟩
