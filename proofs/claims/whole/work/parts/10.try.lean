theorem dX11_asNumber_0 : decode cX11_asNumber 0 = .ok (.iload_n 0, 1) := by decide +kernel
theorem dX11_asNumber_1 : decode cX11_asNumber 1 = .ok (.ifCond .eq 7, 3) := by decide +kernel
theorem dX11_asNumber_4 : decode cX11_asNumber 4 = .ok (.iconst 1, 1) := by decide +kernel
theorem dX11_asNumber_5 : decode cX11_asNumber 5 = .ok (.goto 4, 3) := by decide +kernel
theorem dX11_asNumber_8 : decode cX11_asNumber 8 = .ok (.iconst 0, 1) := by decide +kernel
theorem dX11_asNumber_9 : decode cX11_asNumber 9 = .ok (.ireturn, 1) := by decide +kernel
set_option maxRecDepth 100000 in
set_option maxHeartbeats 4000000 in
theorem P_X11_asNumber {D : Nat} (hD : 0 ≤ D) (x1 : Int32) (μ : m2M)  : m2_MT D yX11_asNumber cX11_asNumber 1 (some .int) [.int x1] μ (fun r μ' => r = some (.int (if x1 = 0 then 0 else 1 : Int32)) ∧ μ' = μ) := by
  refine m2_MT.intro (ls := [.int x1]) (by decide +kernel) rfl (Nat.le_of_ble_eq_true rfl) (fun κ h => ?_)
  have hB := h.b
  refine m2_iload_n hB dX11_asNumber_0 rfl ?_
  refine m2_if_eq hB dX11_asNumber_1 (tgt := 8) (by decide) (fun q1 : x1 = 0 => ?_) (fun q1 : ¬ x1 = 0 => ?_)
  · skip
    refine m2_iconst hB dX11_asNumber_8 (v := 0) (by decide) ?_
    exact m2_iret h dX11_asNumber_9 ⟨by rw [if_pos q1], rfl⟩
  · skip
    refine m2_iconst hB dX11_asNumber_4 (v := 1) (by decide) ?_
    refine m2_goto hB dX11_asNumber_5 (tgt := 9) (by decide) ?_
    exact m2_iret h dX11_asNumber_9 ⟨by rw [if_neg q1], rfl⟩
theorem dX0_has_0 : decode cX0_has 0 = .ok (.iload_n 1, 1) := by decide +kernel
theorem dX0_has_1 : decode cX0_has 1 = .ok (.ifCond .lt 15, 3) := by decide +kernel
theorem dX0_has_4 : decode cX0_has 4 = .ok (.iload_n 1, 1) := by decide +kernel
theorem dX0_has_5 : decode cX0_has 5 = .ok (.aload_n 0, 1) := by decide +kernel
theorem dX0_has_6 : decode cX0_has 6 = .ok (.getfield 31, 3) := by decide +kernel
theorem dX0_has_9 : decode cX0_has 9 = .ok (.if_icmp .ge 7, 3) := by decide +kernel
theorem dX0_has_12 : decode cX0_has 12 = .ok (.iconst 1, 1) := by decide +kernel
theorem dX0_has_13 : decode cX0_has 13 = .ok (.goto 4, 3) := by decide +kernel
theorem dX0_has_16 : decode cX0_has 16 = .ok (.iconst 0, 1) := by decide +kernel
theorem dX0_has_17 : decode cX0_has 17 = .ok (.ireturn, 1) := by decide +kernel
set_option maxRecDepth 100000 in
set_option maxHeartbeats 4000000 in
theorem P_X0_has {D : Nat} (hD : 0 ≤ D) (x1 : Int32) (μ : m2M)  : m2_MT D yX0_has cX0_has 2 (some .boolean) [.ref kD, .int x1] μ (fun r μ' => r = some (.int (if x1 < 0 then 0 else (if (μ.1 kD 6) ≤ x1 then 0 else 1 : Int32) : Int32)) ∧ μ' = μ) := by
  refine m2_MT.intro (ls := [.ref kD, .int x1]) (by decide +kernel) rfl (Nat.le_of_ble_eq_true rfl) (fun κ h => ?_)
  have hB := h.b
  refine m2_iload_n hB dX0_has_0 rfl ?_
  refine m2_if_lt hB dX0_has_1 (tgt := 16) (by decide) (fun q1 : x1 < 0 => ?_) (fun q1 : ¬ x1 < 0 => ?_)
  · skip
    refine m2_iconst hB dX0_has_16 (v := 0) (by decide) ?_
    exact m2_zret h dX0_has_17 (Or.inl rfl) ⟨by rw [if_pos q1], rfl⟩
  · skip
    refine m2_iload_n hB dX0_has_4 rfl ?_
    refine m2_aload_n hB dX0_has_5 rfl ?_
    refine m2_getI hB dX0_has_6 fl_X0_31 sh_kD rfl ?_
    refine m2_icmp_ge hB dX0_has_9 (tgt := 16) (by decide) (fun q2 : (μ.1 kD 6) ≤ x1 => ?_) (fun q2 : ¬ (μ.1 kD 6) ≤ x1 => ?_)
    · skip
      refine m2_iconst hB dX0_has_16 (v := 0) (by decide) ?_
      exact m2_zret h dX0_has_17 (Or.inl rfl) ⟨by rw [if_neg q1, if_pos q2], rfl⟩
    · skip
      refine m2_iconst hB dX0_has_12 (v := 1) (by decide) ?_
      refine m2_goto hB dX0_has_13 (tgt := 17) (by decide) ?_
      exact m2_zret h dX0_has_17 (Or.inr rfl) ⟨by rw [if_neg q1, if_neg q2], rfl⟩
theorem dX0_beyond_0 : decode cX0_beyond 0 = .ok (.aload_n 0, 1) := by decide +kernel
theorem dX0_beyond_1 : decode cX0_beyond 1 = .ok (.getfield 9, 3) := by decide +kernel
theorem dX0_beyond_4 : decode cX0_beyond 4 = .ok (.iload_n 1, 1) := by decide +kernel
theorem dX0_beyond_5 : decode cX0_beyond 5 = .ok (.iaload, 1) := by decide +kernel
theorem dX0_beyond_6 : decode cX0_beyond 6 = .ok (.iload_n 2, 1) := by decide +kernel
theorem dX0_beyond_7 : decode cX0_beyond 7 = .ok (.if_icmp .ne 10, 3) := by decide +kernel
theorem dX0_beyond_10 : decode cX0_beyond 10 = .ok (.aload_n 0, 1) := by decide +kernel
theorem dX0_beyond_11 : decode cX0_beyond 11 = .ok (.getfield 15, 3) := by decide +kernel
theorem dX0_beyond_14 : decode cX0_beyond 14 = .ok (.iload_n 1, 1) := by decide +kernel
theorem dX0_beyond_15 : decode cX0_beyond 15 = .ok (.iaload, 1) := by decide +kernel
theorem dX0_beyond_16 : decode cX0_beyond 16 = .ok (.ireturn, 1) := by decide +kernel
theorem dX0_beyond_17 : decode cX0_beyond 17 = .ok (.aload_n 0, 1) := by decide +kernel
theorem dX0_beyond_18 : decode cX0_beyond 18 = .ok (.getfield 15, 3) := by decide +kernel
theorem dX0_beyond_21 : decode cX0_beyond 21 = .ok (.iload_n 1, 1) := by decide +kernel
theorem dX0_beyond_22 : decode cX0_beyond 22 = .ok (.iaload, 1) := by decide +kernel
theorem dX0_beyond_23 : decode cX0_beyond 23 = .ok (.iload_n 2, 1) := by decide +kernel
theorem dX0_beyond_24 : decode cX0_beyond 24 = .ok (.if_icmp .ne 21, 3) := by decide +kernel
theorem dX0_beyond_27 : decode cX0_beyond 27 = .ok (.aload_n 0, 1) := by decide +kernel
theorem dX0_beyond_28 : decode cX0_beyond 28 = .ok (.getfield 18, 3) := by decide +kernel
theorem dX0_beyond_31 : decode cX0_beyond 31 = .ok (.iload_n 1, 1) := by decide +kernel
theorem dX0_beyond_32 : decode cX0_beyond 32 = .ok (.baload, 1) := by decide +kernel
theorem dX0_beyond_33 : decode cX0_beyond 33 = .ok (.ifCond .ne 12, 3) := by decide +kernel
theorem dX0_beyond_36 : decode cX0_beyond 36 = .ok (.aload_n 0, 1) := by decide +kernel
theorem dX0_beyond_37 : decode cX0_beyond 37 = .ok (.getfield 9, 3) := by decide +kernel
theorem dX0_beyond_40 : decode cX0_beyond 40 = .ok (.iload_n 1, 1) := by decide +kernel
theorem dX0_beyond_41 : decode cX0_beyond 41 = .ok (.iaload, 1) := by decide +kernel
theorem dX0_beyond_42 : decode cX0_beyond 42 = .ok (.goto 4, 3) := by decide +kernel
theorem dX0_beyond_45 : decode cX0_beyond 45 = .ok (.iconst (-1), 1) := by decide +kernel
theorem dX0_beyond_46 : decode cX0_beyond 46 = .ok (.ireturn, 1) := by decide +kernel
set_option maxRecDepth 100000 in
set_option maxHeartbeats 4000000 in
theorem P_X0_beyond {D : Nat} (hD : 0 ≤ D) (x1 : Int32) (x2 : Int32) (μ : m2M) (s0 : vp_in x1 20) : m2_MT D yX0_beyond cX0_beyond 3 (some .int) [.ref kD, .int x1, .int x2] μ (fun r μ' => r = some (.int (if (μ.1 kD_a (x1).toNatClampNeg) = x2 then (μ.1 kD_b (x1).toNatClampNeg) else (if (μ.1 kD_b (x1).toNatClampNeg) = x2 then (if (μ.1 kD_oneWay (x1).toNatClampNeg) = 0 then (μ.1 kD_a (x1).toNatClampNeg) else (-1) : Int32) else (-1) : Int32) : Int32)) ∧ μ' = μ) := by
  refine m2_MT.intro (ls := [.ref kD, .int x1, .int x2]) (by decide +kernel) rfl (Nat.le_of_ble_eq_true rfl) (fun κ h => ?_)
  have hB := h.b
  refine m2_aload_n hB dX0_beyond_0 rfl ?_
  refine m2_getR hB dX0_beyond_1 fl_X0_9 sh_kD (c1 := kD_a) rfl ?_
  refine m2_iload_n hB dX0_beyond_4 rfl ?_
  have hi1 := s0
  refine m2_iald hB dX0_beyond_5 sh_kD_a hi1 ?_
  refine m2_iload_n hB dX0_beyond_6 rfl ?_
  refine m2_icmp_ne hB dX0_beyond_7 (tgt := 17) (by decide) (fun q2 : ¬ (μ.1 kD_a (x1).toNatClampNeg) = x2 => ?_) (fun q2 : (μ.1 kD_a (x1).toNatClampNeg) = x2 => ?_)
  · skip
    refine m2_aload_n hB dX0_beyond_17 rfl ?_
    refine m2_getR hB dX0_beyond_18 fl_X0_15 sh_kD (c1 := kD_b) rfl ?_
    refine m2_iload_n hB dX0_beyond_21 rfl ?_
    have hi3 := hi1
    refine m2_iald hB dX0_beyond_22 sh_kD_b hi3 ?_
    refine m2_iload_n hB dX0_beyond_23 rfl ?_
    refine m2_icmp_ne hB dX0_beyond_24 (tgt := 45) (by decide) (fun q4 : ¬ (μ.1 kD_b (x1).toNatClampNeg) = x2 => ?_) (fun q4 : (μ.1 kD_b (x1).toNatClampNeg) = x2 => ?_)
    · skip
      refine m2_iconst hB dX0_beyond_45 (v := (-1)) (by decide) ?_
      exact m2_iret h dX0_beyond_46 ⟨by rw [if_neg q2, if_neg q4], rfl⟩
    · skip
      refine m2_aload_n hB dX0_beyond_27 rfl ?_
      refine m2_getR hB dX0_beyond_28 fl_X0_18 sh_kD (c1 := kD_oneWay) rfl ?_
      refine m2_iload_n hB dX0_beyond_31 rfl ?_
      have hi5 := hi1
      refine m2_zald hB dX0_beyond_32 sh_kD_oneWay hi5 ?_
      refine m2_if_ne hB dX0_beyond_33 (tgt := 45) (by decide) (fun q6 : ¬ (μ.1 kD_oneWay (x1).toNatClampNeg) = 0 => ?_) (fun q6 : (μ.1 kD_oneWay (x1).toNatClampNeg) = 0 => ?_)
      · skip
        refine m2_iconst hB dX0_beyond_45 (v := (-1)) (by decide) ?_
        exact m2_iret h dX0_beyond_46 ⟨by rw [if_neg q2, if_pos q4, if_neg q6], rfl⟩
      · skip
        refine m2_aload_n hB dX0_beyond_36 rfl ?_
        refine m2_getR hB dX0_beyond_37 fl_X0_9 sh_kD (c1 := kD_a) rfl ?_
        refine m2_iload_n hB dX0_beyond_40 rfl ?_
        have hi7 := hi1
        refine m2_iald hB dX0_beyond_41 sh_kD_a hi7 ?_
        refine m2_goto hB dX0_beyond_42 (tgt := 46) (by decide) ?_
        exact m2_iret h dX0_beyond_46 ⟨by rw [if_neg q2, if_pos q4, if_pos q6], rfl⟩
  · skip
    refine m2_aload_n hB dX0_beyond_10 rfl ?_
    refine m2_getR hB dX0_beyond_11 fl_X0_15 sh_kD (c1 := kD_b) rfl ?_
    refine m2_iload_n hB dX0_beyond_14 rfl ?_
    have hi8 := hi1
    refine m2_iald hB dX0_beyond_15 sh_kD_b hi8 ?_
    exact m2_iret h dX0_beyond_16 ⟨by rw [if_pos q2], rfl⟩
theorem dX11_isRoom_0 : decode cX11_isRoom 0 = .ok (.iload_n 0, 1) := by decide +kernel
theorem dX11_isRoom_1 : decode cX11_isRoom 1 = .ok (.ifCond .lt 13, 3) := by decide +kernel
theorem dX11_isRoom_4 : decode cX11_isRoom 4 = .ok (.iload_n 0, 1) := by decide +kernel
theorem dX11_isRoom_5 : decode cX11_isRoom 5 = .ok (.bipush 12, 2) := by decide +kernel
theorem dX11_isRoom_7 : decode cX11_isRoom 7 = .ok (.if_icmp .ge 7, 3) := by decide +kernel
theorem dX11_isRoom_10 : decode cX11_isRoom 10 = .ok (.iconst 1, 1) := by decide +kernel
theorem dX11_isRoom_11 : decode cX11_isRoom 11 = .ok (.goto 4, 3) := by decide +kernel
theorem dX11_isRoom_14 : decode cX11_isRoom 14 = .ok (.iconst 0, 1) := by decide +kernel
theorem dX11_isRoom_15 : decode cX11_isRoom 15 = .ok (.ireturn, 1) := by decide +kernel
set_option maxRecDepth 100000 in
set_option maxHeartbeats 4000000 in
theorem P_X11_isRoom {D : Nat} (hD : 0 ≤ D) (x1 : Int32) (μ : m2M)  : m2_MT D yX11_isRoom cX11_isRoom 1 (some .boolean) [.int x1] μ (fun r μ' => r = some (.int (if x1 < 0 then 0 else (if 12 ≤ x1 then 0 else 1 : Int32) : Int32)) ∧ μ' = μ) := by
  refine m2_MT.intro (ls := [.int x1]) (by decide +kernel) rfl (Nat.le_of_ble_eq_true rfl) (fun κ h => ?_)
  have hB := h.b
  refine m2_iload_n hB dX11_isRoom_0 rfl ?_
  refine m2_if_lt hB dX11_isRoom_1 (tgt := 14) (by decide) (fun q1 : x1 < 0 => ?_) (fun q1 : ¬ x1 < 0 => ?_)
  · skip
    refine m2_iconst hB dX11_isRoom_14 (v := 0) (by decide) ?_
    exact m2_zret h dX11_isRoom_15 (Or.inl rfl) ⟨by rw [if_pos q1], rfl⟩
  · skip
    refine m2_iload_n hB dX11_isRoom_4 rfl ?_
    refine m2_bipush hB dX11_isRoom_5 (v := 12) (by decide) ?_
    refine m2_icmp_ge hB dX11_isRoom_7 (tgt := 14) (by decide) (fun q2 : 12 ≤ x1 => ?_) (fun q2 : ¬ 12 ≤ x1 => ?_)
    · skip
      refine m2_iconst hB dX11_isRoom_14 (v := 0) (by decide) ?_
      exact m2_zret h dX11_isRoom_15 (Or.inl rfl) ⟨by rw [if_neg q1, if_pos q2], rfl⟩
    · skip
      refine m2_iconst hB dX11_isRoom_10 (v := 1) (by decide) ?_
      refine m2_goto hB dX11_isRoom_11 (tgt := 15) (by decide) ?_
      exact m2_zret h dX11_isRoom_15 (Or.inr rfl) ⟨by rw [if_neg q1, if_neg q2], rfl⟩
theorem dX8_useAbove_0 : decode cX8_useAbove 0 = .ok (.iconst 0, 1) := by decide +kernel
theorem dX8_useAbove_1 : decode cX8_useAbove 1 = .ok (.istore_n 2, 1) := by decide +kernel
theorem dX8_useAbove_2 : decode cX8_useAbove 2 = .ok (.iload_n 2, 1) := by decide +kernel
theorem dX8_useAbove_3 : decode cX8_useAbove 3 = .ok (.aload_n 0, 1) := by decide +kernel
theorem dX8_useAbove_4 : decode cX8_useAbove 4 = .ok (.getfield 24, 3) := by decide +kernel
theorem dX8_useAbove_7 : decode cX8_useAbove 7 = .ok (.getfield 28, 3) := by decide +kernel
theorem dX8_useAbove_10 : decode cX8_useAbove 10 = .ok (.if_icmp .ge 36, 3) := by decide +kernel
theorem dX8_useAbove_13 : decode cX8_useAbove 13 = .ok (.aload_n 0, 1) := by decide +kernel
theorem dX8_useAbove_14 : decode cX8_useAbove 14 = .ok (.getfield 9, 3) := by decide +kernel
theorem dX8_useAbove_17 : decode cX8_useAbove 17 = .ok (.iload_n 2, 1) := by decide +kernel
theorem dX8_useAbove_18 : decode cX8_useAbove 18 = .ok (.aload_n 0, 1) := by decide +kernel
theorem dX8_useAbove_19 : decode cX8_useAbove 19 = .ok (.getfield 24, 3) := by decide +kernel
theorem dX8_useAbove_22 : decode cX8_useAbove 22 = .ok (.getfield 34, 3) := by decide +kernel
theorem dX8_useAbove_25 : decode cX8_useAbove 25 = .ok (.iload_n 2, 1) := by decide +kernel
theorem dX8_useAbove_26 : decode cX8_useAbove 26 = .ok (.iaload, 1) := by decide +kernel
theorem dX8_useAbove_27 : decode cX8_useAbove 27 = .ok (.iload_n 1, 1) := by decide +kernel
theorem dX8_useAbove_28 : decode cX8_useAbove 28 = .ok (.if_icmp .le 7, 3) := by decide +kernel
theorem dX8_useAbove_31 : decode cX8_useAbove 31 = .ok (.iconst 1, 1) := by decide +kernel
theorem dX8_useAbove_32 : decode cX8_useAbove 32 = .ok (.goto 4, 3) := by decide +kernel
theorem dX8_useAbove_35 : decode cX8_useAbove 35 = .ok (.iconst 0, 1) := by decide +kernel
theorem dX8_useAbove_36 : decode cX8_useAbove 36 = .ok (.invokestatic 37, 3) := by decide +kernel
theorem dX8_useAbove_39 : decode cX8_useAbove 39 = .ok (.iastore, 1) := by decide +kernel
theorem dX8_useAbove_40 : decode cX8_useAbove 40 = .ok (.iinc 2 1, 3) := by decide +kernel
theorem dX8_useAbove_43 : decode cX8_useAbove 43 = .ok (.goto (-41), 3) := by decide +kernel
theorem dX8_useAbove_46 : decode cX8_useAbove 46 = .ok (.return_, 1) := by decide +kernel
set_option maxRecDepth 100000 in
set_option maxHeartbeats 4000000 in
theorem B_X8_useAbove_0 {κ : Nat → List Value → List Value → m2M → Prop} {D : Nat} {Q : Option Value → m2M → Prop} (h : m2_RL κ cX8_useAbove RX8 3 D none Q) {x1 : Int32} {μ : m2M} (k : κ 2 [.ref kR, .int x1, .int 0] [] μ) : κ 0 [.ref kR, .int x1, .null] [] μ := by
  have hB := h.b
  refine m2_iconst hB dX8_useAbove_0 (v := 0) (by decide) ?_
  refine m2_istore_n hB (ls' := [.ref kR, .int x1, .int 0]) dX8_useAbove_1 rfl (by decide) rfl ?_
  exact k
set_option maxRecDepth 100000 in
set_option maxHeartbeats 4000000 in
theorem B_X8_useAbove_2 {κ : Nat → List Value → List Value → m2M → Prop} {D : Nat} {Q : Option Value → m2M → Prop} (h : m2_RL κ cX8_useAbove RX8 3 (D + 1) none Q) (hD : 0 ≤ D) {v1 : Int32} {v2 : Int32} {μ : m2M} (k : ((μ.1 kD 6) ≤ v2 → Q none μ) ∧ (¬ (μ.1 kD 6) ≤ v2 → (vp_in v2 20) ∧ (κ 2 [.ref kR, .int v1, .int (v2 + 1)] [] (m2_si μ kR_cost (v2).toNatClampNeg (if (if (μ.1 kD_left (v2).toNatClampNeg) ≤ v1 then 0 else 1 : Int32) = 0 then 0 else 1 : Int32))))) : κ 2 [.ref kR, .int v1, .int v2] [] μ := by
  have hB := h.b
  refine m2_iload_n hB dX8_useAbove_2 rfl ?_
  refine m2_aload_n hB dX8_useAbove_3 rfl ?_
  refine m2_getR hB dX8_useAbove_4 fl_X8_24 sh_kR (c1 := kD) rfl ?_
  refine m2_getI hB dX8_useAbove_7 fl_X8_28 sh_kD rfl ?_
  refine m2_icmp_ge hB dX8_useAbove_10 (tgt := 46) (by decide) (fun q2 : (μ.1 kD 6) ≤ v2 => ?_) (fun q2 : ¬ (μ.1 kD 6) ≤ v2 => ?_)
  · replace k := k.1 q2
    exact m2_vret h dX8_useAbove_46 k
  · replace k := k.2 q2
    refine m2_aload_n hB dX8_useAbove_13 rfl ?_
    refine m2_getR hB dX8_useAbove_14 fl_X8_9 sh_kR (c1 := kR_cost) rfl ?_
    refine m2_iload_n hB dX8_useAbove_17 rfl ?_
    refine m2_aload_n hB dX8_useAbove_18 rfl ?_
    refine m2_getR hB dX8_useAbove_19 fl_X8_24 sh_kR (c1 := kD) rfl ?_
    refine m2_getR hB dX8_useAbove_22 fl_X8_34 sh_kD (c1 := kD_left) rfl ?_
    refine m2_iload_n hB dX8_useAbove_25 rfl ?_
    obtain ⟨hi3, k⟩ := k
    refine m2_iald hB dX8_useAbove_26 sh_kD_left hi3 ?_
    refine m2_iload_n hB dX8_useAbove_27 rfl ?_
    have G5 : κ 36 [.ref kR, .int v1, .int v2] [.int (if (μ.1 kD_left (v2).toNatClampNeg) ≤ v1 then 0 else 1 : Int32), .int v2, .ref kR_cost] μ := by
      refine m2_invNi hB (as := [.int (if (μ.1 kD_left (v2).toNatClampNeg) ≤ v1 then 0 else 1 : Int32)]) dX8_useAbove_36 mn_X8_37 rfl (Nat.le_of_ble_eq_true rfl) rfl (P_X11_asNumber (by omega) ((if (μ.1 kD_left (v2).toNatClampNeg) ≤ v1 then 0 else 1 : Int32)) _ ) (fun x6 μ7 hq8 => ?_)
      obtain ⟨⟨⟩, hq8⟩ := hq8
      subst μ7
      have hi9 := hi3
      refine m2_iast hB dX8_useAbove_39 sh_kR_cost hi9 ?_
      refine m2_iinc hB (ls' := [.ref kR, .int v1, .int (v2 + 1)]) (v := (v2 + 1)) dX8_useAbove_40 rfl (by decide) rfl rfl ?_
      refine m2_goto hB dX8_useAbove_43 (tgt := 2) (by decide) ?_
      exact k
    refine m2_icmp_le hB dX8_useAbove_28 (tgt := 35) (by decide) (fun q4 : (μ.1 kD_left (v2).toNatClampNeg) ≤ v1 => ?_) (fun q4 : ¬ (μ.1 kD_left (v2).toNatClampNeg) ≤ v1 => ?_)
    · rw [if_pos q4] at G5
      refine m2_iconst hB dX8_useAbove_35 (v := 0) (by decide) ?_
      exact G5
    · rw [if_neg q4] at G5
      refine m2_iconst hB dX8_useAbove_31 (v := 1) (by decide) ?_
      refine m2_goto hB dX8_useAbove_32 (tgt := 36) (by decide) ?_
      exact G5
