theorem dX0_has_0 : decode cX0_has 0 = .ok (.iload_n 1, 1) := by decide +kernel
theorem dX0_has_1 : decode cX0_has 1 = .ok (.ifCond .lt 15, 3) := by decide +kernel
theorem dX0_has_4 : decode cX0_has 4 = .ok (.iload_n 1, 1) := by decide +kernel
theorem dX0_has_5 : decode cX0_has 5 = .ok (.aload_n 0, 1) := by decide +kernel
theorem dX0_has_6 : decode cX0_has 6 = .ok (.getfield 31, 3) := by decide +kernel
theorem dX0_has_9 : decode cX0_has 9 = .ok (.if_icmp .ge 7, 3) := by decide +kernel
theorem dX0_has_12 : decode cX0_has 12 = .ok (.iconst 1, 1) := by decide +kernel
theorem dX0_has_13 : decode cX0_has 13 = .ok (.goto 4, 3) := by decide +kernel
theorem dX0_has_16 : decode cX0_has 16 = .ok (.iconst 0, 1) := by decide +kernel
theorem dX0_has_17 : decode cX0_has 17 = .ok (.ireturn, 1) := by decide +kernel
set_option maxRecDepth 100000 in
set_option maxHeartbeats 4000000 in
theorem P0_X0_has {D : Nat} (hD : 0 ≤ D) (x1 : Int32) (μ : m2M)  : m2_MT D yX0_has cX0_has 2 (some .boolean) [.ref kD, .int x1] μ (fun r μ' => r = some (.int (if x1 < 0 then 0 else (if (μ.1 kD 6) ≤ x1 then 0 else 1 : Int32) : Int32)) ∧ μ' = μ) := by
  refine m2_MT.intro (ls := [.ref kD, .int x1]) (by decide +kernel) rfl (Nat.le_of_ble_eq_true rfl) (fun κ h => ?_)
  have hB := h.b
  refine m2_iload_n hB dX0_has_0 rfl ?_
  refine m2_if_lt hB dX0_has_1 (tgt := 16) (by decide) (fun q1 : x1 < 0 => ?_) (fun q1 : ¬ x1 < 0 => ?_)
  · skip
    refine m2_iconst hB dX0_has_16 (v := 0) (by decide) ?_
    exact m2_zret h dX0_has_17 (Or.inl rfl) ⟨by rw [if_pos q1], rfl⟩
  · skip
    refine m2_iload_n hB dX0_has_4 rfl ?_
    refine m2_aload_n hB dX0_has_5 rfl ?_
    refine m2_getI hB dX0_has_6 fl_X0_31 sh_kD rfl ?_
    refine m2_icmp_ge hB dX0_has_9 (tgt := 16) (by decide) (fun q2 : (μ.1 kD 6) ≤ x1 => ?_) (fun q2 : ¬ (μ.1 kD 6) ≤ x1 => ?_)
    · skip
      refine m2_iconst hB dX0_has_16 (v := 0) (by decide) ?_
      exact m2_zret h dX0_has_17 (Or.inl rfl) ⟨by rw [if_neg q1, if_pos q2], rfl⟩
    · skip
      refine m2_iconst hB dX0_has_12 (v := 1) (by decide) ?_
      refine m2_goto hB dX0_has_13 (tgt := 17) (by decide) ?_
      exact m2_zret h dX0_has_17 (Or.inr rfl) ⟨by rw [if_neg q1, if_neg q2], rfl⟩
def fX0_has (x1 : Int32) (μ : m2M) : Int32 := (if x1 < 0 then 0 else (if (μ.1 kD 6) ≤ x1 then 0 else 1 : Int32) : Int32)
theorem P_X0_has {D : Nat} (hD : 0 ≤ D) (x1 : Int32) (μ : m2M)  : m2_MT D yX0_has cX0_has 2 (some .boolean) [.ref kD, .int x1] μ (fun r μ' => r = some (.int (if (fX0_has x1 μ) = 1 then 1 else 0 : Int32)) ∧ μ' = μ) :=
  (P0_X0_has hD x1 μ ).mono (fun r μ' q => ⟨q.1.trans (congrArg (fun z : Int32 => some (Value.int z)) (m2_b01 (v := (fX0_has x1 μ)) (by unfold fX0_has; (repeat' split) <;> first | exact Or.inl rfl | exact Or.inr rfl))), q.2⟩)
theorem dX0_beyond_0 : decode cX0_beyond 0 = .ok (.aload_n 0, 1) := by decide +kernel
theorem dX0_beyond_1 : decode cX0_beyond 1 = .ok (.getfield 9, 3) := by decide +kernel
theorem dX0_beyond_4 : decode cX0_beyond 4 = .ok (.iload_n 1, 1) := by decide +kernel
theorem dX0_beyond_5 : decode cX0_beyond 5 = .ok (.iaload, 1) := by decide +kernel
theorem dX0_beyond_6 : decode cX0_beyond 6 = .ok (.iload_n 2, 1) := by decide +kernel
theorem dX0_beyond_7 : decode cX0_beyond 7 = .ok (.if_icmp .ne 10, 3) := by decide +kernel
theorem dX0_beyond_10 : decode cX0_beyond 10 = .ok (.aload_n 0, 1) := by decide +kernel
theorem dX0_beyond_11 : decode cX0_beyond 11 = .ok (.getfield 15, 3) := by decide +kernel
theorem dX0_beyond_14 : decode cX0_beyond 14 = .ok (.iload_n 1, 1) := by decide +kernel
theorem dX0_beyond_15 : decode cX0_beyond 15 = .ok (.iaload, 1) := by decide +kernel
theorem dX0_beyond_16 : decode cX0_beyond 16 = .ok (.ireturn, 1) := by decide +kernel
theorem dX0_beyond_17 : decode cX0_beyond 17 = .ok (.aload_n 0, 1) := by decide +kernel
theorem dX0_beyond_18 : decode cX0_beyond 18 = .ok (.getfield 15, 3) := by decide +kernel
theorem dX0_beyond_21 : decode cX0_beyond 21 = .ok (.iload_n 1, 1) := by decide +kernel
theorem dX0_beyond_22 : decode cX0_beyond 22 = .ok (.iaload, 1) := by decide +kernel
theorem dX0_beyond_23 : decode cX0_beyond 23 = .ok (.iload_n 2, 1) := by decide +kernel
theorem dX0_beyond_24 : decode cX0_beyond 24 = .ok (.if_icmp .ne 21, 3) := by decide +kernel
theorem dX0_beyond_27 : decode cX0_beyond 27 = .ok (.aload_n 0, 1) := by decide +kernel
theorem dX0_beyond_28 : decode cX0_beyond 28 = .ok (.getfield 18, 3) := by decide +kernel
theorem dX0_beyond_31 : decode cX0_beyond 31 = .ok (.iload_n 1, 1) := by decide +kernel
theorem dX0_beyond_32 : decode cX0_beyond 32 = .ok (.baload, 1) := by decide +kernel
theorem dX0_beyond_33 : decode cX0_beyond 33 = .ok (.ifCond .ne 12, 3) := by decide +kernel
theorem dX0_beyond_36 : decode cX0_beyond 36 = .ok (.aload_n 0, 1) := by decide +kernel
theorem dX0_beyond_37 : decode cX0_beyond 37 = .ok (.getfield 9, 3) := by decide +kernel
theorem dX0_beyond_40 : decode cX0_beyond 40 = .ok (.iload_n 1, 1) := by decide +kernel
theorem dX0_beyond_41 : decode cX0_beyond 41 = .ok (.iaload, 1) := by decide +kernel
theorem dX0_beyond_42 : decode cX0_beyond 42 = .ok (.goto 4, 3) := by decide +kernel
theorem dX0_beyond_45 : decode cX0_beyond 45 = .ok (.iconst (-1), 1) := by decide +kernel
theorem dX0_beyond_46 : decode cX0_beyond 46 = .ok (.ireturn, 1) := by decide +kernel
set_option maxRecDepth 100000 in
set_option maxHeartbeats 4000000 in
theorem P0_X0_beyond {D : Nat} (hD : 0 ≤ D) (x1 : Int32) (x2 : Int32) (μ : m2M) (s0 : vp_in x1 20) : m2_MT D yX0_beyond cX0_beyond 3 (some .int) [.ref kD, .int x1, .int x2] μ (fun r μ' => r = some (.int (if (μ.1 kD_a (x1).toNatClampNeg) = x2 then (μ.1 kD_b (x1).toNatClampNeg) else (if (μ.1 kD_b (x1).toNatClampNeg) = x2 then (if (μ.1 kD_oneWay (x1).toNatClampNeg) = 0 then (μ.1 kD_a (x1).toNatClampNeg) else (-1) : Int32) else (-1) : Int32) : Int32)) ∧ μ' = μ) := by
  refine m2_MT.intro (ls := [.ref kD, .int x1, .int x2]) (by decide +kernel) rfl (Nat.le_of_ble_eq_true rfl) (fun κ h => ?_)
  have hB := h.b
  refine m2_aload_n hB dX0_beyond_0 rfl ?_
  refine m2_getR hB dX0_beyond_1 fl_X0_9 sh_kD (c1 := kD_a) rfl ?_
  refine m2_iload_n hB dX0_beyond_4 rfl ?_
  have hi1 := s0
  refine m2_iald hB dX0_beyond_5 sh_kD_a hi1 ?_
  refine m2_iload_n hB dX0_beyond_6 rfl ?_
  refine m2_icmp_ne hB dX0_beyond_7 (tgt := 17) (by decide) (fun q2 : ¬ (μ.1 kD_a (x1).toNatClampNeg) = x2 => ?_) (fun q2 : (μ.1 kD_a (x1).toNatClampNeg) = x2 => ?_)
  · skip
    refine m2_aload_n hB dX0_beyond_17 rfl ?_
    refine m2_getR hB dX0_beyond_18 fl_X0_15 sh_kD (c1 := kD_b) rfl ?_
    refine m2_iload_n hB dX0_beyond_21 rfl ?_
    have hi3 := hi1
    refine m2_iald hB dX0_beyond_22 sh_kD_b hi3 ?_
    refine m2_iload_n hB dX0_beyond_23 rfl ?_
    refine m2_icmp_ne hB dX0_beyond_24 (tgt := 45) (by decide) (fun q4 : ¬ (μ.1 kD_b (x1).toNatClampNeg) = x2 => ?_) (fun q4 : (μ.1 kD_b (x1).toNatClampNeg) = x2 => ?_)
    · skip
      refine m2_iconst hB dX0_beyond_45 (v := (-1)) (by decide) ?_
      exact m2_iret h dX0_beyond_46 ⟨by rw [if_neg q2, if_neg q4], rfl⟩
    · skip
      refine m2_aload_n hB dX0_beyond_27 rfl ?_
      refine m2_getR hB dX0_beyond_28 fl_X0_18 sh_kD (c1 := kD_oneWay) rfl ?_
      refine m2_iload_n hB dX0_beyond_31 rfl ?_
      have hi5 := hi1
      refine m2_zald hB dX0_beyond_32 sh_kD_oneWay hi5 ?_
      refine m2_if_ne hB dX0_beyond_33 (tgt := 45) (by decide) (fun q6 : ¬ (μ.1 kD_oneWay (x1).toNatClampNeg) = 0 => ?_) (fun q6 : (μ.1 kD_oneWay (x1).toNatClampNeg) = 0 => ?_)
      · skip
        refine m2_iconst hB dX0_beyond_45 (v := (-1)) (by decide) ?_
        exact m2_iret h dX0_beyond_46 ⟨by rw [if_neg q2, if_pos q4, if_neg q6], rfl⟩
      · skip
        refine m2_aload_n hB dX0_beyond_36 rfl ?_
        refine m2_getR hB dX0_beyond_37 fl_X0_9 sh_kD (c1 := kD_a) rfl ?_
        refine m2_iload_n hB dX0_beyond_40 rfl ?_
        have hi7 := hi1
        refine m2_iald hB dX0_beyond_41 sh_kD_a hi7 ?_
        refine m2_goto hB dX0_beyond_42 (tgt := 46) (by decide) ?_
        exact m2_iret h dX0_beyond_46 ⟨by rw [if_neg q2, if_pos q4, if_pos q6], rfl⟩
  · skip
    refine m2_aload_n hB dX0_beyond_10 rfl ?_
    refine m2_getR hB dX0_beyond_11 fl_X0_15 sh_kD (c1 := kD_b) rfl ?_
    refine m2_iload_n hB dX0_beyond_14 rfl ?_
    have hi8 := hi1
    refine m2_iald hB dX0_beyond_15 sh_kD_b hi8 ?_
    exact m2_iret h dX0_beyond_16 ⟨by rw [if_pos q2], rfl⟩
def fX0_beyond (x1 : Int32) (x2 : Int32) (μ : m2M) : Int32 := (if (μ.1 kD_a (x1).toNatClampNeg) = x2 then (μ.1 kD_b (x1).toNatClampNeg) else (if (μ.1 kD_b (x1).toNatClampNeg) = x2 then (if (μ.1 kD_oneWay (x1).toNatClampNeg) = 0 then (μ.1 kD_a (x1).toNatClampNeg) else (-1) : Int32) else (-1) : Int32) : Int32)
theorem P_X0_beyond {D : Nat} (hD : 0 ≤ D) (x1 : Int32) (x2 : Int32) (μ : m2M) (s0 : vp_in x1 20) : m2_MT D yX0_beyond cX0_beyond 3 (some .int) [.ref kD, .int x1, .int x2] μ (fun r μ' => r = some (.int (fX0_beyond x1 x2 μ)) ∧ μ' = μ) :=
  P0_X0_beyond hD x1 x2 μ s0
theorem dX1_free_0 : decode cX1_free 0 = .ok (.aload_n 0, 1) := by decide +kernel
theorem dX1_free_1 : decode cX1_free 1 = .ok (.getfield 9, 3) := by decide +kernel
theorem dX1_free_4 : decode cX1_free 4 = .ok (.iload_n 1, 1) := by decide +kernel
theorem dX1_free_5 : decode cX1_free 5 = .ok (.iaload, 1) := by decide +kernel
theorem dX1_free_6 : decode cX1_free 6 = .ok (.iload_n 2, 1) := by decide +kernel
theorem dX1_free_7 : decode cX1_free 7 = .ok (.if_icmp .ne 17, 3) := by decide +kernel
theorem dX1_free_10 : decode cX1_free 10 = .ok (.aload_n 0, 1) := by decide +kernel
theorem dX1_free_11 : decode cX1_free 11 = .ok (.getfield 22, 3) := by decide +kernel
theorem dX1_free_14 : decode cX1_free 14 = .ok (.iload_n 1, 1) := by decide +kernel
theorem dX1_free_15 : decode cX1_free 15 = .ok (.iaload, 1) := by decide +kernel
theorem dX1_free_16 : decode cX1_free 16 = .ok (.aload_n 0, 1) := by decide +kernel
theorem dX1_free_17 : decode cX1_free 17 = .ok (.getfield 25, 3) := by decide +kernel
theorem dX1_free_20 : decode cX1_free 20 = .ok (.iload_n 1, 1) := by decide +kernel
theorem dX1_free_21 : decode cX1_free 21 = .ok (.iaload, 1) := by decide +kernel
theorem dX1_free_22 : decode cX1_free 22 = .ok (.isub, 1) := by decide +kernel
theorem dX1_free_23 : decode cX1_free 23 = .ok (.ireturn, 1) := by decide +kernel
theorem dX1_free_24 : decode cX1_free 24 = .ok (.aload_n 0, 1) := by decide +kernel
theorem dX1_free_25 : decode cX1_free 25 = .ok (.getfield 15, 3) := by decide +kernel
theorem dX1_free_28 : decode cX1_free 28 = .ok (.iload_n 1, 1) := by decide +kernel
theorem dX1_free_29 : decode cX1_free 29 = .ok (.iaload, 1) := by decide +kernel
theorem dX1_free_30 : decode cX1_free 30 = .ok (.iload_n 2, 1) := by decide +kernel
theorem dX1_free_31 : decode cX1_free 31 = .ok (.if_icmp .ne 30, 3) := by decide +kernel
theorem dX1_free_34 : decode cX1_free 34 = .ok (.aload_n 0, 1) := by decide +kernel
theorem dX1_free_35 : decode cX1_free 35 = .ok (.getfield 18, 3) := by decide +kernel
theorem dX1_free_38 : decode cX1_free 38 = .ok (.iload_n 1, 1) := by decide +kernel
theorem dX1_free_39 : decode cX1_free 39 = .ok (.baload, 1) := by decide +kernel
theorem dX1_free_40 : decode cX1_free 40 = .ok (.ifCond .eq 7, 3) := by decide +kernel
theorem dX1_free_43 : decode cX1_free 43 = .ok (.iconst 0, 1) := by decide +kernel
theorem dX1_free_44 : decode cX1_free 44 = .ok (.goto 9, 3) := by decide +kernel
theorem dX1_free_47 : decode cX1_free 47 = .ok (.aload_n 0, 1) := by decide +kernel
theorem dX1_free_48 : decode cX1_free 48 = .ok (.getfield 22, 3) := by decide +kernel
theorem dX1_free_51 : decode cX1_free 51 = .ok (.iload_n 1, 1) := by decide +kernel
theorem dX1_free_52 : decode cX1_free 52 = .ok (.iaload, 1) := by decide +kernel
theorem dX1_free_53 : decode cX1_free 53 = .ok (.aload_n 0, 1) := by decide +kernel
theorem dX1_free_54 : decode cX1_free 54 = .ok (.getfield 25, 3) := by decide +kernel
theorem dX1_free_57 : decode cX1_free 57 = .ok (.iload_n 1, 1) := by decide +kernel
theorem dX1_free_58 : decode cX1_free 58 = .ok (.iaload, 1) := by decide +kernel
theorem dX1_free_59 : decode cX1_free 59 = .ok (.iadd, 1) := by decide +kernel
theorem dX1_free_60 : decode cX1_free 60 = .ok (.ireturn, 1) := by decide +kernel
theorem dX1_free_61 : decode cX1_free 61 = .ok (.iconst 0, 1) := by decide +kernel
theorem dX1_free_62 : decode cX1_free 62 = .ok (.ireturn, 1) := by decide +kernel
set_option maxRecDepth 100000 in
set_option maxHeartbeats 4000000 in
theorem P0_X1_free {D : Nat} (hD : 0 ≤ D) (x1 : Int32) (x2 : Int32) (μ : m2M) (s0 : vp_in x1 21) : m2_MT D yX1_free cX1_free 3 (some .int) [.ref kF, .int x1, .int x2] μ (fun r μ' => r = some (.int (if (μ.1 kF_a (x1).toNatClampNeg) = x2 then ((μ.1 kF_lets (x1).toNatClampNeg) - (μ.1 kF_net (x1).toNatClampNeg)) else (if (μ.1 kF_b (x1).toNatClampNeg) = x2 then (if (μ.1 kF_oneWay (x1).toNatClampNeg) = 0 then ((μ.1 kF_lets (x1).toNatClampNeg) + (μ.1 kF_net (x1).toNatClampNeg)) else ((0 : Int32) + (μ.1 kF_net (x1).toNatClampNeg)) : Int32) else 0 : Int32) : Int32)) ∧ μ' = μ) := by
  refine m2_MT.intro (ls := [.ref kF, .int x1, .int x2]) (by decide +kernel) rfl (Nat.le_of_ble_eq_true rfl) (fun κ h => ?_)
  have hB := h.b
  refine m2_aload_n hB dX1_free_0 rfl ?_
  refine m2_getR hB dX1_free_1 fl_X1_9 sh_kF (c1 := kF_a) rfl ?_
  refine m2_iload_n hB dX1_free_4 rfl ?_
  have hi1 := s0
  refine m2_iald hB dX1_free_5 sh_kF_a hi1 ?_
  refine m2_iload_n hB dX1_free_6 rfl ?_
  refine m2_icmp_ne hB dX1_free_7 (tgt := 24) (by decide) (fun q2 : ¬ (μ.1 kF_a (x1).toNatClampNeg) = x2 => ?_) (fun q2 : (μ.1 kF_a (x1).toNatClampNeg) = x2 => ?_)
  · skip
    refine m2_aload_n hB dX1_free_24 rfl ?_
    refine m2_getR hB dX1_free_25 fl_X1_15 sh_kF (c1 := kF_b) rfl ?_
    refine m2_iload_n hB dX1_free_28 rfl ?_
    have hi3 := hi1
    refine m2_iald hB dX1_free_29 sh_kF_b hi3 ?_
    refine m2_iload_n hB dX1_free_30 rfl ?_
    refine m2_icmp_ne hB dX1_free_31 (tgt := 61) (by decide) (fun q4 : ¬ (μ.1 kF_b (x1).toNatClampNeg) = x2 => ?_) (fun q4 : (μ.1 kF_b (x1).toNatClampNeg) = x2 => ?_)
    · skip
      refine m2_iconst hB dX1_free_61 (v := 0) (by decide) ?_
      exact m2_iret h dX1_free_62 ⟨by rw [if_neg q2, if_neg q4], rfl⟩
    · skip
      refine m2_aload_n hB dX1_free_34 rfl ?_
      refine m2_getR hB dX1_free_35 fl_X1_18 sh_kF (c1 := kF_oneWay) rfl ?_
      refine m2_iload_n hB dX1_free_38 rfl ?_
      have hi5 := hi1
      refine m2_zald hB dX1_free_39 sh_kF_oneWay hi5 ?_
      refine m2_if_eq hB dX1_free_40 (tgt := 47) (by decide) (fun q6 : (μ.1 kF_oneWay (x1).toNatClampNeg) = 0 => ?_) (fun q6 : ¬ (μ.1 kF_oneWay (x1).toNatClampNeg) = 0 => ?_)
      · skip
        refine m2_aload_n hB dX1_free_47 rfl ?_
        refine m2_getR hB dX1_free_48 fl_X1_22 sh_kF (c1 := kF_lets) rfl ?_
        refine m2_iload_n hB dX1_free_51 rfl ?_
        have hi7 := hi1
        refine m2_iald hB dX1_free_52 sh_kF_lets hi7 ?_
        refine m2_aload_n hB dX1_free_53 rfl ?_
        refine m2_getR hB dX1_free_54 fl_X1_25 sh_kF (c1 := kF_net) rfl ?_
        refine m2_iload_n hB dX1_free_57 rfl ?_
        have hi8 := hi1
        refine m2_iald hB dX1_free_58 sh_kF_net hi8 ?_
        refine m2_iadd hB dX1_free_59 ?_
        exact m2_iret h dX1_free_60 ⟨by rw [if_neg q2, if_pos q4, if_pos q6], rfl⟩
      · skip
        refine m2_iconst hB dX1_free_43 (v := 0) (by decide) ?_
        refine m2_goto hB dX1_free_44 (tgt := 53) (by decide) ?_
        refine m2_aload_n hB dX1_free_53 rfl ?_
        refine m2_getR hB dX1_free_54 fl_X1_25 sh_kF (c1 := kF_net) rfl ?_
        refine m2_iload_n hB dX1_free_57 rfl ?_
        have hi9 := hi1
        refine m2_iald hB dX1_free_58 sh_kF_net hi9 ?_
        refine m2_iadd hB dX1_free_59 ?_
        exact m2_iret h dX1_free_60 ⟨by rw [if_neg q2, if_pos q4, if_neg q6], rfl⟩
  · skip
    refine m2_aload_n hB dX1_free_10 rfl ?_
    refine m2_getR hB dX1_free_11 fl_X1_22 sh_kF (c1 := kF_lets) rfl ?_
    refine m2_iload_n hB dX1_free_14 rfl ?_
    have hi10 := hi1
    refine m2_iald hB dX1_free_15 sh_kF_lets hi10 ?_
    refine m2_aload_n hB dX1_free_16 rfl ?_
    refine m2_getR hB dX1_free_17 fl_X1_25 sh_kF (c1 := kF_net) rfl ?_
    refine m2_iload_n hB dX1_free_20 rfl ?_
    have hi11 := hi1
    refine m2_iald hB dX1_free_21 sh_kF_net hi11 ?_
    refine m2_isub hB dX1_free_22 ?_
    exact m2_iret h dX1_free_23 ⟨by rw [if_pos q2], rfl⟩
def fX1_free (x1 : Int32) (x2 : Int32) (μ : m2M) : Int32 := (if (μ.1 kF_a (x1).toNatClampNeg) = x2 then ((μ.1 kF_lets (x1).toNatClampNeg) - (μ.1 kF_net (x1).toNatClampNeg)) else (if (μ.1 kF_b (x1).toNatClampNeg) = x2 then (if (μ.1 kF_oneWay (x1).toNatClampNeg) = 0 then ((μ.1 kF_lets (x1).toNatClampNeg) + (μ.1 kF_net (x1).toNatClampNeg)) else ((0 : Int32) + (μ.1 kF_net (x1).toNatClampNeg)) : Int32) else 0 : Int32) : Int32)
theorem P_X1_free {D : Nat} (hD : 0 ≤ D) (x1 : Int32) (x2 : Int32) (μ : m2M) (s0 : vp_in x1 21) : m2_MT D yX1_free cX1_free 3 (some .int) [.ref kF, .int x1, .int x2] μ (fun r μ' => r = some (.int (fX1_free x1 x2 μ)) ∧ μ' = μ) :=
  P0_X1_free hD x1 x2 μ s0
theorem dX2_stands_0 : decode cX2_stands 0 = .ok (.aload_n 0, 1) := by decide +kernel
theorem dX2_stands_1 : decode cX2_stands 1 = .ok (.getfield 33, 3) := by decide +kernel
theorem dX2_stands_4 : decode cX2_stands 4 = .ok (.aload_n 0, 1) := by decide +kernel
theorem dX2_stands_5 : decode cX2_stands 5 = .ok (.getfield 29, 3) := by decide +kernel
theorem dX2_stands_8 : decode cX2_stands 8 = .ok (.if_icmp .ge 20, 3) := by decide +kernel
theorem dX2_stands_11 : decode cX2_stands 11 = .ok (.aload_n 0, 1) := by decide +kernel
theorem dX2_stands_12 : decode cX2_stands 12 = .ok (.getfield 9, 3) := by decide +kernel
theorem dX2_stands_15 : decode cX2_stands 15 = .ok (.aload_n 0, 1) := by decide +kernel
theorem dX2_stands_16 : decode cX2_stands 16 = .ok (.getfield 33, 3) := by decide +kernel
theorem dX2_stands_19 : decode cX2_stands 19 = .ok (.caload, 1) := by decide +kernel
theorem dX2_stands_20 : decode cX2_stands 20 = .ok (.iload_n 1, 1) := by decide +kernel
theorem dX2_stands_21 : decode cX2_stands 21 = .ok (.if_icmp .ne 7, 3) := by decide +kernel
theorem dX2_stands_24 : decode cX2_stands 24 = .ok (.iconst 1, 1) := by decide +kernel
theorem dX2_stands_25 : decode cX2_stands 25 = .ok (.goto 4, 3) := by decide +kernel
theorem dX2_stands_28 : decode cX2_stands 28 = .ok (.iconst 0, 1) := by decide +kernel
theorem dX2_stands_29 : decode cX2_stands 29 = .ok (.ireturn, 1) := by decide +kernel
set_option maxRecDepth 100000 in
set_option maxHeartbeats 4000000 in
theorem P0_X2_stands {D : Nat} (hD : 0 ≤ D) (x1 : Int32) (μ : m2M) (s0 : (¬ (μ.1 kH 3) ≤ (μ.1 kH 4) → vp_in (μ.1 kH 4) 80)) : m2_MT D yX2_stands cX2_stands 2 (some .boolean) [.ref kH, .int x1] μ (fun r μ' => r = some (.int (if (μ.1 kH 3) ≤ (μ.1 kH 4) then 0 else (if (μ.1 kC_text ((μ.1 kH 4)).toNatClampNeg) = x1 then 1 else 0 : Int32) : Int32)) ∧ μ' = μ) := by
  refine m2_MT.intro (ls := [.ref kH, .int x1]) (by decide +kernel) rfl (Nat.le_of_ble_eq_true rfl) (fun κ h => ?_)
  have hB := h.b
  refine m2_aload_n hB dX2_stands_0 rfl ?_
  refine m2_getI hB dX2_stands_1 fl_X2_33 sh_kH rfl ?_
  refine m2_aload_n hB dX2_stands_4 rfl ?_
  refine m2_getI hB dX2_stands_5 fl_X2_29 sh_kH rfl ?_
  refine m2_icmp_ge hB dX2_stands_8 (tgt := 28) (by decide) (fun q1 : (μ.1 kH 3) ≤ (μ.1 kH 4) => ?_) (fun q1 : ¬ (μ.1 kH 3) ≤ (μ.1 kH 4) => ?_)
  · skip
    refine m2_iconst hB dX2_stands_28 (v := 0) (by decide) ?_
    exact m2_zret h dX2_stands_29 (Or.inl rfl) ⟨by rw [if_pos q1], rfl⟩
  · skip
    refine m2_aload_n hB dX2_stands_11 rfl ?_
    refine m2_getR hB dX2_stands_12 fl_X2_9 sh_kH (c1 := kC_text) rfl ?_
    refine m2_aload_n hB dX2_stands_15 rfl ?_
    refine m2_getI hB dX2_stands_16 fl_X2_33 sh_kH rfl ?_
    have hi2 := s0 q1
    refine m2_cald hB dX2_stands_19 sh_kC_text hi2 ?_
    refine m2_iload_n hB dX2_stands_20 rfl ?_
    refine m2_icmp_ne hB dX2_stands_21 (tgt := 28) (by decide) (fun q3 : ¬ (μ.1 kC_text ((μ.1 kH 4)).toNatClampNeg) = x1 => ?_) (fun q3 : (μ.1 kC_text ((μ.1 kH 4)).toNatClampNeg) = x1 => ?_)
    · skip
      refine m2_iconst hB dX2_stands_28 (v := 0) (by decide) ?_
      exact m2_zret h dX2_stands_29 (Or.inl rfl) ⟨by rw [if_neg q1, if_neg q3], rfl⟩
    · skip
      refine m2_iconst hB dX2_stands_24 (v := 1) (by decide) ?_
      refine m2_goto hB dX2_stands_25 (tgt := 29) (by decide) ?_
      exact m2_zret h dX2_stands_29 (Or.inr rfl) ⟨by rw [if_neg q1, if_pos q3], rfl⟩
def fX2_stands (x1 : Int32) (μ : m2M) : Int32 := (if (μ.1 kH 3) ≤ (μ.1 kH 4) then 0 else (if (μ.1 kC_text ((μ.1 kH 4)).toNatClampNeg) = x1 then 1 else 0 : Int32) : Int32)
theorem P_X2_stands {D : Nat} (hD : 0 ≤ D) (x1 : Int32) (μ : m2M) (s0 : (¬ (μ.1 kH 3) ≤ (μ.1 kH 4) → vp_in (μ.1 kH 4) 80)) : m2_MT D yX2_stands cX2_stands 2 (some .boolean) [.ref kH, .int x1] μ (fun r μ' => r = some (.int (if (fX2_stands x1 μ) = 1 then 1 else 0 : Int32)) ∧ μ' = μ) :=
  (P0_X2_stands hD x1 μ s0).mono (fun r μ' q => ⟨q.1.trans (congrArg (fun z : Int32 => some (Value.int z)) (m2_b01 (v := (fX2_stands x1 μ)) (by unfold fX2_stands; (repeat' split) <;> first | exact Or.inl rfl | exact Or.inr rfl))), q.2⟩)
theorem dX4_canBeBetter_0 : decode cX4_canBeBetter 0 = .ok (.aload_n 0, 1) := by decide +kernel
theorem dX4_canBeBetter_1 : decode cX4_canBeBetter 1 = .ok (.getfield 64, 3) := by decide +kernel
theorem dX4_canBeBetter_4 : decode cX4_canBeBetter 4 = .ok (.aload_n 0, 1) := by decide +kernel
theorem dX4_canBeBetter_5 : decode cX4_canBeBetter 5 = .ok (.getfield 73, 3) := by decide +kernel
theorem dX4_canBeBetter_8 : decode cX4_canBeBetter 8 = .ok (.if_icmp .gt 30, 3) := by decide +kernel
theorem dX4_canBeBetter_11 : decode cX4_canBeBetter 11 = .ok (.aload_n 0, 1) := by decide +kernel
theorem dX4_canBeBetter_12 : decode cX4_canBeBetter 12 = .ok (.getfield 64, 3) := by decide +kernel
theorem dX4_canBeBetter_15 : decode cX4_canBeBetter 15 = .ok (.aload_n 0, 1) := by decide +kernel
theorem dX4_canBeBetter_16 : decode cX4_canBeBetter 16 = .ok (.getfield 73, 3) := by decide +kernel
theorem dX4_canBeBetter_19 : decode cX4_canBeBetter 19 = .ok (.if_icmp .ne 23, 3) := by decide +kernel
theorem dX4_canBeBetter_22 : decode cX4_canBeBetter 22 = .ok (.aload_n 0, 1) := by decide +kernel
theorem dX4_canBeBetter_23 : decode cX4_canBeBetter 23 = .ok (.getfield 67, 3) := by decide +kernel
theorem dX4_canBeBetter_26 : decode cX4_canBeBetter 26 = .ok (.aload_n 0, 1) := by decide +kernel
theorem dX4_canBeBetter_27 : decode cX4_canBeBetter 27 = .ok (.getfield 70, 3) := by decide +kernel
theorem dX4_canBeBetter_30 : decode cX4_canBeBetter 30 = .ok (.iadd, 1) := by decide +kernel
theorem dX4_canBeBetter_31 : decode cX4_canBeBetter 31 = .ok (.aload_n 0, 1) := by decide +kernel
theorem dX4_canBeBetter_32 : decode cX4_canBeBetter 32 = .ok (.getfield 76, 3) := by decide +kernel
theorem dX4_canBeBetter_35 : decode cX4_canBeBetter 35 = .ok (.if_icmp .ge 7, 3) := by decide +kernel
theorem dX4_canBeBetter_38 : decode cX4_canBeBetter 38 = .ok (.iconst 1, 1) := by decide +kernel
theorem dX4_canBeBetter_39 : decode cX4_canBeBetter 39 = .ok (.goto 4, 3) := by decide +kernel
theorem dX4_canBeBetter_42 : decode cX4_canBeBetter 42 = .ok (.iconst 0, 1) := by decide +kernel
theorem dX4_canBeBetter_43 : decode cX4_canBeBetter 43 = .ok (.ireturn, 1) := by decide +kernel
set_option maxRecDepth 100000 in
set_option maxHeartbeats 4000000 in
theorem P0_X4_canBeBetter {D : Nat} (hD : 0 ≤ D)  (μ : m2M)  : m2_MT D yX4_canBeBetter cX4_canBeBetter 1 (some .boolean) [.ref kO] μ (fun r μ' => r = some (.int (if (μ.1 kO 8) < (μ.1 kO 11) then 1 else (if (μ.1 kO 11) = (μ.1 kO 8) then (if (μ.1 kO 9) ≤ ((μ.1 kO 12) + (μ.1 kO 14)) then 0 else 1 : Int32) else 0 : Int32) : Int32)) ∧ μ' = μ) := by
  refine m2_MT.intro (ls := [.ref kO]) (by decide +kernel) rfl (Nat.le_of_ble_eq_true rfl) (fun κ h => ?_)
  have hB := h.b
  refine m2_aload_n hB dX4_canBeBetter_0 rfl ?_
  refine m2_getI hB dX4_canBeBetter_1 fl_X4_64 sh_kO rfl ?_
  refine m2_aload_n hB dX4_canBeBetter_4 rfl ?_
  refine m2_getI hB dX4_canBeBetter_5 fl_X4_73 sh_kO rfl ?_
  refine m2_icmp_gt hB dX4_canBeBetter_8 (tgt := 38) (by decide) (fun q1 : (μ.1 kO 8) < (μ.1 kO 11) => ?_) (fun q1 : ¬ (μ.1 kO 8) < (μ.1 kO 11) => ?_)
  · skip
    refine m2_iconst hB dX4_canBeBetter_38 (v := 1) (by decide) ?_
    refine m2_goto hB dX4_canBeBetter_39 (tgt := 43) (by decide) ?_
    exact m2_zret h dX4_canBeBetter_43 (Or.inr rfl) ⟨by rw [if_pos q1], rfl⟩
  · skip
    refine m2_aload_n hB dX4_canBeBetter_11 rfl ?_
    refine m2_getI hB dX4_canBeBetter_12 fl_X4_64 sh_kO rfl ?_
    refine m2_aload_n hB dX4_canBeBetter_15 rfl ?_
    refine m2_getI hB dX4_canBeBetter_16 fl_X4_73 sh_kO rfl ?_
    refine m2_icmp_ne hB dX4_canBeBetter_19 (tgt := 42) (by decide) (fun q2 : ¬ (μ.1 kO 11) = (μ.1 kO 8) => ?_) (fun q2 : (μ.1 kO 11) = (μ.1 kO 8) => ?_)
    · skip
      refine m2_iconst hB dX4_canBeBetter_42 (v := 0) (by decide) ?_
      exact m2_zret h dX4_canBeBetter_43 (Or.inl rfl) ⟨by rw [if_neg q1, if_neg q2], rfl⟩
    · skip
      refine m2_aload_n hB dX4_canBeBetter_22 rfl ?_
      refine m2_getI hB dX4_canBeBetter_23 fl_X4_67 sh_kO rfl ?_
      refine m2_aload_n hB dX4_canBeBetter_26 rfl ?_
      refine m2_getI hB dX4_canBeBetter_27 fl_X4_70 sh_kO rfl ?_
      refine m2_iadd hB dX4_canBeBetter_30 ?_
      refine m2_aload_n hB dX4_canBeBetter_31 rfl ?_
      refine m2_getI hB dX4_canBeBetter_32 fl_X4_76 sh_kO rfl ?_
      refine m2_icmp_ge hB dX4_canBeBetter_35 (tgt := 42) (by decide) (fun q3 : (μ.1 kO 9) ≤ ((μ.1 kO 12) + (μ.1 kO 14)) => ?_) (fun q3 : ¬ (μ.1 kO 9) ≤ ((μ.1 kO 12) + (μ.1 kO 14)) => ?_)
      · skip
        refine m2_iconst hB dX4_canBeBetter_42 (v := 0) (by decide) ?_
        exact m2_zret h dX4_canBeBetter_43 (Or.inl rfl) ⟨by rw [if_neg q1, if_pos q2, if_pos q3], rfl⟩
      · skip
        refine m2_iconst hB dX4_canBeBetter_38 (v := 1) (by decide) ?_
        refine m2_goto hB dX4_canBeBetter_39 (tgt := 43) (by decide) ?_
        exact m2_zret h dX4_canBeBetter_43 (Or.inr rfl) ⟨by rw [if_neg q1, if_pos q2, if_neg q3], rfl⟩
def fX4_canBeBetter  (μ : m2M) : Int32 := (if (μ.1 kO 8) < (μ.1 kO 11) then 1 else (if (μ.1 kO 11) = (μ.1 kO 8) then (if (μ.1 kO 9) ≤ ((μ.1 kO 12) + (μ.1 kO 14)) then 0 else 1 : Int32) else 0 : Int32) : Int32)
theorem P_X4_canBeBetter {D : Nat} (hD : 0 ≤ D)  (μ : m2M)  : m2_MT D yX4_canBeBetter cX4_canBeBetter 1 (some .boolean) [.ref kO] μ (fun r μ' => r = some (.int (if (fX4_canBeBetter μ) = 1 then 1 else 0 : Int32)) ∧ μ' = μ) :=
  (P0_X4_canBeBetter hD  μ ).mono (fun r μ' q => ⟨q.1.trans (congrArg (fun z : Int32 => some (Value.int z)) (m2_b01 (v := (fX4_canBeBetter μ)) (by unfold fX4_canBeBetter; (repeat' split) <;> first | exact Or.inl rfl | exact Or.inr rfl))), q.2⟩)
theorem dX6_has_0 : decode cX6_has 0 = .ok (.iload_n 1, 1) := by decide +kernel
theorem dX6_has_1 : decode cX6_has 1 = .ok (.ifCond .lt 15, 3) := by decide +kernel
theorem dX6_has_4 : decode cX6_has 4 = .ok (.iload_n 1, 1) := by decide +kernel
theorem dX6_has_5 : decode cX6_has 5 = .ok (.aload_n 0, 1) := by decide +kernel
theorem dX6_has_6 : decode cX6_has 6 = .ok (.getfield 37, 3) := by decide +kernel
theorem dX6_has_9 : decode cX6_has 9 = .ok (.if_icmp .ge 7, 3) := by decide +kernel
theorem dX6_has_12 : decode cX6_has 12 = .ok (.iconst 1, 1) := by decide +kernel
theorem dX6_has_13 : decode cX6_has 13 = .ok (.goto 4, 3) := by decide +kernel
theorem dX6_has_16 : decode cX6_has 16 = .ok (.iconst 0, 1) := by decide +kernel
theorem dX6_has_17 : decode cX6_has 17 = .ok (.ireturn, 1) := by decide +kernel
set_option maxRecDepth 100000 in
set_option maxHeartbeats 4000000 in
theorem P0_X6_has {D : Nat} (hD : 0 ≤ D) (x1 : Int32) (μ : m2M)  : m2_MT D yX6_has cX6_has 2 (some .boolean) [.ref kP, .int x1] μ (fun r μ' => r = some (.int (if x1 < 0 then 0 else (if (μ.1 kP 8) ≤ x1 then 0 else 1 : Int32) : Int32)) ∧ μ' = μ) := by
  refine m2_MT.intro (ls := [.ref kP, .int x1]) (by decide +kernel) rfl (Nat.le_of_ble_eq_true rfl) (fun κ h => ?_)
  have hB := h.b
  refine m2_iload_n hB dX6_has_0 rfl ?_
  refine m2_if_lt hB dX6_has_1 (tgt := 16) (by decide) (fun q1 : x1 < 0 => ?_) (fun q1 : ¬ x1 < 0 => ?_)
  · skip
    refine m2_iconst hB dX6_has_16 (v := 0) (by decide) ?_
    exact m2_zret h dX6_has_17 (Or.inl rfl) ⟨by rw [if_pos q1], rfl⟩
  · skip
    refine m2_iload_n hB dX6_has_4 rfl ?_
    refine m2_aload_n hB dX6_has_5 rfl ?_
    refine m2_getI hB dX6_has_6 fl_X6_37 sh_kP rfl ?_
    refine m2_icmp_ge hB dX6_has_9 (tgt := 16) (by decide) (fun q2 : (μ.1 kP 8) ≤ x1 => ?_) (fun q2 : ¬ (μ.1 kP 8) ≤ x1 => ?_)
    · skip
      refine m2_iconst hB dX6_has_16 (v := 0) (by decide) ?_
      exact m2_zret h dX6_has_17 (Or.inl rfl) ⟨by rw [if_neg q1, if_pos q2], rfl⟩
    · skip
      refine m2_iconst hB dX6_has_12 (v := 1) (by decide) ?_
      refine m2_goto hB dX6_has_13 (tgt := 17) (by decide) ?_
      exact m2_zret h dX6_has_17 (Or.inr rfl) ⟨by rw [if_neg q1, if_neg q2], rfl⟩
def fX6_has (x1 : Int32) (μ : m2M) : Int32 := (if x1 < 0 then 0 else (if (μ.1 kP 8) ≤ x1 then 0 else 1 : Int32) : Int32)
theorem P_X6_has {D : Nat} (hD : 0 ≤ D) (x1 : Int32) (μ : m2M)  : m2_MT D yX6_has cX6_has 2 (some .boolean) [.ref kP, .int x1] μ (fun r μ' => r = some (.int (if (fX6_has x1 μ) = 1 then 1 else 0 : Int32)) ∧ μ' = μ) :=
  (P0_X6_has hD x1 μ ).mono (fun r μ' q => ⟨q.1.trans (congrArg (fun z : Int32 => some (Value.int z)) (m2_b01 (v := (fX6_has x1 μ)) (by unfold fX6_has; (repeat' split) <;> first | exact Or.inl rfl | exact Or.inr rfl))), q.2⟩)
theorem dX6_isBusy_0 : decode cX6_isBusy 0 = .ok (.aload_n 0, 1) := by decide +kernel
theorem dX6_isBusy_1 : decode cX6_isBusy 1 = .ok (.getfield 25, 3) := by decide +kernel
theorem dX6_isBusy_4 : decode cX6_isBusy 4 = .ok (.iload_n 1, 1) := by decide +kernel
theorem dX6_isBusy_5 : decode cX6_isBusy 5 = .ok (.iaload, 1) := by decide +kernel
theorem dX6_isBusy_6 : decode cX6_isBusy 6 = .ok (.iconst (-1), 1) := by decide +kernel
theorem dX6_isBusy_7 : decode cX6_isBusy 7 = .ok (.if_icmp .eq 16, 3) := by decide +kernel
theorem dX6_isBusy_10 : decode cX6_isBusy 10 = .ok (.aload_n 0, 1) := by decide +kernel
theorem dX6_isBusy_11 : decode cX6_isBusy 11 = .ok (.getfield 34, 3) := by decide +kernel
theorem dX6_isBusy_14 : decode cX6_isBusy 14 = .ok (.iload_n 1, 1) := by decide +kernel
theorem dX6_isBusy_15 : decode cX6_isBusy 15 = .ok (.baload, 1) := by decide +kernel
theorem dX6_isBusy_16 : decode cX6_isBusy 16 = .ok (.ifCond .ne 7, 3) := by decide +kernel
theorem dX6_isBusy_19 : decode cX6_isBusy 19 = .ok (.iconst 1, 1) := by decide +kernel
theorem dX6_isBusy_20 : decode cX6_isBusy 20 = .ok (.goto 4, 3) := by decide +kernel
theorem dX6_isBusy_23 : decode cX6_isBusy 23 = .ok (.iconst 0, 1) := by decide +kernel
theorem dX6_isBusy_24 : decode cX6_isBusy 24 = .ok (.ireturn, 1) := by decide +kernel
set_option maxRecDepth 100000 in
set_option maxHeartbeats 4000000 in
theorem P0_X6_isBusy {D : Nat} (hD : 0 ≤ D) (x1 : Int32) (μ : m2M) (s0 : vp_in x1 8) : m2_MT D yX6_isBusy cX6_isBusy 2 (some .boolean) [.ref kP, .int x1] μ (fun r μ' => r = some (.int (if (μ.1 kP_errand (x1).toNatClampNeg) = (-1) then 0 else (if (μ.1 kP_done (x1).toNatClampNeg) = 0 then 1 else 0 : Int32) : Int32)) ∧ μ' = μ) := by
  refine m2_MT.intro (ls := [.ref kP, .int x1]) (by decide +kernel) rfl (Nat.le_of_ble_eq_true rfl) (fun κ h => ?_)
  have hB := h.b
  refine m2_aload_n hB dX6_isBusy_0 rfl ?_
  refine m2_getR hB dX6_isBusy_1 fl_X6_25 sh_kP (c1 := kP_errand) rfl ?_
  refine m2_iload_n hB dX6_isBusy_4 rfl ?_
  have hi1 := s0
  refine m2_iald hB dX6_isBusy_5 sh_kP_errand hi1 ?_
  refine m2_iconst hB dX6_isBusy_6 (v := (-1)) (by decide) ?_
  refine m2_icmp_eq hB dX6_isBusy_7 (tgt := 23) (by decide) (fun q2 : (μ.1 kP_errand (x1).toNatClampNeg) = (-1) => ?_) (fun q2 : ¬ (μ.1 kP_errand (x1).toNatClampNeg) = (-1) => ?_)
  · skip
    refine m2_iconst hB dX6_isBusy_23 (v := 0) (by decide) ?_
    exact m2_zret h dX6_isBusy_24 (Or.inl rfl) ⟨by rw [if_pos q2], rfl⟩
  · skip
    refine m2_aload_n hB dX6_isBusy_10 rfl ?_
    refine m2_getR hB dX6_isBusy_11 fl_X6_34 sh_kP (c1 := kP_done) rfl ?_
    refine m2_iload_n hB dX6_isBusy_14 rfl ?_
    have hi3 := hi1
    refine m2_zald hB dX6_isBusy_15 sh_kP_done hi3 ?_
    refine m2_if_ne hB dX6_isBusy_16 (tgt := 23) (by decide) (fun q4 : ¬ (μ.1 kP_done (x1).toNatClampNeg) = 0 => ?_) (fun q4 : (μ.1 kP_done (x1).toNatClampNeg) = 0 => ?_)
    · skip
      refine m2_iconst hB dX6_isBusy_23 (v := 0) (by decide) ?_
      exact m2_zret h dX6_isBusy_24 (Or.inl rfl) ⟨by rw [if_neg q2, if_neg q4], rfl⟩
    · skip
      refine m2_iconst hB dX6_isBusy_19 (v := 1) (by decide) ?_
      refine m2_goto hB dX6_isBusy_20 (tgt := 24) (by decide) ?_
      exact m2_zret h dX6_isBusy_24 (Or.inr rfl) ⟨by rw [if_neg q2, if_pos q4], rfl⟩
def fX6_isBusy (x1 : Int32) (μ : m2M) : Int32 := (if (μ.1 kP_errand (x1).toNatClampNeg) = (-1) then 0 else (if (μ.1 kP_done (x1).toNatClampNeg) = 0 then 1 else 0 : Int32) : Int32)
theorem P_X6_isBusy {D : Nat} (hD : 0 ≤ D) (x1 : Int32) (μ : m2M) (s0 : vp_in x1 8) : m2_MT D yX6_isBusy cX6_isBusy 2 (some .boolean) [.ref kP, .int x1] μ (fun r μ' => r = some (.int (if (fX6_isBusy x1 μ) = 1 then 1 else 0 : Int32)) ∧ μ' = μ) :=
  (P0_X6_isBusy hD x1 μ s0).mono (fun r μ' q => ⟨q.1.trans (congrArg (fun z : Int32 => some (Value.int z)) (m2_b01 (v := (fX6_isBusy x1 μ)) (by unfold fX6_isBusy; (repeat' split) <;> first | exact Or.inl rfl | exact Or.inr rfl))), q.2⟩)
theorem dX6_goal_0 : decode cX6_goal 0 = .ok (.aload_n 0, 1) := by decide +kernel
theorem dX6_goal_1 : decode cX6_goal 1 = .ok (.iload_n 1, 1) := by decide +kernel
theorem dX6_goal_2 : decode cX6_goal 2 = .ok (.invokevirtual 41, 3) := by decide +kernel
theorem dX6_goal_5 : decode cX6_goal 5 = .ok (.ifCond .ne 5, 3) := by decide +kernel
theorem dX6_goal_8 : decode cX6_goal 8 = .ok (.iconst (-1), 1) := by decide +kernel
theorem dX6_goal_9 : decode cX6_goal 9 = .ok (.ireturn, 1) := by decide +kernel
theorem dX6_goal_10 : decode cX6_goal 10 = .ok (.aload_n 0, 1) := by decide +kernel
theorem dX6_goal_11 : decode cX6_goal 11 = .ok (.getfield 31, 3) := by decide +kernel
theorem dX6_goal_14 : decode cX6_goal 14 = .ok (.iload_n 1, 1) := by decide +kernel
theorem dX6_goal_15 : decode cX6_goal 15 = .ok (.baload, 1) := by decide +kernel
theorem dX6_goal_16 : decode cX6_goal 16 = .ok (.ifCond .eq 12, 3) := by decide +kernel
theorem dX6_goal_19 : decode cX6_goal 19 = .ok (.aload_n 0, 1) := by decide +kernel
theorem dX6_goal_20 : decode cX6_goal 20 = .ok (.getfield 15, 3) := by decide +kernel
theorem dX6_goal_23 : decode cX6_goal 23 = .ok (.iload_n 1, 1) := by decide +kernel
theorem dX6_goal_24 : decode cX6_goal 24 = .ok (.iaload, 1) := by decide +kernel
theorem dX6_goal_25 : decode cX6_goal 25 = .ok (.goto 9, 3) := by decide +kernel
theorem dX6_goal_28 : decode cX6_goal 28 = .ok (.aload_n 0, 1) := by decide +kernel
theorem dX6_goal_29 : decode cX6_goal 29 = .ok (.getfield 25, 3) := by decide +kernel
theorem dX6_goal_32 : decode cX6_goal 32 = .ok (.iload_n 1, 1) := by decide +kernel
theorem dX6_goal_33 : decode cX6_goal 33 = .ok (.iaload, 1) := by decide +kernel
theorem dX6_goal_34 : decode cX6_goal 34 = .ok (.ireturn, 1) := by decide +kernel
set_option maxRecDepth 100000 in
set_option maxHeartbeats 4000000 in
theorem P0_X6_goal {D : Nat} (hD : 1 ≤ D) (x1 : Int32) (μ : m2M) (s0 : vp_in x1 8) : m2_MT D yX6_goal cX6_goal 2 (some .int) [.ref kP, .int x1] μ (fun r μ' => r = some (.int (if (fX6_isBusy x1 μ) = 1 then (if (μ.1 kP_reached (x1).toNatClampNeg) = 0 then (μ.1 kP_errand (x1).toNatClampNeg) else (μ.1 kP_first (x1).toNatClampNeg) : Int32) else (-1) : Int32)) ∧ μ' = μ) := by
  obtain ⟨D, rfl⟩ : ∃ E, D = E + 1 := ⟨D - 1, by omega⟩
  refine m2_MT.intro (ls := [.ref kP, .int x1]) (by decide +kernel) rfl (Nat.le_of_ble_eq_true rfl) (fun κ h => ?_)
  have hB := h.b
  refine m2_aload_n hB dX6_goal_0 rfl ?_
  refine m2_iload_n hB dX6_goal_1 rfl ?_
  have hs1 := s0
  refine m2_invz hB (as := [.int x1]) dX6_goal_2 mv_X6_41 rfl sh_kP rfl (Nat.le_of_ble_eq_true rfl) rfl (P_X6_isBusy (by omega) (x1) _ hs1) (fun y2 μ3 hq4 => ?_)
  obtain ⟨⟨⟩, hq4⟩ := hq4
  subst μ3
  show κ 5 [.ref kP, .int x1] [.int (if (fX6_isBusy x1 μ) = 1 then 1 else 0 : Int32)] μ
  by_cases q5 : (fX6_isBusy x1 μ) = 1
  · rw [if_pos q5]
    refine m2_if_ne hB dX6_goal_5 (tgt := 10) (by decide) (fun _ => ?_) (fun q => absurd q (by decide))
    refine m2_aload_n hB dX6_goal_10 rfl ?_
    refine m2_getR hB dX6_goal_11 fl_X6_31 sh_kP (c1 := kP_reached) rfl ?_
    refine m2_iload_n hB dX6_goal_14 rfl ?_
    have hi6 := hs1
    refine m2_zald hB dX6_goal_15 sh_kP_reached hi6 ?_
    refine m2_if_eq hB dX6_goal_16 (tgt := 28) (by decide) (fun q7 : (μ.1 kP_reached (x1).toNatClampNeg) = 0 => ?_) (fun q7 : ¬ (μ.1 kP_reached (x1).toNatClampNeg) = 0 => ?_)
    · skip
      refine m2_aload_n hB dX6_goal_28 rfl ?_
      refine m2_getR hB dX6_goal_29 fl_X6_25 sh_kP (c1 := kP_errand) rfl ?_
      refine m2_iload_n hB dX6_goal_32 rfl ?_
      have hi8 := hs1
      refine m2_iald hB dX6_goal_33 sh_kP_errand hi8 ?_
      exact m2_iret h dX6_goal_34 ⟨by rw [if_pos q5, if_pos q7], rfl⟩
    · skip
      refine m2_aload_n hB dX6_goal_19 rfl ?_
      refine m2_getR hB dX6_goal_20 fl_X6_15 sh_kP (c1 := kP_first) rfl ?_
      refine m2_iload_n hB dX6_goal_23 rfl ?_
      have hi9 := hs1
      refine m2_iald hB dX6_goal_24 sh_kP_first hi9 ?_
      refine m2_goto hB dX6_goal_25 (tgt := 34) (by decide) ?_
      exact m2_iret h dX6_goal_34 ⟨by rw [if_pos q5, if_neg q7], rfl⟩
  · rw [if_neg q5]
    refine m2_if_ne hB dX6_goal_5 (tgt := 10) (by decide) (fun q => absurd q (by decide)) (fun _ => ?_)
    refine m2_iconst hB dX6_goal_8 (v := (-1)) (by decide) ?_
    exact m2_iret h dX6_goal_9 ⟨by rw [if_neg q5], rfl⟩
def fX6_goal (x1 : Int32) (μ : m2M) : Int32 := (if (fX6_isBusy x1 μ) = 1 then (if (μ.1 kP_reached (x1).toNatClampNeg) = 0 then (μ.1 kP_errand (x1).toNatClampNeg) else (μ.1 kP_first (x1).toNatClampNeg) : Int32) else (-1) : Int32)
theorem P_X6_goal {D : Nat} (hD : 1 ≤ D) (x1 : Int32) (μ : m2M) (s0 : vp_in x1 8) : m2_MT D yX6_goal cX6_goal 2 (some .int) [.ref kP, .int x1] μ (fun r μ' => r = some (.int (fX6_goal x1 μ)) ∧ μ' = μ) :=
  P0_X6_goal hD x1 μ s0
theorem dX11_sheetEntry_0 : decode cX11_sheetEntry 0 = .ok (.iload_n 1, 1) := by decide +kernel
theorem dX11_sheetEntry_1 : decode cX11_sheetEntry 1 = .ok (.istore_n 2, 1) := by decide +kernel
theorem dX11_sheetEntry_2 : decode cX11_sheetEntry 2 = .ok (.iload_n 0, 1) := by decide +kernel
theorem dX11_sheetEntry_3 : decode cX11_sheetEntry 3 = .ok (.ifCond .ne 9, 3) := by decide +kernel
theorem dX11_sheetEntry_6 : decode cX11_sheetEntry 6 = .ok (.iload_n 1, 1) := by decide +kernel
theorem dX11_sheetEntry_7 : decode cX11_sheetEntry 7 = .ok (.i2b, 1) := by decide +kernel
theorem dX11_sheetEntry_8 : decode cX11_sheetEntry 8 = .ok (.istore_n 2, 1) := by decide +kernel
theorem dX11_sheetEntry_9 : decode cX11_sheetEntry 9 = .ok (.goto 11, 3) := by decide +kernel
theorem dX11_sheetEntry_12 : decode cX11_sheetEntry 12 = .ok (.iload_n 0, 1) := by decide +kernel
theorem dX11_sheetEntry_13 : decode cX11_sheetEntry 13 = .ok (.iconst 1, 1) := by decide +kernel
theorem dX11_sheetEntry_14 : decode cX11_sheetEntry 14 = .ok (.if_icmp .ne 6, 3) := by decide +kernel
theorem dX11_sheetEntry_17 : decode cX11_sheetEntry 17 = .ok (.iload_n 1, 1) := by decide +kernel
theorem dX11_sheetEntry_18 : decode cX11_sheetEntry 18 = .ok (.i2s, 1) := by decide +kernel
theorem dX11_sheetEntry_19 : decode cX11_sheetEntry 19 = .ok (.istore_n 2, 1) := by decide +kernel
theorem dX11_sheetEntry_20 : decode cX11_sheetEntry 20 = .ok (.iconst 0, 1) := by decide +kernel
theorem dX11_sheetEntry_21 : decode cX11_sheetEntry 21 = .ok (.bipush 60, 2) := by decide +kernel
theorem dX11_sheetEntry_23 : decode cX11_sheetEntry 23 = .ok (.iload_n 2, 1) := by decide +kernel
theorem dX11_sheetEntry_24 : decode cX11_sheetEntry 24 = .ok (.invokestatic 282, 3) := by decide +kernel
theorem dX11_sheetEntry_27 : decode cX11_sheetEntry 27 = .ok (.invokestatic 427, 3) := by decide +kernel
theorem dX11_sheetEntry_30 : decode cX11_sheetEntry 30 = .ok (.ireturn, 1) := by decide +kernel
set_option maxRecDepth 100000 in
set_option maxHeartbeats 4000000 in
theorem P0_X11_sheetEntry {D : Nat} (hD : 1 ≤ D) (x1 : Int32) (x2 : Int32) (μ : m2M)  : m2_MT D yX11_sheetEntry cX11_sheetEntry 3 (some .int) [.int x1, .int x2] μ (fun r μ' => r = some (.int (if x1 = 0 then (m2_max 0 (m2_min 60 (x2).toInt8.toInt32)) else (if x1 = 1 then (m2_max 0 (m2_min 60 (x2).toInt16.toInt32)) else (m2_max 0 (m2_min 60 x2)) : Int32) : Int32)) ∧ μ' = μ) := by
  obtain ⟨D, rfl⟩ : ∃ E, D = E + 1 := ⟨D - 1, by omega⟩
  refine m2_MT.intro (ls := [.int x1, .int x2, .null]) (by decide +kernel) rfl (Nat.le_of_ble_eq_true rfl) (fun κ h => ?_)
  have hB := h.b
  refine m2_iload_n hB dX11_sheetEntry_0 rfl ?_
  refine m2_istore_n hB (ls' := [.int x1, .int x2, .int x2]) dX11_sheetEntry_1 rfl (by decide) rfl ?_
  refine m2_iload_n hB dX11_sheetEntry_2 rfl ?_
  refine m2_if_ne hB dX11_sheetEntry_3 (tgt := 12) (by decide) (fun q1 : ¬ x1 = 0 => ?_) (fun q1 : x1 = 0 => ?_)
  · skip
    refine m2_iload_n hB dX11_sheetEntry_12 rfl ?_
    refine m2_iconst hB dX11_sheetEntry_13 (v := 1) (by decide) ?_
    refine m2_icmp_ne hB dX11_sheetEntry_14 (tgt := 20) (by decide) (fun q2 : ¬ x1 = 1 => ?_) (fun q2 : x1 = 1 => ?_)
    · skip
      refine m2_iconst hB dX11_sheetEntry_20 (v := 0) (by decide) ?_
      refine m2_bipush hB dX11_sheetEntry_21 (v := 60) (by decide) ?_
      refine m2_iload_n hB dX11_sheetEntry_23 rfl ?_
      refine m2_mmin hB dX11_sheetEntry_24 ms_X11_282 (Nat.le_of_ble_eq_true rfl) ?_
      refine m2_mmax hB dX11_sheetEntry_27 ms_X11_427 (Nat.le_of_ble_eq_true rfl) ?_
      exact m2_iret h dX11_sheetEntry_30 ⟨by rw [if_neg q1, if_neg q2], rfl⟩
    · skip
      refine m2_iload_n hB dX11_sheetEntry_17 rfl ?_
      refine m2_i2s hB dX11_sheetEntry_18 ?_
      refine m2_istore_n hB (ls' := [.int x1, .int x2, .int (x2).toInt16.toInt32]) dX11_sheetEntry_19 rfl (by decide) rfl ?_
      refine m2_iconst hB dX11_sheetEntry_20 (v := 0) (by decide) ?_
      refine m2_bipush hB dX11_sheetEntry_21 (v := 60) (by decide) ?_
      refine m2_iload_n hB dX11_sheetEntry_23 rfl ?_
      refine m2_mmin hB dX11_sheetEntry_24 ms_X11_282 (Nat.le_of_ble_eq_true rfl) ?_
      refine m2_mmax hB dX11_sheetEntry_27 ms_X11_427 (Nat.le_of_ble_eq_true rfl) ?_
      exact m2_iret h dX11_sheetEntry_30 ⟨by rw [if_neg q1, if_pos q2], rfl⟩
  · skip
    refine m2_iload_n hB dX11_sheetEntry_6 rfl ?_
    refine m2_i2b hB dX11_sheetEntry_7 ?_
    refine m2_istore_n hB (ls' := [.int x1, .int x2, .int (x2).toInt8.toInt32]) dX11_sheetEntry_8 rfl (by decide) rfl ?_
    refine m2_goto hB dX11_sheetEntry_9 (tgt := 20) (by decide) ?_
    refine m2_iconst hB dX11_sheetEntry_20 (v := 0) (by decide) ?_
    refine m2_bipush hB dX11_sheetEntry_21 (v := 60) (by decide) ?_
    refine m2_iload_n hB dX11_sheetEntry_23 rfl ?_
    refine m2_mmin hB dX11_sheetEntry_24 ms_X11_282 (Nat.le_of_ble_eq_true rfl) ?_
    refine m2_mmax hB dX11_sheetEntry_27 ms_X11_427 (Nat.le_of_ble_eq_true rfl) ?_
    exact m2_iret h dX11_sheetEntry_30 ⟨by rw [if_pos q1], rfl⟩
def fX11_sheetEntry (x1 : Int32) (x2 : Int32) : Int32 := (if x1 = 0 then (m2_max 0 (m2_min 60 (x2).toInt8.toInt32)) else (if x1 = 1 then (m2_max 0 (m2_min 60 (x2).toInt16.toInt32)) else (m2_max 0 (m2_min 60 x2)) : Int32) : Int32)
theorem P_X11_sheetEntry {D : Nat} (hD : 1 ≤ D) (x1 : Int32) (x2 : Int32) (μ : m2M)  : m2_MT D yX11_sheetEntry cX11_sheetEntry 3 (some .int) [.int x1, .int x2] μ (fun r μ' => r = some (.int (fX11_sheetEntry x1 x2)) ∧ μ' = μ) :=
  P0_X11_sheetEntry hD x1 x2 μ 
theorem dX11_isRoom_0 : decode cX11_isRoom 0 = .ok (.iload_n 0, 1) := by decide +kernel
theorem dX11_isRoom_1 : decode cX11_isRoom 1 = .ok (.ifCond .lt 13, 3) := by decide +kernel
theorem dX11_isRoom_4 : decode cX11_isRoom 4 = .ok (.iload_n 0, 1) := by decide +kernel
theorem dX11_isRoom_5 : decode cX11_isRoom 5 = .ok (.bipush 12, 2) := by decide +kernel
theorem dX11_isRoom_7 : decode cX11_isRoom 7 = .ok (.if_icmp .ge 7, 3) := by decide +kernel
theorem dX11_isRoom_10 : decode cX11_isRoom 10 = .ok (.iconst 1, 1) := by decide +kernel
theorem dX11_isRoom_11 : decode cX11_isRoom 11 = .ok (.goto 4, 3) := by decide +kernel
theorem dX11_isRoom_14 : decode cX11_isRoom 14 = .ok (.iconst 0, 1) := by decide +kernel
theorem dX11_isRoom_15 : decode cX11_isRoom 15 = .ok (.ireturn, 1) := by decide +kernel
set_option maxRecDepth 100000 in
set_option maxHeartbeats 4000000 in
theorem P0_X11_isRoom {D : Nat} (hD : 0 ≤ D) (x1 : Int32) (μ : m2M)  : m2_MT D yX11_isRoom cX11_isRoom 1 (some .boolean) [.int x1] μ (fun r μ' => r = some (.int (if x1 < 0 then 0 else (if 12 ≤ x1 then 0 else 1 : Int32) : Int32)) ∧ μ' = μ) := by
  refine m2_MT.intro (ls := [.int x1]) (by decide +kernel) rfl (Nat.le_of_ble_eq_true rfl) (fun κ h => ?_)
  have hB := h.b
  refine m2_iload_n hB dX11_isRoom_0 rfl ?_
  refine m2_if_lt hB dX11_isRoom_1 (tgt := 14) (by decide) (fun q1 : x1 < 0 => ?_) (fun q1 : ¬ x1 < 0 => ?_)
  · skip
    refine m2_iconst hB dX11_isRoom_14 (v := 0) (by decide) ?_
    exact m2_zret h dX11_isRoom_15 (Or.inl rfl) ⟨by rw [if_pos q1], rfl⟩
  · skip
    refine m2_iload_n hB dX11_isRoom_4 rfl ?_
    refine m2_bipush hB dX11_isRoom_5 (v := 12) (by decide) ?_
    refine m2_icmp_ge hB dX11_isRoom_7 (tgt := 14) (by decide) (fun q2 : 12 ≤ x1 => ?_) (fun q2 : ¬ 12 ≤ x1 => ?_)
    · skip
      refine m2_iconst hB dX11_isRoom_14 (v := 0) (by decide) ?_
      exact m2_zret h dX11_isRoom_15 (Or.inl rfl) ⟨by rw [if_neg q1, if_pos q2], rfl⟩
    · skip
      refine m2_iconst hB dX11_isRoom_10 (v := 1) (by decide) ?_
      refine m2_goto hB dX11_isRoom_11 (tgt := 15) (by decide) ?_
      exact m2_zret h dX11_isRoom_15 (Or.inr rfl) ⟨by rw [if_neg q1, if_neg q2], rfl⟩
def fX11_isRoom (x1 : Int32) : Int32 := (if x1 < 0 then 0 else (if 12 ≤ x1 then 0 else 1 : Int32) : Int32)
theorem P_X11_isRoom {D : Nat} (hD : 0 ≤ D) (x1 : Int32) (μ : m2M)  : m2_MT D yX11_isRoom cX11_isRoom 1 (some .boolean) [.int x1] μ (fun r μ' => r = some (.int (if (fX11_isRoom x1) = 1 then 1 else 0 : Int32)) ∧ μ' = μ) :=
  (P0_X11_isRoom hD x1 μ ).mono (fun r μ' q => ⟨q.1.trans (congrArg (fun z : Int32 => some (Value.int z)) (m2_b01 (v := (fX11_isRoom x1)) (by unfold fX11_isRoom; (repeat' split) <;> first | exact Or.inl rfl | exact Or.inr rfl))), q.2⟩)
theorem dX11_areUnlikeRooms_0 : decode cX11_areUnlikeRooms 0 = .ok (.iload_n 0, 1) := by decide +kernel
theorem dX11_areUnlikeRooms_1 : decode cX11_areUnlikeRooms 1 = .ok (.invokestatic 219, 3) := by decide +kernel
theorem dX11_areUnlikeRooms_4 : decode cX11_areUnlikeRooms 4 = .ok (.ifCond .eq 19, 3) := by decide +kernel
theorem dX11_areUnlikeRooms_7 : decode cX11_areUnlikeRooms 7 = .ok (.iload_n 1, 1) := by decide +kernel
theorem dX11_areUnlikeRooms_8 : decode cX11_areUnlikeRooms 8 = .ok (.invokestatic 219, 3) := by decide +kernel
theorem dX11_areUnlikeRooms_11 : decode cX11_areUnlikeRooms 11 = .ok (.ifCond .eq 12, 3) := by decide +kernel
theorem dX11_areUnlikeRooms_14 : decode cX11_areUnlikeRooms 14 = .ok (.iload_n 0, 1) := by decide +kernel
theorem dX11_areUnlikeRooms_15 : decode cX11_areUnlikeRooms 15 = .ok (.iload_n 1, 1) := by decide +kernel
theorem dX11_areUnlikeRooms_16 : decode cX11_areUnlikeRooms 16 = .ok (.if_icmp .eq 7, 3) := by decide +kernel
theorem dX11_areUnlikeRooms_19 : decode cX11_areUnlikeRooms 19 = .ok (.iconst 1, 1) := by decide +kernel
theorem dX11_areUnlikeRooms_20 : decode cX11_areUnlikeRooms 20 = .ok (.goto 4, 3) := by decide +kernel
theorem dX11_areUnlikeRooms_23 : decode cX11_areUnlikeRooms 23 = .ok (.iconst 0, 1) := by decide +kernel
theorem dX11_areUnlikeRooms_24 : decode cX11_areUnlikeRooms 24 = .ok (.ireturn, 1) := by decide +kernel
set_option maxRecDepth 100000 in
set_option maxHeartbeats 4000000 in
theorem P0_X11_areUnlikeRooms {D : Nat} (hD : 1 ≤ D) (x1 : Int32) (x2 : Int32) (μ : m2M)  : m2_MT D yX11_areUnlikeRooms cX11_areUnlikeRooms 2 (some .boolean) [.int x1, .int x2] μ (fun r μ' => r = some (.int (if (fX11_isRoom x1) = 1 then (if (fX11_isRoom x2) = 1 then (if x1 = x2 then 0 else 1 : Int32) else 0 : Int32) else 0 : Int32)) ∧ μ' = μ) := by
  obtain ⟨D, rfl⟩ : ∃ E, D = E + 1 := ⟨D - 1, by omega⟩
  refine m2_MT.intro (ls := [.int x1, .int x2]) (by decide +kernel) rfl (Nat.le_of_ble_eq_true rfl) (fun κ h => ?_)
  have hB := h.b
  refine m2_iload_n hB dX11_areUnlikeRooms_0 rfl ?_
  refine m2_invSz hB (as := [.int x1]) dX11_areUnlikeRooms_1 ms_X11_219 rfl (Nat.le_of_ble_eq_true rfl) rfl (P_X11_isRoom (by omega) (x1) _ ) (fun y1 μ2 hq3 => ?_)
  obtain ⟨⟨⟩, hq3⟩ := hq3
  subst μ2
  show κ 4 [.int x1, .int x2] [.int (if (fX11_isRoom x1) = 1 then 1 else 0 : Int32)] μ
  by_cases q4 : (fX11_isRoom x1) = 1
  · rw [if_pos q4]
    refine m2_if_eq hB dX11_areUnlikeRooms_4 (tgt := 23) (by decide) (fun q => absurd q (by decide)) (fun _ => ?_)
    refine m2_iload_n hB dX11_areUnlikeRooms_7 rfl ?_
    refine m2_invSz hB (as := [.int x2]) dX11_areUnlikeRooms_8 ms_X11_219 rfl (Nat.le_of_ble_eq_true rfl) rfl (P_X11_isRoom (by omega) (x2) _ ) (fun y5 μ6 hq7 => ?_)
    obtain ⟨⟨⟩, hq7⟩ := hq7
    subst μ6
    show κ 11 [.int x1, .int x2] [.int (if (fX11_isRoom x2) = 1 then 1 else 0 : Int32)] μ
    by_cases q8 : (fX11_isRoom x2) = 1
    · rw [if_pos q8]
      refine m2_if_eq hB dX11_areUnlikeRooms_11 (tgt := 23) (by decide) (fun q => absurd q (by decide)) (fun _ => ?_)
      refine m2_iload_n hB dX11_areUnlikeRooms_14 rfl ?_
      refine m2_iload_n hB dX11_areUnlikeRooms_15 rfl ?_
      refine m2_icmp_eq hB dX11_areUnlikeRooms_16 (tgt := 23) (by decide) (fun q9 : x1 = x2 => ?_) (fun q9 : ¬ x1 = x2 => ?_)
      · skip
        refine m2_iconst hB dX11_areUnlikeRooms_23 (v := 0) (by decide) ?_
        exact m2_zret h dX11_areUnlikeRooms_24 (Or.inl rfl) ⟨by rw [if_pos q4, if_pos q8, if_pos q9], rfl⟩
      · skip
        refine m2_iconst hB dX11_areUnlikeRooms_19 (v := 1) (by decide) ?_
        refine m2_goto hB dX11_areUnlikeRooms_20 (tgt := 24) (by decide) ?_
        exact m2_zret h dX11_areUnlikeRooms_24 (Or.inr rfl) ⟨by rw [if_pos q4, if_pos q8, if_neg q9], rfl⟩
    · rw [if_neg q8]
      refine m2_if_eq hB dX11_areUnlikeRooms_11 (tgt := 23) (by decide) (fun _ => ?_) (fun q => absurd q (by decide))
      refine m2_iconst hB dX11_areUnlikeRooms_23 (v := 0) (by decide) ?_
      exact m2_zret h dX11_areUnlikeRooms_24 (Or.inl rfl) ⟨by rw [if_pos q4, if_neg q8], rfl⟩
  · rw [if_neg q4]
    refine m2_if_eq hB dX11_areUnlikeRooms_4 (tgt := 23) (by decide) (fun _ => ?_) (fun q => absurd q (by decide))
    refine m2_iconst hB dX11_areUnlikeRooms_23 (v := 0) (by decide) ?_
    exact m2_zret h dX11_areUnlikeRooms_24 (Or.inl rfl) ⟨by rw [if_neg q4], rfl⟩
def fX11_areUnlikeRooms (x1 : Int32) (x2 : Int32) : Int32 := (if (fX11_isRoom x1) = 1 then (if (fX11_isRoom x2) = 1 then (if x1 = x2 then 0 else 1 : Int32) else 0 : Int32) else 0 : Int32)
theorem P_X11_areUnlikeRooms {D : Nat} (hD : 1 ≤ D) (x1 : Int32) (x2 : Int32) (μ : m2M)  : m2_MT D yX11_areUnlikeRooms cX11_areUnlikeRooms 2 (some .boolean) [.int x1, .int x2] μ (fun r μ' => r = some (.int (if (fX11_areUnlikeRooms x1 x2) = 1 then 1 else 0 : Int32)) ∧ μ' = μ) :=
  (P0_X11_areUnlikeRooms hD x1 x2 μ ).mono (fun r μ' q => ⟨q.1.trans (congrArg (fun z : Int32 => some (Value.int z)) (m2_b01 (v := (fX11_areUnlikeRooms x1 x2)) (by unfold fX11_areUnlikeRooms; (repeat' split) <;> first | exact Or.inl rfl | exact Or.inr rfl))), q.2⟩)
theorem dX11_isPlan_0 : decode cX11_isPlan 0 = .ok (.iload_n 0, 1) := by decide +kernel
theorem dX11_isPlan_1 : decode cX11_isPlan 1 = .ok (.ifCond .lt 12, 3) := by decide +kernel
theorem dX11_isPlan_4 : decode cX11_isPlan 4 = .ok (.iload_n 0, 1) := by decide +kernel
theorem dX11_isPlan_5 : decode cX11_isPlan 5 = .ok (.iconst 4, 1) := by decide +kernel
theorem dX11_isPlan_6 : decode cX11_isPlan 6 = .ok (.if_icmp .ge 7, 3) := by decide +kernel
theorem dX11_isPlan_9 : decode cX11_isPlan 9 = .ok (.iconst 1, 1) := by decide +kernel
theorem dX11_isPlan_10 : decode cX11_isPlan 10 = .ok (.goto 4, 3) := by decide +kernel
theorem dX11_isPlan_13 : decode cX11_isPlan 13 = .ok (.iconst 0, 1) := by decide +kernel
theorem dX11_isPlan_14 : decode cX11_isPlan 14 = .ok (.ireturn, 1) := by decide +kernel
set_option maxRecDepth 100000 in
set_option maxHeartbeats 4000000 in
theorem P0_X11_isPlan {D : Nat} (hD : 0 ≤ D) (x1 : Int32) (μ : m2M)  : m2_MT D yX11_isPlan cX11_isPlan 1 (some .boolean) [.int x1] μ (fun r μ' => r = some (.int (if x1 < 0 then 0 else (if 4 ≤ x1 then 0 else 1 : Int32) : Int32)) ∧ μ' = μ) := by
  refine m2_MT.intro (ls := [.int x1]) (by decide +kernel) rfl (Nat.le_of_ble_eq_true rfl) (fun κ h => ?_)
  have hB := h.b
  refine m2_iload_n hB dX11_isPlan_0 rfl ?_
  refine m2_if_lt hB dX11_isPlan_1 (tgt := 13) (by decide) (fun q1 : x1 < 0 => ?_) (fun q1 : ¬ x1 < 0 => ?_)
  · skip
    refine m2_iconst hB dX11_isPlan_13 (v := 0) (by decide) ?_
    exact m2_zret h dX11_isPlan_14 (Or.inl rfl) ⟨by rw [if_pos q1], rfl⟩
  · skip
    refine m2_iload_n hB dX11_isPlan_4 rfl ?_
    refine m2_iconst hB dX11_isPlan_5 (v := 4) (by decide) ?_
    refine m2_icmp_ge hB dX11_isPlan_6 (tgt := 13) (by decide) (fun q2 : 4 ≤ x1 => ?_) (fun q2 : ¬ 4 ≤ x1 => ?_)
    · skip
      refine m2_iconst hB dX11_isPlan_13 (v := 0) (by decide) ?_
      exact m2_zret h dX11_isPlan_14 (Or.inl rfl) ⟨by rw [if_neg q1, if_pos q2], rfl⟩
    · skip
      refine m2_iconst hB dX11_isPlan_9 (v := 1) (by decide) ?_
      refine m2_goto hB dX11_isPlan_10 (tgt := 14) (by decide) ?_
      exact m2_zret h dX11_isPlan_14 (Or.inr rfl) ⟨by rw [if_neg q1, if_neg q2], rfl⟩
def fX11_isPlan (x1 : Int32) : Int32 := (if x1 < 0 then 0 else (if 4 ≤ x1 then 0 else 1 : Int32) : Int32)
theorem P_X11_isPlan {D : Nat} (hD : 0 ≤ D) (x1 : Int32) (μ : m2M)  : m2_MT D yX11_isPlan cX11_isPlan 1 (some .boolean) [.int x1] μ (fun r μ' => r = some (.int (if (fX11_isPlan x1) = 1 then 1 else 0 : Int32)) ∧ μ' = μ) :=
  (P0_X11_isPlan hD x1 μ ).mono (fun r μ' q => ⟨q.1.trans (congrArg (fun z : Int32 => some (Value.int z)) (m2_b01 (v := (fX11_isPlan x1)) (by unfold fX11_isPlan; (repeat' split) <;> first | exact Or.inl rfl | exact Or.inr rfl))), q.2⟩)
theorem dX11_hasBit_0 : decode cX11_hasBit 0 = .ok (.iload_n 0, 1) := by decide +kernel
theorem dX11_hasBit_1 : decode cX11_hasBit 1 = .ok (.iload_n 1, 1) := by decide +kernel
theorem dX11_hasBit_2 : decode cX11_hasBit 2 = .ok (.ishr, 1) := by decide +kernel
theorem dX11_hasBit_3 : decode cX11_hasBit 3 = .ok (.iconst 1, 1) := by decide +kernel
theorem dX11_hasBit_4 : decode cX11_hasBit 4 = .ok (.iand, 1) := by decide +kernel
theorem dX11_hasBit_5 : decode cX11_hasBit 5 = .ok (.ifCond .eq 7, 3) := by decide +kernel
theorem dX11_hasBit_8 : decode cX11_hasBit 8 = .ok (.iconst 1, 1) := by decide +kernel
theorem dX11_hasBit_9 : decode cX11_hasBit 9 = .ok (.goto 4, 3) := by decide +kernel
theorem dX11_hasBit_12 : decode cX11_hasBit 12 = .ok (.iconst 0, 1) := by decide +kernel
theorem dX11_hasBit_13 : decode cX11_hasBit 13 = .ok (.ireturn, 1) := by decide +kernel
set_option maxRecDepth 100000 in
set_option maxHeartbeats 4000000 in
theorem P0_X11_hasBit {D : Nat} (hD : 0 ≤ D) (x1 : Int32) (x2 : Int32) (μ : m2M)  : m2_MT D yX11_hasBit cX11_hasBit 2 (some .boolean) [.int x1, .int x2] μ (fun r μ' => r = some (.int (if ((x1 >>> (x2 &&& 31)) &&& (1 : Int32)) = 0 then 0 else 1 : Int32)) ∧ μ' = μ) := by
  refine m2_MT.intro (ls := [.int x1, .int x2]) (by decide +kernel) rfl (Nat.le_of_ble_eq_true rfl) (fun κ h => ?_)
  have hB := h.b
  refine m2_iload_n hB dX11_hasBit_0 rfl ?_
  refine m2_iload_n hB dX11_hasBit_1 rfl ?_
  refine m2_ishr hB dX11_hasBit_2 ?_
  refine m2_iconst hB dX11_hasBit_3 (v := 1) (by decide) ?_
  refine m2_iand hB dX11_hasBit_4 ?_
  refine m2_if_eq hB dX11_hasBit_5 (tgt := 12) (by decide) (fun q1 : ((x1 >>> (x2 &&& 31)) &&& (1 : Int32)) = 0 => ?_) (fun q1 : ¬ ((x1 >>> (x2 &&& 31)) &&& (1 : Int32)) = 0 => ?_)
  · skip
    refine m2_iconst hB dX11_hasBit_12 (v := 0) (by decide) ?_
    exact m2_zret h dX11_hasBit_13 (Or.inl rfl) ⟨by rw [if_pos q1], rfl⟩
  · skip
    refine m2_iconst hB dX11_hasBit_8 (v := 1) (by decide) ?_
    refine m2_goto hB dX11_hasBit_9 (tgt := 13) (by decide) ?_
    exact m2_zret h dX11_hasBit_13 (Or.inr rfl) ⟨by rw [if_neg q1], rfl⟩
def fX11_hasBit (x1 : Int32) (x2 : Int32) : Int32 := (if ((x1 >>> (x2 &&& 31)) &&& (1 : Int32)) = 0 then 0 else 1 : Int32)
theorem P_X11_hasBit {D : Nat} (hD : 0 ≤ D) (x1 : Int32) (x2 : Int32) (μ : m2M)  : m2_MT D yX11_hasBit cX11_hasBit 2 (some .boolean) [.int x1, .int x2] μ (fun r μ' => r = some (.int (if (fX11_hasBit x1 x2) = 1 then 1 else 0 : Int32)) ∧ μ' = μ) :=
  (P0_X11_hasBit hD x1 x2 μ ).mono (fun r μ' q => ⟨q.1.trans (congrArg (fun z : Int32 => some (Value.int z)) (m2_b01 (v := (fX11_hasBit x1 x2)) (by unfold fX11_hasBit; (repeat' split) <;> first | exact Or.inl rfl | exact Or.inr rfl))), q.2⟩)
theorem dX11_asNumber_0 : decode cX11_asNumber 0 = .ok (.iload_n 0, 1) := by decide +kernel
theorem dX11_asNumber_1 : decode cX11_asNumber 1 = .ok (.ifCond .eq 7, 3) := by decide +kernel
theorem dX11_asNumber_4 : decode cX11_asNumber 4 = .ok (.iconst 1, 1) := by decide +kernel
theorem dX11_asNumber_5 : decode cX11_asNumber 5 = .ok (.goto 4, 3) := by decide +kernel
theorem dX11_asNumber_8 : decode cX11_asNumber 8 = .ok (.iconst 0, 1) := by decide +kernel
theorem dX11_asNumber_9 : decode cX11_asNumber 9 = .ok (.ireturn, 1) := by decide +kernel
set_option maxRecDepth 100000 in
set_option maxHeartbeats 4000000 in
theorem P_X11_asNumber {D : Nat} (hD : 0 ≤ D) (x1 : Int32) (μ : m2M)  : m2_MT D yX11_asNumber cX11_asNumber 1 (some .int) [.int x1] μ (fun r μ' => r = some (.int (if x1 = 0 then 0 else 1 : Int32)) ∧ μ' = μ) := by
  refine m2_MT.intro (ls := [.int x1]) (by decide +kernel) rfl (Nat.le_of_ble_eq_true rfl) (fun κ h => ?_)
  have hB := h.b
  refine m2_iload_n hB dX11_asNumber_0 rfl ?_
  refine m2_if_eq hB dX11_asNumber_1 (tgt := 8) (by decide) (fun q1 : x1 = 0 => ?_) (fun q1 : ¬ x1 = 0 => ?_)
  · skip
    refine m2_iconst hB dX11_asNumber_8 (v := 0) (by decide) ?_
    exact m2_iret h dX11_asNumber_9 ⟨by rw [if_pos q1], rfl⟩
  · skip
    refine m2_iconst hB dX11_asNumber_4 (v := 1) (by decide) ?_
    refine m2_goto hB dX11_asNumber_5 (tgt := 9) (by decide) ?_
    exact m2_iret h dX11_asNumber_9 ⟨by rw [if_neg q1], rfl⟩
theorem dX11_isDigit_0 : decode cX11_isDigit 0 = .ok (.iload_n 0, 1) := by decide +kernel
theorem dX11_isDigit_1 : decode cX11_isDigit 1 = .ok (.bipush 48, 2) := by decide +kernel
theorem dX11_isDigit_3 : decode cX11_isDigit 3 = .ok (.if_icmp .lt 13, 3) := by decide +kernel
theorem dX11_isDigit_6 : decode cX11_isDigit 6 = .ok (.iload_n 0, 1) := by decide +kernel
theorem dX11_isDigit_7 : decode cX11_isDigit 7 = .ok (.bipush 57, 2) := by decide +kernel
theorem dX11_isDigit_9 : decode cX11_isDigit 9 = .ok (.if_icmp .gt 7, 3) := by decide +kernel
theorem dX11_isDigit_12 : decode cX11_isDigit 12 = .ok (.iconst 1, 1) := by decide +kernel
theorem dX11_isDigit_13 : decode cX11_isDigit 13 = .ok (.goto 4, 3) := by decide +kernel
theorem dX11_isDigit_16 : decode cX11_isDigit 16 = .ok (.iconst 0, 1) := by decide +kernel
theorem dX11_isDigit_17 : decode cX11_isDigit 17 = .ok (.ireturn, 1) := by decide +kernel
set_option maxRecDepth 100000 in
set_option maxHeartbeats 4000000 in
theorem P0_X11_isDigit {D : Nat} (hD : 0 ≤ D) (x1 : Int32) (μ : m2M)  : m2_MT D yX11_isDigit cX11_isDigit 1 (some .boolean) [.int x1] μ (fun r μ' => r = some (.int (if x1 < 48 then 0 else (if 57 < x1 then 0 else 1 : Int32) : Int32)) ∧ μ' = μ) := by
  refine m2_MT.intro (ls := [.int x1]) (by decide +kernel) rfl (Nat.le_of_ble_eq_true rfl) (fun κ h => ?_)
  have hB := h.b
  refine m2_iload_n hB dX11_isDigit_0 rfl ?_
  refine m2_bipush hB dX11_isDigit_1 (v := 48) (by decide) ?_
  refine m2_icmp_lt hB dX11_isDigit_3 (tgt := 16) (by decide) (fun q1 : x1 < 48 => ?_) (fun q1 : ¬ x1 < 48 => ?_)
  · skip
    refine m2_iconst hB dX11_isDigit_16 (v := 0) (by decide) ?_
    exact m2_zret h dX11_isDigit_17 (Or.inl rfl) ⟨by rw [if_pos q1], rfl⟩
  · skip
    refine m2_iload_n hB dX11_isDigit_6 rfl ?_
    refine m2_bipush hB dX11_isDigit_7 (v := 57) (by decide) ?_
    refine m2_icmp_gt hB dX11_isDigit_9 (tgt := 16) (by decide) (fun q2 : 57 < x1 => ?_) (fun q2 : ¬ 57 < x1 => ?_)
    · skip
      refine m2_iconst hB dX11_isDigit_16 (v := 0) (by decide) ?_
      exact m2_zret h dX11_isDigit_17 (Or.inl rfl) ⟨by rw [if_neg q1, if_pos q2], rfl⟩
    · skip
      refine m2_iconst hB dX11_isDigit_12 (v := 1) (by decide) ?_
      refine m2_goto hB dX11_isDigit_13 (tgt := 17) (by decide) ?_
      exact m2_zret h dX11_isDigit_17 (Or.inr rfl) ⟨by rw [if_neg q1, if_neg q2], rfl⟩
def fX11_isDigit (x1 : Int32) : Int32 := (if x1 < 48 then 0 else (if 57 < x1 then 0 else 1 : Int32) : Int32)
theorem P_X11_isDigit {D : Nat} (hD : 0 ≤ D) (x1 : Int32) (μ : m2M)  : m2_MT D yX11_isDigit cX11_isDigit 1 (some .boolean) [.int x1] μ (fun r μ' => r = some (.int (if (fX11_isDigit x1) = 1 then 1 else 0 : Int32)) ∧ μ' = μ) :=
  (P0_X11_isDigit hD x1 μ ).mono (fun r μ' q => ⟨q.1.trans (congrArg (fun z : Int32 => some (Value.int z)) (m2_b01 (v := (fX11_isDigit x1)) (by unfold fX11_isDigit; (repeat' split) <;> first | exact Or.inl rfl | exact Or.inr rfl))), q.2⟩)
theorem dX12_thrown_0 : decode cX12_thrown 0 = .ok (.aload_n 0, 1) := by decide +kernel
theorem dX12_thrown_1 : decode cX12_thrown 1 = .ok (.getfield 143, 3) := by decide +kernel
theorem dX12_thrown_4 : decode cX12_thrown 4 = .ok (.ireturn, 1) := by decide +kernel
set_option maxRecDepth 100000 in
set_option maxHeartbeats 4000000 in
theorem P_X12_thrown {D : Nat} (hD : 0 ≤ D)  (μ : m2M)  : m2_MT D yX12_thrown cX12_thrown 1 (some .int) [.ref kM] μ (fun r μ' => r = some (.int (μ.1 kM 22)) ∧ μ' = μ) := by
  refine m2_MT.intro (ls := [.ref kM]) (by decide +kernel) rfl (Nat.le_of_ble_eq_true rfl) (fun κ h => ?_)
  have hB := h.b
  refine m2_aload_n hB dX12_thrown_0 rfl ?_
  refine m2_getI hB dX12_thrown_1 fl_X12_143 sh_kM rfl ?_
  exact m2_iret h dX12_thrown_4 ⟨rfl, rfl⟩
theorem dX12_in_0 : decode cX12_in 0 = .ok (.iload_n 0, 1) := by decide +kernel
theorem dX12_in_1 : decode cX12_in 1 = .ok (.iload_n 1, 1) := by decide +kernel
theorem dX12_in_2 : decode cX12_in 2 = .ok (.if_icmp .lt 12, 3) := by decide +kernel
theorem dX12_in_5 : decode cX12_in 5 = .ok (.iload_n 0, 1) := by decide +kernel
theorem dX12_in_6 : decode cX12_in 6 = .ok (.iload_n 2, 1) := by decide +kernel
theorem dX12_in_7 : decode cX12_in 7 = .ok (.if_icmp .gt 7, 3) := by decide +kernel
theorem dX12_in_10 : decode cX12_in 10 = .ok (.iconst 1, 1) := by decide +kernel
theorem dX12_in_11 : decode cX12_in 11 = .ok (.goto 4, 3) := by decide +kernel
theorem dX12_in_14 : decode cX12_in 14 = .ok (.iconst 0, 1) := by decide +kernel
theorem dX12_in_15 : decode cX12_in 15 = .ok (.ireturn, 1) := by decide +kernel
set_option maxRecDepth 100000 in
set_option maxHeartbeats 4000000 in
theorem P0_X12_in {D : Nat} (hD : 0 ≤ D) (x1 : Int32) (x2 : Int32) (x3 : Int32) (μ : m2M)  : m2_MT D yX12_in cX12_in 3 (some .boolean) [.int x1, .int x2, .int x3] μ (fun r μ' => r = some (.int (if x1 < x2 then 0 else (if x3 < x1 then 0 else 1 : Int32) : Int32)) ∧ μ' = μ) := by
  refine m2_MT.intro (ls := [.int x1, .int x2, .int x3]) (by decide +kernel) rfl (Nat.le_of_ble_eq_true rfl) (fun κ h => ?_)
  have hB := h.b
  refine m2_iload_n hB dX12_in_0 rfl ?_
  refine m2_iload_n hB dX12_in_1 rfl ?_
  refine m2_icmp_lt hB dX12_in_2 (tgt := 14) (by decide) (fun q1 : x1 < x2 => ?_) (fun q1 : ¬ x1 < x2 => ?_)
  · skip
    refine m2_iconst hB dX12_in_14 (v := 0) (by decide) ?_
    exact m2_zret h dX12_in_15 (Or.inl rfl) ⟨by rw [if_pos q1], rfl⟩
  · skip
    refine m2_iload_n hB dX12_in_5 rfl ?_
    refine m2_iload_n hB dX12_in_6 rfl ?_
    refine m2_icmp_gt hB dX12_in_7 (tgt := 14) (by decide) (fun q2 : x3 < x1 => ?_) (fun q2 : ¬ x3 < x1 => ?_)
    · skip
      refine m2_iconst hB dX12_in_14 (v := 0) (by decide) ?_
      exact m2_zret h dX12_in_15 (Or.inl rfl) ⟨by rw [if_neg q1, if_pos q2], rfl⟩
    · skip
      refine m2_iconst hB dX12_in_10 (v := 1) (by decide) ?_
      refine m2_goto hB dX12_in_11 (tgt := 15) (by decide) ?_
      exact m2_zret h dX12_in_15 (Or.inr rfl) ⟨by rw [if_neg q1, if_neg q2], rfl⟩
def fX12_in (x1 : Int32) (x2 : Int32) (x3 : Int32) : Int32 := (if x1 < x2 then 0 else (if x3 < x1 then 0 else 1 : Int32) : Int32)
theorem P_X12_in {D : Nat} (hD : 0 ≤ D) (x1 : Int32) (x2 : Int32) (x3 : Int32) (μ : m2M)  : m2_MT D yX12_in cX12_in 3 (some .boolean) [.int x1, .int x2, .int x3] μ (fun r μ' => r = some (.int (if (fX12_in x1 x2 x3) = 1 then 1 else 0 : Int32)) ∧ μ' = μ) :=
  (P0_X12_in hD x1 x2 x3 μ ).mono (fun r μ' q => ⟨q.1.trans (congrArg (fun z : Int32 => some (Value.int z)) (m2_b01 (v := (fX12_in x1 x2 x3)) (by unfold fX12_in; (repeat' split) <;> first | exact Or.inl rfl | exact Or.inr rfl))), q.2⟩)
theorem dX12_has_0 : decode cX12_has 0 = .ok (.iload_n 0, 1) := by decide +kernel
theorem dX12_has_1 : decode cX12_has 1 = .ok (.iload_n 1, 1) := by decide +kernel
theorem dX12_has_2 : decode cX12_has 2 = .ok (.ishr, 1) := by decide +kernel
theorem dX12_has_3 : decode cX12_has 3 = .ok (.iconst 1, 1) := by decide +kernel
theorem dX12_has_4 : decode cX12_has 4 = .ok (.iand, 1) := by decide +kernel
theorem dX12_has_5 : decode cX12_has 5 = .ok (.iconst 1, 1) := by decide +kernel
theorem dX12_has_6 : decode cX12_has 6 = .ok (.if_icmp .ne 7, 3) := by decide +kernel
theorem dX12_has_9 : decode cX12_has 9 = .ok (.iconst 1, 1) := by decide +kernel
theorem dX12_has_10 : decode cX12_has 10 = .ok (.goto 4, 3) := by decide +kernel
theorem dX12_has_13 : decode cX12_has 13 = .ok (.iconst 0, 1) := by decide +kernel
theorem dX12_has_14 : decode cX12_has 14 = .ok (.ireturn, 1) := by decide +kernel
set_option maxRecDepth 100000 in
set_option maxHeartbeats 4000000 in
theorem P0_X12_has {D : Nat} (hD : 0 ≤ D) (x1 : Int32) (x2 : Int32) (μ : m2M)  : m2_MT D yX12_has cX12_has 2 (some .boolean) [.int x1, .int x2] μ (fun r μ' => r = some (.int (if ((x1 >>> (x2 &&& 31)) &&& (1 : Int32)) = 1 then 1 else 0 : Int32)) ∧ μ' = μ) := by
  refine m2_MT.intro (ls := [.int x1, .int x2]) (by decide +kernel) rfl (Nat.le_of_ble_eq_true rfl) (fun κ h => ?_)
  have hB := h.b
  refine m2_iload_n hB dX12_has_0 rfl ?_
  refine m2_iload_n hB dX12_has_1 rfl ?_
  refine m2_ishr hB dX12_has_2 ?_
  refine m2_iconst hB dX12_has_3 (v := 1) (by decide) ?_
  refine m2_iand hB dX12_has_4 ?_
  refine m2_iconst hB dX12_has_5 (v := 1) (by decide) ?_
  refine m2_icmp_ne hB dX12_has_6 (tgt := 13) (by decide) (fun q1 : ¬ ((x1 >>> (x2 &&& 31)) &&& (1 : Int32)) = 1 => ?_) (fun q1 : ((x1 >>> (x2 &&& 31)) &&& (1 : Int32)) = 1 => ?_)
  · skip
    refine m2_iconst hB dX12_has_13 (v := 0) (by decide) ?_
    exact m2_zret h dX12_has_14 (Or.inl rfl) ⟨by rw [if_neg q1], rfl⟩
  · skip
    refine m2_iconst hB dX12_has_9 (v := 1) (by decide) ?_
    refine m2_goto hB dX12_has_10 (tgt := 14) (by decide) ?_
    exact m2_zret h dX12_has_14 (Or.inr rfl) ⟨by rw [if_pos q1], rfl⟩
def fX12_has (x1 : Int32) (x2 : Int32) : Int32 := (if ((x1 >>> (x2 &&& 31)) &&& (1 : Int32)) = 1 then 1 else 0 : Int32)
theorem P_X12_has {D : Nat} (hD : 0 ≤ D) (x1 : Int32) (x2 : Int32) (μ : m2M)  : m2_MT D yX12_has cX12_has 2 (some .boolean) [.int x1, .int x2] μ (fun r μ' => r = some (.int (if (fX12_has x1 x2) = 1 then 1 else 0 : Int32)) ∧ μ' = μ) :=
  (P0_X12_has hD x1 x2 μ ).mono (fun r μ' q => ⟨q.1.trans (congrArg (fun z : Int32 => some (Value.int z)) (m2_b01 (v := (fX12_has x1 x2)) (by unfold fX12_has; (repeat' split) <;> first | exact Or.inl rfl | exact Or.inr rfl))), q.2⟩)
theorem dX12_isRoom_0 : decode cX12_isRoom 0 = .ok (.iload_n 0, 1) := by decide +kernel
theorem dX12_isRoom_1 : decode cX12_isRoom 1 = .ok (.iconst 0, 1) := by decide +kernel
theorem dX12_isRoom_2 : decode cX12_isRoom 2 = .ok (.bipush 11, 2) := by decide +kernel
theorem dX12_isRoom_4 : decode cX12_isRoom 4 = .ok (.invokestatic 149, 3) := by decide +kernel
theorem dX12_isRoom_7 : decode cX12_isRoom 7 = .ok (.ireturn, 1) := by decide +kernel
set_option maxRecDepth 100000 in
set_option maxHeartbeats 4000000 in
theorem P0_X12_isRoom {D : Nat} (hD : 1 ≤ D) (x1 : Int32) (μ : m2M)  : m2_MT D yX12_isRoom cX12_isRoom 1 (some .boolean) [.int x1] μ (fun r μ' => r = some (.int (if (fX12_in x1 0 11) = 1 then 1 else 0 : Int32)) ∧ μ' = μ) := by
  obtain ⟨D, rfl⟩ : ∃ E, D = E + 1 := ⟨D - 1, by omega⟩
  refine m2_MT.intro (ls := [.int x1]) (by decide +kernel) rfl (Nat.le_of_ble_eq_true rfl) (fun κ h => ?_)
  have hB := h.b
  refine m2_iload_n hB dX12_isRoom_0 rfl ?_
  refine m2_iconst hB dX12_isRoom_1 (v := 0) (by decide) ?_
  refine m2_bipush hB dX12_isRoom_2 (v := 11) (by decide) ?_
  refine m2_invSz hB (as := [.int x1, .int 0, .int 11]) dX12_isRoom_4 ms_X12_149 rfl (Nat.le_of_ble_eq_true rfl) rfl (P_X12_in (by omega) (x1) (0) (11) _ ) (fun y1 μ2 hq3 => ?_)
  obtain ⟨⟨⟩, hq3⟩ := hq3
  subst μ2
  exact m2_zret h dX12_isRoom_7 (by (repeat' split) <;> first | exact Or.inl rfl | exact Or.inr rfl) ⟨rfl, rfl⟩
def fX12_isRoom (x1 : Int32) : Int32 := (if (fX12_in x1 0 11) = 1 then 1 else 0 : Int32)
theorem P_X12_isRoom {D : Nat} (hD : 1 ≤ D) (x1 : Int32) (μ : m2M)  : m2_MT D yX12_isRoom cX12_isRoom 1 (some .boolean) [.int x1] μ (fun r μ' => r = some (.int (if (fX12_isRoom x1) = 1 then 1 else 0 : Int32)) ∧ μ' = μ) :=
  (P0_X12_isRoom hD x1 μ ).mono (fun r μ' q => ⟨q.1.trans (congrArg (fun z : Int32 => some (Value.int z)) (m2_b01 (v := (fX12_isRoom x1)) (by unfold fX12_isRoom; (repeat' split) <;> first | exact Or.inl rfl | exact Or.inr rfl))), q.2⟩)
theorem dX12_isDoor_0 : decode cX12_isDoor 0 = .ok (.iload_n 1, 1) := by decide +kernel
theorem dX12_isDoor_1 : decode cX12_isDoor 1 = .ok (.iconst 0, 1) := by decide +kernel
theorem dX12_isDoor_2 : decode cX12_isDoor 2 = .ok (.aload_n 0, 1) := by decide +kernel
theorem dX12_isDoor_3 : decode cX12_isDoor 3 = .ok (.getfield 153, 3) := by decide +kernel
theorem dX12_isDoor_6 : decode cX12_isDoor 6 = .ok (.iconst 1, 1) := by decide +kernel
theorem dX12_isDoor_7 : decode cX12_isDoor 7 = .ok (.isub, 1) := by decide +kernel
theorem dX12_isDoor_8 : decode cX12_isDoor 8 = .ok (.invokestatic 149, 3) := by decide +kernel
theorem dX12_isDoor_11 : decode cX12_isDoor 11 = .ok (.ireturn, 1) := by decide +kernel
set_option maxRecDepth 100000 in
set_option maxHeartbeats 4000000 in
theorem P0_X12_isDoor {D : Nat} (hD : 1 ≤ D) (x1 : Int32) (μ : m2M)  : m2_MT D yX12_isDoor cX12_isDoor 2 (some .boolean) [.ref kM, .int x1] μ (fun r μ' => r = some (.int (if (fX12_in x1 0 ((μ.1 kM 0) - 1)) = 1 then 1 else 0 : Int32)) ∧ μ' = μ) := by
  obtain ⟨D, rfl⟩ : ∃ E, D = E + 1 := ⟨D - 1, by omega⟩
  refine m2_MT.intro (ls := [.ref kM, .int x1]) (by decide +kernel) rfl (Nat.le_of_ble_eq_true rfl) (fun κ h => ?_)
  have hB := h.b
  refine m2_iload_n hB dX12_isDoor_0 rfl ?_
  refine m2_iconst hB dX12_isDoor_1 (v := 0) (by decide) ?_
  refine m2_aload_n hB dX12_isDoor_2 rfl ?_
  refine m2_getI hB dX12_isDoor_3 fl_X12_153 sh_kM rfl ?_
  refine m2_iconst hB dX12_isDoor_6 (v := 1) (by decide) ?_
  refine m2_isub hB dX12_isDoor_7 ?_
  refine m2_invSz hB (as := [.int x1, .int 0, .int ((μ.1 kM 0) - 1)]) dX12_isDoor_8 ms_X12_149 rfl (Nat.le_of_ble_eq_true rfl) rfl (P_X12_in (by omega) (x1) (0) (((μ.1 kM 0) - 1)) _ ) (fun y1 μ2 hq3 => ?_)
  obtain ⟨⟨⟩, hq3⟩ := hq3
  subst μ2
  exact m2_zret h dX12_isDoor_11 (by (repeat' split) <;> first | exact Or.inl rfl | exact Or.inr rfl) ⟨rfl, rfl⟩
def fX12_isDoor (x1 : Int32) (μ : m2M) : Int32 := (if (fX12_in x1 0 ((μ.1 kM 0) - 1)) = 1 then 1 else 0 : Int32)
theorem P_X12_isDoor {D : Nat} (hD : 1 ≤ D) (x1 : Int32) (μ : m2M)  : m2_MT D yX12_isDoor cX12_isDoor 2 (some .boolean) [.ref kM, .int x1] μ (fun r μ' => r = some (.int (if (fX12_isDoor x1 μ) = 1 then 1 else 0 : Int32)) ∧ μ' = μ) :=
  (P0_X12_isDoor hD x1 μ ).mono (fun r μ' q => ⟨q.1.trans (congrArg (fun z : Int32 => some (Value.int z)) (m2_b01 (v := (fX12_isDoor x1 μ)) (by unfold fX12_isDoor; (repeat' split) <;> first | exact Or.inl rfl | exact Or.inr rfl))), q.2⟩)
theorem dX12_isOne_0 : decode cX12_isOne 0 = .ok (.iload_n 1, 1) := by decide +kernel
theorem dX12_isOne_1 : decode cX12_isOne 1 = .ok (.iconst 0, 1) := by decide +kernel
theorem dX12_isOne_2 : decode cX12_isOne 2 = .ok (.aload_n 0, 1) := by decide +kernel
theorem dX12_isOne_3 : decode cX12_isOne 3 = .ok (.getfield 156, 3) := by decide +kernel
theorem dX12_isOne_6 : decode cX12_isOne 6 = .ok (.iconst 1, 1) := by decide +kernel
theorem dX12_isOne_7 : decode cX12_isOne 7 = .ok (.isub, 1) := by decide +kernel
theorem dX12_isOne_8 : decode cX12_isOne 8 = .ok (.invokestatic 149, 3) := by decide +kernel
theorem dX12_isOne_11 : decode cX12_isOne 11 = .ok (.ireturn, 1) := by decide +kernel
set_option maxRecDepth 100000 in
set_option maxHeartbeats 4000000 in
theorem P0_X12_isOne {D : Nat} (hD : 1 ≤ D) (x1 : Int32) (μ : m2M)  : m2_MT D yX12_isOne cX12_isOne 2 (some .boolean) [.ref kM, .int x1] μ (fun r μ' => r = some (.int (if (fX12_in x1 0 ((μ.1 kM 7) - 1)) = 1 then 1 else 0 : Int32)) ∧ μ' = μ) := by
  obtain ⟨D, rfl⟩ : ∃ E, D = E + 1 := ⟨D - 1, by omega⟩
  refine m2_MT.intro (ls := [.ref kM, .int x1]) (by decide +kernel) rfl (Nat.le_of_ble_eq_true rfl) (fun κ h => ?_)
  have hB := h.b
  refine m2_iload_n hB dX12_isOne_0 rfl ?_
  refine m2_iconst hB dX12_isOne_1 (v := 0) (by decide) ?_
  refine m2_aload_n hB dX12_isOne_2 rfl ?_
  refine m2_getI hB dX12_isOne_3 fl_X12_156 sh_kM rfl ?_
  refine m2_iconst hB dX12_isOne_6 (v := 1) (by decide) ?_
  refine m2_isub hB dX12_isOne_7 ?_
  refine m2_invSz hB (as := [.int x1, .int 0, .int ((μ.1 kM 7) - 1)]) dX12_isOne_8 ms_X12_149 rfl (Nat.le_of_ble_eq_true rfl) rfl (P_X12_in (by omega) (x1) (0) (((μ.1 kM 7) - 1)) _ ) (fun y1 μ2 hq3 => ?_)
  obtain ⟨⟨⟩, hq3⟩ := hq3
  subst μ2
  exact m2_zret h dX12_isOne_11 (by (repeat' split) <;> first | exact Or.inl rfl | exact Or.inr rfl) ⟨rfl, rfl⟩
def fX12_isOne (x1 : Int32) (μ : m2M) : Int32 := (if (fX12_in x1 0 ((μ.1 kM 7) - 1)) = 1 then 1 else 0 : Int32)
theorem P_X12_isOne {D : Nat} (hD : 1 ≤ D) (x1 : Int32) (μ : m2M)  : m2_MT D yX12_isOne cX12_isOne 2 (some .boolean) [.ref kM, .int x1] μ (fun r μ' => r = some (.int (if (fX12_isOne x1 μ) = 1 then 1 else 0 : Int32)) ∧ μ' = μ) :=
  (P0_X12_isOne hD x1 μ ).mono (fun r μ' q => ⟨q.1.trans (congrArg (fun z : Int32 => some (Value.int z)) (m2_b01 (v := (fX12_isOne x1 μ)) (by unfold fX12_isOne; (repeat' split) <;> first | exact Or.inl rfl | exact Or.inr rfl))), q.2⟩)
theorem dX12_fine_0 : decode cX12_fine 0 = .ok (.aload_n 0, 1) := by decide +kernel
theorem dX12_fine_1 : decode cX12_fine 1 = .ok (.getfield 174, 3) := by decide +kernel
theorem dX12_fine_4 : decode cX12_fine 4 = .ok (.iconst (-1), 1) := by decide +kernel
theorem dX12_fine_5 : decode cX12_fine 5 = .ok (.if_icmp .ne 7, 3) := by decide +kernel
theorem dX12_fine_8 : decode cX12_fine 8 = .ok (.iconst 1, 1) := by decide +kernel
theorem dX12_fine_9 : decode cX12_fine 9 = .ok (.goto 4, 3) := by decide +kernel
theorem dX12_fine_12 : decode cX12_fine 12 = .ok (.iconst 0, 1) := by decide +kernel
theorem dX12_fine_13 : decode cX12_fine 13 = .ok (.ireturn, 1) := by decide +kernel
set_option maxRecDepth 100000 in
set_option maxHeartbeats 4000000 in
theorem P0_X12_fine {D : Nat} (hD : 0 ≤ D)  (μ : m2M)  : m2_MT D yX12_fine cX12_fine 1 (some .boolean) [.ref kM] μ (fun r μ' => r = some (.int (if (μ.1 kM 27) = (-1) then 1 else 0 : Int32)) ∧ μ' = μ) := by
  refine m2_MT.intro (ls := [.ref kM]) (by decide +kernel) rfl (Nat.le_of_ble_eq_true rfl) (fun κ h => ?_)
  have hB := h.b
  refine m2_aload_n hB dX12_fine_0 rfl ?_
  refine m2_getI hB dX12_fine_1 fl_X12_174 sh_kM rfl ?_
  refine m2_iconst hB dX12_fine_4 (v := (-1)) (by decide) ?_
  refine m2_icmp_ne hB dX12_fine_5 (tgt := 12) (by decide) (fun q1 : ¬ (μ.1 kM 27) = (-1) => ?_) (fun q1 : (μ.1 kM 27) = (-1) => ?_)
  · skip
    refine m2_iconst hB dX12_fine_12 (v := 0) (by decide) ?_
    exact m2_zret h dX12_fine_13 (Or.inl rfl) ⟨by rw [if_neg q1], rfl⟩
  · skip
    refine m2_iconst hB dX12_fine_8 (v := 1) (by decide) ?_
    refine m2_goto hB dX12_fine_9 (tgt := 13) (by decide) ?_
    exact m2_zret h dX12_fine_13 (Or.inr rfl) ⟨by rw [if_pos q1], rfl⟩
def fX12_fine  (μ : m2M) : Int32 := (if (μ.1 kM 27) = (-1) then 1 else 0 : Int32)
theorem P_X12_fine {D : Nat} (hD : 0 ≤ D)  (μ : m2M)  : m2_MT D yX12_fine cX12_fine 1 (some .boolean) [.ref kM] μ (fun r μ' => r = some (.int (if (fX12_fine μ) = 1 then 1 else 0 : Int32)) ∧ μ' = μ) :=
  (P0_X12_fine hD  μ ).mono (fun r μ' q => ⟨q.1.trans (congrArg (fun z : Int32 => some (Value.int z)) (m2_b01 (v := (fX12_fine μ)) (by unfold fX12_fine; (repeat' split) <;> first | exact Or.inl rfl | exact Or.inr rfl))), q.2⟩)
theorem dX12_nextOf_0 : decode cX12_nextOf 0 = .ok (.aload_n 0, 1) := by decide +kernel
theorem dX12_nextOf_1 : decode cX12_nextOf 1 = .ok (.getfield 41, 3) := by decide +kernel
theorem dX12_nextOf_4 : decode cX12_nextOf 4 = .ok (.iload_n 1, 1) := by decide +kernel
theorem dX12_nextOf_5 : decode cX12_nextOf 5 = .ok (.iaload, 1) := by decide +kernel
theorem dX12_nextOf_6 : decode cX12_nextOf 6 = .ok (.iconst (-1), 1) := by decide +kernel
theorem dX12_nextOf_7 : decode cX12_nextOf 7 = .ok (.if_icmp .eq 12, 3) := by decide +kernel
theorem dX12_nextOf_10 : decode cX12_nextOf 10 = .ok (.aload_n 0, 1) := by decide +kernel
theorem dX12_nextOf_11 : decode cX12_nextOf 11 = .ok (.getfield 50, 3) := by decide +kernel
theorem dX12_nextOf_14 : decode cX12_nextOf 14 = .ok (.iload_n 1, 1) := by decide +kernel
theorem dX12_nextOf_15 : decode cX12_nextOf 15 = .ok (.baload, 1) := by decide +kernel
theorem dX12_nextOf_16 : decode cX12_nextOf 16 = .ok (.ifCond .eq 7, 3) := by decide +kernel
theorem dX12_nextOf_19 : decode cX12_nextOf 19 = .ok (.iconst (-1), 1) := by decide +kernel
theorem dX12_nextOf_20 : decode cX12_nextOf 20 = .ok (.goto 27, 3) := by decide +kernel
theorem dX12_nextOf_23 : decode cX12_nextOf 23 = .ok (.aload_n 0, 1) := by decide +kernel
theorem dX12_nextOf_24 : decode cX12_nextOf 24 = .ok (.getfield 47, 3) := by decide +kernel
theorem dX12_nextOf_27 : decode cX12_nextOf 27 = .ok (.iload_n 1, 1) := by decide +kernel
theorem dX12_nextOf_28 : decode cX12_nextOf 28 = .ok (.baload, 1) := by decide +kernel
theorem dX12_nextOf_29 : decode cX12_nextOf 29 = .ok (.ifCond .eq 12, 3) := by decide +kernel
theorem dX12_nextOf_32 : decode cX12_nextOf 32 = .ok (.aload_n 0, 1) := by decide +kernel
theorem dX12_nextOf_33 : decode cX12_nextOf 33 = .ok (.getfield 32, 3) := by decide +kernel
theorem dX12_nextOf_36 : decode cX12_nextOf 36 = .ok (.iload_n 1, 1) := by decide +kernel
theorem dX12_nextOf_37 : decode cX12_nextOf 37 = .ok (.iaload, 1) := by decide +kernel
theorem dX12_nextOf_38 : decode cX12_nextOf 38 = .ok (.goto 9, 3) := by decide +kernel
theorem dX12_nextOf_41 : decode cX12_nextOf 41 = .ok (.aload_n 0, 1) := by decide +kernel
theorem dX12_nextOf_42 : decode cX12_nextOf 42 = .ok (.getfield 41, 3) := by decide +kernel
theorem dX12_nextOf_45 : decode cX12_nextOf 45 = .ok (.iload_n 1, 1) := by decide +kernel
theorem dX12_nextOf_46 : decode cX12_nextOf 46 = .ok (.iaload, 1) := by decide +kernel
theorem dX12_nextOf_47 : decode cX12_nextOf 47 = .ok (.ireturn, 1) := by decide +kernel
set_option maxRecDepth 100000 in
set_option maxHeartbeats 4000000 in
theorem P0_X12_nextOf {D : Nat} (hD : 0 ≤ D) (x1 : Int32) (μ : m2M) (s0 : vp_in x1 8) : m2_MT D yX12_nextOf cX12_nextOf 2 (some .int) [.ref kM, .int x1] μ (fun r μ' => r = some (.int (if (μ.1 kM_errand (x1).toNatClampNeg) = (-1) then (-1) else (if (μ.1 kM_isDone (x1).toNatClampNeg) = 0 then (if (μ.1 kM_wasThere (x1).toNatClampNeg) = 0 then (μ.1 kM_errand (x1).toNatClampNeg) else (μ.1 kM_home (x1).toNatClampNeg) : Int32) else (-1) : Int32) : Int32)) ∧ μ' = μ) := by
  refine m2_MT.intro (ls := [.ref kM, .int x1]) (by decide +kernel) rfl (Nat.le_of_ble_eq_true rfl) (fun κ h => ?_)
  have hB := h.b
  refine m2_aload_n hB dX12_nextOf_0 rfl ?_
  refine m2_getR hB dX12_nextOf_1 fl_X12_41 sh_kM (c1 := kM_errand) rfl ?_
  refine m2_iload_n hB dX12_nextOf_4 rfl ?_
  have hi1 := s0
  refine m2_iald hB dX12_nextOf_5 sh_kM_errand hi1 ?_
  refine m2_iconst hB dX12_nextOf_6 (v := (-1)) (by decide) ?_
  refine m2_icmp_eq hB dX12_nextOf_7 (tgt := 19) (by decide) (fun q2 : (μ.1 kM_errand (x1).toNatClampNeg) = (-1) => ?_) (fun q2 : ¬ (μ.1 kM_errand (x1).toNatClampNeg) = (-1) => ?_)
  · skip
    refine m2_iconst hB dX12_nextOf_19 (v := (-1)) (by decide) ?_
    refine m2_goto hB dX12_nextOf_20 (tgt := 47) (by decide) ?_
    exact m2_iret h dX12_nextOf_47 ⟨by rw [if_pos q2], rfl⟩
  · skip
    refine m2_aload_n hB dX12_nextOf_10 rfl ?_
    refine m2_getR hB dX12_nextOf_11 fl_X12_50 sh_kM (c1 := kM_isDone) rfl ?_
    refine m2_iload_n hB dX12_nextOf_14 rfl ?_
    have hi3 := hi1
    refine m2_zald hB dX12_nextOf_15 sh_kM_isDone hi3 ?_
    refine m2_if_eq hB dX12_nextOf_16 (tgt := 23) (by decide) (fun q4 : (μ.1 kM_isDone (x1).toNatClampNeg) = 0 => ?_) (fun q4 : ¬ (μ.1 kM_isDone (x1).toNatClampNeg) = 0 => ?_)
    · skip
      refine m2_aload_n hB dX12_nextOf_23 rfl ?_
      refine m2_getR hB dX12_nextOf_24 fl_X12_47 sh_kM (c1 := kM_wasThere) rfl ?_
      refine m2_iload_n hB dX12_nextOf_27 rfl ?_
      have hi5 := hi1
      refine m2_zald hB dX12_nextOf_28 sh_kM_wasThere hi5 ?_
      refine m2_if_eq hB dX12_nextOf_29 (tgt := 41) (by decide) (fun q6 : (μ.1 kM_wasThere (x1).toNatClampNeg) = 0 => ?_) (fun q6 : ¬ (μ.1 kM_wasThere (x1).toNatClampNeg) = 0 => ?_)
      · skip
        refine m2_aload_n hB dX12_nextOf_41 rfl ?_
        refine m2_getR hB dX12_nextOf_42 fl_X12_41 sh_kM (c1 := kM_errand) rfl ?_
        refine m2_iload_n hB dX12_nextOf_45 rfl ?_
        have hi7 := hi1
        refine m2_iald hB dX12_nextOf_46 sh_kM_errand hi7 ?_
        exact m2_iret h dX12_nextOf_47 ⟨by rw [if_neg q2, if_pos q4, if_pos q6], rfl⟩
      · skip
        refine m2_aload_n hB dX12_nextOf_32 rfl ?_
        refine m2_getR hB dX12_nextOf_33 fl_X12_32 sh_kM (c1 := kM_home) rfl ?_
        refine m2_iload_n hB dX12_nextOf_36 rfl ?_
        have hi8 := hi1
        refine m2_iald hB dX12_nextOf_37 sh_kM_home hi8 ?_
        refine m2_goto hB dX12_nextOf_38 (tgt := 47) (by decide) ?_
        exact m2_iret h dX12_nextOf_47 ⟨by rw [if_neg q2, if_pos q4, if_neg q6], rfl⟩
    · skip
      refine m2_iconst hB dX12_nextOf_19 (v := (-1)) (by decide) ?_
      refine m2_goto hB dX12_nextOf_20 (tgt := 47) (by decide) ?_
      exact m2_iret h dX12_nextOf_47 ⟨by rw [if_neg q2, if_neg q4], rfl⟩
def fX12_nextOf (x1 : Int32) (μ : m2M) : Int32 := (if (μ.1 kM_errand (x1).toNatClampNeg) = (-1) then (-1) else (if (μ.1 kM_isDone (x1).toNatClampNeg) = 0 then (if (μ.1 kM_wasThere (x1).toNatClampNeg) = 0 then (μ.1 kM_errand (x1).toNatClampNeg) else (μ.1 kM_home (x1).toNatClampNeg) : Int32) else (-1) : Int32) : Int32)
theorem P_X12_nextOf {D : Nat} (hD : 0 ≤ D) (x1 : Int32) (μ : m2M) (s0 : vp_in x1 8) : m2_MT D yX12_nextOf cX12_nextOf 2 (some .int) [.ref kM, .int x1] μ (fun r μ' => r = some (.int (fX12_nextOf x1 μ)) ∧ μ' = μ) :=
  P0_X12_nextOf hD x1 μ s0
theorem dX12_beyond_0 : decode cX12_beyond 0 = .ok (.aload_n 0, 1) := by decide +kernel
theorem dX12_beyond_1 : decode cX12_beyond 1 = .ok (.getfield 9, 3) := by decide +kernel
theorem dX12_beyond_4 : decode cX12_beyond 4 = .ok (.iload_n 1, 1) := by decide +kernel
theorem dX12_beyond_5 : decode cX12_beyond 5 = .ok (.iaload, 1) := by decide +kernel
theorem dX12_beyond_6 : decode cX12_beyond 6 = .ok (.iload_n 2, 1) := by decide +kernel
theorem dX12_beyond_7 : decode cX12_beyond 7 = .ok (.if_icmp .ne 12, 3) := by decide +kernel
theorem dX12_beyond_10 : decode cX12_beyond 10 = .ok (.aload_n 0, 1) := by decide +kernel
theorem dX12_beyond_11 : decode cX12_beyond 11 = .ok (.getfield 13, 3) := by decide +kernel
theorem dX12_beyond_14 : decode cX12_beyond 14 = .ok (.iload_n 1, 1) := by decide +kernel
theorem dX12_beyond_15 : decode cX12_beyond 15 = .ok (.iaload, 1) := by decide +kernel
theorem dX12_beyond_16 : decode cX12_beyond 16 = .ok (.goto 32, 3) := by decide +kernel
theorem dX12_beyond_19 : decode cX12_beyond 19 = .ok (.aload_n 0, 1) := by decide +kernel
theorem dX12_beyond_20 : decode cX12_beyond 20 = .ok (.getfield 13, 3) := by decide +kernel
theorem dX12_beyond_23 : decode cX12_beyond 23 = .ok (.iload_n 1, 1) := by decide +kernel
theorem dX12_beyond_24 : decode cX12_beyond 24 = .ok (.iaload, 1) := by decide +kernel
theorem dX12_beyond_25 : decode cX12_beyond 25 = .ok (.iload_n 2, 1) := by decide +kernel
theorem dX12_beyond_26 : decode cX12_beyond 26 = .ok (.if_icmp .ne 21, 3) := by decide +kernel
theorem dX12_beyond_29 : decode cX12_beyond 29 = .ok (.aload_n 0, 1) := by decide +kernel
theorem dX12_beyond_30 : decode cX12_beyond 30 = .ok (.getfield 16, 3) := by decide +kernel
theorem dX12_beyond_33 : decode cX12_beyond 33 = .ok (.iload_n 1, 1) := by decide +kernel
theorem dX12_beyond_34 : decode cX12_beyond 34 = .ok (.baload, 1) := by decide +kernel
theorem dX12_beyond_35 : decode cX12_beyond 35 = .ok (.ifCond .ne 12, 3) := by decide +kernel
theorem dX12_beyond_38 : decode cX12_beyond 38 = .ok (.aload_n 0, 1) := by decide +kernel
theorem dX12_beyond_39 : decode cX12_beyond 39 = .ok (.getfield 9, 3) := by decide +kernel
theorem dX12_beyond_42 : decode cX12_beyond 42 = .ok (.iload_n 1, 1) := by decide +kernel
theorem dX12_beyond_43 : decode cX12_beyond 43 = .ok (.iaload, 1) := by decide +kernel
theorem dX12_beyond_44 : decode cX12_beyond 44 = .ok (.goto 4, 3) := by decide +kernel
theorem dX12_beyond_47 : decode cX12_beyond 47 = .ok (.iconst (-1), 1) := by decide +kernel
theorem dX12_beyond_48 : decode cX12_beyond 48 = .ok (.ireturn, 1) := by decide +kernel
set_option maxRecDepth 100000 in
set_option maxHeartbeats 4000000 in
theorem P0_X12_beyond {D : Nat} (hD : 0 ≤ D) (x1 : Int32) (x2 : Int32) (μ : m2M) (s0 : vp_in x1 20) : m2_MT D yX12_beyond cX12_beyond 3 (some .int) [.ref kM, .int x1, .int x2] μ (fun r μ' => r = some (.int (if (μ.1 kM_doorA (x1).toNatClampNeg) = x2 then (μ.1 kM_doorB (x1).toNatClampNeg) else (if (μ.1 kM_doorB (x1).toNatClampNeg) = x2 then (if (μ.1 kM_isOneWay (x1).toNatClampNeg) = 0 then (μ.1 kM_doorA (x1).toNatClampNeg) else (-1) : Int32) else (-1) : Int32) : Int32)) ∧ μ' = μ) := by
  refine m2_MT.intro (ls := [.ref kM, .int x1, .int x2]) (by decide +kernel) rfl (Nat.le_of_ble_eq_true rfl) (fun κ h => ?_)
  have hB := h.b
  refine m2_aload_n hB dX12_beyond_0 rfl ?_
  refine m2_getR hB dX12_beyond_1 fl_X12_9 sh_kM (c1 := kM_doorA) rfl ?_
  refine m2_iload_n hB dX12_beyond_4 rfl ?_
  have hi1 := s0
  refine m2_iald hB dX12_beyond_5 sh_kM_doorA hi1 ?_
  refine m2_iload_n hB dX12_beyond_6 rfl ?_
  refine m2_icmp_ne hB dX12_beyond_7 (tgt := 19) (by decide) (fun q2 : ¬ (μ.1 kM_doorA (x1).toNatClampNeg) = x2 => ?_) (fun q2 : (μ.1 kM_doorA (x1).toNatClampNeg) = x2 => ?_)
  · skip
    refine m2_aload_n hB dX12_beyond_19 rfl ?_
    refine m2_getR hB dX12_beyond_20 fl_X12_13 sh_kM (c1 := kM_doorB) rfl ?_
    refine m2_iload_n hB dX12_beyond_23 rfl ?_
    have hi3 := hi1
    refine m2_iald hB dX12_beyond_24 sh_kM_doorB hi3 ?_
    refine m2_iload_n hB dX12_beyond_25 rfl ?_
    refine m2_icmp_ne hB dX12_beyond_26 (tgt := 47) (by decide) (fun q4 : ¬ (μ.1 kM_doorB (x1).toNatClampNeg) = x2 => ?_) (fun q4 : (μ.1 kM_doorB (x1).toNatClampNeg) = x2 => ?_)
    · skip
      refine m2_iconst hB dX12_beyond_47 (v := (-1)) (by decide) ?_
      exact m2_iret h dX12_beyond_48 ⟨by rw [if_neg q2, if_neg q4], rfl⟩
    · skip
      refine m2_aload_n hB dX12_beyond_29 rfl ?_
      refine m2_getR hB dX12_beyond_30 fl_X12_16 sh_kM (c1 := kM_isOneWay) rfl ?_
      refine m2_iload_n hB dX12_beyond_33 rfl ?_
      have hi5 := hi1
      refine m2_zald hB dX12_beyond_34 sh_kM_isOneWay hi5 ?_
      refine m2_if_ne hB dX12_beyond_35 (tgt := 47) (by decide) (fun q6 : ¬ (μ.1 kM_isOneWay (x1).toNatClampNeg) = 0 => ?_) (fun q6 : (μ.1 kM_isOneWay (x1).toNatClampNeg) = 0 => ?_)
      · skip
        refine m2_iconst hB dX12_beyond_47 (v := (-1)) (by decide) ?_
        exact m2_iret h dX12_beyond_48 ⟨by rw [if_neg q2, if_pos q4, if_neg q6], rfl⟩
      · skip
        refine m2_aload_n hB dX12_beyond_38 rfl ?_
        refine m2_getR hB dX12_beyond_39 fl_X12_9 sh_kM (c1 := kM_doorA) rfl ?_
        refine m2_iload_n hB dX12_beyond_42 rfl ?_
        have hi7 := hi1
        refine m2_iald hB dX12_beyond_43 sh_kM_doorA hi7 ?_
        refine m2_goto hB dX12_beyond_44 (tgt := 48) (by decide) ?_
        exact m2_iret h dX12_beyond_48 ⟨by rw [if_neg q2, if_pos q4, if_pos q6], rfl⟩
  · skip
    refine m2_aload_n hB dX12_beyond_10 rfl ?_
    refine m2_getR hB dX12_beyond_11 fl_X12_13 sh_kM (c1 := kM_doorB) rfl ?_
    refine m2_iload_n hB dX12_beyond_14 rfl ?_
    have hi8 := hi1
    refine m2_iald hB dX12_beyond_15 sh_kM_doorB hi8 ?_
    refine m2_goto hB dX12_beyond_16 (tgt := 48) (by decide) ?_
    exact m2_iret h dX12_beyond_48 ⟨by rw [if_pos q2], rfl⟩
def fX12_beyond (x1 : Int32) (x2 : Int32) (μ : m2M) : Int32 := (if (μ.1 kM_doorA (x1).toNatClampNeg) = x2 then (μ.1 kM_doorB (x1).toNatClampNeg) else (if (μ.1 kM_doorB (x1).toNatClampNeg) = x2 then (if (μ.1 kM_isOneWay (x1).toNatClampNeg) = 0 then (μ.1 kM_doorA (x1).toNatClampNeg) else (-1) : Int32) else (-1) : Int32) : Int32)
theorem P_X12_beyond {D : Nat} (hD : 0 ≤ D) (x1 : Int32) (x2 : Int32) (μ : m2M) (s0 : vp_in x1 20) : m2_MT D yX12_beyond cX12_beyond 3 (some .int) [.ref kM, .int x1, .int x2] μ (fun r μ' => r = some (.int (fX12_beyond x1 x2 μ)) ∧ μ' = μ) :=
  P0_X12_beyond hD x1 x2 μ s0
theorem dX12_step_0 : decode cX12_step 0 = .ok (.iload_n 0, 1) := by decide +kernel
theorem dX12_step_1 : decode cX12_step 1 = .ok (.i2l, 1) := by decide +kernel
theorem dX12_step_2 : decode cX12_step 2 = .ok (.ldc2_w 264, 3) := by decide +kernel
theorem dX12_step_5 : decode cX12_step 5 = .ok (.lmul, 1) := by decide +kernel
theorem dX12_step_6 : decode cX12_step 6 = .ok (.lconst 1, 1) := by decide +kernel
theorem dX12_step_7 : decode cX12_step 7 = .ok (.ladd, 1) := by decide +kernel
theorem dX12_step_8 : decode cX12_step 8 = .ok (.lreturn, 1) := by decide +kernel
set_option maxRecDepth 100000 in
set_option maxHeartbeats 4000000 in
theorem P0_X12_step {D : Nat} (hD : 0 ≤ D) (x1 : Int32) (μ : m2M)  : m2_MT D yX12_step cX12_step 1 (some .long) [.int x1] μ (fun r μ' => r = some (.long (((x1).toInt64 * 1000) + 1)) ∧ μ' = μ) := by
  refine m2_MT.intro (ls := [.int x1]) (by decide +kernel) rfl (Nat.le_of_ble_eq_true rfl) (fun κ h => ?_)
  have hB := h.b
  refine m2_iload_n hB dX12_step_0 rfl ?_
  refine m2_i2l hB dX12_step_1 ?_
  refine m2_ldc2 hB kl_X12_264 dX12_step_2 ?_
  refine m2_lmul hB dX12_step_5 ?_
  refine m2_lconst hB dX12_step_6 (v := 1) (by decide) ?_
  refine m2_ladd hB dX12_step_7 ?_
  exact m2_lret h dX12_step_8 ⟨rfl, rfl⟩
def fX12_step (x1 : Int32) : Int64 := (((x1).toInt64 * 1000) + 1)
theorem P_X12_step {D : Nat} (hD : 0 ≤ D) (x1 : Int32) (μ : m2M)  : m2_MT D yX12_step cX12_step 1 (some .long) [.int x1] μ (fun r μ' => r = some (.long (fX12_step x1)) ∧ μ' = μ) :=
  P0_X12_step hD x1 μ 
theorem dX12_areEnds_0 : decode cX12_areEnds 0 = .ok (.iload_n 0, 1) := by decide +kernel
theorem dX12_areEnds_1 : decode cX12_areEnds 1 = .ok (.invokestatic 302, 3) := by decide +kernel
theorem dX12_areEnds_4 : decode cX12_areEnds 4 = .ok (.ifCond .eq 19, 3) := by decide +kernel
theorem dX12_areEnds_7 : decode cX12_areEnds 7 = .ok (.iload_n 1, 1) := by decide +kernel
theorem dX12_areEnds_8 : decode cX12_areEnds 8 = .ok (.invokestatic 302, 3) := by decide +kernel
theorem dX12_areEnds_11 : decode cX12_areEnds 11 = .ok (.ifCond .eq 12, 3) := by decide +kernel
theorem dX12_areEnds_14 : decode cX12_areEnds 14 = .ok (.iload_n 0, 1) := by decide +kernel
theorem dX12_areEnds_15 : decode cX12_areEnds 15 = .ok (.iload_n 1, 1) := by decide +kernel
theorem dX12_areEnds_16 : decode cX12_areEnds 16 = .ok (.if_icmp .eq 7, 3) := by decide +kernel
theorem dX12_areEnds_19 : decode cX12_areEnds 19 = .ok (.iconst 1, 1) := by decide +kernel
theorem dX12_areEnds_20 : decode cX12_areEnds 20 = .ok (.goto 4, 3) := by decide +kernel
theorem dX12_areEnds_23 : decode cX12_areEnds 23 = .ok (.iconst 0, 1) := by decide +kernel
theorem dX12_areEnds_24 : decode cX12_areEnds 24 = .ok (.ireturn, 1) := by decide +kernel
set_option maxRecDepth 100000 in
set_option maxHeartbeats 4000000 in
theorem P0_X12_areEnds {D : Nat} (hD : 2 ≤ D) (x1 : Int32) (x2 : Int32) (μ : m2M)  : m2_MT D yX12_areEnds cX12_areEnds 2 (some .boolean) [.int x1, .int x2] μ (fun r μ' => r = some (.int (if (fX12_isRoom x1) = 1 then (if (fX12_isRoom x2) = 1 then (if x1 = x2 then 0 else 1 : Int32) else 0 : Int32) else 0 : Int32)) ∧ μ' = μ) := by
  obtain ⟨D, rfl⟩ : ∃ E, D = E + 1 := ⟨D - 1, by omega⟩
  refine m2_MT.intro (ls := [.int x1, .int x2]) (by decide +kernel) rfl (Nat.le_of_ble_eq_true rfl) (fun κ h => ?_)
  have hB := h.b
  refine m2_iload_n hB dX12_areEnds_0 rfl ?_
  refine m2_invSz hB (as := [.int x1]) dX12_areEnds_1 ms_X12_302 rfl (Nat.le_of_ble_eq_true rfl) rfl (P_X12_isRoom (by omega) (x1) _ ) (fun y1 μ2 hq3 => ?_)
  obtain ⟨⟨⟩, hq3⟩ := hq3
  subst μ2
  show κ 4 [.int x1, .int x2] [.int (if (fX12_isRoom x1) = 1 then 1 else 0 : Int32)] μ
  by_cases q4 : (fX12_isRoom x1) = 1
  · rw [if_pos q4]
    refine m2_if_eq hB dX12_areEnds_4 (tgt := 23) (by decide) (fun q => absurd q (by decide)) (fun _ => ?_)
    refine m2_iload_n hB dX12_areEnds_7 rfl ?_
    refine m2_invSz hB (as := [.int x2]) dX12_areEnds_8 ms_X12_302 rfl (Nat.le_of_ble_eq_true rfl) rfl (P_X12_isRoom (by omega) (x2) _ ) (fun y5 μ6 hq7 => ?_)
    obtain ⟨⟨⟩, hq7⟩ := hq7
    subst μ6
    show κ 11 [.int x1, .int x2] [.int (if (fX12_isRoom x2) = 1 then 1 else 0 : Int32)] μ
    by_cases q8 : (fX12_isRoom x2) = 1
    · rw [if_pos q8]
      refine m2_if_eq hB dX12_areEnds_11 (tgt := 23) (by decide) (fun q => absurd q (by decide)) (fun _ => ?_)
      refine m2_iload_n hB dX12_areEnds_14 rfl ?_
      refine m2_iload_n hB dX12_areEnds_15 rfl ?_
      refine m2_icmp_eq hB dX12_areEnds_16 (tgt := 23) (by decide) (fun q9 : x1 = x2 => ?_) (fun q9 : ¬ x1 = x2 => ?_)
      · skip
        refine m2_iconst hB dX12_areEnds_23 (v := 0) (by decide) ?_
        exact m2_zret h dX12_areEnds_24 (Or.inl rfl) ⟨by rw [if_pos q4, if_pos q8, if_pos q9], rfl⟩
      · skip
        refine m2_iconst hB dX12_areEnds_19 (v := 1) (by decide) ?_
        refine m2_goto hB dX12_areEnds_20 (tgt := 24) (by decide) ?_
        exact m2_zret h dX12_areEnds_24 (Or.inr rfl) ⟨by rw [if_pos q4, if_pos q8, if_neg q9], rfl⟩
    · rw [if_neg q8]
      refine m2_if_eq hB dX12_areEnds_11 (tgt := 23) (by decide) (fun _ => ?_) (fun q => absurd q (by decide))
      refine m2_iconst hB dX12_areEnds_23 (v := 0) (by decide) ?_
      exact m2_zret h dX12_areEnds_24 (Or.inl rfl) ⟨by rw [if_pos q4, if_neg q8], rfl⟩
  · rw [if_neg q4]
    refine m2_if_eq hB dX12_areEnds_4 (tgt := 23) (by decide) (fun _ => ?_) (fun q => absurd q (by decide))
    refine m2_iconst hB dX12_areEnds_23 (v := 0) (by decide) ?_
    exact m2_zret h dX12_areEnds_24 (Or.inl rfl) ⟨by rw [if_neg q4], rfl⟩
def fX12_areEnds (x1 : Int32) (x2 : Int32) : Int32 := (if (fX12_isRoom x1) = 1 then (if (fX12_isRoom x2) = 1 then (if x1 = x2 then 0 else 1 : Int32) else 0 : Int32) else 0 : Int32)
theorem P_X12_areEnds {D : Nat} (hD : 2 ≤ D) (x1 : Int32) (x2 : Int32) (μ : m2M)  : m2_MT D yX12_areEnds cX12_areEnds 2 (some .boolean) [.int x1, .int x2] μ (fun r μ' => r = some (.int (if (fX12_areEnds x1 x2) = 1 then 1 else 0 : Int32)) ∧ μ' = μ) :=
  (P0_X12_areEnds hD x1 x2 μ ).mono (fun r μ' q => ⟨q.1.trans (congrArg (fun z : Int32 => some (Value.int z)) (m2_b01 (v := (fX12_areEnds x1 x2)) (by unfold fX12_areEnds; (repeat' split) <;> first | exact Or.inl rfl | exact Or.inr rfl))), q.2⟩)
theorem dJ6_bitCount_0f7a4_0 : decode cJ6_bitCount_0f7a4 0 = .ok (.iload_n 0, 1) := by decide +kernel
theorem dJ6_bitCount_0f7a4_1 : decode cJ6_bitCount_0f7a4 1 = .ok (.iload_n 0, 1) := by decide +kernel
theorem dJ6_bitCount_0f7a4_2 : decode cJ6_bitCount_0f7a4 2 = .ok (.iconst 1, 1) := by decide +kernel
theorem dJ6_bitCount_0f7a4_3 : decode cJ6_bitCount_0f7a4 3 = .ok (.iushr, 1) := by decide +kernel
theorem dJ6_bitCount_0f7a4_4 : decode cJ6_bitCount_0f7a4 4 = .ok (.ldc_w 265, 3) := by decide +kernel
theorem dJ6_bitCount_0f7a4_7 : decode cJ6_bitCount_0f7a4 7 = .ok (.iand, 1) := by decide +kernel
theorem dJ6_bitCount_0f7a4_8 : decode cJ6_bitCount_0f7a4 8 = .ok (.isub, 1) := by decide +kernel
theorem dJ6_bitCount_0f7a4_9 : decode cJ6_bitCount_0f7a4 9 = .ok (.istore_n 0, 1) := by decide +kernel
theorem dJ6_bitCount_0f7a4_10 : decode cJ6_bitCount_0f7a4 10 = .ok (.iload_n 0, 1) := by decide +kernel
theorem dJ6_bitCount_0f7a4_11 : decode cJ6_bitCount_0f7a4 11 = .ok (.ldc_w 266, 3) := by decide +kernel
theorem dJ6_bitCount_0f7a4_14 : decode cJ6_bitCount_0f7a4 14 = .ok (.iand, 1) := by decide +kernel
theorem dJ6_bitCount_0f7a4_15 : decode cJ6_bitCount_0f7a4 15 = .ok (.iload_n 0, 1) := by decide +kernel
theorem dJ6_bitCount_0f7a4_16 : decode cJ6_bitCount_0f7a4 16 = .ok (.iconst 2, 1) := by decide +kernel
theorem dJ6_bitCount_0f7a4_17 : decode cJ6_bitCount_0f7a4 17 = .ok (.iushr, 1) := by decide +kernel
theorem dJ6_bitCount_0f7a4_18 : decode cJ6_bitCount_0f7a4 18 = .ok (.ldc_w 266, 3) := by decide +kernel
theorem dJ6_bitCount_0f7a4_21 : decode cJ6_bitCount_0f7a4 21 = .ok (.iand, 1) := by decide +kernel
theorem dJ6_bitCount_0f7a4_22 : decode cJ6_bitCount_0f7a4 22 = .ok (.iadd, 1) := by decide +kernel
theorem dJ6_bitCount_0f7a4_23 : decode cJ6_bitCount_0f7a4 23 = .ok (.istore_n 0, 1) := by decide +kernel
theorem dJ6_bitCount_0f7a4_24 : decode cJ6_bitCount_0f7a4 24 = .ok (.iload_n 0, 1) := by decide +kernel
theorem dJ6_bitCount_0f7a4_25 : decode cJ6_bitCount_0f7a4 25 = .ok (.iload_n 0, 1) := by decide +kernel
theorem dJ6_bitCount_0f7a4_26 : decode cJ6_bitCount_0f7a4 26 = .ok (.iconst 4, 1) := by decide +kernel
theorem dJ6_bitCount_0f7a4_27 : decode cJ6_bitCount_0f7a4 27 = .ok (.iushr, 1) := by decide +kernel
theorem dJ6_bitCount_0f7a4_28 : decode cJ6_bitCount_0f7a4 28 = .ok (.iadd, 1) := by decide +kernel
theorem dJ6_bitCount_0f7a4_29 : decode cJ6_bitCount_0f7a4 29 = .ok (.ldc_w 267, 3) := by decide +kernel
theorem dJ6_bitCount_0f7a4_32 : decode cJ6_bitCount_0f7a4 32 = .ok (.iand, 1) := by decide +kernel
theorem dJ6_bitCount_0f7a4_33 : decode cJ6_bitCount_0f7a4 33 = .ok (.istore_n 0, 1) := by decide +kernel
theorem dJ6_bitCount_0f7a4_34 : decode cJ6_bitCount_0f7a4 34 = .ok (.iload_n 0, 1) := by decide +kernel
theorem dJ6_bitCount_0f7a4_35 : decode cJ6_bitCount_0f7a4 35 = .ok (.iload_n 0, 1) := by decide +kernel
theorem dJ6_bitCount_0f7a4_36 : decode cJ6_bitCount_0f7a4 36 = .ok (.bipush 8, 2) := by decide +kernel
theorem dJ6_bitCount_0f7a4_38 : decode cJ6_bitCount_0f7a4 38 = .ok (.iushr, 1) := by decide +kernel
theorem dJ6_bitCount_0f7a4_39 : decode cJ6_bitCount_0f7a4 39 = .ok (.iadd, 1) := by decide +kernel
theorem dJ6_bitCount_0f7a4_40 : decode cJ6_bitCount_0f7a4 40 = .ok (.istore_n 0, 1) := by decide +kernel
theorem dJ6_bitCount_0f7a4_41 : decode cJ6_bitCount_0f7a4 41 = .ok (.iload_n 0, 1) := by decide +kernel
theorem dJ6_bitCount_0f7a4_42 : decode cJ6_bitCount_0f7a4 42 = .ok (.iload_n 0, 1) := by decide +kernel
theorem dJ6_bitCount_0f7a4_43 : decode cJ6_bitCount_0f7a4 43 = .ok (.bipush 16, 2) := by decide +kernel
theorem dJ6_bitCount_0f7a4_45 : decode cJ6_bitCount_0f7a4 45 = .ok (.iushr, 1) := by decide +kernel
theorem dJ6_bitCount_0f7a4_46 : decode cJ6_bitCount_0f7a4 46 = .ok (.iadd, 1) := by decide +kernel
theorem dJ6_bitCount_0f7a4_47 : decode cJ6_bitCount_0f7a4 47 = .ok (.istore_n 0, 1) := by decide +kernel
theorem dJ6_bitCount_0f7a4_48 : decode cJ6_bitCount_0f7a4 48 = .ok (.iload_n 0, 1) := by decide +kernel
theorem dJ6_bitCount_0f7a4_49 : decode cJ6_bitCount_0f7a4 49 = .ok (.bipush 63, 2) := by decide +kernel
theorem dJ6_bitCount_0f7a4_51 : decode cJ6_bitCount_0f7a4 51 = .ok (.iand, 1) := by decide +kernel
theorem dJ6_bitCount_0f7a4_52 : decode cJ6_bitCount_0f7a4 52 = .ok (.ireturn, 1) := by decide +kernel
set_option maxRecDepth 100000 in
set_option maxHeartbeats 4000000 in
theorem P0_J6_bitCount_0f7a4 {D : Nat} (hD : 0 ≤ D) (x1 : Int32) (μ : m2M)  : m2_MT D yJ6_bitCount_0f7a4 cJ6_bitCount_0f7a4 1 (some .int) [.int x1] μ (fun r μ' => r = some (.int ((((((((x1 - ((x1.toUInt32 >>> (Int32.toUInt32 1 &&& Int32.toUInt32 31)).toInt32 &&& (1431655765 : Int32))) &&& (858993459 : Int32)) + (((x1 - ((x1.toUInt32 >>> (Int32.toUInt32 1 &&& Int32.toUInt32 31)).toInt32 &&& (1431655765 : Int32))).toUInt32 >>> (Int32.toUInt32 2 &&& Int32.toUInt32 31)).toInt32 &&& (858993459 : Int32))) + ((((x1 - ((x1.toUInt32 >>> (Int32.toUInt32 1 &&& Int32.toUInt32 31)).toInt32 &&& (1431655765 : Int32))) &&& (858993459 : Int32)) + (((x1 - ((x1.toUInt32 >>> (Int32.toUInt32 1 &&& Int32.toUInt32 31)).toInt32 &&& (1431655765 : Int32))).toUInt32 >>> (Int32.toUInt32 2 &&& Int32.toUInt32 31)).toInt32 &&& (858993459 : Int32))).toUInt32 >>> (Int32.toUInt32 4 &&& Int32.toUInt32 31)).toInt32) &&& (252645135 : Int32)) + ((((((x1 - ((x1.toUInt32 >>> (Int32.toUInt32 1 &&& Int32.toUInt32 31)).toInt32 &&& (1431655765 : Int32))) &&& (858993459 : Int32)) + (((x1 - ((x1.toUInt32 >>> (Int32.toUInt32 1 &&& Int32.toUInt32 31)).toInt32 &&& (1431655765 : Int32))).toUInt32 >>> (Int32.toUInt32 2 &&& Int32.toUInt32 31)).toInt32 &&& (858993459 : Int32))) + ((((x1 - ((x1.toUInt32 >>> (Int32.toUInt32 1 &&& Int32.toUInt32 31)).toInt32 &&& (1431655765 : Int32))) &&& (858993459 : Int32)) + (((x1 - ((x1.toUInt32 >>> (Int32.toUInt32 1 &&& Int32.toUInt32 31)).toInt32 &&& (1431655765 : Int32))).toUInt32 >>> (Int32.toUInt32 2 &&& Int32.toUInt32 31)).toInt32 &&& (858993459 : Int32))).toUInt32 >>> (Int32.toUInt32 4 &&& Int32.toUInt32 31)).toInt32) &&& (252645135 : Int32)).toUInt32 >>> (Int32.toUInt32 8 &&& Int32.toUInt32 31)).toInt32) + (((((((x1 - ((x1.toUInt32 >>> (Int32.toUInt32 1 &&& Int32.toUInt32 31)).toInt32 &&& (1431655765 : Int32))) &&& (858993459 : Int32)) + (((x1 - ((x1.toUInt32 >>> (Int32.toUInt32 1 &&& Int32.toUInt32 31)).toInt32 &&& (1431655765 : Int32))).toUInt32 >>> (Int32.toUInt32 2 &&& Int32.toUInt32 31)).toInt32 &&& (858993459 : Int32))) + ((((x1 - ((x1.toUInt32 >>> (Int32.toUInt32 1 &&& Int32.toUInt32 31)).toInt32 &&& (1431655765 : Int32))) &&& (858993459 : Int32)) + (((x1 - ((x1.toUInt32 >>> (Int32.toUInt32 1 &&& Int32.toUInt32 31)).toInt32 &&& (1431655765 : Int32))).toUInt32 >>> (Int32.toUInt32 2 &&& Int32.toUInt32 31)).toInt32 &&& (858993459 : Int32))).toUInt32 >>> (Int32.toUInt32 4 &&& Int32.toUInt32 31)).toInt32) &&& (252645135 : Int32)) + ((((((x1 - ((x1.toUInt32 >>> (Int32.toUInt32 1 &&& Int32.toUInt32 31)).toInt32 &&& (1431655765 : Int32))) &&& (858993459 : Int32)) + (((x1 - ((x1.toUInt32 >>> (Int32.toUInt32 1 &&& Int32.toUInt32 31)).toInt32 &&& (1431655765 : Int32))).toUInt32 >>> (Int32.toUInt32 2 &&& Int32.toUInt32 31)).toInt32 &&& (858993459 : Int32))) + ((((x1 - ((x1.toUInt32 >>> (Int32.toUInt32 1 &&& Int32.toUInt32 31)).toInt32 &&& (1431655765 : Int32))) &&& (858993459 : Int32)) + (((x1 - ((x1.toUInt32 >>> (Int32.toUInt32 1 &&& Int32.toUInt32 31)).toInt32 &&& (1431655765 : Int32))).toUInt32 >>> (Int32.toUInt32 2 &&& Int32.toUInt32 31)).toInt32 &&& (858993459 : Int32))).toUInt32 >>> (Int32.toUInt32 4 &&& Int32.toUInt32 31)).toInt32) &&& (252645135 : Int32)).toUInt32 >>> (Int32.toUInt32 8 &&& Int32.toUInt32 31)).toInt32).toUInt32 >>> (Int32.toUInt32 16 &&& Int32.toUInt32 31)).toInt32) &&& (63 : Int32))) ∧ μ' = μ) := by
  refine m2_MT.intro (ls := [.int x1]) (by decide +kernel) rfl (Nat.le_of_ble_eq_true rfl) (fun κ h => ?_)
  have hB := h.b
  refine m2_iload_n hB dJ6_bitCount_0f7a4_0 rfl ?_
  refine m2_iload_n hB dJ6_bitCount_0f7a4_1 rfl ?_
  refine m2_iconst hB dJ6_bitCount_0f7a4_2 (v := 1) (by decide) ?_
  refine m2_iushr hB dJ6_bitCount_0f7a4_3 rfl ?_
  refine m2_ldcw hB kc_J6_265 dJ6_bitCount_0f7a4_4 ?_
  refine m2_iand hB dJ6_bitCount_0f7a4_7 ?_
  refine m2_isub hB dJ6_bitCount_0f7a4_8 ?_
  refine m2_istore_n hB (ls' := [.int (x1 - ((x1.toUInt32 >>> (Int32.toUInt32 1 &&& Int32.toUInt32 31)).toInt32 &&& (1431655765 : Int32)))]) dJ6_bitCount_0f7a4_9 rfl (by decide) rfl ?_
  refine m2_iload_n hB dJ6_bitCount_0f7a4_10 rfl ?_
  refine m2_ldcw hB kc_J6_266 dJ6_bitCount_0f7a4_11 ?_
  refine m2_iand hB dJ6_bitCount_0f7a4_14 ?_
  refine m2_iload_n hB dJ6_bitCount_0f7a4_15 rfl ?_
  refine m2_iconst hB dJ6_bitCount_0f7a4_16 (v := 2) (by decide) ?_
  refine m2_iushr hB dJ6_bitCount_0f7a4_17 rfl ?_
  refine m2_ldcw hB kc_J6_266 dJ6_bitCount_0f7a4_18 ?_
  refine m2_iand hB dJ6_bitCount_0f7a4_21 ?_
  refine m2_iadd hB dJ6_bitCount_0f7a4_22 ?_
  refine m2_istore_n hB (ls' := [.int (((x1 - ((x1.toUInt32 >>> (Int32.toUInt32 1 &&& Int32.toUInt32 31)).toInt32 &&& (1431655765 : Int32))) &&& (858993459 : Int32)) + (((x1 - ((x1.toUInt32 >>> (Int32.toUInt32 1 &&& Int32.toUInt32 31)).toInt32 &&& (1431655765 : Int32))).toUInt32 >>> (Int32.toUInt32 2 &&& Int32.toUInt32 31)).toInt32 &&& (858993459 : Int32)))]) dJ6_bitCount_0f7a4_23 rfl (by decide) rfl ?_
  refine m2_iload_n hB dJ6_bitCount_0f7a4_24 rfl ?_
  refine m2_iload_n hB dJ6_bitCount_0f7a4_25 rfl ?_
  refine m2_iconst hB dJ6_bitCount_0f7a4_26 (v := 4) (by decide) ?_
  refine m2_iushr hB dJ6_bitCount_0f7a4_27 rfl ?_
  refine m2_iadd hB dJ6_bitCount_0f7a4_28 ?_
  refine m2_ldcw hB kc_J6_267 dJ6_bitCount_0f7a4_29 ?_
  refine m2_iand hB dJ6_bitCount_0f7a4_32 ?_
  refine m2_istore_n hB (ls' := [.int (((((x1 - ((x1.toUInt32 >>> (Int32.toUInt32 1 &&& Int32.toUInt32 31)).toInt32 &&& (1431655765 : Int32))) &&& (858993459 : Int32)) + (((x1 - ((x1.toUInt32 >>> (Int32.toUInt32 1 &&& Int32.toUInt32 31)).toInt32 &&& (1431655765 : Int32))).toUInt32 >>> (Int32.toUInt32 2 &&& Int32.toUInt32 31)).toInt32 &&& (858993459 : Int32))) + ((((x1 - ((x1.toUInt32 >>> (Int32.toUInt32 1 &&& Int32.toUInt32 31)).toInt32 &&& (1431655765 : Int32))) &&& (858993459 : Int32)) + (((x1 - ((x1.toUInt32 >>> (Int32.toUInt32 1 &&& Int32.toUInt32 31)).toInt32 &&& (1431655765 : Int32))).toUInt32 >>> (Int32.toUInt32 2 &&& Int32.toUInt32 31)).toInt32 &&& (858993459 : Int32))).toUInt32 >>> (Int32.toUInt32 4 &&& Int32.toUInt32 31)).toInt32) &&& (252645135 : Int32))]) dJ6_bitCount_0f7a4_33 rfl (by decide) rfl ?_
  refine m2_iload_n hB dJ6_bitCount_0f7a4_34 rfl ?_
  refine m2_iload_n hB dJ6_bitCount_0f7a4_35 rfl ?_
  refine m2_bipush hB dJ6_bitCount_0f7a4_36 (v := 8) (by decide) ?_
  refine m2_iushr hB dJ6_bitCount_0f7a4_38 rfl ?_
  refine m2_iadd hB dJ6_bitCount_0f7a4_39 ?_
  refine m2_istore_n hB (ls' := [.int ((((((x1 - ((x1.toUInt32 >>> (Int32.toUInt32 1 &&& Int32.toUInt32 31)).toInt32 &&& (1431655765 : Int32))) &&& (858993459 : Int32)) + (((x1 - ((x1.toUInt32 >>> (Int32.toUInt32 1 &&& Int32.toUInt32 31)).toInt32 &&& (1431655765 : Int32))).toUInt32 >>> (Int32.toUInt32 2 &&& Int32.toUInt32 31)).toInt32 &&& (858993459 : Int32))) + ((((x1 - ((x1.toUInt32 >>> (Int32.toUInt32 1 &&& Int32.toUInt32 31)).toInt32 &&& (1431655765 : Int32))) &&& (858993459 : Int32)) + (((x1 - ((x1.toUInt32 >>> (Int32.toUInt32 1 &&& Int32.toUInt32 31)).toInt32 &&& (1431655765 : Int32))).toUInt32 >>> (Int32.toUInt32 2 &&& Int32.toUInt32 31)).toInt32 &&& (858993459 : Int32))).toUInt32 >>> (Int32.toUInt32 4 &&& Int32.toUInt32 31)).toInt32) &&& (252645135 : Int32)) + ((((((x1 - ((x1.toUInt32 >>> (Int32.toUInt32 1 &&& Int32.toUInt32 31)).toInt32 &&& (1431655765 : Int32))) &&& (858993459 : Int32)) + (((x1 - ((x1.toUInt32 >>> (Int32.toUInt32 1 &&& Int32.toUInt32 31)).toInt32 &&& (1431655765 : Int32))).toUInt32 >>> (Int32.toUInt32 2 &&& Int32.toUInt32 31)).toInt32 &&& (858993459 : Int32))) + ((((x1 - ((x1.toUInt32 >>> (Int32.toUInt32 1 &&& Int32.toUInt32 31)).toInt32 &&& (1431655765 : Int32))) &&& (858993459 : Int32)) + (((x1 - ((x1.toUInt32 >>> (Int32.toUInt32 1 &&& Int32.toUInt32 31)).toInt32 &&& (1431655765 : Int32))).toUInt32 >>> (Int32.toUInt32 2 &&& Int32.toUInt32 31)).toInt32 &&& (858993459 : Int32))).toUInt32 >>> (Int32.toUInt32 4 &&& Int32.toUInt32 31)).toInt32) &&& (252645135 : Int32)).toUInt32 >>> (Int32.toUInt32 8 &&& Int32.toUInt32 31)).toInt32)]) dJ6_bitCount_0f7a4_40 rfl (by decide) rfl ?_
  refine m2_iload_n hB dJ6_bitCount_0f7a4_41 rfl ?_
  refine m2_iload_n hB dJ6_bitCount_0f7a4_42 rfl ?_
  refine m2_bipush hB dJ6_bitCount_0f7a4_43 (v := 16) (by decide) ?_
  refine m2_iushr hB dJ6_bitCount_0f7a4_45 rfl ?_
  refine m2_iadd hB dJ6_bitCount_0f7a4_46 ?_
  refine m2_istore_n hB (ls' := [.int (((((((x1 - ((x1.toUInt32 >>> (Int32.toUInt32 1 &&& Int32.toUInt32 31)).toInt32 &&& (1431655765 : Int32))) &&& (858993459 : Int32)) + (((x1 - ((x1.toUInt32 >>> (Int32.toUInt32 1 &&& Int32.toUInt32 31)).toInt32 &&& (1431655765 : Int32))).toUInt32 >>> (Int32.toUInt32 2 &&& Int32.toUInt32 31)).toInt32 &&& (858993459 : Int32))) + ((((x1 - ((x1.toUInt32 >>> (Int32.toUInt32 1 &&& Int32.toUInt32 31)).toInt32 &&& (1431655765 : Int32))) &&& (858993459 : Int32)) + (((x1 - ((x1.toUInt32 >>> (Int32.toUInt32 1 &&& Int32.toUInt32 31)).toInt32 &&& (1431655765 : Int32))).toUInt32 >>> (Int32.toUInt32 2 &&& Int32.toUInt32 31)).toInt32 &&& (858993459 : Int32))).toUInt32 >>> (Int32.toUInt32 4 &&& Int32.toUInt32 31)).toInt32) &&& (252645135 : Int32)) + ((((((x1 - ((x1.toUInt32 >>> (Int32.toUInt32 1 &&& Int32.toUInt32 31)).toInt32 &&& (1431655765 : Int32))) &&& (858993459 : Int32)) + (((x1 - ((x1.toUInt32 >>> (Int32.toUInt32 1 &&& Int32.toUInt32 31)).toInt32 &&& (1431655765 : Int32))).toUInt32 >>> (Int32.toUInt32 2 &&& Int32.toUInt32 31)).toInt32 &&& (858993459 : Int32))) + ((((x1 - ((x1.toUInt32 >>> (Int32.toUInt32 1 &&& Int32.toUInt32 31)).toInt32 &&& (1431655765 : Int32))) &&& (858993459 : Int32)) + (((x1 - ((x1.toUInt32 >>> (Int32.toUInt32 1 &&& Int32.toUInt32 31)).toInt32 &&& (1431655765 : Int32))).toUInt32 >>> (Int32.toUInt32 2 &&& Int32.toUInt32 31)).toInt32 &&& (858993459 : Int32))).toUInt32 >>> (Int32.toUInt32 4 &&& Int32.toUInt32 31)).toInt32) &&& (252645135 : Int32)).toUInt32 >>> (Int32.toUInt32 8 &&& Int32.toUInt32 31)).toInt32) + (((((((x1 - ((x1.toUInt32 >>> (Int32.toUInt32 1 &&& Int32.toUInt32 31)).toInt32 &&& (1431655765 : Int32))) &&& (858993459 : Int32)) + (((x1 - ((x1.toUInt32 >>> (Int32.toUInt32 1 &&& Int32.toUInt32 31)).toInt32 &&& (1431655765 : Int32))).toUInt32 >>> (Int32.toUInt32 2 &&& Int32.toUInt32 31)).toInt32 &&& (858993459 : Int32))) + ((((x1 - ((x1.toUInt32 >>> (Int32.toUInt32 1 &&& Int32.toUInt32 31)).toInt32 &&& (1431655765 : Int32))) &&& (858993459 : Int32)) + (((x1 - ((x1.toUInt32 >>> (Int32.toUInt32 1 &&& Int32.toUInt32 31)).toInt32 &&& (1431655765 : Int32))).toUInt32 >>> (Int32.toUInt32 2 &&& Int32.toUInt32 31)).toInt32 &&& (858993459 : Int32))).toUInt32 >>> (Int32.toUInt32 4 &&& Int32.toUInt32 31)).toInt32) &&& (252645135 : Int32)) + ((((((x1 - ((x1.toUInt32 >>> (Int32.toUInt32 1 &&& Int32.toUInt32 31)).toInt32 &&& (1431655765 : Int32))) &&& (858993459 : Int32)) + (((x1 - ((x1.toUInt32 >>> (Int32.toUInt32 1 &&& Int32.toUInt32 31)).toInt32 &&& (1431655765 : Int32))).toUInt32 >>> (Int32.toUInt32 2 &&& Int32.toUInt32 31)).toInt32 &&& (858993459 : Int32))) + ((((x1 - ((x1.toUInt32 >>> (Int32.toUInt32 1 &&& Int32.toUInt32 31)).toInt32 &&& (1431655765 : Int32))) &&& (858993459 : Int32)) + (((x1 - ((x1.toUInt32 >>> (Int32.toUInt32 1 &&& Int32.toUInt32 31)).toInt32 &&& (1431655765 : Int32))).toUInt32 >>> (Int32.toUInt32 2 &&& Int32.toUInt32 31)).toInt32 &&& (858993459 : Int32))).toUInt32 >>> (Int32.toUInt32 4 &&& Int32.toUInt32 31)).toInt32) &&& (252645135 : Int32)).toUInt32 >>> (Int32.toUInt32 8 &&& Int32.toUInt32 31)).toInt32).toUInt32 >>> (Int32.toUInt32 16 &&& Int32.toUInt32 31)).toInt32)]) dJ6_bitCount_0f7a4_47 rfl (by decide) rfl ?_
  refine m2_iload_n hB dJ6_bitCount_0f7a4_48 rfl ?_
  refine m2_bipush hB dJ6_bitCount_0f7a4_49 (v := 63) (by decide) ?_
  refine m2_iand hB dJ6_bitCount_0f7a4_51 ?_
  exact m2_iret h dJ6_bitCount_0f7a4_52 ⟨rfl, rfl⟩
def fJ6_bitCount_0f7a4 (x1 : Int32) : Int32 := ((((((((x1 - ((x1.toUInt32 >>> (Int32.toUInt32 1 &&& Int32.toUInt32 31)).toInt32 &&& (1431655765 : Int32))) &&& (858993459 : Int32)) + (((x1 - ((x1.toUInt32 >>> (Int32.toUInt32 1 &&& Int32.toUInt32 31)).toInt32 &&& (1431655765 : Int32))).toUInt32 >>> (Int32.toUInt32 2 &&& Int32.toUInt32 31)).toInt32 &&& (858993459 : Int32))) + ((((x1 - ((x1.toUInt32 >>> (Int32.toUInt32 1 &&& Int32.toUInt32 31)).toInt32 &&& (1431655765 : Int32))) &&& (858993459 : Int32)) + (((x1 - ((x1.toUInt32 >>> (Int32.toUInt32 1 &&& Int32.toUInt32 31)).toInt32 &&& (1431655765 : Int32))).toUInt32 >>> (Int32.toUInt32 2 &&& Int32.toUInt32 31)).toInt32 &&& (858993459 : Int32))).toUInt32 >>> (Int32.toUInt32 4 &&& Int32.toUInt32 31)).toInt32) &&& (252645135 : Int32)) + ((((((x1 - ((x1.toUInt32 >>> (Int32.toUInt32 1 &&& Int32.toUInt32 31)).toInt32 &&& (1431655765 : Int32))) &&& (858993459 : Int32)) + (((x1 - ((x1.toUInt32 >>> (Int32.toUInt32 1 &&& Int32.toUInt32 31)).toInt32 &&& (1431655765 : Int32))).toUInt32 >>> (Int32.toUInt32 2 &&& Int32.toUInt32 31)).toInt32 &&& (858993459 : Int32))) + ((((x1 - ((x1.toUInt32 >>> (Int32.toUInt32 1 &&& Int32.toUInt32 31)).toInt32 &&& (1431655765 : Int32))) &&& (858993459 : Int32)) + (((x1 - ((x1.toUInt32 >>> (Int32.toUInt32 1 &&& Int32.toUInt32 31)).toInt32 &&& (1431655765 : Int32))).toUInt32 >>> (Int32.toUInt32 2 &&& Int32.toUInt32 31)).toInt32 &&& (858993459 : Int32))).toUInt32 >>> (Int32.toUInt32 4 &&& Int32.toUInt32 31)).toInt32) &&& (252645135 : Int32)).toUInt32 >>> (Int32.toUInt32 8 &&& Int32.toUInt32 31)).toInt32) + (((((((x1 - ((x1.toUInt32 >>> (Int32.toUInt32 1 &&& Int32.toUInt32 31)).toInt32 &&& (1431655765 : Int32))) &&& (858993459 : Int32)) + (((x1 - ((x1.toUInt32 >>> (Int32.toUInt32 1 &&& Int32.toUInt32 31)).toInt32 &&& (1431655765 : Int32))).toUInt32 >>> (Int32.toUInt32 2 &&& Int32.toUInt32 31)).toInt32 &&& (858993459 : Int32))) + ((((x1 - ((x1.toUInt32 >>> (Int32.toUInt32 1 &&& Int32.toUInt32 31)).toInt32 &&& (1431655765 : Int32))) &&& (858993459 : Int32)) + (((x1 - ((x1.toUInt32 >>> (Int32.toUInt32 1 &&& Int32.toUInt32 31)).toInt32 &&& (1431655765 : Int32))).toUInt32 >>> (Int32.toUInt32 2 &&& Int32.toUInt32 31)).toInt32 &&& (858993459 : Int32))).toUInt32 >>> (Int32.toUInt32 4 &&& Int32.toUInt32 31)).toInt32) &&& (252645135 : Int32)) + ((((((x1 - ((x1.toUInt32 >>> (Int32.toUInt32 1 &&& Int32.toUInt32 31)).toInt32 &&& (1431655765 : Int32))) &&& (858993459 : Int32)) + (((x1 - ((x1.toUInt32 >>> (Int32.toUInt32 1 &&& Int32.toUInt32 31)).toInt32 &&& (1431655765 : Int32))).toUInt32 >>> (Int32.toUInt32 2 &&& Int32.toUInt32 31)).toInt32 &&& (858993459 : Int32))) + ((((x1 - ((x1.toUInt32 >>> (Int32.toUInt32 1 &&& Int32.toUInt32 31)).toInt32 &&& (1431655765 : Int32))) &&& (858993459 : Int32)) + (((x1 - ((x1.toUInt32 >>> (Int32.toUInt32 1 &&& Int32.toUInt32 31)).toInt32 &&& (1431655765 : Int32))).toUInt32 >>> (Int32.toUInt32 2 &&& Int32.toUInt32 31)).toInt32 &&& (858993459 : Int32))).toUInt32 >>> (Int32.toUInt32 4 &&& Int32.toUInt32 31)).toInt32) &&& (252645135 : Int32)).toUInt32 >>> (Int32.toUInt32 8 &&& Int32.toUInt32 31)).toInt32).toUInt32 >>> (Int32.toUInt32 16 &&& Int32.toUInt32 31)).toInt32) &&& (63 : Int32))
theorem P_J6_bitCount_0f7a4 {D : Nat} (hD : 0 ≤ D) (x1 : Int32) (μ : m2M)  : m2_MT D yJ6_bitCount_0f7a4 cJ6_bitCount_0f7a4 1 (some .int) [.int x1] μ (fun r μ' => r = some (.int (fJ6_bitCount_0f7a4 x1)) ∧ μ' = μ) :=
  P0_J6_bitCount_0f7a4 hD x1 μ 
theorem dX9_areFew_0 : decode cX9_areFew 0 = .ok (.iload_n 0, 1) := by decide +kernel
theorem dX9_areFew_1 : decode cX9_areFew 1 = .ok (.ifCond .lt 23, 3) := by decide +kernel
theorem dX9_areFew_4 : decode cX9_areFew 4 = .ok (.iload_n 0, 1) := by decide +kernel
theorem dX9_areFew_5 : decode cX9_areFew 5 = .ok (.sipush 4095, 3) := by decide +kernel
theorem dX9_areFew_8 : decode cX9_areFew 8 = .ok (.if_icmp .gt 16, 3) := by decide +kernel
theorem dX9_areFew_11 : decode cX9_areFew 11 = .ok (.iload_n 0, 1) := by decide +kernel
theorem dX9_areFew_12 : decode cX9_areFew 12 = .ok (.invokestatic 30, 3) := by decide +kernel
theorem dX9_areFew_15 : decode cX9_areFew 15 = .ok (.bipush 6, 2) := by decide +kernel
theorem dX9_areFew_17 : decode cX9_areFew 17 = .ok (.if_icmp .gt 7, 3) := by decide +kernel
theorem dX9_areFew_20 : decode cX9_areFew 20 = .ok (.iconst 1, 1) := by decide +kernel
theorem dX9_areFew_21 : decode cX9_areFew 21 = .ok (.goto 4, 3) := by decide +kernel
theorem dX9_areFew_24 : decode cX9_areFew 24 = .ok (.iconst 0, 1) := by decide +kernel
theorem dX9_areFew_25 : decode cX9_areFew 25 = .ok (.ireturn, 1) := by decide +kernel
set_option maxRecDepth 100000 in
set_option maxHeartbeats 4000000 in
theorem P0_X9_areFew {D : Nat} (hD : 1 ≤ D) (x1 : Int32) (μ : m2M)  : m2_MT D yX9_areFew cX9_areFew 1 (some .boolean) [.int x1] μ (fun r μ' => r = some (.int (if x1 < 0 then 0 else (if 4095 < x1 then 0 else (if 6 < (fJ6_bitCount_0f7a4 x1) then 0 else 1 : Int32) : Int32) : Int32)) ∧ μ' = μ) := by
  obtain ⟨D, rfl⟩ : ∃ E, D = E + 1 := ⟨D - 1, by omega⟩
  refine m2_MT.intro (ls := [.int x1]) (by decide +kernel) rfl (Nat.le_of_ble_eq_true rfl) (fun κ h => ?_)
  have hB := h.b
  refine m2_iload_n hB dX9_areFew_0 rfl ?_
  refine m2_if_lt hB dX9_areFew_1 (tgt := 24) (by decide) (fun q1 : x1 < 0 => ?_) (fun q1 : ¬ x1 < 0 => ?_)
  · skip
    refine m2_iconst hB dX9_areFew_24 (v := 0) (by decide) ?_
    exact m2_zret h dX9_areFew_25 (Or.inl rfl) ⟨by rw [if_pos q1], rfl⟩
  · skip
    refine m2_iload_n hB dX9_areFew_4 rfl ?_
    refine m2_sipush hB dX9_areFew_5 (v := 4095) (by decide) ?_
    refine m2_icmp_gt hB dX9_areFew_8 (tgt := 24) (by decide) (fun q2 : 4095 < x1 => ?_) (fun q2 : ¬ 4095 < x1 => ?_)
    · skip
      refine m2_iconst hB dX9_areFew_24 (v := 0) (by decide) ?_
      exact m2_zret h dX9_areFew_25 (Or.inl rfl) ⟨by rw [if_neg q1, if_pos q2], rfl⟩
    · skip
      refine m2_iload_n hB dX9_areFew_11 rfl ?_
      refine m2_invSi hB (as := [.int x1]) dX9_areFew_12 ms_X9_30 rfl (Nat.le_of_ble_eq_true rfl) rfl (P_J6_bitCount_0f7a4 (by omega) (x1) _ ) (fun y3 μ4 hq5 => ?_)
      obtain ⟨⟨⟩, hq5⟩ := hq5
      subst μ4
      refine m2_bipush hB dX9_areFew_15 (v := 6) (by decide) ?_
      refine m2_icmp_gt hB dX9_areFew_17 (tgt := 24) (by decide) (fun q6 : 6 < (fJ6_bitCount_0f7a4 x1) => ?_) (fun q6 : ¬ 6 < (fJ6_bitCount_0f7a4 x1) => ?_)
      · skip
        refine m2_iconst hB dX9_areFew_24 (v := 0) (by decide) ?_
        exact m2_zret h dX9_areFew_25 (Or.inl rfl) ⟨by rw [if_neg q1, if_neg q2, if_pos q6], rfl⟩
      · skip
        refine m2_iconst hB dX9_areFew_20 (v := 1) (by decide) ?_
        refine m2_goto hB dX9_areFew_21 (tgt := 25) (by decide) ?_
        exact m2_zret h dX9_areFew_25 (Or.inr rfl) ⟨by rw [if_neg q1, if_neg q2, if_neg q6], rfl⟩
def fX9_areFew (x1 : Int32) : Int32 := (if x1 < 0 then 0 else (if 4095 < x1 then 0 else (if 6 < (fJ6_bitCount_0f7a4 x1) then 0 else 1 : Int32) : Int32) : Int32)
theorem P_X9_areFew {D : Nat} (hD : 1 ≤ D) (x1 : Int32) (μ : m2M)  : m2_MT D yX9_areFew cX9_areFew 1 (some .boolean) [.int x1] μ (fun r μ' => r = some (.int (if (fX9_areFew x1) = 1 then 1 else 0 : Int32)) ∧ μ' = μ) :=
  (P0_X9_areFew hD x1 μ ).mono (fun r μ' q => ⟨q.1.trans (congrArg (fun z : Int32 => some (Value.int z)) (m2_b01 (v := (fX9_areFew x1)) (by unfold fX9_areFew; (repeat' split) <;> first | exact Or.inl rfl | exact Or.inr rfl))), q.2⟩)
theorem dX12_areSix_0 : decode cX12_areSix 0 = .ok (.iload_n 0, 1) := by decide +kernel
theorem dX12_areSix_1 : decode cX12_areSix 1 = .ok (.iconst 0, 1) := by decide +kernel
theorem dX12_areSix_2 : decode cX12_areSix 2 = .ok (.sipush 4095, 3) := by decide +kernel
theorem dX12_areSix_5 : decode cX12_areSix 5 = .ok (.invokestatic 149, 3) := by decide +kernel
theorem dX12_areSix_8 : decode cX12_areSix 8 = .ok (.ifCond .eq 16, 3) := by decide +kernel
theorem dX12_areSix_11 : decode cX12_areSix 11 = .ok (.iload_n 0, 1) := by decide +kernel
theorem dX12_areSix_12 : decode cX12_areSix 12 = .ok (.invokestatic 251, 3) := by decide +kernel
theorem dX12_areSix_15 : decode cX12_areSix 15 = .ok (.bipush 6, 2) := by decide +kernel
theorem dX12_areSix_17 : decode cX12_areSix 17 = .ok (.if_icmp .gt 7, 3) := by decide +kernel
theorem dX12_areSix_20 : decode cX12_areSix 20 = .ok (.iconst 1, 1) := by decide +kernel
theorem dX12_areSix_21 : decode cX12_areSix 21 = .ok (.goto 4, 3) := by decide +kernel
theorem dX12_areSix_24 : decode cX12_areSix 24 = .ok (.iconst 0, 1) := by decide +kernel
theorem dX12_areSix_25 : decode cX12_areSix 25 = .ok (.ireturn, 1) := by decide +kernel
set_option maxRecDepth 100000 in
set_option maxHeartbeats 4000000 in
theorem P0_X12_areSix {D : Nat} (hD : 1 ≤ D) (x1 : Int32) (μ : m2M)  : m2_MT D yX12_areSix cX12_areSix 1 (some .boolean) [.int x1] μ (fun r μ' => r = some (.int (if (fX12_in x1 0 4095) = 1 then (if 6 < (fJ6_bitCount_0f7a4 x1) then 0 else 1 : Int32) else 0 : Int32)) ∧ μ' = μ) := by
  obtain ⟨D, rfl⟩ : ∃ E, D = E + 1 := ⟨D - 1, by omega⟩
  refine m2_MT.intro (ls := [.int x1]) (by decide +kernel) rfl (Nat.le_of_ble_eq_true rfl) (fun κ h => ?_)
  have hB := h.b
  refine m2_iload_n hB dX12_areSix_0 rfl ?_
  refine m2_iconst hB dX12_areSix_1 (v := 0) (by decide) ?_
  refine m2_sipush hB dX12_areSix_2 (v := 4095) (by decide) ?_
  refine m2_invSz hB (as := [.int x1, .int 0, .int 4095]) dX12_areSix_5 ms_X12_149 rfl (Nat.le_of_ble_eq_true rfl) rfl (P_X12_in (by omega) (x1) (0) (4095) _ ) (fun y1 μ2 hq3 => ?_)
  obtain ⟨⟨⟩, hq3⟩ := hq3
  subst μ2
  show κ 8 [.int x1] [.int (if (fX12_in x1 0 4095) = 1 then 1 else 0 : Int32)] μ
  by_cases q4 : (fX12_in x1 0 4095) = 1
  · rw [if_pos q4]
    refine m2_if_eq hB dX12_areSix_8 (tgt := 24) (by decide) (fun q => absurd q (by decide)) (fun _ => ?_)
    refine m2_iload_n hB dX12_areSix_11 rfl ?_
    refine m2_invSi hB (as := [.int x1]) dX12_areSix_12 ms_X12_251 rfl (Nat.le_of_ble_eq_true rfl) rfl (P_J6_bitCount_0f7a4 (by omega) (x1) _ ) (fun y5 μ6 hq7 => ?_)
    obtain ⟨⟨⟩, hq7⟩ := hq7
    subst μ6
    refine m2_bipush hB dX12_areSix_15 (v := 6) (by decide) ?_
    refine m2_icmp_gt hB dX12_areSix_17 (tgt := 24) (by decide) (fun q8 : 6 < (fJ6_bitCount_0f7a4 x1) => ?_) (fun q8 : ¬ 6 < (fJ6_bitCount_0f7a4 x1) => ?_)
    · skip
      refine m2_iconst hB dX12_areSix_24 (v := 0) (by decide) ?_
      exact m2_zret h dX12_areSix_25 (Or.inl rfl) ⟨by rw [if_pos q4, if_pos q8], rfl⟩
    · skip
      refine m2_iconst hB dX12_areSix_20 (v := 1) (by decide) ?_
      refine m2_goto hB dX12_areSix_21 (tgt := 25) (by decide) ?_
      exact m2_zret h dX12_areSix_25 (Or.inr rfl) ⟨by rw [if_pos q4, if_neg q8], rfl⟩
  · rw [if_neg q4]
    refine m2_if_eq hB dX12_areSix_8 (tgt := 24) (by decide) (fun _ => ?_) (fun q => absurd q (by decide))
    refine m2_iconst hB dX12_areSix_24 (v := 0) (by decide) ?_
    exact m2_zret h dX12_areSix_25 (Or.inl rfl) ⟨by rw [if_neg q4], rfl⟩
def fX12_areSix (x1 : Int32) : Int32 := (if (fX12_in x1 0 4095) = 1 then (if 6 < (fJ6_bitCount_0f7a4 x1) then 0 else 1 : Int32) else 0 : Int32)
theorem P_X12_areSix {D : Nat} (hD : 1 ≤ D) (x1 : Int32) (μ : m2M)  : m2_MT D yX12_areSix cX12_areSix 1 (some .boolean) [.int x1] μ (fun r μ' => r = some (.int (if (fX12_areSix x1) = 1 then 1 else 0 : Int32)) ∧ μ' = μ) :=
  (P0_X12_areSix hD x1 μ ).mono (fun r μ' q => ⟨q.1.trans (congrArg (fun z : Int32 => some (Value.int z)) (m2_b01 (v := (fX12_areSix x1)) (by unfold fX12_areSix; (repeat' split) <;> first | exact Or.inl rfl | exact Or.inr rfl))), q.2⟩)
