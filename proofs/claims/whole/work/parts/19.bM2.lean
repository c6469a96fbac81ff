theorem dX12_hours_0 : decode cX12_hours 0 = .ok (.aload_n 0, 1) := by decide +kernel
theorem dX12_hours_1 : decode cX12_hours 1 = .ok (.iconst 0, 1) := by decide +kernel
theorem dX12_hours_2 : decode cX12_hours 2 = .ok (.putfield 143, 3) := by decide +kernel
theorem dX12_hours_5 : decode cX12_hours 5 = .ok (.iload_n 1, 1) := by decide +kernel
theorem dX12_hours_6 : decode cX12_hours 6 = .ok (.iconst 0, 1) := by decide +kernel
theorem dX12_hours_7 : decode cX12_hours 7 = .ok (.bipush 23, 2) := by decide +kernel
theorem dX12_hours_9 : decode cX12_hours 9 = .ok (.invokestatic 149, 3) := by decide +kernel
theorem dX12_hours_12 : decode cX12_hours 12 = .ok (.ifCond .eq 14, 3) := by decide +kernel
theorem dX12_hours_15 : decode cX12_hours 15 = .ok (.aload_n 0, 1) := by decide +kernel
theorem dX12_hours_16 : decode cX12_hours 16 = .ok (.getfield 228, 3) := by decide +kernel
theorem dX12_hours_19 : decode cX12_hours 19 = .ok (.iload_n 1, 1) := by decide +kernel
theorem dX12_hours_20 : decode cX12_hours 20 = .ok (.iadd, 1) := by decide +kernel
theorem dX12_hours_21 : decode cX12_hours 21 = .ok (.bipush 23, 2) := by decide +kernel
theorem dX12_hours_23 : decode cX12_hours 23 = .ok (.if_icmp .le 5, 3) := by decide +kernel
theorem dX12_hours_26 : decode cX12_hours 26 = .ok (.iconst (-1), 1) := by decide +kernel
theorem dX12_hours_27 : decode cX12_hours 27 = .ok (.ireturn, 1) := by decide +kernel
theorem dX12_hours_28 : decode cX12_hours 28 = .ok (.aload_n 0, 1) := by decide +kernel
theorem dX12_hours_29 : decode cX12_hours 29 = .ok (.getfield 228, 3) := by decide +kernel
theorem dX12_hours_32 : decode cX12_hours 32 = .ok (.bipush 12, 2) := by decide +kernel
theorem dX12_hours_34 : decode cX12_hours 34 = .ok (.if_icmp .ge 18, 3) := by decide +kernel
theorem dX12_hours_37 : decode cX12_hours 37 = .ok (.aload_n 0, 1) := by decide +kernel
theorem dX12_hours_38 : decode cX12_hours 38 = .ok (.getfield 228, 3) := by decide +kernel
theorem dX12_hours_41 : decode cX12_hours 41 = .ok (.iload_n 1, 1) := by decide +kernel
theorem dX12_hours_42 : decode cX12_hours 42 = .ok (.iadd, 1) := by decide +kernel
theorem dX12_hours_43 : decode cX12_hours 43 = .ok (.bipush 12, 2) := by decide +kernel
theorem dX12_hours_45 : decode cX12_hours 45 = .ok (.if_icmp .lt 7, 3) := by decide +kernel
theorem dX12_hours_48 : decode cX12_hours 48 = .ok (.iconst 1, 1) := by decide +kernel
theorem dX12_hours_49 : decode cX12_hours 49 = .ok (.goto 4, 3) := by decide +kernel
theorem dX12_hours_52 : decode cX12_hours 52 = .ok (.iconst 0, 1) := by decide +kernel
theorem dX12_hours_53 : decode cX12_hours 53 = .ok (.istore_n 2, 1) := by decide +kernel
theorem dX12_hours_54 : decode cX12_hours 54 = .ok (.iconst 0, 1) := by decide +kernel
theorem dX12_hours_55 : decode cX12_hours 55 = .ok (.istore_n 3, 1) := by decide +kernel
theorem dX12_hours_56 : decode cX12_hours 56 = .ok (.iload_n 3, 1) := by decide +kernel
theorem dX12_hours_57 : decode cX12_hours 57 = .ok (.aload_n 0, 1) := by decide +kernel
theorem dX12_hours_58 : decode cX12_hours 58 = .ok (.getfield 153, 3) := by decide +kernel
theorem dX12_hours_61 : decode cX12_hours 61 = .ok (.if_icmp .ge 35, 3) := by decide +kernel
theorem dX12_hours_64 : decode cX12_hours 64 = .ok (.iload_n 2, 1) := by decide +kernel
theorem dX12_hours_65 : decode cX12_hours 65 = .ok (.ifCond .eq 31, 3) := by decide +kernel
theorem dX12_hours_68 : decode cX12_hours 68 = .ok (.aload_n 0, 1) := by decide +kernel
theorem dX12_hours_69 : decode cX12_hours 69 = .ok (.getfield 26, 3) := by decide +kernel
theorem dX12_hours_72 : decode cX12_hours 72 = .ok (.iload_n 3, 1) := by decide +kernel
theorem dX12_hours_73 : decode cX12_hours 73 = .ok (.iaload, 1) := by decide +kernel
theorem dX12_hours_74 : decode cX12_hours 74 = .ok (.iconst (-1), 1) := by decide +kernel
theorem dX12_hours_75 : decode cX12_hours 75 = .ok (.if_icmp .eq 15, 3) := by decide +kernel
theorem dX12_hours_78 : decode cX12_hours 78 = .ok (.aload_n 0, 1) := by decide +kernel
theorem dX12_hours_79 : decode cX12_hours 79 = .ok (.getfield 23, 3) := by decide +kernel
theorem dX12_hours_82 : decode cX12_hours 82 = .ok (.iload_n 3, 1) := by decide +kernel
theorem dX12_hours_83 : decode cX12_hours 83 = .ok (.aload_n 0, 1) := by decide +kernel
theorem dX12_hours_84 : decode cX12_hours 84 = .ok (.getfield 26, 3) := by decide +kernel
theorem dX12_hours_87 : decode cX12_hours 87 = .ok (.iload_n 3, 1) := by decide +kernel
theorem dX12_hours_88 : decode cX12_hours 88 = .ok (.iaload, 1) := by decide +kernel
theorem dX12_hours_89 : decode cX12_hours 89 = .ok (.iastore, 1) := by decide +kernel
theorem dX12_hours_90 : decode cX12_hours 90 = .ok (.iinc 3 1, 3) := by decide +kernel
theorem dX12_hours_93 : decode cX12_hours 93 = .ok (.goto (-37), 3) := by decide +kernel
theorem dX12_hours_96 : decode cX12_hours 96 = .ok (.aload_n 0, 1) := by decide +kernel
theorem dX12_hours_97 : decode cX12_hours 97 = .ok (.dup, 1) := by decide +kernel
theorem dX12_hours_98 : decode cX12_hours 98 = .ok (.getfield 228, 3) := by decide +kernel
theorem dX12_hours_101 : decode cX12_hours 101 = .ok (.iload_n 1, 1) := by decide +kernel
theorem dX12_hours_102 : decode cX12_hours 102 = .ok (.iadd, 1) := by decide +kernel
theorem dX12_hours_103 : decode cX12_hours 103 = .ok (.putfield 228, 3) := by decide +kernel
theorem dX12_hours_106 : decode cX12_hours 106 = .ok (.aload_n 0, 1) := by decide +kernel
theorem dX12_hours_107 : decode cX12_hours 107 = .ok (.getfield 228, 3) := by decide +kernel
theorem dX12_hours_110 : decode cX12_hours 110 = .ok (.ireturn, 1) := by decide +kernel
set_option maxRecDepth 100000 in
set_option maxHeartbeats 4000000 in
theorem B_X12_hours_0 {κ : Nat → List Value → List Value → m2M → Prop} {D : Nat} {Q : Option Value → m2M → Prop} (h : m2_RL κ cX12_hours RX12 4 (D + 1) (some .int) Q) (hD : 0 ≤ D) {x1 : Int32} {μ : m2M} (k : ((fX12_in x1 0 23) = 1 → (((μ.1 kM 16) + x1) ≤ 23 → κ 56 [.ref kM, .int x1, .int (if 12 ≤ (μ.1 kM 16) then 0 else (if ((μ.1 kM 16) + x1) < 12 then 0 else 1 : Int32) : Int32), .int 0] [] (m2_si μ kM 22 0)) ∧ (¬ ((μ.1 kM 16) + x1) ≤ 23 → Q (some (.int (-1))) (m2_si μ kM 22 0))) ∧ (¬ (fX12_in x1 0 23) = 1 → Q (some (.int (-1))) (m2_si μ kM 22 0))) : κ 0 [.ref kM, .int x1, .null, .null] [] μ := by
  have hB := h.b
  refine m2_aload_n hB dX12_hours_0 rfl ?_
  refine m2_iconst hB dX12_hours_1 (v := 0) (by decide) ?_
  refine m2_putI hB dX12_hours_2 fl_X12_143 sh_kM rfl ?_
  refine m2_iload_n hB dX12_hours_5 rfl ?_
  refine m2_iconst hB dX12_hours_6 (v := 0) (by decide) ?_
  refine m2_bipush hB dX12_hours_7 (v := 23) (by decide) ?_
  refine m2_invSz hB (as := [.int x1, .int 0, .int 23]) dX12_hours_9 ms_X12_149 rfl (Nat.le_of_ble_eq_true rfl) rfl (P_X12_in (by omega) (x1) (0) (23) _ ) (fun y1 μ2 hq3 => ?_)
  obtain ⟨⟨⟩, hq3⟩ := hq3
  subst μ2
  show κ 12 [.ref kM, .int x1, .null, .null] [.int (if (fX12_in x1 0 23) = 1 then 1 else 0 : Int32)] (m2_si μ kM 22 0)
  by_cases q4 : (fX12_in x1 0 23) = 1
  · rw [if_pos q4]
    replace k := k.1 q4
    refine m2_if_eq hB dX12_hours_12 (tgt := 26) (by decide) (fun q => absurd q (by decide)) (fun _ => ?_)
    refine m2_aload_n hB dX12_hours_15 rfl ?_
    refine m2_getI hB dX12_hours_16 fl_X12_228 sh_kM rfl ?_
    refine m2_iload_n hB dX12_hours_19 rfl ?_
    refine m2_iadd hB dX12_hours_20 ?_
    refine m2_bipush hB dX12_hours_21 (v := 23) (by decide) ?_
    refine m2_icmp_le hB dX12_hours_23 (tgt := 28) (by decide) (fun q5 : ((μ.1 kM 16) + x1) ≤ 23 => ?_) (fun q5 : ¬ ((μ.1 kM 16) + x1) ≤ 23 => ?_)
    · replace k := k.1 q5
      refine m2_aload_n hB dX12_hours_28 rfl ?_
      refine m2_getI hB dX12_hours_29 fl_X12_228 sh_kM rfl ?_
      refine m2_bipush hB dX12_hours_32 (v := 12) (by decide) ?_
      have G8 : κ 53 [.ref kM, .int x1, .null, .null] [.int (if 12 ≤ (μ.1 kM 16) then 0 else (if ((μ.1 kM 16) + x1) < 12 then 0 else 1 : Int32) : Int32)] (m2_si μ kM 22 0) := by
        refine m2_istore_n hB (ls' := [.ref kM, .int x1, .int (if 12 ≤ (μ.1 kM 16) then 0 else (if ((μ.1 kM 16) + x1) < 12 then 0 else 1 : Int32) : Int32), .null]) dX12_hours_53 rfl (by decide) rfl ?_
        refine m2_iconst hB dX12_hours_54 (v := 0) (by decide) ?_
        refine m2_istore_n hB (ls' := [.ref kM, .int x1, .int (if 12 ≤ (μ.1 kM 16) then 0 else (if ((μ.1 kM 16) + x1) < 12 then 0 else 1 : Int32) : Int32), .int 0]) dX12_hours_55 rfl (by decide) rfl ?_
        exact k
      refine m2_icmp_ge hB dX12_hours_34 (tgt := 52) (by decide) (fun q7 : 12 ≤ (μ.1 kM 16) => ?_) (fun q7 : ¬ 12 ≤ (μ.1 kM 16) => ?_)
      · rw [if_pos q7] at G8
        refine m2_iconst hB dX12_hours_52 (v := 0) (by decide) ?_
        exact G8
      · rw [if_neg q7] at G8
        refine m2_aload_n hB dX12_hours_37 rfl ?_
        refine m2_getI hB dX12_hours_38 fl_X12_228 sh_kM rfl ?_
        refine m2_iload_n hB dX12_hours_41 rfl ?_
        refine m2_iadd hB dX12_hours_42 ?_
        refine m2_bipush hB dX12_hours_43 (v := 12) (by decide) ?_
        have G9 : κ 53 [.ref kM, .int x1, .null, .null] [.int (if ((μ.1 kM 16) + x1) < 12 then 0 else 1 : Int32)] (m2_si μ kM 22 0) := by
          exact G8
        refine m2_icmp_lt hB dX12_hours_45 (tgt := 52) (by decide) (fun q6 : ((μ.1 kM 16) + x1) < 12 => ?_) (fun q6 : ¬ ((μ.1 kM 16) + x1) < 12 => ?_)
        · rw [if_pos q6] at G9
          refine m2_iconst hB dX12_hours_52 (v := 0) (by decide) ?_
          exact G9
        · rw [if_neg q6] at G9
          refine m2_iconst hB dX12_hours_48 (v := 1) (by decide) ?_
          refine m2_goto hB dX12_hours_49 (tgt := 53) (by decide) ?_
          exact G9
    · replace k := k.2 q5
      refine m2_iconst hB dX12_hours_26 (v := (-1)) (by decide) ?_
      exact m2_iret h dX12_hours_27 k
  · rw [if_neg q4]
    replace k := k.2 q4
    refine m2_if_eq hB dX12_hours_12 (tgt := 26) (by decide) (fun _ => ?_) (fun q => absurd q (by decide))
    refine m2_iconst hB dX12_hours_26 (v := (-1)) (by decide) ?_
    exact m2_iret h dX12_hours_27 k
set_option maxRecDepth 100000 in
set_option maxHeartbeats 4000000 in
theorem B_X12_hours_56 {κ : Nat → List Value → List Value → m2M → Prop} {D : Nat} {Q : Option Value → m2M → Prop} (h : m2_RL κ cX12_hours RX12 4 D (some .int) Q) {v1 : Int32} {v2 : Int32} {v3 : Int32} {μ : m2M} (k : ((μ.1 kM 0) ≤ v3 → Q (some (.int ((μ.1 kM 16) + v1))) (m2_si μ kM 16 ((μ.1 kM 16) + v1))) ∧ (¬ (μ.1 kM 0) ≤ v3 → (v2 = 0 → Q (some (.int ((μ.1 kM 16) + v1))) (m2_si μ kM 16 ((μ.1 kM 16) + v1))) ∧ (¬ v2 = 0 → (vp_in v3 20) ∧ (((μ.1 kM_atNoon (v3).toNatClampNeg) = (-1) → κ 56 [.ref kM, .int v1, .int v2, .int (v3 + 1)] [] μ) ∧ (¬ (μ.1 kM_atNoon (v3).toNatClampNeg) = (-1) → κ 56 [.ref kM, .int v1, .int v2, .int (v3 + 1)] [] (m2_si μ kM_left (v3).toNatClampNeg (μ.1 kM_atNoon (v3).toNatClampNeg))))))) : κ 56 [.ref kM, .int v1, .int v2, .int v3] [] μ := by
  have hB := h.b
  refine m2_iload_n hB dX12_hours_56 rfl ?_
  refine m2_aload_n hB dX12_hours_57 rfl ?_
  refine m2_getI hB dX12_hours_58 fl_X12_153 sh_kM rfl ?_
  refine m2_icmp_ge hB dX12_hours_61 (tgt := 96) (by decide) (fun q2 : (μ.1 kM 0) ≤ v3 => ?_) (fun q2 : ¬ (μ.1 kM 0) ≤ v3 => ?_)
  · replace k := k.1 q2
    refine m2_aload_n hB dX12_hours_96 rfl ?_
    refine m2_dup hB dX12_hours_97 rfl ?_
    refine m2_getI hB dX12_hours_98 fl_X12_228 sh_kM rfl ?_
    refine m2_iload_n hB dX12_hours_101 rfl ?_
    refine m2_iadd hB dX12_hours_102 ?_
    refine m2_putI hB dX12_hours_103 fl_X12_228 sh_kM rfl ?_
    refine m2_aload_n hB dX12_hours_106 rfl ?_
    refine m2_getI hB dX12_hours_107 fl_X12_228 sh_kM rfl ?_
    exact m2_iret h dX12_hours_110 k
  · replace k := k.2 q2
    refine m2_iload_n hB dX12_hours_64 rfl ?_
    refine m2_if_eq hB dX12_hours_65 (tgt := 96) (by decide) (fun q4 : v2 = 0 => ?_) (fun q4 : ¬ v2 = 0 => ?_)
    · replace k := k.1 q4
      refine m2_aload_n hB dX12_hours_96 rfl ?_
      refine m2_dup hB dX12_hours_97 rfl ?_
      refine m2_getI hB dX12_hours_98 fl_X12_228 sh_kM rfl ?_
      refine m2_iload_n hB dX12_hours_101 rfl ?_
      refine m2_iadd hB dX12_hours_102 ?_
      refine m2_putI hB dX12_hours_103 fl_X12_228 sh_kM rfl ?_
      refine m2_aload_n hB dX12_hours_106 rfl ?_
      refine m2_getI hB dX12_hours_107 fl_X12_228 sh_kM rfl ?_
      exact m2_iret h dX12_hours_110 k
    · replace k := k.2 q4
      refine m2_aload_n hB dX12_hours_68 rfl ?_
      refine m2_getR hB dX12_hours_69 fl_X12_26 sh_kM (c1 := kM_atNoon) rfl ?_
      refine m2_iload_n hB dX12_hours_72 rfl ?_
      obtain ⟨hi5, k⟩ := k
      refine m2_iald hB dX12_hours_73 sh_kM_atNoon hi5 ?_
      refine m2_iconst hB dX12_hours_74 (v := (-1)) (by decide) ?_
      refine m2_icmp_eq hB dX12_hours_75 (tgt := 90) (by decide) (fun q7 : (μ.1 kM_atNoon (v3).toNatClampNeg) = (-1) => ?_) (fun q7 : ¬ (μ.1 kM_atNoon (v3).toNatClampNeg) = (-1) => ?_)
      · replace k := k.1 q7
        refine m2_iinc hB (ls' := [.ref kM, .int v1, .int v2, .int (v3 + 1)]) (v := (v3 + 1)) dX12_hours_90 rfl (by decide) rfl rfl ?_
        refine m2_goto hB dX12_hours_93 (tgt := 56) (by decide) ?_
        exact k
      · replace k := k.2 q7
        refine m2_aload_n hB dX12_hours_78 rfl ?_
        refine m2_getR hB dX12_hours_79 fl_X12_23 sh_kM (c1 := kM_left) rfl ?_
        refine m2_iload_n hB dX12_hours_82 rfl ?_
        refine m2_aload_n hB dX12_hours_83 rfl ?_
        refine m2_getR hB dX12_hours_84 fl_X12_26 sh_kM (c1 := kM_atNoon) rfl ?_
        refine m2_iload_n hB dX12_hours_87 rfl ?_
        have hi8 := hi5
        refine m2_iald hB dX12_hours_88 sh_kM_atNoon hi8 ?_
        have hi9 := hi5
        refine m2_iast hB dX12_hours_89 sh_kM_left hi9 ?_
        refine m2_iinc hB (ls' := [.ref kM, .int v1, .int v2, .int (v3 + 1)]) (v := (v3 + 1)) dX12_hours_90 rfl (by decide) rfl rfl ?_
        refine m2_goto hB dX12_hours_93 (tgt := 56) (by decide) ?_
        exact k
theorem dX12_go_0 : decode cX12_go 0 = .ok (.aload_n 0, 1) := by decide +kernel
theorem dX12_go_1 : decode cX12_go 1 = .ok (.getfield 29, 3) := by decide +kernel
theorem dX12_go_4 : decode cX12_go 4 = .ok (.iload_n 1, 1) := by decide +kernel
theorem dX12_go_5 : decode cX12_go 5 = .ok (.aload_n 0, 1) := by decide +kernel
theorem dX12_go_6 : decode cX12_go 6 = .ok (.iload_n 2, 1) := by decide +kernel
theorem dX12_go_7 : decode cX12_go 7 = .ok (.aload_n 0, 1) := by decide +kernel
theorem dX12_go_8 : decode cX12_go 8 = .ok (.getfield 29, 3) := by decide +kernel
theorem dX12_go_11 : decode cX12_go 11 = .ok (.iload_n 1, 1) := by decide +kernel
theorem dX12_go_12 : decode cX12_go 12 = .ok (.iaload, 1) := by decide +kernel
theorem dX12_go_13 : decode cX12_go 13 = .ok (.invokevirtual 275, 3) := by decide +kernel
theorem dX12_go_16 : decode cX12_go 16 = .ok (.iastore, 1) := by decide +kernel
theorem dX12_go_17 : decode cX12_go 17 = .ok (.aload_n 0, 1) := by decide +kernel
theorem dX12_go_18 : decode cX12_go 18 = .ok (.getfield 35, 3) := by decide +kernel
theorem dX12_go_21 : decode cX12_go 21 = .ok (.iload_n 1, 1) := by decide +kernel
theorem dX12_go_22 : decode cX12_go 22 = .ok (.baload, 1) := by decide +kernel
theorem dX12_go_23 : decode cX12_go 23 = .ok (.ifCond .ne 13, 3) := by decide +kernel
theorem dX12_go_26 : decode cX12_go 26 = .ok (.aload_n 0, 1) := by decide +kernel
theorem dX12_go_27 : decode cX12_go 27 = .ok (.getfield 23, 3) := by decide +kernel
theorem dX12_go_30 : decode cX12_go 30 = .ok (.iload_n 2, 1) := by decide +kernel
theorem dX12_go_31 : decode cX12_go 31 = .ok (.dup2, 1) := by decide +kernel
theorem dX12_go_32 : decode cX12_go 32 = .ok (.iaload, 1) := by decide +kernel
theorem dX12_go_33 : decode cX12_go 33 = .ok (.iconst 1, 1) := by decide +kernel
theorem dX12_go_34 : decode cX12_go 34 = .ok (.isub, 1) := by decide +kernel
theorem dX12_go_35 : decode cX12_go 35 = .ok (.iastore, 1) := by decide +kernel
theorem dX12_go_36 : decode cX12_go 36 = .ok (.aload_n 0, 1) := by decide +kernel
theorem dX12_go_37 : decode cX12_go 37 = .ok (.iload_n 1, 1) := by decide +kernel
theorem dX12_go_38 : decode cX12_go 38 = .ok (.invokevirtual 212, 3) := by decide +kernel
theorem dX12_go_41 : decode cX12_go 41 = .ok (.return_, 1) := by decide +kernel
set_option maxRecDepth 100000 in
set_option maxHeartbeats 4000000 in
theorem B_X12_go_0 {κ : Nat → List Value → List Value → m2M → Prop} {D : Nat} {Q : Option Value → m2M → Prop} (h : m2_RL κ cX12_go RX12 3 (D + 1) none Q) (hD : 0 ≤ D) {x1 : Int32} {x2 : Int32} {μ : m2M} (k : (vp_in x1 8) ∧ ((vp_in x2 20) ∧ ((¬ (μ.1 kM_isStranger (x1).toNatClampNeg) = 0 → ∃ Q12 : Option Value → m2M → Prop, m2_MT D yX12_arrive cX12_arrive 2 none [.ref kM, .int x1] (m2_si μ kM_where (x1).toNatClampNeg (fX12_beyond x2 (μ.1 kM_where (x1).toNatClampNeg) μ)) Q12 ∧ ∀ (μ11 : m2M), Q12 none μ11 → (Q none μ11)) ∧ ((μ.1 kM_isStranger (x1).toNatClampNeg) = 0 → ∃ Q19 : Option Value → m2M → Prop, m2_MT D yX12_arrive cX12_arrive 2 none [.ref kM, .int x1] (m2_si (m2_si μ kM_where (x1).toNatClampNeg (fX12_beyond x2 (μ.1 kM_where (x1).toNatClampNeg) μ)) kM_left (x2).toNatClampNeg ((μ.1 kM_left (x2).toNatClampNeg) - 1)) Q19 ∧ ∀ (μ18 : m2M), Q19 none μ18 → (Q none μ18))))) : κ 0 [.ref kM, .int x1, .int x2] [] μ := by
  have hB := h.b
  refine m2_aload_n hB dX12_go_0 rfl ?_
  refine m2_getR hB dX12_go_1 fl_X12_29 sh_kM (c1 := kM_where) rfl ?_
  refine m2_iload_n hB dX12_go_4 rfl ?_
  refine m2_aload_n hB dX12_go_5 rfl ?_
  refine m2_iload_n hB dX12_go_6 rfl ?_
  refine m2_aload_n hB dX12_go_7 rfl ?_
  refine m2_getR hB dX12_go_8 fl_X12_29 sh_kM (c1 := kM_where) rfl ?_
  refine m2_iload_n hB dX12_go_11 rfl ?_
  obtain ⟨hi1, k⟩ := k
  refine m2_iald hB dX12_go_12 sh_kM_where hi1 ?_
  obtain ⟨hs2, k⟩ := k
  refine m2_invi hB (as := [.int x2, .int (μ.1 kM_where (x1).toNatClampNeg)]) dX12_go_13 mv_X12_275 rfl sh_kM rfl (Nat.le_of_ble_eq_true rfl) rfl (P_X12_beyond (by omega) (x2) ((μ.1 kM_where (x1).toNatClampNeg)) _ hs2) (fun y3 μ4 hq5 => ?_)
  obtain ⟨⟨⟩, hq5⟩ := hq5
  subst μ4
  have hi6 := hi1
  refine m2_iast hB dX12_go_16 sh_kM_where hi6 ?_
  refine m2_aload_n hB dX12_go_17 rfl ?_
  refine m2_getR hB dX12_go_18 fl_X12_35 sh_kM (c1 := kM_isStranger) rfl ?_
  refine m2_iload_n hB dX12_go_21 rfl ?_
  have hi7 := hi1
  refine m2_zald hB dX12_go_22 sh_kM_isStranger hi7 ?_
  refine m2_if_ne hB dX12_go_23 (tgt := 36) (by decide) (fun q9 : ¬ (μ.1 kM_isStranger (x1).toNatClampNeg) = 0 => ?_) (fun q9 : (μ.1 kM_isStranger (x1).toNatClampNeg) = 0 => ?_)
  · replace k := k.1 q9
    refine m2_aload_n hB dX12_go_36 rfl ?_
    refine m2_iload_n hB dX12_go_37 rfl ?_
    obtain ⟨Q12, hM13, k⟩ := k
    refine m2_invv hB (as := [.int x1]) dX12_go_38 mv_X12_212 rfl sh_kM rfl (Nat.le_of_ble_eq_true rfl) rfl hM13 (fun μ11 hq14 => ?_)
    replace k := k μ11 hq14
    exact m2_vret h dX12_go_41 k
  · replace k := k.2 q9
    refine m2_aload_n hB dX12_go_26 rfl ?_
    refine m2_getR hB dX12_go_27 fl_X12_23 sh_kM (c1 := kM_left) rfl ?_
    refine m2_iload_n hB dX12_go_30 rfl ?_
    refine m2_dup2 hB dX12_go_31 rfl rfl ?_
    have hi15 := hs2
    refine m2_iald hB dX12_go_32 sh_kM_left hi15 ?_
    refine m2_iconst hB dX12_go_33 (v := 1) (by decide) ?_
    refine m2_isub hB dX12_go_34 ?_
    have hi16 := hs2
    refine m2_iast hB dX12_go_35 sh_kM_left hi16 ?_
    refine m2_aload_n hB dX12_go_36 rfl ?_
    refine m2_iload_n hB dX12_go_37 rfl ?_
    obtain ⟨Q19, hM20, k⟩ := k
    refine m2_invv hB (as := [.int x1]) dX12_go_38 mv_X12_212 rfl sh_kM rfl (Nat.le_of_ble_eq_true rfl) rfl hM20 (fun μ18 hq21 => ?_)
    replace k := k μ18 hq21
    exact m2_vret h dX12_go_41 k
theorem dX12_pass_0 : decode cX12_pass 0 = .ok (.aload_n 0, 1) := by decide +kernel
theorem dX12_pass_1 : decode cX12_pass 1 = .ok (.iconst 0, 1) := by decide +kernel
theorem dX12_pass_2 : decode cX12_pass 2 = .ok (.putfield 143, 3) := by decide +kernel
theorem dX12_pass_5 : decode cX12_pass 5 = .ok (.aload_n 0, 1) := by decide +kernel
theorem dX12_pass_6 : decode cX12_pass 6 = .ok (.iload_n 1, 1) := by decide +kernel
theorem dX12_pass_7 : decode cX12_pass 7 = .ok (.invokevirtual 295, 3) := by decide +kernel
theorem dX12_pass_10 : decode cX12_pass 10 = .ok (.ifCond .eq 11, 3) := by decide +kernel
theorem dX12_pass_13 : decode cX12_pass 13 = .ok (.aload_n 0, 1) := by decide +kernel
theorem dX12_pass_14 : decode cX12_pass 14 = .ok (.iload_n 2, 1) := by decide +kernel
theorem dX12_pass_15 : decode cX12_pass 15 = .ok (.invokevirtual 288, 3) := by decide +kernel
theorem dX12_pass_18 : decode cX12_pass 18 = .ok (.ifCond .ne 5, 3) := by decide +kernel
theorem dX12_pass_21 : decode cX12_pass 21 = .ok (.iconst (-1), 1) := by decide +kernel
theorem dX12_pass_22 : decode cX12_pass 22 = .ok (.ireturn, 1) := by decide +kernel
theorem dX12_pass_23 : decode cX12_pass 23 = .ok (.aload_n 0, 1) := by decide +kernel
theorem dX12_pass_24 : decode cX12_pass 24 = .ok (.iload_n 2, 1) := by decide +kernel
theorem dX12_pass_25 : decode cX12_pass 25 = .ok (.aload_n 0, 1) := by decide +kernel
theorem dX12_pass_26 : decode cX12_pass 26 = .ok (.getfield 29, 3) := by decide +kernel
theorem dX12_pass_29 : decode cX12_pass 29 = .ok (.iload_n 1, 1) := by decide +kernel
theorem dX12_pass_30 : decode cX12_pass 30 = .ok (.iaload, 1) := by decide +kernel
theorem dX12_pass_31 : decode cX12_pass 31 = .ok (.invokevirtual 275, 3) := by decide +kernel
theorem dX12_pass_34 : decode cX12_pass 34 = .ok (.iconst (-1), 1) := by decide +kernel
theorem dX12_pass_35 : decode cX12_pass 35 = .ok (.if_icmp .eq 12, 3) := by decide +kernel
theorem dX12_pass_38 : decode cX12_pass 38 = .ok (.aload_n 0, 1) := by decide +kernel
theorem dX12_pass_39 : decode cX12_pass 39 = .ok (.getfield 23, 3) := by decide +kernel
theorem dX12_pass_42 : decode cX12_pass 42 = .ok (.iload_n 2, 1) := by decide +kernel
theorem dX12_pass_43 : decode cX12_pass 43 = .ok (.iaload, 1) := by decide +kernel
theorem dX12_pass_44 : decode cX12_pass 44 = .ok (.ifCond .ne 6, 3) := by decide +kernel
theorem dX12_pass_47 : decode cX12_pass 47 = .ok (.bipush (-2), 2) := by decide +kernel
theorem dX12_pass_49 : decode cX12_pass 49 = .ok (.ireturn, 1) := by decide +kernel
theorem dX12_pass_50 : decode cX12_pass 50 = .ok (.aload_n 0, 1) := by decide +kernel
theorem dX12_pass_51 : decode cX12_pass 51 = .ok (.iload_n 1, 1) := by decide +kernel
theorem dX12_pass_52 : decode cX12_pass 52 = .ok (.iload_n 2, 1) := by decide +kernel
theorem dX12_pass_53 : decode cX12_pass 53 = .ok (.invokevirtual 298, 3) := by decide +kernel
theorem dX12_pass_56 : decode cX12_pass 56 = .ok (.aload_n 0, 1) := by decide +kernel
theorem dX12_pass_57 : decode cX12_pass 57 = .ok (.getfield 23, 3) := by decide +kernel
theorem dX12_pass_60 : decode cX12_pass 60 = .ok (.iload_n 2, 1) := by decide +kernel
theorem dX12_pass_61 : decode cX12_pass 61 = .ok (.iaload, 1) := by decide +kernel
theorem dX12_pass_62 : decode cX12_pass 62 = .ok (.ireturn, 1) := by decide +kernel
set_option maxRecDepth 100000 in
set_option maxHeartbeats 4000000 in
theorem B_X12_pass_0 {κ : Nat → List Value → List Value → m2M → Prop} {D : Nat} {Q : Option Value → m2M → Prop} (h : m2_RL κ cX12_pass RX12 3 (D + 1) (some .int) Q) (hD : 1 ≤ D) {x1 : Int32} {x2 : Int32} {μ : m2M} (k : ((fX12_isOne x1 (m2_si μ kM 22 0)) = 1 → ((fX12_isDoor x2 (m2_si μ kM 22 0)) = 1 → (vp_in x1 8) ∧ ((vp_in x2 20) ∧ (((fX12_beyond x2 (μ.1 kM_where (x1).toNatClampNeg) (m2_si μ kM 22 0)) = (-1) → Q (some (.int (-2))) (m2_si μ kM 22 0)) ∧ (¬ (fX12_beyond x2 (μ.1 kM_where (x1).toNatClampNeg) (m2_si μ kM 22 0)) = (-1) → (¬ (μ.1 kM_left (x2).toNatClampNeg) = 0 → ∃ Q19 : Option Value → m2M → Prop, m2_MT D yX12_go cX12_go 3 none [.ref kM, .int x1, .int x2] (m2_si μ kM 22 0) Q19 ∧ ∀ (μ18 : m2M), Q19 none μ18 → (Q (some (.int (μ18.1 kM_left (x2).toNatClampNeg))) μ18)) ∧ ((μ.1 kM_left (x2).toNatClampNeg) = 0 → Q (some (.int (-2))) (m2_si μ kM 22 0)))))) ∧ (¬ (fX12_isDoor x2 (m2_si μ kM 22 0)) = 1 → Q (some (.int (-1))) (m2_si μ kM 22 0))) ∧ (¬ (fX12_isOne x1 (m2_si μ kM 22 0)) = 1 → Q (some (.int (-1))) (m2_si μ kM 22 0))) : κ 0 [.ref kM, .int x1, .int x2] [] μ := by
  have hB := h.b
  refine m2_aload_n hB dX12_pass_0 rfl ?_
  refine m2_iconst hB dX12_pass_1 (v := 0) (by decide) ?_
  refine m2_putI hB dX12_pass_2 fl_X12_143 sh_kM rfl ?_
  refine m2_aload_n hB dX12_pass_5 rfl ?_
  refine m2_iload_n hB dX12_pass_6 rfl ?_
  refine m2_invz hB (as := [.int x1]) dX12_pass_7 mv_X12_295 rfl sh_kM rfl (Nat.le_of_ble_eq_true rfl) rfl (P_X12_isOne (by omega) (x1) _ ) (fun y1 μ2 hq3 => ?_)
  obtain ⟨⟨⟩, hq3⟩ := hq3
  subst μ2
  show κ 10 [.ref kM, .int x1, .int x2] [.int (if (fX12_isOne x1 (m2_si μ kM 22 0)) = 1 then 1 else 0 : Int32)] (m2_si μ kM 22 0)
  by_cases q4 : (fX12_isOne x1 (m2_si μ kM 22 0)) = 1
  · rw [if_pos q4]
    replace k := k.1 q4
    refine m2_if_eq hB dX12_pass_10 (tgt := 21) (by decide) (fun q => absurd q (by decide)) (fun _ => ?_)
    refine m2_aload_n hB dX12_pass_13 rfl ?_
    refine m2_iload_n hB dX12_pass_14 rfl ?_
    refine m2_invz hB (as := [.int x2]) dX12_pass_15 mv_X12_288 rfl sh_kM rfl (Nat.le_of_ble_eq_true rfl) rfl (P_X12_isDoor (by omega) (x2) _ ) (fun y5 μ6 hq7 => ?_)
    obtain ⟨⟨⟩, hq7⟩ := hq7
    subst μ6
    show κ 18 [.ref kM, .int x1, .int x2] [.int (if (fX12_isDoor x2 (m2_si μ kM 22 0)) = 1 then 1 else 0 : Int32)] (m2_si μ kM 22 0)
    by_cases q8 : (fX12_isDoor x2 (m2_si μ kM 22 0)) = 1
    · rw [if_pos q8]
      replace k := k.1 q8
      refine m2_if_ne hB dX12_pass_18 (tgt := 23) (by decide) (fun _ => ?_) (fun q => absurd q (by decide))
      refine m2_aload_n hB dX12_pass_23 rfl ?_
      refine m2_iload_n hB dX12_pass_24 rfl ?_
      refine m2_aload_n hB dX12_pass_25 rfl ?_
      refine m2_getR hB dX12_pass_26 fl_X12_29 sh_kM (c1 := kM_where) rfl ?_
      refine m2_iload_n hB dX12_pass_29 rfl ?_
      obtain ⟨hi9, k⟩ := k
      refine m2_iald hB dX12_pass_30 sh_kM_where hi9 ?_
      obtain ⟨hs10, k⟩ := k
      refine m2_invi hB (as := [.int x2, .int (μ.1 kM_where (x1).toNatClampNeg)]) dX12_pass_31 mv_X12_275 rfl sh_kM rfl (Nat.le_of_ble_eq_true rfl) rfl (P_X12_beyond (by omega) (x2) ((μ.1 kM_where (x1).toNatClampNeg)) _ hs10) (fun y11 μ12 hq13 => ?_)
      obtain ⟨⟨⟩, hq13⟩ := hq13
      subst μ12
      refine m2_iconst hB dX12_pass_34 (v := (-1)) (by decide) ?_
      refine m2_icmp_eq hB dX12_pass_35 (tgt := 47) (by decide) (fun q14 : (fX12_beyond x2 (μ.1 kM_where (x1).toNatClampNeg) (m2_si μ kM 22 0)) = (-1) => ?_) (fun q14 : ¬ (fX12_beyond x2 (μ.1 kM_where (x1).toNatClampNeg) (m2_si μ kM 22 0)) = (-1) => ?_)
      · replace k := k.1 q14
        refine m2_bipush hB dX12_pass_47 (v := (-2)) (by decide) ?_
        exact m2_iret h dX12_pass_49 k
      · replace k := k.2 q14
        refine m2_aload_n hB dX12_pass_38 rfl ?_
        refine m2_getR hB dX12_pass_39 fl_X12_23 sh_kM (c1 := kM_left) rfl ?_
        refine m2_iload_n hB dX12_pass_42 rfl ?_
        have hi15 := hs10
        refine m2_iald hB dX12_pass_43 sh_kM_left hi15 ?_
        refine m2_if_ne hB dX12_pass_44 (tgt := 50) (by decide) (fun q16 : ¬ (μ.1 kM_left (x2).toNatClampNeg) = 0 => ?_) (fun q16 : (μ.1 kM_left (x2).toNatClampNeg) = 0 => ?_)
        · replace k := k.1 q16
          refine m2_aload_n hB dX12_pass_50 rfl ?_
          refine m2_iload_n hB dX12_pass_51 rfl ?_
          refine m2_iload_n hB dX12_pass_52 rfl ?_
          obtain ⟨Q19, hM20, k⟩ := k
          refine m2_invv hB (as := [.int x1, .int x2]) dX12_pass_53 mv_X12_298 rfl sh_kM rfl (Nat.le_of_ble_eq_true rfl) rfl hM20 (fun μ18 hq21 => ?_)
          replace k := k μ18 hq21
          refine m2_aload_n hB dX12_pass_56 rfl ?_
          refine m2_getR hB dX12_pass_57 fl_X12_23 sh_kM (c1 := kM_left) rfl ?_
          refine m2_iload_n hB dX12_pass_60 rfl ?_
          have hi22 := hs10
          refine m2_iald hB dX12_pass_61 sh_kM_left hi22 ?_
          exact m2_iret h dX12_pass_62 k
        · replace k := k.2 q16
          refine m2_bipush hB dX12_pass_47 (v := (-2)) (by decide) ?_
          exact m2_iret h dX12_pass_49 k
    · rw [if_neg q8]
      replace k := k.2 q8
      refine m2_if_ne hB dX12_pass_18 (tgt := 23) (by decide) (fun q => absurd q (by decide)) (fun _ => ?_)
      refine m2_iconst hB dX12_pass_21 (v := (-1)) (by decide) ?_
      exact m2_iret h dX12_pass_22 k
  · rw [if_neg q4]
    replace k := k.2 q4
    refine m2_if_eq hB dX12_pass_10 (tgt := 21) (by decide) (fun _ => ?_) (fun q => absurd q (by decide))
    refine m2_iconst hB dX12_pass_21 (v := (-1)) (by decide) ?_
    exact m2_iret h dX12_pass_22 k
theorem dX12_way_0 : decode cX12_way 0 = .ok (.aload_n 0, 1) := by decide +kernel
theorem dX12_way_1 : decode cX12_way 1 = .ok (.iconst 0, 1) := by decide +kernel
theorem dX12_way_2 : decode cX12_way 2 = .ok (.putfield 143, 3) := by decide +kernel
theorem dX12_way_5 : decode cX12_way 5 = .ok (.aload_n 0, 1) := by decide +kernel
theorem dX12_way_6 : decode cX12_way 6 = .ok (.iload_n 1, 1) := by decide +kernel
theorem dX12_way_7 : decode cX12_way 7 = .ok (.invokevirtual 295, 3) := by decide +kernel
theorem dX12_way_10 : decode cX12_way 10 = .ok (.ifCond .eq 10, 3) := by decide +kernel
theorem dX12_way_13 : decode cX12_way 13 = .ok (.iload_n 2, 1) := by decide +kernel
theorem dX12_way_14 : decode cX12_way 14 = .ok (.invokestatic 302, 3) := by decide +kernel
theorem dX12_way_17 : decode cX12_way 17 = .ok (.ifCond .ne 5, 3) := by decide +kernel
theorem dX12_way_20 : decode cX12_way 20 = .ok (.iconst (-1), 1) := by decide +kernel
theorem dX12_way_21 : decode cX12_way 21 = .ok (.ireturn, 1) := by decide +kernel
theorem dX12_way_22 : decode cX12_way 22 = .ok (.aload_n 0, 1) := by decide +kernel
theorem dX12_way_23 : decode cX12_way 23 = .ok (.aload_n 0, 1) := by decide +kernel
theorem dX12_way_24 : decode cX12_way 24 = .ok (.getfield 29, 3) := by decide +kernel
theorem dX12_way_27 : decode cX12_way 27 = .ok (.iload_n 1, 1) := by decide +kernel
theorem dX12_way_28 : decode cX12_way 28 = .ok (.iaload, 1) := by decide +kernel
theorem dX12_way_29 : decode cX12_way 29 = .ok (.iload_n 2, 1) := by decide +kernel
theorem dX12_way_30 : decode cX12_way 30 = .ok (.invokevirtual 305, 3) := by decide +kernel
theorem dX12_way_33 : decode cX12_way 33 = .ok (.ifCond .ne 6, 3) := by decide +kernel
theorem dX12_way_36 : decode cX12_way 36 = .ok (.bipush (-2), 2) := by decide +kernel
theorem dX12_way_38 : decode cX12_way 38 = .ok (.ireturn, 1) := by decide +kernel
theorem dX12_way_39 : decode cX12_way 39 = .ok (.aload_n 0, 1) := by decide +kernel
theorem dX12_way_40 : decode cX12_way 40 = .ok (.iconst 0, 1) := by decide +kernel
theorem dX12_way_41 : decode cX12_way 41 = .ok (.putfield 146, 3) := by decide +kernel
theorem dX12_way_44 : decode cX12_way 44 = .ok (.aload_n 0, 1) := by decide +kernel
theorem dX12_way_45 : decode cX12_way 45 = .ok (.invokevirtual 308, 3) := by decide +kernel
theorem dX12_way_48 : decode cX12_way 48 = .ok (.aload_n 0, 1) := by decide +kernel
theorem dX12_way_49 : decode cX12_way 49 = .ok (.getfield 248, 3) := by decide +kernel
theorem dX12_way_52 : decode cX12_way 52 = .ok (.ireturn, 1) := by decide +kernel
set_option maxRecDepth 100000 in
set_option maxHeartbeats 4000000 in
theorem B_X12_way_0 {κ : Nat → List Value → List Value → m2M → Prop} {D : Nat} {Q : Option Value → m2M → Prop} (h : m2_RL κ cX12_way RX12 3 (D + 1) (some .int) Q) (hD : 1 ≤ D) {x1 : Int32} {x2 : Int32} {μ : m2M} (k : ((fX12_isOne x1 (m2_si μ kM 22 0)) = 1 → ((fX12_isRoom x2) = 1 → (vp_in x1 8) ∧ (∃ Q12 : Option Value → m2M → Prop, m2_MT D yX12_findOpenWay cX12_findOpenWay 4 (some .boolean) [.ref kM, .int (μ.1 kM_where (x1).toNatClampNeg), .int x2] (m2_si μ kM 22 0) Q12 ∧ ∀ (y10 : Int32) (μ11 : m2M), Q12 (some (.int y10)) μ11 → ((¬ y10 = 0 → ∃ Q18 : Option Value → m2M → Prop, m2_MT D yX12_tellWay cX12_tellWay 2 none [.ref kM] (m2_si μ11 kM 21 0) Q18 ∧ ∀ (μ17 : m2M), Q18 none μ17 → (Q (some (.int (μ17.1 kM 37))) μ17)) ∧ (y10 = 0 → Q (some (.int (-2))) μ11)))) ∧ (¬ (fX12_isRoom x2) = 1 → Q (some (.int (-1))) (m2_si μ kM 22 0))) ∧ (¬ (fX12_isOne x1 (m2_si μ kM 22 0)) = 1 → Q (some (.int (-1))) (m2_si μ kM 22 0))) : κ 0 [.ref kM, .int x1, .int x2] [] μ := by
  have hB := h.b
  refine m2_aload_n hB dX12_way_0 rfl ?_
  refine m2_iconst hB dX12_way_1 (v := 0) (by decide) ?_
  refine m2_putI hB dX12_way_2 fl_X12_143 sh_kM rfl ?_
  refine m2_aload_n hB dX12_way_5 rfl ?_
  refine m2_iload_n hB dX12_way_6 rfl ?_
  refine m2_invz hB (as := [.int x1]) dX12_way_7 mv_X12_295 rfl sh_kM rfl (Nat.le_of_ble_eq_true rfl) rfl (P_X12_isOne (by omega) (x1) _ ) (fun y1 μ2 hq3 => ?_)
  obtain ⟨⟨⟩, hq3⟩ := hq3
  subst μ2
  show κ 10 [.ref kM, .int x1, .int x2] [.int (if (fX12_isOne x1 (m2_si μ kM 22 0)) = 1 then 1 else 0 : Int32)] (m2_si μ kM 22 0)
  by_cases q4 : (fX12_isOne x1 (m2_si μ kM 22 0)) = 1
  · rw [if_pos q4]
    replace k := k.1 q4
    refine m2_if_eq hB dX12_way_10 (tgt := 20) (by decide) (fun q => absurd q (by decide)) (fun _ => ?_)
    refine m2_iload_n hB dX12_way_13 rfl ?_
    refine m2_invSz hB (as := [.int x2]) dX12_way_14 ms_X12_302 rfl (Nat.le_of_ble_eq_true rfl) rfl (P_X12_isRoom (by omega) (x2) _ ) (fun y5 μ6 hq7 => ?_)
    obtain ⟨⟨⟩, hq7⟩ := hq7
    subst μ6
    show κ 17 [.ref kM, .int x1, .int x2] [.int (if (fX12_isRoom x2) = 1 then 1 else 0 : Int32)] (m2_si μ kM 22 0)
    by_cases q8 : (fX12_isRoom x2) = 1
    · rw [if_pos q8]
      replace k := k.1 q8
      refine m2_if_ne hB dX12_way_17 (tgt := 22) (by decide) (fun _ => ?_) (fun q => absurd q (by decide))
      refine m2_aload_n hB dX12_way_22 rfl ?_
      refine m2_aload_n hB dX12_way_23 rfl ?_
      refine m2_getR hB dX12_way_24 fl_X12_29 sh_kM (c1 := kM_where) rfl ?_
      refine m2_iload_n hB dX12_way_27 rfl ?_
      obtain ⟨hi9, k⟩ := k
      refine m2_iald hB dX12_way_28 sh_kM_where hi9 ?_
      refine m2_iload_n hB dX12_way_29 rfl ?_
      obtain ⟨Q12, hM13, k⟩ := k
      refine m2_invz hB (as := [.int (μ.1 kM_where (x1).toNatClampNeg), .int x2]) dX12_way_30 mv_X12_305 rfl sh_kM rfl (Nat.le_of_ble_eq_true rfl) rfl hM13 (fun y10 μ11 hq14 => ?_)
      replace k := k y10 μ11 hq14
      refine m2_if_ne hB dX12_way_33 (tgt := 39) (by decide) (fun q15 : ¬ y10 = 0 => ?_) (fun q15 : y10 = 0 => ?_)
      · replace k := k.1 q15
        refine m2_aload_n hB dX12_way_39 rfl ?_
        refine m2_iconst hB dX12_way_40 (v := 0) (by decide) ?_
        refine m2_putI hB dX12_way_41 fl_X12_146 sh_kM rfl ?_
        refine m2_aload_n hB dX12_way_44 rfl ?_
        obtain ⟨Q18, hM19, k⟩ := k
        refine m2_invv hB (as := []) dX12_way_45 mv_X12_308 rfl sh_kM rfl (Nat.le_of_ble_eq_true rfl) rfl hM19 (fun μ17 hq20 => ?_)
        replace k := k μ17 hq20
        refine m2_aload_n hB dX12_way_48 rfl ?_
        refine m2_getI hB dX12_way_49 fl_X12_248 sh_kM rfl ?_
        exact m2_iret h dX12_way_52 k
      · replace k := k.2 q15
        refine m2_bipush hB dX12_way_36 (v := (-2)) (by decide) ?_
        exact m2_iret h dX12_way_38 k
    · rw [if_neg q8]
      replace k := k.2 q8
      refine m2_if_ne hB dX12_way_17 (tgt := 22) (by decide) (fun q => absurd q (by decide)) (fun _ => ?_)
      refine m2_iconst hB dX12_way_20 (v := (-1)) (by decide) ?_
      exact m2_iret h dX12_way_21 k
  · rw [if_neg q4]
    replace k := k.2 q4
    refine m2_if_eq hB dX12_way_10 (tgt := 20) (by decide) (fun _ => ?_) (fun q => absurd q (by decide))
    refine m2_iconst hB dX12_way_20 (v := (-1)) (by decide) ?_
    exact m2_iret h dX12_way_21 k
theorem dX12_may_0 : decode cX12_may 0 = .ok (.aload_n 0, 1) := by decide +kernel
theorem dX12_may_1 : decode cX12_may 1 = .ok (.iconst 0, 1) := by decide +kernel
theorem dX12_may_2 : decode cX12_may 2 = .ok (.putfield 143, 3) := by decide +kernel
theorem dX12_may_5 : decode cX12_may 5 = .ok (.aload_n 0, 1) := by decide +kernel
theorem dX12_may_6 : decode cX12_may 6 = .ok (.iload_n 1, 1) := by decide +kernel
theorem dX12_may_7 : decode cX12_may 7 = .ok (.invokevirtual 295, 3) := by decide +kernel
theorem dX12_may_10 : decode cX12_may 10 = .ok (.ifCond .ne 5, 3) := by decide +kernel
theorem dX12_may_13 : decode cX12_may 13 = .ok (.iconst (-1), 1) := by decide +kernel
theorem dX12_may_14 : decode cX12_may 14 = .ok (.ireturn, 1) := by decide +kernel
theorem dX12_may_15 : decode cX12_may 15 = .ok (.iconst 0, 1) := by decide +kernel
theorem dX12_may_16 : decode cX12_may 16 = .ok (.istore_n 2, 1) := by decide +kernel
theorem dX12_may_17 : decode cX12_may 17 = .ok (.iconst 0, 1) := by decide +kernel
theorem dX12_may_18 : decode cX12_may 18 = .ok (.istore_n 3, 1) := by decide +kernel
theorem dX12_may_19 : decode cX12_may 19 = .ok (.iload_n 3, 1) := by decide +kernel
theorem dX12_may_20 : decode cX12_may 20 = .ok (.bipush 12, 2) := by decide +kernel
theorem dX12_may_22 : decode cX12_may 22 = .ok (.if_icmp .ge 33, 3) := by decide +kernel
theorem dX12_may_25 : decode cX12_may 25 = .ok (.iload_n 2, 1) := by decide +kernel
theorem dX12_may_26 : decode cX12_may 26 = .ok (.aload_n 0, 1) := by decide +kernel
theorem dX12_may_27 : decode cX12_may 27 = .ok (.aload_n 0, 1) := by decide +kernel
theorem dX12_may_28 : decode cX12_may 28 = .ok (.getfield 29, 3) := by decide +kernel
theorem dX12_may_31 : decode cX12_may 31 = .ok (.iload_n 1, 1) := by decide +kernel
theorem dX12_may_32 : decode cX12_may 32 = .ok (.iaload, 1) := by decide +kernel
theorem dX12_may_33 : decode cX12_may 33 = .ok (.iload_n 3, 1) := by decide +kernel
theorem dX12_may_34 : decode cX12_may 34 = .ok (.invokevirtual 305, 3) := by decide +kernel
theorem dX12_may_37 : decode cX12_may 37 = .ok (.ifCond .eq 9, 3) := by decide +kernel
theorem dX12_may_40 : decode cX12_may 40 = .ok (.iconst 1, 1) := by decide +kernel
theorem dX12_may_41 : decode cX12_may 41 = .ok (.iload_n 3, 1) := by decide +kernel
theorem dX12_may_42 : decode cX12_may 42 = .ok (.ishl, 1) := by decide +kernel
theorem dX12_may_43 : decode cX12_may 43 = .ok (.goto 4, 3) := by decide +kernel
theorem dX12_may_46 : decode cX12_may 46 = .ok (.iconst 0, 1) := by decide +kernel
theorem dX12_may_47 : decode cX12_may 47 = .ok (.ior, 1) := by decide +kernel
theorem dX12_may_48 : decode cX12_may 48 = .ok (.istore_n 2, 1) := by decide +kernel
theorem dX12_may_49 : decode cX12_may 49 = .ok (.iinc 3 1, 3) := by decide +kernel
theorem dX12_may_52 : decode cX12_may 52 = .ok (.goto (-33), 3) := by decide +kernel
theorem dX12_may_55 : decode cX12_may 55 = .ok (.iload_n 2, 1) := by decide +kernel
theorem dX12_may_56 : decode cX12_may 56 = .ok (.ireturn, 1) := by decide +kernel
set_option maxRecDepth 100000 in
set_option maxHeartbeats 4000000 in
theorem B_X12_may_0 {κ : Nat → List Value → List Value → m2M → Prop} {D : Nat} {Q : Option Value → m2M → Prop} (h : m2_RL κ cX12_may RX12 4 (D + 1) (some .int) Q) (hD : 1 ≤ D) {x1 : Int32} {μ : m2M} (k : ((fX12_isOne x1 (m2_si μ kM 22 0)) = 1 → κ 19 [.ref kM, .int x1, .int 0, .int 0] [] (m2_si μ kM 22 0)) ∧ (¬ (fX12_isOne x1 (m2_si μ kM 22 0)) = 1 → Q (some (.int (-1))) (m2_si μ kM 22 0))) : κ 0 [.ref kM, .int x1, .null, .null] [] μ := by
  have hB := h.b
  refine m2_aload_n hB dX12_may_0 rfl ?_
  refine m2_iconst hB dX12_may_1 (v := 0) (by decide) ?_
  refine m2_putI hB dX12_may_2 fl_X12_143 sh_kM rfl ?_
  refine m2_aload_n hB dX12_may_5 rfl ?_
  refine m2_iload_n hB dX12_may_6 rfl ?_
  refine m2_invz hB (as := [.int x1]) dX12_may_7 mv_X12_295 rfl sh_kM rfl (Nat.le_of_ble_eq_true rfl) rfl (P_X12_isOne (by omega) (x1) _ ) (fun y1 μ2 hq3 => ?_)
  obtain ⟨⟨⟩, hq3⟩ := hq3
  subst μ2
  show κ 10 [.ref kM, .int x1, .null, .null] [.int (if (fX12_isOne x1 (m2_si μ kM 22 0)) = 1 then 1 else 0 : Int32)] (m2_si μ kM 22 0)
  by_cases q4 : (fX12_isOne x1 (m2_si μ kM 22 0)) = 1
  · rw [if_pos q4]
    replace k := k.1 q4
    refine m2_if_ne hB dX12_may_10 (tgt := 15) (by decide) (fun _ => ?_) (fun q => absurd q (by decide))
    refine m2_iconst hB dX12_may_15 (v := 0) (by decide) ?_
    refine m2_istore_n hB (ls' := [.ref kM, .int x1, .int 0, .null]) dX12_may_16 rfl (by decide) rfl ?_
    refine m2_iconst hB dX12_may_17 (v := 0) (by decide) ?_
    refine m2_istore_n hB (ls' := [.ref kM, .int x1, .int 0, .int 0]) dX12_may_18 rfl (by decide) rfl ?_
    exact k
  · rw [if_neg q4]
    replace k := k.2 q4
    refine m2_if_ne hB dX12_may_10 (tgt := 15) (by decide) (fun q => absurd q (by decide)) (fun _ => ?_)
    refine m2_iconst hB dX12_may_13 (v := (-1)) (by decide) ?_
    exact m2_iret h dX12_may_14 k
set_option maxRecDepth 100000 in
set_option maxHeartbeats 4000000 in
theorem B_X12_may_19 {κ : Nat → List Value → List Value → m2M → Prop} {D : Nat} {Q : Option Value → m2M → Prop} (h : m2_RL κ cX12_may RX12 4 (D + 1) (some .int) Q) {v1 : Int32} {v2 : Int32} {v3 : Int32} {μ : m2M} (k : (12 ≤ v3 → Q (some (.int v2)) μ) ∧ (¬ 12 ≤ v3 → (vp_in v1 8) ∧ (∃ Q6 : Option Value → m2M → Prop, m2_MT D yX12_findOpenWay cX12_findOpenWay 4 (some .boolean) [.ref kM, .int (μ.1 kM_where (v1).toNatClampNeg), .int v3] μ Q6 ∧ ∀ (y4 : Int32) (μ5 : m2M), Q6 (some (.int y4)) μ5 → (κ 19 [.ref kM, .int v1, .int (v2 ||| (if y4 = 0 then 0 else ((1 : Int32) <<< (v3 &&& 31)) : Int32)), .int (v3 + 1)] [] μ5)))) : κ 19 [.ref kM, .int v1, .int v2, .int v3] [] μ := by
  have hB := h.b
  refine m2_iload_n hB dX12_may_19 rfl ?_
  refine m2_bipush hB dX12_may_20 (v := 12) (by decide) ?_
  refine m2_icmp_ge hB dX12_may_22 (tgt := 55) (by decide) (fun q2 : 12 ≤ v3 => ?_) (fun q2 : ¬ 12 ≤ v3 => ?_)
  · replace k := k.1 q2
    refine m2_iload_n hB dX12_may_55 rfl ?_
    exact m2_iret h dX12_may_56 k
  · replace k := k.2 q2
    refine m2_iload_n hB dX12_may_25 rfl ?_
    refine m2_aload_n hB dX12_may_26 rfl ?_
    refine m2_aload_n hB dX12_may_27 rfl ?_
    refine m2_getR hB dX12_may_28 fl_X12_29 sh_kM (c1 := kM_where) rfl ?_
    refine m2_iload_n hB dX12_may_31 rfl ?_
    obtain ⟨hi3, k⟩ := k
    refine m2_iald hB dX12_may_32 sh_kM_where hi3 ?_
    refine m2_iload_n hB dX12_may_33 rfl ?_
    obtain ⟨Q6, hM7, k⟩ := k
    refine m2_invz hB (as := [.int (μ.1 kM_where (v1).toNatClampNeg), .int v3]) dX12_may_34 mv_X12_305 rfl sh_kM rfl (Nat.le_of_ble_eq_true rfl) rfl hM7 (fun y4 μ5 hq8 => ?_)
    replace k := k y4 μ5 hq8
    have G10 : κ 47 [.ref kM, .int v1, .int v2, .int v3] [.int (if y4 = 0 then 0 else ((1 : Int32) <<< (v3 &&& 31)) : Int32), .int v2] μ5 := by
      refine m2_ior hB dX12_may_47 ?_
      refine m2_istore_n hB (ls' := [.ref kM, .int v1, .int (v2 ||| (if y4 = 0 then 0 else ((1 : Int32) <<< (v3 &&& 31)) : Int32)), .int v3]) dX12_may_48 rfl (by decide) rfl ?_
      refine m2_iinc hB (ls' := [.ref kM, .int v1, .int (v2 ||| (if y4 = 0 then 0 else ((1 : Int32) <<< (v3 &&& 31)) : Int32)), .int (v3 + 1)]) (v := (v3 + 1)) dX12_may_49 rfl (by decide) rfl rfl ?_
      refine m2_goto hB dX12_may_52 (tgt := 19) (by decide) ?_
      exact k
    refine m2_if_eq hB dX12_may_37 (tgt := 46) (by decide) (fun q9 : y4 = 0 => ?_) (fun q9 : ¬ y4 = 0 => ?_)
    · rw [if_pos q9] at G10
      refine m2_iconst hB dX12_may_46 (v := 0) (by decide) ?_
      exact G10
    · rw [if_neg q9] at G10
      refine m2_iconst hB dX12_may_40 (v := 1) (by decide) ?_
      refine m2_iload_n hB dX12_may_41 rfl ?_
      refine m2_ishl hB dX12_may_42 ?_
      refine m2_goto hB dX12_may_43 (tgt := 47) (by decide) ?_
      exact G10
theorem dX12_goes_0 : decode cX12_goes 0 = .ok (.aload_n 0, 1) := by decide +kernel
theorem dX12_goes_1 : decode cX12_goes 1 = .ok (.iconst 0, 1) := by decide +kernel
theorem dX12_goes_2 : decode cX12_goes 2 = .ok (.putfield 143, 3) := by decide +kernel
theorem dX12_goes_5 : decode cX12_goes 5 = .ok (.aload_n 0, 1) := by decide +kernel
theorem dX12_goes_6 : decode cX12_goes 6 = .ok (.iload_n 1, 1) := by decide +kernel
theorem dX12_goes_7 : decode cX12_goes 7 = .ok (.invokevirtual 295, 3) := by decide +kernel
theorem dX12_goes_10 : decode cX12_goes 10 = .ok (.ifCond .eq 12, 3) := by decide +kernel
theorem dX12_goes_13 : decode cX12_goes 13 = .ok (.iload_n 2, 1) := by decide +kernel
theorem dX12_goes_14 : decode cX12_goes 14 = .ok (.iconst 0, 1) := by decide +kernel
theorem dX12_goes_15 : decode cX12_goes 15 = .ok (.iconst 3, 1) := by decide +kernel
theorem dX12_goes_16 : decode cX12_goes 16 = .ok (.invokestatic 149, 3) := by decide +kernel
theorem dX12_goes_19 : decode cX12_goes 19 = .ok (.ifCond .ne 5, 3) := by decide +kernel
theorem dX12_goes_22 : decode cX12_goes 22 = .ok (.iconst (-1), 1) := by decide +kernel
theorem dX12_goes_23 : decode cX12_goes 23 = .ok (.ireturn, 1) := by decide +kernel
theorem dX12_goes_24 : decode cX12_goes 24 = .ok (.aload_n 0, 1) := by decide +kernel
theorem dX12_goes_25 : decode cX12_goes 25 = .ok (.iload_n 1, 1) := by decide +kernel
theorem dX12_goes_26 : decode cX12_goes 26 = .ok (.invokevirtual 241, 3) := by decide +kernel
theorem dX12_goes_29 : decode cX12_goes 29 = .ok (.istore_n 3, 1) := by decide +kernel
theorem dX12_goes_30 : decode cX12_goes 30 = .ok (.iload_n 3, 1) := by decide +kernel
theorem dX12_goes_31 : decode cX12_goes 31 = .ok (.iconst (-1), 1) := by decide +kernel
theorem dX12_goes_32 : decode cX12_goes 32 = .ok (.if_icmp .eq 16, 3) := by decide +kernel
theorem dX12_goes_35 : decode cX12_goes 35 = .ok (.aload_n 0, 1) := by decide +kernel
theorem dX12_goes_36 : decode cX12_goes 36 = .ok (.iload_n 1, 1) := by decide +kernel
theorem dX12_goes_37 : decode cX12_goes 37 = .ok (.iload_n 2, 1) := by decide +kernel
theorem dX12_goes_38 : decode cX12_goes 38 = .ok (.iload_n 3, 1) := by decide +kernel
theorem dX12_goes_39 : decode cX12_goes 39 = .ok (.invokevirtual 311, 3) := by decide +kernel
theorem dX12_goes_42 : decode cX12_goes 42 = .ok (.ifCond .ne 6, 3) := by decide +kernel
theorem dX12_goes_45 : decode cX12_goes 45 = .ok (.bipush (-2), 2) := by decide +kernel
theorem dX12_goes_47 : decode cX12_goes 47 = .ok (.ireturn, 1) := by decide +kernel
theorem dX12_goes_48 : decode cX12_goes 48 = .ok (.aload_n 0, 1) := by decide +kernel
theorem dX12_goes_49 : decode cX12_goes 49 = .ok (.iconst 0, 1) := by decide +kernel
theorem dX12_goes_50 : decode cX12_goes 50 = .ok (.putfield 146, 3) := by decide +kernel
theorem dX12_goes_53 : decode cX12_goes 53 = .ok (.iload_n 3, 1) := by decide +kernel
theorem dX12_goes_54 : decode cX12_goes 54 = .ok (.iconst (-1), 1) := by decide +kernel
theorem dX12_goes_55 : decode cX12_goes 55 = .ok (.if_icmp .ne 5, 3) := by decide +kernel
theorem dX12_goes_58 : decode cX12_goes 58 = .ok (.iconst 0, 1) := by decide +kernel
theorem dX12_goes_59 : decode cX12_goes 59 = .ok (.ireturn, 1) := by decide +kernel
theorem dX12_goes_60 : decode cX12_goes 60 = .ok (.aload_n 0, 1) := by decide +kernel
theorem dX12_goes_61 : decode cX12_goes 61 = .ok (.invokevirtual 308, 3) := by decide +kernel
theorem dX12_goes_64 : decode cX12_goes 64 = .ok (.aload_n 0, 1) := by decide +kernel
theorem dX12_goes_65 : decode cX12_goes 65 = .ok (.getfield 248, 3) := by decide +kernel
theorem dX12_goes_68 : decode cX12_goes 68 = .ok (.istore 4, 2) := by decide +kernel
theorem dX12_goes_70 : decode cX12_goes 70 = .ok (.iconst 0, 1) := by decide +kernel
theorem dX12_goes_71 : decode cX12_goes 71 = .ok (.istore 5, 2) := by decide +kernel
theorem dX12_goes_73 : decode cX12_goes 73 = .ok (.iload 5, 2) := by decide +kernel
theorem dX12_goes_75 : decode cX12_goes 75 = .ok (.iload 4, 2) := by decide +kernel
theorem dX12_goes_77 : decode cX12_goes 77 = .ok (.if_icmp .ge 21, 3) := by decide +kernel
theorem dX12_goes_80 : decode cX12_goes 80 = .ok (.aload_n 0, 1) := by decide +kernel
theorem dX12_goes_81 : decode cX12_goes 81 = .ok (.iload_n 1, 1) := by decide +kernel
theorem dX12_goes_82 : decode cX12_goes 82 = .ok (.aload_n 0, 1) := by decide +kernel
theorem dX12_goes_83 : decode cX12_goes 83 = .ok (.getfield 83, 3) := by decide +kernel
theorem dX12_goes_86 : decode cX12_goes 86 = .ok (.iload 5, 2) := by decide +kernel
theorem dX12_goes_88 : decode cX12_goes 88 = .ok (.iaload, 1) := by decide +kernel
theorem dX12_goes_89 : decode cX12_goes 89 = .ok (.invokevirtual 298, 3) := by decide +kernel
theorem dX12_goes_92 : decode cX12_goes 92 = .ok (.iinc 5 1, 3) := by decide +kernel
theorem dX12_goes_95 : decode cX12_goes 95 = .ok (.goto (-22), 3) := by decide +kernel
theorem dX12_goes_98 : decode cX12_goes 98 = .ok (.iload 4, 2) := by decide +kernel
theorem dX12_goes_100 : decode cX12_goes 100 = .ok (.ireturn, 1) := by decide +kernel
set_option maxRecDepth 100000 in
set_option maxHeartbeats 4000000 in
theorem B_X12_goes_0 {κ : Nat → List Value → List Value → m2M → Prop} {D : Nat} {Q : Option Value → m2M → Prop} (h : m2_RL κ cX12_goes RX12 6 (D + 1) (some .int) Q) (hD : 1 ≤ D) {x1 : Int32} {x2 : Int32} {μ : m2M} (k : ((fX12_isOne x1 (m2_si μ kM 22 0)) = 1 → ((fX12_in x2 0 3) = 1 → (vp_in x1 8) ∧ (((fX12_nextOf x1 (m2_si μ kM 22 0)) = (-1) → (¬ (fX12_nextOf x1 (m2_si μ kM 22 0)) = (-1) → ∃ Q17 : Option Value → m2M → Prop, m2_MT D yX12_tellWay cX12_tellWay 2 none [.ref kM] (m2_si (m2_si μ kM 22 0) kM 21 0) Q17 ∧ ∀ (μ16 : m2M), Q17 none μ16 → (κ 73 [.ref kM, .int x1, .int x2, .int (fX12_nextOf x1 (m2_si μ kM 22 0)), .int (μ16.1 kM 37), .int 0] [] μ16)) ∧ ((fX12_nextOf x1 (m2_si μ kM 22 0)) = (-1) → Q (some (.int 0)) (m2_si (m2_si μ kM 22 0) kM 21 0))) ∧ (¬ (fX12_nextOf x1 (m2_si μ kM 22 0)) = (-1) → ∃ Q22 : Option Value → m2M → Prop, m2_MT D yX12_findPlanned cX12_findPlanned 5 (some .boolean) [.ref kM, .int x1, .int x2, .int (fX12_nextOf x1 (m2_si μ kM 22 0))] (m2_si μ kM 22 0) Q22 ∧ ∀ (y20 : Int32) (μ21 : m2M), Q22 (some (.int y20)) μ21 → ((¬ y20 = 0 → (¬ (fX12_nextOf x1 (m2_si μ kM 22 0)) = (-1) → ∃ Q29 : Option Value → m2M → Prop, m2_MT D yX12_tellWay cX12_tellWay 2 none [.ref kM] (m2_si μ21 kM 21 0) Q29 ∧ ∀ (μ28 : m2M), Q29 none μ28 → (κ 73 [.ref kM, .int x1, .int x2, .int (fX12_nextOf x1 (m2_si μ kM 22 0)), .int (μ28.1 kM 37), .int 0] [] μ28)) ∧ ((fX12_nextOf x1 (m2_si μ kM 22 0)) = (-1) → Q (some (.int 0)) (m2_si μ21 kM 21 0))) ∧ (y20 = 0 → Q (some (.int (-2))) μ21))))) ∧ (¬ (fX12_in x2 0 3) = 1 → Q (some (.int (-1))) (m2_si μ kM 22 0))) ∧ (¬ (fX12_isOne x1 (m2_si μ kM 22 0)) = 1 → Q (some (.int (-1))) (m2_si μ kM 22 0))) : κ 0 [.ref kM, .int x1, .int x2, .null, .null, .null] [] μ := by
  have hB := h.b
  refine m2_aload_n hB dX12_goes_0 rfl ?_
  refine m2_iconst hB dX12_goes_1 (v := 0) (by decide) ?_
  refine m2_putI hB dX12_goes_2 fl_X12_143 sh_kM rfl ?_
  refine m2_aload_n hB dX12_goes_5 rfl ?_
  refine m2_iload_n hB dX12_goes_6 rfl ?_
  refine m2_invz hB (as := [.int x1]) dX12_goes_7 mv_X12_295 rfl sh_kM rfl (Nat.le_of_ble_eq_true rfl) rfl (P_X12_isOne (by omega) (x1) _ ) (fun y1 μ2 hq3 => ?_)
  obtain ⟨⟨⟩, hq3⟩ := hq3
  subst μ2
  show κ 10 [.ref kM, .int x1, .int x2, .null, .null, .null] [.int (if (fX12_isOne x1 (m2_si μ kM 22 0)) = 1 then 1 else 0 : Int32)] (m2_si μ kM 22 0)
  by_cases q4 : (fX12_isOne x1 (m2_si μ kM 22 0)) = 1
  · rw [if_pos q4]
    replace k := k.1 q4
    refine m2_if_eq hB dX12_goes_10 (tgt := 22) (by decide) (fun q => absurd q (by decide)) (fun _ => ?_)
    refine m2_iload_n hB dX12_goes_13 rfl ?_
    refine m2_iconst hB dX12_goes_14 (v := 0) (by decide) ?_
    refine m2_iconst hB dX12_goes_15 (v := 3) (by decide) ?_
    refine m2_invSz hB (as := [.int x2, .int 0, .int 3]) dX12_goes_16 ms_X12_149 rfl (Nat.le_of_ble_eq_true rfl) rfl (P_X12_in (by omega) (x2) (0) (3) _ ) (fun y5 μ6 hq7 => ?_)
    obtain ⟨⟨⟩, hq7⟩ := hq7
    subst μ6
    show κ 19 [.ref kM, .int x1, .int x2, .null, .null, .null] [.int (if (fX12_in x2 0 3) = 1 then 1 else 0 : Int32)] (m2_si μ kM 22 0)
    by_cases q8 : (fX12_in x2 0 3) = 1
    · rw [if_pos q8]
      replace k := k.1 q8
      refine m2_if_ne hB dX12_goes_19 (tgt := 24) (by decide) (fun _ => ?_) (fun q => absurd q (by decide))
      refine m2_aload_n hB dX12_goes_24 rfl ?_
      refine m2_iload_n hB dX12_goes_25 rfl ?_
      obtain ⟨hs9, k⟩ := k
      refine m2_invi hB (as := [.int x1]) dX12_goes_26 mv_X12_241 rfl sh_kM rfl (Nat.le_of_ble_eq_true rfl) rfl (P_X12_nextOf (by omega) (x1) _ hs9) (fun y10 μ11 hq12 => ?_)
      obtain ⟨⟨⟩, hq12⟩ := hq12
      subst μ11
      refine m2_istore_n hB (ls' := [.ref kM, .int x1, .int x2, .int (fX12_nextOf x1 (m2_si μ kM 22 0)), .null, .null]) dX12_goes_29 rfl (by decide) rfl ?_
      refine m2_iload_n hB dX12_goes_30 rfl ?_
      refine m2_iconst hB dX12_goes_31 (v := (-1)) (by decide) ?_
      refine m2_icmp_eq hB dX12_goes_32 (tgt := 48) (by decide) (fun q13 : (fX12_nextOf x1 (m2_si μ kM 22 0)) = (-1) => ?_) (fun q13 : ¬ (fX12_nextOf x1 (m2_si μ kM 22 0)) = (-1) => ?_)
      · replace k := k.1 q13
        refine m2_aload_n hB dX12_goes_48 rfl ?_
        refine m2_iconst hB dX12_goes_49 (v := 0) (by decide) ?_
        refine m2_putI hB dX12_goes_50 fl_X12_146 sh_kM rfl ?_
        refine m2_iload_n hB dX12_goes_53 rfl ?_
        refine m2_iconst hB dX12_goes_54 (v := (-1)) (by decide) ?_
        refine m2_icmp_ne hB dX12_goes_55 (tgt := 60) (by decide) (fun q14 : ¬ (fX12_nextOf x1 (m2_si μ kM 22 0)) = (-1) => ?_) (fun q14 : (fX12_nextOf x1 (m2_si μ kM 22 0)) = (-1) => ?_)
        · replace k := k.1 q14
          refine m2_aload_n hB dX12_goes_60 rfl ?_
          obtain ⟨Q17, hM18, k⟩ := k
          refine m2_invv hB (as := []) dX12_goes_61 mv_X12_308 rfl sh_kM rfl (Nat.le_of_ble_eq_true rfl) rfl hM18 (fun μ16 hq19 => ?_)
          replace k := k μ16 hq19
          refine m2_aload_n hB dX12_goes_64 rfl ?_
          refine m2_getI hB dX12_goes_65 fl_X12_248 sh_kM rfl ?_
          refine m2_istore hB (ls' := [.ref kM, .int x1, .int x2, .int (fX12_nextOf x1 (m2_si μ kM 22 0)), .int (μ16.1 kM 37), .null]) dX12_goes_68 (by decide) rfl ?_
          refine m2_iconst hB dX12_goes_70 (v := 0) (by decide) ?_
          refine m2_istore hB (ls' := [.ref kM, .int x1, .int x2, .int (fX12_nextOf x1 (m2_si μ kM 22 0)), .int (μ16.1 kM 37), .int 0]) dX12_goes_71 (by decide) rfl ?_
          exact k
        · replace k := k.2 q14
          refine m2_iconst hB dX12_goes_58 (v := 0) (by decide) ?_
          exact m2_iret h dX12_goes_59 k
      · replace k := k.2 q13
        refine m2_aload_n hB dX12_goes_35 rfl ?_
        refine m2_iload_n hB dX12_goes_36 rfl ?_
        refine m2_iload_n hB dX12_goes_37 rfl ?_
        refine m2_iload_n hB dX12_goes_38 rfl ?_
        obtain ⟨Q22, hM23, k⟩ := k
        refine m2_invz hB (as := [.int x1, .int x2, .int (fX12_nextOf x1 (m2_si μ kM 22 0))]) dX12_goes_39 mv_X12_311 rfl sh_kM rfl (Nat.le_of_ble_eq_true rfl) rfl hM23 (fun y20 μ21 hq24 => ?_)
        replace k := k y20 μ21 hq24
        refine m2_if_ne hB dX12_goes_42 (tgt := 48) (by decide) (fun q25 : ¬ y20 = 0 => ?_) (fun q25 : y20 = 0 => ?_)
        · replace k := k.1 q25
          refine m2_aload_n hB dX12_goes_48 rfl ?_
          refine m2_iconst hB dX12_goes_49 (v := 0) (by decide) ?_
          refine m2_putI hB dX12_goes_50 fl_X12_146 sh_kM rfl ?_
          refine m2_iload_n hB dX12_goes_53 rfl ?_
          refine m2_iconst hB dX12_goes_54 (v := (-1)) (by decide) ?_
          refine m2_icmp_ne hB dX12_goes_55 (tgt := 60) (by decide) (fun q26 : ¬ (fX12_nextOf x1 (m2_si μ kM 22 0)) = (-1) => ?_) (fun q26 : (fX12_nextOf x1 (m2_si μ kM 22 0)) = (-1) => ?_)
          · replace k := k.1 q26
            refine m2_aload_n hB dX12_goes_60 rfl ?_
            obtain ⟨Q29, hM30, k⟩ := k
            refine m2_invv hB (as := []) dX12_goes_61 mv_X12_308 rfl sh_kM rfl (Nat.le_of_ble_eq_true rfl) rfl hM30 (fun μ28 hq31 => ?_)
            replace k := k μ28 hq31
            refine m2_aload_n hB dX12_goes_64 rfl ?_
            refine m2_getI hB dX12_goes_65 fl_X12_248 sh_kM rfl ?_
            refine m2_istore hB (ls' := [.ref kM, .int x1, .int x2, .int (fX12_nextOf x1 (m2_si μ kM 22 0)), .int (μ28.1 kM 37), .null]) dX12_goes_68 (by decide) rfl ?_
            refine m2_iconst hB dX12_goes_70 (v := 0) (by decide) ?_
            refine m2_istore hB (ls' := [.ref kM, .int x1, .int x2, .int (fX12_nextOf x1 (m2_si μ kM 22 0)), .int (μ28.1 kM 37), .int 0]) dX12_goes_71 (by decide) rfl ?_
            exact k
          · replace k := k.2 q26
            refine m2_iconst hB dX12_goes_58 (v := 0) (by decide) ?_
            exact m2_iret h dX12_goes_59 k
        · replace k := k.2 q25
          refine m2_bipush hB dX12_goes_45 (v := (-2)) (by decide) ?_
          exact m2_iret h dX12_goes_47 k
    · rw [if_neg q8]
      replace k := k.2 q8
      refine m2_if_ne hB dX12_goes_19 (tgt := 24) (by decide) (fun q => absurd q (by decide)) (fun _ => ?_)
      refine m2_iconst hB dX12_goes_22 (v := (-1)) (by decide) ?_
      exact m2_iret h dX12_goes_23 k
  · rw [if_neg q4]
    replace k := k.2 q4
    refine m2_if_eq hB dX12_goes_10 (tgt := 22) (by decide) (fun _ => ?_) (fun q => absurd q (by decide))
    refine m2_iconst hB dX12_goes_22 (v := (-1)) (by decide) ?_
    exact m2_iret h dX12_goes_23 k
set_option maxRecDepth 100000 in
set_option maxHeartbeats 4000000 in
theorem B_X12_goes_73 {κ : Nat → List Value → List Value → m2M → Prop} {D : Nat} {Q : Option Value → m2M → Prop} (h : m2_RL κ cX12_goes RX12 6 (D + 1) (some .int) Q) {v1 : Int32} {v2 : Int32} {v3 : Int32} {v4 : Int32} {v5 : Int32} {μ : m2M} (k : (v4 ≤ v5 → Q (some (.int v4)) μ) ∧ (¬ v4 ≤ v5 → (vp_in v5 12) ∧ (∃ Q6 : Option Value → m2M → Prop, m2_MT D yX12_go cX12_go 3 none [.ref kM, .int v1, .int (μ.1 kM_way (v5).toNatClampNeg)] μ Q6 ∧ ∀ (μ5 : m2M), Q6 none μ5 → (κ 73 [.ref kM, .int v1, .int v2, .int v3, .int v4, .int (v5 + 1)] [] μ5)))) : κ 73 [.ref kM, .int v1, .int v2, .int v3, .int v4, .int v5] [] μ := by
  have hB := h.b
  refine m2_iload hB dX12_goes_73 rfl ?_
  refine m2_iload hB dX12_goes_75 rfl ?_
  refine m2_icmp_ge hB dX12_goes_77 (tgt := 98) (by decide) (fun q2 : v4 ≤ v5 => ?_) (fun q2 : ¬ v4 ≤ v5 => ?_)
  · replace k := k.1 q2
    refine m2_iload hB dX12_goes_98 rfl ?_
    exact m2_iret h dX12_goes_100 k
  · replace k := k.2 q2
    refine m2_aload_n hB dX12_goes_80 rfl ?_
    refine m2_iload_n hB dX12_goes_81 rfl ?_
    refine m2_aload_n hB dX12_goes_82 rfl ?_
    refine m2_getR hB dX12_goes_83 fl_X12_83 sh_kM (c1 := kM_way) rfl ?_
    refine m2_iload hB dX12_goes_86 rfl ?_
    obtain ⟨hi3, k⟩ := k
    refine m2_iald hB dX12_goes_88 sh_kM_way hi3 ?_
    obtain ⟨Q6, hM7, k⟩ := k
    refine m2_invv hB (as := [.int v1, .int (μ.1 kM_way (v5).toNatClampNeg)]) dX12_goes_89 mv_X12_298 rfl sh_kM rfl (Nat.le_of_ble_eq_true rfl) rfl hM7 (fun μ5 hq8 => ?_)
    replace k := k μ5 hq8
    refine m2_iinc hB (ls' := [.ref kM, .int v1, .int v2, .int v3, .int v4, .int (v5 + 1)]) (v := (v5 + 1)) dX12_goes_92 rfl (by decide) rfl rfl ?_
    refine m2_goto hB dX12_goes_95 (tgt := 73) (by decide) ?_
    exact k
theorem dX12_priced_0 : decode cX12_priced 0 = .ok (.aload_n 0, 1) := by decide +kernel
theorem dX12_priced_1 : decode cX12_priced 1 = .ok (.iconst 0, 1) := by decide +kernel
theorem dX12_priced_2 : decode cX12_priced 2 = .ok (.putfield 143, 3) := by decide +kernel
theorem dX12_priced_5 : decode cX12_priced 5 = .ok (.aload_n 0, 1) := by decide +kernel
theorem dX12_priced_6 : decode cX12_priced 6 = .ok (.iload_n 1, 1) := by decide +kernel
theorem dX12_priced_7 : decode cX12_priced 7 = .ok (.invokevirtual 295, 3) := by decide +kernel
theorem dX12_priced_10 : decode cX12_priced 10 = .ok (.ifCond .eq 11, 3) := by decide +kernel
theorem dX12_priced_13 : decode cX12_priced 13 = .ok (.aload_n 0, 1) := by decide +kernel
theorem dX12_priced_14 : decode cX12_priced 14 = .ok (.iload_n 2, 1) := by decide +kernel
theorem dX12_priced_15 : decode cX12_priced 15 = .ok (.invokevirtual 288, 3) := by decide +kernel
theorem dX12_priced_18 : decode cX12_priced 18 = .ok (.ifCond .ne 5, 3) := by decide +kernel
theorem dX12_priced_21 : decode cX12_priced 21 = .ok (.iconst (-1), 1) := by decide +kernel
theorem dX12_priced_22 : decode cX12_priced 22 = .ok (.ireturn, 1) := by decide +kernel
theorem dX12_priced_23 : decode cX12_priced 23 = .ok (.aload_n 0, 1) := by decide +kernel
theorem dX12_priced_24 : decode cX12_priced 24 = .ok (.invokevirtual 282, 3) := by decide +kernel
theorem dX12_priced_27 : decode cX12_priced 27 = .ok (.aload_n 0, 1) := by decide +kernel
theorem dX12_priced_28 : decode cX12_priced 28 = .ok (.iload_n 1, 1) := by decide +kernel
theorem dX12_priced_29 : decode cX12_priced 29 = .ok (.iload_n 2, 1) := by decide +kernel
theorem dX12_priced_30 : decode cX12_priced 30 = .ok (.invokevirtual 285, 3) := by decide +kernel
theorem dX12_priced_33 : decode cX12_priced 33 = .ok (.ireturn, 1) := by decide +kernel
set_option maxRecDepth 100000 in
set_option maxHeartbeats 4000000 in
theorem B_X12_priced_0 {κ : Nat → List Value → List Value → m2M → Prop} {D : Nat} {Q : Option Value → m2M → Prop} (h : m2_RL κ cX12_priced RX12 3 (D + 1) (some .int) Q) (hD : 1 ≤ D) {x1 : Int32} {x2 : Int32} {μ : m2M} (k : ((fX12_isOne x1 (m2_si μ kM 22 0)) = 1 → ((fX12_isDoor x2 (m2_si μ kM 22 0)) = 1 → ∃ Q11 : Option Value → m2M → Prop, m2_MT D yX12_findTheirWays cX12_findTheirWays 3 none [.ref kM] (m2_si μ kM 22 0) Q11 ∧ ∀ (μ10 : m2M), Q11 none μ10 → (∃ Q16 : Option Value → m2M → Prop, m2_MT D yX12_priceOf cX12_priceOf 4 (some .int) [.ref kM, .int x1, .int x2] μ10 Q16 ∧ ∀ (y14 : Int32) (μ15 : m2M), Q16 (some (.int y14)) μ15 → (Q (some (.int y14)) μ15))) ∧ (¬ (fX12_isDoor x2 (m2_si μ kM 22 0)) = 1 → Q (some (.int (-1))) (m2_si μ kM 22 0))) ∧ (¬ (fX12_isOne x1 (m2_si μ kM 22 0)) = 1 → Q (some (.int (-1))) (m2_si μ kM 22 0))) : κ 0 [.ref kM, .int x1, .int x2] [] μ := by
  have hB := h.b
  refine m2_aload_n hB dX12_priced_0 rfl ?_
  refine m2_iconst hB dX12_priced_1 (v := 0) (by decide) ?_
  refine m2_putI hB dX12_priced_2 fl_X12_143 sh_kM rfl ?_
  refine m2_aload_n hB dX12_priced_5 rfl ?_
  refine m2_iload_n hB dX12_priced_6 rfl ?_
  refine m2_invz hB (as := [.int x1]) dX12_priced_7 mv_X12_295 rfl sh_kM rfl (Nat.le_of_ble_eq_true rfl) rfl (P_X12_isOne (by omega) (x1) _ ) (fun y1 μ2 hq3 => ?_)
  obtain ⟨⟨⟩, hq3⟩ := hq3
  subst μ2
  show κ 10 [.ref kM, .int x1, .int x2] [.int (if (fX12_isOne x1 (m2_si μ kM 22 0)) = 1 then 1 else 0 : Int32)] (m2_si μ kM 22 0)
  by_cases q4 : (fX12_isOne x1 (m2_si μ kM 22 0)) = 1
  · rw [if_pos q4]
    replace k := k.1 q4
    refine m2_if_eq hB dX12_priced_10 (tgt := 21) (by decide) (fun q => absurd q (by decide)) (fun _ => ?_)
    refine m2_aload_n hB dX12_priced_13 rfl ?_
    refine m2_iload_n hB dX12_priced_14 rfl ?_
    refine m2_invz hB (as := [.int x2]) dX12_priced_15 mv_X12_288 rfl sh_kM rfl (Nat.le_of_ble_eq_true rfl) rfl (P_X12_isDoor (by omega) (x2) _ ) (fun y5 μ6 hq7 => ?_)
    obtain ⟨⟨⟩, hq7⟩ := hq7
    subst μ6
    show κ 18 [.ref kM, .int x1, .int x2] [.int (if (fX12_isDoor x2 (m2_si μ kM 22 0)) = 1 then 1 else 0 : Int32)] (m2_si μ kM 22 0)
    by_cases q8 : (fX12_isDoor x2 (m2_si μ kM 22 0)) = 1
    · rw [if_pos q8]
      replace k := k.1 q8
      refine m2_if_ne hB dX12_priced_18 (tgt := 23) (by decide) (fun _ => ?_) (fun q => absurd q (by decide))
      refine m2_aload_n hB dX12_priced_23 rfl ?_
      obtain ⟨Q11, hM12, k⟩ := k
      refine m2_invv hB (as := []) dX12_priced_24 mv_X12_282 rfl sh_kM rfl (Nat.le_of_ble_eq_true rfl) rfl hM12 (fun μ10 hq13 => ?_)
      replace k := k μ10 hq13
      refine m2_aload_n hB dX12_priced_27 rfl ?_
      refine m2_iload_n hB dX12_priced_28 rfl ?_
      refine m2_iload_n hB dX12_priced_29 rfl ?_
      obtain ⟨Q16, hM17, k⟩ := k
      refine m2_invi hB (as := [.int x1, .int x2]) dX12_priced_30 mv_X12_285 rfl sh_kM rfl (Nat.le_of_ble_eq_true rfl) rfl hM17 (fun y14 μ15 hq18 => ?_)
      replace k := k y14 μ15 hq18
      exact m2_iret h dX12_priced_33 k
    · rw [if_neg q8]
      replace k := k.2 q8
      refine m2_if_ne hB dX12_priced_18 (tgt := 23) (by decide) (fun q => absurd q (by decide)) (fun _ => ?_)
      refine m2_iconst hB dX12_priced_21 (v := (-1)) (by decide) ?_
      exact m2_iret h dX12_priced_22 k
  · rw [if_neg q4]
    replace k := k.2 q4
    refine m2_if_eq hB dX12_priced_10 (tgt := 21) (by decide) (fun _ => ?_) (fun q => absurd q (by decide))
    refine m2_iconst hB dX12_priced_21 (v := (-1)) (by decide) ?_
    exact m2_iret h dX12_priced_22 k
theorem dX12_clearFlow_0 : decode cX12_clearFlow 0 = .ok (.iconst 0, 1) := by decide +kernel
theorem dX12_clearFlow_1 : decode cX12_clearFlow 1 = .ok (.istore_n 1, 1) := by decide +kernel
theorem dX12_clearFlow_2 : decode cX12_clearFlow 2 = .ok (.iload_n 1, 1) := by decide +kernel
theorem dX12_clearFlow_3 : decode cX12_clearFlow 3 = .ok (.sipush 196, 3) := by decide +kernel
theorem dX12_clearFlow_6 : decode cX12_clearFlow 6 = .ok (.if_icmp .ge 16, 3) := by decide +kernel
theorem dX12_clearFlow_9 : decode cX12_clearFlow 9 = .ok (.aload_n 0, 1) := by decide +kernel
theorem dX12_clearFlow_10 : decode cX12_clearFlow 10 = .ok (.getfield 86, 3) := by decide +kernel
theorem dX12_clearFlow_13 : decode cX12_clearFlow 13 = .ok (.iload_n 1, 1) := by decide +kernel
theorem dX12_clearFlow_14 : decode cX12_clearFlow 14 = .ok (.iconst 0, 1) := by decide +kernel
theorem dX12_clearFlow_15 : decode cX12_clearFlow 15 = .ok (.iastore, 1) := by decide +kernel
theorem dX12_clearFlow_16 : decode cX12_clearFlow 16 = .ok (.iinc 1 1, 3) := by decide +kernel
theorem dX12_clearFlow_19 : decode cX12_clearFlow 19 = .ok (.goto (-17), 3) := by decide +kernel
theorem dX12_clearFlow_22 : decode cX12_clearFlow 22 = .ok (.return_, 1) := by decide +kernel
set_option maxRecDepth 100000 in
set_option maxHeartbeats 4000000 in
theorem B_X12_clearFlow_0 {κ : Nat → List Value → List Value → m2M → Prop} {D : Nat} {Q : Option Value → m2M → Prop} (h : m2_RL κ cX12_clearFlow RX12 2 D none Q)  {μ : m2M} (k : κ 2 [.ref kM, .int 0] [] μ) : κ 0 [.ref kM, .null] [] μ := by
  have hB := h.b
  refine m2_iconst hB dX12_clearFlow_0 (v := 0) (by decide) ?_
  refine m2_istore_n hB (ls' := [.ref kM, .int 0]) dX12_clearFlow_1 rfl (by decide) rfl ?_
  exact k
set_option maxRecDepth 100000 in
set_option maxHeartbeats 4000000 in
theorem B_X12_clearFlow_2 {κ : Nat → List Value → List Value → m2M → Prop} {D : Nat} {Q : Option Value → m2M → Prop} (h : m2_RL κ cX12_clearFlow RX12 2 D none Q) {v1 : Int32} {μ : m2M} (k : (196 ≤ v1 → Q none μ) ∧ (¬ 196 ≤ v1 → (vp_in v1 196) ∧ (κ 2 [.ref kM, .int (v1 + 1)] [] (m2_si μ kM_can (v1).toNatClampNeg 0)))) : κ 2 [.ref kM, .int v1] [] μ := by
  have hB := h.b
  refine m2_iload_n hB dX12_clearFlow_2 rfl ?_
  refine m2_sipush hB dX12_clearFlow_3 (v := 196) (by decide) ?_
  refine m2_icmp_ge hB dX12_clearFlow_6 (tgt := 22) (by decide) (fun q2 : 196 ≤ v1 => ?_) (fun q2 : ¬ 196 ≤ v1 => ?_)
  · replace k := k.1 q2
    exact m2_vret h dX12_clearFlow_22 k
  · replace k := k.2 q2
    refine m2_aload_n hB dX12_clearFlow_9 rfl ?_
    refine m2_getR hB dX12_clearFlow_10 fl_X12_86 sh_kM (c1 := kM_can) rfl ?_
    refine m2_iload_n hB dX12_clearFlow_13 rfl ?_
    refine m2_iconst hB dX12_clearFlow_14 (v := 0) (by decide) ?_
    obtain ⟨hi3, k⟩ := k
    refine m2_iast hB dX12_clearFlow_15 sh_kM_can hi3 ?_
    refine m2_iinc hB (ls' := [.ref kM, .int (v1 + 1)]) (v := (v1 + 1)) dX12_clearFlow_16 rfl (by decide) rfl rfl ?_
    refine m2_goto hB dX12_clearFlow_19 (tgt := 2) (by decide) ?_
    exact k
theorem dX12_layDoor_0 : decode cX12_layDoor 0 = .ok (.aload_n 0, 1) := by decide +kernel
theorem dX12_layDoor_1 : decode cX12_layDoor 1 = .ok (.getfield 86, 3) := by decide +kernel
theorem dX12_layDoor_4 : decode cX12_layDoor 4 = .ok (.bipush 14, 2) := by decide +kernel
theorem dX12_layDoor_6 : decode cX12_layDoor 6 = .ok (.aload_n 0, 1) := by decide +kernel
theorem dX12_layDoor_7 : decode cX12_layDoor 7 = .ok (.getfield 9, 3) := by decide +kernel
theorem dX12_layDoor_10 : decode cX12_layDoor 10 = .ok (.iload_n 1, 1) := by decide +kernel
theorem dX12_layDoor_11 : decode cX12_layDoor 11 = .ok (.iaload, 1) := by decide +kernel
theorem dX12_layDoor_12 : decode cX12_layDoor 12 = .ok (.imul, 1) := by decide +kernel
theorem dX12_layDoor_13 : decode cX12_layDoor 13 = .ok (.aload_n 0, 1) := by decide +kernel
theorem dX12_layDoor_14 : decode cX12_layDoor 14 = .ok (.getfield 13, 3) := by decide +kernel
theorem dX12_layDoor_17 : decode cX12_layDoor 17 = .ok (.iload_n 1, 1) := by decide +kernel
theorem dX12_layDoor_18 : decode cX12_layDoor 18 = .ok (.iaload, 1) := by decide +kernel
theorem dX12_layDoor_19 : decode cX12_layDoor 19 = .ok (.iadd, 1) := by decide +kernel
theorem dX12_layDoor_20 : decode cX12_layDoor 20 = .ok (.dup2, 1) := by decide +kernel
theorem dX12_layDoor_21 : decode cX12_layDoor 21 = .ok (.iaload, 1) := by decide +kernel
theorem dX12_layDoor_22 : decode cX12_layDoor 22 = .ok (.iload_n 2, 1) := by decide +kernel
theorem dX12_layDoor_23 : decode cX12_layDoor 23 = .ok (.iadd, 1) := by decide +kernel
theorem dX12_layDoor_24 : decode cX12_layDoor 24 = .ok (.iastore, 1) := by decide +kernel
theorem dX12_layDoor_25 : decode cX12_layDoor 25 = .ok (.aload_n 0, 1) := by decide +kernel
theorem dX12_layDoor_26 : decode cX12_layDoor 26 = .ok (.getfield 16, 3) := by decide +kernel
theorem dX12_layDoor_29 : decode cX12_layDoor 29 = .ok (.iload_n 1, 1) := by decide +kernel
theorem dX12_layDoor_30 : decode cX12_layDoor 30 = .ok (.baload, 1) := by decide +kernel
theorem dX12_layDoor_31 : decode cX12_layDoor 31 = .ok (.ifCond .ne 28, 3) := by decide +kernel
theorem dX12_layDoor_34 : decode cX12_layDoor 34 = .ok (.aload_n 0, 1) := by decide +kernel
theorem dX12_layDoor_35 : decode cX12_layDoor 35 = .ok (.getfield 86, 3) := by decide +kernel
theorem dX12_layDoor_38 : decode cX12_layDoor 38 = .ok (.bipush 14, 2) := by decide +kernel
theorem dX12_layDoor_40 : decode cX12_layDoor 40 = .ok (.aload_n 0, 1) := by decide +kernel
theorem dX12_layDoor_41 : decode cX12_layDoor 41 = .ok (.getfield 13, 3) := by decide +kernel
theorem dX12_layDoor_44 : decode cX12_layDoor 44 = .ok (.iload_n 1, 1) := by decide +kernel
theorem dX12_layDoor_45 : decode cX12_layDoor 45 = .ok (.iaload, 1) := by decide +kernel
theorem dX12_layDoor_46 : decode cX12_layDoor 46 = .ok (.imul, 1) := by decide +kernel
theorem dX12_layDoor_47 : decode cX12_layDoor 47 = .ok (.aload_n 0, 1) := by decide +kernel
theorem dX12_layDoor_48 : decode cX12_layDoor 48 = .ok (.getfield 9, 3) := by decide +kernel
theorem dX12_layDoor_51 : decode cX12_layDoor 51 = .ok (.iload_n 1, 1) := by decide +kernel
theorem dX12_layDoor_52 : decode cX12_layDoor 52 = .ok (.iaload, 1) := by decide +kernel
theorem dX12_layDoor_53 : decode cX12_layDoor 53 = .ok (.iadd, 1) := by decide +kernel
theorem dX12_layDoor_54 : decode cX12_layDoor 54 = .ok (.dup2, 1) := by decide +kernel
theorem dX12_layDoor_55 : decode cX12_layDoor 55 = .ok (.iaload, 1) := by decide +kernel
theorem dX12_layDoor_56 : decode cX12_layDoor 56 = .ok (.iload_n 2, 1) := by decide +kernel
theorem dX12_layDoor_57 : decode cX12_layDoor 57 = .ok (.iadd, 1) := by decide +kernel
theorem dX12_layDoor_58 : decode cX12_layDoor 58 = .ok (.iastore, 1) := by decide +kernel
theorem dX12_layDoor_59 : decode cX12_layDoor 59 = .ok (.return_, 1) := by decide +kernel
set_option maxRecDepth 100000 in
set_option maxHeartbeats 4000000 in
theorem B_X12_layDoor_0 {κ : Nat → List Value → List Value → m2M → Prop} {D : Nat} {Q : Option Value → m2M → Prop} (h : m2_RL κ cX12_layDoor RX12 3 D none Q) {x1 : Int32} {x2 : Int32} {μ : m2M} (k : (vp_in x1 20) ∧ ((vp_in (((14 : Int32) * (μ.1 kM_doorA (x1).toNatClampNeg)) + (μ.1 kM_doorB (x1).toNatClampNeg)) 196) ∧ ((¬ (μ.1 kM_isOneWay (x1).toNatClampNeg) = 0 → Q none (m2_si μ kM_can ((((14 : Int32) * (μ.1 kM_doorA (x1).toNatClampNeg)) + (μ.1 kM_doorB (x1).toNatClampNeg))).toNatClampNeg ((μ.1 kM_can ((((14 : Int32) * (μ.1 kM_doorA (x1).toNatClampNeg)) + (μ.1 kM_doorB (x1).toNatClampNeg))).toNatClampNeg) + x2))) ∧ ((μ.1 kM_isOneWay (x1).toNatClampNeg) = 0 → (vp_in (((14 : Int32) * (μ.1 kM_doorB (x1).toNatClampNeg)) + (μ.1 kM_doorA (x1).toNatClampNeg)) 196) ∧ (Q none (m2_si (m2_si μ kM_can ((((14 : Int32) * (μ.1 kM_doorA (x1).toNatClampNeg)) + (μ.1 kM_doorB (x1).toNatClampNeg))).toNatClampNeg ((μ.1 kM_can ((((14 : Int32) * (μ.1 kM_doorA (x1).toNatClampNeg)) + (μ.1 kM_doorB (x1).toNatClampNeg))).toNatClampNeg) + x2)) kM_can ((((14 : Int32) * (μ.1 kM_doorB (x1).toNatClampNeg)) + (μ.1 kM_doorA (x1).toNatClampNeg))).toNatClampNeg ((((m2_si μ kM_can ((((14 : Int32) * (μ.1 kM_doorA (x1).toNatClampNeg)) + (μ.1 kM_doorB (x1).toNatClampNeg))).toNatClampNeg ((μ.1 kM_can ((((14 : Int32) * (μ.1 kM_doorA (x1).toNatClampNeg)) + (μ.1 kM_doorB (x1).toNatClampNeg))).toNatClampNeg) + x2))).1 kM_can ((((14 : Int32) * (μ.1 kM_doorB (x1).toNatClampNeg)) + (μ.1 kM_doorA (x1).toNatClampNeg))).toNatClampNeg) + x2))))))) : κ 0 [.ref kM, .int x1, .int x2] [] μ := by
  have hB := h.b
  refine m2_aload_n hB dX12_layDoor_0 rfl ?_
  refine m2_getR hB dX12_layDoor_1 fl_X12_86 sh_kM (c1 := kM_can) rfl ?_
  refine m2_bipush hB dX12_layDoor_4 (v := 14) (by decide) ?_
  refine m2_aload_n hB dX12_layDoor_6 rfl ?_
  refine m2_getR hB dX12_layDoor_7 fl_X12_9 sh_kM (c1 := kM_doorA) rfl ?_
  refine m2_iload_n hB dX12_layDoor_10 rfl ?_
  obtain ⟨hi1, k⟩ := k
  refine m2_iald hB dX12_layDoor_11 sh_kM_doorA hi1 ?_
  refine m2_imul hB dX12_layDoor_12 ?_
  refine m2_aload_n hB dX12_layDoor_13 rfl ?_
  refine m2_getR hB dX12_layDoor_14 fl_X12_13 sh_kM (c1 := kM_doorB) rfl ?_
  refine m2_iload_n hB dX12_layDoor_17 rfl ?_
  have hi2 := hi1
  refine m2_iald hB dX12_layDoor_18 sh_kM_doorB hi2 ?_
  refine m2_iadd hB dX12_layDoor_19 ?_
  refine m2_dup2 hB dX12_layDoor_20 rfl rfl ?_
  obtain ⟨hi3, k⟩ := k
  refine m2_iald hB dX12_layDoor_21 sh_kM_can hi3 ?_
  refine m2_iload_n hB dX12_layDoor_22 rfl ?_
  refine m2_iadd hB dX12_layDoor_23 ?_
  have hi4 := hi3
  refine m2_iast hB dX12_layDoor_24 sh_kM_can hi4 ?_
  refine m2_aload_n hB dX12_layDoor_25 rfl ?_
  refine m2_getR hB dX12_layDoor_26 fl_X12_16 sh_kM (c1 := kM_isOneWay) rfl ?_
  refine m2_iload_n hB dX12_layDoor_29 rfl ?_
  have hi5 := hi1
  refine m2_zald hB dX12_layDoor_30 sh_kM_isOneWay hi5 ?_
  refine m2_if_ne hB dX12_layDoor_31 (tgt := 59) (by decide) (fun q7 : ¬ (μ.1 kM_isOneWay (x1).toNatClampNeg) = 0 => ?_) (fun q7 : (μ.1 kM_isOneWay (x1).toNatClampNeg) = 0 => ?_)
  · replace k := k.1 q7
    exact m2_vret h dX12_layDoor_59 k
  · replace k := k.2 q7
    refine m2_aload_n hB dX12_layDoor_34 rfl ?_
    refine m2_getR hB dX12_layDoor_35 fl_X12_86 sh_kM (c1 := kM_can) rfl ?_
    refine m2_bipush hB dX12_layDoor_38 (v := 14) (by decide) ?_
    refine m2_aload_n hB dX12_layDoor_40 rfl ?_
    refine m2_getR hB dX12_layDoor_41 fl_X12_13 sh_kM (c1 := kM_doorB) rfl ?_
    refine m2_iload_n hB dX12_layDoor_44 rfl ?_
    have hi8 := hi1
    refine m2_iald hB dX12_layDoor_45 sh_kM_doorB hi8 ?_
    refine m2_imul hB dX12_layDoor_46 ?_
    refine m2_aload_n hB dX12_layDoor_47 rfl ?_
    refine m2_getR hB dX12_layDoor_48 fl_X12_9 sh_kM (c1 := kM_doorA) rfl ?_
    refine m2_iload_n hB dX12_layDoor_51 rfl ?_
    have hi9 := hi1
    refine m2_iald hB dX12_layDoor_52 sh_kM_doorA hi9 ?_
    refine m2_iadd hB dX12_layDoor_53 ?_
    refine m2_dup2 hB dX12_layDoor_54 rfl rfl ?_
    obtain ⟨hi10, k⟩ := k
    refine m2_iald hB dX12_layDoor_55 sh_kM_can hi10 ?_
    refine m2_iload_n hB dX12_layDoor_56 rfl ?_
    refine m2_iadd hB dX12_layDoor_57 ?_
    have hi11 := hi10
    refine m2_iast hB dX12_layDoor_58 sh_kM_can hi11 ?_
    exact m2_vret h dX12_layDoor_59 k
theorem dX12_findMore_0 : decode cX12_findMore 0 = .ok (.iconst 0, 1) := by decide +kernel
theorem dX12_findMore_1 : decode cX12_findMore 1 = .ok (.istore_n 3, 1) := by decide +kernel
theorem dX12_findMore_2 : decode cX12_findMore 2 = .ok (.iload_n 3, 1) := by decide +kernel
theorem dX12_findMore_3 : decode cX12_findMore 3 = .ok (.bipush 14, 2) := by decide +kernel
theorem dX12_findMore_5 : decode cX12_findMore 5 = .ok (.if_icmp .ge 16, 3) := by decide +kernel
theorem dX12_findMore_8 : decode cX12_findMore 8 = .ok (.aload_n 0, 1) := by decide +kernel
theorem dX12_findMore_9 : decode cX12_findMore 9 = .ok (.getfield 89, 3) := by decide +kernel
theorem dX12_findMore_12 : decode cX12_findMore 12 = .ok (.iload_n 3, 1) := by decide +kernel
theorem dX12_findMore_13 : decode cX12_findMore 13 = .ok (.iconst (-1), 1) := by decide +kernel
theorem dX12_findMore_14 : decode cX12_findMore 14 = .ok (.iastore, 1) := by decide +kernel
theorem dX12_findMore_15 : decode cX12_findMore 15 = .ok (.iinc 3 1, 3) := by decide +kernel
theorem dX12_findMore_18 : decode cX12_findMore 18 = .ok (.goto (-16), 3) := by decide +kernel
theorem dX12_findMore_21 : decode cX12_findMore 21 = .ok (.aload_n 0, 1) := by decide +kernel
theorem dX12_findMore_22 : decode cX12_findMore 22 = .ok (.getfield 89, 3) := by decide +kernel
theorem dX12_findMore_25 : decode cX12_findMore 25 = .ok (.iload_n 1, 1) := by decide +kernel
theorem dX12_findMore_26 : decode cX12_findMore 26 = .ok (.iload_n 1, 1) := by decide +kernel
theorem dX12_findMore_27 : decode cX12_findMore 27 = .ok (.iastore, 1) := by decide +kernel
theorem dX12_findMore_28 : decode cX12_findMore 28 = .ok (.iconst 0, 1) := by decide +kernel
theorem dX12_findMore_29 : decode cX12_findMore 29 = .ok (.istore_n 3, 1) := by decide +kernel
theorem dX12_findMore_30 : decode cX12_findMore 30 = .ok (.iconst 1, 1) := by decide +kernel
theorem dX12_findMore_31 : decode cX12_findMore 31 = .ok (.istore 4, 2) := by decide +kernel
theorem dX12_findMore_33 : decode cX12_findMore 33 = .ok (.aload_n 0, 1) := by decide +kernel
theorem dX12_findMore_34 : decode cX12_findMore 34 = .ok (.getfield 92, 3) := by decide +kernel
theorem dX12_findMore_37 : decode cX12_findMore 37 = .ok (.iconst 0, 1) := by decide +kernel
theorem dX12_findMore_38 : decode cX12_findMore 38 = .ok (.iload_n 1, 1) := by decide +kernel
theorem dX12_findMore_39 : decode cX12_findMore 39 = .ok (.iastore, 1) := by decide +kernel
theorem dX12_findMore_40 : decode cX12_findMore 40 = .ok (.iload_n 3, 1) := by decide +kernel
theorem dX12_findMore_41 : decode cX12_findMore 41 = .ok (.iload 4, 2) := by decide +kernel
theorem dX12_findMore_43 : decode cX12_findMore 43 = .ok (.if_icmp .ge 84, 3) := by decide +kernel
theorem dX12_findMore_46 : decode cX12_findMore 46 = .ok (.aload_n 0, 1) := by decide +kernel
theorem dX12_findMore_47 : decode cX12_findMore 47 = .ok (.getfield 92, 3) := by decide +kernel
theorem dX12_findMore_50 : decode cX12_findMore 50 = .ok (.iload_n 3, 1) := by decide +kernel
theorem dX12_findMore_51 : decode cX12_findMore 51 = .ok (.iaload, 1) := by decide +kernel
theorem dX12_findMore_52 : decode cX12_findMore 52 = .ok (.istore 5, 2) := by decide +kernel
theorem dX12_findMore_54 : decode cX12_findMore 54 = .ok (.iinc 3 1, 3) := by decide +kernel
theorem dX12_findMore_57 : decode cX12_findMore 57 = .ok (.iconst 0, 1) := by decide +kernel
theorem dX12_findMore_58 : decode cX12_findMore 58 = .ok (.istore 6, 2) := by decide +kernel
theorem dX12_findMore_60 : decode cX12_findMore 60 = .ok (.iload 6, 2) := by decide +kernel
theorem dX12_findMore_62 : decode cX12_findMore 62 = .ok (.bipush 14, 2) := by decide +kernel
theorem dX12_findMore_64 : decode cX12_findMore 64 = .ok (.if_icmp .ge 60, 3) := by decide +kernel
theorem dX12_findMore_67 : decode cX12_findMore 67 = .ok (.aload_n 0, 1) := by decide +kernel
theorem dX12_findMore_68 : decode cX12_findMore 68 = .ok (.getfield 89, 3) := by decide +kernel
theorem dX12_findMore_71 : decode cX12_findMore 71 = .ok (.iload 6, 2) := by decide +kernel
theorem dX12_findMore_73 : decode cX12_findMore 73 = .ok (.iaload, 1) := by decide +kernel
theorem dX12_findMore_74 : decode cX12_findMore 74 = .ok (.iconst (-1), 1) := by decide +kernel
theorem dX12_findMore_75 : decode cX12_findMore 75 = .ok (.if_icmp .ne 43, 3) := by decide +kernel
theorem dX12_findMore_78 : decode cX12_findMore 78 = .ok (.aload_n 0, 1) := by decide +kernel
theorem dX12_findMore_79 : decode cX12_findMore 79 = .ok (.getfield 86, 3) := by decide +kernel
theorem dX12_findMore_82 : decode cX12_findMore 82 = .ok (.bipush 14, 2) := by decide +kernel
theorem dX12_findMore_84 : decode cX12_findMore 84 = .ok (.iload 5, 2) := by decide +kernel
theorem dX12_findMore_86 : decode cX12_findMore 86 = .ok (.imul, 1) := by decide +kernel
theorem dX12_findMore_87 : decode cX12_findMore 87 = .ok (.iload 6, 2) := by decide +kernel
theorem dX12_findMore_89 : decode cX12_findMore 89 = .ok (.iadd, 1) := by decide +kernel
theorem dX12_findMore_90 : decode cX12_findMore 90 = .ok (.iaload, 1) := by decide +kernel
theorem dX12_findMore_91 : decode cX12_findMore 91 = .ok (.ifCond .ne 6, 3) := by decide +kernel
theorem dX12_findMore_94 : decode cX12_findMore 94 = .ok (.goto 24, 3) := by decide +kernel
theorem dX12_findMore_97 : decode cX12_findMore 97 = .ok (.aload_n 0, 1) := by decide +kernel
theorem dX12_findMore_98 : decode cX12_findMore 98 = .ok (.getfield 89, 3) := by decide +kernel
theorem dX12_findMore_101 : decode cX12_findMore 101 = .ok (.iload 6, 2) := by decide +kernel
theorem dX12_findMore_103 : decode cX12_findMore 103 = .ok (.iload 5, 2) := by decide +kernel
theorem dX12_findMore_105 : decode cX12_findMore 105 = .ok (.iastore, 1) := by decide +kernel
theorem dX12_findMore_106 : decode cX12_findMore 106 = .ok (.aload_n 0, 1) := by decide +kernel
theorem dX12_findMore_107 : decode cX12_findMore 107 = .ok (.getfield 92, 3) := by decide +kernel
theorem dX12_findMore_110 : decode cX12_findMore 110 = .ok (.iload 4, 2) := by decide +kernel
theorem dX12_findMore_112 : decode cX12_findMore 112 = .ok (.iload 6, 2) := by decide +kernel
theorem dX12_findMore_114 : decode cX12_findMore 114 = .ok (.iastore, 1) := by decide +kernel
theorem dX12_findMore_115 : decode cX12_findMore 115 = .ok (.iinc 4 1, 3) := by decide +kernel
theorem dX12_findMore_118 : decode cX12_findMore 118 = .ok (.iinc 6 1, 3) := by decide +kernel
theorem dX12_findMore_121 : decode cX12_findMore 121 = .ok (.goto (-61), 3) := by decide +kernel
theorem dX12_findMore_124 : decode cX12_findMore 124 = .ok (.goto (-84), 3) := by decide +kernel
theorem dX12_findMore_127 : decode cX12_findMore 127 = .ok (.aload_n 0, 1) := by decide +kernel
theorem dX12_findMore_128 : decode cX12_findMore 128 = .ok (.getfield 89, 3) := by decide +kernel
theorem dX12_findMore_131 : decode cX12_findMore 131 = .ok (.iload_n 2, 1) := by decide +kernel
theorem dX12_findMore_132 : decode cX12_findMore 132 = .ok (.iaload, 1) := by decide +kernel
theorem dX12_findMore_133 : decode cX12_findMore 133 = .ok (.iconst (-1), 1) := by decide +kernel
theorem dX12_findMore_134 : decode cX12_findMore 134 = .ok (.if_icmp .eq 7, 3) := by decide +kernel
theorem dX12_findMore_137 : decode cX12_findMore 137 = .ok (.iconst 1, 1) := by decide +kernel
theorem dX12_findMore_138 : decode cX12_findMore 138 = .ok (.goto 4, 3) := by decide +kernel
theorem dX12_findMore_141 : decode cX12_findMore 141 = .ok (.iconst 0, 1) := by decide +kernel
theorem dX12_findMore_142 : decode cX12_findMore 142 = .ok (.ireturn, 1) := by decide +kernel
set_option maxRecDepth 100000 in
set_option maxHeartbeats 4000000 in
theorem B_X12_findMore_0 {κ : Nat → List Value → List Value → m2M → Prop} {D : Nat} {Q : Option Value → m2M → Prop} (h : m2_RL κ cX12_findMore RX12 7 D (some .boolean) Q) {x1 : Int32} {x2 : Int32} {μ : m2M} (k : κ 2 [.ref kM, .int x1, .int x2, .int 0, .null, .null, .null] [] μ) : κ 0 [.ref kM, .int x1, .int x2, .null, .null, .null, .null] [] μ := by
  have hB := h.b
  refine m2_iconst hB dX12_findMore_0 (v := 0) (by decide) ?_
  refine m2_istore_n hB (ls' := [.ref kM, .int x1, .int x2, .int 0, .null, .null, .null]) dX12_findMore_1 rfl (by decide) rfl ?_
  exact k
set_option maxRecDepth 100000 in
set_option maxHeartbeats 4000000 in
theorem B_X12_findMore_2 {κ : Nat → List Value → List Value → m2M → Prop} {D : Nat} {Q : Option Value → m2M → Prop} (h : m2_RL κ cX12_findMore RX12 7 D (some .boolean) Q) {v1 : Int32} {v2 : Int32} {v3 : Int32} {μ : m2M} (k : (14 ≤ v3 → (vp_in v1 14) ∧ (κ 40 [.ref kM, .int v1, .int v2, .int 0, .int 1, .null, .null] [] (m2_si (m2_si μ kM_cameFrom (v1).toNatClampNeg v1) kM_queue ((0 : Int32)).toNatClampNeg v1))) ∧ (¬ 14 ≤ v3 → (vp_in v3 14) ∧ (κ 2 [.ref kM, .int v1, .int v2, .int (v3 + 1), .null, .null, .null] [] (m2_si μ kM_cameFrom (v3).toNatClampNeg (-1))))) : κ 2 [.ref kM, .int v1, .int v2, .int v3, .null, .null, .null] [] μ := by
  have hB := h.b
  refine m2_iload_n hB dX12_findMore_2 rfl ?_
  refine m2_bipush hB dX12_findMore_3 (v := 14) (by decide) ?_
  refine m2_icmp_ge hB dX12_findMore_5 (tgt := 21) (by decide) (fun q2 : 14 ≤ v3 => ?_) (fun q2 : ¬ 14 ≤ v3 => ?_)
  · replace k := k.1 q2
    refine m2_aload_n hB dX12_findMore_21 rfl ?_
    refine m2_getR hB dX12_findMore_22 fl_X12_89 sh_kM (c1 := kM_cameFrom) rfl ?_
    refine m2_iload_n hB dX12_findMore_25 rfl ?_
    refine m2_iload_n hB dX12_findMore_26 rfl ?_
    obtain ⟨hi3, k⟩ := k
    refine m2_iast hB dX12_findMore_27 sh_kM_cameFrom hi3 ?_
    refine m2_iconst hB dX12_findMore_28 (v := 0) (by decide) ?_
    refine m2_istore_n hB (ls' := [.ref kM, .int v1, .int v2, .int 0, .null, .null, .null]) dX12_findMore_29 rfl (by decide) rfl ?_
    refine m2_iconst hB dX12_findMore_30 (v := 1) (by decide) ?_
    refine m2_istore hB (ls' := [.ref kM, .int v1, .int v2, .int 0, .int 1, .null, .null]) dX12_findMore_31 (by decide) rfl ?_
    refine m2_aload_n hB dX12_findMore_33 rfl ?_
    refine m2_getR hB dX12_findMore_34 fl_X12_92 sh_kM (c1 := kM_queue) rfl ?_
    refine m2_iconst hB dX12_findMore_37 (v := 0) (by decide) ?_
    refine m2_iload_n hB dX12_findMore_38 rfl ?_
    refine m2_iast hB dX12_findMore_39 sh_kM_queue (vp_in_iff.mpr ⟨by decide, by decide⟩) ?_
    exact k
  · replace k := k.2 q2
    refine m2_aload_n hB dX12_findMore_8 rfl ?_
    refine m2_getR hB dX12_findMore_9 fl_X12_89 sh_kM (c1 := kM_cameFrom) rfl ?_
    refine m2_iload_n hB dX12_findMore_12 rfl ?_
    refine m2_iconst hB dX12_findMore_13 (v := (-1)) (by decide) ?_
    obtain ⟨hi5, k⟩ := k
    refine m2_iast hB dX12_findMore_14 sh_kM_cameFrom hi5 ?_
    refine m2_iinc hB (ls' := [.ref kM, .int v1, .int v2, .int (v3 + 1), .null, .null, .null]) (v := (v3 + 1)) dX12_findMore_15 rfl (by decide) rfl rfl ?_
    refine m2_goto hB dX12_findMore_18 (tgt := 2) (by decide) ?_
    exact k
set_option maxRecDepth 100000 in
set_option maxHeartbeats 4000000 in
theorem B_X12_findMore_40 {κ : Nat → List Value → List Value → m2M → Prop} {D : Nat} {Q : Option Value → m2M → Prop} (h : m2_RL κ cX12_findMore RX12 7 D (some .boolean) Q) {v1 : Int32} {v2 : Int32} {v3 : Int32} {v4 : Int32} {μ : m2M} (k : (v4 ≤ v3 → (vp_in v2 14) ∧ (Q (some (.int (if (μ.1 kM_cameFrom (v2).toNatClampNeg) = (-1) then 0 else 1 : Int32))) μ)) ∧ (¬ v4 ≤ v3 → (vp_in v3 14) ∧ (κ 60 [.ref kM, .int v1, .int v2, .int (v3 + 1), .int v4, .int (μ.1 kM_queue (v3).toNatClampNeg), .int 0] [] μ))) : κ 40 [.ref kM, .int v1, .int v2, .int v3, .int v4, .null, .null] [] μ := by
  have hB := h.b
  refine m2_iload_n hB dX12_findMore_40 rfl ?_
  refine m2_iload hB dX12_findMore_41 rfl ?_
  refine m2_icmp_ge hB dX12_findMore_43 (tgt := 127) (by decide) (fun q2 : v4 ≤ v3 => ?_) (fun q2 : ¬ v4 ≤ v3 => ?_)
  · replace k := k.1 q2
    refine m2_aload_n hB dX12_findMore_127 rfl ?_
    refine m2_getR hB dX12_findMore_128 fl_X12_89 sh_kM (c1 := kM_cameFrom) rfl ?_
    refine m2_iload_n hB dX12_findMore_131 rfl ?_
    obtain ⟨hi3, k⟩ := k
    refine m2_iald hB dX12_findMore_132 sh_kM_cameFrom hi3 ?_
    refine m2_iconst hB dX12_findMore_133 (v := (-1)) (by decide) ?_
    have G5 : κ 142 [.ref kM, .int v1, .int v2, .int v3, .int v4, .null, .null] [.int (if (μ.1 kM_cameFrom (v2).toNatClampNeg) = (-1) then 0 else 1 : Int32)] μ := by
      exact m2_zret h dX12_findMore_142 (by (repeat' split) <;> first | exact Or.inl rfl | exact Or.inr rfl) k
    refine m2_icmp_eq hB dX12_findMore_134 (tgt := 141) (by decide) (fun q4 : (μ.1 kM_cameFrom (v2).toNatClampNeg) = (-1) => ?_) (fun q4 : ¬ (μ.1 kM_cameFrom (v2).toNatClampNeg) = (-1) => ?_)
    · rw [if_pos q4] at G5
      refine m2_iconst hB dX12_findMore_141 (v := 0) (by decide) ?_
      exact G5
    · rw [if_neg q4] at G5
      refine m2_iconst hB dX12_findMore_137 (v := 1) (by decide) ?_
      refine m2_goto hB dX12_findMore_138 (tgt := 142) (by decide) ?_
      exact G5
  · replace k := k.2 q2
    refine m2_aload_n hB dX12_findMore_46 rfl ?_
    refine m2_getR hB dX12_findMore_47 fl_X12_92 sh_kM (c1 := kM_queue) rfl ?_
    refine m2_iload_n hB dX12_findMore_50 rfl ?_
    obtain ⟨hi6, k⟩ := k
    refine m2_iald hB dX12_findMore_51 sh_kM_queue hi6 ?_
    refine m2_istore hB (ls' := [.ref kM, .int v1, .int v2, .int v3, .int v4, .int (μ.1 kM_queue (v3).toNatClampNeg), .null]) dX12_findMore_52 (by decide) rfl ?_
    refine m2_iinc hB (ls' := [.ref kM, .int v1, .int v2, .int (v3 + 1), .int v4, .int (μ.1 kM_queue (v3).toNatClampNeg), .null]) (v := (v3 + 1)) dX12_findMore_54 rfl (by decide) rfl rfl ?_
    refine m2_iconst hB dX12_findMore_57 (v := 0) (by decide) ?_
    refine m2_istore hB (ls' := [.ref kM, .int v1, .int v2, .int (v3 + 1), .int v4, .int (μ.1 kM_queue (v3).toNatClampNeg), .int 0]) dX12_findMore_58 (by decide) rfl ?_
    exact k
set_option maxRecDepth 100000 in
set_option maxHeartbeats 4000000 in
theorem B_X12_findMore_60 {κ : Nat → List Value → List Value → m2M → Prop} {D : Nat} {Q : Option Value → m2M → Prop} (h : m2_RL κ cX12_findMore RX12 7 D (some .boolean) Q) {v1 : Int32} {v2 : Int32} {v3 : Int32} {v4 : Int32} {v5 : Int32} {v6 : Int32} {μ : m2M} (k : (14 ≤ v6 → κ 40 [.ref kM, .int v1, .int v2, .int v3, .int v4, .null, .null] [] μ) ∧ (¬ 14 ≤ v6 → (vp_in v6 14) ∧ ((¬ (μ.1 kM_cameFrom (v6).toNatClampNeg) = (-1) → κ 60 [.ref kM, .int v1, .int v2, .int v3, .int v4, .int v5, .int (v6 + 1)] [] μ) ∧ ((μ.1 kM_cameFrom (v6).toNatClampNeg) = (-1) → (vp_in (((14 : Int32) * v5) + v6) 196) ∧ ((¬ (μ.1 kM_can ((((14 : Int32) * v5) + v6)).toNatClampNeg) = 0 → (vp_in v4 14) ∧ (κ 60 [.ref kM, .int v1, .int v2, .int v3, .int (v4 + 1), .int v5, .int (v6 + 1)] [] (m2_si (m2_si μ kM_cameFrom (v6).toNatClampNeg v5) kM_queue (v4).toNatClampNeg v6))) ∧ ((μ.1 kM_can ((((14 : Int32) * v5) + v6)).toNatClampNeg) = 0 → κ 60 [.ref kM, .int v1, .int v2, .int v3, .int v4, .int v5, .int (v6 + 1)] [] μ)))))) : κ 60 [.ref kM, .int v1, .int v2, .int v3, .int v4, .int v5, .int v6] [] μ := by
  have hB := h.b
  refine m2_iload hB dX12_findMore_60 rfl ?_
  refine m2_bipush hB dX12_findMore_62 (v := 14) (by decide) ?_
  refine m2_icmp_ge hB dX12_findMore_64 (tgt := 124) (by decide) (fun q2 : 14 ≤ v6 => ?_) (fun q2 : ¬ 14 ≤ v6 => ?_)
  · replace k := k.1 q2
    refine m2_goto hB dX12_findMore_124 (tgt := 40) (by decide) ?_
    exact m2_weak (ls' := [.ref kM, .int v1, .int v2, .int v3, .int v4, .null, .null]) hB ⟨Or.inr rfl, Or.inr rfl, Or.inr rfl, Or.inr rfl, Or.inr rfl, Or.inl rfl, Or.inl rfl, trivial⟩ k
  · replace k := k.2 q2
    refine m2_aload_n hB dX12_findMore_67 rfl ?_
    refine m2_getR hB dX12_findMore_68 fl_X12_89 sh_kM (c1 := kM_cameFrom) rfl ?_
    refine m2_iload hB dX12_findMore_71 rfl ?_
    obtain ⟨hi3, k⟩ := k
    refine m2_iald hB dX12_findMore_73 sh_kM_cameFrom hi3 ?_
    refine m2_iconst hB dX12_findMore_74 (v := (-1)) (by decide) ?_
    refine m2_icmp_ne hB dX12_findMore_75 (tgt := 118) (by decide) (fun q5 : ¬ (μ.1 kM_cameFrom (v6).toNatClampNeg) = (-1) => ?_) (fun q5 : (μ.1 kM_cameFrom (v6).toNatClampNeg) = (-1) => ?_)
    · replace k := k.1 q5
      refine m2_iinc hB (ls' := [.ref kM, .int v1, .int v2, .int v3, .int v4, .int v5, .int (v6 + 1)]) (v := (v6 + 1)) dX12_findMore_118 rfl (by decide) rfl rfl ?_
      refine m2_goto hB dX12_findMore_121 (tgt := 60) (by decide) ?_
      exact k
    · replace k := k.2 q5
      refine m2_aload_n hB dX12_findMore_78 rfl ?_
      refine m2_getR hB dX12_findMore_79 fl_X12_86 sh_kM (c1 := kM_can) rfl ?_
      refine m2_bipush hB dX12_findMore_82 (v := 14) (by decide) ?_
      refine m2_iload hB dX12_findMore_84 rfl ?_
      refine m2_imul hB dX12_findMore_86 ?_
      refine m2_iload hB dX12_findMore_87 rfl ?_
      refine m2_iadd hB dX12_findMore_89 ?_
      obtain ⟨hi6, k⟩ := k
      refine m2_iald hB dX12_findMore_90 sh_kM_can hi6 ?_
      refine m2_if_ne hB dX12_findMore_91 (tgt := 97) (by decide) (fun q8 : ¬ (μ.1 kM_can ((((14 : Int32) * v5) + v6)).toNatClampNeg) = 0 => ?_) (fun q8 : (μ.1 kM_can ((((14 : Int32) * v5) + v6)).toNatClampNeg) = 0 => ?_)
      · replace k := k.1 q8
        refine m2_aload_n hB dX12_findMore_97 rfl ?_
        refine m2_getR hB dX12_findMore_98 fl_X12_89 sh_kM (c1 := kM_cameFrom) rfl ?_
        refine m2_iload hB dX12_findMore_101 rfl ?_
        refine m2_iload hB dX12_findMore_103 rfl ?_
        have hi9 := hi3
        refine m2_iast hB dX12_findMore_105 sh_kM_cameFrom hi9 ?_
        refine m2_aload_n hB dX12_findMore_106 rfl ?_
        refine m2_getR hB dX12_findMore_107 fl_X12_92 sh_kM (c1 := kM_queue) rfl ?_
        refine m2_iload hB dX12_findMore_110 rfl ?_
        refine m2_iload hB dX12_findMore_112 rfl ?_
        obtain ⟨hi10, k⟩ := k
        refine m2_iast hB dX12_findMore_114 sh_kM_queue hi10 ?_
        refine m2_iinc hB (ls' := [.ref kM, .int v1, .int v2, .int v3, .int (v4 + 1), .int v5, .int v6]) (v := (v4 + 1)) dX12_findMore_115 rfl (by decide) rfl rfl ?_
        refine m2_iinc hB (ls' := [.ref kM, .int v1, .int v2, .int v3, .int (v4 + 1), .int v5, .int (v6 + 1)]) (v := (v6 + 1)) dX12_findMore_118 rfl (by decide) rfl rfl ?_
        refine m2_goto hB dX12_findMore_121 (tgt := 60) (by decide) ?_
        exact k
      · replace k := k.2 q8
        refine m2_goto hB dX12_findMore_94 (tgt := 118) (by decide) ?_
        refine m2_iinc hB (ls' := [.ref kM, .int v1, .int v2, .int v3, .int v4, .int v5, .int (v6 + 1)]) (v := (v6 + 1)) dX12_findMore_118 rfl (by decide) rfl rfl ?_
        refine m2_goto hB dX12_findMore_121 (tgt := 60) (by decide) ?_
        exact k
theorem dX12_flow_0 : decode cX12_flow 0 = .ok (.iconst 0, 1) := by decide +kernel
theorem dX12_flow_1 : decode cX12_flow 1 = .ok (.istore_n 3, 1) := by decide +kernel
theorem dX12_flow_2 : decode cX12_flow 2 = .ok (.aload_n 0, 1) := by decide +kernel
theorem dX12_flow_3 : decode cX12_flow 3 = .ok (.iload_n 1, 1) := by decide +kernel
theorem dX12_flow_4 : decode cX12_flow 4 = .ok (.iload_n 2, 1) := by decide +kernel
theorem dX12_flow_5 : decode cX12_flow 5 = .ok (.invokevirtual 314, 3) := by decide +kernel
theorem dX12_flow_8 : decode cX12_flow 8 = .ok (.ifCond .eq 128, 3) := by decide +kernel
theorem dX12_flow_11 : decode cX12_flow 11 = .ok (.ldc 244, 2) := by decide +kernel
theorem dX12_flow_13 : decode cX12_flow 13 = .ok (.istore 4, 2) := by decide +kernel
theorem dX12_flow_15 : decode cX12_flow 15 = .ok (.iload_n 2, 1) := by decide +kernel
theorem dX12_flow_16 : decode cX12_flow 16 = .ok (.istore 5, 2) := by decide +kernel
theorem dX12_flow_18 : decode cX12_flow 18 = .ok (.iload 5, 2) := by decide +kernel
theorem dX12_flow_20 : decode cX12_flow 20 = .ok (.iload_n 1, 1) := by decide +kernel
theorem dX12_flow_21 : decode cX12_flow 21 = .ok (.if_icmp .eq 40, 3) := by decide +kernel
theorem dX12_flow_24 : decode cX12_flow 24 = .ok (.iload 4, 2) := by decide +kernel
theorem dX12_flow_26 : decode cX12_flow 26 = .ok (.aload_n 0, 1) := by decide +kernel
theorem dX12_flow_27 : decode cX12_flow 27 = .ok (.getfield 86, 3) := by decide +kernel
theorem dX12_flow_30 : decode cX12_flow 30 = .ok (.bipush 14, 2) := by decide +kernel
theorem dX12_flow_32 : decode cX12_flow 32 = .ok (.aload_n 0, 1) := by decide +kernel
theorem dX12_flow_33 : decode cX12_flow 33 = .ok (.getfield 89, 3) := by decide +kernel
theorem dX12_flow_36 : decode cX12_flow 36 = .ok (.iload 5, 2) := by decide +kernel
theorem dX12_flow_38 : decode cX12_flow 38 = .ok (.iaload, 1) := by decide +kernel
theorem dX12_flow_39 : decode cX12_flow 39 = .ok (.imul, 1) := by decide +kernel
theorem dX12_flow_40 : decode cX12_flow 40 = .ok (.iload 5, 2) := by decide +kernel
theorem dX12_flow_42 : decode cX12_flow 42 = .ok (.iadd, 1) := by decide +kernel
theorem dX12_flow_43 : decode cX12_flow 43 = .ok (.iaload, 1) := by decide +kernel
theorem dX12_flow_44 : decode cX12_flow 44 = .ok (.invokestatic 256, 3) := by decide +kernel
theorem dX12_flow_47 : decode cX12_flow 47 = .ok (.istore 4, 2) := by decide +kernel
theorem dX12_flow_49 : decode cX12_flow 49 = .ok (.aload_n 0, 1) := by decide +kernel
theorem dX12_flow_50 : decode cX12_flow 50 = .ok (.getfield 89, 3) := by decide +kernel
theorem dX12_flow_53 : decode cX12_flow 53 = .ok (.iload 5, 2) := by decide +kernel
theorem dX12_flow_55 : decode cX12_flow 55 = .ok (.iaload, 1) := by decide +kernel
theorem dX12_flow_56 : decode cX12_flow 56 = .ok (.istore 5, 2) := by decide +kernel
theorem dX12_flow_58 : decode cX12_flow 58 = .ok (.goto (-40), 3) := by decide +kernel
theorem dX12_flow_61 : decode cX12_flow 61 = .ok (.iload_n 2, 1) := by decide +kernel
theorem dX12_flow_62 : decode cX12_flow 62 = .ok (.istore 5, 2) := by decide +kernel
theorem dX12_flow_64 : decode cX12_flow 64 = .ok (.iload 5, 2) := by decide +kernel
theorem dX12_flow_66 : decode cX12_flow 66 = .ok (.iload_n 1, 1) := by decide +kernel
theorem dX12_flow_67 : decode cX12_flow 67 = .ok (.if_icmp .eq 61, 3) := by decide +kernel
theorem dX12_flow_70 : decode cX12_flow 70 = .ok (.aload_n 0, 1) := by decide +kernel
theorem dX12_flow_71 : decode cX12_flow 71 = .ok (.getfield 86, 3) := by decide +kernel
theorem dX12_flow_74 : decode cX12_flow 74 = .ok (.bipush 14, 2) := by decide +kernel
theorem dX12_flow_76 : decode cX12_flow 76 = .ok (.aload_n 0, 1) := by decide +kernel
theorem dX12_flow_77 : decode cX12_flow 77 = .ok (.getfield 89, 3) := by decide +kernel
theorem dX12_flow_80 : decode cX12_flow 80 = .ok (.iload 5, 2) := by decide +kernel
theorem dX12_flow_82 : decode cX12_flow 82 = .ok (.iaload, 1) := by decide +kernel
theorem dX12_flow_83 : decode cX12_flow 83 = .ok (.imul, 1) := by decide +kernel
theorem dX12_flow_84 : decode cX12_flow 84 = .ok (.iload 5, 2) := by decide +kernel
theorem dX12_flow_86 : decode cX12_flow 86 = .ok (.iadd, 1) := by decide +kernel
theorem dX12_flow_87 : decode cX12_flow 87 = .ok (.dup2, 1) := by decide +kernel
theorem dX12_flow_88 : decode cX12_flow 88 = .ok (.iaload, 1) := by decide +kernel
theorem dX12_flow_89 : decode cX12_flow 89 = .ok (.iload 4, 2) := by decide +kernel
theorem dX12_flow_91 : decode cX12_flow 91 = .ok (.isub, 1) := by decide +kernel
theorem dX12_flow_92 : decode cX12_flow 92 = .ok (.iastore, 1) := by decide +kernel
theorem dX12_flow_93 : decode cX12_flow 93 = .ok (.aload_n 0, 1) := by decide +kernel
theorem dX12_flow_94 : decode cX12_flow 94 = .ok (.getfield 86, 3) := by decide +kernel
theorem dX12_flow_97 : decode cX12_flow 97 = .ok (.bipush 14, 2) := by decide +kernel
theorem dX12_flow_99 : decode cX12_flow 99 = .ok (.iload 5, 2) := by decide +kernel
theorem dX12_flow_101 : decode cX12_flow 101 = .ok (.imul, 1) := by decide +kernel
theorem dX12_flow_102 : decode cX12_flow 102 = .ok (.aload_n 0, 1) := by decide +kernel
theorem dX12_flow_103 : decode cX12_flow 103 = .ok (.getfield 89, 3) := by decide +kernel
theorem dX12_flow_106 : decode cX12_flow 106 = .ok (.iload 5, 2) := by decide +kernel
theorem dX12_flow_108 : decode cX12_flow 108 = .ok (.iaload, 1) := by decide +kernel
theorem dX12_flow_109 : decode cX12_flow 109 = .ok (.iadd, 1) := by decide +kernel
theorem dX12_flow_110 : decode cX12_flow 110 = .ok (.dup2, 1) := by decide +kernel
theorem dX12_flow_111 : decode cX12_flow 111 = .ok (.iaload, 1) := by decide +kernel
theorem dX12_flow_112 : decode cX12_flow 112 = .ok (.iload 4, 2) := by decide +kernel
theorem dX12_flow_114 : decode cX12_flow 114 = .ok (.iadd, 1) := by decide +kernel
theorem dX12_flow_115 : decode cX12_flow 115 = .ok (.iastore, 1) := by decide +kernel
theorem dX12_flow_116 : decode cX12_flow 116 = .ok (.aload_n 0, 1) := by decide +kernel
theorem dX12_flow_117 : decode cX12_flow 117 = .ok (.getfield 89, 3) := by decide +kernel
theorem dX12_flow_120 : decode cX12_flow 120 = .ok (.iload 5, 2) := by decide +kernel
theorem dX12_flow_122 : decode cX12_flow 122 = .ok (.iaload, 1) := by decide +kernel
theorem dX12_flow_123 : decode cX12_flow 123 = .ok (.istore 5, 2) := by decide +kernel
theorem dX12_flow_125 : decode cX12_flow 125 = .ok (.goto (-61), 3) := by decide +kernel
theorem dX12_flow_128 : decode cX12_flow 128 = .ok (.iload_n 3, 1) := by decide +kernel
theorem dX12_flow_129 : decode cX12_flow 129 = .ok (.iload 4, 2) := by decide +kernel
theorem dX12_flow_131 : decode cX12_flow 131 = .ok (.iadd, 1) := by decide +kernel
theorem dX12_flow_132 : decode cX12_flow 132 = .ok (.istore_n 3, 1) := by decide +kernel
theorem dX12_flow_133 : decode cX12_flow 133 = .ok (.goto (-131), 3) := by decide +kernel
theorem dX12_flow_136 : decode cX12_flow 136 = .ok (.iload_n 3, 1) := by decide +kernel
theorem dX12_flow_137 : decode cX12_flow 137 = .ok (.ireturn, 1) := by decide +kernel
set_option maxRecDepth 100000 in
set_option maxHeartbeats 4000000 in
theorem B_X12_flow_0 {κ : Nat → List Value → List Value → m2M → Prop} {D : Nat} {Q : Option Value → m2M → Prop} (h : m2_RL κ cX12_flow RX12 6 D (some .int) Q) {x1 : Int32} {x2 : Int32} {μ : m2M} (k : κ 2 [.ref kM, .int x1, .int x2, .int 0, .null, .null] [] μ) : κ 0 [.ref kM, .int x1, .int x2, .null, .null, .null] [] μ := by
  have hB := h.b
  refine m2_iconst hB dX12_flow_0 (v := 0) (by decide) ?_
  refine m2_istore_n hB (ls' := [.ref kM, .int x1, .int x2, .int 0, .null, .null]) dX12_flow_1 rfl (by decide) rfl ?_
  exact k
set_option maxRecDepth 100000 in
set_option maxHeartbeats 4000000 in
theorem B_X12_flow_2 {κ : Nat → List Value → List Value → m2M → Prop} {D : Nat} {Q : Option Value → m2M → Prop} (h : m2_RL κ cX12_flow RX12 6 (D + 1) (some .int) Q) {v1 : Int32} {v2 : Int32} {v3 : Int32} {μ : m2M} (k : ∃ Q3 : Option Value → m2M → Prop, m2_MT D yX12_findMore cX12_findMore 7 (some .boolean) [.ref kM, .int v1, .int v2] μ Q3 ∧ ∀ (y1 : Int32) (μ2 : m2M), Q3 (some (.int y1)) μ2 → ((y1 = 0 → Q (some (.int v3)) μ2) ∧ (¬ y1 = 0 → κ 18 [.ref kM, .int v1, .int v2, .int v3, .int 100000000, .int v2] [] μ2))) : κ 2 [.ref kM, .int v1, .int v2, .int v3, .null, .null] [] μ := by
  have hB := h.b
  refine m2_aload_n hB dX12_flow_2 rfl ?_
  refine m2_iload_n hB dX12_flow_3 rfl ?_
  refine m2_iload_n hB dX12_flow_4 rfl ?_
  obtain ⟨Q3, hM4, k⟩ := k
  refine m2_invz hB (as := [.int v1, .int v2]) dX12_flow_5 mv_X12_314 rfl sh_kM rfl (Nat.le_of_ble_eq_true rfl) rfl hM4 (fun y1 μ2 hq5 => ?_)
  replace k := k y1 μ2 hq5
  refine m2_if_eq hB dX12_flow_8 (tgt := 136) (by decide) (fun q6 : y1 = 0 => ?_) (fun q6 : ¬ y1 = 0 => ?_)
  · replace k := k.1 q6
    refine m2_iload_n hB dX12_flow_136 rfl ?_
    exact m2_iret h dX12_flow_137 k
  · replace k := k.2 q6
    refine m2_ldc hB kc_X12_244 dX12_flow_11 ?_
    refine m2_istore hB (ls' := [.ref kM, .int v1, .int v2, .int v3, .int 100000000, .null]) dX12_flow_13 (by decide) rfl ?_
    refine m2_iload_n hB dX12_flow_15 rfl ?_
    refine m2_istore hB (ls' := [.ref kM, .int v1, .int v2, .int v3, .int 100000000, .int v2]) dX12_flow_16 (by decide) rfl ?_
    exact k
set_option maxRecDepth 100000 in
set_option maxHeartbeats 4000000 in
theorem B_X12_flow_18 {κ : Nat → List Value → List Value → m2M → Prop} {D : Nat} {Q : Option Value → m2M → Prop} (h : m2_RL κ cX12_flow RX12 6 (D + 1) (some .int) Q) (hD : 0 ≤ D) {v1 : Int32} {v2 : Int32} {v3 : Int32} {v4 : Int32} {v5 : Int32} {μ : m2M} (k : (v5 = v1 → κ 64 [.ref kM, .int v1, .int v2, .int v3, .int v4, .int v2] [] μ) ∧ (¬ v5 = v1 → (vp_in v5 14) ∧ ((vp_in (((14 : Int32) * (μ.1 kM_cameFrom (v5).toNatClampNeg)) + v5) 196) ∧ (κ 18 [.ref kM, .int v1, .int v2, .int v3, .int (m2_min v4 (μ.1 kM_can ((((14 : Int32) * (μ.1 kM_cameFrom (v5).toNatClampNeg)) + v5)).toNatClampNeg)), .int (μ.1 kM_cameFrom (v5).toNatClampNeg)] [] μ)))) : κ 18 [.ref kM, .int v1, .int v2, .int v3, .int v4, .int v5] [] μ := by
  have hB := h.b
  refine m2_iload hB dX12_flow_18 rfl ?_
  refine m2_iload_n hB dX12_flow_20 rfl ?_
  refine m2_icmp_eq hB dX12_flow_21 (tgt := 61) (by decide) (fun q2 : v5 = v1 => ?_) (fun q2 : ¬ v5 = v1 => ?_)
  · replace k := k.1 q2
    refine m2_iload_n hB dX12_flow_61 rfl ?_
    refine m2_istore hB (ls' := [.ref kM, .int v1, .int v2, .int v3, .int v4, .int v2]) dX12_flow_62 (by decide) rfl ?_
    exact k
  · replace k := k.2 q2
    refine m2_iload hB dX12_flow_24 rfl ?_
    refine m2_aload_n hB dX12_flow_26 rfl ?_
    refine m2_getR hB dX12_flow_27 fl_X12_86 sh_kM (c1 := kM_can) rfl ?_
    refine m2_bipush hB dX12_flow_30 (v := 14) (by decide) ?_
    refine m2_aload_n hB dX12_flow_32 rfl ?_
    refine m2_getR hB dX12_flow_33 fl_X12_89 sh_kM (c1 := kM_cameFrom) rfl ?_
    refine m2_iload hB dX12_flow_36 rfl ?_
    obtain ⟨hi3, k⟩ := k
    refine m2_iald hB dX12_flow_38 sh_kM_cameFrom hi3 ?_
    refine m2_imul hB dX12_flow_39 ?_
    refine m2_iload hB dX12_flow_40 rfl ?_
    refine m2_iadd hB dX12_flow_42 ?_
    obtain ⟨hi4, k⟩ := k
    refine m2_iald hB dX12_flow_43 sh_kM_can hi4 ?_
    refine m2_mmin hB dX12_flow_44 ms_X12_256 (Nat.le_of_ble_eq_true rfl) ?_
    refine m2_istore hB (ls' := [.ref kM, .int v1, .int v2, .int v3, .int (m2_min v4 (μ.1 kM_can ((((14 : Int32) * (μ.1 kM_cameFrom (v5).toNatClampNeg)) + v5)).toNatClampNeg)), .int v5]) dX12_flow_47 (by decide) rfl ?_
    refine m2_aload_n hB dX12_flow_49 rfl ?_
    refine m2_getR hB dX12_flow_50 fl_X12_89 sh_kM (c1 := kM_cameFrom) rfl ?_
    refine m2_iload hB dX12_flow_53 rfl ?_
    have hi5 := hi3
    refine m2_iald hB dX12_flow_55 sh_kM_cameFrom hi5 ?_
    refine m2_istore hB (ls' := [.ref kM, .int v1, .int v2, .int v3, .int (m2_min v4 (μ.1 kM_can ((((14 : Int32) * (μ.1 kM_cameFrom (v5).toNatClampNeg)) + v5)).toNatClampNeg)), .int (μ.1 kM_cameFrom (v5).toNatClampNeg)]) dX12_flow_56 (by decide) rfl ?_
    refine m2_goto hB dX12_flow_58 (tgt := 18) (by decide) ?_
    exact k
set_option maxRecDepth 100000 in
set_option maxHeartbeats 4000000 in
theorem B_X12_flow_64 {κ : Nat → List Value → List Value → m2M → Prop} {D : Nat} {Q : Option Value → m2M → Prop} (h : m2_RL κ cX12_flow RX12 6 D (some .int) Q) {v1 : Int32} {v2 : Int32} {v3 : Int32} {v4 : Int32} {v5 : Int32} {μ : m2M} (k : (v5 = v1 → κ 2 [.ref kM, .int v1, .int v2, .int (v3 + v4), .null, .null] [] μ) ∧ (¬ v5 = v1 → (vp_in v5 14) ∧ ((vp_in (((14 : Int32) * (μ.1 kM_cameFrom (v5).toNatClampNeg)) + v5) 196) ∧ ((vp_in (((14 : Int32) * v5) + (μ.1 kM_cameFrom (v5).toNatClampNeg)) 196) ∧ (κ 64 [.ref kM, .int v1, .int v2, .int v3, .int v4, .int (μ.1 kM_cameFrom (v5).toNatClampNeg)] [] (m2_si (m2_si μ kM_can ((((14 : Int32) * (μ.1 kM_cameFrom (v5).toNatClampNeg)) + v5)).toNatClampNeg ((μ.1 kM_can ((((14 : Int32) * (μ.1 kM_cameFrom (v5).toNatClampNeg)) + v5)).toNatClampNeg) - v4)) kM_can ((((14 : Int32) * v5) + (μ.1 kM_cameFrom (v5).toNatClampNeg))).toNatClampNeg ((((m2_si μ kM_can ((((14 : Int32) * (μ.1 kM_cameFrom (v5).toNatClampNeg)) + v5)).toNatClampNeg ((μ.1 kM_can ((((14 : Int32) * (μ.1 kM_cameFrom (v5).toNatClampNeg)) + v5)).toNatClampNeg) - v4))).1 kM_can ((((14 : Int32) * v5) + (μ.1 kM_cameFrom (v5).toNatClampNeg))).toNatClampNeg) + v4))))))) : κ 64 [.ref kM, .int v1, .int v2, .int v3, .int v4, .int v5] [] μ := by
  have hB := h.b
  refine m2_iload hB dX12_flow_64 rfl ?_
  refine m2_iload_n hB dX12_flow_66 rfl ?_
  refine m2_icmp_eq hB dX12_flow_67 (tgt := 128) (by decide) (fun q2 : v5 = v1 => ?_) (fun q2 : ¬ v5 = v1 => ?_)
  · replace k := k.1 q2
    refine m2_iload_n hB dX12_flow_128 rfl ?_
    refine m2_iload hB dX12_flow_129 rfl ?_
    refine m2_iadd hB dX12_flow_131 ?_
    refine m2_istore_n hB (ls' := [.ref kM, .int v1, .int v2, .int (v3 + v4), .int v4, .int v5]) dX12_flow_132 rfl (by decide) rfl ?_
    refine m2_goto hB dX12_flow_133 (tgt := 2) (by decide) ?_
    exact m2_weak (ls' := [.ref kM, .int v1, .int v2, .int (v3 + v4), .null, .null]) hB ⟨Or.inr rfl, Or.inr rfl, Or.inr rfl, Or.inr rfl, Or.inl rfl, Or.inl rfl, trivial⟩ k
  · replace k := k.2 q2
    refine m2_aload_n hB dX12_flow_70 rfl ?_
    refine m2_getR hB dX12_flow_71 fl_X12_86 sh_kM (c1 := kM_can) rfl ?_
    refine m2_bipush hB dX12_flow_74 (v := 14) (by decide) ?_
    refine m2_aload_n hB dX12_flow_76 rfl ?_
    refine m2_getR hB dX12_flow_77 fl_X12_89 sh_kM (c1 := kM_cameFrom) rfl ?_
    refine m2_iload hB dX12_flow_80 rfl ?_
    obtain ⟨hi3, k⟩ := k
    refine m2_iald hB dX12_flow_82 sh_kM_cameFrom hi3 ?_
    refine m2_imul hB dX12_flow_83 ?_
    refine m2_iload hB dX12_flow_84 rfl ?_
    refine m2_iadd hB dX12_flow_86 ?_
    refine m2_dup2 hB dX12_flow_87 rfl rfl ?_
    obtain ⟨hi4, k⟩ := k
    refine m2_iald hB dX12_flow_88 sh_kM_can hi4 ?_
    refine m2_iload hB dX12_flow_89 rfl ?_
    refine m2_isub hB dX12_flow_91 ?_
    have hi5 := hi4
    refine m2_iast hB dX12_flow_92 sh_kM_can hi5 ?_
    refine m2_aload_n hB dX12_flow_93 rfl ?_
    refine m2_getR hB dX12_flow_94 fl_X12_86 sh_kM (c1 := kM_can) rfl ?_
    refine m2_bipush hB dX12_flow_97 (v := 14) (by decide) ?_
    refine m2_iload hB dX12_flow_99 rfl ?_
    refine m2_imul hB dX12_flow_101 ?_
    refine m2_aload_n hB dX12_flow_102 rfl ?_
    refine m2_getR hB dX12_flow_103 fl_X12_89 sh_kM (c1 := kM_cameFrom) rfl ?_
    refine m2_iload hB dX12_flow_106 rfl ?_
    have hi6 := hi3
    refine m2_iald hB dX12_flow_108 sh_kM_cameFrom hi6 ?_
    refine m2_iadd hB dX12_flow_109 ?_
    refine m2_dup2 hB dX12_flow_110 rfl rfl ?_
    obtain ⟨hi7, k⟩ := k
    refine m2_iald hB dX12_flow_111 sh_kM_can hi7 ?_
    refine m2_iload hB dX12_flow_112 rfl ?_
    refine m2_iadd hB dX12_flow_114 ?_
    have hi8 := hi7
    refine m2_iast hB dX12_flow_115 sh_kM_can hi8 ?_
    refine m2_aload_n hB dX12_flow_116 rfl ?_
    refine m2_getR hB dX12_flow_117 fl_X12_89 sh_kM (c1 := kM_cameFrom) rfl ?_
    refine m2_iload hB dX12_flow_120 rfl ?_
    have hi9 := hi3
    refine m2_iald hB dX12_flow_122 sh_kM_cameFrom hi9 ?_
    refine m2_istore hB (ls' := [.ref kM, .int v1, .int v2, .int v3, .int v4, .int (μ.1 kM_cameFrom (v5).toNatClampNeg)]) dX12_flow_123 (by decide) rfl ?_
    refine m2_goto hB dX12_flow_125 (tgt := 64) (by decide) ?_
    exact k
theorem dX12_manyWith_0 : decode cX12_manyWith 0 = .ok (.aload_n 0, 1) := by decide +kernel
theorem dX12_manyWith_1 : decode cX12_manyWith 1 = .ok (.invokevirtual 317, 3) := by decide +kernel
theorem dX12_manyWith_4 : decode cX12_manyWith 4 = .ok (.iconst 0, 1) := by decide +kernel
theorem dX12_manyWith_5 : decode cX12_manyWith 5 = .ok (.istore 5, 2) := by decide +kernel
theorem dX12_manyWith_7 : decode cX12_manyWith 7 = .ok (.iload 5, 2) := by decide +kernel
theorem dX12_manyWith_9 : decode cX12_manyWith 9 = .ok (.aload_n 0, 1) := by decide +kernel
theorem dX12_manyWith_10 : decode cX12_manyWith 10 = .ok (.getfield 153, 3) := by decide +kernel
theorem dX12_manyWith_13 : decode cX12_manyWith 13 = .ok (.if_icmp .ge 35, 3) := by decide +kernel
theorem dX12_manyWith_16 : decode cX12_manyWith 16 = .ok (.aload_n 0, 1) := by decide +kernel
theorem dX12_manyWith_17 : decode cX12_manyWith 17 = .ok (.iload 5, 2) := by decide +kernel
theorem dX12_manyWith_19 : decode cX12_manyWith 19 = .ok (.aload_n 0, 1) := by decide +kernel
theorem dX12_manyWith_20 : decode cX12_manyWith 20 = .ok (.getfield 23, 3) := by decide +kernel
theorem dX12_manyWith_23 : decode cX12_manyWith 23 = .ok (.iload 5, 2) := by decide +kernel
theorem dX12_manyWith_25 : decode cX12_manyWith 25 = .ok (.iaload, 1) := by decide +kernel
theorem dX12_manyWith_26 : decode cX12_manyWith 26 = .ok (.iload 5, 2) := by decide +kernel
theorem dX12_manyWith_28 : decode cX12_manyWith 28 = .ok (.iload_n 3, 1) := by decide +kernel
theorem dX12_manyWith_29 : decode cX12_manyWith 29 = .ok (.if_icmp .ne 8, 3) := by decide +kernel
theorem dX12_manyWith_32 : decode cX12_manyWith 32 = .ok (.iload 4, 2) := by decide +kernel
theorem dX12_manyWith_34 : decode cX12_manyWith 34 = .ok (.goto 4, 3) := by decide +kernel
theorem dX12_manyWith_37 : decode cX12_manyWith 37 = .ok (.iconst 0, 1) := by decide +kernel
theorem dX12_manyWith_38 : decode cX12_manyWith 38 = .ok (.iadd, 1) := by decide +kernel
theorem dX12_manyWith_39 : decode cX12_manyWith 39 = .ok (.invokevirtual 320, 3) := by decide +kernel
theorem dX12_manyWith_42 : decode cX12_manyWith 42 = .ok (.iinc 5 1, 3) := by decide +kernel
theorem dX12_manyWith_45 : decode cX12_manyWith 45 = .ok (.goto (-38), 3) := by decide +kernel
theorem dX12_manyWith_48 : decode cX12_manyWith 48 = .ok (.aload_n 0, 1) := by decide +kernel
theorem dX12_manyWith_49 : decode cX12_manyWith 49 = .ok (.iload_n 1, 1) := by decide +kernel
theorem dX12_manyWith_50 : decode cX12_manyWith 50 = .ok (.iload_n 2, 1) := by decide +kernel
theorem dX12_manyWith_51 : decode cX12_manyWith 51 = .ok (.invokevirtual 323, 3) := by decide +kernel
theorem dX12_manyWith_54 : decode cX12_manyWith 54 = .ok (.ireturn, 1) := by decide +kernel
set_option maxRecDepth 100000 in
set_option maxHeartbeats 4000000 in
theorem B_X12_manyWith_0 {κ : Nat → List Value → List Value → m2M → Prop} {D : Nat} {Q : Option Value → m2M → Prop} (h : m2_RL κ cX12_manyWith RX12 6 (D + 1) (some .int) Q) {x1 : Int32} {x2 : Int32} {x3 : Int32} {x4 : Int32} {μ : m2M} (k : ∃ Q3 : Option Value → m2M → Prop, m2_MT D yX12_clearFlow cX12_clearFlow 2 none [.ref kM] μ Q3 ∧ ∀ (μ2 : m2M), Q3 none μ2 → (κ 7 [.ref kM, .int x1, .int x2, .int x3, .int x4, .int 0] [] μ2)) : κ 0 [.ref kM, .int x1, .int x2, .int x3, .int x4, .null] [] μ := by
  have hB := h.b
  refine m2_aload_n hB dX12_manyWith_0 rfl ?_
  obtain ⟨Q3, hM4, k⟩ := k
  refine m2_invv hB (as := []) dX12_manyWith_1 mv_X12_317 rfl sh_kM rfl (Nat.le_of_ble_eq_true rfl) rfl hM4 (fun μ2 hq5 => ?_)
  replace k := k μ2 hq5
  refine m2_iconst hB dX12_manyWith_4 (v := 0) (by decide) ?_
  refine m2_istore hB (ls' := [.ref kM, .int x1, .int x2, .int x3, .int x4, .int 0]) dX12_manyWith_5 (by decide) rfl ?_
  exact k
set_option maxRecDepth 100000 in
set_option maxHeartbeats 4000000 in
theorem B_X12_manyWith_7 {κ : Nat → List Value → List Value → m2M → Prop} {D : Nat} {Q : Option Value → m2M → Prop} (h : m2_RL κ cX12_manyWith RX12 6 (D + 1) (some .int) Q) {v1 : Int32} {v2 : Int32} {v3 : Int32} {v4 : Int32} {v5 : Int32} {μ : m2M} (k : ((μ.1 kM 0) ≤ v5 → ∃ Q5 : Option Value → m2M → Prop, m2_MT D yX12_flow cX12_flow 6 (some .int) [.ref kM, .int v1, .int v2] μ Q5 ∧ ∀ (y3 : Int32) (μ4 : m2M), Q5 (some (.int y3)) μ4 → (Q (some (.int y3)) μ4)) ∧ (¬ (μ.1 kM 0) ≤ v5 → (vp_in v5 20) ∧ (∃ Q13 : Option Value → m2M → Prop, m2_MT D yX12_layDoor cX12_layDoor 3 none [.ref kM, .int v5, .int ((μ.1 kM_left (v5).toNatClampNeg) + (if v5 = v3 then v4 else 0 : Int32))] μ Q13 ∧ ∀ (μ12 : m2M), Q13 none μ12 → (κ 7 [.ref kM, .int v1, .int v2, .int v3, .int v4, .int (v5 + 1)] [] μ12)))) : κ 7 [.ref kM, .int v1, .int v2, .int v3, .int v4, .int v5] [] μ := by
  have hB := h.b
  refine m2_iload hB dX12_manyWith_7 rfl ?_
  refine m2_aload_n hB dX12_manyWith_9 rfl ?_
  refine m2_getI hB dX12_manyWith_10 fl_X12_153 sh_kM rfl ?_
  refine m2_icmp_ge hB dX12_manyWith_13 (tgt := 48) (by decide) (fun q2 : (μ.1 kM 0) ≤ v5 => ?_) (fun q2 : ¬ (μ.1 kM 0) ≤ v5 => ?_)
  · replace k := k.1 q2
    refine m2_aload_n hB dX12_manyWith_48 rfl ?_
    refine m2_iload_n hB dX12_manyWith_49 rfl ?_
    refine m2_iload_n hB dX12_manyWith_50 rfl ?_
    obtain ⟨Q5, hM6, k⟩ := k
    refine m2_invi hB (as := [.int v1, .int v2]) dX12_manyWith_51 mv_X12_323 rfl sh_kM rfl (Nat.le_of_ble_eq_true rfl) rfl hM6 (fun y3 μ4 hq7 => ?_)
    replace k := k y3 μ4 hq7
    exact m2_iret h dX12_manyWith_54 k
  · replace k := k.2 q2
    refine m2_aload_n hB dX12_manyWith_16 rfl ?_
    refine m2_iload hB dX12_manyWith_17 rfl ?_
    refine m2_aload_n hB dX12_manyWith_19 rfl ?_
    refine m2_getR hB dX12_manyWith_20 fl_X12_23 sh_kM (c1 := kM_left) rfl ?_
    refine m2_iload hB dX12_manyWith_23 rfl ?_
    obtain ⟨hi8, k⟩ := k
    refine m2_iald hB dX12_manyWith_25 sh_kM_left hi8 ?_
    refine m2_iload hB dX12_manyWith_26 rfl ?_
    refine m2_iload_n hB dX12_manyWith_28 rfl ?_
    have G10 : κ 38 [.ref kM, .int v1, .int v2, .int v3, .int v4, .int v5] [.int (if v5 = v3 then v4 else 0 : Int32), .int (μ.1 kM_left (v5).toNatClampNeg), .int v5, .ref kM] μ := by
      refine m2_iadd hB dX12_manyWith_38 ?_
      obtain ⟨Q13, hM14, k⟩ := k
      refine m2_invv hB (as := [.int v5, .int ((μ.1 kM_left (v5).toNatClampNeg) + (if v5 = v3 then v4 else 0 : Int32))]) dX12_manyWith_39 mv_X12_320 rfl sh_kM rfl (Nat.le_of_ble_eq_true rfl) rfl hM14 (fun μ12 hq15 => ?_)
      replace k := k μ12 hq15
      refine m2_iinc hB (ls' := [.ref kM, .int v1, .int v2, .int v3, .int v4, .int (v5 + 1)]) (v := (v5 + 1)) dX12_manyWith_42 rfl (by decide) rfl rfl ?_
      refine m2_goto hB dX12_manyWith_45 (tgt := 7) (by decide) ?_
      exact k
    refine m2_icmp_ne hB dX12_manyWith_29 (tgt := 37) (by decide) (fun q9 : ¬ v5 = v3 => ?_) (fun q9 : v5 = v3 => ?_)
    · rw [if_neg q9] at G10
      refine m2_iconst hB dX12_manyWith_37 (v := 0) (by decide) ?_
      exact G10
    · rw [if_pos q9] at G10
      refine m2_iload hB dX12_manyWith_32 rfl ?_
      refine m2_goto hB dX12_manyWith_34 (tgt := 38) (by decide) ?_
      exact G10
theorem dX12_many_0 : decode cX12_many 0 = .ok (.aload_n 0, 1) := by decide +kernel
theorem dX12_many_1 : decode cX12_many 1 = .ok (.iconst 0, 1) := by decide +kernel
theorem dX12_many_2 : decode cX12_many 2 = .ok (.putfield 143, 3) := by decide +kernel
theorem dX12_many_5 : decode cX12_many 5 = .ok (.iload_n 1, 1) := by decide +kernel
theorem dX12_many_6 : decode cX12_many 6 = .ok (.iload_n 2, 1) := by decide +kernel
theorem dX12_many_7 : decode cX12_many 7 = .ok (.invokestatic 326, 3) := by decide +kernel
theorem dX12_many_10 : decode cX12_many 10 = .ok (.ifCond .ne 5, 3) := by decide +kernel
theorem dX12_many_13 : decode cX12_many 13 = .ok (.iconst (-1), 1) := by decide +kernel
theorem dX12_many_14 : decode cX12_many 14 = .ok (.ireturn, 1) := by decide +kernel
theorem dX12_many_15 : decode cX12_many 15 = .ok (.aload_n 0, 1) := by decide +kernel
theorem dX12_many_16 : decode cX12_many 16 = .ok (.iload_n 1, 1) := by decide +kernel
theorem dX12_many_17 : decode cX12_many 17 = .ok (.iload_n 2, 1) := by decide +kernel
theorem dX12_many_18 : decode cX12_many 18 = .ok (.iconst (-1), 1) := by decide +kernel
theorem dX12_many_19 : decode cX12_many 19 = .ok (.iconst 0, 1) := by decide +kernel
theorem dX12_many_20 : decode cX12_many 20 = .ok (.invokevirtual 329, 3) := by decide +kernel
theorem dX12_many_23 : decode cX12_many 23 = .ok (.istore_n 3, 1) := by decide +kernel
theorem dX12_many_24 : decode cX12_many 24 = .ok (.iconst 0, 1) := by decide +kernel
theorem dX12_many_25 : decode cX12_many 25 = .ok (.istore 4, 2) := by decide +kernel
theorem dX12_many_27 : decode cX12_many 27 = .ok (.iconst 0, 1) := by decide +kernel
theorem dX12_many_28 : decode cX12_many 28 = .ok (.istore 5, 2) := by decide +kernel
theorem dX12_many_30 : decode cX12_many 30 = .ok (.iload 5, 2) := by decide +kernel
theorem dX12_many_32 : decode cX12_many 32 = .ok (.aload_n 0, 1) := by decide +kernel
theorem dX12_many_33 : decode cX12_many 33 = .ok (.getfield 153, 3) := by decide +kernel
theorem dX12_many_36 : decode cX12_many 36 = .ok (.if_icmp .ge 130, 3) := by decide +kernel
theorem dX12_many_39 : decode cX12_many 39 = .ok (.aload_n 0, 1) := by decide +kernel
theorem dX12_many_40 : decode cX12_many 40 = .ok (.getfield 89, 3) := by decide +kernel
theorem dX12_many_43 : decode cX12_many 43 = .ok (.aload_n 0, 1) := by decide +kernel
theorem dX12_many_44 : decode cX12_many 44 = .ok (.getfield 9, 3) := by decide +kernel
theorem dX12_many_47 : decode cX12_many 47 = .ok (.iload 5, 2) := by decide +kernel
theorem dX12_many_49 : decode cX12_many 49 = .ok (.iaload, 1) := by decide +kernel
theorem dX12_many_50 : decode cX12_many 50 = .ok (.iaload, 1) := by decide +kernel
theorem dX12_many_51 : decode cX12_many 51 = .ok (.iconst (-1), 1) := by decide +kernel
theorem dX12_many_52 : decode cX12_many 52 = .ok (.if_icmp .eq 23, 3) := by decide +kernel
theorem dX12_many_55 : decode cX12_many 55 = .ok (.aload_n 0, 1) := by decide +kernel
theorem dX12_many_56 : decode cX12_many 56 = .ok (.getfield 89, 3) := by decide +kernel
theorem dX12_many_59 : decode cX12_many 59 = .ok (.aload_n 0, 1) := by decide +kernel
theorem dX12_many_60 : decode cX12_many 60 = .ok (.getfield 13, 3) := by decide +kernel
theorem dX12_many_63 : decode cX12_many 63 = .ok (.iload 5, 2) := by decide +kernel
theorem dX12_many_65 : decode cX12_many 65 = .ok (.iaload, 1) := by decide +kernel
theorem dX12_many_66 : decode cX12_many 66 = .ok (.iaload, 1) := by decide +kernel
theorem dX12_many_67 : decode cX12_many 67 = .ok (.iconst (-1), 1) := by decide +kernel
theorem dX12_many_68 : decode cX12_many 68 = .ok (.if_icmp .ne 7, 3) := by decide +kernel
theorem dX12_many_71 : decode cX12_many 71 = .ok (.iconst 1, 1) := by decide +kernel
theorem dX12_many_72 : decode cX12_many 72 = .ok (.goto 4, 3) := by decide +kernel
theorem dX12_many_75 : decode cX12_many 75 = .ok (.iconst 0, 1) := by decide +kernel
theorem dX12_many_76 : decode cX12_many 76 = .ok (.istore 6, 2) := by decide +kernel
theorem dX12_many_78 : decode cX12_many 78 = .ok (.aload_n 0, 1) := by decide +kernel
theorem dX12_many_79 : decode cX12_many 79 = .ok (.getfield 89, 3) := by decide +kernel
theorem dX12_many_82 : decode cX12_many 82 = .ok (.aload_n 0, 1) := by decide +kernel
theorem dX12_many_83 : decode cX12_many 83 = .ok (.getfield 13, 3) := by decide +kernel
theorem dX12_many_86 : decode cX12_many 86 = .ok (.iload 5, 2) := by decide +kernel
theorem dX12_many_88 : decode cX12_many 88 = .ok (.iaload, 1) := by decide +kernel
theorem dX12_many_89 : decode cX12_many 89 = .ok (.iaload, 1) := by decide +kernel
theorem dX12_many_90 : decode cX12_many 90 = .ok (.iconst (-1), 1) := by decide +kernel
theorem dX12_many_91 : decode cX12_many 91 = .ok (.if_icmp .eq 33, 3) := by decide +kernel
theorem dX12_many_94 : decode cX12_many 94 = .ok (.aload_n 0, 1) := by decide +kernel
theorem dX12_many_95 : decode cX12_many 95 = .ok (.getfield 89, 3) := by decide +kernel
theorem dX12_many_98 : decode cX12_many 98 = .ok (.aload_n 0, 1) := by decide +kernel
theorem dX12_many_99 : decode cX12_many 99 = .ok (.getfield 9, 3) := by decide +kernel
theorem dX12_many_102 : decode cX12_many 102 = .ok (.iload 5, 2) := by decide +kernel
theorem dX12_many_104 : decode cX12_many 104 = .ok (.iaload, 1) := by decide +kernel
theorem dX12_many_105 : decode cX12_many 105 = .ok (.iaload, 1) := by decide +kernel
theorem dX12_many_106 : decode cX12_many 106 = .ok (.iconst (-1), 1) := by decide +kernel
theorem dX12_many_107 : decode cX12_many 107 = .ok (.if_icmp .ne 17, 3) := by decide +kernel
theorem dX12_many_110 : decode cX12_many 110 = .ok (.aload_n 0, 1) := by decide +kernel
theorem dX12_many_111 : decode cX12_many 111 = .ok (.getfield 16, 3) := by decide +kernel
theorem dX12_many_114 : decode cX12_many 114 = .ok (.iload 5, 2) := by decide +kernel
theorem dX12_many_116 : decode cX12_many 116 = .ok (.baload, 1) := by decide +kernel
theorem dX12_many_117 : decode cX12_many 117 = .ok (.ifCond .ne 7, 3) := by decide +kernel
theorem dX12_many_120 : decode cX12_many 120 = .ok (.iconst 1, 1) := by decide +kernel
theorem dX12_many_121 : decode cX12_many 121 = .ok (.goto 4, 3) := by decide +kernel
theorem dX12_many_124 : decode cX12_many 124 = .ok (.iconst 0, 1) := by decide +kernel
theorem dX12_many_125 : decode cX12_many 125 = .ok (.istore 7, 2) := by decide +kernel
theorem dX12_many_127 : decode cX12_many 127 = .ok (.iload 4, 2) := by decide +kernel
theorem dX12_many_129 : decode cX12_many 129 = .ok (.aload_n 0, 1) := by decide +kernel
theorem dX12_many_130 : decode cX12_many 130 = .ok (.getfield 23, 3) := by decide +kernel
theorem dX12_many_133 : decode cX12_many 133 = .ok (.iload 5, 2) := by decide +kernel
theorem dX12_many_135 : decode cX12_many 135 = .ok (.iaload, 1) := by decide +kernel
theorem dX12_many_136 : decode cX12_many 136 = .ok (.ifCond .le 20, 3) := by decide +kernel
theorem dX12_many_139 : decode cX12_many 139 = .ok (.iload 6, 2) := by decide +kernel
theorem dX12_many_141 : decode cX12_many 141 = .ok (.ifCond .ne 8, 3) := by decide +kernel
theorem dX12_many_144 : decode cX12_many 144 = .ok (.iload 7, 2) := by decide +kernel
theorem dX12_many_146 : decode cX12_many 146 = .ok (.ifCond .eq 10, 3) := by decide +kernel
theorem dX12_many_149 : decode cX12_many 149 = .ok (.iconst 1, 1) := by decide +kernel
theorem dX12_many_150 : decode cX12_many 150 = .ok (.iload 5, 2) := by decide +kernel
theorem dX12_many_152 : decode cX12_many 152 = .ok (.ishl, 1) := by decide +kernel
theorem dX12_many_153 : decode cX12_many 153 = .ok (.goto 4, 3) := by decide +kernel
theorem dX12_many_156 : decode cX12_many 156 = .ok (.iconst 0, 1) := by decide +kernel
theorem dX12_many_157 : decode cX12_many 157 = .ok (.ior, 1) := by decide +kernel
theorem dX12_many_158 : decode cX12_many 158 = .ok (.istore 4, 2) := by decide +kernel
theorem dX12_many_160 : decode cX12_many 160 = .ok (.iinc 5 1, 3) := by decide +kernel
theorem dX12_many_163 : decode cX12_many 163 = .ok (.goto (-133), 3) := by decide +kernel
theorem dX12_many_166 : decode cX12_many 166 = .ok (.aload_n 0, 1) := by decide +kernel
theorem dX12_many_167 : decode cX12_many 167 = .ok (.iconst 0, 1) := by decide +kernel
theorem dX12_many_168 : decode cX12_many 168 = .ok (.putfield 146, 3) := by decide +kernel
theorem dX12_many_171 : decode cX12_many 171 = .ok (.aload_n 0, 1) := by decide +kernel
theorem dX12_many_172 : decode cX12_many 172 = .ok (.iload 4, 2) := by decide +kernel
theorem dX12_many_174 : decode cX12_many 174 = .ok (.i2l, 1) := by decide +kernel
theorem dX12_many_175 : decode cX12_many 175 = .ok (.invokevirtual 278, 3) := by decide +kernel
theorem dX12_many_178 : decode cX12_many 178 = .ok (.iload_n 3, 1) := by decide +kernel
theorem dX12_many_179 : decode cX12_many 179 = .ok (.ireturn, 1) := by decide +kernel
set_option maxRecDepth 100000 in
set_option maxHeartbeats 4000000 in
theorem B_X12_many_0 {κ : Nat → List Value → List Value → m2M → Prop} {D : Nat} {Q : Option Value → m2M → Prop} (h : m2_RL κ cX12_many RX12 8 (D + 1) (some .int) Q) (hD : 2 ≤ D) {x1 : Int32} {x2 : Int32} {μ : m2M} (k : ((fX12_areEnds x1 x2) = 1 → ∃ Q7 : Option Value → m2M → Prop, m2_MT D yX12_manyWith cX12_manyWith 6 (some .int) [.ref kM, .int x1, .int x2, .int (-1), .int 0] (m2_si μ kM 22 0) Q7 ∧ ∀ (y5 : Int32) (μ6 : m2M), Q7 (some (.int y5)) μ6 → (κ 30 [.ref kM, .int x1, .int x2, .int y5, .int 0, .int 0, .null, .null] [] μ6)) ∧ (¬ (fX12_areEnds x1 x2) = 1 → Q (some (.int (-1))) (m2_si μ kM 22 0))) : κ 0 [.ref kM, .int x1, .int x2, .null, .null, .null, .null, .null] [] μ := by
  have hB := h.b
  refine m2_aload_n hB dX12_many_0 rfl ?_
  refine m2_iconst hB dX12_many_1 (v := 0) (by decide) ?_
  refine m2_putI hB dX12_many_2 fl_X12_143 sh_kM rfl ?_
  refine m2_iload_n hB dX12_many_5 rfl ?_
  refine m2_iload_n hB dX12_many_6 rfl ?_
  refine m2_invSz hB (as := [.int x1, .int x2]) dX12_many_7 ms_X12_326 rfl (Nat.le_of_ble_eq_true rfl) rfl (P_X12_areEnds (by omega) (x1) (x2) _ ) (fun y1 μ2 hq3 => ?_)
  obtain ⟨⟨⟩, hq3⟩ := hq3
  subst μ2
  show κ 10 [.ref kM, .int x1, .int x2, .null, .null, .null, .null, .null] [.int (if (fX12_areEnds x1 x2) = 1 then 1 else 0 : Int32)] (m2_si μ kM 22 0)
  by_cases q4 : (fX12_areEnds x1 x2) = 1
  · rw [if_pos q4]
    replace k := k.1 q4
    refine m2_if_ne hB dX12_many_10 (tgt := 15) (by decide) (fun _ => ?_) (fun q => absurd q (by decide))
    refine m2_aload_n hB dX12_many_15 rfl ?_
    refine m2_iload_n hB dX12_many_16 rfl ?_
    refine m2_iload_n hB dX12_many_17 rfl ?_
    refine m2_iconst hB dX12_many_18 (v := (-1)) (by decide) ?_
    refine m2_iconst hB dX12_many_19 (v := 0) (by decide) ?_
    obtain ⟨Q7, hM8, k⟩ := k
    refine m2_invi hB (as := [.int x1, .int x2, .int (-1), .int 0]) dX12_many_20 mv_X12_329 rfl sh_kM rfl (Nat.le_of_ble_eq_true rfl) rfl hM8 (fun y5 μ6 hq9 => ?_)
    replace k := k y5 μ6 hq9
    refine m2_istore_n hB (ls' := [.ref kM, .int x1, .int x2, .int y5, .null, .null, .null, .null]) dX12_many_23 rfl (by decide) rfl ?_
    refine m2_iconst hB dX12_many_24 (v := 0) (by decide) ?_
    refine m2_istore hB (ls' := [.ref kM, .int x1, .int x2, .int y5, .int 0, .null, .null, .null]) dX12_many_25 (by decide) rfl ?_
    refine m2_iconst hB dX12_many_27 (v := 0) (by decide) ?_
    refine m2_istore hB (ls' := [.ref kM, .int x1, .int x2, .int y5, .int 0, .int 0, .null, .null]) dX12_many_28 (by decide) rfl ?_
    exact k
  · rw [if_neg q4]
    replace k := k.2 q4
    refine m2_if_ne hB dX12_many_10 (tgt := 15) (by decide) (fun q => absurd q (by decide)) (fun _ => ?_)
    refine m2_iconst hB dX12_many_13 (v := (-1)) (by decide) ?_
    exact m2_iret h dX12_many_14 k
set_option maxRecDepth 100000 in
set_option maxHeartbeats 4000000 in
theorem B_X12_many_30 {κ : Nat → List Value → List Value → m2M → Prop} {D : Nat} {Q : Option Value → m2M → Prop} (h : m2_RL κ cX12_many RX12 8 (D + 1) (some .int) Q) {v1 : Int32} {v2 : Int32} {v3 : Int32} {v4 : Int32} {v5 : Int32} {μ : m2M} (k : ((μ.1 kM 0) ≤ v5 → ∃ Q5 : Option Value → m2M → Prop, m2_MT D yX12_tell cX12_tell 3 none [.ref kM, .long (v4).toInt64] (m2_si μ kM 21 0) Q5 ∧ ∀ (μ4 : m2M), Q5 none μ4 → (Q (some (.int v3)) μ4)) ∧ (¬ (μ.1 kM 0) ≤ v5 → (vp_in v5 20) ∧ ((vp_in (μ.1 kM_doorA (v5).toNatClampNeg) 14) ∧ (((μ.1 kM_cameFrom ((μ.1 kM_doorA (v5).toNatClampNeg)).toNatClampNeg) = (-1) → κ 75 [.ref kM, .int v1, .int v2, .int v3, .int v4, .int v5, .null, .null] [] μ) ∧ (¬ (μ.1 kM_cameFrom ((μ.1 kM_doorA (v5).toNatClampNeg)).toNatClampNeg) = (-1) → (vp_in (μ.1 kM_doorB (v5).toNatClampNeg) 14) ∧ ((¬ (μ.1 kM_cameFrom ((μ.1 kM_doorB (v5).toNatClampNeg)).toNatClampNeg) = (-1) → κ 75 [.ref kM, .int v1, .int v2, .int v3, .int v4, .int v5, .null, .null] [] μ) ∧ ((μ.1 kM_cameFrom ((μ.1 kM_doorB (v5).toNatClampNeg)).toNatClampNeg) = (-1) → ((μ.1 kM_cameFrom ((μ.1 kM_doorB (v5).toNatClampNeg)).toNatClampNeg) = (-1) → κ 124 [.ref kM, .int v1, .int v2, .int v3, .int v4, .int v5, .int 1, .null] [] μ) ∧ (¬ (μ.1 kM_cameFrom ((μ.1 kM_doorB (v5).toNatClampNeg)).toNatClampNeg) = (-1) → (¬ (μ.1 kM_cameFrom ((μ.1 kM_doorA (v5).toNatClampNeg)).toNatClampNeg) = (-1) → κ 124 [.ref kM, .int v1, .int v2, .int v3, .int v4, .int v5, .int 1, .null] [] μ) ∧ ((μ.1 kM_cameFrom ((μ.1 kM_doorA (v5).toNatClampNeg)).toNatClampNeg) = (-1) → (¬ (μ.1 kM_isOneWay (v5).toNatClampNeg) = 0 → κ 124 [.ref kM, .int v1, .int v2, .int v3, .int v4, .int v5, .int 1, .null] [] μ) ∧ ((μ.1 kM_isOneWay (v5).toNatClampNeg) = 0 → ((μ.1 kM_left (v5).toNatClampNeg) ≤ 0 → κ 30 [.ref kM, .int v1, .int v2, .int v3, .int (v4 ||| (0 : Int32)), .int (v5 + 1), .null, .null] [] μ) ∧ (¬ (μ.1 kM_left (v5).toNatClampNeg) ≤ 0 → κ 30 [.ref kM, .int v1, .int v2, .int v3, .int (v4 ||| ((1 : Int32) <<< (v5 &&& 31))), .int (v5 + 1), .null, .null] [] μ))))))))))) : κ 30 [.ref kM, .int v1, .int v2, .int v3, .int v4, .int v5, .null, .null] [] μ := by
  have hB := h.b
  refine m2_iload hB dX12_many_30 rfl ?_
  refine m2_aload_n hB dX12_many_32 rfl ?_
  refine m2_getI hB dX12_many_33 fl_X12_153 sh_kM rfl ?_
  refine m2_icmp_ge hB dX12_many_36 (tgt := 166) (by decide) (fun q2 : (μ.1 kM 0) ≤ v5 => ?_) (fun q2 : ¬ (μ.1 kM 0) ≤ v5 => ?_)
  · replace k := k.1 q2
    refine m2_aload_n hB dX12_many_166 rfl ?_
    refine m2_iconst hB dX12_many_167 (v := 0) (by decide) ?_
    refine m2_putI hB dX12_many_168 fl_X12_146 sh_kM rfl ?_
    refine m2_aload_n hB dX12_many_171 rfl ?_
    refine m2_iload hB dX12_many_172 rfl ?_
    refine m2_i2l hB dX12_many_174 ?_
    obtain ⟨Q5, hM6, k⟩ := k
    refine m2_invv hB (as := [.long (v4).toInt64]) dX12_many_175 mv_X12_278 rfl sh_kM rfl (Nat.le_of_ble_eq_true rfl) rfl hM6 (fun μ4 hq7 => ?_)
    replace k := k μ4 hq7
    refine m2_iload_n hB dX12_many_178 rfl ?_
    exact m2_iret h dX12_many_179 k
  · replace k := k.2 q2
    refine m2_aload_n hB dX12_many_39 rfl ?_
    refine m2_getR hB dX12_many_40 fl_X12_89 sh_kM (c1 := kM_cameFrom) rfl ?_
    refine m2_aload_n hB dX12_many_43 rfl ?_
    refine m2_getR hB dX12_many_44 fl_X12_9 sh_kM (c1 := kM_doorA) rfl ?_
    refine m2_iload hB dX12_many_47 rfl ?_
    obtain ⟨hi8, k⟩ := k
    refine m2_iald hB dX12_many_49 sh_kM_doorA hi8 ?_
    obtain ⟨hi9, k⟩ := k
    refine m2_iald hB dX12_many_50 sh_kM_cameFrom hi9 ?_
    refine m2_iconst hB dX12_many_51 (v := (-1)) (by decide) ?_
    refine m2_icmp_eq hB dX12_many_52 (tgt := 75) (by decide) (fun q10 : (μ.1 kM_cameFrom ((μ.1 kM_doorA (v5).toNatClampNeg)).toNatClampNeg) = (-1) => ?_) (fun q10 : ¬ (μ.1 kM_cameFrom ((μ.1 kM_doorA (v5).toNatClampNeg)).toNatClampNeg) = (-1) => ?_)
    · replace k := k.1 q10
      exact k
    · replace k := k.2 q10
      refine m2_aload_n hB dX12_many_55 rfl ?_
      refine m2_getR hB dX12_many_56 fl_X12_89 sh_kM (c1 := kM_cameFrom) rfl ?_
      refine m2_aload_n hB dX12_many_59 rfl ?_
      refine m2_getR hB dX12_many_60 fl_X12_13 sh_kM (c1 := kM_doorB) rfl ?_
      refine m2_iload hB dX12_many_63 rfl ?_
      have hi11 := hi8
      refine m2_iald hB dX12_many_65 sh_kM_doorB hi11 ?_
      obtain ⟨hi12, k⟩ := k
      refine m2_iald hB dX12_many_66 sh_kM_cameFrom hi12 ?_
      refine m2_iconst hB dX12_many_67 (v := (-1)) (by decide) ?_
      refine m2_icmp_ne hB dX12_many_68 (tgt := 75) (by decide) (fun q13 : ¬ (μ.1 kM_cameFrom ((μ.1 kM_doorB (v5).toNatClampNeg)).toNatClampNeg) = (-1) => ?_) (fun q13 : (μ.1 kM_cameFrom ((μ.1 kM_doorB (v5).toNatClampNeg)).toNatClampNeg) = (-1) => ?_)
      · replace k := k.1 q13
        exact k
      · replace k := k.2 q13
        refine m2_iconst hB dX12_many_71 (v := 1) (by decide) ?_
        refine m2_goto hB dX12_many_72 (tgt := 76) (by decide) ?_
        refine m2_istore hB (ls' := [.ref kM, .int v1, .int v2, .int v3, .int v4, .int v5, .int 1, .null]) dX12_many_76 (by decide) rfl ?_
        refine m2_aload_n hB dX12_many_78 rfl ?_
        refine m2_getR hB dX12_many_79 fl_X12_89 sh_kM (c1 := kM_cameFrom) rfl ?_
        refine m2_aload_n hB dX12_many_82 rfl ?_
        refine m2_getR hB dX12_many_83 fl_X12_13 sh_kM (c1 := kM_doorB) rfl ?_
        refine m2_iload hB dX12_many_86 rfl ?_
        have hi14 := hi8
        refine m2_iald hB dX12_many_88 sh_kM_doorB hi14 ?_
        have hi15 := hi12
        refine m2_iald hB dX12_many_89 sh_kM_cameFrom hi15 ?_
        refine m2_iconst hB dX12_many_90 (v := (-1)) (by decide) ?_
        refine m2_icmp_eq hB dX12_many_91 (tgt := 124) (by decide) (fun q16 : (μ.1 kM_cameFrom ((μ.1 kM_doorB (v5).toNatClampNeg)).toNatClampNeg) = (-1) => ?_) (fun q16 : ¬ (μ.1 kM_cameFrom ((μ.1 kM_doorB (v5).toNatClampNeg)).toNatClampNeg) = (-1) => ?_)
        · replace k := k.1 q16
          exact k
        · replace k := k.2 q16
          refine m2_aload_n hB dX12_many_94 rfl ?_
          refine m2_getR hB dX12_many_95 fl_X12_89 sh_kM (c1 := kM_cameFrom) rfl ?_
          refine m2_aload_n hB dX12_many_98 rfl ?_
          refine m2_getR hB dX12_many_99 fl_X12_9 sh_kM (c1 := kM_doorA) rfl ?_
          refine m2_iload hB dX12_many_102 rfl ?_
          have hi17 := hi8
          refine m2_iald hB dX12_many_104 sh_kM_doorA hi17 ?_
          have hi18 := hi9
          refine m2_iald hB dX12_many_105 sh_kM_cameFrom hi18 ?_
          refine m2_iconst hB dX12_many_106 (v := (-1)) (by decide) ?_
          refine m2_icmp_ne hB dX12_many_107 (tgt := 124) (by decide) (fun q19 : ¬ (μ.1 kM_cameFrom ((μ.1 kM_doorA (v5).toNatClampNeg)).toNatClampNeg) = (-1) => ?_) (fun q19 : (μ.1 kM_cameFrom ((μ.1 kM_doorA (v5).toNatClampNeg)).toNatClampNeg) = (-1) => ?_)
          · replace k := k.1 q19
            exact k
          · replace k := k.2 q19
            refine m2_aload_n hB dX12_many_110 rfl ?_
            refine m2_getR hB dX12_many_111 fl_X12_16 sh_kM (c1 := kM_isOneWay) rfl ?_
            refine m2_iload hB dX12_many_114 rfl ?_
            have hi20 := hi8
            refine m2_zald hB dX12_many_116 sh_kM_isOneWay hi20 ?_
            refine m2_if_ne hB dX12_many_117 (tgt := 124) (by decide) (fun q21 : ¬ (μ.1 kM_isOneWay (v5).toNatClampNeg) = 0 => ?_) (fun q21 : (μ.1 kM_isOneWay (v5).toNatClampNeg) = 0 => ?_)
            · replace k := k.1 q21
              exact k
            · replace k := k.2 q21
              refine m2_iconst hB dX12_many_120 (v := 1) (by decide) ?_
              refine m2_goto hB dX12_many_121 (tgt := 125) (by decide) ?_
              refine m2_istore hB (ls' := [.ref kM, .int v1, .int v2, .int v3, .int v4, .int v5, .int 1, .int 1]) dX12_many_125 (by decide) rfl ?_
              refine m2_iload hB dX12_many_127 rfl ?_
              refine m2_aload_n hB dX12_many_129 rfl ?_
              refine m2_getR hB dX12_many_130 fl_X12_23 sh_kM (c1 := kM_left) rfl ?_
              refine m2_iload hB dX12_many_133 rfl ?_
              have hi22 := hi8
              refine m2_iald hB dX12_many_135 sh_kM_left hi22 ?_
              refine m2_if_le hB dX12_many_136 (tgt := 156) (by decide) (fun q23 : (μ.1 kM_left (v5).toNatClampNeg) ≤ 0 => ?_) (fun q23 : ¬ (μ.1 kM_left (v5).toNatClampNeg) ≤ 0 => ?_)
              · replace k := k.1 q23
                refine m2_iconst hB dX12_many_156 (v := 0) (by decide) ?_
                refine m2_ior hB dX12_many_157 ?_
                refine m2_istore hB (ls' := [.ref kM, .int v1, .int v2, .int v3, .int (v4 ||| (0 : Int32)), .int v5, .int 1, .int 1]) dX12_many_158 (by decide) rfl ?_
                refine m2_iinc hB (ls' := [.ref kM, .int v1, .int v2, .int v3, .int (v4 ||| (0 : Int32)), .int (v5 + 1), .int 1, .int 1]) (v := (v5 + 1)) dX12_many_160 rfl (by decide) rfl rfl ?_
                refine m2_goto hB dX12_many_163 (tgt := 30) (by decide) ?_
                exact m2_weak (ls' := [.ref kM, .int v1, .int v2, .int v3, .int (v4 ||| (0 : Int32)), .int (v5 + 1), .null, .null]) hB ⟨Or.inr rfl, Or.inr rfl, Or.inr rfl, Or.inr rfl, Or.inr rfl, Or.inr rfl, Or.inl rfl, Or.inl rfl, trivial⟩ k
              · replace k := k.2 q23
                refine m2_iload hB dX12_many_139 rfl ?_
                refine m2_if_ne hB dX12_many_141 (tgt := 149) (by decide) (fun _ => ?_) (fun q => absurd q (by decide))
                refine m2_iconst hB dX12_many_149 (v := 1) (by decide) ?_
                refine m2_iload hB dX12_many_150 rfl ?_
                refine m2_ishl hB dX12_many_152 ?_
                refine m2_goto hB dX12_many_153 (tgt := 157) (by decide) ?_
                refine m2_ior hB dX12_many_157 ?_
                refine m2_istore hB (ls' := [.ref kM, .int v1, .int v2, .int v3, .int (v4 ||| ((1 : Int32) <<< (v5 &&& 31))), .int v5, .int 1, .int 1]) dX12_many_158 (by decide) rfl ?_
                refine m2_iinc hB (ls' := [.ref kM, .int v1, .int v2, .int v3, .int (v4 ||| ((1 : Int32) <<< (v5 &&& 31))), .int (v5 + 1), .int 1, .int 1]) (v := (v5 + 1)) dX12_many_160 rfl (by decide) rfl rfl ?_
                refine m2_goto hB dX12_many_163 (tgt := 30) (by decide) ?_
                exact m2_weak (ls' := [.ref kM, .int v1, .int v2, .int v3, .int (v4 ||| ((1 : Int32) <<< (v5 &&& 31))), .int (v5 + 1), .null, .null]) hB ⟨Or.inr rfl, Or.inr rfl, Or.inr rfl, Or.inr rfl, Or.inr rfl, Or.inr rfl, Or.inl rfl, Or.inl rfl, trivial⟩ k
set_option maxRecDepth 100000 in
set_option maxHeartbeats 4000000 in
theorem B_X12_many_75 {κ : Nat → List Value → List Value → m2M → Prop} {D : Nat} {Q : Option Value → m2M → Prop} (h : m2_RL κ cX12_many RX12 8 D (some .int) Q) {v1 : Int32} {v2 : Int32} {v3 : Int32} {v4 : Int32} {v5 : Int32} {μ : m2M} (k : (vp_in v5 20) ∧ ((vp_in (μ.1 kM_doorB (v5).toNatClampNeg) 14) ∧ (((μ.1 kM_cameFrom ((μ.1 kM_doorB (v5).toNatClampNeg)).toNatClampNeg) = (-1) → κ 124 [.ref kM, .int v1, .int v2, .int v3, .int v4, .int v5, .int 0, .null] [] μ) ∧ (¬ (μ.1 kM_cameFrom ((μ.1 kM_doorB (v5).toNatClampNeg)).toNatClampNeg) = (-1) → (vp_in (μ.1 kM_doorA (v5).toNatClampNeg) 14) ∧ ((¬ (μ.1 kM_cameFrom ((μ.1 kM_doorA (v5).toNatClampNeg)).toNatClampNeg) = (-1) → κ 124 [.ref kM, .int v1, .int v2, .int v3, .int v4, .int v5, .int 0, .null] [] μ) ∧ ((μ.1 kM_cameFrom ((μ.1 kM_doorA (v5).toNatClampNeg)).toNatClampNeg) = (-1) → (¬ (μ.1 kM_isOneWay (v5).toNatClampNeg) = 0 → κ 124 [.ref kM, .int v1, .int v2, .int v3, .int v4, .int v5, .int 0, .null] [] μ) ∧ ((μ.1 kM_isOneWay (v5).toNatClampNeg) = 0 → ((μ.1 kM_left (v5).toNatClampNeg) ≤ 0 → κ 30 [.ref kM, .int v1, .int v2, .int v3, .int (v4 ||| (0 : Int32)), .int (v5 + 1), .null, .null] [] μ) ∧ (¬ (μ.1 kM_left (v5).toNatClampNeg) ≤ 0 → κ 30 [.ref kM, .int v1, .int v2, .int v3, .int (v4 ||| ((1 : Int32) <<< (v5 &&& 31))), .int (v5 + 1), .null, .null] [] μ)))))))) : κ 75 [.ref kM, .int v1, .int v2, .int v3, .int v4, .int v5, .null, .null] [] μ := by
  have hB := h.b
  refine m2_iconst hB dX12_many_75 (v := 0) (by decide) ?_
  refine m2_istore hB (ls' := [.ref kM, .int v1, .int v2, .int v3, .int v4, .int v5, .int 0, .null]) dX12_many_76 (by decide) rfl ?_
  refine m2_aload_n hB dX12_many_78 rfl ?_
  refine m2_getR hB dX12_many_79 fl_X12_89 sh_kM (c1 := kM_cameFrom) rfl ?_
  refine m2_aload_n hB dX12_many_82 rfl ?_
  refine m2_getR hB dX12_many_83 fl_X12_13 sh_kM (c1 := kM_doorB) rfl ?_
  refine m2_iload hB dX12_many_86 rfl ?_
  obtain ⟨hi1, k⟩ := k
  refine m2_iald hB dX12_many_88 sh_kM_doorB hi1 ?_
  obtain ⟨hi2, k⟩ := k
  refine m2_iald hB dX12_many_89 sh_kM_cameFrom hi2 ?_
  refine m2_iconst hB dX12_many_90 (v := (-1)) (by decide) ?_
  refine m2_icmp_eq hB dX12_many_91 (tgt := 124) (by decide) (fun q3 : (μ.1 kM_cameFrom ((μ.1 kM_doorB (v5).toNatClampNeg)).toNatClampNeg) = (-1) => ?_) (fun q3 : ¬ (μ.1 kM_cameFrom ((μ.1 kM_doorB (v5).toNatClampNeg)).toNatClampNeg) = (-1) => ?_)
  · replace k := k.1 q3
    exact k
  · replace k := k.2 q3
    refine m2_aload_n hB dX12_many_94 rfl ?_
    refine m2_getR hB dX12_many_95 fl_X12_89 sh_kM (c1 := kM_cameFrom) rfl ?_
    refine m2_aload_n hB dX12_many_98 rfl ?_
    refine m2_getR hB dX12_many_99 fl_X12_9 sh_kM (c1 := kM_doorA) rfl ?_
    refine m2_iload hB dX12_many_102 rfl ?_
    have hi4 := hi1
    refine m2_iald hB dX12_many_104 sh_kM_doorA hi4 ?_
    obtain ⟨hi5, k⟩ := k
    refine m2_iald hB dX12_many_105 sh_kM_cameFrom hi5 ?_
    refine m2_iconst hB dX12_many_106 (v := (-1)) (by decide) ?_
    refine m2_icmp_ne hB dX12_many_107 (tgt := 124) (by decide) (fun q6 : ¬ (μ.1 kM_cameFrom ((μ.1 kM_doorA (v5).toNatClampNeg)).toNatClampNeg) = (-1) => ?_) (fun q6 : (μ.1 kM_cameFrom ((μ.1 kM_doorA (v5).toNatClampNeg)).toNatClampNeg) = (-1) => ?_)
    · replace k := k.1 q6
      exact k
    · replace k := k.2 q6
      refine m2_aload_n hB dX12_many_110 rfl ?_
      refine m2_getR hB dX12_many_111 fl_X12_16 sh_kM (c1 := kM_isOneWay) rfl ?_
      refine m2_iload hB dX12_many_114 rfl ?_
      have hi7 := hi1
      refine m2_zald hB dX12_many_116 sh_kM_isOneWay hi7 ?_
      refine m2_if_ne hB dX12_many_117 (tgt := 124) (by decide) (fun q8 : ¬ (μ.1 kM_isOneWay (v5).toNatClampNeg) = 0 => ?_) (fun q8 : (μ.1 kM_isOneWay (v5).toNatClampNeg) = 0 => ?_)
      · replace k := k.1 q8
        exact k
      · replace k := k.2 q8
        refine m2_iconst hB dX12_many_120 (v := 1) (by decide) ?_
        refine m2_goto hB dX12_many_121 (tgt := 125) (by decide) ?_
        refine m2_istore hB (ls' := [.ref kM, .int v1, .int v2, .int v3, .int v4, .int v5, .int 0, .int 1]) dX12_many_125 (by decide) rfl ?_
        refine m2_iload hB dX12_many_127 rfl ?_
        refine m2_aload_n hB dX12_many_129 rfl ?_
        refine m2_getR hB dX12_many_130 fl_X12_23 sh_kM (c1 := kM_left) rfl ?_
        refine m2_iload hB dX12_many_133 rfl ?_
        have hi9 := hi1
        refine m2_iald hB dX12_many_135 sh_kM_left hi9 ?_
        refine m2_if_le hB dX12_many_136 (tgt := 156) (by decide) (fun q10 : (μ.1 kM_left (v5).toNatClampNeg) ≤ 0 => ?_) (fun q10 : ¬ (μ.1 kM_left (v5).toNatClampNeg) ≤ 0 => ?_)
        · replace k := k.1 q10
          refine m2_iconst hB dX12_many_156 (v := 0) (by decide) ?_
          refine m2_ior hB dX12_many_157 ?_
          refine m2_istore hB (ls' := [.ref kM, .int v1, .int v2, .int v3, .int (v4 ||| (0 : Int32)), .int v5, .int 0, .int 1]) dX12_many_158 (by decide) rfl ?_
          refine m2_iinc hB (ls' := [.ref kM, .int v1, .int v2, .int v3, .int (v4 ||| (0 : Int32)), .int (v5 + 1), .int 0, .int 1]) (v := (v5 + 1)) dX12_many_160 rfl (by decide) rfl rfl ?_
          refine m2_goto hB dX12_many_163 (tgt := 30) (by decide) ?_
          exact m2_weak (ls' := [.ref kM, .int v1, .int v2, .int v3, .int (v4 ||| (0 : Int32)), .int (v5 + 1), .null, .null]) hB ⟨Or.inr rfl, Or.inr rfl, Or.inr rfl, Or.inr rfl, Or.inr rfl, Or.inr rfl, Or.inl rfl, Or.inl rfl, trivial⟩ k
        · replace k := k.2 q10
          refine m2_iload hB dX12_many_139 rfl ?_
          refine m2_if_ne hB dX12_many_141 (tgt := 149) (by decide) (fun q => absurd q (by decide)) (fun _ => ?_)
          refine m2_iload hB dX12_many_144 rfl ?_
          refine m2_if_eq hB dX12_many_146 (tgt := 156) (by decide) (fun q => absurd q (by decide)) (fun _ => ?_)
          refine m2_iconst hB dX12_many_149 (v := 1) (by decide) ?_
          refine m2_iload hB dX12_many_150 rfl ?_
          refine m2_ishl hB dX12_many_152 ?_
          refine m2_goto hB dX12_many_153 (tgt := 157) (by decide) ?_
          refine m2_ior hB dX12_many_157 ?_
          refine m2_istore hB (ls' := [.ref kM, .int v1, .int v2, .int v3, .int (v4 ||| ((1 : Int32) <<< (v5 &&& 31))), .int v5, .int 0, .int 1]) dX12_many_158 (by decide) rfl ?_
          refine m2_iinc hB (ls' := [.ref kM, .int v1, .int v2, .int v3, .int (v4 ||| ((1 : Int32) <<< (v5 &&& 31))), .int (v5 + 1), .int 0, .int 1]) (v := (v5 + 1)) dX12_many_160 rfl (by decide) rfl rfl ?_
          refine m2_goto hB dX12_many_163 (tgt := 30) (by decide) ?_
          exact m2_weak (ls' := [.ref kM, .int v1, .int v2, .int v3, .int (v4 ||| ((1 : Int32) <<< (v5 &&& 31))), .int (v5 + 1), .null, .null]) hB ⟨Or.inr rfl, Or.inr rfl, Or.inr rfl, Or.inr rfl, Or.inr rfl, Or.inr rfl, Or.inl rfl, Or.inl rfl, trivial⟩ k
set_option maxRecDepth 100000 in
set_option maxHeartbeats 4000000 in
theorem B_X12_many_124 {κ : Nat → List Value → List Value → m2M → Prop} {D : Nat} {Q : Option Value → m2M → Prop} (h : m2_RL κ cX12_many RX12 8 D (some .int) Q) {v1 : Int32} {v2 : Int32} {v3 : Int32} {v4 : Int32} {v5 : Int32} {v6 : Int32} {μ : m2M} (k : (vp_in v5 20) ∧ (((μ.1 kM_left (v5).toNatClampNeg) ≤ 0 → κ 30 [.ref kM, .int v1, .int v2, .int v3, .int (v4 ||| (0 : Int32)), .int (v5 + 1), .null, .null] [] μ) ∧ (¬ (μ.1 kM_left (v5).toNatClampNeg) ≤ 0 → (¬ v6 = 0 → κ 30 [.ref kM, .int v1, .int v2, .int v3, .int (v4 ||| ((1 : Int32) <<< (v5 &&& 31))), .int (v5 + 1), .null, .null] [] μ) ∧ (v6 = 0 → κ 30 [.ref kM, .int v1, .int v2, .int v3, .int (v4 ||| (0 : Int32)), .int (v5 + 1), .null, .null] [] μ)))) : κ 124 [.ref kM, .int v1, .int v2, .int v3, .int v4, .int v5, .int v6, .null] [] μ := by
  have hB := h.b
  refine m2_iconst hB dX12_many_124 (v := 0) (by decide) ?_
  refine m2_istore hB (ls' := [.ref kM, .int v1, .int v2, .int v3, .int v4, .int v5, .int v6, .int 0]) dX12_many_125 (by decide) rfl ?_
  refine m2_iload hB dX12_many_127 rfl ?_
  refine m2_aload_n hB dX12_many_129 rfl ?_
  refine m2_getR hB dX12_many_130 fl_X12_23 sh_kM (c1 := kM_left) rfl ?_
  refine m2_iload hB dX12_many_133 rfl ?_
  obtain ⟨hi1, k⟩ := k
  refine m2_iald hB dX12_many_135 sh_kM_left hi1 ?_
  refine m2_if_le hB dX12_many_136 (tgt := 156) (by decide) (fun q2 : (μ.1 kM_left (v5).toNatClampNeg) ≤ 0 => ?_) (fun q2 : ¬ (μ.1 kM_left (v5).toNatClampNeg) ≤ 0 => ?_)
  · replace k := k.1 q2
    refine m2_iconst hB dX12_many_156 (v := 0) (by decide) ?_
    refine m2_ior hB dX12_many_157 ?_
    refine m2_istore hB (ls' := [.ref kM, .int v1, .int v2, .int v3, .int (v4 ||| (0 : Int32)), .int v5, .int v6, .int 0]) dX12_many_158 (by decide) rfl ?_
    refine m2_iinc hB (ls' := [.ref kM, .int v1, .int v2, .int v3, .int (v4 ||| (0 : Int32)), .int (v5 + 1), .int v6, .int 0]) (v := (v5 + 1)) dX12_many_160 rfl (by decide) rfl rfl ?_
    refine m2_goto hB dX12_many_163 (tgt := 30) (by decide) ?_
    exact m2_weak (ls' := [.ref kM, .int v1, .int v2, .int v3, .int (v4 ||| (0 : Int32)), .int (v5 + 1), .null, .null]) hB ⟨Or.inr rfl, Or.inr rfl, Or.inr rfl, Or.inr rfl, Or.inr rfl, Or.inr rfl, Or.inl rfl, Or.inl rfl, trivial⟩ k
  · replace k := k.2 q2
    refine m2_iload hB dX12_many_139 rfl ?_
    refine m2_if_ne hB dX12_many_141 (tgt := 149) (by decide) (fun q3 : ¬ v6 = 0 => ?_) (fun q3 : v6 = 0 => ?_)
    · replace k := k.1 q3
      refine m2_iconst hB dX12_many_149 (v := 1) (by decide) ?_
      refine m2_iload hB dX12_many_150 rfl ?_
      refine m2_ishl hB dX12_many_152 ?_
      refine m2_goto hB dX12_many_153 (tgt := 157) (by decide) ?_
      refine m2_ior hB dX12_many_157 ?_
      refine m2_istore hB (ls' := [.ref kM, .int v1, .int v2, .int v3, .int (v4 ||| ((1 : Int32) <<< (v5 &&& 31))), .int v5, .int v6, .int 0]) dX12_many_158 (by decide) rfl ?_
      refine m2_iinc hB (ls' := [.ref kM, .int v1, .int v2, .int v3, .int (v4 ||| ((1 : Int32) <<< (v5 &&& 31))), .int (v5 + 1), .int v6, .int 0]) (v := (v5 + 1)) dX12_many_160 rfl (by decide) rfl rfl ?_
      refine m2_goto hB dX12_many_163 (tgt := 30) (by decide) ?_
      exact m2_weak (ls' := [.ref kM, .int v1, .int v2, .int v3, .int (v4 ||| ((1 : Int32) <<< (v5 &&& 31))), .int (v5 + 1), .null, .null]) hB ⟨Or.inr rfl, Or.inr rfl, Or.inr rfl, Or.inr rfl, Or.inr rfl, Or.inr rfl, Or.inl rfl, Or.inl rfl, trivial⟩ k
    · replace k := k.2 q3
      refine m2_iload hB dX12_many_144 rfl ?_
      refine m2_if_eq hB dX12_many_146 (tgt := 156) (by decide) (fun _ => ?_) (fun q => absurd q (by decide))
      refine m2_iconst hB dX12_many_156 (v := 0) (by decide) ?_
      refine m2_ior hB dX12_many_157 ?_
      refine m2_istore hB (ls' := [.ref kM, .int v1, .int v2, .int v3, .int (v4 ||| (0 : Int32)), .int v5, .int v6, .int 0]) dX12_many_158 (by decide) rfl ?_
      refine m2_iinc hB (ls' := [.ref kM, .int v1, .int v2, .int v3, .int (v4 ||| (0 : Int32)), .int (v5 + 1), .int v6, .int 0]) (v := (v5 + 1)) dX12_many_160 rfl (by decide) rfl rfl ?_
      refine m2_goto hB dX12_many_163 (tgt := 30) (by decide) ?_
      exact m2_weak (ls' := [.ref kM, .int v1, .int v2, .int v3, .int (v4 ||| (0 : Int32)), .int (v5 + 1), .null, .null]) hB ⟨Or.inr rfl, Or.inr rfl, Or.inr rfl, Or.inr rfl, Or.inr rfl, Or.inr rfl, Or.inl rfl, Or.inl rfl, trivial⟩ k
theorem dX12_bars_0 : decode cX12_bars 0 = .ok (.aload_n 0, 1) := by decide +kernel
theorem dX12_bars_1 : decode cX12_bars 1 = .ok (.iconst 0, 1) := by decide +kernel
theorem dX12_bars_2 : decode cX12_bars 2 = .ok (.putfield 143, 3) := by decide +kernel
theorem dX12_bars_5 : decode cX12_bars 5 = .ok (.iload_n 1, 1) := by decide +kernel
theorem dX12_bars_6 : decode cX12_bars 6 = .ok (.iload_n 2, 1) := by decide +kernel
theorem dX12_bars_7 : decode cX12_bars 7 = .ok (.invokestatic 326, 3) := by decide +kernel
theorem dX12_bars_10 : decode cX12_bars 10 = .ok (.ifCond .ne 5, 3) := by decide +kernel
theorem dX12_bars_13 : decode cX12_bars 13 = .ok (.iconst (-1), 1) := by decide +kernel
theorem dX12_bars_14 : decode cX12_bars 14 = .ok (.ireturn, 1) := by decide +kernel
theorem dX12_bars_15 : decode cX12_bars 15 = .ok (.aload_n 0, 1) := by decide +kernel
theorem dX12_bars_16 : decode cX12_bars 16 = .ok (.invokevirtual 317, 3) := by decide +kernel
theorem dX12_bars_19 : decode cX12_bars 19 = .ok (.iconst 0, 1) := by decide +kernel
theorem dX12_bars_20 : decode cX12_bars 20 = .ok (.istore_n 3, 1) := by decide +kernel
theorem dX12_bars_21 : decode cX12_bars 21 = .ok (.iload_n 3, 1) := by decide +kernel
theorem dX12_bars_22 : decode cX12_bars 22 = .ok (.aload_n 0, 1) := by decide +kernel
theorem dX12_bars_23 : decode cX12_bars 23 = .ok (.getfield 153, 3) := by decide +kernel
theorem dX12_bars_26 : decode cX12_bars 26 = .ok (.if_icmp .ge 24, 3) := by decide +kernel
theorem dX12_bars_29 : decode cX12_bars 29 = .ok (.aload_n 0, 1) := by decide +kernel
theorem dX12_bars_30 : decode cX12_bars 30 = .ok (.getfield 23, 3) := by decide +kernel
theorem dX12_bars_33 : decode cX12_bars 33 = .ok (.iload_n 3, 1) := by decide +kernel
theorem dX12_bars_34 : decode cX12_bars 34 = .ok (.iaload, 1) := by decide +kernel
theorem dX12_bars_35 : decode cX12_bars 35 = .ok (.ifCond .le 9, 3) := by decide +kernel
theorem dX12_bars_38 : decode cX12_bars 38 = .ok (.aload_n 0, 1) := by decide +kernel
theorem dX12_bars_39 : decode cX12_bars 39 = .ok (.iload_n 3, 1) := by decide +kernel
theorem dX12_bars_40 : decode cX12_bars 40 = .ok (.iconst 1, 1) := by decide +kernel
theorem dX12_bars_41 : decode cX12_bars 41 = .ok (.invokevirtual 320, 3) := by decide +kernel
theorem dX12_bars_44 : decode cX12_bars 44 = .ok (.iinc 3 1, 3) := by decide +kernel
theorem dX12_bars_47 : decode cX12_bars 47 = .ok (.goto (-26), 3) := by decide +kernel
theorem dX12_bars_50 : decode cX12_bars 50 = .ok (.aload_n 0, 1) := by decide +kernel
theorem dX12_bars_51 : decode cX12_bars 51 = .ok (.iload_n 1, 1) := by decide +kernel
theorem dX12_bars_52 : decode cX12_bars 52 = .ok (.iload_n 2, 1) := by decide +kernel
theorem dX12_bars_53 : decode cX12_bars 53 = .ok (.invokevirtual 323, 3) := by decide +kernel
theorem dX12_bars_56 : decode cX12_bars 56 = .ok (.ireturn, 1) := by decide +kernel
set_option maxRecDepth 100000 in
set_option maxHeartbeats 4000000 in
theorem B_X12_bars_0 {κ : Nat → List Value → List Value → m2M → Prop} {D : Nat} {Q : Option Value → m2M → Prop} (h : m2_RL κ cX12_bars RX12 4 (D + 1) (some .int) Q) (hD : 2 ≤ D) {x1 : Int32} {x2 : Int32} {μ : m2M} (k : ((fX12_areEnds x1 x2) = 1 → ∃ Q7 : Option Value → m2M → Prop, m2_MT D yX12_clearFlow cX12_clearFlow 2 none [.ref kM] (m2_si μ kM 22 0) Q7 ∧ ∀ (μ6 : m2M), Q7 none μ6 → (κ 21 [.ref kM, .int x1, .int x2, .int 0] [] μ6)) ∧ (¬ (fX12_areEnds x1 x2) = 1 → Q (some (.int (-1))) (m2_si μ kM 22 0))) : κ 0 [.ref kM, .int x1, .int x2, .null] [] μ := by
  have hB := h.b
  refine m2_aload_n hB dX12_bars_0 rfl ?_
  refine m2_iconst hB dX12_bars_1 (v := 0) (by decide) ?_
  refine m2_putI hB dX12_bars_2 fl_X12_143 sh_kM rfl ?_
  refine m2_iload_n hB dX12_bars_5 rfl ?_
  refine m2_iload_n hB dX12_bars_6 rfl ?_
  refine m2_invSz hB (as := [.int x1, .int x2]) dX12_bars_7 ms_X12_326 rfl (Nat.le_of_ble_eq_true rfl) rfl (P_X12_areEnds (by omega) (x1) (x2) _ ) (fun y1 μ2 hq3 => ?_)
  obtain ⟨⟨⟩, hq3⟩ := hq3
  subst μ2
  show κ 10 [.ref kM, .int x1, .int x2, .null] [.int (if (fX12_areEnds x1 x2) = 1 then 1 else 0 : Int32)] (m2_si μ kM 22 0)
  by_cases q4 : (fX12_areEnds x1 x2) = 1
  · rw [if_pos q4]
    replace k := k.1 q4
    refine m2_if_ne hB dX12_bars_10 (tgt := 15) (by decide) (fun _ => ?_) (fun q => absurd q (by decide))
    refine m2_aload_n hB dX12_bars_15 rfl ?_
    obtain ⟨Q7, hM8, k⟩ := k
    refine m2_invv hB (as := []) dX12_bars_16 mv_X12_317 rfl sh_kM rfl (Nat.le_of_ble_eq_true rfl) rfl hM8 (fun μ6 hq9 => ?_)
    replace k := k μ6 hq9
    refine m2_iconst hB dX12_bars_19 (v := 0) (by decide) ?_
    refine m2_istore_n hB (ls' := [.ref kM, .int x1, .int x2, .int 0]) dX12_bars_20 rfl (by decide) rfl ?_
    exact k
  · rw [if_neg q4]
    replace k := k.2 q4
    refine m2_if_ne hB dX12_bars_10 (tgt := 15) (by decide) (fun q => absurd q (by decide)) (fun _ => ?_)
    refine m2_iconst hB dX12_bars_13 (v := (-1)) (by decide) ?_
    exact m2_iret h dX12_bars_14 k
set_option maxRecDepth 100000 in
set_option maxHeartbeats 4000000 in
theorem B_X12_bars_21 {κ : Nat → List Value → List Value → m2M → Prop} {D : Nat} {Q : Option Value → m2M → Prop} (h : m2_RL κ cX12_bars RX12 4 (D + 1) (some .int) Q) {v1 : Int32} {v2 : Int32} {v3 : Int32} {μ : m2M} (k : ((μ.1 kM 0) ≤ v3 → ∃ Q5 : Option Value → m2M → Prop, m2_MT D yX12_flow cX12_flow 6 (some .int) [.ref kM, .int v1, .int v2] μ Q5 ∧ ∀ (y3 : Int32) (μ4 : m2M), Q5 (some (.int y3)) μ4 → (Q (some (.int y3)) μ4)) ∧ (¬ (μ.1 kM 0) ≤ v3 → (vp_in v3 20) ∧ (((μ.1 kM_left (v3).toNatClampNeg) ≤ 0 → κ 21 [.ref kM, .int v1, .int v2, .int (v3 + 1)] [] μ) ∧ (¬ (μ.1 kM_left (v3).toNatClampNeg) ≤ 0 → ∃ Q12 : Option Value → m2M → Prop, m2_MT D yX12_layDoor cX12_layDoor 3 none [.ref kM, .int v3, .int 1] μ Q12 ∧ ∀ (μ11 : m2M), Q12 none μ11 → (κ 21 [.ref kM, .int v1, .int v2, .int (v3 + 1)] [] μ11))))) : κ 21 [.ref kM, .int v1, .int v2, .int v3] [] μ := by
  have hB := h.b
  refine m2_iload_n hB dX12_bars_21 rfl ?_
  refine m2_aload_n hB dX12_bars_22 rfl ?_
  refine m2_getI hB dX12_bars_23 fl_X12_153 sh_kM rfl ?_
  refine m2_icmp_ge hB dX12_bars_26 (tgt := 50) (by decide) (fun q2 : (μ.1 kM 0) ≤ v3 => ?_) (fun q2 : ¬ (μ.1 kM 0) ≤ v3 => ?_)
  · replace k := k.1 q2
    refine m2_aload_n hB dX12_bars_50 rfl ?_
    refine m2_iload_n hB dX12_bars_51 rfl ?_
    refine m2_iload_n hB dX12_bars_52 rfl ?_
    obtain ⟨Q5, hM6, k⟩ := k
    refine m2_invi hB (as := [.int v1, .int v2]) dX12_bars_53 mv_X12_323 rfl sh_kM rfl (Nat.le_of_ble_eq_true rfl) rfl hM6 (fun y3 μ4 hq7 => ?_)
    replace k := k y3 μ4 hq7
    exact m2_iret h dX12_bars_56 k
  · replace k := k.2 q2
    refine m2_aload_n hB dX12_bars_29 rfl ?_
    refine m2_getR hB dX12_bars_30 fl_X12_23 sh_kM (c1 := kM_left) rfl ?_
    refine m2_iload_n hB dX12_bars_33 rfl ?_
    obtain ⟨hi8, k⟩ := k
    refine m2_iald hB dX12_bars_34 sh_kM_left hi8 ?_
    refine m2_if_le hB dX12_bars_35 (tgt := 44) (by decide) (fun q9 : (μ.1 kM_left (v3).toNatClampNeg) ≤ 0 => ?_) (fun q9 : ¬ (μ.1 kM_left (v3).toNatClampNeg) ≤ 0 => ?_)
    · replace k := k.1 q9
      refine m2_iinc hB (ls' := [.ref kM, .int v1, .int v2, .int (v3 + 1)]) (v := (v3 + 1)) dX12_bars_44 rfl (by decide) rfl rfl ?_
      refine m2_goto hB dX12_bars_47 (tgt := 21) (by decide) ?_
      exact k
    · replace k := k.2 q9
      refine m2_aload_n hB dX12_bars_38 rfl ?_
      refine m2_iload_n hB dX12_bars_39 rfl ?_
      refine m2_iconst hB dX12_bars_40 (v := 1) (by decide) ?_
      obtain ⟨Q12, hM13, k⟩ := k
      refine m2_invv hB (as := [.int v3, .int 1]) dX12_bars_41 mv_X12_320 rfl sh_kM rfl (Nat.le_of_ble_eq_true rfl) rfl hM13 (fun μ11 hq14 => ?_)
      replace k := k μ11 hq14
      refine m2_iinc hB (ls' := [.ref kM, .int v1, .int v2, .int (v3 + 1)]) (v := (v3 + 1)) dX12_bars_44 rfl (by decide) rfl rfl ?_
      refine m2_goto hB dX12_bars_47 (tgt := 21) (by decide) ?_
      exact k
theorem dX12_counts_0 : decode cX12_counts 0 = .ok (.aload_n 0, 1) := by decide +kernel
theorem dX12_counts_1 : decode cX12_counts 1 = .ok (.iconst 0, 1) := by decide +kernel
theorem dX12_counts_2 : decode cX12_counts 2 = .ok (.putfield 143, 3) := by decide +kernel
theorem dX12_counts_5 : decode cX12_counts 5 = .ok (.iload_n 1, 1) := by decide +kernel
theorem dX12_counts_6 : decode cX12_counts 6 = .ok (.iload_n 2, 1) := by decide +kernel
theorem dX12_counts_7 : decode cX12_counts 7 = .ok (.invokestatic 326, 3) := by decide +kernel
theorem dX12_counts_10 : decode cX12_counts 10 = .ok (.ifCond .eq 11, 3) := by decide +kernel
theorem dX12_counts_13 : decode cX12_counts 13 = .ok (.aload_n 0, 1) := by decide +kernel
theorem dX12_counts_14 : decode cX12_counts 14 = .ok (.iload_n 3, 1) := by decide +kernel
theorem dX12_counts_15 : decode cX12_counts 15 = .ok (.invokevirtual 288, 3) := by decide +kernel
theorem dX12_counts_18 : decode cX12_counts 18 = .ok (.ifCond .ne 5, 3) := by decide +kernel
theorem dX12_counts_21 : decode cX12_counts 21 = .ok (.iconst (-1), 1) := by decide +kernel
theorem dX12_counts_22 : decode cX12_counts 22 = .ok (.ireturn, 1) := by decide +kernel
theorem dX12_counts_23 : decode cX12_counts 23 = .ok (.aload_n 0, 1) := by decide +kernel
theorem dX12_counts_24 : decode cX12_counts 24 = .ok (.iload_n 1, 1) := by decide +kernel
theorem dX12_counts_25 : decode cX12_counts 25 = .ok (.iload_n 2, 1) := by decide +kernel
theorem dX12_counts_26 : decode cX12_counts 26 = .ok (.iconst (-1), 1) := by decide +kernel
theorem dX12_counts_27 : decode cX12_counts 27 = .ok (.iconst 0, 1) := by decide +kernel
theorem dX12_counts_28 : decode cX12_counts 28 = .ok (.invokevirtual 329, 3) := by decide +kernel
theorem dX12_counts_31 : decode cX12_counts 31 = .ok (.istore 4, 2) := by decide +kernel
theorem dX12_counts_33 : decode cX12_counts 33 = .ok (.aload_n 0, 1) := by decide +kernel
theorem dX12_counts_34 : decode cX12_counts 34 = .ok (.iconst 0, 1) := by decide +kernel
theorem dX12_counts_35 : decode cX12_counts 35 = .ok (.putfield 146, 3) := by decide +kernel
theorem dX12_counts_38 : decode cX12_counts 38 = .ok (.aload_n 0, 1) := by decide +kernel
theorem dX12_counts_39 : decode cX12_counts 39 = .ok (.aload_n 0, 1) := by decide +kernel
theorem dX12_counts_40 : decode cX12_counts 40 = .ok (.iload_n 1, 1) := by decide +kernel
theorem dX12_counts_41 : decode cX12_counts 41 = .ok (.iload_n 2, 1) := by decide +kernel
theorem dX12_counts_42 : decode cX12_counts 42 = .ok (.iload_n 3, 1) := by decide +kernel
theorem dX12_counts_43 : decode cX12_counts 43 = .ok (.iconst 1, 1) := by decide +kernel
theorem dX12_counts_44 : decode cX12_counts 44 = .ok (.invokevirtual 329, 3) := by decide +kernel
theorem dX12_counts_47 : decode cX12_counts 47 = .ok (.iload 4, 2) := by decide +kernel
theorem dX12_counts_49 : decode cX12_counts 49 = .ok (.isub, 1) := by decide +kernel
theorem dX12_counts_50 : decode cX12_counts 50 = .ok (.i2l, 1) := by decide +kernel
theorem dX12_counts_51 : decode cX12_counts 51 = .ok (.invokevirtual 278, 3) := by decide +kernel
theorem dX12_counts_54 : decode cX12_counts 54 = .ok (.iload 4, 2) := by decide +kernel
theorem dX12_counts_56 : decode cX12_counts 56 = .ok (.aload_n 0, 1) := by decide +kernel
theorem dX12_counts_57 : decode cX12_counts 57 = .ok (.iload_n 1, 1) := by decide +kernel
theorem dX12_counts_58 : decode cX12_counts 58 = .ok (.iload_n 2, 1) := by decide +kernel
theorem dX12_counts_59 : decode cX12_counts 59 = .ok (.iload_n 3, 1) := by decide +kernel
theorem dX12_counts_60 : decode cX12_counts 60 = .ok (.aload_n 0, 1) := by decide +kernel
theorem dX12_counts_61 : decode cX12_counts 61 = .ok (.getfield 23, 3) := by decide +kernel
theorem dX12_counts_64 : decode cX12_counts 64 = .ok (.iload_n 3, 1) := by decide +kernel
theorem dX12_counts_65 : decode cX12_counts 65 = .ok (.iaload, 1) := by decide +kernel
theorem dX12_counts_66 : decode cX12_counts 66 = .ok (.ineg, 1) := by decide +kernel
theorem dX12_counts_67 : decode cX12_counts 67 = .ok (.invokevirtual 329, 3) := by decide +kernel
theorem dX12_counts_70 : decode cX12_counts 70 = .ok (.isub, 1) := by decide +kernel
theorem dX12_counts_71 : decode cX12_counts 71 = .ok (.ireturn, 1) := by decide +kernel
set_option maxRecDepth 100000 in
set_option maxHeartbeats 4000000 in
theorem B_X12_counts_0 {κ : Nat → List Value → List Value → m2M → Prop} {D : Nat} {Q : Option Value → m2M → Prop} (h : m2_RL κ cX12_counts RX12 5 (D + 1) (some .int) Q) (hD : 2 ≤ D) {x1 : Int32} {x2 : Int32} {x3 : Int32} {μ : m2M} (k : ((fX12_areEnds x1 x2) = 1 → ((fX12_isDoor x3 (m2_si μ kM 22 0)) = 1 → ∃ Q11 : Option Value → m2M → Prop, m2_MT D yX12_manyWith cX12_manyWith 6 (some .int) [.ref kM, .int x1, .int x2, .int (-1), .int 0] (m2_si μ kM 22 0) Q11 ∧ ∀ (y9 : Int32) (μ10 : m2M), Q11 (some (.int y9)) μ10 → (∃ Q16 : Option Value → m2M → Prop, m2_MT D yX12_manyWith cX12_manyWith 6 (some .int) [.ref kM, .int x1, .int x2, .int x3, .int 1] (m2_si μ10 kM 21 0) Q16 ∧ ∀ (y14 : Int32) (μ15 : m2M), Q16 (some (.int y14)) μ15 → (∃ Q21 : Option Value → m2M → Prop, m2_MT D yX12_tell cX12_tell 3 none [.ref kM, .long ((y14 - y9)).toInt64] μ15 Q21 ∧ ∀ (μ20 : m2M), Q21 none μ20 → ((vp_in x3 20) ∧ (∃ Q27 : Option Value → m2M → Prop, m2_MT D yX12_manyWith cX12_manyWith 6 (some .int) [.ref kM, .int x1, .int x2, .int x3, .int (-(μ20.1 kM_left (x3).toNatClampNeg))] μ20 Q27 ∧ ∀ (y25 : Int32) (μ26 : m2M), Q27 (some (.int y25)) μ26 → (Q (some (.int (y9 - y25))) μ26)))))) ∧ (¬ (fX12_isDoor x3 (m2_si μ kM 22 0)) = 1 → Q (some (.int (-1))) (m2_si μ kM 22 0))) ∧ (¬ (fX12_areEnds x1 x2) = 1 → Q (some (.int (-1))) (m2_si μ kM 22 0))) : κ 0 [.ref kM, .int x1, .int x2, .int x3, .null] [] μ := by
  have hB := h.b
  refine m2_aload_n hB dX12_counts_0 rfl ?_
  refine m2_iconst hB dX12_counts_1 (v := 0) (by decide) ?_
  refine m2_putI hB dX12_counts_2 fl_X12_143 sh_kM rfl ?_
  refine m2_iload_n hB dX12_counts_5 rfl ?_
  refine m2_iload_n hB dX12_counts_6 rfl ?_
  refine m2_invSz hB (as := [.int x1, .int x2]) dX12_counts_7 ms_X12_326 rfl (Nat.le_of_ble_eq_true rfl) rfl (P_X12_areEnds (by omega) (x1) (x2) _ ) (fun y1 μ2 hq3 => ?_)
  obtain ⟨⟨⟩, hq3⟩ := hq3
  subst μ2
  show κ 10 [.ref kM, .int x1, .int x2, .int x3, .null] [.int (if (fX12_areEnds x1 x2) = 1 then 1 else 0 : Int32)] (m2_si μ kM 22 0)
  by_cases q4 : (fX12_areEnds x1 x2) = 1
  · rw [if_pos q4]
    replace k := k.1 q4
    refine m2_if_eq hB dX12_counts_10 (tgt := 21) (by decide) (fun q => absurd q (by decide)) (fun _ => ?_)
    refine m2_aload_n hB dX12_counts_13 rfl ?_
    refine m2_iload_n hB dX12_counts_14 rfl ?_
    refine m2_invz hB (as := [.int x3]) dX12_counts_15 mv_X12_288 rfl sh_kM rfl (Nat.le_of_ble_eq_true rfl) rfl (P_X12_isDoor (by omega) (x3) _ ) (fun y5 μ6 hq7 => ?_)
    obtain ⟨⟨⟩, hq7⟩ := hq7
    subst μ6
    show κ 18 [.ref kM, .int x1, .int x2, .int x3, .null] [.int (if (fX12_isDoor x3 (m2_si μ kM 22 0)) = 1 then 1 else 0 : Int32)] (m2_si μ kM 22 0)
    by_cases q8 : (fX12_isDoor x3 (m2_si μ kM 22 0)) = 1
    · rw [if_pos q8]
      replace k := k.1 q8
      refine m2_if_ne hB dX12_counts_18 (tgt := 23) (by decide) (fun _ => ?_) (fun q => absurd q (by decide))
      refine m2_aload_n hB dX12_counts_23 rfl ?_
      refine m2_iload_n hB dX12_counts_24 rfl ?_
      refine m2_iload_n hB dX12_counts_25 rfl ?_
      refine m2_iconst hB dX12_counts_26 (v := (-1)) (by decide) ?_
      refine m2_iconst hB dX12_counts_27 (v := 0) (by decide) ?_
      obtain ⟨Q11, hM12, k⟩ := k
      refine m2_invi hB (as := [.int x1, .int x2, .int (-1), .int 0]) dX12_counts_28 mv_X12_329 rfl sh_kM rfl (Nat.le_of_ble_eq_true rfl) rfl hM12 (fun y9 μ10 hq13 => ?_)
      replace k := k y9 μ10 hq13
      refine m2_istore hB (ls' := [.ref kM, .int x1, .int x2, .int x3, .int y9]) dX12_counts_31 (by decide) rfl ?_
      refine m2_aload_n hB dX12_counts_33 rfl ?_
      refine m2_iconst hB dX12_counts_34 (v := 0) (by decide) ?_
      refine m2_putI hB dX12_counts_35 fl_X12_146 sh_kM rfl ?_
      refine m2_aload_n hB dX12_counts_38 rfl ?_
      refine m2_aload_n hB dX12_counts_39 rfl ?_
      refine m2_iload_n hB dX12_counts_40 rfl ?_
      refine m2_iload_n hB dX12_counts_41 rfl ?_
      refine m2_iload_n hB dX12_counts_42 rfl ?_
      refine m2_iconst hB dX12_counts_43 (v := 1) (by decide) ?_
      obtain ⟨Q16, hM17, k⟩ := k
      refine m2_invi hB (as := [.int x1, .int x2, .int x3, .int 1]) dX12_counts_44 mv_X12_329 rfl sh_kM rfl (Nat.le_of_ble_eq_true rfl) rfl hM17 (fun y14 μ15 hq18 => ?_)
      replace k := k y14 μ15 hq18
      refine m2_iload hB dX12_counts_47 rfl ?_
      refine m2_isub hB dX12_counts_49 ?_
      refine m2_i2l hB dX12_counts_50 ?_
      obtain ⟨Q21, hM22, k⟩ := k
      refine m2_invv hB (as := [.long ((y14 - y9)).toInt64]) dX12_counts_51 mv_X12_278 rfl sh_kM rfl (Nat.le_of_ble_eq_true rfl) rfl hM22 (fun μ20 hq23 => ?_)
      replace k := k μ20 hq23
      refine m2_iload hB dX12_counts_54 rfl ?_
      refine m2_aload_n hB dX12_counts_56 rfl ?_
      refine m2_iload_n hB dX12_counts_57 rfl ?_
      refine m2_iload_n hB dX12_counts_58 rfl ?_
      refine m2_iload_n hB dX12_counts_59 rfl ?_
      refine m2_aload_n hB dX12_counts_60 rfl ?_
      refine m2_getR hB dX12_counts_61 fl_X12_23 sh_kM (c1 := kM_left) rfl ?_
      refine m2_iload_n hB dX12_counts_64 rfl ?_
      obtain ⟨hi24, k⟩ := k
      refine m2_iald hB dX12_counts_65 sh_kM_left hi24 ?_
      refine m2_ineg hB dX12_counts_66 ?_
      obtain ⟨Q27, hM28, k⟩ := k
      refine m2_invi hB (as := [.int x1, .int x2, .int x3, .int (-(μ20.1 kM_left (x3).toNatClampNeg))]) dX12_counts_67 mv_X12_329 rfl sh_kM rfl (Nat.le_of_ble_eq_true rfl) rfl hM28 (fun y25 μ26 hq29 => ?_)
      replace k := k y25 μ26 hq29
      refine m2_isub hB dX12_counts_70 ?_
      exact m2_iret h dX12_counts_71 k
    · rw [if_neg q8]
      replace k := k.2 q8
      refine m2_if_ne hB dX12_counts_18 (tgt := 23) (by decide) (fun q => absurd q (by decide)) (fun _ => ?_)
      refine m2_iconst hB dX12_counts_21 (v := (-1)) (by decide) ?_
      exact m2_iret h dX12_counts_22 k
  · rw [if_neg q4]
    replace k := k.2 q4
    refine m2_if_eq hB dX12_counts_10 (tgt := 21) (by decide) (fun _ => ?_) (fun q => absurd q (by decide))
    refine m2_iconst hB dX12_counts_21 (v := (-1)) (by decide) ?_
    exact m2_iret h dX12_counts_22 k
theorem dX12_sumOfPairs_0 : decode cX12_sumOfPairs 0 = .ok (.iconst 0, 1) := by decide +kernel
theorem dX12_sumOfPairs_1 : decode cX12_sumOfPairs 1 = .ok (.istore_n 3, 1) := by decide +kernel
theorem dX12_sumOfPairs_2 : decode cX12_sumOfPairs 2 = .ok (.iconst 0, 1) := by decide +kernel
theorem dX12_sumOfPairs_3 : decode cX12_sumOfPairs 3 = .ok (.istore 4, 2) := by decide +kernel
theorem dX12_sumOfPairs_5 : decode cX12_sumOfPairs 5 = .ok (.iload 4, 2) := by decide +kernel
theorem dX12_sumOfPairs_7 : decode cX12_sumOfPairs 7 = .ok (.iload_n 1, 1) := by decide +kernel
theorem dX12_sumOfPairs_8 : decode cX12_sumOfPairs 8 = .ok (.if_icmp .ge 44, 3) := by decide +kernel
theorem dX12_sumOfPairs_11 : decode cX12_sumOfPairs 11 = .ok (.iconst 0, 1) := by decide +kernel
theorem dX12_sumOfPairs_12 : decode cX12_sumOfPairs 12 = .ok (.istore 5, 2) := by decide +kernel
theorem dX12_sumOfPairs_14 : decode cX12_sumOfPairs 14 = .ok (.iload 5, 2) := by decide +kernel
theorem dX12_sumOfPairs_16 : decode cX12_sumOfPairs 16 = .ok (.iload_n 1, 1) := by decide +kernel
theorem dX12_sumOfPairs_17 : decode cX12_sumOfPairs 17 = .ok (.if_icmp .ge 29, 3) := by decide +kernel
theorem dX12_sumOfPairs_20 : decode cX12_sumOfPairs 20 = .ok (.iload 4, 2) := by decide +kernel
theorem dX12_sumOfPairs_22 : decode cX12_sumOfPairs 22 = .ok (.iload 5, 2) := by decide +kernel
theorem dX12_sumOfPairs_24 : decode cX12_sumOfPairs 24 = .ok (.if_icmp .eq 16, 3) := by decide +kernel
theorem dX12_sumOfPairs_27 : decode cX12_sumOfPairs 27 = .ok (.iload_n 3, 1) := by decide +kernel
theorem dX12_sumOfPairs_28 : decode cX12_sumOfPairs 28 = .ok (.aload_n 0, 1) := by decide +kernel
theorem dX12_sumOfPairs_29 : decode cX12_sumOfPairs 29 = .ok (.iload 4, 2) := by decide +kernel
theorem dX12_sumOfPairs_31 : decode cX12_sumOfPairs 31 = .ok (.iload 5, 2) := by decide +kernel
theorem dX12_sumOfPairs_33 : decode cX12_sumOfPairs 33 = .ok (.iload_n 2, 1) := by decide +kernel
theorem dX12_sumOfPairs_34 : decode cX12_sumOfPairs 34 = .ok (.iconst 1, 1) := by decide +kernel
theorem dX12_sumOfPairs_35 : decode cX12_sumOfPairs 35 = .ok (.invokevirtual 329, 3) := by decide +kernel
theorem dX12_sumOfPairs_38 : decode cX12_sumOfPairs 38 = .ok (.iadd, 1) := by decide +kernel
theorem dX12_sumOfPairs_39 : decode cX12_sumOfPairs 39 = .ok (.istore_n 3, 1) := by decide +kernel
theorem dX12_sumOfPairs_40 : decode cX12_sumOfPairs 40 = .ok (.iinc 5 1, 3) := by decide +kernel
theorem dX12_sumOfPairs_43 : decode cX12_sumOfPairs 43 = .ok (.goto (-29), 3) := by decide +kernel
theorem dX12_sumOfPairs_46 : decode cX12_sumOfPairs 46 = .ok (.iinc 4 1, 3) := by decide +kernel
theorem dX12_sumOfPairs_49 : decode cX12_sumOfPairs 49 = .ok (.goto (-44), 3) := by decide +kernel
theorem dX12_sumOfPairs_52 : decode cX12_sumOfPairs 52 = .ok (.iload_n 3, 1) := by decide +kernel
theorem dX12_sumOfPairs_53 : decode cX12_sumOfPairs 53 = .ok (.ireturn, 1) := by decide +kernel
set_option maxRecDepth 100000 in
set_option maxHeartbeats 4000000 in
theorem B_X12_sumOfPairs_0 {κ : Nat → List Value → List Value → m2M → Prop} {D : Nat} {Q : Option Value → m2M → Prop} (h : m2_RL κ cX12_sumOfPairs RX12 6 D (some .int) Q) {x1 : Int32} {x2 : Int32} {μ : m2M} (k : κ 5 [.ref kM, .int x1, .int x2, .int 0, .int 0, .null] [] μ) : κ 0 [.ref kM, .int x1, .int x2, .null, .null, .null] [] μ := by
  have hB := h.b
  refine m2_iconst hB dX12_sumOfPairs_0 (v := 0) (by decide) ?_
  refine m2_istore_n hB (ls' := [.ref kM, .int x1, .int x2, .int 0, .null, .null]) dX12_sumOfPairs_1 rfl (by decide) rfl ?_
  refine m2_iconst hB dX12_sumOfPairs_2 (v := 0) (by decide) ?_
  refine m2_istore hB (ls' := [.ref kM, .int x1, .int x2, .int 0, .int 0, .null]) dX12_sumOfPairs_3 (by decide) rfl ?_
  exact k
set_option maxRecDepth 100000 in
set_option maxHeartbeats 4000000 in
theorem B_X12_sumOfPairs_5 {κ : Nat → List Value → List Value → m2M → Prop} {D : Nat} {Q : Option Value → m2M → Prop} (h : m2_RL κ cX12_sumOfPairs RX12 6 D (some .int) Q) {v1 : Int32} {v2 : Int32} {v3 : Int32} {v4 : Int32} {μ : m2M} (k : (v1 ≤ v4 → Q (some (.int v3)) μ) ∧ (¬ v1 ≤ v4 → κ 14 [.ref kM, .int v1, .int v2, .int v3, .int v4, .int 0] [] μ)) : κ 5 [.ref kM, .int v1, .int v2, .int v3, .int v4, .null] [] μ := by
  have hB := h.b
  refine m2_iload hB dX12_sumOfPairs_5 rfl ?_
  refine m2_iload_n hB dX12_sumOfPairs_7 rfl ?_
  refine m2_icmp_ge hB dX12_sumOfPairs_8 (tgt := 52) (by decide) (fun q1 : v1 ≤ v4 => ?_) (fun q1 : ¬ v1 ≤ v4 => ?_)
  · replace k := k.1 q1
    refine m2_iload_n hB dX12_sumOfPairs_52 rfl ?_
    exact m2_iret h dX12_sumOfPairs_53 k
  · replace k := k.2 q1
    refine m2_iconst hB dX12_sumOfPairs_11 (v := 0) (by decide) ?_
    refine m2_istore hB (ls' := [.ref kM, .int v1, .int v2, .int v3, .int v4, .int 0]) dX12_sumOfPairs_12 (by decide) rfl ?_
    exact k
set_option maxRecDepth 100000 in
set_option maxHeartbeats 4000000 in
theorem B_X12_sumOfPairs_14 {κ : Nat → List Value → List Value → m2M → Prop} {D : Nat} {Q : Option Value → m2M → Prop} (h : m2_RL κ cX12_sumOfPairs RX12 6 (D + 1) (some .int) Q) {v1 : Int32} {v2 : Int32} {v3 : Int32} {v4 : Int32} {v5 : Int32} {μ : m2M} (k : (v1 ≤ v5 → κ 5 [.ref kM, .int v1, .int v2, .int v3, .int (v4 + 1), .null] [] μ) ∧ (¬ v1 ≤ v5 → (v4 = v5 → κ 14 [.ref kM, .int v1, .int v2, .int v3, .int v4, .int (v5 + 1)] [] μ) ∧ (¬ v4 = v5 → ∃ Q5 : Option Value → m2M → Prop, m2_MT D yX12_manyWith cX12_manyWith 6 (some .int) [.ref kM, .int v4, .int v5, .int v2, .int 1] μ Q5 ∧ ∀ (y3 : Int32) (μ4 : m2M), Q5 (some (.int y3)) μ4 → (κ 14 [.ref kM, .int v1, .int v2, .int (v3 + y3), .int v4, .int (v5 + 1)] [] μ4)))) : κ 14 [.ref kM, .int v1, .int v2, .int v3, .int v4, .int v5] [] μ := by
  have hB := h.b
  refine m2_iload hB dX12_sumOfPairs_14 rfl ?_
  refine m2_iload_n hB dX12_sumOfPairs_16 rfl ?_
  refine m2_icmp_ge hB dX12_sumOfPairs_17 (tgt := 46) (by decide) (fun q1 : v1 ≤ v5 => ?_) (fun q1 : ¬ v1 ≤ v5 => ?_)
  · replace k := k.1 q1
    refine m2_iinc hB (ls' := [.ref kM, .int v1, .int v2, .int v3, .int (v4 + 1), .int v5]) (v := (v4 + 1)) dX12_sumOfPairs_46 rfl (by decide) rfl rfl ?_
    refine m2_goto hB dX12_sumOfPairs_49 (tgt := 5) (by decide) ?_
    exact m2_weak (ls' := [.ref kM, .int v1, .int v2, .int v3, .int (v4 + 1), .null]) hB ⟨Or.inr rfl, Or.inr rfl, Or.inr rfl, Or.inr rfl, Or.inr rfl, Or.inl rfl, trivial⟩ k
  · replace k := k.2 q1
    refine m2_iload hB dX12_sumOfPairs_20 rfl ?_
    refine m2_iload hB dX12_sumOfPairs_22 rfl ?_
    refine m2_icmp_eq hB dX12_sumOfPairs_24 (tgt := 40) (by decide) (fun q2 : v4 = v5 => ?_) (fun q2 : ¬ v4 = v5 => ?_)
    · replace k := k.1 q2
      refine m2_iinc hB (ls' := [.ref kM, .int v1, .int v2, .int v3, .int v4, .int (v5 + 1)]) (v := (v5 + 1)) dX12_sumOfPairs_40 rfl (by decide) rfl rfl ?_
      refine m2_goto hB dX12_sumOfPairs_43 (tgt := 14) (by decide) ?_
      exact k
    · replace k := k.2 q2
      refine m2_iload_n hB dX12_sumOfPairs_27 rfl ?_
      refine m2_aload_n hB dX12_sumOfPairs_28 rfl ?_
      refine m2_iload hB dX12_sumOfPairs_29 rfl ?_
      refine m2_iload hB dX12_sumOfPairs_31 rfl ?_
      refine m2_iload_n hB dX12_sumOfPairs_33 rfl ?_
      refine m2_iconst hB dX12_sumOfPairs_34 (v := 1) (by decide) ?_
      obtain ⟨Q5, hM6, k⟩ := k
      refine m2_invi hB (as := [.int v4, .int v5, .int v2, .int 1]) dX12_sumOfPairs_35 mv_X12_329 rfl sh_kM rfl (Nat.le_of_ble_eq_true rfl) rfl hM6 (fun y3 μ4 hq7 => ?_)
      replace k := k y3 μ4 hq7
      refine m2_iadd hB dX12_sumOfPairs_38 ?_
      refine m2_istore_n hB (ls' := [.ref kM, .int v1, .int v2, .int (v3 + y3), .int v4, .int v5]) dX12_sumOfPairs_39 rfl (by decide) rfl ?_
      refine m2_iinc hB (ls' := [.ref kM, .int v1, .int v2, .int (v3 + y3), .int v4, .int (v5 + 1)]) (v := (v5 + 1)) dX12_sumOfPairs_40 rfl (by decide) rfl rfl ?_
      refine m2_goto hB dX12_sumOfPairs_43 (tgt := 14) (by decide) ?_
      exact k
theorem dX12_more_0 : decode cX12_more 0 = .ok (.aload_n 0, 1) := by decide +kernel
theorem dX12_more_1 : decode cX12_more 1 = .ok (.iconst 0, 1) := by decide +kernel
theorem dX12_more_2 : decode cX12_more 2 = .ok (.putfield 143, 3) := by decide +kernel
theorem dX12_more_5 : decode cX12_more 5 = .ok (.iload_n 1, 1) := by decide +kernel
theorem dX12_more_6 : decode cX12_more 6 = .ok (.iconst 2, 1) := by decide +kernel
theorem dX12_more_7 : decode cX12_more 7 = .ok (.bipush 12, 2) := by decide +kernel
theorem dX12_more_9 : decode cX12_more 9 = .ok (.invokestatic 149, 3) := by decide +kernel
theorem dX12_more_12 : decode cX12_more 12 = .ok (.ifCond .ne 5, 3) := by decide +kernel
theorem dX12_more_15 : decode cX12_more 15 = .ok (.iconst (-1), 1) := by decide +kernel
theorem dX12_more_16 : decode cX12_more 16 = .ok (.ireturn, 1) := by decide +kernel
theorem dX12_more_17 : decode cX12_more 17 = .ok (.aload_n 0, 1) := by decide +kernel
theorem dX12_more_18 : decode cX12_more 18 = .ok (.getfield 153, 3) := by decide +kernel
theorem dX12_more_21 : decode cX12_more 21 = .ok (.ifCond .ne 6, 3) := by decide +kernel
theorem dX12_more_24 : decode cX12_more 24 = .ok (.bipush (-2), 2) := by decide +kernel
theorem dX12_more_26 : decode cX12_more 26 = .ok (.ireturn, 1) := by decide +kernel
theorem dX12_more_27 : decode cX12_more 27 = .ok (.iconst (-1), 1) := by decide +kernel
theorem dX12_more_28 : decode cX12_more 28 = .ok (.istore_n 2, 1) := by decide +kernel
theorem dX12_more_29 : decode cX12_more 29 = .ok (.iconst 0, 1) := by decide +kernel
theorem dX12_more_30 : decode cX12_more 30 = .ok (.istore_n 3, 1) := by decide +kernel
theorem dX12_more_31 : decode cX12_more 31 = .ok (.iconst 0, 1) := by decide +kernel
theorem dX12_more_32 : decode cX12_more 32 = .ok (.istore 4, 2) := by decide +kernel
theorem dX12_more_34 : decode cX12_more 34 = .ok (.iload 4, 2) := by decide +kernel
theorem dX12_more_36 : decode cX12_more 36 = .ok (.aload_n 0, 1) := by decide +kernel
theorem dX12_more_37 : decode cX12_more 37 = .ok (.getfield 153, 3) := by decide +kernel
theorem dX12_more_40 : decode cX12_more 40 = .ok (.if_icmp .ge 38, 3) := by decide +kernel
theorem dX12_more_43 : decode cX12_more 43 = .ok (.aload_n 0, 1) := by decide +kernel
theorem dX12_more_44 : decode cX12_more 44 = .ok (.iload_n 1, 1) := by decide +kernel
theorem dX12_more_45 : decode cX12_more 45 = .ok (.iload 4, 2) := by decide +kernel
theorem dX12_more_47 : decode cX12_more 47 = .ok (.invokevirtual 333, 3) := by decide +kernel
theorem dX12_more_50 : decode cX12_more 50 = .ok (.istore 5, 2) := by decide +kernel
theorem dX12_more_52 : decode cX12_more 52 = .ok (.iload_n 2, 1) := by decide +kernel
theorem dX12_more_53 : decode cX12_more 53 = .ok (.iconst (-1), 1) := by decide +kernel
theorem dX12_more_54 : decode cX12_more 54 = .ok (.if_icmp .eq 12, 3) := by decide +kernel
theorem dX12_more_57 : decode cX12_more 57 = .ok (.iload 5, 2) := by decide +kernel
theorem dX12_more_59 : decode cX12_more 59 = .ok (.iload_n 3, 1) := by decide +kernel
theorem dX12_more_60 : decode cX12_more 60 = .ok (.if_icmp .gt 6, 3) := by decide +kernel
theorem dX12_more_63 : decode cX12_more 63 = .ok (.goto 9, 3) := by decide +kernel
theorem dX12_more_66 : decode cX12_more 66 = .ok (.iload 4, 2) := by decide +kernel
theorem dX12_more_68 : decode cX12_more 68 = .ok (.istore_n 2, 1) := by decide +kernel
theorem dX12_more_69 : decode cX12_more 69 = .ok (.iload 5, 2) := by decide +kernel
theorem dX12_more_71 : decode cX12_more 71 = .ok (.istore_n 3, 1) := by decide +kernel
theorem dX12_more_72 : decode cX12_more 72 = .ok (.iinc 4 1, 3) := by decide +kernel
theorem dX12_more_75 : decode cX12_more 75 = .ok (.goto (-41), 3) := by decide +kernel
theorem dX12_more_78 : decode cX12_more 78 = .ok (.aload_n 0, 1) := by decide +kernel
theorem dX12_more_79 : decode cX12_more 79 = .ok (.iconst 0, 1) := by decide +kernel
theorem dX12_more_80 : decode cX12_more 80 = .ok (.putfield 146, 3) := by decide +kernel
theorem dX12_more_83 : decode cX12_more 83 = .ok (.aload_n 0, 1) := by decide +kernel
theorem dX12_more_84 : decode cX12_more 84 = .ok (.iload_n 3, 1) := by decide +kernel
theorem dX12_more_85 : decode cX12_more 85 = .ok (.i2l, 1) := by decide +kernel
theorem dX12_more_86 : decode cX12_more 86 = .ok (.invokevirtual 278, 3) := by decide +kernel
theorem dX12_more_89 : decode cX12_more 89 = .ok (.aload_n 0, 1) := by decide +kernel
theorem dX12_more_90 : decode cX12_more 90 = .ok (.aload_n 0, 1) := by decide +kernel
theorem dX12_more_91 : decode cX12_more 91 = .ok (.iload_n 1, 1) := by decide +kernel
theorem dX12_more_92 : decode cX12_more 92 = .ok (.iconst (-1), 1) := by decide +kernel
theorem dX12_more_93 : decode cX12_more 93 = .ok (.invokevirtual 333, 3) := by decide +kernel
theorem dX12_more_96 : decode cX12_more 96 = .ok (.i2l, 1) := by decide +kernel
theorem dX12_more_97 : decode cX12_more 97 = .ok (.invokevirtual 278, 3) := by decide +kernel
theorem dX12_more_100 : decode cX12_more 100 = .ok (.iload_n 2, 1) := by decide +kernel
theorem dX12_more_101 : decode cX12_more 101 = .ok (.ireturn, 1) := by decide +kernel
set_option maxRecDepth 100000 in
set_option maxHeartbeats 4000000 in
theorem B_X12_more_0 {κ : Nat → List Value → List Value → m2M → Prop} {D : Nat} {Q : Option Value → m2M → Prop} (h : m2_RL κ cX12_more RX12 6 (D + 1) (some .int) Q) (hD : 0 ≤ D) {x1 : Int32} {μ : m2M} (k : ((fX12_in x1 2 12) = 1 → (¬ (μ.1 kM 0) = 0 → κ 34 [.ref kM, .int x1, .int (-1), .int 0, .int 0, .null] [] (m2_si μ kM 22 0)) ∧ ((μ.1 kM 0) = 0 → Q (some (.int (-2))) (m2_si μ kM 22 0))) ∧ (¬ (fX12_in x1 2 12) = 1 → Q (some (.int (-1))) (m2_si μ kM 22 0))) : κ 0 [.ref kM, .int x1, .null, .null, .null, .null] [] μ := by
  have hB := h.b
  refine m2_aload_n hB dX12_more_0 rfl ?_
  refine m2_iconst hB dX12_more_1 (v := 0) (by decide) ?_
  refine m2_putI hB dX12_more_2 fl_X12_143 sh_kM rfl ?_
  refine m2_iload_n hB dX12_more_5 rfl ?_
  refine m2_iconst hB dX12_more_6 (v := 2) (by decide) ?_
  refine m2_bipush hB dX12_more_7 (v := 12) (by decide) ?_
  refine m2_invSz hB (as := [.int x1, .int 2, .int 12]) dX12_more_9 ms_X12_149 rfl (Nat.le_of_ble_eq_true rfl) rfl (P_X12_in (by omega) (x1) (2) (12) _ ) (fun y1 μ2 hq3 => ?_)
  obtain ⟨⟨⟩, hq3⟩ := hq3
  subst μ2
  show κ 12 [.ref kM, .int x1, .null, .null, .null, .null] [.int (if (fX12_in x1 2 12) = 1 then 1 else 0 : Int32)] (m2_si μ kM 22 0)
  by_cases q4 : (fX12_in x1 2 12) = 1
  · rw [if_pos q4]
    replace k := k.1 q4
    refine m2_if_ne hB dX12_more_12 (tgt := 17) (by decide) (fun _ => ?_) (fun q => absurd q (by decide))
    refine m2_aload_n hB dX12_more_17 rfl ?_
    refine m2_getI hB dX12_more_18 fl_X12_153 sh_kM rfl ?_
    refine m2_if_ne hB dX12_more_21 (tgt := 27) (by decide) (fun q5 : ¬ (μ.1 kM 0) = 0 => ?_) (fun q5 : (μ.1 kM 0) = 0 => ?_)
    · replace k := k.1 q5
      refine m2_iconst hB dX12_more_27 (v := (-1)) (by decide) ?_
      refine m2_istore_n hB (ls' := [.ref kM, .int x1, .int (-1), .null, .null, .null]) dX12_more_28 rfl (by decide) rfl ?_
      refine m2_iconst hB dX12_more_29 (v := 0) (by decide) ?_
      refine m2_istore_n hB (ls' := [.ref kM, .int x1, .int (-1), .int 0, .null, .null]) dX12_more_30 rfl (by decide) rfl ?_
      refine m2_iconst hB dX12_more_31 (v := 0) (by decide) ?_
      refine m2_istore hB (ls' := [.ref kM, .int x1, .int (-1), .int 0, .int 0, .null]) dX12_more_32 (by decide) rfl ?_
      exact k
    · replace k := k.2 q5
      refine m2_bipush hB dX12_more_24 (v := (-2)) (by decide) ?_
      exact m2_iret h dX12_more_26 k
  · rw [if_neg q4]
    replace k := k.2 q4
    refine m2_if_ne hB dX12_more_12 (tgt := 17) (by decide) (fun q => absurd q (by decide)) (fun _ => ?_)
    refine m2_iconst hB dX12_more_15 (v := (-1)) (by decide) ?_
    exact m2_iret h dX12_more_16 k
set_option maxRecDepth 100000 in
set_option maxHeartbeats 4000000 in
theorem B_X12_more_34 {κ : Nat → List Value → List Value → m2M → Prop} {D : Nat} {Q : Option Value → m2M → Prop} (h : m2_RL κ cX12_more RX12 6 (D + 1) (some .int) Q) {v1 : Int32} {v2 : Int32} {v3 : Int32} {v4 : Int32} {μ : m2M} (k : ((μ.1 kM 0) ≤ v4 → ∃ Q4 : Option Value → m2M → Prop, m2_MT D yX12_tell cX12_tell 3 none [.ref kM, .long (v3).toInt64] (m2_si μ kM 21 0) Q4 ∧ ∀ (μ3 : m2M), Q4 none μ3 → (∃ Q9 : Option Value → m2M → Prop, m2_MT D yX12_sumOfPairs cX12_sumOfPairs 6 (some .int) [.ref kM, .int v1, .int (-1)] μ3 Q9 ∧ ∀ (y7 : Int32) (μ8 : m2M), Q9 (some (.int y7)) μ8 → (∃ Q14 : Option Value → m2M → Prop, m2_MT D yX12_tell cX12_tell 3 none [.ref kM, .long (y7).toInt64] μ8 Q14 ∧ ∀ (μ13 : m2M), Q14 none μ13 → (Q (some (.int v2)) μ13)))) ∧ (¬ (μ.1 kM 0) ≤ v4 → ∃ Q19 : Option Value → m2M → Prop, m2_MT D yX12_sumOfPairs cX12_sumOfPairs 6 (some .int) [.ref kM, .int v1, .int v4] μ Q19 ∧ ∀ (y17 : Int32) (μ18 : m2M), Q19 (some (.int y17)) μ18 → ((v2 = (-1) → κ 34 [.ref kM, .int v1, .int v4, .int y17, .int (v4 + 1), .null] [] μ18) ∧ (¬ v2 = (-1) → (v3 < y17 → κ 34 [.ref kM, .int v1, .int v4, .int y17, .int (v4 + 1), .null] [] μ18) ∧ (¬ v3 < y17 → κ 34 [.ref kM, .int v1, .int v2, .int v3, .int (v4 + 1), .null] [] μ18))))) : κ 34 [.ref kM, .int v1, .int v2, .int v3, .int v4, .null] [] μ := by
  have hB := h.b
  refine m2_iload hB dX12_more_34 rfl ?_
  refine m2_aload_n hB dX12_more_36 rfl ?_
  refine m2_getI hB dX12_more_37 fl_X12_153 sh_kM rfl ?_
  refine m2_icmp_ge hB dX12_more_40 (tgt := 78) (by decide) (fun q1 : (μ.1 kM 0) ≤ v4 => ?_) (fun q1 : ¬ (μ.1 kM 0) ≤ v4 => ?_)
  · replace k := k.1 q1
    refine m2_aload_n hB dX12_more_78 rfl ?_
    refine m2_iconst hB dX12_more_79 (v := 0) (by decide) ?_
    refine m2_putI hB dX12_more_80 fl_X12_146 sh_kM rfl ?_
    refine m2_aload_n hB dX12_more_83 rfl ?_
    refine m2_iload_n hB dX12_more_84 rfl ?_
    refine m2_i2l hB dX12_more_85 ?_
    obtain ⟨Q4, hM5, k⟩ := k
    refine m2_invv hB (as := [.long (v3).toInt64]) dX12_more_86 mv_X12_278 rfl sh_kM rfl (Nat.le_of_ble_eq_true rfl) rfl hM5 (fun μ3 hq6 => ?_)
    replace k := k μ3 hq6
    refine m2_aload_n hB dX12_more_89 rfl ?_
    refine m2_aload_n hB dX12_more_90 rfl ?_
    refine m2_iload_n hB dX12_more_91 rfl ?_
    refine m2_iconst hB dX12_more_92 (v := (-1)) (by decide) ?_
    obtain ⟨Q9, hM10, k⟩ := k
    refine m2_invi hB (as := [.int v1, .int (-1)]) dX12_more_93 mv_X12_333 rfl sh_kM rfl (Nat.le_of_ble_eq_true rfl) rfl hM10 (fun y7 μ8 hq11 => ?_)
    replace k := k y7 μ8 hq11
    refine m2_i2l hB dX12_more_96 ?_
    obtain ⟨Q14, hM15, k⟩ := k
    refine m2_invv hB (as := [.long (y7).toInt64]) dX12_more_97 mv_X12_278 rfl sh_kM rfl (Nat.le_of_ble_eq_true rfl) rfl hM15 (fun μ13 hq16 => ?_)
    replace k := k μ13 hq16
    refine m2_iload_n hB dX12_more_100 rfl ?_
    exact m2_iret h dX12_more_101 k
  · replace k := k.2 q1
    refine m2_aload_n hB dX12_more_43 rfl ?_
    refine m2_iload_n hB dX12_more_44 rfl ?_
    refine m2_iload hB dX12_more_45 rfl ?_
    obtain ⟨Q19, hM20, k⟩ := k
    refine m2_invi hB (as := [.int v1, .int v4]) dX12_more_47 mv_X12_333 rfl sh_kM rfl (Nat.le_of_ble_eq_true rfl) rfl hM20 (fun y17 μ18 hq21 => ?_)
    replace k := k y17 μ18 hq21
    refine m2_istore hB (ls' := [.ref kM, .int v1, .int v2, .int v3, .int v4, .int y17]) dX12_more_50 (by decide) rfl ?_
    refine m2_iload_n hB dX12_more_52 rfl ?_
    refine m2_iconst hB dX12_more_53 (v := (-1)) (by decide) ?_
    refine m2_icmp_eq hB dX12_more_54 (tgt := 66) (by decide) (fun q22 : v2 = (-1) => ?_) (fun q22 : ¬ v2 = (-1) => ?_)
    · replace k := k.1 q22
      refine m2_iload hB dX12_more_66 rfl ?_
      refine m2_istore_n hB (ls' := [.ref kM, .int v1, .int v4, .int v3, .int v4, .int y17]) dX12_more_68 rfl (by decide) rfl ?_
      refine m2_iload hB dX12_more_69 rfl ?_
      refine m2_istore_n hB (ls' := [.ref kM, .int v1, .int v4, .int y17, .int v4, .int y17]) dX12_more_71 rfl (by decide) rfl ?_
      refine m2_iinc hB (ls' := [.ref kM, .int v1, .int v4, .int y17, .int (v4 + 1), .int y17]) (v := (v4 + 1)) dX12_more_72 rfl (by decide) rfl rfl ?_
      refine m2_goto hB dX12_more_75 (tgt := 34) (by decide) ?_
      exact m2_weak (ls' := [.ref kM, .int v1, .int v4, .int y17, .int (v4 + 1), .null]) hB ⟨Or.inr rfl, Or.inr rfl, Or.inr rfl, Or.inr rfl, Or.inr rfl, Or.inl rfl, trivial⟩ k
    · replace k := k.2 q22
      refine m2_iload hB dX12_more_57 rfl ?_
      refine m2_iload_n hB dX12_more_59 rfl ?_
      refine m2_icmp_gt hB dX12_more_60 (tgt := 66) (by decide) (fun q23 : v3 < y17 => ?_) (fun q23 : ¬ v3 < y17 => ?_)
      · replace k := k.1 q23
        refine m2_iload hB dX12_more_66 rfl ?_
        refine m2_istore_n hB (ls' := [.ref kM, .int v1, .int v4, .int v3, .int v4, .int y17]) dX12_more_68 rfl (by decide) rfl ?_
        refine m2_iload hB dX12_more_69 rfl ?_
        refine m2_istore_n hB (ls' := [.ref kM, .int v1, .int v4, .int y17, .int v4, .int y17]) dX12_more_71 rfl (by decide) rfl ?_
        refine m2_iinc hB (ls' := [.ref kM, .int v1, .int v4, .int y17, .int (v4 + 1), .int y17]) (v := (v4 + 1)) dX12_more_72 rfl (by decide) rfl rfl ?_
        refine m2_goto hB dX12_more_75 (tgt := 34) (by decide) ?_
        exact m2_weak (ls' := [.ref kM, .int v1, .int v4, .int y17, .int (v4 + 1), .null]) hB ⟨Or.inr rfl, Or.inr rfl, Or.inr rfl, Or.inr rfl, Or.inr rfl, Or.inl rfl, trivial⟩ k
      · replace k := k.2 q23
        refine m2_goto hB dX12_more_63 (tgt := 72) (by decide) ?_
        refine m2_iinc hB (ls' := [.ref kM, .int v1, .int v2, .int v3, .int (v4 + 1), .int y17]) (v := (v4 + 1)) dX12_more_72 rfl (by decide) rfl rfl ?_
        refine m2_goto hB dX12_more_75 (tgt := 34) (by decide) ?_
        exact m2_weak (ls' := [.ref kM, .int v1, .int v2, .int v3, .int (v4 + 1), .null]) hB ⟨Or.inr rfl, Or.inr rfl, Or.inr rfl, Or.inr rfl, Or.inr rfl, Or.inl rfl, trivial⟩ k
theorem dX12_build_0 : decode cX12_build 0 = .ok (.aload_n 0, 1) := by decide +kernel
theorem dX12_build_1 : decode cX12_build 1 = .ok (.iconst 0, 1) := by decide +kernel
theorem dX12_build_2 : decode cX12_build 2 = .ok (.putfield 143, 3) := by decide +kernel
theorem dX12_build_5 : decode cX12_build 5 = .ok (.iload_n 1, 1) := by decide +kernel
theorem dX12_build_6 : decode cX12_build 6 = .ok (.iload_n 2, 1) := by decide +kernel
theorem dX12_build_7 : decode cX12_build 7 = .ok (.invokestatic 326, 3) := by decide +kernel
theorem dX12_build_10 : decode cX12_build 10 = .ok (.ifCond .eq 24, 3) := by decide +kernel
theorem dX12_build_13 : decode cX12_build 13 = .ok (.iload_n 3, 1) := by decide +kernel
theorem dX12_build_14 : decode cX12_build 14 = .ok (.iconst 2, 1) := by decide +kernel
theorem dX12_build_15 : decode cX12_build 15 = .ok (.bipush 12, 2) := by decide +kernel
theorem dX12_build_17 : decode cX12_build 17 = .ok (.invokestatic 149, 3) := by decide +kernel
theorem dX12_build_20 : decode cX12_build 20 = .ok (.ifCond .eq 14, 3) := by decide +kernel
theorem dX12_build_23 : decode cX12_build 23 = .ok (.iload 4, 2) := by decide +kernel
theorem dX12_build_25 : decode cX12_build 25 = .ok (.iconst 1, 1) := by decide +kernel
theorem dX12_build_26 : decode cX12_build 26 = .ok (.bipush 60, 2) := by decide +kernel
theorem dX12_build_28 : decode cX12_build 28 = .ok (.invokestatic 149, 3) := by decide +kernel
theorem dX12_build_31 : decode cX12_build 31 = .ok (.ifCond .ne 5, 3) := by decide +kernel
theorem dX12_build_34 : decode cX12_build 34 = .ok (.iconst (-1), 1) := by decide +kernel
theorem dX12_build_35 : decode cX12_build 35 = .ok (.ireturn, 1) := by decide +kernel
theorem dX12_build_36 : decode cX12_build 36 = .ok (.iconst (-1), 1) := by decide +kernel
theorem dX12_build_37 : decode cX12_build 37 = .ok (.istore 5, 2) := by decide +kernel
theorem dX12_build_39 : decode cX12_build 39 = .ok (.iconst 0, 1) := by decide +kernel
theorem dX12_build_40 : decode cX12_build 40 = .ok (.istore 6, 2) := by decide +kernel
theorem dX12_build_42 : decode cX12_build 42 = .ok (.iconst 0, 1) := by decide +kernel
theorem dX12_build_43 : decode cX12_build 43 = .ok (.istore 7, 2) := by decide +kernel
theorem dX12_build_45 : decode cX12_build 45 = .ok (.iconst 0, 1) := by decide +kernel
theorem dX12_build_46 : decode cX12_build 46 = .ok (.istore 8, 2) := by decide +kernel
theorem dX12_build_48 : decode cX12_build 48 = .ok (.iload 8, 2) := by decide +kernel
theorem dX12_build_50 : decode cX12_build 50 = .ok (.iload_n 3, 1) := by decide +kernel
theorem dX12_build_51 : decode cX12_build 51 = .ok (.if_icmp .ge 134, 3) := by decide +kernel
theorem dX12_build_54 : decode cX12_build 54 = .ok (.iload 8, 2) := by decide +kernel
theorem dX12_build_56 : decode cX12_build 56 = .ok (.iconst 1, 1) := by decide +kernel
theorem dX12_build_57 : decode cX12_build 57 = .ok (.iadd, 1) := by decide +kernel
theorem dX12_build_58 : decode cX12_build 58 = .ok (.istore 9, 2) := by decide +kernel
theorem dX12_build_60 : decode cX12_build 60 = .ok (.iload 9, 2) := by decide +kernel
theorem dX12_build_62 : decode cX12_build 62 = .ok (.iload_n 3, 1) := by decide +kernel
theorem dX12_build_63 : decode cX12_build 63 = .ok (.if_icmp .ge 116, 3) := by decide +kernel
theorem dX12_build_66 : decode cX12_build 66 = .ok (.aload_n 0, 1) := by decide +kernel
theorem dX12_build_67 : decode cX12_build 67 = .ok (.invokevirtual 317, 3) := by decide +kernel
theorem dX12_build_70 : decode cX12_build 70 = .ok (.iconst 0, 1) := by decide +kernel
theorem dX12_build_71 : decode cX12_build 71 = .ok (.istore 10, 2) := by decide +kernel
theorem dX12_build_73 : decode cX12_build 73 = .ok (.iload 10, 2) := by decide +kernel
theorem dX12_build_75 : decode cX12_build 75 = .ok (.aload_n 0, 1) := by decide +kernel
theorem dX12_build_76 : decode cX12_build 76 = .ok (.getfield 153, 3) := by decide +kernel
theorem dX12_build_79 : decode cX12_build 79 = .ok (.if_icmp .ge 22, 3) := by decide +kernel
theorem dX12_build_82 : decode cX12_build 82 = .ok (.aload_n 0, 1) := by decide +kernel
theorem dX12_build_83 : decode cX12_build 83 = .ok (.iload 10, 2) := by decide +kernel
theorem dX12_build_85 : decode cX12_build 85 = .ok (.aload_n 0, 1) := by decide +kernel
theorem dX12_build_86 : decode cX12_build 86 = .ok (.getfield 23, 3) := by decide +kernel
theorem dX12_build_89 : decode cX12_build 89 = .ok (.iload 10, 2) := by decide +kernel
theorem dX12_build_91 : decode cX12_build 91 = .ok (.iaload, 1) := by decide +kernel
theorem dX12_build_92 : decode cX12_build 92 = .ok (.invokevirtual 320, 3) := by decide +kernel
theorem dX12_build_95 : decode cX12_build 95 = .ok (.iinc 10 1, 3) := by decide +kernel
theorem dX12_build_98 : decode cX12_build 98 = .ok (.goto (-25), 3) := by decide +kernel
theorem dX12_build_101 : decode cX12_build 101 = .ok (.aload_n 0, 1) := by decide +kernel
theorem dX12_build_102 : decode cX12_build 102 = .ok (.getfield 86, 3) := by decide +kernel
theorem dX12_build_105 : decode cX12_build 105 = .ok (.bipush 14, 2) := by decide +kernel
theorem dX12_build_107 : decode cX12_build 107 = .ok (.iload 8, 2) := by decide +kernel
theorem dX12_build_109 : decode cX12_build 109 = .ok (.imul, 1) := by decide +kernel
theorem dX12_build_110 : decode cX12_build 110 = .ok (.iload 9, 2) := by decide +kernel
theorem dX12_build_112 : decode cX12_build 112 = .ok (.iadd, 1) := by decide +kernel
theorem dX12_build_113 : decode cX12_build 113 = .ok (.dup2, 1) := by decide +kernel
theorem dX12_build_114 : decode cX12_build 114 = .ok (.iaload, 1) := by decide +kernel
theorem dX12_build_115 : decode cX12_build 115 = .ok (.iload 4, 2) := by decide +kernel
theorem dX12_build_117 : decode cX12_build 117 = .ok (.iadd, 1) := by decide +kernel
theorem dX12_build_118 : decode cX12_build 118 = .ok (.iastore, 1) := by decide +kernel
theorem dX12_build_119 : decode cX12_build 119 = .ok (.aload_n 0, 1) := by decide +kernel
theorem dX12_build_120 : decode cX12_build 120 = .ok (.getfield 86, 3) := by decide +kernel
theorem dX12_build_123 : decode cX12_build 123 = .ok (.bipush 14, 2) := by decide +kernel
theorem dX12_build_125 : decode cX12_build 125 = .ok (.iload 9, 2) := by decide +kernel
theorem dX12_build_127 : decode cX12_build 127 = .ok (.imul, 1) := by decide +kernel
theorem dX12_build_128 : decode cX12_build 128 = .ok (.iload 8, 2) := by decide +kernel
theorem dX12_build_130 : decode cX12_build 130 = .ok (.iadd, 1) := by decide +kernel
theorem dX12_build_131 : decode cX12_build 131 = .ok (.dup2, 1) := by decide +kernel
theorem dX12_build_132 : decode cX12_build 132 = .ok (.iaload, 1) := by decide +kernel
theorem dX12_build_133 : decode cX12_build 133 = .ok (.iload 4, 2) := by decide +kernel
theorem dX12_build_135 : decode cX12_build 135 = .ok (.iadd, 1) := by decide +kernel
theorem dX12_build_136 : decode cX12_build 136 = .ok (.iastore, 1) := by decide +kernel
theorem dX12_build_137 : decode cX12_build 137 = .ok (.aload_n 0, 1) := by decide +kernel
theorem dX12_build_138 : decode cX12_build 138 = .ok (.iload_n 1, 1) := by decide +kernel
theorem dX12_build_139 : decode cX12_build 139 = .ok (.iload_n 2, 1) := by decide +kernel
theorem dX12_build_140 : decode cX12_build 140 = .ok (.invokevirtual 323, 3) := by decide +kernel
theorem dX12_build_143 : decode cX12_build 143 = .ok (.istore 10, 2) := by decide +kernel
theorem dX12_build_145 : decode cX12_build 145 = .ok (.iload 5, 2) := by decide +kernel
theorem dX12_build_147 : decode cX12_build 147 = .ok (.iconst (-1), 1) := by decide +kernel
theorem dX12_build_148 : decode cX12_build 148 = .ok (.if_icmp .eq 13, 3) := by decide +kernel
theorem dX12_build_151 : decode cX12_build 151 = .ok (.iload 10, 2) := by decide +kernel
theorem dX12_build_153 : decode cX12_build 153 = .ok (.iload 7, 2) := by decide +kernel
theorem dX12_build_155 : decode cX12_build 155 = .ok (.if_icmp .gt 6, 3) := by decide +kernel
theorem dX12_build_158 : decode cX12_build 158 = .ok (.goto 15, 3) := by decide +kernel
theorem dX12_build_161 : decode cX12_build 161 = .ok (.iload 8, 2) := by decide +kernel
theorem dX12_build_163 : decode cX12_build 163 = .ok (.istore 5, 2) := by decide +kernel
theorem dX12_build_165 : decode cX12_build 165 = .ok (.iload 9, 2) := by decide +kernel
theorem dX12_build_167 : decode cX12_build 167 = .ok (.istore 6, 2) := by decide +kernel
theorem dX12_build_169 : decode cX12_build 169 = .ok (.iload 10, 2) := by decide +kernel
theorem dX12_build_171 : decode cX12_build 171 = .ok (.istore 7, 2) := by decide +kernel
theorem dX12_build_173 : decode cX12_build 173 = .ok (.iinc 9 1, 3) := by decide +kernel
theorem dX12_build_176 : decode cX12_build 176 = .ok (.goto (-116), 3) := by decide +kernel
theorem dX12_build_179 : decode cX12_build 179 = .ok (.iinc 8 1, 3) := by decide +kernel
theorem dX12_build_182 : decode cX12_build 182 = .ok (.goto (-134), 3) := by decide +kernel
theorem dX12_build_185 : decode cX12_build 185 = .ok (.aload_n 0, 1) := by decide +kernel
theorem dX12_build_186 : decode cX12_build 186 = .ok (.iconst 0, 1) := by decide +kernel
theorem dX12_build_187 : decode cX12_build 187 = .ok (.putfield 146, 3) := by decide +kernel
theorem dX12_build_190 : decode cX12_build 190 = .ok (.aload_n 0, 1) := by decide +kernel
theorem dX12_build_191 : decode cX12_build 191 = .ok (.iload 5, 2) := by decide +kernel
theorem dX12_build_193 : decode cX12_build 193 = .ok (.i2l, 1) := by decide +kernel
theorem dX12_build_194 : decode cX12_build 194 = .ok (.invokevirtual 278, 3) := by decide +kernel
theorem dX12_build_197 : decode cX12_build 197 = .ok (.aload_n 0, 1) := by decide +kernel
theorem dX12_build_198 : decode cX12_build 198 = .ok (.iload 6, 2) := by decide +kernel
theorem dX12_build_200 : decode cX12_build 200 = .ok (.i2l, 1) := by decide +kernel
theorem dX12_build_201 : decode cX12_build 201 = .ok (.invokevirtual 278, 3) := by decide +kernel
theorem dX12_build_204 : decode cX12_build 204 = .ok (.iload 7, 2) := by decide +kernel
theorem dX12_build_206 : decode cX12_build 206 = .ok (.ireturn, 1) := by decide +kernel
set_option maxRecDepth 100000 in
set_option maxHeartbeats 4000000 in
theorem B_X12_build_0 {κ : Nat → List Value → List Value → m2M → Prop} {D : Nat} {Q : Option Value → m2M → Prop} (h : m2_RL κ cX12_build RX12 11 (D + 1) (some .int) Q) (hD : 2 ≤ D) {x1 : Int32} {x2 : Int32} {x3 : Int32} {x4 : Int32} {μ : m2M} (k : ((fX12_areEnds x1 x2) = 1 → ((fX12_in x3 2 12) = 1 → ((fX12_in x4 1 60) = 1 → κ 48 [.ref kM, .int x1, .int x2, .int x3, .int x4, .int (-1), .int 0, .int 0, .int 0, .null, .null] [] (m2_si μ kM 22 0)) ∧ (¬ (fX12_in x4 1 60) = 1 → Q (some (.int (-1))) (m2_si μ kM 22 0))) ∧ (¬ (fX12_in x3 2 12) = 1 → Q (some (.int (-1))) (m2_si μ kM 22 0))) ∧ (¬ (fX12_areEnds x1 x2) = 1 → Q (some (.int (-1))) (m2_si μ kM 22 0))) : κ 0 [.ref kM, .int x1, .int x2, .int x3, .int x4, .null, .null, .null, .null, .null, .null] [] μ := by
  have hB := h.b
  refine m2_aload_n hB dX12_build_0 rfl ?_
  refine m2_iconst hB dX12_build_1 (v := 0) (by decide) ?_
  refine m2_putI hB dX12_build_2 fl_X12_143 sh_kM rfl ?_
  refine m2_iload_n hB dX12_build_5 rfl ?_
  refine m2_iload_n hB dX12_build_6 rfl ?_
  refine m2_invSz hB (as := [.int x1, .int x2]) dX12_build_7 ms_X12_326 rfl (Nat.le_of_ble_eq_true rfl) rfl (P_X12_areEnds (by omega) (x1) (x2) _ ) (fun y1 μ2 hq3 => ?_)
  obtain ⟨⟨⟩, hq3⟩ := hq3
  subst μ2
  show κ 10 [.ref kM, .int x1, .int x2, .int x3, .int x4, .null, .null, .null, .null, .null, .null] [.int (if (fX12_areEnds x1 x2) = 1 then 1 else 0 : Int32)] (m2_si μ kM 22 0)
  by_cases q4 : (fX12_areEnds x1 x2) = 1
  · rw [if_pos q4]
    replace k := k.1 q4
    refine m2_if_eq hB dX12_build_10 (tgt := 34) (by decide) (fun q => absurd q (by decide)) (fun _ => ?_)
    refine m2_iload_n hB dX12_build_13 rfl ?_
    refine m2_iconst hB dX12_build_14 (v := 2) (by decide) ?_
    refine m2_bipush hB dX12_build_15 (v := 12) (by decide) ?_
    refine m2_invSz hB (as := [.int x3, .int 2, .int 12]) dX12_build_17 ms_X12_149 rfl (Nat.le_of_ble_eq_true rfl) rfl (P_X12_in (by omega) (x3) (2) (12) _ ) (fun y5 μ6 hq7 => ?_)
    obtain ⟨⟨⟩, hq7⟩ := hq7
    subst μ6
    show κ 20 [.ref kM, .int x1, .int x2, .int x3, .int x4, .null, .null, .null, .null, .null, .null] [.int (if (fX12_in x3 2 12) = 1 then 1 else 0 : Int32)] (m2_si μ kM 22 0)
    by_cases q8 : (fX12_in x3 2 12) = 1
    · rw [if_pos q8]
      replace k := k.1 q8
      refine m2_if_eq hB dX12_build_20 (tgt := 34) (by decide) (fun q => absurd q (by decide)) (fun _ => ?_)
      refine m2_iload hB dX12_build_23 rfl ?_
      refine m2_iconst hB dX12_build_25 (v := 1) (by decide) ?_
      refine m2_bipush hB dX12_build_26 (v := 60) (by decide) ?_
      refine m2_invSz hB (as := [.int x4, .int 1, .int 60]) dX12_build_28 ms_X12_149 rfl (Nat.le_of_ble_eq_true rfl) rfl (P_X12_in (by omega) (x4) (1) (60) _ ) (fun y9 μ10 hq11 => ?_)
      obtain ⟨⟨⟩, hq11⟩ := hq11
      subst μ10
      show κ 31 [.ref kM, .int x1, .int x2, .int x3, .int x4, .null, .null, .null, .null, .null, .null] [.int (if (fX12_in x4 1 60) = 1 then 1 else 0 : Int32)] (m2_si μ kM 22 0)
      by_cases q12 : (fX12_in x4 1 60) = 1
      · rw [if_pos q12]
        replace k := k.1 q12
        refine m2_if_ne hB dX12_build_31 (tgt := 36) (by decide) (fun _ => ?_) (fun q => absurd q (by decide))
        refine m2_iconst hB dX12_build_36 (v := (-1)) (by decide) ?_
        refine m2_istore hB (ls' := [.ref kM, .int x1, .int x2, .int x3, .int x4, .int (-1), .null, .null, .null, .null, .null]) dX12_build_37 (by decide) rfl ?_
        refine m2_iconst hB dX12_build_39 (v := 0) (by decide) ?_
        refine m2_istore hB (ls' := [.ref kM, .int x1, .int x2, .int x3, .int x4, .int (-1), .int 0, .null, .null, .null, .null]) dX12_build_40 (by decide) rfl ?_
        refine m2_iconst hB dX12_build_42 (v := 0) (by decide) ?_
        refine m2_istore hB (ls' := [.ref kM, .int x1, .int x2, .int x3, .int x4, .int (-1), .int 0, .int 0, .null, .null, .null]) dX12_build_43 (by decide) rfl ?_
        refine m2_iconst hB dX12_build_45 (v := 0) (by decide) ?_
        refine m2_istore hB (ls' := [.ref kM, .int x1, .int x2, .int x3, .int x4, .int (-1), .int 0, .int 0, .int 0, .null, .null]) dX12_build_46 (by decide) rfl ?_
        exact k
      · rw [if_neg q12]
        replace k := k.2 q12
        refine m2_if_ne hB dX12_build_31 (tgt := 36) (by decide) (fun q => absurd q (by decide)) (fun _ => ?_)
        refine m2_iconst hB dX12_build_34 (v := (-1)) (by decide) ?_
        exact m2_iret h dX12_build_35 k
    · rw [if_neg q8]
      replace k := k.2 q8
      refine m2_if_eq hB dX12_build_20 (tgt := 34) (by decide) (fun _ => ?_) (fun q => absurd q (by decide))
      refine m2_iconst hB dX12_build_34 (v := (-1)) (by decide) ?_
      exact m2_iret h dX12_build_35 k
  · rw [if_neg q4]
    replace k := k.2 q4
    refine m2_if_eq hB dX12_build_10 (tgt := 34) (by decide) (fun _ => ?_) (fun q => absurd q (by decide))
    refine m2_iconst hB dX12_build_34 (v := (-1)) (by decide) ?_
    exact m2_iret h dX12_build_35 k
set_option maxRecDepth 100000 in
set_option maxHeartbeats 4000000 in
theorem B_X12_build_48 {κ : Nat → List Value → List Value → m2M → Prop} {D : Nat} {Q : Option Value → m2M → Prop} (h : m2_RL κ cX12_build RX12 11 (D + 1) (some .int) Q) {v1 : Int32} {v2 : Int32} {v3 : Int32} {v4 : Int32} {v5 : Int32} {v6 : Int32} {v7 : Int32} {v8 : Int32} {μ : m2M} (k : (v3 ≤ v8 → ∃ Q4 : Option Value → m2M → Prop, m2_MT D yX12_tell cX12_tell 3 none [.ref kM, .long (v5).toInt64] (m2_si μ kM 21 0) Q4 ∧ ∀ (μ3 : m2M), Q4 none μ3 → (∃ Q9 : Option Value → m2M → Prop, m2_MT D yX12_tell cX12_tell 3 none [.ref kM, .long (v6).toInt64] μ3 Q9 ∧ ∀ (μ8 : m2M), Q9 none μ8 → (Q (some (.int v7)) μ8))) ∧ (¬ v3 ≤ v8 → κ 60 [.ref kM, .int v1, .int v2, .int v3, .int v4, .int v5, .int v6, .int v7, .int v8, .int (v8 + 1), .null] [] μ)) : κ 48 [.ref kM, .int v1, .int v2, .int v3, .int v4, .int v5, .int v6, .int v7, .int v8, .null, .null] [] μ := by
  have hB := h.b
  refine m2_iload hB dX12_build_48 rfl ?_
  refine m2_iload_n hB dX12_build_50 rfl ?_
  refine m2_icmp_ge hB dX12_build_51 (tgt := 185) (by decide) (fun q1 : v3 ≤ v8 => ?_) (fun q1 : ¬ v3 ≤ v8 => ?_)
  · replace k := k.1 q1
    refine m2_aload_n hB dX12_build_185 rfl ?_
    refine m2_iconst hB dX12_build_186 (v := 0) (by decide) ?_
    refine m2_putI hB dX12_build_187 fl_X12_146 sh_kM rfl ?_
    refine m2_aload_n hB dX12_build_190 rfl ?_
    refine m2_iload hB dX12_build_191 rfl ?_
    refine m2_i2l hB dX12_build_193 ?_
    obtain ⟨Q4, hM5, k⟩ := k
    refine m2_invv hB (as := [.long (v5).toInt64]) dX12_build_194 mv_X12_278 rfl sh_kM rfl (Nat.le_of_ble_eq_true rfl) rfl hM5 (fun μ3 hq6 => ?_)
    replace k := k μ3 hq6
    refine m2_aload_n hB dX12_build_197 rfl ?_
    refine m2_iload hB dX12_build_198 rfl ?_
    refine m2_i2l hB dX12_build_200 ?_
    obtain ⟨Q9, hM10, k⟩ := k
    refine m2_invv hB (as := [.long (v6).toInt64]) dX12_build_201 mv_X12_278 rfl sh_kM rfl (Nat.le_of_ble_eq_true rfl) rfl hM10 (fun μ8 hq11 => ?_)
    replace k := k μ8 hq11
    refine m2_iload hB dX12_build_204 rfl ?_
    exact m2_iret h dX12_build_206 k
  · replace k := k.2 q1
    refine m2_iload hB dX12_build_54 rfl ?_
    refine m2_iconst hB dX12_build_56 (v := 1) (by decide) ?_
    refine m2_iadd hB dX12_build_57 ?_
    refine m2_istore hB (ls' := [.ref kM, .int v1, .int v2, .int v3, .int v4, .int v5, .int v6, .int v7, .int v8, .int (v8 + 1), .null]) dX12_build_58 (by decide) rfl ?_
    exact k
set_option maxRecDepth 100000 in
set_option maxHeartbeats 4000000 in
theorem B_X12_build_60 {κ : Nat → List Value → List Value → m2M → Prop} {D : Nat} {Q : Option Value → m2M → Prop} (h : m2_RL κ cX12_build RX12 11 (D + 1) (some .int) Q) {v1 : Int32} {v2 : Int32} {v3 : Int32} {v4 : Int32} {v5 : Int32} {v6 : Int32} {v7 : Int32} {v8 : Int32} {v9 : Int32} {μ : m2M} (k : (v3 ≤ v9 → κ 48 [.ref kM, .int v1, .int v2, .int v3, .int v4, .int v5, .int v6, .int v7, .int (v8 + 1), .null, .null] [] μ) ∧ (¬ v3 ≤ v9 → ∃ Q4 : Option Value → m2M → Prop, m2_MT D yX12_clearFlow cX12_clearFlow 2 none [.ref kM] μ Q4 ∧ ∀ (μ3 : m2M), Q4 none μ3 → (κ 73 [.ref kM, .int v1, .int v2, .int v3, .int v4, .int v5, .int v6, .int v7, .int v8, .int v9, .int 0] [] μ3))) : κ 60 [.ref kM, .int v1, .int v2, .int v3, .int v4, .int v5, .int v6, .int v7, .int v8, .int v9, .null] [] μ := by
  have hB := h.b
  refine m2_iload hB dX12_build_60 rfl ?_
  refine m2_iload_n hB dX12_build_62 rfl ?_
  refine m2_icmp_ge hB dX12_build_63 (tgt := 179) (by decide) (fun q1 : v3 ≤ v9 => ?_) (fun q1 : ¬ v3 ≤ v9 => ?_)
  · replace k := k.1 q1
    refine m2_iinc hB (ls' := [.ref kM, .int v1, .int v2, .int v3, .int v4, .int v5, .int v6, .int v7, .int (v8 + 1), .int v9, .null]) (v := (v8 + 1)) dX12_build_179 rfl (by decide) rfl rfl ?_
    refine m2_goto hB dX12_build_182 (tgt := 48) (by decide) ?_
    exact m2_weak (ls' := [.ref kM, .int v1, .int v2, .int v3, .int v4, .int v5, .int v6, .int v7, .int (v8 + 1), .null, .null]) hB ⟨Or.inr rfl, Or.inr rfl, Or.inr rfl, Or.inr rfl, Or.inr rfl, Or.inr rfl, Or.inr rfl, Or.inr rfl, Or.inr rfl, Or.inl rfl, Or.inl rfl, trivial⟩ k
  · replace k := k.2 q1
    refine m2_aload_n hB dX12_build_66 rfl ?_
    obtain ⟨Q4, hM5, k⟩ := k
    refine m2_invv hB (as := []) dX12_build_67 mv_X12_317 rfl sh_kM rfl (Nat.le_of_ble_eq_true rfl) rfl hM5 (fun μ3 hq6 => ?_)
    replace k := k μ3 hq6
    refine m2_iconst hB dX12_build_70 (v := 0) (by decide) ?_
    refine m2_istore hB (ls' := [.ref kM, .int v1, .int v2, .int v3, .int v4, .int v5, .int v6, .int v7, .int v8, .int v9, .int 0]) dX12_build_71 (by decide) rfl ?_
    exact k
set_option maxRecDepth 100000 in
set_option maxHeartbeats 4000000 in
theorem B_X12_build_73 {κ : Nat → List Value → List Value → m2M → Prop} {D : Nat} {Q : Option Value → m2M → Prop} (h : m2_RL κ cX12_build RX12 11 (D + 1) (some .int) Q) {v1 : Int32} {v2 : Int32} {v3 : Int32} {v4 : Int32} {v5 : Int32} {v6 : Int32} {v7 : Int32} {v8 : Int32} {v9 : Int32} {v10 : Int32} {μ : m2M} (k : ((μ.1 kM 0) ≤ v10 → (vp_in (((14 : Int32) * v8) + v9) 196) ∧ ((vp_in (((14 : Int32) * v9) + v8) 196) ∧ (∃ Q9 : Option Value → m2M → Prop, m2_MT D yX12_flow cX12_flow 6 (some .int) [.ref kM, .int v1, .int v2] (m2_si (m2_si μ kM_can ((((14 : Int32) * v8) + v9)).toNatClampNeg ((μ.1 kM_can ((((14 : Int32) * v8) + v9)).toNatClampNeg) + v4)) kM_can ((((14 : Int32) * v9) + v8)).toNatClampNeg ((((m2_si μ kM_can ((((14 : Int32) * v8) + v9)).toNatClampNeg ((μ.1 kM_can ((((14 : Int32) * v8) + v9)).toNatClampNeg) + v4))).1 kM_can ((((14 : Int32) * v9) + v8)).toNatClampNeg) + v4)) Q9 ∧ ∀ (y7 : Int32) (μ8 : m2M), Q9 (some (.int y7)) μ8 → ((v5 = (-1) → κ 60 [.ref kM, .int v1, .int v2, .int v3, .int v4, .int v8, .int v9, .int y7, .int v8, .int (v9 + 1), .null] [] μ8) ∧ (¬ v5 = (-1) → (v7 < y7 → κ 60 [.ref kM, .int v1, .int v2, .int v3, .int v4, .int v8, .int v9, .int y7, .int v8, .int (v9 + 1), .null] [] μ8) ∧ (¬ v7 < y7 → κ 60 [.ref kM, .int v1, .int v2, .int v3, .int v4, .int v5, .int v6, .int v7, .int v8, .int (v9 + 1), .null] [] μ8)))))) ∧ (¬ (μ.1 kM 0) ≤ v10 → (vp_in v10 20) ∧ (∃ Q17 : Option Value → m2M → Prop, m2_MT D yX12_layDoor cX12_layDoor 3 none [.ref kM, .int v10, .int (μ.1 kM_left (v10).toNatClampNeg)] μ Q17 ∧ ∀ (μ16 : m2M), Q17 none μ16 → (κ 73 [.ref kM, .int v1, .int v2, .int v3, .int v4, .int v5, .int v6, .int v7, .int v8, .int v9, .int (v10 + 1)] [] μ16)))) : κ 73 [.ref kM, .int v1, .int v2, .int v3, .int v4, .int v5, .int v6, .int v7, .int v8, .int v9, .int v10] [] μ := by
  have hB := h.b
  refine m2_iload hB dX12_build_73 rfl ?_
  refine m2_aload_n hB dX12_build_75 rfl ?_
  refine m2_getI hB dX12_build_76 fl_X12_153 sh_kM rfl ?_
  refine m2_icmp_ge hB dX12_build_79 (tgt := 101) (by decide) (fun q2 : (μ.1 kM 0) ≤ v10 => ?_) (fun q2 : ¬ (μ.1 kM 0) ≤ v10 => ?_)
  · replace k := k.1 q2
    refine m2_aload_n hB dX12_build_101 rfl ?_
    refine m2_getR hB dX12_build_102 fl_X12_86 sh_kM (c1 := kM_can) rfl ?_
    refine m2_bipush hB dX12_build_105 (v := 14) (by decide) ?_
    refine m2_iload hB dX12_build_107 rfl ?_
    refine m2_imul hB dX12_build_109 ?_
    refine m2_iload hB dX12_build_110 rfl ?_
    refine m2_iadd hB dX12_build_112 ?_
    refine m2_dup2 hB dX12_build_113 rfl rfl ?_
    obtain ⟨hi3, k⟩ := k
    refine m2_iald hB dX12_build_114 sh_kM_can hi3 ?_
    refine m2_iload hB dX12_build_115 rfl ?_
    refine m2_iadd hB dX12_build_117 ?_
    have hi4 := hi3
    refine m2_iast hB dX12_build_118 sh_kM_can hi4 ?_
    refine m2_aload_n hB dX12_build_119 rfl ?_
    refine m2_getR hB dX12_build_120 fl_X12_86 sh_kM (c1 := kM_can) rfl ?_
    refine m2_bipush hB dX12_build_123 (v := 14) (by decide) ?_
    refine m2_iload hB dX12_build_125 rfl ?_
    refine m2_imul hB dX12_build_127 ?_
    refine m2_iload hB dX12_build_128 rfl ?_
    refine m2_iadd hB dX12_build_130 ?_
    refine m2_dup2 hB dX12_build_131 rfl rfl ?_
    obtain ⟨hi5, k⟩ := k
    refine m2_iald hB dX12_build_132 sh_kM_can hi5 ?_
    refine m2_iload hB dX12_build_133 rfl ?_
    refine m2_iadd hB dX12_build_135 ?_
    have hi6 := hi5
    refine m2_iast hB dX12_build_136 sh_kM_can hi6 ?_
    refine m2_aload_n hB dX12_build_137 rfl ?_
    refine m2_iload_n hB dX12_build_138 rfl ?_
    refine m2_iload_n hB dX12_build_139 rfl ?_
    obtain ⟨Q9, hM10, k⟩ := k
    refine m2_invi hB (as := [.int v1, .int v2]) dX12_build_140 mv_X12_323 rfl sh_kM rfl (Nat.le_of_ble_eq_true rfl) rfl hM10 (fun y7 μ8 hq11 => ?_)
    replace k := k y7 μ8 hq11
    refine m2_istore hB (ls' := [.ref kM, .int v1, .int v2, .int v3, .int v4, .int v5, .int v6, .int v7, .int v8, .int v9, .int y7]) dX12_build_143 (by decide) rfl ?_
    refine m2_iload hB dX12_build_145 rfl ?_
    refine m2_iconst hB dX12_build_147 (v := (-1)) (by decide) ?_
    refine m2_icmp_eq hB dX12_build_148 (tgt := 161) (by decide) (fun q12 : v5 = (-1) => ?_) (fun q12 : ¬ v5 = (-1) => ?_)
    · replace k := k.1 q12
      refine m2_iload hB dX12_build_161 rfl ?_
      refine m2_istore hB (ls' := [.ref kM, .int v1, .int v2, .int v3, .int v4, .int v8, .int v6, .int v7, .int v8, .int v9, .int y7]) dX12_build_163 (by decide) rfl ?_
      refine m2_iload hB dX12_build_165 rfl ?_
      refine m2_istore hB (ls' := [.ref kM, .int v1, .int v2, .int v3, .int v4, .int v8, .int v9, .int v7, .int v8, .int v9, .int y7]) dX12_build_167 (by decide) rfl ?_
      refine m2_iload hB dX12_build_169 rfl ?_
      refine m2_istore hB (ls' := [.ref kM, .int v1, .int v2, .int v3, .int v4, .int v8, .int v9, .int y7, .int v8, .int v9, .int y7]) dX12_build_171 (by decide) rfl ?_
      refine m2_iinc hB (ls' := [.ref kM, .int v1, .int v2, .int v3, .int v4, .int v8, .int v9, .int y7, .int v8, .int (v9 + 1), .int y7]) (v := (v9 + 1)) dX12_build_173 rfl (by decide) rfl rfl ?_
      refine m2_goto hB dX12_build_176 (tgt := 60) (by decide) ?_
      exact m2_weak (ls' := [.ref kM, .int v1, .int v2, .int v3, .int v4, .int v8, .int v9, .int y7, .int v8, .int (v9 + 1), .null]) hB ⟨Or.inr rfl, Or.inr rfl, Or.inr rfl, Or.inr rfl, Or.inr rfl, Or.inr rfl, Or.inr rfl, Or.inr rfl, Or.inr rfl, Or.inr rfl, Or.inl rfl, trivial⟩ k
    · replace k := k.2 q12
      refine m2_iload hB dX12_build_151 rfl ?_
      refine m2_iload hB dX12_build_153 rfl ?_
      refine m2_icmp_gt hB dX12_build_155 (tgt := 161) (by decide) (fun q13 : v7 < y7 => ?_) (fun q13 : ¬ v7 < y7 => ?_)
      · replace k := k.1 q13
        refine m2_iload hB dX12_build_161 rfl ?_
        refine m2_istore hB (ls' := [.ref kM, .int v1, .int v2, .int v3, .int v4, .int v8, .int v6, .int v7, .int v8, .int v9, .int y7]) dX12_build_163 (by decide) rfl ?_
        refine m2_iload hB dX12_build_165 rfl ?_
        refine m2_istore hB (ls' := [.ref kM, .int v1, .int v2, .int v3, .int v4, .int v8, .int v9, .int v7, .int v8, .int v9, .int y7]) dX12_build_167 (by decide) rfl ?_
        refine m2_iload hB dX12_build_169 rfl ?_
        refine m2_istore hB (ls' := [.ref kM, .int v1, .int v2, .int v3, .int v4, .int v8, .int v9, .int y7, .int v8, .int v9, .int y7]) dX12_build_171 (by decide) rfl ?_
        refine m2_iinc hB (ls' := [.ref kM, .int v1, .int v2, .int v3, .int v4, .int v8, .int v9, .int y7, .int v8, .int (v9 + 1), .int y7]) (v := (v9 + 1)) dX12_build_173 rfl (by decide) rfl rfl ?_
        refine m2_goto hB dX12_build_176 (tgt := 60) (by decide) ?_
        exact m2_weak (ls' := [.ref kM, .int v1, .int v2, .int v3, .int v4, .int v8, .int v9, .int y7, .int v8, .int (v9 + 1), .null]) hB ⟨Or.inr rfl, Or.inr rfl, Or.inr rfl, Or.inr rfl, Or.inr rfl, Or.inr rfl, Or.inr rfl, Or.inr rfl, Or.inr rfl, Or.inr rfl, Or.inl rfl, trivial⟩ k
      · replace k := k.2 q13
        refine m2_goto hB dX12_build_158 (tgt := 173) (by decide) ?_
        refine m2_iinc hB (ls' := [.ref kM, .int v1, .int v2, .int v3, .int v4, .int v5, .int v6, .int v7, .int v8, .int (v9 + 1), .int y7]) (v := (v9 + 1)) dX12_build_173 rfl (by decide) rfl rfl ?_
        refine m2_goto hB dX12_build_176 (tgt := 60) (by decide) ?_
        exact m2_weak (ls' := [.ref kM, .int v1, .int v2, .int v3, .int v4, .int v5, .int v6, .int v7, .int v8, .int (v9 + 1), .null]) hB ⟨Or.inr rfl, Or.inr rfl, Or.inr rfl, Or.inr rfl, Or.inr rfl, Or.inr rfl, Or.inr rfl, Or.inr rfl, Or.inr rfl, Or.inr rfl, Or.inl rfl, trivial⟩ k
  · replace k := k.2 q2
    refine m2_aload_n hB dX12_build_82 rfl ?_
    refine m2_iload hB dX12_build_83 rfl ?_
    refine m2_aload_n hB dX12_build_85 rfl ?_
    refine m2_getR hB dX12_build_86 fl_X12_23 sh_kM (c1 := kM_left) rfl ?_
    refine m2_iload hB dX12_build_89 rfl ?_
    obtain ⟨hi14, k⟩ := k
    refine m2_iald hB dX12_build_91 sh_kM_left hi14 ?_
    obtain ⟨Q17, hM18, k⟩ := k
    refine m2_invv hB (as := [.int v10, .int (μ.1 kM_left (v10).toNatClampNeg)]) dX12_build_92 mv_X12_320 rfl sh_kM rfl (Nat.le_of_ble_eq_true rfl) rfl hM18 (fun μ16 hq19 => ?_)
    replace k := k μ16 hq19
    refine m2_iinc hB (ls' := [.ref kM, .int v1, .int v2, .int v3, .int v4, .int v5, .int v6, .int v7, .int v8, .int v9, .int (v10 + 1)]) (v := (v10 + 1)) dX12_build_95 rfl (by decide) rfl rfl ?_
    refine m2_goto hB dX12_build_98 (tgt := 73) (by decide) ?_
    exact k
theorem dX12_never_0 : decode cX12_never 0 = .ok (.aload_n 0, 1) := by decide +kernel
theorem dX12_never_1 : decode cX12_never 1 = .ok (.iconst 0, 1) := by decide +kernel
theorem dX12_never_2 : decode cX12_never 2 = .ok (.putfield 143, 3) := by decide +kernel
theorem dX12_never_5 : decode cX12_never 5 = .ok (.iload_n 1, 1) := by decide +kernel
theorem dX12_never_6 : decode cX12_never 6 = .ok (.iload_n 2, 1) := by decide +kernel
theorem dX12_never_7 : decode cX12_never 7 = .ok (.invokestatic 326, 3) := by decide +kernel
theorem dX12_never_10 : decode cX12_never 10 = .ok (.ifCond .eq 13, 3) := by decide +kernel
theorem dX12_never_13 : decode cX12_never 13 = .ok (.iload_n 3, 1) := by decide +kernel
theorem dX12_never_14 : decode cX12_never 14 = .ok (.iconst 0, 1) := by decide +kernel
theorem dX12_never_15 : decode cX12_never 15 = .ok (.bipush 99, 2) := by decide +kernel
theorem dX12_never_17 : decode cX12_never 17 = .ok (.invokestatic 149, 3) := by decide +kernel
theorem dX12_never_20 : decode cX12_never 20 = .ok (.ifCond .ne 5, 3) := by decide +kernel
theorem dX12_never_23 : decode cX12_never 23 = .ok (.iconst (-1), 1) := by decide +kernel
theorem dX12_never_24 : decode cX12_never 24 = .ok (.ireturn, 1) := by decide +kernel
theorem dX12_never_25 : decode cX12_never 25 = .ok (.iconst 0, 1) := by decide +kernel
theorem dX12_never_26 : decode cX12_never 26 = .ok (.istore 4, 2) := by decide +kernel
theorem dX12_never_28 : decode cX12_never 28 = .ok (.iload 4, 2) := by decide +kernel
theorem dX12_never_30 : decode cX12_never 30 = .ok (.bipush 60, 2) := by decide +kernel
theorem dX12_never_32 : decode cX12_never 32 = .ok (.if_icmp .gt 52, 3) := by decide +kernel
theorem dX12_never_35 : decode cX12_never 35 = .ok (.aload_n 0, 1) := by decide +kernel
theorem dX12_never_36 : decode cX12_never 36 = .ok (.invokevirtual 317, 3) := by decide +kernel
theorem dX12_never_39 : decode cX12_never 39 = .ok (.iconst 0, 1) := by decide +kernel
theorem dX12_never_40 : decode cX12_never 40 = .ok (.istore 5, 2) := by decide +kernel
theorem dX12_never_42 : decode cX12_never 42 = .ok (.iload 5, 2) := by decide +kernel
theorem dX12_never_44 : decode cX12_never 44 = .ok (.aload_n 0, 1) := by decide +kernel
theorem dX12_never_45 : decode cX12_never 45 = .ok (.getfield 153, 3) := by decide +kernel
theorem dX12_never_48 : decode cX12_never 48 = .ok (.if_icmp .ge 17, 3) := by decide +kernel
theorem dX12_never_51 : decode cX12_never 51 = .ok (.aload_n 0, 1) := by decide +kernel
theorem dX12_never_52 : decode cX12_never 52 = .ok (.iload 5, 2) := by decide +kernel
theorem dX12_never_54 : decode cX12_never 54 = .ok (.iload 4, 2) := by decide +kernel
theorem dX12_never_56 : decode cX12_never 56 = .ok (.invokevirtual 320, 3) := by decide +kernel
theorem dX12_never_59 : decode cX12_never 59 = .ok (.iinc 5 1, 3) := by decide +kernel
theorem dX12_never_62 : decode cX12_never 62 = .ok (.goto (-20), 3) := by decide +kernel
theorem dX12_never_65 : decode cX12_never 65 = .ok (.aload_n 0, 1) := by decide +kernel
theorem dX12_never_66 : decode cX12_never 66 = .ok (.iload_n 1, 1) := by decide +kernel
theorem dX12_never_67 : decode cX12_never 67 = .ok (.iload_n 2, 1) := by decide +kernel
theorem dX12_never_68 : decode cX12_never 68 = .ok (.invokevirtual 323, 3) := by decide +kernel
theorem dX12_never_71 : decode cX12_never 71 = .ok (.iload_n 3, 1) := by decide +kernel
theorem dX12_never_72 : decode cX12_never 72 = .ok (.if_icmp .lt 6, 3) := by decide +kernel
theorem dX12_never_75 : decode cX12_never 75 = .ok (.iload 4, 2) := by decide +kernel
theorem dX12_never_77 : decode cX12_never 77 = .ok (.ireturn, 1) := by decide +kernel
theorem dX12_never_78 : decode cX12_never 78 = .ok (.iinc 4 1, 3) := by decide +kernel
theorem dX12_never_81 : decode cX12_never 81 = .ok (.goto (-53), 3) := by decide +kernel
theorem dX12_never_84 : decode cX12_never 84 = .ok (.bipush (-2), 2) := by decide +kernel
theorem dX12_never_86 : decode cX12_never 86 = .ok (.ireturn, 1) := by decide +kernel
set_option maxRecDepth 100000 in
set_option maxHeartbeats 4000000 in
theorem B_X12_never_0 {κ : Nat → List Value → List Value → m2M → Prop} {D : Nat} {Q : Option Value → m2M → Prop} (h : m2_RL κ cX12_never RX12 6 (D + 1) (some .int) Q) (hD : 2 ≤ D) {x1 : Int32} {x2 : Int32} {x3 : Int32} {μ : m2M} (k : ((fX12_areEnds x1 x2) = 1 → ((fX12_in x3 0 99) = 1 → κ 28 [.ref kM, .int x1, .int x2, .int x3, .int 0, .null] [] (m2_si μ kM 22 0)) ∧ (¬ (fX12_in x3 0 99) = 1 → Q (some (.int (-1))) (m2_si μ kM 22 0))) ∧ (¬ (fX12_areEnds x1 x2) = 1 → Q (some (.int (-1))) (m2_si μ kM 22 0))) : κ 0 [.ref kM, .int x1, .int x2, .int x3, .null, .null] [] μ := by
  have hB := h.b
  refine m2_aload_n hB dX12_never_0 rfl ?_
  refine m2_iconst hB dX12_never_1 (v := 0) (by decide) ?_
  refine m2_putI hB dX12_never_2 fl_X12_143 sh_kM rfl ?_
  refine m2_iload_n hB dX12_never_5 rfl ?_
  refine m2_iload_n hB dX12_never_6 rfl ?_
  refine m2_invSz hB (as := [.int x1, .int x2]) dX12_never_7 ms_X12_326 rfl (Nat.le_of_ble_eq_true rfl) rfl (P_X12_areEnds (by omega) (x1) (x2) _ ) (fun y1 μ2 hq3 => ?_)
  obtain ⟨⟨⟩, hq3⟩ := hq3
  subst μ2
  show κ 10 [.ref kM, .int x1, .int x2, .int x3, .null, .null] [.int (if (fX12_areEnds x1 x2) = 1 then 1 else 0 : Int32)] (m2_si μ kM 22 0)
  by_cases q4 : (fX12_areEnds x1 x2) = 1
  · rw [if_pos q4]
    replace k := k.1 q4
    refine m2_if_eq hB dX12_never_10 (tgt := 23) (by decide) (fun q => absurd q (by decide)) (fun _ => ?_)
    refine m2_iload_n hB dX12_never_13 rfl ?_
    refine m2_iconst hB dX12_never_14 (v := 0) (by decide) ?_
    refine m2_bipush hB dX12_never_15 (v := 99) (by decide) ?_
    refine m2_invSz hB (as := [.int x3, .int 0, .int 99]) dX12_never_17 ms_X12_149 rfl (Nat.le_of_ble_eq_true rfl) rfl (P_X12_in (by omega) (x3) (0) (99) _ ) (fun y5 μ6 hq7 => ?_)
    obtain ⟨⟨⟩, hq7⟩ := hq7
    subst μ6
    show κ 20 [.ref kM, .int x1, .int x2, .int x3, .null, .null] [.int (if (fX12_in x3 0 99) = 1 then 1 else 0 : Int32)] (m2_si μ kM 22 0)
    by_cases q8 : (fX12_in x3 0 99) = 1
    · rw [if_pos q8]
      replace k := k.1 q8
      refine m2_if_ne hB dX12_never_20 (tgt := 25) (by decide) (fun _ => ?_) (fun q => absurd q (by decide))
      refine m2_iconst hB dX12_never_25 (v := 0) (by decide) ?_
      refine m2_istore hB (ls' := [.ref kM, .int x1, .int x2, .int x3, .int 0, .null]) dX12_never_26 (by decide) rfl ?_
      exact k
    · rw [if_neg q8]
      replace k := k.2 q8
      refine m2_if_ne hB dX12_never_20 (tgt := 25) (by decide) (fun q => absurd q (by decide)) (fun _ => ?_)
      refine m2_iconst hB dX12_never_23 (v := (-1)) (by decide) ?_
      exact m2_iret h dX12_never_24 k
  · rw [if_neg q4]
    replace k := k.2 q4
    refine m2_if_eq hB dX12_never_10 (tgt := 23) (by decide) (fun _ => ?_) (fun q => absurd q (by decide))
    refine m2_iconst hB dX12_never_23 (v := (-1)) (by decide) ?_
    exact m2_iret h dX12_never_24 k
set_option maxRecDepth 100000 in
set_option maxHeartbeats 4000000 in
theorem B_X12_never_28 {κ : Nat → List Value → List Value → m2M → Prop} {D : Nat} {Q : Option Value → m2M → Prop} (h : m2_RL κ cX12_never RX12 6 (D + 1) (some .int) Q) {v1 : Int32} {v2 : Int32} {v3 : Int32} {v4 : Int32} {μ : m2M} (k : (60 < v4 → Q (some (.int (-2))) μ) ∧ (¬ 60 < v4 → ∃ Q4 : Option Value → m2M → Prop, m2_MT D yX12_clearFlow cX12_clearFlow 2 none [.ref kM] μ Q4 ∧ ∀ (μ3 : m2M), Q4 none μ3 → (κ 42 [.ref kM, .int v1, .int v2, .int v3, .int v4, .int 0] [] μ3))) : κ 28 [.ref kM, .int v1, .int v2, .int v3, .int v4, .null] [] μ := by
  have hB := h.b
  refine m2_iload hB dX12_never_28 rfl ?_
  refine m2_bipush hB dX12_never_30 (v := 60) (by decide) ?_
  refine m2_icmp_gt hB dX12_never_32 (tgt := 84) (by decide) (fun q1 : 60 < v4 => ?_) (fun q1 : ¬ 60 < v4 => ?_)
  · replace k := k.1 q1
    refine m2_bipush hB dX12_never_84 (v := (-2)) (by decide) ?_
    exact m2_iret h dX12_never_86 k
  · replace k := k.2 q1
    refine m2_aload_n hB dX12_never_35 rfl ?_
    obtain ⟨Q4, hM5, k⟩ := k
    refine m2_invv hB (as := []) dX12_never_36 mv_X12_317 rfl sh_kM rfl (Nat.le_of_ble_eq_true rfl) rfl hM5 (fun μ3 hq6 => ?_)
    replace k := k μ3 hq6
    refine m2_iconst hB dX12_never_39 (v := 0) (by decide) ?_
    refine m2_istore hB (ls' := [.ref kM, .int v1, .int v2, .int v3, .int v4, .int 0]) dX12_never_40 (by decide) rfl ?_
    exact k
set_option maxRecDepth 100000 in
set_option maxHeartbeats 4000000 in
theorem B_X12_never_42 {κ : Nat → List Value → List Value → m2M → Prop} {D : Nat} {Q : Option Value → m2M → Prop} (h : m2_RL κ cX12_never RX12 6 (D + 1) (some .int) Q) {v1 : Int32} {v2 : Int32} {v3 : Int32} {v4 : Int32} {v5 : Int32} {μ : m2M} (k : ((μ.1 kM 0) ≤ v5 → ∃ Q4 : Option Value → m2M → Prop, m2_MT D yX12_flow cX12_flow 6 (some .int) [.ref kM, .int v1, .int v2] μ Q4 ∧ ∀ (y2 : Int32) (μ3 : m2M), Q4 (some (.int y2)) μ3 → ((y2 < v3 → κ 28 [.ref kM, .int v1, .int v2, .int v3, .int (v4 + 1), .null] [] μ3) ∧ (¬ y2 < v3 → Q (some (.int v4)) μ3))) ∧ (¬ (μ.1 kM 0) ≤ v5 → ∃ Q10 : Option Value → m2M → Prop, m2_MT D yX12_layDoor cX12_layDoor 3 none [.ref kM, .int v5, .int v4] μ Q10 ∧ ∀ (μ9 : m2M), Q10 none μ9 → (κ 42 [.ref kM, .int v1, .int v2, .int v3, .int v4, .int (v5 + 1)] [] μ9))) : κ 42 [.ref kM, .int v1, .int v2, .int v3, .int v4, .int v5] [] μ := by
  have hB := h.b
  refine m2_iload hB dX12_never_42 rfl ?_
  refine m2_aload_n hB dX12_never_44 rfl ?_
  refine m2_getI hB dX12_never_45 fl_X12_153 sh_kM rfl ?_
  refine m2_icmp_ge hB dX12_never_48 (tgt := 65) (by decide) (fun q1 : (μ.1 kM 0) ≤ v5 => ?_) (fun q1 : ¬ (μ.1 kM 0) ≤ v5 => ?_)
  · replace k := k.1 q1
    refine m2_aload_n hB dX12_never_65 rfl ?_
    refine m2_iload_n hB dX12_never_66 rfl ?_
    refine m2_iload_n hB dX12_never_67 rfl ?_
    obtain ⟨Q4, hM5, k⟩ := k
    refine m2_invi hB (as := [.int v1, .int v2]) dX12_never_68 mv_X12_323 rfl sh_kM rfl (Nat.le_of_ble_eq_true rfl) rfl hM5 (fun y2 μ3 hq6 => ?_)
    replace k := k y2 μ3 hq6
    refine m2_iload_n hB dX12_never_71 rfl ?_
    refine m2_icmp_lt hB dX12_never_72 (tgt := 78) (by decide) (fun q7 : y2 < v3 => ?_) (fun q7 : ¬ y2 < v3 => ?_)
    · replace k := k.1 q7
      refine m2_iinc hB (ls' := [.ref kM, .int v1, .int v2, .int v3, .int (v4 + 1), .int v5]) (v := (v4 + 1)) dX12_never_78 rfl (by decide) rfl rfl ?_
      refine m2_goto hB dX12_never_81 (tgt := 28) (by decide) ?_
      exact m2_weak (ls' := [.ref kM, .int v1, .int v2, .int v3, .int (v4 + 1), .null]) hB ⟨Or.inr rfl, Or.inr rfl, Or.inr rfl, Or.inr rfl, Or.inr rfl, Or.inl rfl, trivial⟩ k
    · replace k := k.2 q7
      refine m2_iload hB dX12_never_75 rfl ?_
      exact m2_iret h dX12_never_77 k
  · replace k := k.2 q1
    refine m2_aload_n hB dX12_never_51 rfl ?_
    refine m2_iload hB dX12_never_52 rfl ?_
    refine m2_iload hB dX12_never_54 rfl ?_
    obtain ⟨Q10, hM11, k⟩ := k
    refine m2_invv hB (as := [.int v5, .int v4]) dX12_never_56 mv_X12_320 rfl sh_kM rfl (Nat.le_of_ble_eq_true rfl) rfl hM11 (fun μ9 hq12 => ?_)
    replace k := k μ9 hq12
    refine m2_iinc hB (ls' := [.ref kM, .int v1, .int v2, .int v3, .int v4, .int (v5 + 1)]) (v := (v5 + 1)) dX12_never_59 rfl (by decide) rfl rfl ?_
    refine m2_goto hB dX12_never_62 (tgt := 42) (by decide) ?_
    exact k
theorem dX12_flowOf_0 : decode cX12_flowOf 0 = .ok (.aload_n 0, 1) := by decide +kernel
theorem dX12_flowOf_1 : decode cX12_flowOf 1 = .ok (.invokevirtual 317, 3) := by decide +kernel
theorem dX12_flowOf_4 : decode cX12_flowOf 4 = .ok (.iconst 0, 1) := by decide +kernel
theorem dX12_flowOf_5 : decode cX12_flowOf 5 = .ok (.istore_n 3, 1) := by decide +kernel
theorem dX12_flowOf_6 : decode cX12_flowOf 6 = .ok (.iload_n 3, 1) := by decide +kernel
theorem dX12_flowOf_7 : decode cX12_flowOf 7 = .ok (.aload_n 0, 1) := by decide +kernel
theorem dX12_flowOf_8 : decode cX12_flowOf 8 = .ok (.getfield 153, 3) := by decide +kernel
theorem dX12_flowOf_11 : decode cX12_flowOf 11 = .ok (.if_icmp .ge 20, 3) := by decide +kernel
theorem dX12_flowOf_14 : decode cX12_flowOf 14 = .ok (.aload_n 0, 1) := by decide +kernel
theorem dX12_flowOf_15 : decode cX12_flowOf 15 = .ok (.iload_n 3, 1) := by decide +kernel
theorem dX12_flowOf_16 : decode cX12_flowOf 16 = .ok (.aload_n 0, 1) := by decide +kernel
theorem dX12_flowOf_17 : decode cX12_flowOf 17 = .ok (.getfield 23, 3) := by decide +kernel
theorem dX12_flowOf_20 : decode cX12_flowOf 20 = .ok (.iload_n 3, 1) := by decide +kernel
theorem dX12_flowOf_21 : decode cX12_flowOf 21 = .ok (.iaload, 1) := by decide +kernel
theorem dX12_flowOf_22 : decode cX12_flowOf 22 = .ok (.invokevirtual 320, 3) := by decide +kernel
theorem dX12_flowOf_25 : decode cX12_flowOf 25 = .ok (.iinc 3 1, 3) := by decide +kernel
theorem dX12_flowOf_28 : decode cX12_flowOf 28 = .ok (.goto (-22), 3) := by decide +kernel
theorem dX12_flowOf_31 : decode cX12_flowOf 31 = .ok (.iconst 0, 1) := by decide +kernel
theorem dX12_flowOf_32 : decode cX12_flowOf 32 = .ok (.istore_n 3, 1) := by decide +kernel
theorem dX12_flowOf_33 : decode cX12_flowOf 33 = .ok (.iload_n 3, 1) := by decide +kernel
theorem dX12_flowOf_34 : decode cX12_flowOf 34 = .ok (.aload_n 0, 1) := by decide +kernel
theorem dX12_flowOf_35 : decode cX12_flowOf 35 = .ok (.getfield 156, 3) := by decide +kernel
theorem dX12_flowOf_38 : decode cX12_flowOf 38 = .ok (.if_icmp .ge 36, 3) := by decide +kernel
theorem dX12_flowOf_41 : decode cX12_flowOf 41 = .ok (.iload_n 1, 1) := by decide +kernel
theorem dX12_flowOf_42 : decode cX12_flowOf 42 = .ok (.iload_n 3, 1) := by decide +kernel
theorem dX12_flowOf_43 : decode cX12_flowOf 43 = .ok (.invokestatic 234, 3) := by decide +kernel
theorem dX12_flowOf_46 : decode cX12_flowOf 46 = .ok (.ifCond .eq 22, 3) := by decide +kernel
theorem dX12_flowOf_49 : decode cX12_flowOf 49 = .ok (.aload_n 0, 1) := by decide +kernel
theorem dX12_flowOf_50 : decode cX12_flowOf 50 = .ok (.getfield 86, 3) := by decide +kernel
theorem dX12_flowOf_53 : decode cX12_flowOf 53 = .ok (.sipush 168, 3) := by decide +kernel
theorem dX12_flowOf_56 : decode cX12_flowOf 56 = .ok (.aload_n 0, 1) := by decide +kernel
theorem dX12_flowOf_57 : decode cX12_flowOf 57 = .ok (.getfield 29, 3) := by decide +kernel
theorem dX12_flowOf_60 : decode cX12_flowOf 60 = .ok (.iload_n 3, 1) := by decide +kernel
theorem dX12_flowOf_61 : decode cX12_flowOf 61 = .ok (.iaload, 1) := by decide +kernel
theorem dX12_flowOf_62 : decode cX12_flowOf 62 = .ok (.iadd, 1) := by decide +kernel
theorem dX12_flowOf_63 : decode cX12_flowOf 63 = .ok (.dup2, 1) := by decide +kernel
theorem dX12_flowOf_64 : decode cX12_flowOf 64 = .ok (.iaload, 1) := by decide +kernel
theorem dX12_flowOf_65 : decode cX12_flowOf 65 = .ok (.iconst 1, 1) := by decide +kernel
theorem dX12_flowOf_66 : decode cX12_flowOf 66 = .ok (.iadd, 1) := by decide +kernel
theorem dX12_flowOf_67 : decode cX12_flowOf 67 = .ok (.iastore, 1) := by decide +kernel
theorem dX12_flowOf_68 : decode cX12_flowOf 68 = .ok (.iinc 3 1, 3) := by decide +kernel
theorem dX12_flowOf_71 : decode cX12_flowOf 71 = .ok (.goto (-38), 3) := by decide +kernel
theorem dX12_flowOf_74 : decode cX12_flowOf 74 = .ok (.iconst 0, 1) := by decide +kernel
theorem dX12_flowOf_75 : decode cX12_flowOf 75 = .ok (.istore_n 3, 1) := by decide +kernel
theorem dX12_flowOf_76 : decode cX12_flowOf 76 = .ok (.iload_n 3, 1) := by decide +kernel
theorem dX12_flowOf_77 : decode cX12_flowOf 77 = .ok (.bipush 12, 2) := by decide +kernel
theorem dX12_flowOf_79 : decode cX12_flowOf 79 = .ok (.if_icmp .ge 31, 3) := by decide +kernel
theorem dX12_flowOf_82 : decode cX12_flowOf 82 = .ok (.iload_n 2, 1) := by decide +kernel
theorem dX12_flowOf_83 : decode cX12_flowOf 83 = .ok (.iload_n 3, 1) := by decide +kernel
theorem dX12_flowOf_84 : decode cX12_flowOf 84 = .ok (.invokestatic 234, 3) := by decide +kernel
theorem dX12_flowOf_87 : decode cX12_flowOf 87 = .ok (.ifCond .eq 17, 3) := by decide +kernel
theorem dX12_flowOf_90 : decode cX12_flowOf 90 = .ok (.aload_n 0, 1) := by decide +kernel
theorem dX12_flowOf_91 : decode cX12_flowOf 91 = .ok (.getfield 86, 3) := by decide +kernel
theorem dX12_flowOf_94 : decode cX12_flowOf 94 = .ok (.bipush 14, 2) := by decide +kernel
theorem dX12_flowOf_96 : decode cX12_flowOf 96 = .ok (.iload_n 3, 1) := by decide +kernel
theorem dX12_flowOf_97 : decode cX12_flowOf 97 = .ok (.imul, 1) := by decide +kernel
theorem dX12_flowOf_98 : decode cX12_flowOf 98 = .ok (.bipush 13, 2) := by decide +kernel
theorem dX12_flowOf_100 : decode cX12_flowOf 100 = .ok (.iadd, 1) := by decide +kernel
theorem dX12_flowOf_101 : decode cX12_flowOf 101 = .ok (.bipush 100, 2) := by decide +kernel
theorem dX12_flowOf_103 : decode cX12_flowOf 103 = .ok (.iastore, 1) := by decide +kernel
theorem dX12_flowOf_104 : decode cX12_flowOf 104 = .ok (.iinc 3 1, 3) := by decide +kernel
theorem dX12_flowOf_107 : decode cX12_flowOf 107 = .ok (.goto (-31), 3) := by decide +kernel
theorem dX12_flowOf_110 : decode cX12_flowOf 110 = .ok (.aload_n 0, 1) := by decide +kernel
theorem dX12_flowOf_111 : decode cX12_flowOf 111 = .ok (.bipush 12, 2) := by decide +kernel
theorem dX12_flowOf_113 : decode cX12_flowOf 113 = .ok (.bipush 13, 2) := by decide +kernel
theorem dX12_flowOf_115 : decode cX12_flowOf 115 = .ok (.invokevirtual 323, 3) := by decide +kernel
theorem dX12_flowOf_118 : decode cX12_flowOf 118 = .ok (.ireturn, 1) := by decide +kernel
set_option maxRecDepth 100000 in
set_option maxHeartbeats 4000000 in
theorem B_X12_flowOf_0 {κ : Nat → List Value → List Value → m2M → Prop} {D : Nat} {Q : Option Value → m2M → Prop} (h : m2_RL κ cX12_flowOf RX12 4 (D + 1) (some .int) Q) {x1 : Int32} {x2 : Int32} {μ : m2M} (k : ∃ Q3 : Option Value → m2M → Prop, m2_MT D yX12_clearFlow cX12_clearFlow 2 none [.ref kM] μ Q3 ∧ ∀ (μ2 : m2M), Q3 none μ2 → (κ 6 [.ref kM, .int x1, .int x2, .int 0] [] μ2)) : κ 0 [.ref kM, .int x1, .int x2, .null] [] μ := by
  have hB := h.b
  refine m2_aload_n hB dX12_flowOf_0 rfl ?_
  obtain ⟨Q3, hM4, k⟩ := k
  refine m2_invv hB (as := []) dX12_flowOf_1 mv_X12_317 rfl sh_kM rfl (Nat.le_of_ble_eq_true rfl) rfl hM4 (fun μ2 hq5 => ?_)
  replace k := k μ2 hq5
  refine m2_iconst hB dX12_flowOf_4 (v := 0) (by decide) ?_
  refine m2_istore_n hB (ls' := [.ref kM, .int x1, .int x2, .int 0]) dX12_flowOf_5 rfl (by decide) rfl ?_
  exact k
set_option maxRecDepth 100000 in
set_option maxHeartbeats 4000000 in
theorem B_X12_flowOf_6 {κ : Nat → List Value → List Value → m2M → Prop} {D : Nat} {Q : Option Value → m2M → Prop} (h : m2_RL κ cX12_flowOf RX12 4 (D + 1) (some .int) Q) {v1 : Int32} {v2 : Int32} {v3 : Int32} {μ : m2M} (k : ((μ.1 kM 0) ≤ v3 → κ 33 [.ref kM, .int v1, .int v2, .int 0] [] μ) ∧ (¬ (μ.1 kM 0) ≤ v3 → (vp_in v3 20) ∧ (∃ Q6 : Option Value → m2M → Prop, m2_MT D yX12_layDoor cX12_layDoor 3 none [.ref kM, .int v3, .int (μ.1 kM_left (v3).toNatClampNeg)] μ Q6 ∧ ∀ (μ5 : m2M), Q6 none μ5 → (κ 6 [.ref kM, .int v1, .int v2, .int (v3 + 1)] [] μ5)))) : κ 6 [.ref kM, .int v1, .int v2, .int v3] [] μ := by
  have hB := h.b
  refine m2_iload_n hB dX12_flowOf_6 rfl ?_
  refine m2_aload_n hB dX12_flowOf_7 rfl ?_
  refine m2_getI hB dX12_flowOf_8 fl_X12_153 sh_kM rfl ?_
  refine m2_icmp_ge hB dX12_flowOf_11 (tgt := 31) (by decide) (fun q2 : (μ.1 kM 0) ≤ v3 => ?_) (fun q2 : ¬ (μ.1 kM 0) ≤ v3 => ?_)
  · replace k := k.1 q2
    refine m2_iconst hB dX12_flowOf_31 (v := 0) (by decide) ?_
    refine m2_istore_n hB (ls' := [.ref kM, .int v1, .int v2, .int 0]) dX12_flowOf_32 rfl (by decide) rfl ?_
    exact k
  · replace k := k.2 q2
    refine m2_aload_n hB dX12_flowOf_14 rfl ?_
    refine m2_iload_n hB dX12_flowOf_15 rfl ?_
    refine m2_aload_n hB dX12_flowOf_16 rfl ?_
    refine m2_getR hB dX12_flowOf_17 fl_X12_23 sh_kM (c1 := kM_left) rfl ?_
    refine m2_iload_n hB dX12_flowOf_20 rfl ?_
    obtain ⟨hi3, k⟩ := k
    refine m2_iald hB dX12_flowOf_21 sh_kM_left hi3 ?_
    obtain ⟨Q6, hM7, k⟩ := k
    refine m2_invv hB (as := [.int v3, .int (μ.1 kM_left (v3).toNatClampNeg)]) dX12_flowOf_22 mv_X12_320 rfl sh_kM rfl (Nat.le_of_ble_eq_true rfl) rfl hM7 (fun μ5 hq8 => ?_)
    replace k := k μ5 hq8
    refine m2_iinc hB (ls' := [.ref kM, .int v1, .int v2, .int (v3 + 1)]) (v := (v3 + 1)) dX12_flowOf_25 rfl (by decide) rfl rfl ?_
    refine m2_goto hB dX12_flowOf_28 (tgt := 6) (by decide) ?_
    exact k
set_option maxRecDepth 100000 in
set_option maxHeartbeats 4000000 in
theorem B_X12_flowOf_33 {κ : Nat → List Value → List Value → m2M → Prop} {D : Nat} {Q : Option Value → m2M → Prop} (h : m2_RL κ cX12_flowOf RX12 4 (D + 1) (some .int) Q) (hD : 0 ≤ D) {v1 : Int32} {v2 : Int32} {v3 : Int32} {μ : m2M} (k : ((μ.1 kM 7) ≤ v3 → κ 76 [.ref kM, .int v1, .int v2, .int 0] [] μ) ∧ (¬ (μ.1 kM 7) ≤ v3 → ((fX12_has v1 v3) = 1 → (vp_in v3 8) ∧ ((vp_in ((168 : Int32) + (μ.1 kM_where (v3).toNatClampNeg)) 196) ∧ (κ 33 [.ref kM, .int v1, .int v2, .int (v3 + 1)] [] (m2_si μ kM_can (((168 : Int32) + (μ.1 kM_where (v3).toNatClampNeg))).toNatClampNeg ((μ.1 kM_can (((168 : Int32) + (μ.1 kM_where (v3).toNatClampNeg))).toNatClampNeg) + 1))))) ∧ (¬ (fX12_has v1 v3) = 1 → κ 33 [.ref kM, .int v1, .int v2, .int (v3 + 1)] [] μ))) : κ 33 [.ref kM, .int v1, .int v2, .int v3] [] μ := by
  have hB := h.b
  refine m2_iload_n hB dX12_flowOf_33 rfl ?_
  refine m2_aload_n hB dX12_flowOf_34 rfl ?_
  refine m2_getI hB dX12_flowOf_35 fl_X12_156 sh_kM rfl ?_
  refine m2_icmp_ge hB dX12_flowOf_38 (tgt := 74) (by decide) (fun q4 : (μ.1 kM 7) ≤ v3 => ?_) (fun q4 : ¬ (μ.1 kM 7) ≤ v3 => ?_)
  · replace k := k.1 q4
    refine m2_iconst hB dX12_flowOf_74 (v := 0) (by decide) ?_
    refine m2_istore_n hB (ls' := [.ref kM, .int v1, .int v2, .int 0]) dX12_flowOf_75 rfl (by decide) rfl ?_
    exact k
  · replace k := k.2 q4
    refine m2_iload_n hB dX12_flowOf_41 rfl ?_
    refine m2_iload_n hB dX12_flowOf_42 rfl ?_
    refine m2_invSz hB (as := [.int v1, .int v3]) dX12_flowOf_43 ms_X12_234 rfl (Nat.le_of_ble_eq_true rfl) rfl (P_X12_has (by omega) (v1) (v3) _ ) (fun y5 μ6 hq7 => ?_)
    obtain ⟨⟨⟩, hq7⟩ := hq7
    subst μ6
    show κ 46 [.ref kM, .int v1, .int v2, .int v3] [.int (if (fX12_has v1 v3) = 1 then 1 else 0 : Int32)] μ
    by_cases q8 : (fX12_has v1 v3) = 1
    · rw [if_pos q8]
      replace k := k.1 q8
      refine m2_if_eq hB dX12_flowOf_46 (tgt := 68) (by decide) (fun q => absurd q (by decide)) (fun _ => ?_)
      refine m2_aload_n hB dX12_flowOf_49 rfl ?_
      refine m2_getR hB dX12_flowOf_50 fl_X12_86 sh_kM (c1 := kM_can) rfl ?_
      refine m2_sipush hB dX12_flowOf_53 (v := 168) (by decide) ?_
      refine m2_aload_n hB dX12_flowOf_56 rfl ?_
      refine m2_getR hB dX12_flowOf_57 fl_X12_29 sh_kM (c1 := kM_where) rfl ?_
      refine m2_iload_n hB dX12_flowOf_60 rfl ?_
      obtain ⟨hi9, k⟩ := k
      refine m2_iald hB dX12_flowOf_61 sh_kM_where hi9 ?_
      refine m2_iadd hB dX12_flowOf_62 ?_
      refine m2_dup2 hB dX12_flowOf_63 rfl rfl ?_
      obtain ⟨hi10, k⟩ := k
      refine m2_iald hB dX12_flowOf_64 sh_kM_can hi10 ?_
      refine m2_iconst hB dX12_flowOf_65 (v := 1) (by decide) ?_
      refine m2_iadd hB dX12_flowOf_66 ?_
      have hi11 := hi10
      refine m2_iast hB dX12_flowOf_67 sh_kM_can hi11 ?_
      refine m2_iinc hB (ls' := [.ref kM, .int v1, .int v2, .int (v3 + 1)]) (v := (v3 + 1)) dX12_flowOf_68 rfl (by decide) rfl rfl ?_
      refine m2_goto hB dX12_flowOf_71 (tgt := 33) (by decide) ?_
      exact k
    · rw [if_neg q8]
      replace k := k.2 q8
      refine m2_if_eq hB dX12_flowOf_46 (tgt := 68) (by decide) (fun _ => ?_) (fun q => absurd q (by decide))
      refine m2_iinc hB (ls' := [.ref kM, .int v1, .int v2, .int (v3 + 1)]) (v := (v3 + 1)) dX12_flowOf_68 rfl (by decide) rfl rfl ?_
      refine m2_goto hB dX12_flowOf_71 (tgt := 33) (by decide) ?_
      exact k
set_option maxRecDepth 100000 in
set_option maxHeartbeats 4000000 in
theorem B_X12_flowOf_76 {κ : Nat → List Value → List Value → m2M → Prop} {D : Nat} {Q : Option Value → m2M → Prop} (h : m2_RL κ cX12_flowOf RX12 4 (D + 1) (some .int) Q) (hD : 0 ≤ D) {v1 : Int32} {v2 : Int32} {v3 : Int32} {μ : m2M} (k : (12 ≤ v3 → ∃ Q7 : Option Value → m2M → Prop, m2_MT D yX12_flow cX12_flow 6 (some .int) [.ref kM, .int 12, .int 13] μ Q7 ∧ ∀ (y5 : Int32) (μ6 : m2M), Q7 (some (.int y5)) μ6 → (Q (some (.int y5)) μ6)) ∧ (¬ 12 ≤ v3 → ((fX12_has v2 v3) = 1 → (vp_in (((14 : Int32) * v3) + 13) 196) ∧ (κ 76 [.ref kM, .int v1, .int v2, .int (v3 + 1)] [] (m2_si μ kM_can ((((14 : Int32) * v3) + 13)).toNatClampNeg 100))) ∧ (¬ (fX12_has v2 v3) = 1 → κ 76 [.ref kM, .int v1, .int v2, .int (v3 + 1)] [] μ))) : κ 76 [.ref kM, .int v1, .int v2, .int v3] [] μ := by
  have hB := h.b
  refine m2_iload_n hB dX12_flowOf_76 rfl ?_
  refine m2_bipush hB dX12_flowOf_77 (v := 12) (by decide) ?_
  refine m2_icmp_ge hB dX12_flowOf_79 (tgt := 110) (by decide) (fun q4 : 12 ≤ v3 => ?_) (fun q4 : ¬ 12 ≤ v3 => ?_)
  · replace k := k.1 q4
    refine m2_aload_n hB dX12_flowOf_110 rfl ?_
    refine m2_bipush hB dX12_flowOf_111 (v := 12) (by decide) ?_
    refine m2_bipush hB dX12_flowOf_113 (v := 13) (by decide) ?_
    obtain ⟨Q7, hM8, k⟩ := k
    refine m2_invi hB (as := [.int 12, .int 13]) dX12_flowOf_115 mv_X12_323 rfl sh_kM rfl (Nat.le_of_ble_eq_true rfl) rfl hM8 (fun y5 μ6 hq9 => ?_)
    replace k := k y5 μ6 hq9
    exact m2_iret h dX12_flowOf_118 k
  · replace k := k.2 q4
    refine m2_iload_n hB dX12_flowOf_82 rfl ?_
    refine m2_iload_n hB dX12_flowOf_83 rfl ?_
    refine m2_invSz hB (as := [.int v2, .int v3]) dX12_flowOf_84 ms_X12_234 rfl (Nat.le_of_ble_eq_true rfl) rfl (P_X12_has (by omega) (v2) (v3) _ ) (fun y10 μ11 hq12 => ?_)
    obtain ⟨⟨⟩, hq12⟩ := hq12
    subst μ11
    show κ 87 [.ref kM, .int v1, .int v2, .int v3] [.int (if (fX12_has v2 v3) = 1 then 1 else 0 : Int32)] μ
    by_cases q13 : (fX12_has v2 v3) = 1
    · rw [if_pos q13]
      replace k := k.1 q13
      refine m2_if_eq hB dX12_flowOf_87 (tgt := 104) (by decide) (fun q => absurd q (by decide)) (fun _ => ?_)
      refine m2_aload_n hB dX12_flowOf_90 rfl ?_
      refine m2_getR hB dX12_flowOf_91 fl_X12_86 sh_kM (c1 := kM_can) rfl ?_
      refine m2_bipush hB dX12_flowOf_94 (v := 14) (by decide) ?_
      refine m2_iload_n hB dX12_flowOf_96 rfl ?_
      refine m2_imul hB dX12_flowOf_97 ?_
      refine m2_bipush hB dX12_flowOf_98 (v := 13) (by decide) ?_
      refine m2_iadd hB dX12_flowOf_100 ?_
      refine m2_bipush hB dX12_flowOf_101 (v := 100) (by decide) ?_
      obtain ⟨hi14, k⟩ := k
      refine m2_iast hB dX12_flowOf_103 sh_kM_can hi14 ?_
      refine m2_iinc hB (ls' := [.ref kM, .int v1, .int v2, .int (v3 + 1)]) (v := (v3 + 1)) dX12_flowOf_104 rfl (by decide) rfl rfl ?_
      refine m2_goto hB dX12_flowOf_107 (tgt := 76) (by decide) ?_
      exact k
    · rw [if_neg q13]
      replace k := k.2 q13
      refine m2_if_eq hB dX12_flowOf_87 (tgt := 104) (by decide) (fun _ => ?_) (fun q => absurd q (by decide))
      refine m2_iinc hB (ls' := [.ref kM, .int v1, .int v2, .int (v3 + 1)]) (v := (v3 + 1)) dX12_flowOf_104 rfl (by decide) rfl rfl ?_
      refine m2_goto hB dX12_flowOf_107 (tgt := 76) (by decide) ?_
      exact k
theorem dX12_toRooms_0 : decode cX12_toRooms 0 = .ok (.iconst 0, 1) := by decide +kernel
theorem dX12_toRooms_1 : decode cX12_toRooms 1 = .ok (.istore_n 2, 1) := by decide +kernel
theorem dX12_toRooms_2 : decode cX12_toRooms 2 = .ok (.iconst 0, 1) := by decide +kernel
theorem dX12_toRooms_3 : decode cX12_toRooms 3 = .ok (.istore_n 3, 1) := by decide +kernel
theorem dX12_toRooms_4 : decode cX12_toRooms 4 = .ok (.iconst 0, 1) := by decide +kernel
theorem dX12_toRooms_5 : decode cX12_toRooms 5 = .ok (.istore 4, 2) := by decide +kernel
theorem dX12_toRooms_7 : decode cX12_toRooms 7 = .ok (.iload 4, 2) := by decide +kernel
theorem dX12_toRooms_9 : decode cX12_toRooms 9 = .ok (.aload_n 0, 1) := by decide +kernel
theorem dX12_toRooms_10 : decode cX12_toRooms 10 = .ok (.getfield 156, 3) := by decide +kernel
theorem dX12_toRooms_13 : decode cX12_toRooms 13 = .ok (.if_icmp .ge 37, 3) := by decide +kernel
theorem dX12_toRooms_16 : decode cX12_toRooms 16 = .ok (.aload_n 0, 1) := by decide +kernel
theorem dX12_toRooms_17 : decode cX12_toRooms 17 = .ok (.iload_n 2, 1) := by decide +kernel
theorem dX12_toRooms_18 : decode cX12_toRooms 18 = .ok (.iconst 1, 1) := by decide +kernel
theorem dX12_toRooms_19 : decode cX12_toRooms 19 = .ok (.iload 4, 2) := by decide +kernel
theorem dX12_toRooms_21 : decode cX12_toRooms 21 = .ok (.ishl, 1) := by decide +kernel
theorem dX12_toRooms_22 : decode cX12_toRooms 22 = .ok (.ior, 1) := by decide +kernel
theorem dX12_toRooms_23 : decode cX12_toRooms 23 = .ok (.iload_n 1, 1) := by decide +kernel
theorem dX12_toRooms_24 : decode cX12_toRooms 24 = .ok (.invokevirtual 336, 3) := by decide +kernel
theorem dX12_toRooms_27 : decode cX12_toRooms 27 = .ok (.iload_n 3, 1) := by decide +kernel
theorem dX12_toRooms_28 : decode cX12_toRooms 28 = .ok (.if_icmp .gt 6, 3) := by decide +kernel
theorem dX12_toRooms_31 : decode cX12_toRooms 31 = .ok (.goto 13, 3) := by decide +kernel
theorem dX12_toRooms_34 : decode cX12_toRooms 34 = .ok (.iload_n 2, 1) := by decide +kernel
theorem dX12_toRooms_35 : decode cX12_toRooms 35 = .ok (.iconst 1, 1) := by decide +kernel
theorem dX12_toRooms_36 : decode cX12_toRooms 36 = .ok (.iload 4, 2) := by decide +kernel
theorem dX12_toRooms_38 : decode cX12_toRooms 38 = .ok (.ishl, 1) := by decide +kernel
theorem dX12_toRooms_39 : decode cX12_toRooms 39 = .ok (.ior, 1) := by decide +kernel
theorem dX12_toRooms_40 : decode cX12_toRooms 40 = .ok (.istore_n 2, 1) := by decide +kernel
theorem dX12_toRooms_41 : decode cX12_toRooms 41 = .ok (.iinc 3 1, 3) := by decide +kernel
theorem dX12_toRooms_44 : decode cX12_toRooms 44 = .ok (.iinc 4 1, 3) := by decide +kernel
theorem dX12_toRooms_47 : decode cX12_toRooms 47 = .ok (.goto (-40), 3) := by decide +kernel
theorem dX12_toRooms_50 : decode cX12_toRooms 50 = .ok (.aload_n 0, 1) := by decide +kernel
theorem dX12_toRooms_51 : decode cX12_toRooms 51 = .ok (.iconst 0, 1) := by decide +kernel
theorem dX12_toRooms_52 : decode cX12_toRooms 52 = .ok (.putfield 146, 3) := by decide +kernel
theorem dX12_toRooms_55 : decode cX12_toRooms 55 = .ok (.aload_n 0, 1) := by decide +kernel
theorem dX12_toRooms_56 : decode cX12_toRooms 56 = .ok (.iload_n 2, 1) := by decide +kernel
theorem dX12_toRooms_57 : decode cX12_toRooms 57 = .ok (.i2l, 1) := by decide +kernel
theorem dX12_toRooms_58 : decode cX12_toRooms 58 = .ok (.invokevirtual 278, 3) := by decide +kernel
theorem dX12_toRooms_61 : decode cX12_toRooms 61 = .ok (.iload_n 3, 1) := by decide +kernel
theorem dX12_toRooms_62 : decode cX12_toRooms 62 = .ok (.ireturn, 1) := by decide +kernel
set_option maxRecDepth 100000 in
set_option maxHeartbeats 4000000 in
theorem B_X12_toRooms_0 {κ : Nat → List Value → List Value → m2M → Prop} {D : Nat} {Q : Option Value → m2M → Prop} (h : m2_RL κ cX12_toRooms RX12 5 D (some .int) Q) {x1 : Int32} {μ : m2M} (k : κ 7 [.ref kM, .int x1, .int 0, .int 0, .int 0] [] μ) : κ 0 [.ref kM, .int x1, .null, .null, .null] [] μ := by
  have hB := h.b
  refine m2_iconst hB dX12_toRooms_0 (v := 0) (by decide) ?_
  refine m2_istore_n hB (ls' := [.ref kM, .int x1, .int 0, .null, .null]) dX12_toRooms_1 rfl (by decide) rfl ?_
  refine m2_iconst hB dX12_toRooms_2 (v := 0) (by decide) ?_
  refine m2_istore_n hB (ls' := [.ref kM, .int x1, .int 0, .int 0, .null]) dX12_toRooms_3 rfl (by decide) rfl ?_
  refine m2_iconst hB dX12_toRooms_4 (v := 0) (by decide) ?_
  refine m2_istore hB (ls' := [.ref kM, .int x1, .int 0, .int 0, .int 0]) dX12_toRooms_5 (by decide) rfl ?_
  exact k
set_option maxRecDepth 100000 in
set_option maxHeartbeats 4000000 in
theorem B_X12_toRooms_7 {κ : Nat → List Value → List Value → m2M → Prop} {D : Nat} {Q : Option Value → m2M → Prop} (h : m2_RL κ cX12_toRooms RX12 5 (D + 1) (some .int) Q) {v1 : Int32} {v2 : Int32} {v3 : Int32} {v4 : Int32} {μ : m2M} (k : ((μ.1 kM 7) ≤ v4 → ∃ Q4 : Option Value → m2M → Prop, m2_MT D yX12_tell cX12_tell 3 none [.ref kM, .long (v2).toInt64] (m2_si μ kM 21 0) Q4 ∧ ∀ (μ3 : m2M), Q4 none μ3 → (Q (some (.int v3)) μ3)) ∧ (¬ (μ.1 kM 7) ≤ v4 → ∃ Q9 : Option Value → m2M → Prop, m2_MT D yX12_flowOf cX12_flowOf 4 (some .int) [.ref kM, .int (v2 ||| ((1 : Int32) <<< (v4 &&& 31))), .int v1] μ Q9 ∧ ∀ (y7 : Int32) (μ8 : m2M), Q9 (some (.int y7)) μ8 → ((v3 < y7 → κ 7 [.ref kM, .int v1, .int (v2 ||| ((1 : Int32) <<< (v4 &&& 31))), .int (v3 + 1), .int (v4 + 1)] [] μ8) ∧ (¬ v3 < y7 → κ 7 [.ref kM, .int v1, .int v2, .int v3, .int (v4 + 1)] [] μ8)))) : κ 7 [.ref kM, .int v1, .int v2, .int v3, .int v4] [] μ := by
  have hB := h.b
  refine m2_iload hB dX12_toRooms_7 rfl ?_
  refine m2_aload_n hB dX12_toRooms_9 rfl ?_
  refine m2_getI hB dX12_toRooms_10 fl_X12_156 sh_kM rfl ?_
  refine m2_icmp_ge hB dX12_toRooms_13 (tgt := 50) (by decide) (fun q1 : (μ.1 kM 7) ≤ v4 => ?_) (fun q1 : ¬ (μ.1 kM 7) ≤ v4 => ?_)
  · replace k := k.1 q1
    refine m2_aload_n hB dX12_toRooms_50 rfl ?_
    refine m2_iconst hB dX12_toRooms_51 (v := 0) (by decide) ?_
    refine m2_putI hB dX12_toRooms_52 fl_X12_146 sh_kM rfl ?_
    refine m2_aload_n hB dX12_toRooms_55 rfl ?_
    refine m2_iload_n hB dX12_toRooms_56 rfl ?_
    refine m2_i2l hB dX12_toRooms_57 ?_
    obtain ⟨Q4, hM5, k⟩ := k
    refine m2_invv hB (as := [.long (v2).toInt64]) dX12_toRooms_58 mv_X12_278 rfl sh_kM rfl (Nat.le_of_ble_eq_true rfl) rfl hM5 (fun μ3 hq6 => ?_)
    replace k := k μ3 hq6
    refine m2_iload_n hB dX12_toRooms_61 rfl ?_
    exact m2_iret h dX12_toRooms_62 k
  · replace k := k.2 q1
    refine m2_aload_n hB dX12_toRooms_16 rfl ?_
    refine m2_iload_n hB dX12_toRooms_17 rfl ?_
    refine m2_iconst hB dX12_toRooms_18 (v := 1) (by decide) ?_
    refine m2_iload hB dX12_toRooms_19 rfl ?_
    refine m2_ishl hB dX12_toRooms_21 ?_
    refine m2_ior hB dX12_toRooms_22 ?_
    refine m2_iload_n hB dX12_toRooms_23 rfl ?_
    obtain ⟨Q9, hM10, k⟩ := k
    refine m2_invi hB (as := [.int (v2 ||| ((1 : Int32) <<< (v4 &&& 31))), .int v1]) dX12_toRooms_24 mv_X12_336 rfl sh_kM rfl (Nat.le_of_ble_eq_true rfl) rfl hM10 (fun y7 μ8 hq11 => ?_)
    replace k := k y7 μ8 hq11
    refine m2_iload_n hB dX12_toRooms_27 rfl ?_
    refine m2_icmp_gt hB dX12_toRooms_28 (tgt := 34) (by decide) (fun q12 : v3 < y7 => ?_) (fun q12 : ¬ v3 < y7 => ?_)
    · replace k := k.1 q12
      refine m2_iload_n hB dX12_toRooms_34 rfl ?_
      refine m2_iconst hB dX12_toRooms_35 (v := 1) (by decide) ?_
      refine m2_iload hB dX12_toRooms_36 rfl ?_
      refine m2_ishl hB dX12_toRooms_38 ?_
      refine m2_ior hB dX12_toRooms_39 ?_
      refine m2_istore_n hB (ls' := [.ref kM, .int v1, .int (v2 ||| ((1 : Int32) <<< (v4 &&& 31))), .int v3, .int v4]) dX12_toRooms_40 rfl (by decide) rfl ?_
      refine m2_iinc hB (ls' := [.ref kM, .int v1, .int (v2 ||| ((1 : Int32) <<< (v4 &&& 31))), .int (v3 + 1), .int v4]) (v := (v3 + 1)) dX12_toRooms_41 rfl (by decide) rfl rfl ?_
      refine m2_iinc hB (ls' := [.ref kM, .int v1, .int (v2 ||| ((1 : Int32) <<< (v4 &&& 31))), .int (v3 + 1), .int (v4 + 1)]) (v := (v4 + 1)) dX12_toRooms_44 rfl (by decide) rfl rfl ?_
      refine m2_goto hB dX12_toRooms_47 (tgt := 7) (by decide) ?_
      exact k
    · replace k := k.2 q12
      refine m2_goto hB dX12_toRooms_31 (tgt := 44) (by decide) ?_
      refine m2_iinc hB (ls' := [.ref kM, .int v1, .int v2, .int v3, .int (v4 + 1)]) (v := (v4 + 1)) dX12_toRooms_44 rfl (by decide) rfl rfl ?_
      refine m2_goto hB dX12_toRooms_47 (tgt := 7) (by decide) ?_
      exact k
theorem dX12_home_0 : decode cX12_home 0 = .ok (.aload_n 0, 1) := by decide +kernel
theorem dX12_home_1 : decode cX12_home 1 = .ok (.iconst 0, 1) := by decide +kernel
theorem dX12_home_2 : decode cX12_home 2 = .ok (.putfield 143, 3) := by decide +kernel
theorem dX12_home_5 : decode cX12_home 5 = .ok (.iload_n 1, 1) := by decide +kernel
theorem dX12_home_6 : decode cX12_home 6 = .ok (.invokestatic 302, 3) := by decide +kernel
theorem dX12_home_9 : decode cX12_home 9 = .ok (.ifCond .eq 13, 3) := by decide +kernel
theorem dX12_home_12 : decode cX12_home 12 = .ok (.aload_n 0, 1) := by decide +kernel
theorem dX12_home_13 : decode cX12_home 13 = .ok (.iconst 1, 1) := by decide +kernel
theorem dX12_home_14 : decode cX12_home 14 = .ok (.iload_n 1, 1) := by decide +kernel
theorem dX12_home_15 : decode cX12_home 15 = .ok (.ishl, 1) := by decide +kernel
theorem dX12_home_16 : decode cX12_home 16 = .ok (.invokevirtual 339, 3) := by decide +kernel
theorem dX12_home_19 : decode cX12_home 19 = .ok (.goto 4, 3) := by decide +kernel
theorem dX12_home_22 : decode cX12_home 22 = .ok (.iconst (-1), 1) := by decide +kernel
theorem dX12_home_23 : decode cX12_home 23 = .ok (.ireturn, 1) := by decide +kernel
set_option maxRecDepth 100000 in
set_option maxHeartbeats 4000000 in
theorem B_X12_home_0 {κ : Nat → List Value → List Value → m2M → Prop} {D : Nat} {Q : Option Value → m2M → Prop} (h : m2_RL κ cX12_home RX12 2 (D + 1) (some .int) Q) (hD : 1 ≤ D) {x1 : Int32} {μ : m2M} (k : ((fX12_isRoom x1) = 1 → ∃ Q7 : Option Value → m2M → Prop, m2_MT D yX12_toRooms cX12_toRooms 5 (some .int) [.ref kM, .int ((1 : Int32) <<< (x1 &&& 31))] (m2_si μ kM 22 0) Q7 ∧ ∀ (y5 : Int32) (μ6 : m2M), Q7 (some (.int y5)) μ6 → (Q (some (.int y5)) μ6)) ∧ (¬ (fX12_isRoom x1) = 1 → Q (some (.int (-1))) (m2_si μ kM 22 0))) : κ 0 [.ref kM, .int x1] [] μ := by
  have hB := h.b
  refine m2_aload_n hB dX12_home_0 rfl ?_
  refine m2_iconst hB dX12_home_1 (v := 0) (by decide) ?_
  refine m2_putI hB dX12_home_2 fl_X12_143 sh_kM rfl ?_
  refine m2_iload_n hB dX12_home_5 rfl ?_
  refine m2_invSz hB (as := [.int x1]) dX12_home_6 ms_X12_302 rfl (Nat.le_of_ble_eq_true rfl) rfl (P_X12_isRoom (by omega) (x1) _ ) (fun y1 μ2 hq3 => ?_)
  obtain ⟨⟨⟩, hq3⟩ := hq3
  subst μ2
  show κ 9 [.ref kM, .int x1] [.int (if (fX12_isRoom x1) = 1 then 1 else 0 : Int32)] (m2_si μ kM 22 0)
  by_cases q4 : (fX12_isRoom x1) = 1
  · rw [if_pos q4]
    replace k := k.1 q4
    refine m2_if_eq hB dX12_home_9 (tgt := 22) (by decide) (fun q => absurd q (by decide)) (fun _ => ?_)
    refine m2_aload_n hB dX12_home_12 rfl ?_
    refine m2_iconst hB dX12_home_13 (v := 1) (by decide) ?_
    refine m2_iload_n hB dX12_home_14 rfl ?_
    refine m2_ishl hB dX12_home_15 ?_
    obtain ⟨Q7, hM8, k⟩ := k
    refine m2_invi hB (as := [.int ((1 : Int32) <<< (x1 &&& 31))]) dX12_home_16 mv_X12_339 rfl sh_kM rfl (Nat.le_of_ble_eq_true rfl) rfl hM8 (fun y5 μ6 hq9 => ?_)
    replace k := k y5 μ6 hq9
    refine m2_goto hB dX12_home_19 (tgt := 23) (by decide) ?_
    exact m2_iret h dX12_home_23 k
  · rw [if_neg q4]
    replace k := k.2 q4
    refine m2_if_eq hB dX12_home_9 (tgt := 22) (by decide) (fun _ => ?_) (fun q => absurd q (by decide))
    refine m2_iconst hB dX12_home_22 (v := (-1)) (by decide) ?_
    exact m2_iret h dX12_home_23 k
theorem dX12_fire_0 : decode cX12_fire 0 = .ok (.aload_n 0, 1) := by decide +kernel
theorem dX12_fire_1 : decode cX12_fire 1 = .ok (.iconst 0, 1) := by decide +kernel
theorem dX12_fire_2 : decode cX12_fire 2 = .ok (.putfield 143, 3) := by decide +kernel
theorem dX12_fire_5 : decode cX12_fire 5 = .ok (.iload_n 1, 1) := by decide +kernel
theorem dX12_fire_6 : decode cX12_fire 6 = .ok (.iconst 1, 1) := by decide +kernel
theorem dX12_fire_7 : decode cX12_fire 7 = .ok (.sipush 4095, 3) := by decide +kernel
theorem dX12_fire_10 : decode cX12_fire 10 = .ok (.invokestatic 149, 3) := by decide +kernel
theorem dX12_fire_13 : decode cX12_fire 13 = .ok (.ifCond .eq 11, 3) := by decide +kernel
theorem dX12_fire_16 : decode cX12_fire 16 = .ok (.aload_n 0, 1) := by decide +kernel
theorem dX12_fire_17 : decode cX12_fire 17 = .ok (.iload_n 1, 1) := by decide +kernel
theorem dX12_fire_18 : decode cX12_fire 18 = .ok (.invokevirtual 339, 3) := by decide +kernel
theorem dX12_fire_21 : decode cX12_fire 21 = .ok (.goto 4, 3) := by decide +kernel
theorem dX12_fire_24 : decode cX12_fire 24 = .ok (.iconst (-1), 1) := by decide +kernel
theorem dX12_fire_25 : decode cX12_fire 25 = .ok (.ireturn, 1) := by decide +kernel
set_option maxRecDepth 100000 in
set_option maxHeartbeats 4000000 in
theorem B_X12_fire_0 {κ : Nat → List Value → List Value → m2M → Prop} {D : Nat} {Q : Option Value → m2M → Prop} (h : m2_RL κ cX12_fire RX12 2 (D + 1) (some .int) Q) (hD : 0 ≤ D) {x1 : Int32} {μ : m2M} (k : ((fX12_in x1 1 4095) = 1 → ∃ Q7 : Option Value → m2M → Prop, m2_MT D yX12_toRooms cX12_toRooms 5 (some .int) [.ref kM, .int x1] (m2_si μ kM 22 0) Q7 ∧ ∀ (y5 : Int32) (μ6 : m2M), Q7 (some (.int y5)) μ6 → (Q (some (.int y5)) μ6)) ∧ (¬ (fX12_in x1 1 4095) = 1 → Q (some (.int (-1))) (m2_si μ kM 22 0))) : κ 0 [.ref kM, .int x1] [] μ := by
  have hB := h.b
  refine m2_aload_n hB dX12_fire_0 rfl ?_
  refine m2_iconst hB dX12_fire_1 (v := 0) (by decide) ?_
  refine m2_putI hB dX12_fire_2 fl_X12_143 sh_kM rfl ?_
  refine m2_iload_n hB dX12_fire_5 rfl ?_
  refine m2_iconst hB dX12_fire_6 (v := 1) (by decide) ?_
  refine m2_sipush hB dX12_fire_7 (v := 4095) (by decide) ?_
  refine m2_invSz hB (as := [.int x1, .int 1, .int 4095]) dX12_fire_10 ms_X12_149 rfl (Nat.le_of_ble_eq_true rfl) rfl (P_X12_in (by omega) (x1) (1) (4095) _ ) (fun y1 μ2 hq3 => ?_)
  obtain ⟨⟨⟩, hq3⟩ := hq3
  subst μ2
  show κ 13 [.ref kM, .int x1] [.int (if (fX12_in x1 1 4095) = 1 then 1 else 0 : Int32)] (m2_si μ kM 22 0)
  by_cases q4 : (fX12_in x1 1 4095) = 1
  · rw [if_pos q4]
    replace k := k.1 q4
    refine m2_if_eq hB dX12_fire_13 (tgt := 24) (by decide) (fun q => absurd q (by decide)) (fun _ => ?_)
    refine m2_aload_n hB dX12_fire_16 rfl ?_
    refine m2_iload_n hB dX12_fire_17 rfl ?_
    obtain ⟨Q7, hM8, k⟩ := k
    refine m2_invi hB (as := [.int x1]) dX12_fire_18 mv_X12_339 rfl sh_kM rfl (Nat.le_of_ble_eq_true rfl) rfl hM8 (fun y5 μ6 hq9 => ?_)
    replace k := k y5 μ6 hq9
    refine m2_goto hB dX12_fire_21 (tgt := 25) (by decide) ?_
    exact m2_iret h dX12_fire_25 k
  · rw [if_neg q4]
    replace k := k.2 q4
    refine m2_if_eq hB dX12_fire_13 (tgt := 24) (by decide) (fun _ => ?_) (fun q => absurd q (by decide))
    refine m2_iconst hB dX12_fire_24 (v := (-1)) (by decide) ?_
    exact m2_iret h dX12_fire_25 k
theorem dX12_late_0 : decode cX12_late 0 = .ok (.aload_n 0, 1) := by decide +kernel
theorem dX12_late_1 : decode cX12_late 1 = .ok (.iconst 0, 1) := by decide +kernel
theorem dX12_late_2 : decode cX12_late 2 = .ok (.putfield 143, 3) := by decide +kernel
theorem dX12_late_5 : decode cX12_late 5 = .ok (.iload_n 1, 1) := by decide +kernel
theorem dX12_late_6 : decode cX12_late 6 = .ok (.invokestatic 302, 3) := by decide +kernel
theorem dX12_late_9 : decode cX12_late 9 = .ok (.ifCond .ne 5, 3) := by decide +kernel
theorem dX12_late_12 : decode cX12_late 12 = .ok (.iconst (-1), 1) := by decide +kernel
theorem dX12_late_13 : decode cX12_late 13 = .ok (.ireturn, 1) := by decide +kernel
theorem dX12_late_14 : decode cX12_late 14 = .ok (.iconst 0, 1) := by decide +kernel
theorem dX12_late_15 : decode cX12_late 15 = .ok (.istore_n 2, 1) := by decide +kernel
theorem dX12_late_16 : decode cX12_late 16 = .ok (.iconst 0, 1) := by decide +kernel
theorem dX12_late_17 : decode cX12_late 17 = .ok (.istore_n 3, 1) := by decide +kernel
theorem dX12_late_18 : decode cX12_late 18 = .ok (.iload_n 3, 1) := by decide +kernel
theorem dX12_late_19 : decode cX12_late 19 = .ok (.aload_n 0, 1) := by decide +kernel
theorem dX12_late_20 : decode cX12_late 20 = .ok (.getfield 156, 3) := by decide +kernel
theorem dX12_late_23 : decode cX12_late 23 = .ok (.if_icmp .ge 112, 3) := by decide +kernel
theorem dX12_late_26 : decode cX12_late 26 = .ok (.aload_n 0, 1) := by decide +kernel
theorem dX12_late_27 : decode cX12_late 27 = .ok (.invokevirtual 342, 3) := by decide +kernel
theorem dX12_late_30 : decode cX12_late 30 = .ok (.aload_n 0, 1) := by decide +kernel
theorem dX12_late_31 : decode cX12_late 31 = .ok (.aload_n 0, 1) := by decide +kernel
theorem dX12_late_32 : decode cX12_late 32 = .ok (.getfield 29, 3) := by decide +kernel
theorem dX12_late_35 : decode cX12_late 35 = .ok (.iload_n 3, 1) := by decide +kernel
theorem dX12_late_36 : decode cX12_late 36 = .ok (.iaload, 1) := by decide +kernel
theorem dX12_late_37 : decode cX12_late 37 = .ok (.iload_n 1, 1) := by decide +kernel
theorem dX12_late_38 : decode cX12_late 38 = .ok (.invokevirtual 305, 3) := by decide +kernel
theorem dX12_late_41 : decode cX12_late 41 = .ok (.ifCond .eq 84, 3) := by decide +kernel
theorem dX12_late_44 : decode cX12_late 44 = .ok (.aload_n 0, 1) := by decide +kernel
theorem dX12_late_45 : decode cX12_late 45 = .ok (.getfield 35, 3) := by decide +kernel
theorem dX12_late_48 : decode cX12_late 48 = .ok (.iload_n 3, 1) := by decide +kernel
theorem dX12_late_49 : decode cX12_late 49 = .ok (.baload, 1) := by decide +kernel
theorem dX12_late_50 : decode cX12_late 50 = .ok (.ifCond .ne 75, 3) := by decide +kernel
theorem dX12_late_53 : decode cX12_late 53 = .ok (.aload_n 0, 1) := by decide +kernel
theorem dX12_late_54 : decode cX12_late 54 = .ok (.iload_n 1, 1) := by decide +kernel
theorem dX12_late_55 : decode cX12_late 55 = .ok (.invokevirtual 345, 3) := by decide +kernel
theorem dX12_late_58 : decode cX12_late 58 = .ok (.istore 4, 2) := by decide +kernel
theorem dX12_late_60 : decode cX12_late 60 = .ok (.aload_n 0, 1) := by decide +kernel
theorem dX12_late_61 : decode cX12_late 61 = .ok (.aload_n 0, 1) := by decide +kernel
theorem dX12_late_62 : decode cX12_late 62 = .ok (.getfield 29, 3) := by decide +kernel
theorem dX12_late_65 : decode cX12_late 65 = .ok (.iload_n 3, 1) := by decide +kernel
theorem dX12_late_66 : decode cX12_late 66 = .ok (.iaload, 1) := by decide +kernel
theorem dX12_late_67 : decode cX12_late 67 = .ok (.iload_n 1, 1) := by decide +kernel
theorem dX12_late_68 : decode cX12_late 68 = .ok (.invokevirtual 305, 3) := by decide +kernel
theorem dX12_late_71 : decode cX12_late 71 = .ok (.pop, 1) := by decide +kernel
theorem dX12_late_72 : decode cX12_late 72 = .ok (.iconst 0, 1) := by decide +kernel
theorem dX12_late_73 : decode cX12_late 73 = .ok (.istore 5, 2) := by decide +kernel
theorem dX12_late_75 : decode cX12_late 75 = .ok (.iload 5, 2) := by decide +kernel
theorem dX12_late_77 : decode cX12_late 77 = .ok (.aload_n 0, 1) := by decide +kernel
theorem dX12_late_78 : decode cX12_late 78 = .ok (.getfield 248, 3) := by decide +kernel
theorem dX12_late_81 : decode cX12_late 81 = .ok (.if_icmp .ge 25, 3) := by decide +kernel
theorem dX12_late_84 : decode cX12_late 84 = .ok (.aload_n 0, 1) := by decide +kernel
theorem dX12_late_85 : decode cX12_late 85 = .ok (.getfield 23, 3) := by decide +kernel
theorem dX12_late_88 : decode cX12_late 88 = .ok (.aload_n 0, 1) := by decide +kernel
theorem dX12_late_89 : decode cX12_late 89 = .ok (.getfield 83, 3) := by decide +kernel
theorem dX12_late_92 : decode cX12_late 92 = .ok (.iload 5, 2) := by decide +kernel
theorem dX12_late_94 : decode cX12_late 94 = .ok (.iaload, 1) := by decide +kernel
theorem dX12_late_95 : decode cX12_late 95 = .ok (.dup2, 1) := by decide +kernel
theorem dX12_late_96 : decode cX12_late 96 = .ok (.iaload, 1) := by decide +kernel
theorem dX12_late_97 : decode cX12_late 97 = .ok (.iconst 1, 1) := by decide +kernel
theorem dX12_late_98 : decode cX12_late 98 = .ok (.isub, 1) := by decide +kernel
theorem dX12_late_99 : decode cX12_late 99 = .ok (.iastore, 1) := by decide +kernel
theorem dX12_late_100 : decode cX12_late 100 = .ok (.iinc 5 1, 3) := by decide +kernel
theorem dX12_late_103 : decode cX12_late 103 = .ok (.goto (-28), 3) := by decide +kernel
theorem dX12_late_106 : decode cX12_late 106 = .ok (.iload_n 2, 1) := by decide +kernel
theorem dX12_late_107 : decode cX12_late 107 = .ok (.iload 4, 2) := by decide +kernel
theorem dX12_late_109 : decode cX12_late 109 = .ok (.aload_n 0, 1) := by decide +kernel
theorem dX12_late_110 : decode cX12_late 110 = .ok (.iload_n 1, 1) := by decide +kernel
theorem dX12_late_111 : decode cX12_late 111 = .ok (.invokevirtual 345, 3) := by decide +kernel
theorem dX12_late_114 : decode cX12_late 114 = .ok (.iconst (-1), 1) := by decide +kernel
theorem dX12_late_115 : decode cX12_late 115 = .ok (.ixor, 1) := by decide +kernel
theorem dX12_late_116 : decode cX12_late 116 = .ok (.iand, 1) := by decide +kernel
theorem dX12_late_117 : decode cX12_late 117 = .ok (.iconst 1, 1) := by decide +kernel
theorem dX12_late_118 : decode cX12_late 118 = .ok (.iload_n 3, 1) := by decide +kernel
theorem dX12_late_119 : decode cX12_late 119 = .ok (.ishl, 1) := by decide +kernel
theorem dX12_late_120 : decode cX12_late 120 = .ok (.iconst (-1), 1) := by decide +kernel
theorem dX12_late_121 : decode cX12_late 121 = .ok (.ixor, 1) := by decide +kernel
theorem dX12_late_122 : decode cX12_late 122 = .ok (.iand, 1) := by decide +kernel
theorem dX12_late_123 : decode cX12_late 123 = .ok (.ior, 1) := by decide +kernel
theorem dX12_late_124 : decode cX12_late 124 = .ok (.istore_n 2, 1) := by decide +kernel
theorem dX12_late_125 : decode cX12_late 125 = .ok (.aload_n 0, 1) := by decide +kernel
theorem dX12_late_126 : decode cX12_late 126 = .ok (.invokevirtual 348, 3) := by decide +kernel
theorem dX12_late_129 : decode cX12_late 129 = .ok (.iinc 3 1, 3) := by decide +kernel
theorem dX12_late_132 : decode cX12_late 132 = .ok (.goto (-114), 3) := by decide +kernel
theorem dX12_late_135 : decode cX12_late 135 = .ok (.iload_n 2, 1) := by decide +kernel
theorem dX12_late_136 : decode cX12_late 136 = .ok (.ireturn, 1) := by decide +kernel
set_option maxRecDepth 100000 in
set_option maxHeartbeats 4000000 in
theorem B_X12_late_0 {κ : Nat → List Value → List Value → m2M → Prop} {D : Nat} {Q : Option Value → m2M → Prop} (h : m2_RL κ cX12_late RX12 6 (D + 1) (some .int) Q) (hD : 1 ≤ D) {x1 : Int32} {μ : m2M} (k : ((fX12_isRoom x1) = 1 → κ 18 [.ref kM, .int x1, .int 0, .int 0, .null, .null] [] (m2_si μ kM 22 0)) ∧ (¬ (fX12_isRoom x1) = 1 → Q (some (.int (-1))) (m2_si μ kM 22 0))) : κ 0 [.ref kM, .int x1, .null, .null, .null, .null] [] μ := by
  have hB := h.b
  refine m2_aload_n hB dX12_late_0 rfl ?_
  refine m2_iconst hB dX12_late_1 (v := 0) (by decide) ?_
  refine m2_putI hB dX12_late_2 fl_X12_143 sh_kM rfl ?_
  refine m2_iload_n hB dX12_late_5 rfl ?_
  refine m2_invSz hB (as := [.int x1]) dX12_late_6 ms_X12_302 rfl (Nat.le_of_ble_eq_true rfl) rfl (P_X12_isRoom (by omega) (x1) _ ) (fun y1 μ2 hq3 => ?_)
  obtain ⟨⟨⟩, hq3⟩ := hq3
  subst μ2
  show κ 9 [.ref kM, .int x1, .null, .null, .null, .null] [.int (if (fX12_isRoom x1) = 1 then 1 else 0 : Int32)] (m2_si μ kM 22 0)
  by_cases q4 : (fX12_isRoom x1) = 1
  · rw [if_pos q4]
    replace k := k.1 q4
    refine m2_if_ne hB dX12_late_9 (tgt := 14) (by decide) (fun _ => ?_) (fun q => absurd q (by decide))
    refine m2_iconst hB dX12_late_14 (v := 0) (by decide) ?_
    refine m2_istore_n hB (ls' := [.ref kM, .int x1, .int 0, .null, .null, .null]) dX12_late_15 rfl (by decide) rfl ?_
    refine m2_iconst hB dX12_late_16 (v := 0) (by decide) ?_
    refine m2_istore_n hB (ls' := [.ref kM, .int x1, .int 0, .int 0, .null, .null]) dX12_late_17 rfl (by decide) rfl ?_
    exact k
  · rw [if_neg q4]
    replace k := k.2 q4
    refine m2_if_ne hB dX12_late_9 (tgt := 14) (by decide) (fun q => absurd q (by decide)) (fun _ => ?_)
    refine m2_iconst hB dX12_late_12 (v := (-1)) (by decide) ?_
    exact m2_iret h dX12_late_13 k
set_option maxRecDepth 100000 in
set_option maxHeartbeats 4000000 in
theorem B_X12_late_18 {κ : Nat → List Value → List Value → m2M → Prop} {D : Nat} {Q : Option Value → m2M → Prop} (h : m2_RL κ cX12_late RX12 6 (D + 1) (some .int) Q) {v1 : Int32} {v2 : Int32} {v3 : Int32} {μ : m2M} (k : ((μ.1 kM 7) ≤ v3 → Q (some (.int v2)) μ) ∧ (¬ (μ.1 kM 7) ≤ v3 → ∃ Q4 : Option Value → m2M → Prop, m2_MT D yX12_putBy cX12_putBy 1 none [.ref kM] μ Q4 ∧ ∀ (μ3 : m2M), Q4 none μ3 → ((vp_in v3 8) ∧ (∃ Q10 : Option Value → m2M → Prop, m2_MT D yX12_findOpenWay cX12_findOpenWay 4 (some .boolean) [.ref kM, .int (μ3.1 kM_where (v3).toNatClampNeg), .int v1] μ3 Q10 ∧ ∀ (y8 : Int32) (μ9 : m2M), Q10 (some (.int y8)) μ9 → ((y8 = 0 → ∃ Q17 : Option Value → m2M → Prop, m2_MT D yX12_bringBack cX12_bringBack 1 none [.ref kM] μ9 Q17 ∧ ∀ (μ16 : m2M), Q17 none μ16 → (κ 18 [.ref kM, .int v1, .int v2, .int (v3 + 1), .null, .null] [] μ16)) ∧ (¬ y8 = 0 → (¬ (μ9.1 kM_isStranger (v3).toNatClampNeg) = 0 → ∃ Q24 : Option Value → m2M → Prop, m2_MT D yX12_bringBack cX12_bringBack 1 none [.ref kM] μ9 Q24 ∧ ∀ (μ23 : m2M), Q24 none μ23 → (κ 18 [.ref kM, .int v1, .int v2, .int (v3 + 1), .null, .null] [] μ23)) ∧ ((μ9.1 kM_isStranger (v3).toNatClampNeg) = 0 → ∃ Q29 : Option Value → m2M → Prop, m2_MT D yX12_whoCan cX12_whoCan 4 (some .int) [.ref kM, .int v1] μ9 Q29 ∧ ∀ (y27 : Int32) (μ28 : m2M), Q29 (some (.int y27)) μ28 → (∃ Q35 : Option Value → m2M → Prop, m2_MT D yX12_findOpenWay cX12_findOpenWay 4 (some .boolean) [.ref kM, .int (μ28.1 kM_where (v3).toNatClampNeg), .int v1] μ28 Q35 ∧ ∀ (y33 : Int32) (μ34 : m2M), Q35 (some (.int y33)) μ34 → (κ 75 [.ref kM, .int v1, .int v2, .int v3, .int y27, .int 0] [] μ34))))))))) : κ 18 [.ref kM, .int v1, .int v2, .int v3, .null, .null] [] μ := by
  have hB := h.b
  refine m2_iload_n hB dX12_late_18 rfl ?_
  refine m2_aload_n hB dX12_late_19 rfl ?_
  refine m2_getI hB dX12_late_20 fl_X12_156 sh_kM rfl ?_
  refine m2_icmp_ge hB dX12_late_23 (tgt := 135) (by decide) (fun q1 : (μ.1 kM 7) ≤ v3 => ?_) (fun q1 : ¬ (μ.1 kM 7) ≤ v3 => ?_)
  · replace k := k.1 q1
    refine m2_iload_n hB dX12_late_135 rfl ?_
    exact m2_iret h dX12_late_136 k
  · replace k := k.2 q1
    refine m2_aload_n hB dX12_late_26 rfl ?_
    obtain ⟨Q4, hM5, k⟩ := k
    refine m2_invv hB (as := []) dX12_late_27 mv_X12_342 rfl sh_kM rfl (Nat.le_of_ble_eq_true rfl) rfl hM5 (fun μ3 hq6 => ?_)
    replace k := k μ3 hq6
    refine m2_aload_n hB dX12_late_30 rfl ?_
    refine m2_aload_n hB dX12_late_31 rfl ?_
    refine m2_getR hB dX12_late_32 fl_X12_29 sh_kM (c1 := kM_where) rfl ?_
    refine m2_iload_n hB dX12_late_35 rfl ?_
    obtain ⟨hi7, k⟩ := k
    refine m2_iald hB dX12_late_36 sh_kM_where hi7 ?_
    refine m2_iload_n hB dX12_late_37 rfl ?_
    obtain ⟨Q10, hM11, k⟩ := k
    refine m2_invz hB (as := [.int (μ3.1 kM_where (v3).toNatClampNeg), .int v1]) dX12_late_38 mv_X12_305 rfl sh_kM rfl (Nat.le_of_ble_eq_true rfl) rfl hM11 (fun y8 μ9 hq12 => ?_)
    replace k := k y8 μ9 hq12
    refine m2_if_eq hB dX12_late_41 (tgt := 125) (by decide) (fun q14 : y8 = 0 => ?_) (fun q14 : ¬ y8 = 0 => ?_)
    · replace k := k.1 q14
      refine m2_aload_n hB dX12_late_125 rfl ?_
      obtain ⟨Q17, hM18, k⟩ := k
      refine m2_invv hB (as := []) dX12_late_126 mv_X12_348 rfl sh_kM rfl (Nat.le_of_ble_eq_true rfl) rfl hM18 (fun μ16 hq19 => ?_)
      replace k := k μ16 hq19
      refine m2_iinc hB (ls' := [.ref kM, .int v1, .int v2, .int (v3 + 1), .null, .null]) (v := (v3 + 1)) dX12_late_129 rfl (by decide) rfl rfl ?_
      refine m2_goto hB dX12_late_132 (tgt := 18) (by decide) ?_
      exact k
    · replace k := k.2 q14
      refine m2_aload_n hB dX12_late_44 rfl ?_
      refine m2_getR hB dX12_late_45 fl_X12_35 sh_kM (c1 := kM_isStranger) rfl ?_
      refine m2_iload_n hB dX12_late_48 rfl ?_
      have hi20 := hi7
      refine m2_zald hB dX12_late_49 sh_kM_isStranger hi20 ?_
      refine m2_if_ne hB dX12_late_50 (tgt := 125) (by decide) (fun q21 : ¬ (μ9.1 kM_isStranger (v3).toNatClampNeg) = 0 => ?_) (fun q21 : (μ9.1 kM_isStranger (v3).toNatClampNeg) = 0 => ?_)
      · replace k := k.1 q21
        refine m2_aload_n hB dX12_late_125 rfl ?_
        obtain ⟨Q24, hM25, k⟩ := k
        refine m2_invv hB (as := []) dX12_late_126 mv_X12_348 rfl sh_kM rfl (Nat.le_of_ble_eq_true rfl) rfl hM25 (fun μ23 hq26 => ?_)
        replace k := k μ23 hq26
        refine m2_iinc hB (ls' := [.ref kM, .int v1, .int v2, .int (v3 + 1), .null, .null]) (v := (v3 + 1)) dX12_late_129 rfl (by decide) rfl rfl ?_
        refine m2_goto hB dX12_late_132 (tgt := 18) (by decide) ?_
        exact k
      · replace k := k.2 q21
        refine m2_aload_n hB dX12_late_53 rfl ?_
        refine m2_iload_n hB dX12_late_54 rfl ?_
        obtain ⟨Q29, hM30, k⟩ := k
        refine m2_invi hB (as := [.int v1]) dX12_late_55 mv_X12_345 rfl sh_kM rfl (Nat.le_of_ble_eq_true rfl) rfl hM30 (fun y27 μ28 hq31 => ?_)
        replace k := k y27 μ28 hq31
        refine m2_istore hB (ls' := [.ref kM, .int v1, .int v2, .int v3, .int y27, .null]) dX12_late_58 (by decide) rfl ?_
        refine m2_aload_n hB dX12_late_60 rfl ?_
        refine m2_aload_n hB dX12_late_61 rfl ?_
        refine m2_getR hB dX12_late_62 fl_X12_29 sh_kM (c1 := kM_where) rfl ?_
        refine m2_iload_n hB dX12_late_65 rfl ?_
        have hi32 := hi7
        refine m2_iald hB dX12_late_66 sh_kM_where hi32 ?_
        refine m2_iload_n hB dX12_late_67 rfl ?_
        obtain ⟨Q35, hM36, k⟩ := k
        refine m2_invz hB (as := [.int (μ28.1 kM_where (v3).toNatClampNeg), .int v1]) dX12_late_68 mv_X12_305 rfl sh_kM rfl (Nat.le_of_ble_eq_true rfl) rfl hM36 (fun y33 μ34 hq37 => ?_)
        replace k := k y33 μ34 hq37
        refine m2_pop hB dX12_late_71 rfl ?_
        refine m2_iconst hB dX12_late_72 (v := 0) (by decide) ?_
        refine m2_istore hB (ls' := [.ref kM, .int v1, .int v2, .int v3, .int y27, .int 0]) dX12_late_73 (by decide) rfl ?_
        exact k
set_option maxRecDepth 100000 in
set_option maxHeartbeats 4000000 in
theorem B_X12_late_75 {κ : Nat → List Value → List Value → m2M → Prop} {D : Nat} {Q : Option Value → m2M → Prop} (h : m2_RL κ cX12_late RX12 6 (D + 1) (some .int) Q) {v1 : Int32} {v2 : Int32} {v3 : Int32} {v4 : Int32} {v5 : Int32} {μ : m2M} (k : ((μ.1 kM 37) ≤ v5 → ∃ Q5 : Option Value → m2M → Prop, m2_MT D yX12_whoCan cX12_whoCan 4 (some .int) [.ref kM, .int v1] μ Q5 ∧ ∀ (y3 : Int32) (μ4 : m2M), Q5 (some (.int y3)) μ4 → (∃ Q10 : Option Value → m2M → Prop, m2_MT D yX12_bringBack cX12_bringBack 1 none [.ref kM] μ4 Q10 ∧ ∀ (μ9 : m2M), Q10 none μ9 → (κ 18 [.ref kM, .int v1, .int (v2 ||| ((v4 &&& (y3 ^^^ ((-1) : Int32))) &&& (((1 : Int32) <<< (v3 &&& 31)) ^^^ ((-1) : Int32)))), .int (v3 + 1), .null, .null] [] μ9))) ∧ (¬ (μ.1 kM 37) ≤ v5 → (vp_in v5 12) ∧ ((vp_in (μ.1 kM_way (v5).toNatClampNeg) 20) ∧ (κ 75 [.ref kM, .int v1, .int v2, .int v3, .int v4, .int (v5 + 1)] [] (m2_si μ kM_left ((μ.1 kM_way (v5).toNatClampNeg)).toNatClampNeg ((μ.1 kM_left ((μ.1 kM_way (v5).toNatClampNeg)).toNatClampNeg) - 1)))))) : κ 75 [.ref kM, .int v1, .int v2, .int v3, .int v4, .int v5] [] μ := by
  have hB := h.b
  refine m2_iload hB dX12_late_75 rfl ?_
  refine m2_aload_n hB dX12_late_77 rfl ?_
  refine m2_getI hB dX12_late_78 fl_X12_248 sh_kM rfl ?_
  refine m2_icmp_ge hB dX12_late_81 (tgt := 106) (by decide) (fun q2 : (μ.1 kM 37) ≤ v5 => ?_) (fun q2 : ¬ (μ.1 kM 37) ≤ v5 => ?_)
  · replace k := k.1 q2
    refine m2_iload_n hB dX12_late_106 rfl ?_
    refine m2_iload hB dX12_late_107 rfl ?_
    refine m2_aload_n hB dX12_late_109 rfl ?_
    refine m2_iload_n hB dX12_late_110 rfl ?_
    obtain ⟨Q5, hM6, k⟩ := k
    refine m2_invi hB (as := [.int v1]) dX12_late_111 mv_X12_345 rfl sh_kM rfl (Nat.le_of_ble_eq_true rfl) rfl hM6 (fun y3 μ4 hq7 => ?_)
    replace k := k y3 μ4 hq7
    refine m2_iconst hB dX12_late_114 (v := (-1)) (by decide) ?_
    refine m2_ixor hB dX12_late_115 ?_
    refine m2_iand hB dX12_late_116 ?_
    refine m2_iconst hB dX12_late_117 (v := 1) (by decide) ?_
    refine m2_iload_n hB dX12_late_118 rfl ?_
    refine m2_ishl hB dX12_late_119 ?_
    refine m2_iconst hB dX12_late_120 (v := (-1)) (by decide) ?_
    refine m2_ixor hB dX12_late_121 ?_
    refine m2_iand hB dX12_late_122 ?_
    refine m2_ior hB dX12_late_123 ?_
    refine m2_istore_n hB (ls' := [.ref kM, .int v1, .int (v2 ||| ((v4 &&& (y3 ^^^ ((-1) : Int32))) &&& (((1 : Int32) <<< (v3 &&& 31)) ^^^ ((-1) : Int32)))), .int v3, .int v4, .int v5]) dX12_late_124 rfl (by decide) rfl ?_
    refine m2_aload_n hB dX12_late_125 rfl ?_
    obtain ⟨Q10, hM11, k⟩ := k
    refine m2_invv hB (as := []) dX12_late_126 mv_X12_348 rfl sh_kM rfl (Nat.le_of_ble_eq_true rfl) rfl hM11 (fun μ9 hq12 => ?_)
    replace k := k μ9 hq12
    refine m2_iinc hB (ls' := [.ref kM, .int v1, .int (v2 ||| ((v4 &&& (y3 ^^^ ((-1) : Int32))) &&& (((1 : Int32) <<< (v3 &&& 31)) ^^^ ((-1) : Int32)))), .int (v3 + 1), .int v4, .int v5]) (v := (v3 + 1)) dX12_late_129 rfl (by decide) rfl rfl ?_
    refine m2_goto hB dX12_late_132 (tgt := 18) (by decide) ?_
    exact m2_weak (ls' := [.ref kM, .int v1, .int (v2 ||| ((v4 &&& (y3 ^^^ ((-1) : Int32))) &&& (((1 : Int32) <<< (v3 &&& 31)) ^^^ ((-1) : Int32)))), .int (v3 + 1), .null, .null]) hB ⟨Or.inr rfl, Or.inr rfl, Or.inr rfl, Or.inr rfl, Or.inl rfl, Or.inl rfl, trivial⟩ k
  · replace k := k.2 q2
    refine m2_aload_n hB dX12_late_84 rfl ?_
    refine m2_getR hB dX12_late_85 fl_X12_23 sh_kM (c1 := kM_left) rfl ?_
    refine m2_aload_n hB dX12_late_88 rfl ?_
    refine m2_getR hB dX12_late_89 fl_X12_83 sh_kM (c1 := kM_way) rfl ?_
    refine m2_iload hB dX12_late_92 rfl ?_
    obtain ⟨hi13, k⟩ := k
    refine m2_iald hB dX12_late_94 sh_kM_way hi13 ?_
    refine m2_dup2 hB dX12_late_95 rfl rfl ?_
    obtain ⟨hi14, k⟩ := k
    refine m2_iald hB dX12_late_96 sh_kM_left hi14 ?_
    refine m2_iconst hB dX12_late_97 (v := 1) (by decide) ?_
    refine m2_isub hB dX12_late_98 ?_
    have hi15 := hi14
    refine m2_iast hB dX12_late_99 sh_kM_left hi15 ?_
    refine m2_iinc hB (ls' := [.ref kM, .int v1, .int v2, .int v3, .int v4, .int (v5 + 1)]) (v := (v5 + 1)) dX12_late_100 rfl (by decide) rfl rfl ?_
    refine m2_goto hB dX12_late_103 (tgt := 75) (by decide) ?_
    exact k
theorem dX12_whoCan_0 : decode cX12_whoCan 0 = .ok (.iconst 0, 1) := by decide +kernel
theorem dX12_whoCan_1 : decode cX12_whoCan 1 = .ok (.istore_n 2, 1) := by decide +kernel
theorem dX12_whoCan_2 : decode cX12_whoCan 2 = .ok (.iconst 0, 1) := by decide +kernel
theorem dX12_whoCan_3 : decode cX12_whoCan 3 = .ok (.istore_n 3, 1) := by decide +kernel
theorem dX12_whoCan_4 : decode cX12_whoCan 4 = .ok (.iload_n 3, 1) := by decide +kernel
theorem dX12_whoCan_5 : decode cX12_whoCan 5 = .ok (.aload_n 0, 1) := by decide +kernel
theorem dX12_whoCan_6 : decode cX12_whoCan 6 = .ok (.getfield 156, 3) := by decide +kernel
theorem dX12_whoCan_9 : decode cX12_whoCan 9 = .ok (.if_icmp .ge 33, 3) := by decide +kernel
theorem dX12_whoCan_12 : decode cX12_whoCan 12 = .ok (.iload_n 2, 1) := by decide +kernel
theorem dX12_whoCan_13 : decode cX12_whoCan 13 = .ok (.aload_n 0, 1) := by decide +kernel
theorem dX12_whoCan_14 : decode cX12_whoCan 14 = .ok (.aload_n 0, 1) := by decide +kernel
theorem dX12_whoCan_15 : decode cX12_whoCan 15 = .ok (.getfield 29, 3) := by decide +kernel
theorem dX12_whoCan_18 : decode cX12_whoCan 18 = .ok (.iload_n 3, 1) := by decide +kernel
theorem dX12_whoCan_19 : decode cX12_whoCan 19 = .ok (.iaload, 1) := by decide +kernel
theorem dX12_whoCan_20 : decode cX12_whoCan 20 = .ok (.iload_n 1, 1) := by decide +kernel
theorem dX12_whoCan_21 : decode cX12_whoCan 21 = .ok (.invokevirtual 305, 3) := by decide +kernel
theorem dX12_whoCan_24 : decode cX12_whoCan 24 = .ok (.ifCond .eq 9, 3) := by decide +kernel
theorem dX12_whoCan_27 : decode cX12_whoCan 27 = .ok (.iconst 1, 1) := by decide +kernel
theorem dX12_whoCan_28 : decode cX12_whoCan 28 = .ok (.iload_n 3, 1) := by decide +kernel
theorem dX12_whoCan_29 : decode cX12_whoCan 29 = .ok (.ishl, 1) := by decide +kernel
theorem dX12_whoCan_30 : decode cX12_whoCan 30 = .ok (.goto 4, 3) := by decide +kernel
theorem dX12_whoCan_33 : decode cX12_whoCan 33 = .ok (.iconst 0, 1) := by decide +kernel
theorem dX12_whoCan_34 : decode cX12_whoCan 34 = .ok (.ior, 1) := by decide +kernel
theorem dX12_whoCan_35 : decode cX12_whoCan 35 = .ok (.istore_n 2, 1) := by decide +kernel
theorem dX12_whoCan_36 : decode cX12_whoCan 36 = .ok (.iinc 3 1, 3) := by decide +kernel
theorem dX12_whoCan_39 : decode cX12_whoCan 39 = .ok (.goto (-35), 3) := by decide +kernel
theorem dX12_whoCan_42 : decode cX12_whoCan 42 = .ok (.iload_n 2, 1) := by decide +kernel
theorem dX12_whoCan_43 : decode cX12_whoCan 43 = .ok (.ireturn, 1) := by decide +kernel
set_option maxRecDepth 100000 in
set_option maxHeartbeats 4000000 in
theorem B_X12_whoCan_0 {κ : Nat → List Value → List Value → m2M → Prop} {D : Nat} {Q : Option Value → m2M → Prop} (h : m2_RL κ cX12_whoCan RX12 4 D (some .int) Q) {x1 : Int32} {μ : m2M} (k : κ 4 [.ref kM, .int x1, .int 0, .int 0] [] μ) : κ 0 [.ref kM, .int x1, .null, .null] [] μ := by
  have hB := h.b
  refine m2_iconst hB dX12_whoCan_0 (v := 0) (by decide) ?_
  refine m2_istore_n hB (ls' := [.ref kM, .int x1, .int 0, .null]) dX12_whoCan_1 rfl (by decide) rfl ?_
  refine m2_iconst hB dX12_whoCan_2 (v := 0) (by decide) ?_
  refine m2_istore_n hB (ls' := [.ref kM, .int x1, .int 0, .int 0]) dX12_whoCan_3 rfl (by decide) rfl ?_
  exact k
set_option maxRecDepth 100000 in
set_option maxHeartbeats 4000000 in
theorem B_X12_whoCan_4 {κ : Nat → List Value → List Value → m2M → Prop} {D : Nat} {Q : Option Value → m2M → Prop} (h : m2_RL κ cX12_whoCan RX12 4 (D + 1) (some .int) Q) {v1 : Int32} {v2 : Int32} {v3 : Int32} {μ : m2M} (k : ((μ.1 kM 7) ≤ v3 → Q (some (.int v2)) μ) ∧ (¬ (μ.1 kM 7) ≤ v3 → (vp_in v3 8) ∧ (∃ Q6 : Option Value → m2M → Prop, m2_MT D yX12_findOpenWay cX12_findOpenWay 4 (some .boolean) [.ref kM, .int (μ.1 kM_where (v3).toNatClampNeg), .int v1] μ Q6 ∧ ∀ (y4 : Int32) (μ5 : m2M), Q6 (some (.int y4)) μ5 → (κ 4 [.ref kM, .int v1, .int (v2 ||| (if y4 = 0 then 0 else ((1 : Int32) <<< (v3 &&& 31)) : Int32)), .int (v3 + 1)] [] μ5)))) : κ 4 [.ref kM, .int v1, .int v2, .int v3] [] μ := by
  have hB := h.b
  refine m2_iload_n hB dX12_whoCan_4 rfl ?_
  refine m2_aload_n hB dX12_whoCan_5 rfl ?_
  refine m2_getI hB dX12_whoCan_6 fl_X12_156 sh_kM rfl ?_
  refine m2_icmp_ge hB dX12_whoCan_9 (tgt := 42) (by decide) (fun q2 : (μ.1 kM 7) ≤ v3 => ?_) (fun q2 : ¬ (μ.1 kM 7) ≤ v3 => ?_)
  · replace k := k.1 q2
    refine m2_iload_n hB dX12_whoCan_42 rfl ?_
    exact m2_iret h dX12_whoCan_43 k
  · replace k := k.2 q2
    refine m2_iload_n hB dX12_whoCan_12 rfl ?_
    refine m2_aload_n hB dX12_whoCan_13 rfl ?_
    refine m2_aload_n hB dX12_whoCan_14 rfl ?_
    refine m2_getR hB dX12_whoCan_15 fl_X12_29 sh_kM (c1 := kM_where) rfl ?_
    refine m2_iload_n hB dX12_whoCan_18 rfl ?_
    obtain ⟨hi3, k⟩ := k
    refine m2_iald hB dX12_whoCan_19 sh_kM_where hi3 ?_
    refine m2_iload_n hB dX12_whoCan_20 rfl ?_
    obtain ⟨Q6, hM7, k⟩ := k
    refine m2_invz hB (as := [.int (μ.1 kM_where (v3).toNatClampNeg), .int v1]) dX12_whoCan_21 mv_X12_305 rfl sh_kM rfl (Nat.le_of_ble_eq_true rfl) rfl hM7 (fun y4 μ5 hq8 => ?_)
    replace k := k y4 μ5 hq8
    have G10 : κ 34 [.ref kM, .int v1, .int v2, .int v3] [.int (if y4 = 0 then 0 else ((1 : Int32) <<< (v3 &&& 31)) : Int32), .int v2] μ5 := by
      refine m2_ior hB dX12_whoCan_34 ?_
      refine m2_istore_n hB (ls' := [.ref kM, .int v1, .int (v2 ||| (if y4 = 0 then 0 else ((1 : Int32) <<< (v3 &&& 31)) : Int32)), .int v3]) dX12_whoCan_35 rfl (by decide) rfl ?_
      refine m2_iinc hB (ls' := [.ref kM, .int v1, .int (v2 ||| (if y4 = 0 then 0 else ((1 : Int32) <<< (v3 &&& 31)) : Int32)), .int (v3 + 1)]) (v := (v3 + 1)) dX12_whoCan_36 rfl (by decide) rfl rfl ?_
      refine m2_goto hB dX12_whoCan_39 (tgt := 4) (by decide) ?_
      exact k
    refine m2_if_eq hB dX12_whoCan_24 (tgt := 33) (by decide) (fun q9 : y4 = 0 => ?_) (fun q9 : ¬ y4 = 0 => ?_)
    · rw [if_pos q9] at G10
      refine m2_iconst hB dX12_whoCan_33 (v := 0) (by decide) ?_
      exact G10
    · rw [if_neg q9] at G10
      refine m2_iconst hB dX12_whoCan_27 (v := 1) (by decide) ?_
      refine m2_iload_n hB dX12_whoCan_28 rfl ?_
      refine m2_ishl hB dX12_whoCan_29 ?_
      refine m2_goto hB dX12_whoCan_30 (tgt := 34) (by decide) ?_
      exact G10
theorem dX12_putIn_0 : decode cX12_putIn 0 = .ok (.bipush 45, 2) := by decide +kernel
theorem dX12_putIn_2 : decode cX12_putIn 2 = .ok (.iload_n 1, 1) := by decide +kernel
theorem dX12_putIn_3 : decode cX12_putIn 3 = .ok (.imul, 1) := by decide +kernel
theorem dX12_putIn_4 : decode cX12_putIn 4 = .ok (.istore_n 2, 1) := by decide +kernel
theorem dX12_putIn_5 : decode cX12_putIn 5 = .ok (.iconst 0, 1) := by decide +kernel
theorem dX12_putIn_6 : decode cX12_putIn 6 = .ok (.istore_n 3, 1) := by decide +kernel
theorem dX12_putIn_7 : decode cX12_putIn 7 = .ok (.iload_n 3, 1) := by decide +kernel
theorem dX12_putIn_8 : decode cX12_putIn 8 = .ok (.bipush 20, 2) := by decide +kernel
theorem dX12_putIn_10 : decode cX12_putIn 10 = .ok (.if_icmp .ge 23, 3) := by decide +kernel
theorem dX12_putIn_13 : decode cX12_putIn 13 = .ok (.aload_n 0, 1) := by decide +kernel
theorem dX12_putIn_14 : decode cX12_putIn 14 = .ok (.getfield 95, 3) := by decide +kernel
theorem dX12_putIn_17 : decode cX12_putIn 17 = .ok (.iload_n 2, 1) := by decide +kernel
theorem dX12_putIn_18 : decode cX12_putIn 18 = .ok (.iload_n 3, 1) := by decide +kernel
theorem dX12_putIn_19 : decode cX12_putIn 19 = .ok (.iadd, 1) := by decide +kernel
theorem dX12_putIn_20 : decode cX12_putIn 20 = .ok (.aload_n 0, 1) := by decide +kernel
theorem dX12_putIn_21 : decode cX12_putIn 21 = .ok (.getfield 23, 3) := by decide +kernel
theorem dX12_putIn_24 : decode cX12_putIn 24 = .ok (.iload_n 3, 1) := by decide +kernel
theorem dX12_putIn_25 : decode cX12_putIn 25 = .ok (.iaload, 1) := by decide +kernel
theorem dX12_putIn_26 : decode cX12_putIn 26 = .ok (.iastore, 1) := by decide +kernel
theorem dX12_putIn_27 : decode cX12_putIn 27 = .ok (.iinc 3 1, 3) := by decide +kernel
theorem dX12_putIn_30 : decode cX12_putIn 30 = .ok (.goto (-23), 3) := by decide +kernel
theorem dX12_putIn_33 : decode cX12_putIn 33 = .ok (.iinc 2 20, 3) := by decide +kernel
theorem dX12_putIn_36 : decode cX12_putIn 36 = .ok (.iconst 0, 1) := by decide +kernel
theorem dX12_putIn_37 : decode cX12_putIn 37 = .ok (.istore_n 3, 1) := by decide +kernel
theorem dX12_putIn_38 : decode cX12_putIn 38 = .ok (.iload_n 3, 1) := by decide +kernel
theorem dX12_putIn_39 : decode cX12_putIn 39 = .ok (.bipush 8, 2) := by decide +kernel
theorem dX12_putIn_41 : decode cX12_putIn 41 = .ok (.if_icmp .ge 77, 3) := by decide +kernel
theorem dX12_putIn_44 : decode cX12_putIn 44 = .ok (.aload_n 0, 1) := by decide +kernel
theorem dX12_putIn_45 : decode cX12_putIn 45 = .ok (.getfield 95, 3) := by decide +kernel
theorem dX12_putIn_48 : decode cX12_putIn 48 = .ok (.iload_n 2, 1) := by decide +kernel
theorem dX12_putIn_49 : decode cX12_putIn 49 = .ok (.iconst 3, 1) := by decide +kernel
theorem dX12_putIn_50 : decode cX12_putIn 50 = .ok (.iload_n 3, 1) := by decide +kernel
theorem dX12_putIn_51 : decode cX12_putIn 51 = .ok (.imul, 1) := by decide +kernel
theorem dX12_putIn_52 : decode cX12_putIn 52 = .ok (.iadd, 1) := by decide +kernel
theorem dX12_putIn_53 : decode cX12_putIn 53 = .ok (.aload_n 0, 1) := by decide +kernel
theorem dX12_putIn_54 : decode cX12_putIn 54 = .ok (.getfield 29, 3) := by decide +kernel
theorem dX12_putIn_57 : decode cX12_putIn 57 = .ok (.iload_n 3, 1) := by decide +kernel
theorem dX12_putIn_58 : decode cX12_putIn 58 = .ok (.iaload, 1) := by decide +kernel
theorem dX12_putIn_59 : decode cX12_putIn 59 = .ok (.iastore, 1) := by decide +kernel
theorem dX12_putIn_60 : decode cX12_putIn 60 = .ok (.aload_n 0, 1) := by decide +kernel
theorem dX12_putIn_61 : decode cX12_putIn 61 = .ok (.getfield 95, 3) := by decide +kernel
theorem dX12_putIn_64 : decode cX12_putIn 64 = .ok (.iload_n 2, 1) := by decide +kernel
theorem dX12_putIn_65 : decode cX12_putIn 65 = .ok (.iconst 3, 1) := by decide +kernel
theorem dX12_putIn_66 : decode cX12_putIn 66 = .ok (.iload_n 3, 1) := by decide +kernel
theorem dX12_putIn_67 : decode cX12_putIn 67 = .ok (.imul, 1) := by decide +kernel
theorem dX12_putIn_68 : decode cX12_putIn 68 = .ok (.iadd, 1) := by decide +kernel
theorem dX12_putIn_69 : decode cX12_putIn 69 = .ok (.iconst 1, 1) := by decide +kernel
theorem dX12_putIn_70 : decode cX12_putIn 70 = .ok (.iadd, 1) := by decide +kernel
theorem dX12_putIn_71 : decode cX12_putIn 71 = .ok (.aload_n 0, 1) := by decide +kernel
theorem dX12_putIn_72 : decode cX12_putIn 72 = .ok (.getfield 47, 3) := by decide +kernel
theorem dX12_putIn_75 : decode cX12_putIn 75 = .ok (.iload_n 3, 1) := by decide +kernel
theorem dX12_putIn_76 : decode cX12_putIn 76 = .ok (.baload, 1) := by decide +kernel
theorem dX12_putIn_77 : decode cX12_putIn 77 = .ok (.ifCond .eq 7, 3) := by decide +kernel
theorem dX12_putIn_80 : decode cX12_putIn 80 = .ok (.iconst 1, 1) := by decide +kernel
theorem dX12_putIn_81 : decode cX12_putIn 81 = .ok (.goto 4, 3) := by decide +kernel
theorem dX12_putIn_84 : decode cX12_putIn 84 = .ok (.iconst 0, 1) := by decide +kernel
theorem dX12_putIn_85 : decode cX12_putIn 85 = .ok (.iastore, 1) := by decide +kernel
theorem dX12_putIn_86 : decode cX12_putIn 86 = .ok (.aload_n 0, 1) := by decide +kernel
theorem dX12_putIn_87 : decode cX12_putIn 87 = .ok (.getfield 95, 3) := by decide +kernel
theorem dX12_putIn_90 : decode cX12_putIn 90 = .ok (.iload_n 2, 1) := by decide +kernel
theorem dX12_putIn_91 : decode cX12_putIn 91 = .ok (.iconst 3, 1) := by decide +kernel
theorem dX12_putIn_92 : decode cX12_putIn 92 = .ok (.iload_n 3, 1) := by decide +kernel
theorem dX12_putIn_93 : decode cX12_putIn 93 = .ok (.imul, 1) := by decide +kernel
theorem dX12_putIn_94 : decode cX12_putIn 94 = .ok (.iadd, 1) := by decide +kernel
theorem dX12_putIn_95 : decode cX12_putIn 95 = .ok (.iconst 2, 1) := by decide +kernel
theorem dX12_putIn_96 : decode cX12_putIn 96 = .ok (.iadd, 1) := by decide +kernel
theorem dX12_putIn_97 : decode cX12_putIn 97 = .ok (.aload_n 0, 1) := by decide +kernel
theorem dX12_putIn_98 : decode cX12_putIn 98 = .ok (.getfield 50, 3) := by decide +kernel
theorem dX12_putIn_101 : decode cX12_putIn 101 = .ok (.iload_n 3, 1) := by decide +kernel
theorem dX12_putIn_102 : decode cX12_putIn 102 = .ok (.baload, 1) := by decide +kernel
theorem dX12_putIn_103 : decode cX12_putIn 103 = .ok (.ifCond .eq 7, 3) := by decide +kernel
theorem dX12_putIn_106 : decode cX12_putIn 106 = .ok (.iconst 1, 1) := by decide +kernel
theorem dX12_putIn_107 : decode cX12_putIn 107 = .ok (.goto 4, 3) := by decide +kernel
theorem dX12_putIn_110 : decode cX12_putIn 110 = .ok (.iconst 0, 1) := by decide +kernel
theorem dX12_putIn_111 : decode cX12_putIn 111 = .ok (.iastore, 1) := by decide +kernel
theorem dX12_putIn_112 : decode cX12_putIn 112 = .ok (.iinc 3 1, 3) := by decide +kernel
theorem dX12_putIn_115 : decode cX12_putIn 115 = .ok (.goto (-77), 3) := by decide +kernel
theorem dX12_putIn_118 : decode cX12_putIn 118 = .ok (.aload_n 0, 1) := by decide +kernel
theorem dX12_putIn_119 : decode cX12_putIn 119 = .ok (.getfield 95, 3) := by decide +kernel
theorem dX12_putIn_122 : decode cX12_putIn 122 = .ok (.iload_n 2, 1) := by decide +kernel
theorem dX12_putIn_123 : decode cX12_putIn 123 = .ok (.bipush 24, 2) := by decide +kernel
theorem dX12_putIn_125 : decode cX12_putIn 125 = .ok (.iadd, 1) := by decide +kernel
theorem dX12_putIn_126 : decode cX12_putIn 126 = .ok (.aload_n 0, 1) := by decide +kernel
theorem dX12_putIn_127 : decode cX12_putIn 127 = .ok (.getfield 228, 3) := by decide +kernel
theorem dX12_putIn_130 : decode cX12_putIn 130 = .ok (.iastore, 1) := by decide +kernel
theorem dX12_putIn_131 : decode cX12_putIn 131 = .ok (.return_, 1) := by decide +kernel
set_option maxRecDepth 100000 in
set_option maxHeartbeats 4000000 in
theorem B_X12_putIn_0 {κ : Nat → List Value → List Value → m2M → Prop} {D : Nat} {Q : Option Value → m2M → Prop} (h : m2_RL κ cX12_putIn RX12 4 D none Q) {x1 : Int32} {μ : m2M} (k : κ 7 [.ref kM, .int x1, .int ((45 : Int32) * x1), .int 0] [] μ) : κ 0 [.ref kM, .int x1, .null, .null] [] μ := by
  have hB := h.b
  refine m2_bipush hB dX12_putIn_0 (v := 45) (by decide) ?_
  refine m2_iload_n hB dX12_putIn_2 rfl ?_
  refine m2_imul hB dX12_putIn_3 ?_
  refine m2_istore_n hB (ls' := [.ref kM, .int x1, .int ((45 : Int32) * x1), .null]) dX12_putIn_4 rfl (by decide) rfl ?_
  refine m2_iconst hB dX12_putIn_5 (v := 0) (by decide) ?_
  refine m2_istore_n hB (ls' := [.ref kM, .int x1, .int ((45 : Int32) * x1), .int 0]) dX12_putIn_6 rfl (by decide) rfl ?_
  exact k
set_option maxRecDepth 100000 in
set_option maxHeartbeats 4000000 in
theorem B_X12_putIn_7 {κ : Nat → List Value → List Value → m2M → Prop} {D : Nat} {Q : Option Value → m2M → Prop} (h : m2_RL κ cX12_putIn RX12 4 D none Q) {v1 : Int32} {v2 : Int32} {v3 : Int32} {μ : m2M} (k : (20 ≤ v3 → κ 38 [.ref kM, .int v1, .int (v2 + 20), .int 0] [] μ) ∧ (¬ 20 ≤ v3 → (vp_in v3 20) ∧ ((vp_in (v2 + v3) 180) ∧ (κ 7 [.ref kM, .int v1, .int v2, .int (v3 + 1)] [] (m2_si μ kM_put ((v2 + v3)).toNatClampNeg (μ.1 kM_left (v3).toNatClampNeg)))))) : κ 7 [.ref kM, .int v1, .int v2, .int v3] [] μ := by
  have hB := h.b
  refine m2_iload_n hB dX12_putIn_7 rfl ?_
  refine m2_bipush hB dX12_putIn_8 (v := 20) (by decide) ?_
  refine m2_icmp_ge hB dX12_putIn_10 (tgt := 33) (by decide) (fun q2 : 20 ≤ v3 => ?_) (fun q2 : ¬ 20 ≤ v3 => ?_)
  · replace k := k.1 q2
    refine m2_iinc hB (ls' := [.ref kM, .int v1, .int (v2 + 20), .int v3]) (v := (v2 + 20)) dX12_putIn_33 rfl (by decide) rfl rfl ?_
    refine m2_iconst hB dX12_putIn_36 (v := 0) (by decide) ?_
    refine m2_istore_n hB (ls' := [.ref kM, .int v1, .int (v2 + 20), .int 0]) dX12_putIn_37 rfl (by decide) rfl ?_
    exact k
  · replace k := k.2 q2
    refine m2_aload_n hB dX12_putIn_13 rfl ?_
    refine m2_getR hB dX12_putIn_14 fl_X12_95 sh_kM (c1 := kM_put) rfl ?_
    refine m2_iload_n hB dX12_putIn_17 rfl ?_
    refine m2_iload_n hB dX12_putIn_18 rfl ?_
    refine m2_iadd hB dX12_putIn_19 ?_
    refine m2_aload_n hB dX12_putIn_20 rfl ?_
    refine m2_getR hB dX12_putIn_21 fl_X12_23 sh_kM (c1 := kM_left) rfl ?_
    refine m2_iload_n hB dX12_putIn_24 rfl ?_
    obtain ⟨hi3, k⟩ := k
    refine m2_iald hB dX12_putIn_25 sh_kM_left hi3 ?_
    obtain ⟨hi4, k⟩ := k
    refine m2_iast hB dX12_putIn_26 sh_kM_put hi4 ?_
    refine m2_iinc hB (ls' := [.ref kM, .int v1, .int v2, .int (v3 + 1)]) (v := (v3 + 1)) dX12_putIn_27 rfl (by decide) rfl rfl ?_
    refine m2_goto hB dX12_putIn_30 (tgt := 7) (by decide) ?_
    exact k
set_option maxRecDepth 100000 in
set_option maxHeartbeats 4000000 in
theorem B_X12_putIn_38 {κ : Nat → List Value → List Value → m2M → Prop} {D : Nat} {Q : Option Value → m2M → Prop} (h : m2_RL κ cX12_putIn RX12 4 D none Q) {v1 : Int32} {v2 : Int32} {v3 : Int32} {μ : m2M} (k : (8 ≤ v3 → (vp_in (v2 + 24) 180) ∧ (Q none (m2_si μ kM_put ((v2 + 24)).toNatClampNeg (μ.1 kM 16)))) ∧ (¬ 8 ≤ v3 → (vp_in v3 8) ∧ ((vp_in (v2 + ((3 : Int32) * v3)) 180) ∧ ((vp_in ((v2 + ((3 : Int32) * v3)) + 1) 180) ∧ ((vp_in ((v2 + ((3 : Int32) * v3)) + 2) 180) ∧ (κ 38 [.ref kM, .int v1, .int v2, .int (v3 + 1)] [] (m2_si (m2_si (m2_si μ kM_put ((v2 + ((3 : Int32) * v3))).toNatClampNeg (μ.1 kM_where (v3).toNatClampNeg)) kM_put (((v2 + ((3 : Int32) * v3)) + 1)).toNatClampNeg (if (μ.1 kM_wasThere (v3).toNatClampNeg) = 0 then 0 else 1 : Int32)) kM_put (((v2 + ((3 : Int32) * v3)) + 2)).toNatClampNeg (if (μ.1 kM_isDone (v3).toNatClampNeg) = 0 then 0 else 1 : Int32)))))))) : κ 38 [.ref kM, .int v1, .int v2, .int v3] [] μ := by
  have hB := h.b
  refine m2_iload_n hB dX12_putIn_38 rfl ?_
  refine m2_bipush hB dX12_putIn_39 (v := 8) (by decide) ?_
  refine m2_icmp_ge hB dX12_putIn_41 (tgt := 118) (by decide) (fun q2 : 8 ≤ v3 => ?_) (fun q2 : ¬ 8 ≤ v3 => ?_)
  · replace k := k.1 q2
    refine m2_aload_n hB dX12_putIn_118 rfl ?_
    refine m2_getR hB dX12_putIn_119 fl_X12_95 sh_kM (c1 := kM_put) rfl ?_
    refine m2_iload_n hB dX12_putIn_122 rfl ?_
    refine m2_bipush hB dX12_putIn_123 (v := 24) (by decide) ?_
    refine m2_iadd hB dX12_putIn_125 ?_
    refine m2_aload_n hB dX12_putIn_126 rfl ?_
    refine m2_getI hB dX12_putIn_127 fl_X12_228 sh_kM rfl ?_
    obtain ⟨hi3, k⟩ := k
    refine m2_iast hB dX12_putIn_130 sh_kM_put hi3 ?_
    exact m2_vret h dX12_putIn_131 k
  · replace k := k.2 q2
    refine m2_aload_n hB dX12_putIn_44 rfl ?_
    refine m2_getR hB dX12_putIn_45 fl_X12_95 sh_kM (c1 := kM_put) rfl ?_
    refine m2_iload_n hB dX12_putIn_48 rfl ?_
    refine m2_iconst hB dX12_putIn_49 (v := 3) (by decide) ?_
    refine m2_iload_n hB dX12_putIn_50 rfl ?_
    refine m2_imul hB dX12_putIn_51 ?_
    refine m2_iadd hB dX12_putIn_52 ?_
    refine m2_aload_n hB dX12_putIn_53 rfl ?_
    refine m2_getR hB dX12_putIn_54 fl_X12_29 sh_kM (c1 := kM_where) rfl ?_
    refine m2_iload_n hB dX12_putIn_57 rfl ?_
    obtain ⟨hi4, k⟩ := k
    refine m2_iald hB dX12_putIn_58 sh_kM_where hi4 ?_
    obtain ⟨hi5, k⟩ := k
    refine m2_iast hB dX12_putIn_59 sh_kM_put hi5 ?_
    refine m2_aload_n hB dX12_putIn_60 rfl ?_
    refine m2_getR hB dX12_putIn_61 fl_X12_95 sh_kM (c1 := kM_put) rfl ?_
    refine m2_iload_n hB dX12_putIn_64 rfl ?_
    refine m2_iconst hB dX12_putIn_65 (v := 3) (by decide) ?_
    refine m2_iload_n hB dX12_putIn_66 rfl ?_
    refine m2_imul hB dX12_putIn_67 ?_
    refine m2_iadd hB dX12_putIn_68 ?_
    refine m2_iconst hB dX12_putIn_69 (v := 1) (by decide) ?_
    refine m2_iadd hB dX12_putIn_70 ?_
    refine m2_aload_n hB dX12_putIn_71 rfl ?_
    refine m2_getR hB dX12_putIn_72 fl_X12_47 sh_kM (c1 := kM_wasThere) rfl ?_
    refine m2_iload_n hB dX12_putIn_75 rfl ?_
    have hi6 := hi4
    refine m2_zald hB dX12_putIn_76 sh_kM_wasThere hi6 ?_
    have G8 : κ 85 [.ref kM, .int v1, .int v2, .int v3] [.int (if (μ.1 kM_wasThere (v3).toNatClampNeg) = 0 then 0 else 1 : Int32), .int ((v2 + ((3 : Int32) * v3)) + 1), .ref kM_put] (m2_si μ kM_put ((v2 + ((3 : Int32) * v3))).toNatClampNeg (μ.1 kM_where (v3).toNatClampNeg)) := by
      obtain ⟨hi9, k⟩ := k
      refine m2_iast hB dX12_putIn_85 sh_kM_put hi9 ?_
      refine m2_aload_n hB dX12_putIn_86 rfl ?_
      refine m2_getR hB dX12_putIn_87 fl_X12_95 sh_kM (c1 := kM_put) rfl ?_
      refine m2_iload_n hB dX12_putIn_90 rfl ?_
      refine m2_iconst hB dX12_putIn_91 (v := 3) (by decide) ?_
      refine m2_iload_n hB dX12_putIn_92 rfl ?_
      refine m2_imul hB dX12_putIn_93 ?_
      refine m2_iadd hB dX12_putIn_94 ?_
      refine m2_iconst hB dX12_putIn_95 (v := 2) (by decide) ?_
      refine m2_iadd hB dX12_putIn_96 ?_
      refine m2_aload_n hB dX12_putIn_97 rfl ?_
      refine m2_getR hB dX12_putIn_98 fl_X12_50 sh_kM (c1 := kM_isDone) rfl ?_
      refine m2_iload_n hB dX12_putIn_101 rfl ?_
      have hi10 := hi4
      refine m2_zald hB dX12_putIn_102 sh_kM_isDone hi10 ?_
      have G12 : κ 111 [.ref kM, .int v1, .int v2, .int v3] [.int (if (μ.1 kM_isDone (v3).toNatClampNeg) = 0 then 0 else 1 : Int32), .int ((v2 + ((3 : Int32) * v3)) + 2), .ref kM_put] (m2_si (m2_si μ kM_put ((v2 + ((3 : Int32) * v3))).toNatClampNeg (μ.1 kM_where (v3).toNatClampNeg)) kM_put (((v2 + ((3 : Int32) * v3)) + 1)).toNatClampNeg (if (μ.1 kM_wasThere (v3).toNatClampNeg) = 0 then 0 else 1 : Int32)) := by
        obtain ⟨hi13, k⟩ := k
        refine m2_iast hB dX12_putIn_111 sh_kM_put hi13 ?_
        refine m2_iinc hB (ls' := [.ref kM, .int v1, .int v2, .int (v3 + 1)]) (v := (v3 + 1)) dX12_putIn_112 rfl (by decide) rfl rfl ?_
        refine m2_goto hB dX12_putIn_115 (tgt := 38) (by decide) ?_
        exact k
      refine m2_if_eq hB dX12_putIn_103 (tgt := 110) (by decide) (fun q11 : (μ.1 kM_isDone (v3).toNatClampNeg) = 0 => ?_) (fun q11 : ¬ (μ.1 kM_isDone (v3).toNatClampNeg) = 0 => ?_)
      · rw [if_pos q11] at G12
        refine m2_iconst hB dX12_putIn_110 (v := 0) (by decide) ?_
        exact G12
      · rw [if_neg q11] at G12
        refine m2_iconst hB dX12_putIn_106 (v := 1) (by decide) ?_
        refine m2_goto hB dX12_putIn_107 (tgt := 111) (by decide) ?_
        exact G12
    refine m2_if_eq hB dX12_putIn_77 (tgt := 84) (by decide) (fun q7 : (μ.1 kM_wasThere (v3).toNatClampNeg) = 0 => ?_) (fun q7 : ¬ (μ.1 kM_wasThere (v3).toNatClampNeg) = 0 => ?_)
    · rw [if_pos q7] at G8
      refine m2_iconst hB dX12_putIn_84 (v := 0) (by decide) ?_
      exact G8
    · rw [if_neg q7] at G8
      refine m2_iconst hB dX12_putIn_80 (v := 1) (by decide) ?_
      refine m2_goto hB dX12_putIn_81 (tgt := 85) (by decide) ?_
      exact G8
theorem dX12_takeOut_0 : decode cX12_takeOut 0 = .ok (.bipush 45, 2) := by decide +kernel
theorem dX12_takeOut_2 : decode cX12_takeOut 2 = .ok (.iload_n 1, 1) := by decide +kernel
theorem dX12_takeOut_3 : decode cX12_takeOut 3 = .ok (.imul, 1) := by decide +kernel
theorem dX12_takeOut_4 : decode cX12_takeOut 4 = .ok (.istore 4, 2) := by decide +kernel
theorem dX12_takeOut_6 : decode cX12_takeOut 6 = .ok (.iconst 0, 1) := by decide +kernel
theorem dX12_takeOut_7 : decode cX12_takeOut 7 = .ok (.istore 5, 2) := by decide +kernel
theorem dX12_takeOut_9 : decode cX12_takeOut 9 = .ok (.iload 5, 2) := by decide +kernel
theorem dX12_takeOut_11 : decode cX12_takeOut 11 = .ok (.iload_n 2, 1) := by decide +kernel
theorem dX12_takeOut_12 : decode cX12_takeOut 12 = .ok (.if_icmp .ge 26, 3) := by decide +kernel
theorem dX12_takeOut_15 : decode cX12_takeOut 15 = .ok (.aload_n 0, 1) := by decide +kernel
theorem dX12_takeOut_16 : decode cX12_takeOut 16 = .ok (.getfield 23, 3) := by decide +kernel
theorem dX12_takeOut_19 : decode cX12_takeOut 19 = .ok (.iload 5, 2) := by decide +kernel
theorem dX12_takeOut_21 : decode cX12_takeOut 21 = .ok (.aload_n 0, 1) := by decide +kernel
theorem dX12_takeOut_22 : decode cX12_takeOut 22 = .ok (.getfield 95, 3) := by decide +kernel
theorem dX12_takeOut_25 : decode cX12_takeOut 25 = .ok (.iload 4, 2) := by decide +kernel
theorem dX12_takeOut_27 : decode cX12_takeOut 27 = .ok (.iload 5, 2) := by decide +kernel
theorem dX12_takeOut_29 : decode cX12_takeOut 29 = .ok (.iadd, 1) := by decide +kernel
theorem dX12_takeOut_30 : decode cX12_takeOut 30 = .ok (.iaload, 1) := by decide +kernel
theorem dX12_takeOut_31 : decode cX12_takeOut 31 = .ok (.iastore, 1) := by decide +kernel
theorem dX12_takeOut_32 : decode cX12_takeOut 32 = .ok (.iinc 5 1, 3) := by decide +kernel
theorem dX12_takeOut_35 : decode cX12_takeOut 35 = .ok (.goto (-26), 3) := by decide +kernel
theorem dX12_takeOut_38 : decode cX12_takeOut 38 = .ok (.iinc 4 20, 3) := by decide +kernel
theorem dX12_takeOut_41 : decode cX12_takeOut 41 = .ok (.iconst 0, 1) := by decide +kernel
theorem dX12_takeOut_42 : decode cX12_takeOut 42 = .ok (.istore 5, 2) := by decide +kernel
theorem dX12_takeOut_44 : decode cX12_takeOut 44 = .ok (.iload 5, 2) := by decide +kernel
theorem dX12_takeOut_46 : decode cX12_takeOut 46 = .ok (.iload_n 3, 1) := by decide +kernel
theorem dX12_takeOut_47 : decode cX12_takeOut 47 = .ok (.if_icmp .ge 88, 3) := by decide +kernel
theorem dX12_takeOut_50 : decode cX12_takeOut 50 = .ok (.aload_n 0, 1) := by decide +kernel
theorem dX12_takeOut_51 : decode cX12_takeOut 51 = .ok (.getfield 29, 3) := by decide +kernel
theorem dX12_takeOut_54 : decode cX12_takeOut 54 = .ok (.iload 5, 2) := by decide +kernel
theorem dX12_takeOut_56 : decode cX12_takeOut 56 = .ok (.aload_n 0, 1) := by decide +kernel
theorem dX12_takeOut_57 : decode cX12_takeOut 57 = .ok (.getfield 95, 3) := by decide +kernel
theorem dX12_takeOut_60 : decode cX12_takeOut 60 = .ok (.iload 4, 2) := by decide +kernel
theorem dX12_takeOut_62 : decode cX12_takeOut 62 = .ok (.iconst 3, 1) := by decide +kernel
theorem dX12_takeOut_63 : decode cX12_takeOut 63 = .ok (.iload 5, 2) := by decide +kernel
theorem dX12_takeOut_65 : decode cX12_takeOut 65 = .ok (.imul, 1) := by decide +kernel
theorem dX12_takeOut_66 : decode cX12_takeOut 66 = .ok (.iadd, 1) := by decide +kernel
theorem dX12_takeOut_67 : decode cX12_takeOut 67 = .ok (.iaload, 1) := by decide +kernel
theorem dX12_takeOut_68 : decode cX12_takeOut 68 = .ok (.iastore, 1) := by decide +kernel
theorem dX12_takeOut_69 : decode cX12_takeOut 69 = .ok (.aload_n 0, 1) := by decide +kernel
theorem dX12_takeOut_70 : decode cX12_takeOut 70 = .ok (.getfield 47, 3) := by decide +kernel
theorem dX12_takeOut_73 : decode cX12_takeOut 73 = .ok (.iload 5, 2) := by decide +kernel
theorem dX12_takeOut_75 : decode cX12_takeOut 75 = .ok (.aload_n 0, 1) := by decide +kernel
theorem dX12_takeOut_76 : decode cX12_takeOut 76 = .ok (.getfield 95, 3) := by decide +kernel
theorem dX12_takeOut_79 : decode cX12_takeOut 79 = .ok (.iload 4, 2) := by decide +kernel
theorem dX12_takeOut_81 : decode cX12_takeOut 81 = .ok (.iconst 3, 1) := by decide +kernel
theorem dX12_takeOut_82 : decode cX12_takeOut 82 = .ok (.iload 5, 2) := by decide +kernel
theorem dX12_takeOut_84 : decode cX12_takeOut 84 = .ok (.imul, 1) := by decide +kernel
theorem dX12_takeOut_85 : decode cX12_takeOut 85 = .ok (.iadd, 1) := by decide +kernel
theorem dX12_takeOut_86 : decode cX12_takeOut 86 = .ok (.iconst 1, 1) := by decide +kernel
theorem dX12_takeOut_87 : decode cX12_takeOut 87 = .ok (.iadd, 1) := by decide +kernel
theorem dX12_takeOut_88 : decode cX12_takeOut 88 = .ok (.iaload, 1) := by decide +kernel
theorem dX12_takeOut_89 : decode cX12_takeOut 89 = .ok (.iconst 1, 1) := by decide +kernel
theorem dX12_takeOut_90 : decode cX12_takeOut 90 = .ok (.if_icmp .ne 7, 3) := by decide +kernel
theorem dX12_takeOut_93 : decode cX12_takeOut 93 = .ok (.iconst 1, 1) := by decide +kernel
theorem dX12_takeOut_94 : decode cX12_takeOut 94 = .ok (.goto 4, 3) := by decide +kernel
theorem dX12_takeOut_97 : decode cX12_takeOut 97 = .ok (.iconst 0, 1) := by decide +kernel
theorem dX12_takeOut_98 : decode cX12_takeOut 98 = .ok (.bastore, 1) := by decide +kernel
theorem dX12_takeOut_99 : decode cX12_takeOut 99 = .ok (.aload_n 0, 1) := by decide +kernel
theorem dX12_takeOut_100 : decode cX12_takeOut 100 = .ok (.getfield 50, 3) := by decide +kernel
theorem dX12_takeOut_103 : decode cX12_takeOut 103 = .ok (.iload 5, 2) := by decide +kernel
theorem dX12_takeOut_105 : decode cX12_takeOut 105 = .ok (.aload_n 0, 1) := by decide +kernel
theorem dX12_takeOut_106 : decode cX12_takeOut 106 = .ok (.getfield 95, 3) := by decide +kernel
theorem dX12_takeOut_109 : decode cX12_takeOut 109 = .ok (.iload 4, 2) := by decide +kernel
theorem dX12_takeOut_111 : decode cX12_takeOut 111 = .ok (.iconst 3, 1) := by decide +kernel
theorem dX12_takeOut_112 : decode cX12_takeOut 112 = .ok (.iload 5, 2) := by decide +kernel
theorem dX12_takeOut_114 : decode cX12_takeOut 114 = .ok (.imul, 1) := by decide +kernel
theorem dX12_takeOut_115 : decode cX12_takeOut 115 = .ok (.iadd, 1) := by decide +kernel
theorem dX12_takeOut_116 : decode cX12_takeOut 116 = .ok (.iconst 2, 1) := by decide +kernel
theorem dX12_takeOut_117 : decode cX12_takeOut 117 = .ok (.iadd, 1) := by decide +kernel
theorem dX12_takeOut_118 : decode cX12_takeOut 118 = .ok (.iaload, 1) := by decide +kernel
theorem dX12_takeOut_119 : decode cX12_takeOut 119 = .ok (.iconst 1, 1) := by decide +kernel
theorem dX12_takeOut_120 : decode cX12_takeOut 120 = .ok (.if_icmp .ne 7, 3) := by decide +kernel
theorem dX12_takeOut_123 : decode cX12_takeOut 123 = .ok (.iconst 1, 1) := by decide +kernel
theorem dX12_takeOut_124 : decode cX12_takeOut 124 = .ok (.goto 4, 3) := by decide +kernel
theorem dX12_takeOut_127 : decode cX12_takeOut 127 = .ok (.iconst 0, 1) := by decide +kernel
theorem dX12_takeOut_128 : decode cX12_takeOut 128 = .ok (.bastore, 1) := by decide +kernel
theorem dX12_takeOut_129 : decode cX12_takeOut 129 = .ok (.iinc 5 1, 3) := by decide +kernel
theorem dX12_takeOut_132 : decode cX12_takeOut 132 = .ok (.goto (-88), 3) := by decide +kernel
theorem dX12_takeOut_135 : decode cX12_takeOut 135 = .ok (.aload_n 0, 1) := by decide +kernel
theorem dX12_takeOut_136 : decode cX12_takeOut 136 = .ok (.aload_n 0, 1) := by decide +kernel
theorem dX12_takeOut_137 : decode cX12_takeOut 137 = .ok (.getfield 95, 3) := by decide +kernel
theorem dX12_takeOut_140 : decode cX12_takeOut 140 = .ok (.iload 4, 2) := by decide +kernel
theorem dX12_takeOut_142 : decode cX12_takeOut 142 = .ok (.bipush 24, 2) := by decide +kernel
theorem dX12_takeOut_144 : decode cX12_takeOut 144 = .ok (.iadd, 1) := by decide +kernel
theorem dX12_takeOut_145 : decode cX12_takeOut 145 = .ok (.iaload, 1) := by decide +kernel
theorem dX12_takeOut_146 : decode cX12_takeOut 146 = .ok (.putfield 228, 3) := by decide +kernel
theorem dX12_takeOut_149 : decode cX12_takeOut 149 = .ok (.return_, 1) := by decide +kernel
set_option maxRecDepth 100000 in
set_option maxHeartbeats 4000000 in
theorem B_X12_takeOut_0 {κ : Nat → List Value → List Value → m2M → Prop} {D : Nat} {Q : Option Value → m2M → Prop} (h : m2_RL κ cX12_takeOut RX12 6 D none Q) {x1 : Int32} {x2 : Int32} {x3 : Int32} {μ : m2M} (k : κ 9 [.ref kM, .int x1, .int x2, .int x3, .int ((45 : Int32) * x1), .int 0] [] μ) : κ 0 [.ref kM, .int x1, .int x2, .int x3, .null, .null] [] μ := by
  have hB := h.b
  refine m2_bipush hB dX12_takeOut_0 (v := 45) (by decide) ?_
  refine m2_iload_n hB dX12_takeOut_2 rfl ?_
  refine m2_imul hB dX12_takeOut_3 ?_
  refine m2_istore hB (ls' := [.ref kM, .int x1, .int x2, .int x3, .int ((45 : Int32) * x1), .null]) dX12_takeOut_4 (by decide) rfl ?_
  refine m2_iconst hB dX12_takeOut_6 (v := 0) (by decide) ?_
  refine m2_istore hB (ls' := [.ref kM, .int x1, .int x2, .int x3, .int ((45 : Int32) * x1), .int 0]) dX12_takeOut_7 (by decide) rfl ?_
  exact k
set_option maxRecDepth 100000 in
set_option maxHeartbeats 4000000 in
theorem B_X12_takeOut_9 {κ : Nat → List Value → List Value → m2M → Prop} {D : Nat} {Q : Option Value → m2M → Prop} (h : m2_RL κ cX12_takeOut RX12 6 D none Q) {v1 : Int32} {v2 : Int32} {v3 : Int32} {v4 : Int32} {v5 : Int32} {μ : m2M} (k : (v2 ≤ v5 → κ 44 [.ref kM, .int v1, .int v2, .int v3, .int (v4 + 20), .int 0] [] μ) ∧ (¬ v2 ≤ v5 → (vp_in (v4 + v5) 180) ∧ ((vp_in v5 20) ∧ (κ 9 [.ref kM, .int v1, .int v2, .int v3, .int v4, .int (v5 + 1)] [] (m2_si μ kM_left (v5).toNatClampNeg (μ.1 kM_put ((v4 + v5)).toNatClampNeg)))))) : κ 9 [.ref kM, .int v1, .int v2, .int v3, .int v4, .int v5] [] μ := by
  have hB := h.b
  refine m2_iload hB dX12_takeOut_9 rfl ?_
  refine m2_iload_n hB dX12_takeOut_11 rfl ?_
  refine m2_icmp_ge hB dX12_takeOut_12 (tgt := 38) (by decide) (fun q2 : v2 ≤ v5 => ?_) (fun q2 : ¬ v2 ≤ v5 => ?_)
  · replace k := k.1 q2
    refine m2_iinc hB (ls' := [.ref kM, .int v1, .int v2, .int v3, .int (v4 + 20), .int v5]) (v := (v4 + 20)) dX12_takeOut_38 rfl (by decide) rfl rfl ?_
    refine m2_iconst hB dX12_takeOut_41 (v := 0) (by decide) ?_
    refine m2_istore hB (ls' := [.ref kM, .int v1, .int v2, .int v3, .int (v4 + 20), .int 0]) dX12_takeOut_42 (by decide) rfl ?_
    exact k
  · replace k := k.2 q2
    refine m2_aload_n hB dX12_takeOut_15 rfl ?_
    refine m2_getR hB dX12_takeOut_16 fl_X12_23 sh_kM (c1 := kM_left) rfl ?_
    refine m2_iload hB dX12_takeOut_19 rfl ?_
    refine m2_aload_n hB dX12_takeOut_21 rfl ?_
    refine m2_getR hB dX12_takeOut_22 fl_X12_95 sh_kM (c1 := kM_put) rfl ?_
    refine m2_iload hB dX12_takeOut_25 rfl ?_
    refine m2_iload hB dX12_takeOut_27 rfl ?_
    refine m2_iadd hB dX12_takeOut_29 ?_
    obtain ⟨hi3, k⟩ := k
    refine m2_iald hB dX12_takeOut_30 sh_kM_put hi3 ?_
    obtain ⟨hi4, k⟩ := k
    refine m2_iast hB dX12_takeOut_31 sh_kM_left hi4 ?_
    refine m2_iinc hB (ls' := [.ref kM, .int v1, .int v2, .int v3, .int v4, .int (v5 + 1)]) (v := (v5 + 1)) dX12_takeOut_32 rfl (by decide) rfl rfl ?_
    refine m2_goto hB dX12_takeOut_35 (tgt := 9) (by decide) ?_
    exact k
set_option maxRecDepth 100000 in
set_option maxHeartbeats 4000000 in
theorem B_X12_takeOut_44 {κ : Nat → List Value → List Value → m2M → Prop} {D : Nat} {Q : Option Value → m2M → Prop} (h : m2_RL κ cX12_takeOut RX12 6 D none Q) {v1 : Int32} {v2 : Int32} {v3 : Int32} {v4 : Int32} {v5 : Int32} {μ : m2M} (k : (v3 ≤ v5 → (vp_in (v4 + 24) 180) ∧ (Q none (m2_si μ kM 16 (μ.1 kM_put ((v4 + 24)).toNatClampNeg)))) ∧ (¬ v3 ≤ v5 → (vp_in (v4 + ((3 : Int32) * v5)) 180) ∧ ((vp_in v5 8) ∧ ((vp_in ((v4 + ((3 : Int32) * v5)) + 1) 180) ∧ ((vp_in ((v4 + ((3 : Int32) * v5)) + 2) 180) ∧ (κ 44 [.ref kM, .int v1, .int v2, .int v3, .int v4, .int (v5 + 1)] [] (m2_si (m2_si (m2_si μ kM_where (v5).toNatClampNeg (μ.1 kM_put ((v4 + ((3 : Int32) * v5))).toNatClampNeg)) kM_wasThere (v5).toNatClampNeg (vp_nar .boolean (if (μ.1 kM_put (((v4 + ((3 : Int32) * v5)) + 1)).toNatClampNeg) = 1 then 1 else 0 : Int32))) kM_isDone (v5).toNatClampNeg (vp_nar .boolean (if (μ.1 kM_put (((v4 + ((3 : Int32) * v5)) + 2)).toNatClampNeg) = 1 then 1 else 0 : Int32))))))))) : κ 44 [.ref kM, .int v1, .int v2, .int v3, .int v4, .int v5] [] μ := by
  have hB := h.b
  refine m2_iload hB dX12_takeOut_44 rfl ?_
  refine m2_iload_n hB dX12_takeOut_46 rfl ?_
  refine m2_icmp_ge hB dX12_takeOut_47 (tgt := 135) (by decide) (fun q2 : v3 ≤ v5 => ?_) (fun q2 : ¬ v3 ≤ v5 => ?_)
  · replace k := k.1 q2
    refine m2_aload_n hB dX12_takeOut_135 rfl ?_
    refine m2_aload_n hB dX12_takeOut_136 rfl ?_
    refine m2_getR hB dX12_takeOut_137 fl_X12_95 sh_kM (c1 := kM_put) rfl ?_
    refine m2_iload hB dX12_takeOut_140 rfl ?_
    refine m2_bipush hB dX12_takeOut_142 (v := 24) (by decide) ?_
    refine m2_iadd hB dX12_takeOut_144 ?_
    obtain ⟨hi3, k⟩ := k
    refine m2_iald hB dX12_takeOut_145 sh_kM_put hi3 ?_
    refine m2_putI hB dX12_takeOut_146 fl_X12_228 sh_kM rfl ?_
    exact m2_vret h dX12_takeOut_149 k
  · replace k := k.2 q2
    refine m2_aload_n hB dX12_takeOut_50 rfl ?_
    refine m2_getR hB dX12_takeOut_51 fl_X12_29 sh_kM (c1 := kM_where) rfl ?_
    refine m2_iload hB dX12_takeOut_54 rfl ?_
    refine m2_aload_n hB dX12_takeOut_56 rfl ?_
    refine m2_getR hB dX12_takeOut_57 fl_X12_95 sh_kM (c1 := kM_put) rfl ?_
    refine m2_iload hB dX12_takeOut_60 rfl ?_
    refine m2_iconst hB dX12_takeOut_62 (v := 3) (by decide) ?_
    refine m2_iload hB dX12_takeOut_63 rfl ?_
    refine m2_imul hB dX12_takeOut_65 ?_
    refine m2_iadd hB dX12_takeOut_66 ?_
    obtain ⟨hi4, k⟩ := k
    refine m2_iald hB dX12_takeOut_67 sh_kM_put hi4 ?_
    obtain ⟨hi5, k⟩ := k
    refine m2_iast hB dX12_takeOut_68 sh_kM_where hi5 ?_
    refine m2_aload_n hB dX12_takeOut_69 rfl ?_
    refine m2_getR hB dX12_takeOut_70 fl_X12_47 sh_kM (c1 := kM_wasThere) rfl ?_
    refine m2_iload hB dX12_takeOut_73 rfl ?_
    refine m2_aload_n hB dX12_takeOut_75 rfl ?_
    refine m2_getR hB dX12_takeOut_76 fl_X12_95 sh_kM (c1 := kM_put) rfl ?_
    refine m2_iload hB dX12_takeOut_79 rfl ?_
    refine m2_iconst hB dX12_takeOut_81 (v := 3) (by decide) ?_
    refine m2_iload hB dX12_takeOut_82 rfl ?_
    refine m2_imul hB dX12_takeOut_84 ?_
    refine m2_iadd hB dX12_takeOut_85 ?_
    refine m2_iconst hB dX12_takeOut_86 (v := 1) (by decide) ?_
    refine m2_iadd hB dX12_takeOut_87 ?_
    obtain ⟨hi6, k⟩ := k
    refine m2_iald hB dX12_takeOut_88 sh_kM_put hi6 ?_
    refine m2_iconst hB dX12_takeOut_89 (v := 1) (by decide) ?_
    have G8 : κ 98 [.ref kM, .int v1, .int v2, .int v3, .int v4, .int v5] [.int (if (μ.1 kM_put (((v4 + ((3 : Int32) * v5)) + 1)).toNatClampNeg) = 1 then 1 else 0 : Int32), .int v5, .ref kM_wasThere] (m2_si μ kM_where (v5).toNatClampNeg (μ.1 kM_put ((v4 + ((3 : Int32) * v5))).toNatClampNeg)) := by
      have hi9 := hi5
      refine m2_zast hB dX12_takeOut_98 sh_kM_wasThere hi9 ?_
      refine m2_aload_n hB dX12_takeOut_99 rfl ?_
      refine m2_getR hB dX12_takeOut_100 fl_X12_50 sh_kM (c1 := kM_isDone) rfl ?_
      refine m2_iload hB dX12_takeOut_103 rfl ?_
      refine m2_aload_n hB dX12_takeOut_105 rfl ?_
      refine m2_getR hB dX12_takeOut_106 fl_X12_95 sh_kM (c1 := kM_put) rfl ?_
      refine m2_iload hB dX12_takeOut_109 rfl ?_
      refine m2_iconst hB dX12_takeOut_111 (v := 3) (by decide) ?_
      refine m2_iload hB dX12_takeOut_112 rfl ?_
      refine m2_imul hB dX12_takeOut_114 ?_
      refine m2_iadd hB dX12_takeOut_115 ?_
      refine m2_iconst hB dX12_takeOut_116 (v := 2) (by decide) ?_
      refine m2_iadd hB dX12_takeOut_117 ?_
      obtain ⟨hi10, k⟩ := k
      refine m2_iald hB dX12_takeOut_118 sh_kM_put hi10 ?_
      refine m2_iconst hB dX12_takeOut_119 (v := 1) (by decide) ?_
      have G12 : κ 128 [.ref kM, .int v1, .int v2, .int v3, .int v4, .int v5] [.int (if (μ.1 kM_put (((v4 + ((3 : Int32) * v5)) + 2)).toNatClampNeg) = 1 then 1 else 0 : Int32), .int v5, .ref kM_isDone] (m2_si (m2_si μ kM_where (v5).toNatClampNeg (μ.1 kM_put ((v4 + ((3 : Int32) * v5))).toNatClampNeg)) kM_wasThere (v5).toNatClampNeg (vp_nar .boolean (if (μ.1 kM_put (((v4 + ((3 : Int32) * v5)) + 1)).toNatClampNeg) = 1 then 1 else 0 : Int32))) := by
        have hi13 := hi5
        refine m2_zast hB dX12_takeOut_128 sh_kM_isDone hi13 ?_
        refine m2_iinc hB (ls' := [.ref kM, .int v1, .int v2, .int v3, .int v4, .int (v5 + 1)]) (v := (v5 + 1)) dX12_takeOut_129 rfl (by decide) rfl rfl ?_
        refine m2_goto hB dX12_takeOut_132 (tgt := 44) (by decide) ?_
        exact k
      refine m2_icmp_ne hB dX12_takeOut_120 (tgt := 127) (by decide) (fun q11 : ¬ (μ.1 kM_put (((v4 + ((3 : Int32) * v5)) + 2)).toNatClampNeg) = 1 => ?_) (fun q11 : (μ.1 kM_put (((v4 + ((3 : Int32) * v5)) + 2)).toNatClampNeg) = 1 => ?_)
      · rw [if_neg q11] at G12
        refine m2_iconst hB dX12_takeOut_127 (v := 0) (by decide) ?_
        exact G12
      · rw [if_pos q11] at G12
        refine m2_iconst hB dX12_takeOut_123 (v := 1) (by decide) ?_
        refine m2_goto hB dX12_takeOut_124 (tgt := 128) (by decide) ?_
        exact G12
    refine m2_icmp_ne hB dX12_takeOut_90 (tgt := 97) (by decide) (fun q7 : ¬ (μ.1 kM_put (((v4 + ((3 : Int32) * v5)) + 1)).toNatClampNeg) = 1 => ?_) (fun q7 : (μ.1 kM_put (((v4 + ((3 : Int32) * v5)) + 1)).toNatClampNeg) = 1 => ?_)
    · rw [if_neg q7] at G8
      refine m2_iconst hB dX12_takeOut_97 (v := 0) (by decide) ?_
      exact G8
    · rw [if_pos q7] at G8
      refine m2_iconst hB dX12_takeOut_93 (v := 1) (by decide) ?_
      refine m2_goto hB dX12_takeOut_94 (tgt := 98) (by decide) ?_
      exact G8
theorem dX12_putBy_0 : decode cX12_putBy 0 = .ok (.aload_n 0, 1) := by decide +kernel
theorem dX12_putBy_1 : decode cX12_putBy 1 = .ok (.iconst 3, 1) := by decide +kernel
theorem dX12_putBy_2 : decode cX12_putBy 2 = .ok (.invokevirtual 351, 3) := by decide +kernel
theorem dX12_putBy_5 : decode cX12_putBy 5 = .ok (.return_, 1) := by decide +kernel
set_option maxRecDepth 100000 in
set_option maxHeartbeats 4000000 in
theorem B_X12_putBy_0 {κ : Nat → List Value → List Value → m2M → Prop} {D : Nat} {Q : Option Value → m2M → Prop} (h : m2_RL κ cX12_putBy RX12 1 (D + 1) none Q)  {μ : m2M} (k : ∃ Q3 : Option Value → m2M → Prop, m2_MT D yX12_putIn cX12_putIn 4 none [.ref kM, .int 3] μ Q3 ∧ ∀ (μ2 : m2M), Q3 none μ2 → (Q none μ2)) : κ 0 [.ref kM] [] μ := by
  have hB := h.b
  refine m2_aload_n hB dX12_putBy_0 rfl ?_
  refine m2_iconst hB dX12_putBy_1 (v := 3) (by decide) ?_
  obtain ⟨Q3, hM4, k⟩ := k
  refine m2_invv hB (as := [.int 3]) dX12_putBy_2 mv_X12_351 rfl sh_kM rfl (Nat.le_of_ble_eq_true rfl) rfl hM4 (fun μ2 hq5 => ?_)
  replace k := k μ2 hq5
  exact m2_vret h dX12_putBy_5 k
theorem dX12_bringBack_0 : decode cX12_bringBack 0 = .ok (.aload_n 0, 1) := by decide +kernel
theorem dX12_bringBack_1 : decode cX12_bringBack 1 = .ok (.iconst 3, 1) := by decide +kernel
theorem dX12_bringBack_2 : decode cX12_bringBack 2 = .ok (.aload_n 0, 1) := by decide +kernel
theorem dX12_bringBack_3 : decode cX12_bringBack 3 = .ok (.getfield 153, 3) := by decide +kernel
theorem dX12_bringBack_6 : decode cX12_bringBack 6 = .ok (.aload_n 0, 1) := by decide +kernel
theorem dX12_bringBack_7 : decode cX12_bringBack 7 = .ok (.getfield 156, 3) := by decide +kernel
theorem dX12_bringBack_10 : decode cX12_bringBack 10 = .ok (.invokevirtual 354, 3) := by decide +kernel
theorem dX12_bringBack_13 : decode cX12_bringBack 13 = .ok (.return_, 1) := by decide +kernel
set_option maxRecDepth 100000 in
set_option maxHeartbeats 4000000 in
theorem B_X12_bringBack_0 {κ : Nat → List Value → List Value → m2M → Prop} {D : Nat} {Q : Option Value → m2M → Prop} (h : m2_RL κ cX12_bringBack RX12 1 (D + 1) none Q)  {μ : m2M} (k : ∃ Q3 : Option Value → m2M → Prop, m2_MT D yX12_takeOut cX12_takeOut 6 none [.ref kM, .int 3, .int (μ.1 kM 0), .int (μ.1 kM 7)] μ Q3 ∧ ∀ (μ2 : m2M), Q3 none μ2 → (Q none μ2)) : κ 0 [.ref kM] [] μ := by
  have hB := h.b
  refine m2_aload_n hB dX12_bringBack_0 rfl ?_
  refine m2_iconst hB dX12_bringBack_1 (v := 3) (by decide) ?_
  refine m2_aload_n hB dX12_bringBack_2 rfl ?_
  refine m2_getI hB dX12_bringBack_3 fl_X12_153 sh_kM rfl ?_
  refine m2_aload_n hB dX12_bringBack_6 rfl ?_
  refine m2_getI hB dX12_bringBack_7 fl_X12_156 sh_kM rfl ?_
  obtain ⟨Q3, hM4, k⟩ := k
  refine m2_invv hB (as := [.int 3, .int (μ.1 kM 0), .int (μ.1 kM 7)]) dX12_bringBack_10 mv_X12_354 rfl sh_kM rfl (Nat.le_of_ble_eq_true rfl) rfl hM4 (fun μ2 hq5 => ?_)
  replace k := k μ2 hq5
  exact m2_vret h dX12_bringBack_13 k
