theorem dX12_fro_0 : decode cX12_fro 0 = .ok (.aload_n 0, 1) := by decide +kernel
theorem dX12_fro_1 : decode cX12_fro 1 = .ok (.iconst 0, 1) := by decide +kernel
theorem dX12_fro_2 : decode cX12_fro 2 = .ok (.putfield 143, 3) := by decide +kernel
theorem dX12_fro_5 : decode cX12_fro 5 = .ok (.aload_n 0, 1) := by decide +kernel
theorem dX12_fro_6 : decode cX12_fro 6 = .ok (.iload_n 1, 1) := by decide +kernel
theorem dX12_fro_7 : decode cX12_fro 7 = .ok (.invokevirtual 295, 3) := by decide +kernel
theorem dX12_fro_10 : decode cX12_fro 10 = .ok (.ifCond .eq 20, 3) := by decide +kernel
theorem dX12_fro_13 : decode cX12_fro 13 = .ok (.iload_n 2, 1) := by decide +kernel
theorem dX12_fro_14 : decode cX12_fro 14 = .ok (.invokestatic 302, 3) := by decide +kernel
theorem dX12_fro_17 : decode cX12_fro 17 = .ok (.ifCond .eq 13, 3) := by decide +kernel
theorem dX12_fro_20 : decode cX12_fro 20 = .ok (.aload_n 0, 1) := by decide +kernel
theorem dX12_fro_21 : decode cX12_fro 21 = .ok (.getfield 29, 3) := by decide +kernel
theorem dX12_fro_24 : decode cX12_fro 24 = .ok (.iload_n 1, 1) := by decide +kernel
theorem dX12_fro_25 : decode cX12_fro 25 = .ok (.iaload, 1) := by decide +kernel
theorem dX12_fro_26 : decode cX12_fro 26 = .ok (.iload_n 2, 1) := by decide +kernel
theorem dX12_fro_27 : decode cX12_fro 27 = .ok (.if_icmp .ne 5, 3) := by decide +kernel
theorem dX12_fro_30 : decode cX12_fro 30 = .ok (.iconst (-1), 1) := by decide +kernel
theorem dX12_fro_31 : decode cX12_fro 31 = .ok (.ireturn, 1) := by decide +kernel
theorem dX12_fro_32 : decode cX12_fro 32 = .ok (.aload_n 0, 1) := by decide +kernel
theorem dX12_fro_33 : decode cX12_fro 33 = .ok (.getfield 29, 3) := by decide +kernel
theorem dX12_fro_36 : decode cX12_fro 36 = .ok (.iload_n 1, 1) := by decide +kernel
theorem dX12_fro_37 : decode cX12_fro 37 = .ok (.iaload, 1) := by decide +kernel
theorem dX12_fro_38 : decode cX12_fro 38 = .ok (.istore_n 3, 1) := by decide +kernel
theorem dX12_fro_39 : decode cX12_fro 39 = .ok (.iconst 0, 1) := by decide +kernel
theorem dX12_fro_40 : decode cX12_fro 40 = .ok (.istore 4, 2) := by decide +kernel
theorem dX12_fro_42 : decode cX12_fro 42 = .ok (.iconst 0, 1) := by decide +kernel
theorem dX12_fro_43 : decode cX12_fro 43 = .ok (.istore 5, 2) := by decide +kernel
theorem dX12_fro_45 : decode cX12_fro 45 = .ok (.iconst 0, 1) := by decide +kernel
theorem dX12_fro_46 : decode cX12_fro 46 = .ok (.istore 6, 2) := by decide +kernel
theorem dX12_fro_48 : decode cX12_fro 48 = .ok (.aload_n 0, 1) := by decide +kernel
theorem dX12_fro_49 : decode cX12_fro 49 = .ok (.invokevirtual 342, 3) := by decide +kernel
theorem dX12_fro_52 : decode cX12_fro 52 = .ok (.iload 4, 2) := by decide +kernel
theorem dX12_fro_54 : decode cX12_fro 54 = .ok (.bipush 99, 2) := by decide +kernel
theorem dX12_fro_56 : decode cX12_fro 56 = .ok (.if_icmp .ge 53, 3) := by decide +kernel
theorem dX12_fro_59 : decode cX12_fro 59 = .ok (.aload_n 0, 1) := by decide +kernel
theorem dX12_fro_60 : decode cX12_fro 60 = .ok (.iload_n 3, 1) := by decide +kernel
theorem dX12_fro_61 : decode cX12_fro 61 = .ok (.iload_n 2, 1) := by decide +kernel
theorem dX12_fro_62 : decode cX12_fro 62 = .ok (.invokevirtual 305, 3) := by decide +kernel
theorem dX12_fro_65 : decode cX12_fro 65 = .ok (.ifCond .eq 44, 3) := by decide +kernel
theorem dX12_fro_68 : decode cX12_fro 68 = .ok (.iload 5, 2) := by decide +kernel
theorem dX12_fro_70 : decode cX12_fro 70 = .ok (.aload_n 0, 1) := by decide +kernel
theorem dX12_fro_71 : decode cX12_fro 71 = .ok (.iload_n 1, 1) := by decide +kernel
theorem dX12_fro_72 : decode cX12_fro 72 = .ok (.invokevirtual 358, 3) := by decide +kernel
theorem dX12_fro_75 : decode cX12_fro 75 = .ok (.iadd, 1) := by decide +kernel
theorem dX12_fro_76 : decode cX12_fro 76 = .ok (.istore 5, 2) := by decide +kernel
theorem dX12_fro_78 : decode cX12_fro 78 = .ok (.aload_n 0, 1) := by decide +kernel
theorem dX12_fro_79 : decode cX12_fro 79 = .ok (.iload_n 2, 1) := by decide +kernel
theorem dX12_fro_80 : decode cX12_fro 80 = .ok (.iload_n 3, 1) := by decide +kernel
theorem dX12_fro_81 : decode cX12_fro 81 = .ok (.invokevirtual 305, 3) := by decide +kernel
theorem dX12_fro_84 : decode cX12_fro 84 = .ok (.ifCond .ne 9, 3) := by decide +kernel
theorem dX12_fro_87 : decode cX12_fro 87 = .ok (.iconst 1, 1) := by decide +kernel
theorem dX12_fro_88 : decode cX12_fro 88 = .ok (.istore 6, 2) := by decide +kernel
theorem dX12_fro_90 : decode cX12_fro 90 = .ok (.goto 19, 3) := by decide +kernel
theorem dX12_fro_93 : decode cX12_fro 93 = .ok (.iload 5, 2) := by decide +kernel
theorem dX12_fro_95 : decode cX12_fro 95 = .ok (.aload_n 0, 1) := by decide +kernel
theorem dX12_fro_96 : decode cX12_fro 96 = .ok (.iload_n 1, 1) := by decide +kernel
theorem dX12_fro_97 : decode cX12_fro 97 = .ok (.invokevirtual 358, 3) := by decide +kernel
theorem dX12_fro_100 : decode cX12_fro 100 = .ok (.iadd, 1) := by decide +kernel
theorem dX12_fro_101 : decode cX12_fro 101 = .ok (.istore 5, 2) := by decide +kernel
theorem dX12_fro_103 : decode cX12_fro 103 = .ok (.iinc 4 1, 3) := by decide +kernel
theorem dX12_fro_106 : decode cX12_fro 106 = .ok (.goto (-54), 3) := by decide +kernel
theorem dX12_fro_109 : decode cX12_fro 109 = .ok (.aload_n 0, 1) := by decide +kernel
theorem dX12_fro_110 : decode cX12_fro 110 = .ok (.invokevirtual 348, 3) := by decide +kernel
theorem dX12_fro_113 : decode cX12_fro 113 = .ok (.aload_n 0, 1) := by decide +kernel
theorem dX12_fro_114 : decode cX12_fro 114 = .ok (.iconst 0, 1) := by decide +kernel
theorem dX12_fro_115 : decode cX12_fro 115 = .ok (.putfield 146, 3) := by decide +kernel
theorem dX12_fro_118 : decode cX12_fro 118 = .ok (.aload_n 0, 1) := by decide +kernel
theorem dX12_fro_119 : decode cX12_fro 119 = .ok (.iload 6, 2) := by decide +kernel
theorem dX12_fro_121 : decode cX12_fro 121 = .ok (.ifCond .eq 7, 3) := by decide +kernel
theorem dX12_fro_124 : decode cX12_fro 124 = .ok (.lconst 1, 1) := by decide +kernel
theorem dX12_fro_125 : decode cX12_fro 125 = .ok (.goto 4, 3) := by decide +kernel
theorem dX12_fro_128 : decode cX12_fro 128 = .ok (.lconst 0, 1) := by decide +kernel
theorem dX12_fro_129 : decode cX12_fro 129 = .ok (.invokevirtual 278, 3) := by decide +kernel
theorem dX12_fro_132 : decode cX12_fro 132 = .ok (.aload_n 0, 1) := by decide +kernel
theorem dX12_fro_133 : decode cX12_fro 133 = .ok (.iload 5, 2) := by decide +kernel
theorem dX12_fro_135 : decode cX12_fro 135 = .ok (.i2l, 1) := by decide +kernel
theorem dX12_fro_136 : decode cX12_fro 136 = .ok (.invokevirtual 278, 3) := by decide +kernel
theorem dX12_fro_139 : decode cX12_fro 139 = .ok (.iload 4, 2) := by decide +kernel
theorem dX12_fro_141 : decode cX12_fro 141 = .ok (.ireturn, 1) := by decide +kernel
set_option maxRecDepth 100000 in
set_option maxHeartbeats 4000000 in
theorem B_X12_fro_0 {κ : Nat → List Value → List Value → m2M → Prop} {D : Nat} {Q : Option Value → m2M → Prop} (h : m2_RL κ cX12_fro RX12 7 (D + 1) (some .int) Q) (hD : 1 ≤ D) {x1 : Int32} {x2 : Int32} {μ : m2M} (k : ((fX12_isOne x1 (m2_si μ kM 22 0)) = 1 → ((fX12_isRoom x2) = 1 → (vp_in x1 8) ∧ ((¬ (μ.1 kM_where (x1).toNatClampNeg) = x2 → ∃ Q14 : Option Value → m2M → Prop, m2_MT D yX12_putBy cX12_putBy 1 none [.ref kM] (m2_si μ kM 22 0) Q14 ∧ ∀ (μ13 : m2M), Q14 none μ13 → (κ 52 [.ref kM, .int x1, .int x2, .int (μ.1 kM_where (x1).toNatClampNeg), .int 0, .int 0, .int 0] [] μ13)) ∧ ((μ.1 kM_where (x1).toNatClampNeg) = x2 → κ 30 [.ref kM, .int x1, .int x2, .null, .null, .null, .null] [] (m2_si μ kM 22 0)))) ∧ (¬ (fX12_isRoom x2) = 1 → κ 30 [.ref kM, .int x1, .int x2, .null, .null, .null, .null] [] (m2_si μ kM 22 0))) ∧ (¬ (fX12_isOne x1 (m2_si μ kM 22 0)) = 1 → κ 30 [.ref kM, .int x1, .int x2, .null, .null, .null, .null] [] (m2_si μ kM 22 0))) : κ 0 [.ref kM, .int x1, .int x2, .null, .null, .null, .null] [] μ := by
  have hB := h.b
  refine m2_aload_n hB dX12_fro_0 rfl ?_
  refine m2_iconst hB dX12_fro_1 (v := 0) (by decide) ?_
  refine m2_putI hB dX12_fro_2 fl_X12_143 sh_kM rfl ?_
  refine m2_aload_n hB dX12_fro_5 rfl ?_
  refine m2_iload_n hB dX12_fro_6 rfl ?_
  refine m2_invz hB (as := [.int x1]) dX12_fro_7 mv_X12_295 rfl sh_kM rfl (Nat.le_of_ble_eq_true rfl) rfl (P_X12_isOne (by omega) (x1) _ ) (fun y1 μ2 hq3 => ?_)
  obtain ⟨⟨⟩, hq3⟩ := hq3
  subst μ2
  show κ 10 [.ref kM, .int x1, .int x2, .null, .null, .null, .null] [.int (if (fX12_isOne x1 (m2_si μ kM 22 0)) = 1 then 1 else 0 : Int32)] (m2_si μ kM 22 0)
  by_cases q4 : (fX12_isOne x1 (m2_si μ kM 22 0)) = 1
  · rw [if_pos q4]
    replace k := k.1 q4
    refine m2_if_eq hB dX12_fro_10 (tgt := 30) (by decide) (fun q => absurd q (by decide)) (fun _ => ?_)
    refine m2_iload_n hB dX12_fro_13 rfl ?_
    refine m2_invSz hB (as := [.int x2]) dX12_fro_14 ms_X12_302 rfl (Nat.le_of_ble_eq_true rfl) rfl (P_X12_isRoom (by omega) (x2) _ ) (fun y5 μ6 hq7 => ?_)
    obtain ⟨⟨⟩, hq7⟩ := hq7
    subst μ6
    show κ 17 [.ref kM, .int x1, .int x2, .null, .null, .null, .null] [.int (if (fX12_isRoom x2) = 1 then 1 else 0 : Int32)] (m2_si μ kM 22 0)
    by_cases q8 : (fX12_isRoom x2) = 1
    · rw [if_pos q8]
      replace k := k.1 q8
      refine m2_if_eq hB dX12_fro_17 (tgt := 30) (by decide) (fun q => absurd q (by decide)) (fun _ => ?_)
      refine m2_aload_n hB dX12_fro_20 rfl ?_
      refine m2_getR hB dX12_fro_21 fl_X12_29 sh_kM (c1 := kM_where) rfl ?_
      refine m2_iload_n hB dX12_fro_24 rfl ?_
      obtain ⟨hi9, k⟩ := k
      refine m2_iald hB dX12_fro_25 sh_kM_where hi9 ?_
      refine m2_iload_n hB dX12_fro_26 rfl ?_
      refine m2_icmp_ne hB dX12_fro_27 (tgt := 32) (by decide) (fun q10 : ¬ (μ.1 kM_where (x1).toNatClampNeg) = x2 => ?_) (fun q10 : (μ.1 kM_where (x1).toNatClampNeg) = x2 => ?_)
      · replace k := k.1 q10
        refine m2_aload_n hB dX12_fro_32 rfl ?_
        refine m2_getR hB dX12_fro_33 fl_X12_29 sh_kM (c1 := kM_where) rfl ?_
        refine m2_iload_n hB dX12_fro_36 rfl ?_
        have hi11 := hi9
        refine m2_iald hB dX12_fro_37 sh_kM_where hi11 ?_
        refine m2_istore_n hB (ls' := [.ref kM, .int x1, .int x2, .int (μ.1 kM_where (x1).toNatClampNeg), .null, .null, .null]) dX12_fro_38 rfl (by decide) rfl ?_
        refine m2_iconst hB dX12_fro_39 (v := 0) (by decide) ?_
        refine m2_istore hB (ls' := [.ref kM, .int x1, .int x2, .int (μ.1 kM_where (x1).toNatClampNeg), .int 0, .null, .null]) dX12_fro_40 (by decide) rfl ?_
        refine m2_iconst hB dX12_fro_42 (v := 0) (by decide) ?_
        refine m2_istore hB (ls' := [.ref kM, .int x1, .int x2, .int (μ.1 kM_where (x1).toNatClampNeg), .int 0, .int 0, .null]) dX12_fro_43 (by decide) rfl ?_
        refine m2_iconst hB dX12_fro_45 (v := 0) (by decide) ?_
        refine m2_istore hB (ls' := [.ref kM, .int x1, .int x2, .int (μ.1 kM_where (x1).toNatClampNeg), .int 0, .int 0, .int 0]) dX12_fro_46 (by decide) rfl ?_
        refine m2_aload_n hB dX12_fro_48 rfl ?_
        obtain ⟨Q14, hM15, k⟩ := k
        refine m2_invv hB (as := []) dX12_fro_49 mv_X12_342 rfl sh_kM rfl (Nat.le_of_ble_eq_true rfl) rfl hM15 (fun μ13 hq16 => ?_)
        replace k := k μ13 hq16
        exact k
      · replace k := k.2 q10
        exact k
    · rw [if_neg q8]
      replace k := k.2 q8
      refine m2_if_eq hB dX12_fro_17 (tgt := 30) (by decide) (fun _ => ?_) (fun q => absurd q (by decide))
      exact k
  · rw [if_neg q4]
    replace k := k.2 q4
    refine m2_if_eq hB dX12_fro_10 (tgt := 30) (by decide) (fun _ => ?_) (fun q => absurd q (by decide))
    exact k
set_option maxRecDepth 100000 in
set_option maxHeartbeats 4000000 in
theorem B_X12_fro_30 {κ : Nat → List Value → List Value → m2M → Prop} {D : Nat} {Q : Option Value → m2M → Prop} (h : m2_RL κ cX12_fro RX12 7 D (some .int) Q) {v1 : Int32} {v2 : Int32} {μ : m2M} (k : Q (some (.int (-1))) μ) : κ 30 [.ref kM, .int v1, .int v2, .null, .null, .null, .null] [] μ := by
  have hB := h.b
  refine m2_iconst hB dX12_fro_30 (v := (-1)) (by decide) ?_
  exact m2_iret h dX12_fro_31 k
set_option maxRecDepth 100000 in
set_option maxHeartbeats 4000000 in
theorem B_X12_fro_52 {κ : Nat → List Value → List Value → m2M → Prop} {D : Nat} {Q : Option Value → m2M → Prop} (h : m2_RL κ cX12_fro RX12 7 (D + 1) (some .int) Q) {v1 : Int32} {v2 : Int32} {v3 : Int32} {v4 : Int32} {v5 : Int32} {v6 : Int32} {μ : m2M} (k : (99 ≤ v4 → κ 109 [.ref kM, .int v1, .int v2, .int v3, .int v4, .int v5, .int v6] [] μ) ∧ (¬ 99 ≤ v4 → ∃ Q4 : Option Value → m2M → Prop, m2_MT D yX12_findOpenWay cX12_findOpenWay 4 (some .boolean) [.ref kM, .int v3, .int v2] μ Q4 ∧ ∀ (y2 : Int32) (μ3 : m2M), Q4 (some (.int y2)) μ3 → ((y2 = 0 → κ 109 [.ref kM, .int v1, .int v2, .int v3, .int v4, .int v5, .int v6] [] μ3) ∧ (¬ y2 = 0 → ∃ Q10 : Option Value → m2M → Prop, m2_MT D yX12_spend cX12_spend 3 (some .int) [.ref kM, .int v1] μ3 Q10 ∧ ∀ (y8 : Int32) (μ9 : m2M), Q10 (some (.int y8)) μ9 → (∃ Q15 : Option Value → m2M → Prop, m2_MT D yX12_findOpenWay cX12_findOpenWay 4 (some .boolean) [.ref kM, .int v2, .int v3] μ9 Q15 ∧ ∀ (y13 : Int32) (μ14 : m2M), Q15 (some (.int y13)) μ14 → ((¬ y13 = 0 → ∃ Q21 : Option Value → m2M → Prop, m2_MT D yX12_spend cX12_spend 3 (some .int) [.ref kM, .int v1] μ14 Q21 ∧ ∀ (y19 : Int32) (μ20 : m2M), Q21 (some (.int y19)) μ20 → (κ 52 [.ref kM, .int v1, .int v2, .int v3, .int (v4 + 1), .int ((v5 + y8) + y19), .int v6] [] μ20)) ∧ (y13 = 0 → κ 109 [.ref kM, .int v1, .int v2, .int v3, .int v4, .int (v5 + y8), .int 1] [] μ14))))))) : κ 52 [.ref kM, .int v1, .int v2, .int v3, .int v4, .int v5, .int v6] [] μ := by
  have hB := h.b
  refine m2_iload hB dX12_fro_52 rfl ?_
  refine m2_bipush hB dX12_fro_54 (v := 99) (by decide) ?_
  refine m2_icmp_ge hB dX12_fro_56 (tgt := 109) (by decide) (fun q1 : 99 ≤ v4 => ?_) (fun q1 : ¬ 99 ≤ v4 => ?_)
  · replace k := k.1 q1
    exact k
  · replace k := k.2 q1
    refine m2_aload_n hB dX12_fro_59 rfl ?_
    refine m2_iload_n hB dX12_fro_60 rfl ?_
    refine m2_iload_n hB dX12_fro_61 rfl ?_
    obtain ⟨Q4, hM5, k⟩ := k
    refine m2_invz hB (as := [.int v3, .int v2]) dX12_fro_62 mv_X12_305 rfl sh_kM rfl (Nat.le_of_ble_eq_true rfl) rfl hM5 (fun y2 μ3 hq6 => ?_)
    replace k := k y2 μ3 hq6
    refine m2_if_eq hB dX12_fro_65 (tgt := 109) (by decide) (fun q7 : y2 = 0 => ?_) (fun q7 : ¬ y2 = 0 => ?_)
    · replace k := k.1 q7
      exact k
    · replace k := k.2 q7
      refine m2_iload hB dX12_fro_68 rfl ?_
      refine m2_aload_n hB dX12_fro_70 rfl ?_
      refine m2_iload_n hB dX12_fro_71 rfl ?_
      obtain ⟨Q10, hM11, k⟩ := k
      refine m2_invi hB (as := [.int v1]) dX12_fro_72 mv_X12_358 rfl sh_kM rfl (Nat.le_of_ble_eq_true rfl) rfl hM11 (fun y8 μ9 hq12 => ?_)
      replace k := k y8 μ9 hq12
      refine m2_iadd hB dX12_fro_75 ?_
      refine m2_istore hB (ls' := [.ref kM, .int v1, .int v2, .int v3, .int v4, .int (v5 + y8), .int v6]) dX12_fro_76 (by decide) rfl ?_
      refine m2_aload_n hB dX12_fro_78 rfl ?_
      refine m2_iload_n hB dX12_fro_79 rfl ?_
      refine m2_iload_n hB dX12_fro_80 rfl ?_
      obtain ⟨Q15, hM16, k⟩ := k
      refine m2_invz hB (as := [.int v2, .int v3]) dX12_fro_81 mv_X12_305 rfl sh_kM rfl (Nat.le_of_ble_eq_true rfl) rfl hM16 (fun y13 μ14 hq17 => ?_)
      replace k := k y13 μ14 hq17
      refine m2_if_ne hB dX12_fro_84 (tgt := 93) (by decide) (fun q18 : ¬ y13 = 0 => ?_) (fun q18 : y13 = 0 => ?_)
      · replace k := k.1 q18
        refine m2_iload hB dX12_fro_93 rfl ?_
        refine m2_aload_n hB dX12_fro_95 rfl ?_
        refine m2_iload_n hB dX12_fro_96 rfl ?_
        obtain ⟨Q21, hM22, k⟩ := k
        refine m2_invi hB (as := [.int v1]) dX12_fro_97 mv_X12_358 rfl sh_kM rfl (Nat.le_of_ble_eq_true rfl) rfl hM22 (fun y19 μ20 hq23 => ?_)
        replace k := k y19 μ20 hq23
        refine m2_iadd hB dX12_fro_100 ?_
        refine m2_istore hB (ls' := [.ref kM, .int v1, .int v2, .int v3, .int v4, .int ((v5 + y8) + y19), .int v6]) dX12_fro_101 (by decide) rfl ?_
        refine m2_iinc hB (ls' := [.ref kM, .int v1, .int v2, .int v3, .int (v4 + 1), .int ((v5 + y8) + y19), .int v6]) (v := (v4 + 1)) dX12_fro_103 rfl (by decide) rfl rfl ?_
        refine m2_goto hB dX12_fro_106 (tgt := 52) (by decide) ?_
        exact k
      · replace k := k.2 q18
        refine m2_iconst hB dX12_fro_87 (v := 1) (by decide) ?_
        refine m2_istore hB (ls' := [.ref kM, .int v1, .int v2, .int v3, .int v4, .int (v5 + y8), .int 1]) dX12_fro_88 (by decide) rfl ?_
        refine m2_goto hB dX12_fro_90 (tgt := 109) (by decide) ?_
        exact k
set_option maxRecDepth 100000 in
set_option maxHeartbeats 4000000 in
theorem B_X12_fro_109 {κ : Nat → List Value → List Value → m2M → Prop} {D : Nat} {Q : Option Value → m2M → Prop} (h : m2_RL κ cX12_fro RX12 7 (D + 1) (some .int) Q) {v1 : Int32} {v2 : Int32} {v3 : Int32} {v4 : Int32} {v5 : Int32} {v6 : Int32} {μ : m2M} (k : ∃ Q3 : Option Value → m2M → Prop, m2_MT D yX12_bringBack cX12_bringBack 1 none [.ref kM] μ Q3 ∧ ∀ (μ2 : m2M), Q3 none μ2 → ((v6 = 0 → ∃ Q9 : Option Value → m2M → Prop, m2_MT D yX12_tell cX12_tell 3 none [.ref kM, .long 0] (m2_si μ2 kM 21 0) Q9 ∧ ∀ (μ8 : m2M), Q9 none μ8 → (∃ Q14 : Option Value → m2M → Prop, m2_MT D yX12_tell cX12_tell 3 none [.ref kM, .long (v5).toInt64] μ8 Q14 ∧ ∀ (μ13 : m2M), Q14 none μ13 → (Q (some (.int v4)) μ13))) ∧ (¬ v6 = 0 → ∃ Q19 : Option Value → m2M → Prop, m2_MT D yX12_tell cX12_tell 3 none [.ref kM, .long 1] (m2_si μ2 kM 21 0) Q19 ∧ ∀ (μ18 : m2M), Q19 none μ18 → (∃ Q24 : Option Value → m2M → Prop, m2_MT D yX12_tell cX12_tell 3 none [.ref kM, .long (v5).toInt64] μ18 Q24 ∧ ∀ (μ23 : m2M), Q24 none μ23 → (Q (some (.int v4)) μ23))))) : κ 109 [.ref kM, .int v1, .int v2, .int v3, .int v4, .int v5, .int v6] [] μ := by
  have hB := h.b
  refine m2_aload_n hB dX12_fro_109 rfl ?_
  obtain ⟨Q3, hM4, k⟩ := k
  refine m2_invv hB (as := []) dX12_fro_110 mv_X12_348 rfl sh_kM rfl (Nat.le_of_ble_eq_true rfl) rfl hM4 (fun μ2 hq5 => ?_)
  replace k := k μ2 hq5
  refine m2_aload_n hB dX12_fro_113 rfl ?_
  refine m2_iconst hB dX12_fro_114 (v := 0) (by decide) ?_
  refine m2_putI hB dX12_fro_115 fl_X12_146 sh_kM rfl ?_
  refine m2_aload_n hB dX12_fro_118 rfl ?_
  refine m2_iload hB dX12_fro_119 rfl ?_
  refine m2_if_eq hB dX12_fro_121 (tgt := 128) (by decide) (fun q6 : v6 = 0 => ?_) (fun q6 : ¬ v6 = 0 => ?_)
  · replace k := k.1 q6
    refine m2_lconst hB dX12_fro_128 (v := 0) (by decide) ?_
    obtain ⟨Q9, hM10, k⟩ := k
    refine m2_invv hB (as := [.long 0]) dX12_fro_129 mv_X12_278 rfl sh_kM rfl (Nat.le_of_ble_eq_true rfl) rfl hM10 (fun μ8 hq11 => ?_)
    replace k := k μ8 hq11
    refine m2_aload_n hB dX12_fro_132 rfl ?_
    refine m2_iload hB dX12_fro_133 rfl ?_
    refine m2_i2l hB dX12_fro_135 ?_
    obtain ⟨Q14, hM15, k⟩ := k
    refine m2_invv hB (as := [.long (v5).toInt64]) dX12_fro_136 mv_X12_278 rfl sh_kM rfl (Nat.le_of_ble_eq_true rfl) rfl hM15 (fun μ13 hq16 => ?_)
    replace k := k μ13 hq16
    refine m2_iload hB dX12_fro_139 rfl ?_
    exact m2_iret h dX12_fro_141 k
  · replace k := k.2 q6
    refine m2_lconst hB dX12_fro_124 (v := 1) (by decide) ?_
    refine m2_goto hB dX12_fro_125 (tgt := 129) (by decide) ?_
    obtain ⟨Q19, hM20, k⟩ := k
    refine m2_invv hB (as := [.long 1]) dX12_fro_129 mv_X12_278 rfl sh_kM rfl (Nat.le_of_ble_eq_true rfl) rfl hM20 (fun μ18 hq21 => ?_)
    replace k := k μ18 hq21
    refine m2_aload_n hB dX12_fro_132 rfl ?_
    refine m2_iload hB dX12_fro_133 rfl ?_
    refine m2_i2l hB dX12_fro_135 ?_
    obtain ⟨Q24, hM25, k⟩ := k
    refine m2_invv hB (as := [.long (v5).toInt64]) dX12_fro_136 mv_X12_278 rfl sh_kM rfl (Nat.le_of_ble_eq_true rfl) rfl hM25 (fun μ23 hq26 => ?_)
    replace k := k μ23 hq26
    refine m2_iload hB dX12_fro_139 rfl ?_
    exact m2_iret h dX12_fro_141 k
theorem dX12_spend_0 : decode cX12_spend 0 = .ok (.iconst 0, 1) := by decide +kernel
theorem dX12_spend_1 : decode cX12_spend 1 = .ok (.istore_n 2, 1) := by decide +kernel
theorem dX12_spend_2 : decode cX12_spend 2 = .ok (.iload_n 2, 1) := by decide +kernel
theorem dX12_spend_3 : decode cX12_spend 3 = .ok (.aload_n 0, 1) := by decide +kernel
theorem dX12_spend_4 : decode cX12_spend 4 = .ok (.getfield 248, 3) := by decide +kernel
theorem dX12_spend_7 : decode cX12_spend 7 = .ok (.if_icmp .ge 33, 3) := by decide +kernel
theorem dX12_spend_10 : decode cX12_spend 10 = .ok (.aload_n 0, 1) := by decide +kernel
theorem dX12_spend_11 : decode cX12_spend 11 = .ok (.getfield 35, 3) := by decide +kernel
theorem dX12_spend_14 : decode cX12_spend 14 = .ok (.iload_n 1, 1) := by decide +kernel
theorem dX12_spend_15 : decode cX12_spend 15 = .ok (.baload, 1) := by decide +kernel
theorem dX12_spend_16 : decode cX12_spend 16 = .ok (.ifCond .ne 24, 3) := by decide +kernel
theorem dX12_spend_19 : decode cX12_spend 19 = .ok (.aload_n 0, 1) := by decide +kernel
theorem dX12_spend_20 : decode cX12_spend 20 = .ok (.getfield 23, 3) := by decide +kernel
theorem dX12_spend_23 : decode cX12_spend 23 = .ok (.aload_n 0, 1) := by decide +kernel
theorem dX12_spend_24 : decode cX12_spend 24 = .ok (.getfield 83, 3) := by decide +kernel
theorem dX12_spend_27 : decode cX12_spend 27 = .ok (.iload_n 2, 1) := by decide +kernel
theorem dX12_spend_28 : decode cX12_spend 28 = .ok (.iaload, 1) := by decide +kernel
theorem dX12_spend_29 : decode cX12_spend 29 = .ok (.dup2, 1) := by decide +kernel
theorem dX12_spend_30 : decode cX12_spend 30 = .ok (.iaload, 1) := by decide +kernel
theorem dX12_spend_31 : decode cX12_spend 31 = .ok (.iconst 1, 1) := by decide +kernel
theorem dX12_spend_32 : decode cX12_spend 32 = .ok (.isub, 1) := by decide +kernel
theorem dX12_spend_33 : decode cX12_spend 33 = .ok (.iastore, 1) := by decide +kernel
theorem dX12_spend_34 : decode cX12_spend 34 = .ok (.iinc 2 1, 3) := by decide +kernel
theorem dX12_spend_37 : decode cX12_spend 37 = .ok (.goto (-35), 3) := by decide +kernel
theorem dX12_spend_40 : decode cX12_spend 40 = .ok (.aload_n 0, 1) := by decide +kernel
theorem dX12_spend_41 : decode cX12_spend 41 = .ok (.getfield 248, 3) := by decide +kernel
theorem dX12_spend_44 : decode cX12_spend 44 = .ok (.ireturn, 1) := by decide +kernel
set_option maxRecDepth 100000 in
set_option maxHeartbeats 4000000 in
theorem B_X12_spend_0 {κ : Nat → List Value → List Value → m2M → Prop} {D : Nat} {Q : Option Value → m2M → Prop} (h : m2_RL κ cX12_spend RX12 3 D (some .int) Q) {x1 : Int32} {μ : m2M} (k : κ 2 [.ref kM, .int x1, .int 0] [] μ) : κ 0 [.ref kM, .int x1, .null] [] μ := by
  have hB := h.b
  refine m2_iconst hB dX12_spend_0 (v := 0) (by decide) ?_
  refine m2_istore_n hB (ls' := [.ref kM, .int x1, .int 0]) dX12_spend_1 rfl (by decide) rfl ?_
  exact k
set_option maxRecDepth 100000 in
set_option maxHeartbeats 4000000 in
theorem B_X12_spend_2 {κ : Nat → List Value → List Value → m2M → Prop} {D : Nat} {Q : Option Value → m2M → Prop} (h : m2_RL κ cX12_spend RX12 3 D (some .int) Q) {v1 : Int32} {v2 : Int32} {μ : m2M} (k : ((μ.1 kM 37) ≤ v2 → Q (some (.int (μ.1 kM 37))) μ) ∧ (¬ (μ.1 kM 37) ≤ v2 → (vp_in v1 8) ∧ ((¬ (μ.1 kM_isStranger (v1).toNatClampNeg) = 0 → Q (some (.int (μ.1 kM 37))) μ) ∧ ((μ.1 kM_isStranger (v1).toNatClampNeg) = 0 → (vp_in v2 12) ∧ ((vp_in (μ.1 kM_way (v2).toNatClampNeg) 20) ∧ (κ 2 [.ref kM, .int v1, .int (v2 + 1)] [] (m2_si μ kM_left ((μ.1 kM_way (v2).toNatClampNeg)).toNatClampNeg ((μ.1 kM_left ((μ.1 kM_way (v2).toNatClampNeg)).toNatClampNeg) - 1)))))))) : κ 2 [.ref kM, .int v1, .int v2] [] μ := by
  have hB := h.b
  refine m2_iload_n hB dX12_spend_2 rfl ?_
  refine m2_aload_n hB dX12_spend_3 rfl ?_
  refine m2_getI hB dX12_spend_4 fl_X12_248 sh_kM rfl ?_
  refine m2_icmp_ge hB dX12_spend_7 (tgt := 40) (by decide) (fun q2 : (μ.1 kM 37) ≤ v2 => ?_) (fun q2 : ¬ (μ.1 kM 37) ≤ v2 => ?_)
  · replace k := k.1 q2
    refine m2_aload_n hB dX12_spend_40 rfl ?_
    refine m2_getI hB dX12_spend_41 fl_X12_248 sh_kM rfl ?_
    exact m2_iret h dX12_spend_44 k
  · replace k := k.2 q2
    refine m2_aload_n hB dX12_spend_10 rfl ?_
    refine m2_getR hB dX12_spend_11 fl_X12_35 sh_kM (c1 := kM_isStranger) rfl ?_
    refine m2_iload_n hB dX12_spend_14 rfl ?_
    obtain ⟨hi3, k⟩ := k
    refine m2_zald hB dX12_spend_15 sh_kM_isStranger hi3 ?_
    refine m2_if_ne hB dX12_spend_16 (tgt := 40) (by decide) (fun q5 : ¬ (μ.1 kM_isStranger (v1).toNatClampNeg) = 0 => ?_) (fun q5 : (μ.1 kM_isStranger (v1).toNatClampNeg) = 0 => ?_)
    · replace k := k.1 q5
      refine m2_aload_n hB dX12_spend_40 rfl ?_
      refine m2_getI hB dX12_spend_41 fl_X12_248 sh_kM rfl ?_
      exact m2_iret h dX12_spend_44 k
    · replace k := k.2 q5
      refine m2_aload_n hB dX12_spend_19 rfl ?_
      refine m2_getR hB dX12_spend_20 fl_X12_23 sh_kM (c1 := kM_left) rfl ?_
      refine m2_aload_n hB dX12_spend_23 rfl ?_
      refine m2_getR hB dX12_spend_24 fl_X12_83 sh_kM (c1 := kM_way) rfl ?_
      refine m2_iload_n hB dX12_spend_27 rfl ?_
      obtain ⟨hi6, k⟩ := k
      refine m2_iald hB dX12_spend_28 sh_kM_way hi6 ?_
      refine m2_dup2 hB dX12_spend_29 rfl rfl ?_
      obtain ⟨hi7, k⟩ := k
      refine m2_iald hB dX12_spend_30 sh_kM_left hi7 ?_
      refine m2_iconst hB dX12_spend_31 (v := 1) (by decide) ?_
      refine m2_isub hB dX12_spend_32 ?_
      have hi8 := hi7
      refine m2_iast hB dX12_spend_33 sh_kM_left hi8 ?_
      refine m2_iinc hB (ls' := [.ref kM, .int v1, .int (v2 + 1)]) (v := (v2 + 1)) dX12_spend_34 rfl (by decide) rfl rfl ?_
      refine m2_goto hB dX12_spend_37 (tgt := 2) (by decide) ?_
      exact k
theorem dX12_crowd_0 : decode cX12_crowd 0 = .ok (.aload_n 0, 1) := by decide +kernel
theorem dX12_crowd_1 : decode cX12_crowd 1 = .ok (.iconst 0, 1) := by decide +kernel
theorem dX12_crowd_2 : decode cX12_crowd 2 = .ok (.putfield 143, 3) := by decide +kernel
theorem dX12_crowd_5 : decode cX12_crowd 5 = .ok (.aload_n 0, 1) := by decide +kernel
theorem dX12_crowd_6 : decode cX12_crowd 6 = .ok (.invokevirtual 282, 3) := by decide +kernel
theorem dX12_crowd_9 : decode cX12_crowd 9 = .ok (.iconst (-1), 1) := by decide +kernel
theorem dX12_crowd_10 : decode cX12_crowd 10 = .ok (.istore_n 1, 1) := by decide +kernel
theorem dX12_crowd_11 : decode cX12_crowd 11 = .ok (.iconst 0, 1) := by decide +kernel
theorem dX12_crowd_12 : decode cX12_crowd 12 = .ok (.istore_n 2, 1) := by decide +kernel
theorem dX12_crowd_13 : decode cX12_crowd 13 = .ok (.iload_n 2, 1) := by decide +kernel
theorem dX12_crowd_14 : decode cX12_crowd 14 = .ok (.aload_n 0, 1) := by decide +kernel
theorem dX12_crowd_15 : decode cX12_crowd 15 = .ok (.getfield 153, 3) := by decide +kernel
theorem dX12_crowd_18 : decode cX12_crowd 18 = .ok (.if_icmp .ge 35, 3) := by decide +kernel
theorem dX12_crowd_21 : decode cX12_crowd 21 = .ok (.aload_n 0, 1) := by decide +kernel
theorem dX12_crowd_22 : decode cX12_crowd 22 = .ok (.getfield 71, 3) := by decide +kernel
theorem dX12_crowd_25 : decode cX12_crowd 25 = .ok (.iload_n 2, 1) := by decide +kernel
theorem dX12_crowd_26 : decode cX12_crowd 26 = .ok (.iaload, 1) := by decide +kernel
theorem dX12_crowd_27 : decode cX12_crowd 27 = .ok (.iload_n 1, 1) := by decide +kernel
theorem dX12_crowd_28 : decode cX12_crowd 28 = .ok (.iconst (-1), 1) := by decide +kernel
theorem dX12_crowd_29 : decode cX12_crowd 29 = .ok (.if_icmp .ne 7, 3) := by decide +kernel
theorem dX12_crowd_32 : decode cX12_crowd 32 = .ok (.iconst 0, 1) := by decide +kernel
theorem dX12_crowd_33 : decode cX12_crowd 33 = .ok (.goto 9, 3) := by decide +kernel
theorem dX12_crowd_36 : decode cX12_crowd 36 = .ok (.aload_n 0, 1) := by decide +kernel
theorem dX12_crowd_37 : decode cX12_crowd 37 = .ok (.getfield 71, 3) := by decide +kernel
theorem dX12_crowd_40 : decode cX12_crowd 40 = .ok (.iload_n 1, 1) := by decide +kernel
theorem dX12_crowd_41 : decode cX12_crowd 41 = .ok (.iaload, 1) := by decide +kernel
theorem dX12_crowd_42 : decode cX12_crowd 42 = .ok (.if_icmp .le 5, 3) := by decide +kernel
theorem dX12_crowd_45 : decode cX12_crowd 45 = .ok (.iload_n 2, 1) := by decide +kernel
theorem dX12_crowd_46 : decode cX12_crowd 46 = .ok (.istore_n 1, 1) := by decide +kernel
theorem dX12_crowd_47 : decode cX12_crowd 47 = .ok (.iinc 2 1, 3) := by decide +kernel
theorem dX12_crowd_50 : decode cX12_crowd 50 = .ok (.goto (-37), 3) := by decide +kernel
theorem dX12_crowd_53 : decode cX12_crowd 53 = .ok (.iload_n 1, 1) := by decide +kernel
theorem dX12_crowd_54 : decode cX12_crowd 54 = .ok (.iconst (-1), 1) := by decide +kernel
theorem dX12_crowd_55 : decode cX12_crowd 55 = .ok (.if_icmp .ne 6, 3) := by decide +kernel
theorem dX12_crowd_58 : decode cX12_crowd 58 = .ok (.bipush (-2), 2) := by decide +kernel
theorem dX12_crowd_60 : decode cX12_crowd 60 = .ok (.ireturn, 1) := by decide +kernel
theorem dX12_crowd_61 : decode cX12_crowd 61 = .ok (.iconst 0, 1) := by decide +kernel
theorem dX12_crowd_62 : decode cX12_crowd 62 = .ok (.istore_n 2, 1) := by decide +kernel
theorem dX12_crowd_63 : decode cX12_crowd 63 = .ok (.iconst 0, 1) := by decide +kernel
theorem dX12_crowd_64 : decode cX12_crowd 64 = .ok (.istore_n 3, 1) := by decide +kernel
theorem dX12_crowd_65 : decode cX12_crowd 65 = .ok (.iload_n 3, 1) := by decide +kernel
theorem dX12_crowd_66 : decode cX12_crowd 66 = .ok (.aload_n 0, 1) := by decide +kernel
theorem dX12_crowd_67 : decode cX12_crowd 67 = .ok (.getfield 156, 3) := by decide +kernel
theorem dX12_crowd_70 : decode cX12_crowd 70 = .ok (.if_icmp .ge 39, 3) := by decide +kernel
theorem dX12_crowd_73 : decode cX12_crowd 73 = .ok (.iload_n 2, 1) := by decide +kernel
theorem dX12_crowd_74 : decode cX12_crowd 74 = .ok (.aload_n 0, 1) := by decide +kernel
theorem dX12_crowd_75 : decode cX12_crowd 75 = .ok (.getfield 74, 3) := by decide +kernel
theorem dX12_crowd_78 : decode cX12_crowd 78 = .ok (.iload_n 1, 1) := by decide +kernel
theorem dX12_crowd_79 : decode cX12_crowd 79 = .ok (.iaload, 1) := by decide +kernel
theorem dX12_crowd_80 : decode cX12_crowd 80 = .ok (.iload_n 3, 1) := by decide +kernel
theorem dX12_crowd_81 : decode cX12_crowd 81 = .ok (.invokestatic 234, 3) := by decide +kernel
theorem dX12_crowd_84 : decode cX12_crowd 84 = .ok (.ifCond .eq 16, 3) := by decide +kernel
theorem dX12_crowd_87 : decode cX12_crowd 87 = .ok (.aload_n 0, 1) := by decide +kernel
theorem dX12_crowd_88 : decode cX12_crowd 88 = .ok (.getfield 35, 3) := by decide +kernel
theorem dX12_crowd_91 : decode cX12_crowd 91 = .ok (.iload_n 3, 1) := by decide +kernel
theorem dX12_crowd_92 : decode cX12_crowd 92 = .ok (.baload, 1) := by decide +kernel
theorem dX12_crowd_93 : decode cX12_crowd 93 = .ok (.ifCond .eq 7, 3) := by decide +kernel
theorem dX12_crowd_96 : decode cX12_crowd 96 = .ok (.iconst 1, 1) := by decide +kernel
theorem dX12_crowd_97 : decode cX12_crowd 97 = .ok (.goto 4, 3) := by decide +kernel
theorem dX12_crowd_100 : decode cX12_crowd 100 = .ok (.iconst 0, 1) := by decide +kernel
theorem dX12_crowd_101 : decode cX12_crowd 101 = .ok (.iadd, 1) := by decide +kernel
theorem dX12_crowd_102 : decode cX12_crowd 102 = .ok (.istore_n 2, 1) := by decide +kernel
theorem dX12_crowd_103 : decode cX12_crowd 103 = .ok (.iinc 3 1, 3) := by decide +kernel
theorem dX12_crowd_106 : decode cX12_crowd 106 = .ok (.goto (-41), 3) := by decide +kernel
theorem dX12_crowd_109 : decode cX12_crowd 109 = .ok (.aload_n 0, 1) := by decide +kernel
theorem dX12_crowd_110 : decode cX12_crowd 110 = .ok (.iconst 0, 1) := by decide +kernel
theorem dX12_crowd_111 : decode cX12_crowd 111 = .ok (.putfield 146, 3) := by decide +kernel
theorem dX12_crowd_114 : decode cX12_crowd 114 = .ok (.aload_n 0, 1) := by decide +kernel
theorem dX12_crowd_115 : decode cX12_crowd 115 = .ok (.aload_n 0, 1) := by decide +kernel
theorem dX12_crowd_116 : decode cX12_crowd 116 = .ok (.getfield 71, 3) := by decide +kernel
theorem dX12_crowd_119 : decode cX12_crowd 119 = .ok (.iload_n 1, 1) := by decide +kernel
theorem dX12_crowd_120 : decode cX12_crowd 120 = .ok (.iaload, 1) := by decide +kernel
theorem dX12_crowd_121 : decode cX12_crowd 121 = .ok (.i2l, 1) := by decide +kernel
theorem dX12_crowd_122 : decode cX12_crowd 122 = .ok (.invokevirtual 278, 3) := by decide +kernel
theorem dX12_crowd_125 : decode cX12_crowd 125 = .ok (.aload_n 0, 1) := by decide +kernel
theorem dX12_crowd_126 : decode cX12_crowd 126 = .ok (.iload_n 2, 1) := by decide +kernel
theorem dX12_crowd_127 : decode cX12_crowd 127 = .ok (.aload_n 0, 1) := by decide +kernel
theorem dX12_crowd_128 : decode cX12_crowd 128 = .ok (.getfield 23, 3) := by decide +kernel
theorem dX12_crowd_131 : decode cX12_crowd 131 = .ok (.iload_n 1, 1) := by decide +kernel
theorem dX12_crowd_132 : decode cX12_crowd 132 = .ok (.iaload, 1) := by decide +kernel
theorem dX12_crowd_133 : decode cX12_crowd 133 = .ok (.aload_n 0, 1) := by decide +kernel
theorem dX12_crowd_134 : decode cX12_crowd 134 = .ok (.getfield 71, 3) := by decide +kernel
theorem dX12_crowd_137 : decode cX12_crowd 137 = .ok (.iload_n 1, 1) := by decide +kernel
theorem dX12_crowd_138 : decode cX12_crowd 138 = .ok (.iaload, 1) := by decide +kernel
theorem dX12_crowd_139 : decode cX12_crowd 139 = .ok (.iload_n 2, 1) := by decide +kernel
theorem dX12_crowd_140 : decode cX12_crowd 140 = .ok (.isub, 1) := by decide +kernel
theorem dX12_crowd_141 : decode cX12_crowd 141 = .ok (.invokestatic 256, 3) := by decide +kernel
theorem dX12_crowd_144 : decode cX12_crowd 144 = .ok (.iadd, 1) := by decide +kernel
theorem dX12_crowd_145 : decode cX12_crowd 145 = .ok (.i2l, 1) := by decide +kernel
theorem dX12_crowd_146 : decode cX12_crowd 146 = .ok (.invokevirtual 278, 3) := by decide +kernel
theorem dX12_crowd_149 : decode cX12_crowd 149 = .ok (.iload_n 1, 1) := by decide +kernel
theorem dX12_crowd_150 : decode cX12_crowd 150 = .ok (.ireturn, 1) := by decide +kernel
set_option maxRecDepth 100000 in
set_option maxHeartbeats 4000000 in
theorem B_X12_crowd_0 {κ : Nat → List Value → List Value → m2M → Prop} {D : Nat} {Q : Option Value → m2M → Prop} (h : m2_RL κ cX12_crowd RX12 4 (D + 1) (some .int) Q)  {μ : m2M} (k : ∃ Q3 : Option Value → m2M → Prop, m2_MT D yX12_findTheirWays cX12_findTheirWays 3 none [.ref kM] (m2_si μ kM 22 0) Q3 ∧ ∀ (μ2 : m2M), Q3 none μ2 → (κ 13 [.ref kM, .int (-1), .int 0, .null] [] μ2)) : κ 0 [.ref kM, .null, .null, .null] [] μ := by
  have hB := h.b
  refine m2_aload_n hB dX12_crowd_0 rfl ?_
  refine m2_iconst hB dX12_crowd_1 (v := 0) (by decide) ?_
  refine m2_putI hB dX12_crowd_2 fl_X12_143 sh_kM rfl ?_
  refine m2_aload_n hB dX12_crowd_5 rfl ?_
  obtain ⟨Q3, hM4, k⟩ := k
  refine m2_invv hB (as := []) dX12_crowd_6 mv_X12_282 rfl sh_kM rfl (Nat.le_of_ble_eq_true rfl) rfl hM4 (fun μ2 hq5 => ?_)
  replace k := k μ2 hq5
  refine m2_iconst hB dX12_crowd_9 (v := (-1)) (by decide) ?_
  refine m2_istore_n hB (ls' := [.ref kM, .int (-1), .null, .null]) dX12_crowd_10 rfl (by decide) rfl ?_
  refine m2_iconst hB dX12_crowd_11 (v := 0) (by decide) ?_
  refine m2_istore_n hB (ls' := [.ref kM, .int (-1), .int 0, .null]) dX12_crowd_12 rfl (by decide) rfl ?_
  exact k
set_option maxRecDepth 100000 in
set_option maxHeartbeats 4000000 in
theorem B_X12_crowd_13 {κ : Nat → List Value → List Value → m2M → Prop} {D : Nat} {Q : Option Value → m2M → Prop} (h : m2_RL κ cX12_crowd RX12 4 D (some .int) Q) {v1 : Int32} {v2 : Int32} {μ : m2M} (k : ((μ.1 kM 0) ≤ v2 → (¬ v1 = (-1) → κ 65 [.ref kM, .int v1, .int 0, .int 0] [] μ) ∧ (v1 = (-1) → Q (some (.int (-2))) μ)) ∧ (¬ (μ.1 kM 0) ≤ v2 → (vp_in v2 20) ∧ ((¬ v1 = (-1) → (vp_in v1 20) ∧ (κ 13 [.ref kM, .int (if (μ.1 kM_onTheirWay (v2).toNatClampNeg) ≤ (μ.1 kM_onTheirWay (v1).toNatClampNeg) then v1 else v2 : Int32), .int (v2 + 1), .null] [] μ)) ∧ (v1 = (-1) → κ 13 [.ref kM, .int (if (μ.1 kM_onTheirWay (v2).toNatClampNeg) ≤ 0 then v1 else v2 : Int32), .int (v2 + 1), .null] [] μ)))) : κ 13 [.ref kM, .int v1, .int v2, .null] [] μ := by
  have hB := h.b
  refine m2_iload_n hB dX12_crowd_13 rfl ?_
  refine m2_aload_n hB dX12_crowd_14 rfl ?_
  refine m2_getI hB dX12_crowd_15 fl_X12_153 sh_kM rfl ?_
  refine m2_icmp_ge hB dX12_crowd_18 (tgt := 53) (by decide) (fun q2 : (μ.1 kM 0) ≤ v2 => ?_) (fun q2 : ¬ (μ.1 kM 0) ≤ v2 => ?_)
  · replace k := k.1 q2
    refine m2_iload_n hB dX12_crowd_53 rfl ?_
    refine m2_iconst hB dX12_crowd_54 (v := (-1)) (by decide) ?_
    refine m2_icmp_ne hB dX12_crowd_55 (tgt := 61) (by decide) (fun q3 : ¬ v1 = (-1) => ?_) (fun q3 : v1 = (-1) => ?_)
    · replace k := k.1 q3
      refine m2_iconst hB dX12_crowd_61 (v := 0) (by decide) ?_
      refine m2_istore_n hB (ls' := [.ref kM, .int v1, .int 0, .null]) dX12_crowd_62 rfl (by decide) rfl ?_
      refine m2_iconst hB dX12_crowd_63 (v := 0) (by decide) ?_
      refine m2_istore_n hB (ls' := [.ref kM, .int v1, .int 0, .int 0]) dX12_crowd_64 rfl (by decide) rfl ?_
      exact k
    · replace k := k.2 q3
      refine m2_bipush hB dX12_crowd_58 (v := (-2)) (by decide) ?_
      exact m2_iret h dX12_crowd_60 k
  · replace k := k.2 q2
    refine m2_aload_n hB dX12_crowd_21 rfl ?_
    refine m2_getR hB dX12_crowd_22 fl_X12_71 sh_kM (c1 := kM_onTheirWay) rfl ?_
    refine m2_iload_n hB dX12_crowd_25 rfl ?_
    obtain ⟨hi4, k⟩ := k
    refine m2_iald hB dX12_crowd_26 sh_kM_onTheirWay hi4 ?_
    refine m2_iload_n hB dX12_crowd_27 rfl ?_
    refine m2_iconst hB dX12_crowd_28 (v := (-1)) (by decide) ?_
    refine m2_icmp_ne hB dX12_crowd_29 (tgt := 36) (by decide) (fun q6 : ¬ v1 = (-1) => ?_) (fun q6 : v1 = (-1) => ?_)
    · replace k := k.1 q6
      refine m2_aload_n hB dX12_crowd_36 rfl ?_
      refine m2_getR hB dX12_crowd_37 fl_X12_71 sh_kM (c1 := kM_onTheirWay) rfl ?_
      refine m2_iload_n hB dX12_crowd_40 rfl ?_
      obtain ⟨hi7, k⟩ := k
      refine m2_iald hB dX12_crowd_41 sh_kM_onTheirWay hi7 ?_
      have G9 : κ 47 [.ref kM, .int (if (μ.1 kM_onTheirWay (v2).toNatClampNeg) ≤ (μ.1 kM_onTheirWay (v1).toNatClampNeg) then v1 else v2 : Int32), .int v2, .null] [] μ := by
        refine m2_iinc hB (ls' := [.ref kM, .int (if (μ.1 kM_onTheirWay (v2).toNatClampNeg) ≤ (μ.1 kM_onTheirWay (v1).toNatClampNeg) then v1 else v2 : Int32), .int (v2 + 1), .null]) (v := (v2 + 1)) dX12_crowd_47 rfl (by decide) rfl rfl ?_
        refine m2_goto hB dX12_crowd_50 (tgt := 13) (by decide) ?_
        exact k
      refine m2_icmp_le hB dX12_crowd_42 (tgt := 47) (by decide) (fun q8 : (μ.1 kM_onTheirWay (v2).toNatClampNeg) ≤ (μ.1 kM_onTheirWay (v1).toNatClampNeg) => ?_) (fun q8 : ¬ (μ.1 kM_onTheirWay (v2).toNatClampNeg) ≤ (μ.1 kM_onTheirWay (v1).toNatClampNeg) => ?_)
      · rw [if_pos q8] at G9
        exact G9
      · rw [if_neg q8] at G9
        refine m2_iload_n hB dX12_crowd_45 rfl ?_
        refine m2_istore_n hB (ls' := [.ref kM, .int v2, .int v2, .null]) dX12_crowd_46 rfl (by decide) rfl ?_
        exact G9
    · replace k := k.2 q6
      refine m2_iconst hB dX12_crowd_32 (v := 0) (by decide) ?_
      refine m2_goto hB dX12_crowd_33 (tgt := 42) (by decide) ?_
      have G11 : κ 47 [.ref kM, .int (if (μ.1 kM_onTheirWay (v2).toNatClampNeg) ≤ 0 then v1 else v2 : Int32), .int v2, .null] [] μ := by
        refine m2_iinc hB (ls' := [.ref kM, .int (if (μ.1 kM_onTheirWay (v2).toNatClampNeg) ≤ 0 then v1 else v2 : Int32), .int (v2 + 1), .null]) (v := (v2 + 1)) dX12_crowd_47 rfl (by decide) rfl rfl ?_
        refine m2_goto hB dX12_crowd_50 (tgt := 13) (by decide) ?_
        exact k
      refine m2_icmp_le hB dX12_crowd_42 (tgt := 47) (by decide) (fun q10 : (μ.1 kM_onTheirWay (v2).toNatClampNeg) ≤ 0 => ?_) (fun q10 : ¬ (μ.1 kM_onTheirWay (v2).toNatClampNeg) ≤ 0 => ?_)
      · rw [if_pos q10] at G11
        exact G11
      · rw [if_neg q10] at G11
        refine m2_iload_n hB dX12_crowd_45 rfl ?_
        refine m2_istore_n hB (ls' := [.ref kM, .int v2, .int v2, .null]) dX12_crowd_46 rfl (by decide) rfl ?_
        exact G11
set_option maxRecDepth 100000 in
set_option maxHeartbeats 4000000 in
theorem B_X12_crowd_65 {κ : Nat → List Value → List Value → m2M → Prop} {D : Nat} {Q : Option Value → m2M → Prop} (h : m2_RL κ cX12_crowd RX12 4 (D + 1) (some .int) Q) (hD : 0 ≤ D) {v1 : Int32} {v2 : Int32} {v3 : Int32} {μ : m2M} (k : ((μ.1 kM 7) ≤ v3 → (vp_in v1 20) ∧ (∃ Q6 : Option Value → m2M → Prop, m2_MT D yX12_tell cX12_tell 3 none [.ref kM, .long ((μ.1 kM_onTheirWay (v1).toNatClampNeg)).toInt64] (m2_si μ kM 21 0) Q6 ∧ ∀ (μ5 : m2M), Q6 none μ5 → (∃ Q13 : Option Value → m2M → Prop, m2_MT D yX12_tell cX12_tell 3 none [.ref kM, .long ((v2 + (m2_min (μ5.1 kM_left (v1).toNatClampNeg) ((μ5.1 kM_onTheirWay (v1).toNatClampNeg) - v2)))).toInt64] μ5 Q13 ∧ ∀ (μ12 : m2M), Q13 none μ12 → (Q (some (.int v1)) μ12)))) ∧ (¬ (μ.1 kM 7) ≤ v3 → (vp_in v1 20) ∧ (((fX12_has (μ.1 kM_isOnWay (v1).toNatClampNeg) v3) = 1 → (vp_in v3 8) ∧ (κ 65 [.ref kM, .int v1, .int (v2 + (if (μ.1 kM_isStranger (v3).toNatClampNeg) = 0 then 0 else 1 : Int32)), .int (v3 + 1)] [] μ)) ∧ (¬ (fX12_has (μ.1 kM_isOnWay (v1).toNatClampNeg) v3) = 1 → κ 65 [.ref kM, .int v1, .int (v2 + 0), .int (v3 + 1)] [] μ)))) : κ 65 [.ref kM, .int v1, .int v2, .int v3] [] μ := by
  have hB := h.b
  refine m2_iload_n hB dX12_crowd_65 rfl ?_
  refine m2_aload_n hB dX12_crowd_66 rfl ?_
  refine m2_getI hB dX12_crowd_67 fl_X12_156 sh_kM rfl ?_
  refine m2_icmp_ge hB dX12_crowd_70 (tgt := 109) (by decide) (fun q2 : (μ.1 kM 7) ≤ v3 => ?_) (fun q2 : ¬ (μ.1 kM 7) ≤ v3 => ?_)
  · replace k := k.1 q2
    refine m2_aload_n hB dX12_crowd_109 rfl ?_
    refine m2_iconst hB dX12_crowd_110 (v := 0) (by decide) ?_
    refine m2_putI hB dX12_crowd_111 fl_X12_146 sh_kM rfl ?_
    refine m2_aload_n hB dX12_crowd_114 rfl ?_
    refine m2_aload_n hB dX12_crowd_115 rfl ?_
    refine m2_getR hB dX12_crowd_116 fl_X12_71 sh_kM (c1 := kM_onTheirWay) rfl ?_
    refine m2_iload_n hB dX12_crowd_119 rfl ?_
    obtain ⟨hi3, k⟩ := k
    refine m2_iald hB dX12_crowd_120 sh_kM_onTheirWay hi3 ?_
    refine m2_i2l hB dX12_crowd_121 ?_
    obtain ⟨Q6, hM7, k⟩ := k
    refine m2_invv hB (as := [.long ((μ.1 kM_onTheirWay (v1).toNatClampNeg)).toInt64]) dX12_crowd_122 mv_X12_278 rfl sh_kM rfl (Nat.le_of_ble_eq_true rfl) rfl hM7 (fun μ5 hq8 => ?_)
    replace k := k μ5 hq8
    refine m2_aload_n hB dX12_crowd_125 rfl ?_
    refine m2_iload_n hB dX12_crowd_126 rfl ?_
    refine m2_aload_n hB dX12_crowd_127 rfl ?_
    refine m2_getR hB dX12_crowd_128 fl_X12_23 sh_kM (c1 := kM_left) rfl ?_
    refine m2_iload_n hB dX12_crowd_131 rfl ?_
    have hi9 := hi3
    refine m2_iald hB dX12_crowd_132 sh_kM_left hi9 ?_
    refine m2_aload_n hB dX12_crowd_133 rfl ?_
    refine m2_getR hB dX12_crowd_134 fl_X12_71 sh_kM (c1 := kM_onTheirWay) rfl ?_
    refine m2_iload_n hB dX12_crowd_137 rfl ?_
    have hi10 := hi3
    refine m2_iald hB dX12_crowd_138 sh_kM_onTheirWay hi10 ?_
    refine m2_iload_n hB dX12_crowd_139 rfl ?_
    refine m2_isub hB dX12_crowd_140 ?_
    refine m2_mmin hB dX12_crowd_141 ms_X12_256 (Nat.le_of_ble_eq_true rfl) ?_
    refine m2_iadd hB dX12_crowd_144 ?_
    refine m2_i2l hB dX12_crowd_145 ?_
    obtain ⟨Q13, hM14, k⟩ := k
    refine m2_invv hB (as := [.long ((v2 + (m2_min (μ5.1 kM_left (v1).toNatClampNeg) ((μ5.1 kM_onTheirWay (v1).toNatClampNeg) - v2)))).toInt64]) dX12_crowd_146 mv_X12_278 rfl sh_kM rfl (Nat.le_of_ble_eq_true rfl) rfl hM14 (fun μ12 hq15 => ?_)
    replace k := k μ12 hq15
    refine m2_iload_n hB dX12_crowd_149 rfl ?_
    exact m2_iret h dX12_crowd_150 k
  · replace k := k.2 q2
    refine m2_iload_n hB dX12_crowd_73 rfl ?_
    refine m2_aload_n hB dX12_crowd_74 rfl ?_
    refine m2_getR hB dX12_crowd_75 fl_X12_74 sh_kM (c1 := kM_isOnWay) rfl ?_
    refine m2_iload_n hB dX12_crowd_78 rfl ?_
    obtain ⟨hi16, k⟩ := k
    refine m2_iald hB dX12_crowd_79 sh_kM_isOnWay hi16 ?_
    refine m2_iload_n hB dX12_crowd_80 rfl ?_
    refine m2_invSz hB (as := [.int (μ.1 kM_isOnWay (v1).toNatClampNeg), .int v3]) dX12_crowd_81 ms_X12_234 rfl (Nat.le_of_ble_eq_true rfl) rfl (P_X12_has (by omega) ((μ.1 kM_isOnWay (v1).toNatClampNeg)) (v3) _ ) (fun y17 μ18 hq19 => ?_)
    obtain ⟨⟨⟩, hq19⟩ := hq19
    subst μ18
    show κ 84 [.ref kM, .int v1, .int v2, .int v3] [.int (if (fX12_has (μ.1 kM_isOnWay (v1).toNatClampNeg) v3) = 1 then 1 else 0 : Int32), .int v2] μ
    by_cases q20 : (fX12_has (μ.1 kM_isOnWay (v1).toNatClampNeg) v3) = 1
    · rw [if_pos q20]
      replace k := k.1 q20
      refine m2_if_eq hB dX12_crowd_84 (tgt := 100) (by decide) (fun q => absurd q (by decide)) (fun _ => ?_)
      refine m2_aload_n hB dX12_crowd_87 rfl ?_
      refine m2_getR hB dX12_crowd_88 fl_X12_35 sh_kM (c1 := kM_isStranger) rfl ?_
      refine m2_iload_n hB dX12_crowd_91 rfl ?_
      obtain ⟨hi21, k⟩ := k
      refine m2_zald hB dX12_crowd_92 sh_kM_isStranger hi21 ?_
      have G23 : κ 101 [.ref kM, .int v1, .int v2, .int v3] [.int (if (μ.1 kM_isStranger (v3).toNatClampNeg) = 0 then 0 else 1 : Int32), .int v2] μ := by
        refine m2_iadd hB dX12_crowd_101 ?_
        refine m2_istore_n hB (ls' := [.ref kM, .int v1, .int (v2 + (if (μ.1 kM_isStranger (v3).toNatClampNeg) = 0 then 0 else 1 : Int32)), .int v3]) dX12_crowd_102 rfl (by decide) rfl ?_
        refine m2_iinc hB (ls' := [.ref kM, .int v1, .int (v2 + (if (μ.1 kM_isStranger (v3).toNatClampNeg) = 0 then 0 else 1 : Int32)), .int (v3 + 1)]) (v := (v3 + 1)) dX12_crowd_103 rfl (by decide) rfl rfl ?_
        refine m2_goto hB dX12_crowd_106 (tgt := 65) (by decide) ?_
        exact k
      refine m2_if_eq hB dX12_crowd_93 (tgt := 100) (by decide) (fun q22 : (μ.1 kM_isStranger (v3).toNatClampNeg) = 0 => ?_) (fun q22 : ¬ (μ.1 kM_isStranger (v3).toNatClampNeg) = 0 => ?_)
      · rw [if_pos q22] at G23
        refine m2_iconst hB dX12_crowd_100 (v := 0) (by decide) ?_
        exact G23
      · rw [if_neg q22] at G23
        refine m2_iconst hB dX12_crowd_96 (v := 1) (by decide) ?_
        refine m2_goto hB dX12_crowd_97 (tgt := 101) (by decide) ?_
        exact G23
    · rw [if_neg q20]
      replace k := k.2 q20
      refine m2_if_eq hB dX12_crowd_84 (tgt := 100) (by decide) (fun _ => ?_) (fun q => absurd q (by decide))
      refine m2_iconst hB dX12_crowd_100 (v := 0) (by decide) ?_
      refine m2_iadd hB dX12_crowd_101 ?_
      refine m2_istore_n hB (ls' := [.ref kM, .int v1, .int (v2 + 0), .int v3]) dX12_crowd_102 rfl (by decide) rfl ?_
      refine m2_iinc hB (ls' := [.ref kM, .int v1, .int (v2 + 0), .int (v3 + 1)]) (v := (v3 + 1)) dX12_crowd_103 rfl (by decide) rfl rfl ?_
      refine m2_goto hB dX12_crowd_106 (tgt := 65) (by decide) ?_
      exact k
theorem dX12_beginDay_0 : decode cX12_beginDay 0 = .ok (.aload_n 0, 1) := by decide +kernel
theorem dX12_beginDay_1 : decode cX12_beginDay 1 = .ok (.iconst 0, 1) := by decide +kernel
theorem dX12_beginDay_2 : decode cX12_beginDay 2 = .ok (.putfield 361, 3) := by decide +kernel
theorem dX12_beginDay_5 : decode cX12_beginDay 5 = .ok (.aload_n 0, 1) := by decide +kernel
theorem dX12_beginDay_6 : decode cX12_beginDay 6 = .ok (.iconst 0, 1) := by decide +kernel
theorem dX12_beginDay_7 : decode cX12_beginDay 7 = .ok (.putfield 364, 3) := by decide +kernel
theorem dX12_beginDay_10 : decode cX12_beginDay 10 = .ok (.return_, 1) := by decide +kernel
set_option maxRecDepth 100000 in
set_option maxHeartbeats 4000000 in
theorem B_X12_beginDay_0 {κ : Nat → List Value → List Value → m2M → Prop} {D : Nat} {Q : Option Value → m2M → Prop} (h : m2_RL κ cX12_beginDay RX12 1 D none Q)  {μ : m2M} (k : Q none (m2_si (m2_si μ kM 44 0) kM 45 0)) : κ 0 [.ref kM] [] μ := by
  have hB := h.b
  refine m2_aload_n hB dX12_beginDay_0 rfl ?_
  refine m2_iconst hB dX12_beginDay_1 (v := 0) (by decide) ?_
  refine m2_putI hB dX12_beginDay_2 fl_X12_361 sh_kM rfl ?_
  refine m2_aload_n hB dX12_beginDay_5 rfl ?_
  refine m2_iconst hB dX12_beginDay_6 (v := 0) (by decide) ?_
  refine m2_putI hB dX12_beginDay_7 fl_X12_364 sh_kM rfl ?_
  exact m2_vret h dX12_beginDay_10 k
theorem dX12_dayOf_0 : decode cX12_dayOf 0 = .ok (.aload_n 0, 1) := by decide +kernel
theorem dX12_dayOf_1 : decode cX12_dayOf 1 = .ok (.iload_n 1, 1) := by decide +kernel
theorem dX12_dayOf_2 : decode cX12_dayOf 2 = .ok (.invokevirtual 241, 3) := by decide +kernel
theorem dX12_dayOf_5 : decode cX12_dayOf 5 = .ok (.iconst (-1), 1) := by decide +kernel
theorem dX12_dayOf_6 : decode cX12_dayOf 6 = .ok (.if_icmp .eq 75, 3) := by decide +kernel
theorem dX12_dayOf_9 : decode cX12_dayOf 9 = .ok (.aload_n 0, 1) := by decide +kernel
theorem dX12_dayOf_10 : decode cX12_dayOf 10 = .ok (.iload_n 1, 1) := by decide +kernel
theorem dX12_dayOf_11 : decode cX12_dayOf 11 = .ok (.iload_n 2, 1) := by decide +kernel
theorem dX12_dayOf_12 : decode cX12_dayOf 12 = .ok (.aload_n 0, 1) := by decide +kernel
theorem dX12_dayOf_13 : decode cX12_dayOf 13 = .ok (.iload_n 1, 1) := by decide +kernel
theorem dX12_dayOf_14 : decode cX12_dayOf 14 = .ok (.invokevirtual 241, 3) := by decide +kernel
theorem dX12_dayOf_17 : decode cX12_dayOf 17 = .ok (.invokevirtual 311, 3) := by decide +kernel
theorem dX12_dayOf_20 : decode cX12_dayOf 20 = .ok (.ifCond .ne 16, 3) := by decide +kernel
theorem dX12_dayOf_23 : decode cX12_dayOf 23 = .ok (.aload_n 0, 1) := by decide +kernel
theorem dX12_dayOf_24 : decode cX12_dayOf 24 = .ok (.dup, 1) := by decide +kernel
theorem dX12_dayOf_25 : decode cX12_dayOf 25 = .ok (.getfield 364, 3) := by decide +kernel
theorem dX12_dayOf_28 : decode cX12_dayOf 28 = .ok (.iconst 1, 1) := by decide +kernel
theorem dX12_dayOf_29 : decode cX12_dayOf 29 = .ok (.iload_n 1, 1) := by decide +kernel
theorem dX12_dayOf_30 : decode cX12_dayOf 30 = .ok (.ishl, 1) := by decide +kernel
theorem dX12_dayOf_31 : decode cX12_dayOf 31 = .ok (.ior, 1) := by decide +kernel
theorem dX12_dayOf_32 : decode cX12_dayOf 32 = .ok (.putfield 364, 3) := by decide +kernel
theorem dX12_dayOf_35 : decode cX12_dayOf 35 = .ok (.return_, 1) := by decide +kernel
theorem dX12_dayOf_36 : decode cX12_dayOf 36 = .ok (.aload_n 0, 1) := by decide +kernel
theorem dX12_dayOf_37 : decode cX12_dayOf 37 = .ok (.getfield 248, 3) := by decide +kernel
theorem dX12_dayOf_40 : decode cX12_dayOf 40 = .ok (.istore_n 3, 1) := by decide +kernel
theorem dX12_dayOf_41 : decode cX12_dayOf 41 = .ok (.iconst 0, 1) := by decide +kernel
theorem dX12_dayOf_42 : decode cX12_dayOf 42 = .ok (.istore 4, 2) := by decide +kernel
theorem dX12_dayOf_44 : decode cX12_dayOf 44 = .ok (.iload 4, 2) := by decide +kernel
theorem dX12_dayOf_46 : decode cX12_dayOf 46 = .ok (.iload_n 3, 1) := by decide +kernel
theorem dX12_dayOf_47 : decode cX12_dayOf 47 = .ok (.if_icmp .ge 21, 3) := by decide +kernel
theorem dX12_dayOf_50 : decode cX12_dayOf 50 = .ok (.aload_n 0, 1) := by decide +kernel
theorem dX12_dayOf_51 : decode cX12_dayOf 51 = .ok (.iload_n 1, 1) := by decide +kernel
theorem dX12_dayOf_52 : decode cX12_dayOf 52 = .ok (.aload_n 0, 1) := by decide +kernel
theorem dX12_dayOf_53 : decode cX12_dayOf 53 = .ok (.getfield 83, 3) := by decide +kernel
theorem dX12_dayOf_56 : decode cX12_dayOf 56 = .ok (.iload 4, 2) := by decide +kernel
theorem dX12_dayOf_58 : decode cX12_dayOf 58 = .ok (.iaload, 1) := by decide +kernel
theorem dX12_dayOf_59 : decode cX12_dayOf 59 = .ok (.invokevirtual 298, 3) := by decide +kernel
theorem dX12_dayOf_62 : decode cX12_dayOf 62 = .ok (.iinc 4 1, 3) := by decide +kernel
theorem dX12_dayOf_65 : decode cX12_dayOf 65 = .ok (.goto (-21), 3) := by decide +kernel
theorem dX12_dayOf_68 : decode cX12_dayOf 68 = .ok (.aload_n 0, 1) := by decide +kernel
theorem dX12_dayOf_69 : decode cX12_dayOf 69 = .ok (.dup, 1) := by decide +kernel
theorem dX12_dayOf_70 : decode cX12_dayOf 70 = .ok (.getfield 361, 3) := by decide +kernel
theorem dX12_dayOf_73 : decode cX12_dayOf 73 = .ok (.iload_n 3, 1) := by decide +kernel
theorem dX12_dayOf_74 : decode cX12_dayOf 74 = .ok (.iadd, 1) := by decide +kernel
theorem dX12_dayOf_75 : decode cX12_dayOf 75 = .ok (.putfield 361, 3) := by decide +kernel
theorem dX12_dayOf_78 : decode cX12_dayOf 78 = .ok (.goto (-78), 3) := by decide +kernel
theorem dX12_dayOf_81 : decode cX12_dayOf 81 = .ok (.return_, 1) := by decide +kernel
set_option maxRecDepth 100000 in
set_option maxHeartbeats 4000000 in
theorem B_X12_dayOf_0 {κ : Nat → List Value → List Value → m2M → Prop} {D : Nat} {Q : Option Value → m2M → Prop} (h : m2_RL κ cX12_dayOf RX12 5 (D + 1) none Q) (hD : 0 ≤ D) {v1 : Int32} {v2 : Int32} {μ : m2M} (k : (vp_in v1 8) ∧ (((fX12_nextOf v1 μ) = (-1) → Q none μ) ∧ (¬ (fX12_nextOf v1 μ) = (-1) → ∃ Q12 : Option Value → m2M → Prop, m2_MT D yX12_findPlanned cX12_findPlanned 5 (some .boolean) [.ref kM, .int v1, .int v2, .int (fX12_nextOf v1 μ)] μ Q12 ∧ ∀ (y10 : Int32) (μ11 : m2M), Q12 (some (.int y10)) μ11 → ((¬ y10 = 0 → κ 44 [.ref kM, .int v1, .int v2, .int (μ11.1 kM 37), .int 0] [] μ11) ∧ (y10 = 0 → Q none (m2_si μ11 kM 45 ((μ11.1 kM 45) ||| ((1 : Int32) <<< (v1 &&& 31))))))))) : κ 0 [.ref kM, .int v1, .int v2, .null, .null] [] μ := by
  have hB := h.b
  refine m2_aload_n hB dX12_dayOf_0 rfl ?_
  refine m2_iload_n hB dX12_dayOf_1 rfl ?_
  obtain ⟨hs1, k⟩ := k
  refine m2_invi hB (as := [.int v1]) dX12_dayOf_2 mv_X12_241 rfl sh_kM rfl (Nat.le_of_ble_eq_true rfl) rfl (P_X12_nextOf (by omega) (v1) _ hs1) (fun y2 μ3 hq4 => ?_)
  obtain ⟨⟨⟩, hq4⟩ := hq4
  subst μ3
  refine m2_iconst hB dX12_dayOf_5 (v := (-1)) (by decide) ?_
  refine m2_icmp_eq hB dX12_dayOf_6 (tgt := 81) (by decide) (fun q5 : (fX12_nextOf v1 μ) = (-1) => ?_) (fun q5 : ¬ (fX12_nextOf v1 μ) = (-1) => ?_)
  · replace k := k.1 q5
    exact m2_vret h dX12_dayOf_81 k
  · replace k := k.2 q5
    refine m2_aload_n hB dX12_dayOf_9 rfl ?_
    refine m2_iload_n hB dX12_dayOf_10 rfl ?_
    refine m2_iload_n hB dX12_dayOf_11 rfl ?_
    refine m2_aload_n hB dX12_dayOf_12 rfl ?_
    refine m2_iload_n hB dX12_dayOf_13 rfl ?_
    have hs6 := hs1
    refine m2_invi hB (as := [.int v1]) dX12_dayOf_14 mv_X12_241 rfl sh_kM rfl (Nat.le_of_ble_eq_true rfl) rfl (P_X12_nextOf (by omega) (v1) _ hs6) (fun y7 μ8 hq9 => ?_)
    obtain ⟨⟨⟩, hq9⟩ := hq9
    subst μ8
    obtain ⟨Q12, hM13, k⟩ := k
    refine m2_invz hB (as := [.int v1, .int v2, .int (fX12_nextOf v1 μ)]) dX12_dayOf_17 mv_X12_311 rfl sh_kM rfl (Nat.le_of_ble_eq_true rfl) rfl hM13 (fun y10 μ11 hq14 => ?_)
    replace k := k y10 μ11 hq14
    refine m2_if_ne hB dX12_dayOf_20 (tgt := 36) (by decide) (fun q15 : ¬ y10 = 0 => ?_) (fun q15 : y10 = 0 => ?_)
    · replace k := k.1 q15
      refine m2_aload_n hB dX12_dayOf_36 rfl ?_
      refine m2_getI hB dX12_dayOf_37 fl_X12_248 sh_kM rfl ?_
      refine m2_istore_n hB (ls' := [.ref kM, .int v1, .int v2, .int (μ11.1 kM 37), .null]) dX12_dayOf_40 rfl (by decide) rfl ?_
      refine m2_iconst hB dX12_dayOf_41 (v := 0) (by decide) ?_
      refine m2_istore hB (ls' := [.ref kM, .int v1, .int v2, .int (μ11.1 kM 37), .int 0]) dX12_dayOf_42 (by decide) rfl ?_
      exact k
    · replace k := k.2 q15
      refine m2_aload_n hB dX12_dayOf_23 rfl ?_
      refine m2_dup hB dX12_dayOf_24 rfl ?_
      refine m2_getI hB dX12_dayOf_25 fl_X12_364 sh_kM rfl ?_
      refine m2_iconst hB dX12_dayOf_28 (v := 1) (by decide) ?_
      refine m2_iload_n hB dX12_dayOf_29 rfl ?_
      refine m2_ishl hB dX12_dayOf_30 ?_
      refine m2_ior hB dX12_dayOf_31 ?_
      refine m2_putI hB dX12_dayOf_32 fl_X12_364 sh_kM rfl ?_
      exact m2_vret h dX12_dayOf_35 k
set_option maxRecDepth 100000 in
set_option maxHeartbeats 4000000 in
theorem B_X12_dayOf_44 {κ : Nat → List Value → List Value → m2M → Prop} {D : Nat} {Q : Option Value → m2M → Prop} (h : m2_RL κ cX12_dayOf RX12 5 (D + 1) none Q) {v1 : Int32} {v2 : Int32} {v3 : Int32} {v4 : Int32} {μ : m2M} (k : (v3 ≤ v4 → κ 0 [.ref kM, .int v1, .int v2, .null, .null] [] (m2_si μ kM 44 ((μ.1 kM 44) + v3))) ∧ (¬ v3 ≤ v4 → (vp_in v4 12) ∧ (∃ Q6 : Option Value → m2M → Prop, m2_MT D yX12_go cX12_go 3 none [.ref kM, .int v1, .int (μ.1 kM_way (v4).toNatClampNeg)] μ Q6 ∧ ∀ (μ5 : m2M), Q6 none μ5 → (κ 44 [.ref kM, .int v1, .int v2, .int v3, .int (v4 + 1)] [] μ5)))) : κ 44 [.ref kM, .int v1, .int v2, .int v3, .int v4] [] μ := by
  have hB := h.b
  refine m2_iload hB dX12_dayOf_44 rfl ?_
  refine m2_iload_n hB dX12_dayOf_46 rfl ?_
  refine m2_icmp_ge hB dX12_dayOf_47 (tgt := 68) (by decide) (fun q2 : v3 ≤ v4 => ?_) (fun q2 : ¬ v3 ≤ v4 => ?_)
  · replace k := k.1 q2
    refine m2_aload_n hB dX12_dayOf_68 rfl ?_
    refine m2_dup hB dX12_dayOf_69 rfl ?_
    refine m2_getI hB dX12_dayOf_70 fl_X12_361 sh_kM rfl ?_
    refine m2_iload_n hB dX12_dayOf_73 rfl ?_
    refine m2_iadd hB dX12_dayOf_74 ?_
    refine m2_putI hB dX12_dayOf_75 fl_X12_361 sh_kM rfl ?_
    refine m2_goto hB dX12_dayOf_78 (tgt := 0) (by decide) ?_
    exact m2_weak (ls' := [.ref kM, .int v1, .int v2, .null, .null]) hB ⟨Or.inr rfl, Or.inr rfl, Or.inr rfl, Or.inl rfl, Or.inl rfl, trivial⟩ k
  · replace k := k.2 q2
    refine m2_aload_n hB dX12_dayOf_50 rfl ?_
    refine m2_iload_n hB dX12_dayOf_51 rfl ?_
    refine m2_aload_n hB dX12_dayOf_52 rfl ?_
    refine m2_getR hB dX12_dayOf_53 fl_X12_83 sh_kM (c1 := kM_way) rfl ?_
    refine m2_iload hB dX12_dayOf_56 rfl ?_
    obtain ⟨hi3, k⟩ := k
    refine m2_iald hB dX12_dayOf_58 sh_kM_way hi3 ?_
    obtain ⟨Q6, hM7, k⟩ := k
    refine m2_invv hB (as := [.int v1, .int (μ.1 kM_way (v4).toNatClampNeg)]) dX12_dayOf_59 mv_X12_298 rfl sh_kM rfl (Nat.le_of_ble_eq_true rfl) rfl hM7 (fun μ5 hq8 => ?_)
    replace k := k μ5 hq8
    refine m2_iinc hB (ls' := [.ref kM, .int v1, .int v2, .int v3, .int (v4 + 1)]) (v := (v4 + 1)) dX12_dayOf_62 rfl (by decide) rfl rfl ?_
    refine m2_goto hB dX12_dayOf_65 (tgt := 44) (by decide) ?_
    exact k
theorem dX12_endDay_0 : decode cX12_endDay 0 = .ok (.aload_n 0, 1) := by decide +kernel
theorem dX12_endDay_1 : decode cX12_endDay 1 = .ok (.iconst 0, 1) := by decide +kernel
theorem dX12_endDay_2 : decode cX12_endDay 2 = .ok (.putfield 367, 3) := by decide +kernel
theorem dX12_endDay_5 : decode cX12_endDay 5 = .ok (.aload_n 0, 1) := by decide +kernel
theorem dX12_endDay_6 : decode cX12_endDay 6 = .ok (.iconst 0, 1) := by decide +kernel
theorem dX12_endDay_7 : decode cX12_endDay 7 = .ok (.putfield 370, 3) := by decide +kernel
theorem dX12_endDay_10 : decode cX12_endDay 10 = .ok (.iconst 0, 1) := by decide +kernel
theorem dX12_endDay_11 : decode cX12_endDay 11 = .ok (.istore_n 1, 1) := by decide +kernel
theorem dX12_endDay_12 : decode cX12_endDay 12 = .ok (.iload_n 1, 1) := by decide +kernel
theorem dX12_endDay_13 : decode cX12_endDay 13 = .ok (.aload_n 0, 1) := by decide +kernel
theorem dX12_endDay_14 : decode cX12_endDay 14 = .ok (.getfield 156, 3) := by decide +kernel
theorem dX12_endDay_17 : decode cX12_endDay 17 = .ok (.if_icmp .ge 60, 3) := by decide +kernel
theorem dX12_endDay_20 : decode cX12_endDay 20 = .ok (.aload_n 0, 1) := by decide +kernel
theorem dX12_endDay_21 : decode cX12_endDay 21 = .ok (.dup, 1) := by decide +kernel
theorem dX12_endDay_22 : decode cX12_endDay 22 = .ok (.getfield 367, 3) := by decide +kernel
theorem dX12_endDay_25 : decode cX12_endDay 25 = .ok (.aload_n 0, 1) := by decide +kernel
theorem dX12_endDay_26 : decode cX12_endDay 26 = .ok (.getfield 50, 3) := by decide +kernel
theorem dX12_endDay_29 : decode cX12_endDay 29 = .ok (.iload_n 1, 1) := by decide +kernel
theorem dX12_endDay_30 : decode cX12_endDay 30 = .ok (.baload, 1) := by decide +kernel
theorem dX12_endDay_31 : decode cX12_endDay 31 = .ok (.ifCond .eq 7, 3) := by decide +kernel
theorem dX12_endDay_34 : decode cX12_endDay 34 = .ok (.iconst 1, 1) := by decide +kernel
theorem dX12_endDay_35 : decode cX12_endDay 35 = .ok (.goto 4, 3) := by decide +kernel
theorem dX12_endDay_38 : decode cX12_endDay 38 = .ok (.iconst 0, 1) := by decide +kernel
theorem dX12_endDay_39 : decode cX12_endDay 39 = .ok (.iadd, 1) := by decide +kernel
theorem dX12_endDay_40 : decode cX12_endDay 40 = .ok (.putfield 367, 3) := by decide +kernel
theorem dX12_endDay_43 : decode cX12_endDay 43 = .ok (.aload_n 0, 1) := by decide +kernel
theorem dX12_endDay_44 : decode cX12_endDay 44 = .ok (.dup, 1) := by decide +kernel
theorem dX12_endDay_45 : decode cX12_endDay 45 = .ok (.getfield 370, 3) := by decide +kernel
theorem dX12_endDay_48 : decode cX12_endDay 48 = .ok (.aload_n 0, 1) := by decide +kernel
theorem dX12_endDay_49 : decode cX12_endDay 49 = .ok (.getfield 50, 3) := by decide +kernel
theorem dX12_endDay_52 : decode cX12_endDay 52 = .ok (.iload_n 1, 1) := by decide +kernel
theorem dX12_endDay_53 : decode cX12_endDay 53 = .ok (.baload, 1) := by decide +kernel
theorem dX12_endDay_54 : decode cX12_endDay 54 = .ok (.ifCond .eq 12, 3) := by decide +kernel
theorem dX12_endDay_57 : decode cX12_endDay 57 = .ok (.aload_n 0, 1) := by decide +kernel
theorem dX12_endDay_58 : decode cX12_endDay 58 = .ok (.getfield 38, 3) := by decide +kernel
theorem dX12_endDay_61 : decode cX12_endDay 61 = .ok (.iload_n 1, 1) := by decide +kernel
theorem dX12_endDay_62 : decode cX12_endDay 62 = .ok (.iaload, 1) := by decide +kernel
theorem dX12_endDay_63 : decode cX12_endDay 63 = .ok (.goto 4, 3) := by decide +kernel
theorem dX12_endDay_66 : decode cX12_endDay 66 = .ok (.iconst 0, 1) := by decide +kernel
theorem dX12_endDay_67 : decode cX12_endDay 67 = .ok (.iadd, 1) := by decide +kernel
theorem dX12_endDay_68 : decode cX12_endDay 68 = .ok (.putfield 370, 3) := by decide +kernel
theorem dX12_endDay_71 : decode cX12_endDay 71 = .ok (.iinc 1 1, 3) := by decide +kernel
theorem dX12_endDay_74 : decode cX12_endDay 74 = .ok (.goto (-62), 3) := by decide +kernel
theorem dX12_endDay_77 : decode cX12_endDay 77 = .ok (.return_, 1) := by decide +kernel
set_option maxRecDepth 100000 in
set_option maxHeartbeats 4000000 in
theorem B_X12_endDay_0 {κ : Nat → List Value → List Value → m2M → Prop} {D : Nat} {Q : Option Value → m2M → Prop} (h : m2_RL κ cX12_endDay RX12 2 D none Q)  {μ : m2M} (k : κ 12 [.ref kM, .int 0] [] (m2_si (m2_si μ kM 42 0) kM 43 0)) : κ 0 [.ref kM, .null] [] μ := by
  have hB := h.b
  refine m2_aload_n hB dX12_endDay_0 rfl ?_
  refine m2_iconst hB dX12_endDay_1 (v := 0) (by decide) ?_
  refine m2_putI hB dX12_endDay_2 fl_X12_367 sh_kM rfl ?_
  refine m2_aload_n hB dX12_endDay_5 rfl ?_
  refine m2_iconst hB dX12_endDay_6 (v := 0) (by decide) ?_
  refine m2_putI hB dX12_endDay_7 fl_X12_370 sh_kM rfl ?_
  refine m2_iconst hB dX12_endDay_10 (v := 0) (by decide) ?_
  refine m2_istore_n hB (ls' := [.ref kM, .int 0]) dX12_endDay_11 rfl (by decide) rfl ?_
  exact k
set_option maxRecDepth 100000 in
set_option maxHeartbeats 4000000 in
theorem B_X12_endDay_12 {κ : Nat → List Value → List Value → m2M → Prop} {D : Nat} {Q : Option Value → m2M → Prop} (h : m2_RL κ cX12_endDay RX12 2 D none Q) {v1 : Int32} {μ : m2M} (k : ((μ.1 kM 7) ≤ v1 → Q none μ) ∧ (¬ (μ.1 kM 7) ≤ v1 → (vp_in v1 8) ∧ (((μ.1 kM_isDone (v1).toNatClampNeg) = 0 → κ 12 [.ref kM, .int (v1 + 1)] [] (m2_si (m2_si μ kM 42 ((μ.1 kM 42) + (if (μ.1 kM_isDone (v1).toNatClampNeg) = 0 then 0 else 1 : Int32))) kM 43 ((μ.1 kM 43) + 0))) ∧ (¬ (μ.1 kM_isDone (v1).toNatClampNeg) = 0 → κ 12 [.ref kM, .int (v1 + 1)] [] (m2_si (m2_si μ kM 42 ((μ.1 kM 42) + (if (μ.1 kM_isDone (v1).toNatClampNeg) = 0 then 0 else 1 : Int32))) kM 43 ((μ.1 kM 43) + (μ.1 kM_worth (v1).toNatClampNeg))))))) : κ 12 [.ref kM, .int v1] [] μ := by
  have hB := h.b
  refine m2_iload_n hB dX12_endDay_12 rfl ?_
  refine m2_aload_n hB dX12_endDay_13 rfl ?_
  refine m2_getI hB dX12_endDay_14 fl_X12_156 sh_kM rfl ?_
  refine m2_icmp_ge hB dX12_endDay_17 (tgt := 77) (by decide) (fun q2 : (μ.1 kM 7) ≤ v1 => ?_) (fun q2 : ¬ (μ.1 kM 7) ≤ v1 => ?_)
  · replace k := k.1 q2
    exact m2_vret h dX12_endDay_77 k
  · replace k := k.2 q2
    refine m2_aload_n hB dX12_endDay_20 rfl ?_
    refine m2_dup hB dX12_endDay_21 rfl ?_
    refine m2_getI hB dX12_endDay_22 fl_X12_367 sh_kM rfl ?_
    refine m2_aload_n hB dX12_endDay_25 rfl ?_
    refine m2_getR hB dX12_endDay_26 fl_X12_50 sh_kM (c1 := kM_isDone) rfl ?_
    refine m2_iload_n hB dX12_endDay_29 rfl ?_
    obtain ⟨hi3, k⟩ := k
    refine m2_zald hB dX12_endDay_30 sh_kM_isDone hi3 ?_
    have G5 : κ 39 [.ref kM, .int v1] [.int (if (μ.1 kM_isDone (v1).toNatClampNeg) = 0 then 0 else 1 : Int32), .int (μ.1 kM 42), .ref kM] μ := by
      refine m2_iadd hB dX12_endDay_39 ?_
      refine m2_putI hB dX12_endDay_40 fl_X12_367 sh_kM rfl ?_
      refine m2_aload_n hB dX12_endDay_43 rfl ?_
      refine m2_dup hB dX12_endDay_44 rfl ?_
      refine m2_getI hB dX12_endDay_45 fl_X12_370 sh_kM rfl ?_
      refine m2_aload_n hB dX12_endDay_48 rfl ?_
      refine m2_getR hB dX12_endDay_49 fl_X12_50 sh_kM (c1 := kM_isDone) rfl ?_
      refine m2_iload_n hB dX12_endDay_52 rfl ?_
      have hi6 := hi3
      refine m2_zald hB dX12_endDay_53 sh_kM_isDone hi6 ?_
      refine m2_if_eq hB dX12_endDay_54 (tgt := 66) (by decide) (fun q8 : (μ.1 kM_isDone (v1).toNatClampNeg) = 0 => ?_) (fun q8 : ¬ (μ.1 kM_isDone (v1).toNatClampNeg) = 0 => ?_)
      · replace k := k.1 q8
        refine m2_iconst hB dX12_endDay_66 (v := 0) (by decide) ?_
        refine m2_iadd hB dX12_endDay_67 ?_
        refine m2_putI hB dX12_endDay_68 fl_X12_370 sh_kM rfl ?_
        refine m2_iinc hB (ls' := [.ref kM, .int (v1 + 1)]) (v := (v1 + 1)) dX12_endDay_71 rfl (by decide) rfl rfl ?_
        refine m2_goto hB dX12_endDay_74 (tgt := 12) (by decide) ?_
        exact k
      · replace k := k.2 q8
        refine m2_aload_n hB dX12_endDay_57 rfl ?_
        refine m2_getR hB dX12_endDay_58 fl_X12_38 sh_kM (c1 := kM_worth) rfl ?_
        refine m2_iload_n hB dX12_endDay_61 rfl ?_
        have hi9 := hi3
        refine m2_iald hB dX12_endDay_62 sh_kM_worth hi9 ?_
        refine m2_goto hB dX12_endDay_63 (tgt := 67) (by decide) ?_
        refine m2_iadd hB dX12_endDay_67 ?_
        refine m2_putI hB dX12_endDay_68 fl_X12_370 sh_kM rfl ?_
        refine m2_iinc hB (ls' := [.ref kM, .int (v1 + 1)]) (v := (v1 + 1)) dX12_endDay_71 rfl (by decide) rfl rfl ?_
        refine m2_goto hB dX12_endDay_74 (tgt := 12) (by decide) ?_
        exact k
    refine m2_if_eq hB dX12_endDay_31 (tgt := 38) (by decide) (fun q4 : (μ.1 kM_isDone (v1).toNatClampNeg) = 0 => ?_) (fun q4 : ¬ (μ.1 kM_isDone (v1).toNatClampNeg) = 0 => ?_)
    · rw [if_pos q4] at G5
      refine m2_iconst hB dX12_endDay_38 (v := 0) (by decide) ?_
      exact G5
    · rw [if_neg q4] at G5
      refine m2_iconst hB dX12_endDay_34 (v := 1) (by decide) ?_
      refine m2_goto hB dX12_endDay_35 (tgt := 39) (by decide) ?_
      exact G5
theorem dX12_goAll_0 : decode cX12_goAll 0 = .ok (.aload_n 0, 1) := by decide +kernel
theorem dX12_goAll_1 : decode cX12_goAll 1 = .ok (.invokevirtual 373, 3) := by decide +kernel
theorem dX12_goAll_4 : decode cX12_goAll 4 = .ok (.iconst 0, 1) := by decide +kernel
theorem dX12_goAll_5 : decode cX12_goAll 5 = .ok (.istore_n 3, 1) := by decide +kernel
theorem dX12_goAll_6 : decode cX12_goAll 6 = .ok (.iload_n 3, 1) := by decide +kernel
theorem dX12_goAll_7 : decode cX12_goAll 7 = .ok (.aload_n 0, 1) := by decide +kernel
theorem dX12_goAll_8 : decode cX12_goAll 8 = .ok (.getfield 156, 3) := by decide +kernel
theorem dX12_goAll_11 : decode cX12_goAll 11 = .ok (.if_icmp .ge 20, 3) := by decide +kernel
theorem dX12_goAll_14 : decode cX12_goAll 14 = .ok (.iload_n 3, 1) := by decide +kernel
theorem dX12_goAll_15 : decode cX12_goAll 15 = .ok (.iload_n 2, 1) := by decide +kernel
theorem dX12_goAll_16 : decode cX12_goAll 16 = .ok (.if_icmp .eq 9, 3) := by decide +kernel
theorem dX12_goAll_19 : decode cX12_goAll 19 = .ok (.aload_n 0, 1) := by decide +kernel
theorem dX12_goAll_20 : decode cX12_goAll 20 = .ok (.iload_n 3, 1) := by decide +kernel
theorem dX12_goAll_21 : decode cX12_goAll 21 = .ok (.iload_n 1, 1) := by decide +kernel
theorem dX12_goAll_22 : decode cX12_goAll 22 = .ok (.invokevirtual 376, 3) := by decide +kernel
theorem dX12_goAll_25 : decode cX12_goAll 25 = .ok (.iinc 3 1, 3) := by decide +kernel
theorem dX12_goAll_28 : decode cX12_goAll 28 = .ok (.goto (-22), 3) := by decide +kernel
theorem dX12_goAll_31 : decode cX12_goAll 31 = .ok (.aload_n 0, 1) := by decide +kernel
theorem dX12_goAll_32 : decode cX12_goAll 32 = .ok (.invokevirtual 379, 3) := by decide +kernel
theorem dX12_goAll_35 : decode cX12_goAll 35 = .ok (.return_, 1) := by decide +kernel
set_option maxRecDepth 100000 in
set_option maxHeartbeats 4000000 in
theorem B_X12_goAll_0 {κ : Nat → List Value → List Value → m2M → Prop} {D : Nat} {Q : Option Value → m2M → Prop} (h : m2_RL κ cX12_goAll RX12 4 (D + 1) none Q) {x1 : Int32} {x2 : Int32} {μ : m2M} (k : ∃ Q3 : Option Value → m2M → Prop, m2_MT D yX12_beginDay cX12_beginDay 1 none [.ref kM] μ Q3 ∧ ∀ (μ2 : m2M), Q3 none μ2 → (κ 6 [.ref kM, .int x1, .int x2, .int 0] [] μ2)) : κ 0 [.ref kM, .int x1, .int x2, .null] [] μ := by
  have hB := h.b
  refine m2_aload_n hB dX12_goAll_0 rfl ?_
  obtain ⟨Q3, hM4, k⟩ := k
  refine m2_invv hB (as := []) dX12_goAll_1 mv_X12_373 rfl sh_kM rfl (Nat.le_of_ble_eq_true rfl) rfl hM4 (fun μ2 hq5 => ?_)
  replace k := k μ2 hq5
  refine m2_iconst hB dX12_goAll_4 (v := 0) (by decide) ?_
  refine m2_istore_n hB (ls' := [.ref kM, .int x1, .int x2, .int 0]) dX12_goAll_5 rfl (by decide) rfl ?_
  exact k
set_option maxRecDepth 100000 in
set_option maxHeartbeats 4000000 in
theorem B_X12_goAll_6 {κ : Nat → List Value → List Value → m2M → Prop} {D : Nat} {Q : Option Value → m2M → Prop} (h : m2_RL κ cX12_goAll RX12 4 (D + 1) none Q) {v1 : Int32} {v2 : Int32} {v3 : Int32} {μ : m2M} (k : ((μ.1 kM 7) ≤ v3 → ∃ Q4 : Option Value → m2M → Prop, m2_MT D yX12_endDay cX12_endDay 2 none [.ref kM] μ Q4 ∧ ∀ (μ3 : m2M), Q4 none μ3 → (Q none μ3)) ∧ (¬ (μ.1 kM 7) ≤ v3 → (v3 = v2 → κ 6 [.ref kM, .int v1, .int v2, .int (v3 + 1)] [] μ) ∧ (¬ v3 = v2 → ∃ Q10 : Option Value → m2M → Prop, m2_MT D yX12_dayOf cX12_dayOf 5 none [.ref kM, .int v3, .int v1] μ Q10 ∧ ∀ (μ9 : m2M), Q10 none μ9 → (κ 6 [.ref kM, .int v1, .int v2, .int (v3 + 1)] [] μ9)))) : κ 6 [.ref kM, .int v1, .int v2, .int v3] [] μ := by
  have hB := h.b
  refine m2_iload_n hB dX12_goAll_6 rfl ?_
  refine m2_aload_n hB dX12_goAll_7 rfl ?_
  refine m2_getI hB dX12_goAll_8 fl_X12_156 sh_kM rfl ?_
  refine m2_icmp_ge hB dX12_goAll_11 (tgt := 31) (by decide) (fun q1 : (μ.1 kM 7) ≤ v3 => ?_) (fun q1 : ¬ (μ.1 kM 7) ≤ v3 => ?_)
  · replace k := k.1 q1
    refine m2_aload_n hB dX12_goAll_31 rfl ?_
    obtain ⟨Q4, hM5, k⟩ := k
    refine m2_invv hB (as := []) dX12_goAll_32 mv_X12_379 rfl sh_kM rfl (Nat.le_of_ble_eq_true rfl) rfl hM5 (fun μ3 hq6 => ?_)
    replace k := k μ3 hq6
    exact m2_vret h dX12_goAll_35 k
  · replace k := k.2 q1
    refine m2_iload_n hB dX12_goAll_14 rfl ?_
    refine m2_iload_n hB dX12_goAll_15 rfl ?_
    refine m2_icmp_eq hB dX12_goAll_16 (tgt := 25) (by decide) (fun q7 : v3 = v2 => ?_) (fun q7 : ¬ v3 = v2 => ?_)
    · replace k := k.1 q7
      refine m2_iinc hB (ls' := [.ref kM, .int v1, .int v2, .int (v3 + 1)]) (v := (v3 + 1)) dX12_goAll_25 rfl (by decide) rfl rfl ?_
      refine m2_goto hB dX12_goAll_28 (tgt := 6) (by decide) ?_
      exact k
    · replace k := k.2 q7
      refine m2_aload_n hB dX12_goAll_19 rfl ?_
      refine m2_iload_n hB dX12_goAll_20 rfl ?_
      refine m2_iload_n hB dX12_goAll_21 rfl ?_
      obtain ⟨Q10, hM11, k⟩ := k
      refine m2_invv hB (as := [.int v3, .int v1]) dX12_goAll_22 mv_X12_376 rfl sh_kM rfl (Nat.le_of_ble_eq_true rfl) rfl hM11 (fun μ9 hq12 => ?_)
      replace k := k μ9 hq12
      refine m2_iinc hB (ls' := [.ref kM, .int v1, .int v2, .int (v3 + 1)]) (v := (v3 + 1)) dX12_goAll_25 rfl (by decide) rfl rfl ?_
      refine m2_goto hB dX12_goAll_28 (tgt := 6) (by decide) ?_
      exact k
theorem dX12_toldDay_0 : decode cX12_toldDay 0 = .ok (.aload_n 0, 1) := by decide +kernel
theorem dX12_toldDay_1 : decode cX12_toldDay 1 = .ok (.iconst 0, 1) := by decide +kernel
theorem dX12_toldDay_2 : decode cX12_toldDay 2 = .ok (.putfield 146, 3) := by decide +kernel
theorem dX12_toldDay_5 : decode cX12_toldDay 5 = .ok (.aload_n 0, 1) := by decide +kernel
theorem dX12_toldDay_6 : decode cX12_toldDay 6 = .ok (.aload_n 0, 1) := by decide +kernel
theorem dX12_toldDay_7 : decode cX12_toldDay 7 = .ok (.getfield 370, 3) := by decide +kernel
theorem dX12_toldDay_10 : decode cX12_toldDay 10 = .ok (.i2l, 1) := by decide +kernel
theorem dX12_toldDay_11 : decode cX12_toldDay 11 = .ok (.invokevirtual 278, 3) := by decide +kernel
theorem dX12_toldDay_14 : decode cX12_toldDay 14 = .ok (.aload_n 0, 1) := by decide +kernel
theorem dX12_toldDay_15 : decode cX12_toldDay 15 = .ok (.aload_n 0, 1) := by decide +kernel
theorem dX12_toldDay_16 : decode cX12_toldDay 16 = .ok (.getfield 361, 3) := by decide +kernel
theorem dX12_toldDay_19 : decode cX12_toldDay 19 = .ok (.i2l, 1) := by decide +kernel
theorem dX12_toldDay_20 : decode cX12_toldDay 20 = .ok (.invokevirtual 278, 3) := by decide +kernel
theorem dX12_toldDay_23 : decode cX12_toldDay 23 = .ok (.aload_n 0, 1) := by decide +kernel
theorem dX12_toldDay_24 : decode cX12_toldDay 24 = .ok (.aload_n 0, 1) := by decide +kernel
theorem dX12_toldDay_25 : decode cX12_toldDay 25 = .ok (.getfield 364, 3) := by decide +kernel
theorem dX12_toldDay_28 : decode cX12_toldDay 28 = .ok (.i2l, 1) := by decide +kernel
theorem dX12_toldDay_29 : decode cX12_toldDay 29 = .ok (.invokevirtual 278, 3) := by decide +kernel
theorem dX12_toldDay_32 : decode cX12_toldDay 32 = .ok (.aload_n 0, 1) := by decide +kernel
theorem dX12_toldDay_33 : decode cX12_toldDay 33 = .ok (.getfield 367, 3) := by decide +kernel
theorem dX12_toldDay_36 : decode cX12_toldDay 36 = .ok (.ireturn, 1) := by decide +kernel
set_option maxRecDepth 100000 in
set_option maxHeartbeats 4000000 in
theorem B_X12_toldDay_0 {κ : Nat → List Value → List Value → m2M → Prop} {D : Nat} {Q : Option Value → m2M → Prop} (h : m2_RL κ cX12_toldDay RX12 1 (D + 1) (some .int) Q)  {μ : m2M} (k : ∃ Q3 : Option Value → m2M → Prop, m2_MT D yX12_tell cX12_tell 3 none [.ref kM, .long ((μ.1 kM 43)).toInt64] (m2_si μ kM 21 0) Q3 ∧ ∀ (μ2 : m2M), Q3 none μ2 → (∃ Q8 : Option Value → m2M → Prop, m2_MT D yX12_tell cX12_tell 3 none [.ref kM, .long ((μ2.1 kM 44)).toInt64] μ2 Q8 ∧ ∀ (μ7 : m2M), Q8 none μ7 → (∃ Q13 : Option Value → m2M → Prop, m2_MT D yX12_tell cX12_tell 3 none [.ref kM, .long ((μ7.1 kM 45)).toInt64] μ7 Q13 ∧ ∀ (μ12 : m2M), Q13 none μ12 → (Q (some (.int (μ12.1 kM 42))) μ12)))) : κ 0 [.ref kM] [] μ := by
  have hB := h.b
  refine m2_aload_n hB dX12_toldDay_0 rfl ?_
  refine m2_iconst hB dX12_toldDay_1 (v := 0) (by decide) ?_
  refine m2_putI hB dX12_toldDay_2 fl_X12_146 sh_kM rfl ?_
  refine m2_aload_n hB dX12_toldDay_5 rfl ?_
  refine m2_aload_n hB dX12_toldDay_6 rfl ?_
  refine m2_getI hB dX12_toldDay_7 fl_X12_370 sh_kM rfl ?_
  refine m2_i2l hB dX12_toldDay_10 ?_
  obtain ⟨Q3, hM4, k⟩ := k
  refine m2_invv hB (as := [.long ((μ.1 kM 43)).toInt64]) dX12_toldDay_11 mv_X12_278 rfl sh_kM rfl (Nat.le_of_ble_eq_true rfl) rfl hM4 (fun μ2 hq5 => ?_)
  replace k := k μ2 hq5
  refine m2_aload_n hB dX12_toldDay_14 rfl ?_
  refine m2_aload_n hB dX12_toldDay_15 rfl ?_
  refine m2_getI hB dX12_toldDay_16 fl_X12_361 sh_kM rfl ?_
  refine m2_i2l hB dX12_toldDay_19 ?_
  obtain ⟨Q8, hM9, k⟩ := k
  refine m2_invv hB (as := [.long ((μ2.1 kM 44)).toInt64]) dX12_toldDay_20 mv_X12_278 rfl sh_kM rfl (Nat.le_of_ble_eq_true rfl) rfl hM9 (fun μ7 hq10 => ?_)
  replace k := k μ7 hq10
  refine m2_aload_n hB dX12_toldDay_23 rfl ?_
  refine m2_aload_n hB dX12_toldDay_24 rfl ?_
  refine m2_getI hB dX12_toldDay_25 fl_X12_364 sh_kM rfl ?_
  refine m2_i2l hB dX12_toldDay_28 ?_
  obtain ⟨Q13, hM14, k⟩ := k
  refine m2_invv hB (as := [.long ((μ7.1 kM 45)).toInt64]) dX12_toldDay_29 mv_X12_278 rfl sh_kM rfl (Nat.le_of_ble_eq_true rfl) rfl hM14 (fun μ12 hq15 => ?_)
  replace k := k μ12 hq15
  refine m2_aload_n hB dX12_toldDay_32 rfl ?_
  refine m2_getI hB dX12_toldDay_33 fl_X12_367 sh_kM rfl ?_
  exact m2_iret h dX12_toldDay_36 k
theorem dX12_day_0 : decode cX12_day 0 = .ok (.aload_n 0, 1) := by decide +kernel
theorem dX12_day_1 : decode cX12_day 1 = .ok (.iconst 0, 1) := by decide +kernel
theorem dX12_day_2 : decode cX12_day 2 = .ok (.putfield 143, 3) := by decide +kernel
theorem dX12_day_5 : decode cX12_day 5 = .ok (.iload_n 1, 1) := by decide +kernel
theorem dX12_day_6 : decode cX12_day 6 = .ok (.iconst 0, 1) := by decide +kernel
theorem dX12_day_7 : decode cX12_day 7 = .ok (.iconst 3, 1) := by decide +kernel
theorem dX12_day_8 : decode cX12_day 8 = .ok (.invokestatic 149, 3) := by decide +kernel
theorem dX12_day_11 : decode cX12_day 11 = .ok (.ifCond .ne 5, 3) := by decide +kernel
theorem dX12_day_14 : decode cX12_day 14 = .ok (.iconst (-1), 1) := by decide +kernel
theorem dX12_day_15 : decode cX12_day 15 = .ok (.ireturn, 1) := by decide +kernel
theorem dX12_day_16 : decode cX12_day 16 = .ok (.aload_n 0, 1) := by decide +kernel
theorem dX12_day_17 : decode cX12_day 17 = .ok (.iload_n 1, 1) := by decide +kernel
theorem dX12_day_18 : decode cX12_day 18 = .ok (.iconst (-1), 1) := by decide +kernel
theorem dX12_day_19 : decode cX12_day 19 = .ok (.invokevirtual 382, 3) := by decide +kernel
theorem dX12_day_22 : decode cX12_day 22 = .ok (.aload_n 0, 1) := by decide +kernel
theorem dX12_day_23 : decode cX12_day 23 = .ok (.invokevirtual 385, 3) := by decide +kernel
theorem dX12_day_26 : decode cX12_day 26 = .ok (.ireturn, 1) := by decide +kernel
set_option maxRecDepth 100000 in
set_option maxHeartbeats 4000000 in
theorem B_X12_day_0 {κ : Nat → List Value → List Value → m2M → Prop} {D : Nat} {Q : Option Value → m2M → Prop} (h : m2_RL κ cX12_day RX12 2 (D + 1) (some .int) Q) (hD : 0 ≤ D) {x1 : Int32} {μ : m2M} (k : ((fX12_in x1 0 3) = 1 → ∃ Q7 : Option Value → m2M → Prop, m2_MT D yX12_goAll cX12_goAll 4 none [.ref kM, .int x1, .int (-1)] (m2_si μ kM 22 0) Q7 ∧ ∀ (μ6 : m2M), Q7 none μ6 → (∃ Q12 : Option Value → m2M → Prop, m2_MT D yX12_toldDay cX12_toldDay 1 (some .int) [.ref kM] μ6 Q12 ∧ ∀ (y10 : Int32) (μ11 : m2M), Q12 (some (.int y10)) μ11 → (Q (some (.int y10)) μ11))) ∧ (¬ (fX12_in x1 0 3) = 1 → Q (some (.int (-1))) (m2_si μ kM 22 0))) : κ 0 [.ref kM, .int x1] [] μ := by
  have hB := h.b
  refine m2_aload_n hB dX12_day_0 rfl ?_
  refine m2_iconst hB dX12_day_1 (v := 0) (by decide) ?_
  refine m2_putI hB dX12_day_2 fl_X12_143 sh_kM rfl ?_
  refine m2_iload_n hB dX12_day_5 rfl ?_
  refine m2_iconst hB dX12_day_6 (v := 0) (by decide) ?_
  refine m2_iconst hB dX12_day_7 (v := 3) (by decide) ?_
  refine m2_invSz hB (as := [.int x1, .int 0, .int 3]) dX12_day_8 ms_X12_149 rfl (Nat.le_of_ble_eq_true rfl) rfl (P_X12_in (by omega) (x1) (0) (3) _ ) (fun y1 μ2 hq3 => ?_)
  obtain ⟨⟨⟩, hq3⟩ := hq3
  subst μ2
  show κ 11 [.ref kM, .int x1] [.int (if (fX12_in x1 0 3) = 1 then 1 else 0 : Int32)] (m2_si μ kM 22 0)
  by_cases q4 : (fX12_in x1 0 3) = 1
  · rw [if_pos q4]
    replace k := k.1 q4
    refine m2_if_ne hB dX12_day_11 (tgt := 16) (by decide) (fun _ => ?_) (fun q => absurd q (by decide))
    refine m2_aload_n hB dX12_day_16 rfl ?_
    refine m2_iload_n hB dX12_day_17 rfl ?_
    refine m2_iconst hB dX12_day_18 (v := (-1)) (by decide) ?_
    obtain ⟨Q7, hM8, k⟩ := k
    refine m2_invv hB (as := [.int x1, .int (-1)]) dX12_day_19 mv_X12_382 rfl sh_kM rfl (Nat.le_of_ble_eq_true rfl) rfl hM8 (fun μ6 hq9 => ?_)
    replace k := k μ6 hq9
    refine m2_aload_n hB dX12_day_22 rfl ?_
    obtain ⟨Q12, hM13, k⟩ := k
    refine m2_invi hB (as := []) dX12_day_23 mv_X12_385 rfl sh_kM rfl (Nat.le_of_ble_eq_true rfl) rfl hM13 (fun y10 μ11 hq14 => ?_)
    replace k := k y10 μ11 hq14
    exact m2_iret h dX12_day_26 k
  · rw [if_neg q4]
    replace k := k.2 q4
    refine m2_if_ne hB dX12_day_11 (tgt := 16) (by decide) (fun q => absurd q (by decide)) (fun _ => ?_)
    refine m2_iconst hB dX12_day_14 (v := (-1)) (by decide) ?_
    exact m2_iret h dX12_day_15 k
theorem dX12_would_0 : decode cX12_would 0 = .ok (.aload_n 0, 1) := by decide +kernel
theorem dX12_would_1 : decode cX12_would 1 = .ok (.iconst 0, 1) := by decide +kernel
theorem dX12_would_2 : decode cX12_would 2 = .ok (.putfield 143, 3) := by decide +kernel
theorem dX12_would_5 : decode cX12_would 5 = .ok (.iload_n 1, 1) := by decide +kernel
theorem dX12_would_6 : decode cX12_would 6 = .ok (.iconst 0, 1) := by decide +kernel
theorem dX12_would_7 : decode cX12_would 7 = .ok (.iconst 3, 1) := by decide +kernel
theorem dX12_would_8 : decode cX12_would 8 = .ok (.invokestatic 149, 3) := by decide +kernel
theorem dX12_would_11 : decode cX12_would 11 = .ok (.ifCond .ne 5, 3) := by decide +kernel
theorem dX12_would_14 : decode cX12_would 14 = .ok (.iconst (-1), 1) := by decide +kernel
theorem dX12_would_15 : decode cX12_would 15 = .ok (.ireturn, 1) := by decide +kernel
theorem dX12_would_16 : decode cX12_would 16 = .ok (.aload_n 0, 1) := by decide +kernel
theorem dX12_would_17 : decode cX12_would 17 = .ok (.invokevirtual 342, 3) := by decide +kernel
theorem dX12_would_20 : decode cX12_would 20 = .ok (.aload_n 0, 1) := by decide +kernel
theorem dX12_would_21 : decode cX12_would 21 = .ok (.iload_n 1, 1) := by decide +kernel
theorem dX12_would_22 : decode cX12_would 22 = .ok (.iconst (-1), 1) := by decide +kernel
theorem dX12_would_23 : decode cX12_would 23 = .ok (.invokevirtual 382, 3) := by decide +kernel
theorem dX12_would_26 : decode cX12_would 26 = .ok (.aload_n 0, 1) := by decide +kernel
theorem dX12_would_27 : decode cX12_would 27 = .ok (.invokevirtual 348, 3) := by decide +kernel
theorem dX12_would_30 : decode cX12_would 30 = .ok (.aload_n 0, 1) := by decide +kernel
theorem dX12_would_31 : decode cX12_would 31 = .ok (.invokevirtual 385, 3) := by decide +kernel
theorem dX12_would_34 : decode cX12_would 34 = .ok (.ireturn, 1) := by decide +kernel
set_option maxRecDepth 100000 in
set_option maxHeartbeats 4000000 in
theorem B_X12_would_0 {κ : Nat → List Value → List Value → m2M → Prop} {D : Nat} {Q : Option Value → m2M → Prop} (h : m2_RL κ cX12_would RX12 2 (D + 1) (some .int) Q) (hD : 0 ≤ D) {x1 : Int32} {μ : m2M} (k : ((fX12_in x1 0 3) = 1 → ∃ Q7 : Option Value → m2M → Prop, m2_MT D yX12_putBy cX12_putBy 1 none [.ref kM] (m2_si μ kM 22 0) Q7 ∧ ∀ (μ6 : m2M), Q7 none μ6 → (∃ Q12 : Option Value → m2M → Prop, m2_MT D yX12_goAll cX12_goAll 4 none [.ref kM, .int x1, .int (-1)] μ6 Q12 ∧ ∀ (μ11 : m2M), Q12 none μ11 → (∃ Q17 : Option Value → m2M → Prop, m2_MT D yX12_bringBack cX12_bringBack 1 none [.ref kM] μ11 Q17 ∧ ∀ (μ16 : m2M), Q17 none μ16 → (∃ Q22 : Option Value → m2M → Prop, m2_MT D yX12_toldDay cX12_toldDay 1 (some .int) [.ref kM] μ16 Q22 ∧ ∀ (y20 : Int32) (μ21 : m2M), Q22 (some (.int y20)) μ21 → (Q (some (.int y20)) μ21))))) ∧ (¬ (fX12_in x1 0 3) = 1 → Q (some (.int (-1))) (m2_si μ kM 22 0))) : κ 0 [.ref kM, .int x1] [] μ := by
  have hB := h.b
  refine m2_aload_n hB dX12_would_0 rfl ?_
  refine m2_iconst hB dX12_would_1 (v := 0) (by decide) ?_
  refine m2_putI hB dX12_would_2 fl_X12_143 sh_kM rfl ?_
  refine m2_iload_n hB dX12_would_5 rfl ?_
  refine m2_iconst hB dX12_would_6 (v := 0) (by decide) ?_
  refine m2_iconst hB dX12_would_7 (v := 3) (by decide) ?_
  refine m2_invSz hB (as := [.int x1, .int 0, .int 3]) dX12_would_8 ms_X12_149 rfl (Nat.le_of_ble_eq_true rfl) rfl (P_X12_in (by omega) (x1) (0) (3) _ ) (fun y1 μ2 hq3 => ?_)
  obtain ⟨⟨⟩, hq3⟩ := hq3
  subst μ2
  show κ 11 [.ref kM, .int x1] [.int (if (fX12_in x1 0 3) = 1 then 1 else 0 : Int32)] (m2_si μ kM 22 0)
  by_cases q4 : (fX12_in x1 0 3) = 1
  · rw [if_pos q4]
    replace k := k.1 q4
    refine m2_if_ne hB dX12_would_11 (tgt := 16) (by decide) (fun _ => ?_) (fun q => absurd q (by decide))
    refine m2_aload_n hB dX12_would_16 rfl ?_
    obtain ⟨Q7, hM8, k⟩ := k
    refine m2_invv hB (as := []) dX12_would_17 mv_X12_342 rfl sh_kM rfl (Nat.le_of_ble_eq_true rfl) rfl hM8 (fun μ6 hq9 => ?_)
    replace k := k μ6 hq9
    refine m2_aload_n hB dX12_would_20 rfl ?_
    refine m2_iload_n hB dX12_would_21 rfl ?_
    refine m2_iconst hB dX12_would_22 (v := (-1)) (by decide) ?_
    obtain ⟨Q12, hM13, k⟩ := k
    refine m2_invv hB (as := [.int x1, .int (-1)]) dX12_would_23 mv_X12_382 rfl sh_kM rfl (Nat.le_of_ble_eq_true rfl) rfl hM13 (fun μ11 hq14 => ?_)
    replace k := k μ11 hq14
    refine m2_aload_n hB dX12_would_26 rfl ?_
    obtain ⟨Q17, hM18, k⟩ := k
    refine m2_invv hB (as := []) dX12_would_27 mv_X12_348 rfl sh_kM rfl (Nat.le_of_ble_eq_true rfl) rfl hM18 (fun μ16 hq19 => ?_)
    replace k := k μ16 hq19
    refine m2_aload_n hB dX12_would_30 rfl ?_
    obtain ⟨Q22, hM23, k⟩ := k
    refine m2_invi hB (as := []) dX12_would_31 mv_X12_385 rfl sh_kM rfl (Nat.le_of_ble_eq_true rfl) rfl hM23 (fun y20 μ21 hq24 => ?_)
    replace k := k y20 μ21 hq24
    exact m2_iret h dX12_would_34 k
  · rw [if_neg q4]
    replace k := k.2 q4
    refine m2_if_ne hB dX12_would_11 (tgt := 16) (by decide) (fun q => absurd q (by decide)) (fun _ => ?_)
    refine m2_iconst hB dX12_would_14 (v := (-1)) (by decide) ?_
    exact m2_iret h dX12_would_15 k
theorem dX12_plan_0 : decode cX12_plan 0 = .ok (.aload_n 0, 1) := by decide +kernel
theorem dX12_plan_1 : decode cX12_plan 1 = .ok (.iconst 0, 1) := by decide +kernel
theorem dX12_plan_2 : decode cX12_plan 2 = .ok (.putfield 143, 3) := by decide +kernel
theorem dX12_plan_5 : decode cX12_plan 5 = .ok (.iconst (-1), 1) := by decide +kernel
theorem dX12_plan_6 : decode cX12_plan 6 = .ok (.istore_n 1, 1) := by decide +kernel
theorem dX12_plan_7 : decode cX12_plan 7 = .ok (.iconst 0, 1) := by decide +kernel
theorem dX12_plan_8 : decode cX12_plan 8 = .ok (.istore_n 2, 1) := by decide +kernel
theorem dX12_plan_9 : decode cX12_plan 9 = .ok (.iconst 0, 1) := by decide +kernel
theorem dX12_plan_10 : decode cX12_plan 10 = .ok (.istore_n 3, 1) := by decide +kernel
theorem dX12_plan_11 : decode cX12_plan 11 = .ok (.iconst 0, 1) := by decide +kernel
theorem dX12_plan_12 : decode cX12_plan 12 = .ok (.istore 4, 2) := by decide +kernel
theorem dX12_plan_14 : decode cX12_plan 14 = .ok (.iload 4, 2) := by decide +kernel
theorem dX12_plan_16 : decode cX12_plan 16 = .ok (.iconst 4, 1) := by decide +kernel
theorem dX12_plan_17 : decode cX12_plan 17 = .ok (.if_icmp .ge 69, 3) := by decide +kernel
theorem dX12_plan_20 : decode cX12_plan 20 = .ok (.aload_n 0, 1) := by decide +kernel
theorem dX12_plan_21 : decode cX12_plan 21 = .ok (.invokevirtual 342, 3) := by decide +kernel
theorem dX12_plan_24 : decode cX12_plan 24 = .ok (.aload_n 0, 1) := by decide +kernel
theorem dX12_plan_25 : decode cX12_plan 25 = .ok (.iload 4, 2) := by decide +kernel
theorem dX12_plan_27 : decode cX12_plan 27 = .ok (.iconst (-1), 1) := by decide +kernel
theorem dX12_plan_28 : decode cX12_plan 28 = .ok (.invokevirtual 382, 3) := by decide +kernel
theorem dX12_plan_31 : decode cX12_plan 31 = .ok (.aload_n 0, 1) := by decide +kernel
theorem dX12_plan_32 : decode cX12_plan 32 = .ok (.invokevirtual 348, 3) := by decide +kernel
theorem dX12_plan_35 : decode cX12_plan 35 = .ok (.iload_n 1, 1) := by decide +kernel
theorem dX12_plan_36 : decode cX12_plan 36 = .ok (.iconst (-1), 1) := by decide +kernel
theorem dX12_plan_37 : decode cX12_plan 37 = .ok (.if_icmp .eq 30, 3) := by decide +kernel
theorem dX12_plan_40 : decode cX12_plan 40 = .ok (.aload_n 0, 1) := by decide +kernel
theorem dX12_plan_41 : decode cX12_plan 41 = .ok (.getfield 370, 3) := by decide +kernel
theorem dX12_plan_44 : decode cX12_plan 44 = .ok (.iload_n 2, 1) := by decide +kernel
theorem dX12_plan_45 : decode cX12_plan 45 = .ok (.if_icmp .lt 35, 3) := by decide +kernel
theorem dX12_plan_48 : decode cX12_plan 48 = .ok (.aload_n 0, 1) := by decide +kernel
theorem dX12_plan_49 : decode cX12_plan 49 = .ok (.getfield 370, 3) := by decide +kernel
theorem dX12_plan_52 : decode cX12_plan 52 = .ok (.iload_n 2, 1) := by decide +kernel
theorem dX12_plan_53 : decode cX12_plan 53 = .ok (.if_icmp .ne 14, 3) := by decide +kernel
theorem dX12_plan_56 : decode cX12_plan 56 = .ok (.aload_n 0, 1) := by decide +kernel
theorem dX12_plan_57 : decode cX12_plan 57 = .ok (.getfield 361, 3) := by decide +kernel
theorem dX12_plan_60 : decode cX12_plan 60 = .ok (.iload_n 3, 1) := by decide +kernel
theorem dX12_plan_61 : decode cX12_plan 61 = .ok (.if_icmp .lt 6, 3) := by decide +kernel
theorem dX12_plan_64 : decode cX12_plan 64 = .ok (.goto 16, 3) := by decide +kernel
theorem dX12_plan_67 : decode cX12_plan 67 = .ok (.iload 4, 2) := by decide +kernel
theorem dX12_plan_69 : decode cX12_plan 69 = .ok (.istore_n 1, 1) := by decide +kernel
theorem dX12_plan_70 : decode cX12_plan 70 = .ok (.aload_n 0, 1) := by decide +kernel
theorem dX12_plan_71 : decode cX12_plan 71 = .ok (.getfield 370, 3) := by decide +kernel
theorem dX12_plan_74 : decode cX12_plan 74 = .ok (.istore_n 2, 1) := by decide +kernel
theorem dX12_plan_75 : decode cX12_plan 75 = .ok (.aload_n 0, 1) := by decide +kernel
theorem dX12_plan_76 : decode cX12_plan 76 = .ok (.getfield 361, 3) := by decide +kernel
theorem dX12_plan_79 : decode cX12_plan 79 = .ok (.istore_n 3, 1) := by decide +kernel
theorem dX12_plan_80 : decode cX12_plan 80 = .ok (.iinc 4 1, 3) := by decide +kernel
theorem dX12_plan_83 : decode cX12_plan 83 = .ok (.goto (-69), 3) := by decide +kernel
theorem dX12_plan_86 : decode cX12_plan 86 = .ok (.aload_n 0, 1) := by decide +kernel
theorem dX12_plan_87 : decode cX12_plan 87 = .ok (.iconst 0, 1) := by decide +kernel
theorem dX12_plan_88 : decode cX12_plan 88 = .ok (.putfield 146, 3) := by decide +kernel
theorem dX12_plan_91 : decode cX12_plan 91 = .ok (.aload_n 0, 1) := by decide +kernel
theorem dX12_plan_92 : decode cX12_plan 92 = .ok (.iload_n 2, 1) := by decide +kernel
theorem dX12_plan_93 : decode cX12_plan 93 = .ok (.i2l, 1) := by decide +kernel
theorem dX12_plan_94 : decode cX12_plan 94 = .ok (.invokevirtual 278, 3) := by decide +kernel
theorem dX12_plan_97 : decode cX12_plan 97 = .ok (.aload_n 0, 1) := by decide +kernel
theorem dX12_plan_98 : decode cX12_plan 98 = .ok (.iload_n 3, 1) := by decide +kernel
theorem dX12_plan_99 : decode cX12_plan 99 = .ok (.i2l, 1) := by decide +kernel
theorem dX12_plan_100 : decode cX12_plan 100 = .ok (.invokevirtual 278, 3) := by decide +kernel
theorem dX12_plan_103 : decode cX12_plan 103 = .ok (.iload_n 1, 1) := by decide +kernel
theorem dX12_plan_104 : decode cX12_plan 104 = .ok (.ireturn, 1) := by decide +kernel
set_option maxRecDepth 100000 in
set_option maxHeartbeats 4000000 in
theorem B_X12_plan_0 {κ : Nat → List Value → List Value → m2M → Prop} {D : Nat} {Q : Option Value → m2M → Prop} (h : m2_RL κ cX12_plan RX12 5 D (some .int) Q)  {μ : m2M} (k : κ 14 [.ref kM, .int (-1), .int 0, .int 0, .int 0] [] (m2_si μ kM 22 0)) : κ 0 [.ref kM, .null, .null, .null, .null] [] μ := by
  have hB := h.b
  refine m2_aload_n hB dX12_plan_0 rfl ?_
  refine m2_iconst hB dX12_plan_1 (v := 0) (by decide) ?_
  refine m2_putI hB dX12_plan_2 fl_X12_143 sh_kM rfl ?_
  refine m2_iconst hB dX12_plan_5 (v := (-1)) (by decide) ?_
  refine m2_istore_n hB (ls' := [.ref kM, .int (-1), .null, .null, .null]) dX12_plan_6 rfl (by decide) rfl ?_
  refine m2_iconst hB dX12_plan_7 (v := 0) (by decide) ?_
  refine m2_istore_n hB (ls' := [.ref kM, .int (-1), .int 0, .null, .null]) dX12_plan_8 rfl (by decide) rfl ?_
  refine m2_iconst hB dX12_plan_9 (v := 0) (by decide) ?_
  refine m2_istore_n hB (ls' := [.ref kM, .int (-1), .int 0, .int 0, .null]) dX12_plan_10 rfl (by decide) rfl ?_
  refine m2_iconst hB dX12_plan_11 (v := 0) (by decide) ?_
  refine m2_istore hB (ls' := [.ref kM, .int (-1), .int 0, .int 0, .int 0]) dX12_plan_12 (by decide) rfl ?_
  exact k
set_option maxRecDepth 100000 in
set_option maxHeartbeats 4000000 in
theorem B_X12_plan_14 {κ : Nat → List Value → List Value → m2M → Prop} {D : Nat} {Q : Option Value → m2M → Prop} (h : m2_RL κ cX12_plan RX12 5 (D + 1) (some .int) Q) {v1 : Int32} {v2 : Int32} {v3 : Int32} {v4 : Int32} {μ : m2M} (k : (4 ≤ v4 → ∃ Q4 : Option Value → m2M → Prop, m2_MT D yX12_tell cX12_tell 3 none [.ref kM, .long (v2).toInt64] (m2_si μ kM 21 0) Q4 ∧ ∀ (μ3 : m2M), Q4 none μ3 → (∃ Q9 : Option Value → m2M → Prop, m2_MT D yX12_tell cX12_tell 3 none [.ref kM, .long (v3).toInt64] μ3 Q9 ∧ ∀ (μ8 : m2M), Q9 none μ8 → (Q (some (.int v1)) μ8))) ∧ (¬ 4 ≤ v4 → ∃ Q14 : Option Value → m2M → Prop, m2_MT D yX12_putBy cX12_putBy 1 none [.ref kM] μ Q14 ∧ ∀ (μ13 : m2M), Q14 none μ13 → (∃ Q19 : Option Value → m2M → Prop, m2_MT D yX12_goAll cX12_goAll 4 none [.ref kM, .int v4, .int (-1)] μ13 Q19 ∧ ∀ (μ18 : m2M), Q19 none μ18 → (∃ Q24 : Option Value → m2M → Prop, m2_MT D yX12_bringBack cX12_bringBack 1 none [.ref kM] μ18 Q24 ∧ ∀ (μ23 : m2M), Q24 none μ23 → ((v1 = (-1) → κ 14 [.ref kM, .int v4, .int (μ23.1 kM 43), .int (μ23.1 kM 44), .int (v4 + 1)] [] μ23) ∧ (¬ v1 = (-1) → ((μ23.1 kM 43) < v2 → κ 14 [.ref kM, .int v1, .int v2, .int v3, .int (v4 + 1)] [] μ23) ∧ (¬ (μ23.1 kM 43) < v2 → (¬ (μ23.1 kM 43) = v2 → κ 14 [.ref kM, .int v4, .int (μ23.1 kM 43), .int (μ23.1 kM 44), .int (v4 + 1)] [] μ23) ∧ ((μ23.1 kM 43) = v2 → ((μ23.1 kM 44) < v3 → κ 14 [.ref kM, .int v4, .int (μ23.1 kM 43), .int (μ23.1 kM 44), .int (v4 + 1)] [] μ23) ∧ (¬ (μ23.1 kM 44) < v3 → κ 14 [.ref kM, .int v1, .int v2, .int v3, .int (v4 + 1)] [] μ23))))))))) : κ 14 [.ref kM, .int v1, .int v2, .int v3, .int v4] [] μ := by
  have hB := h.b
  refine m2_iload hB dX12_plan_14 rfl ?_
  refine m2_iconst hB dX12_plan_16 (v := 4) (by decide) ?_
  refine m2_icmp_ge hB dX12_plan_17 (tgt := 86) (by decide) (fun q1 : 4 ≤ v4 => ?_) (fun q1 : ¬ 4 ≤ v4 => ?_)
  · replace k := k.1 q1
    refine m2_aload_n hB dX12_plan_86 rfl ?_
    refine m2_iconst hB dX12_plan_87 (v := 0) (by decide) ?_
    refine m2_putI hB dX12_plan_88 fl_X12_146 sh_kM rfl ?_
    refine m2_aload_n hB dX12_plan_91 rfl ?_
    refine m2_iload_n hB dX12_plan_92 rfl ?_
    refine m2_i2l hB dX12_plan_93 ?_
    obtain ⟨Q4, hM5, k⟩ := k
    refine m2_invv hB (as := [.long (v2).toInt64]) dX12_plan_94 mv_X12_278 rfl sh_kM rfl (Nat.le_of_ble_eq_true rfl) rfl hM5 (fun μ3 hq6 => ?_)
    replace k := k μ3 hq6
    refine m2_aload_n hB dX12_plan_97 rfl ?_
    refine m2_iload_n hB dX12_plan_98 rfl ?_
    refine m2_i2l hB dX12_plan_99 ?_
    obtain ⟨Q9, hM10, k⟩ := k
    refine m2_invv hB (as := [.long (v3).toInt64]) dX12_plan_100 mv_X12_278 rfl sh_kM rfl (Nat.le_of_ble_eq_true rfl) rfl hM10 (fun μ8 hq11 => ?_)
    replace k := k μ8 hq11
    refine m2_iload_n hB dX12_plan_103 rfl ?_
    exact m2_iret h dX12_plan_104 k
  · replace k := k.2 q1
    refine m2_aload_n hB dX12_plan_20 rfl ?_
    obtain ⟨Q14, hM15, k⟩ := k
    refine m2_invv hB (as := []) dX12_plan_21 mv_X12_342 rfl sh_kM rfl (Nat.le_of_ble_eq_true rfl) rfl hM15 (fun μ13 hq16 => ?_)
    replace k := k μ13 hq16
    refine m2_aload_n hB dX12_plan_24 rfl ?_
    refine m2_iload hB dX12_plan_25 rfl ?_
    refine m2_iconst hB dX12_plan_27 (v := (-1)) (by decide) ?_
    obtain ⟨Q19, hM20, k⟩ := k
    refine m2_invv hB (as := [.int v4, .int (-1)]) dX12_plan_28 mv_X12_382 rfl sh_kM rfl (Nat.le_of_ble_eq_true rfl) rfl hM20 (fun μ18 hq21 => ?_)
    replace k := k μ18 hq21
    refine m2_aload_n hB dX12_plan_31 rfl ?_
    obtain ⟨Q24, hM25, k⟩ := k
    refine m2_invv hB (as := []) dX12_plan_32 mv_X12_348 rfl sh_kM rfl (Nat.le_of_ble_eq_true rfl) rfl hM25 (fun μ23 hq26 => ?_)
    replace k := k μ23 hq26
    refine m2_iload_n hB dX12_plan_35 rfl ?_
    refine m2_iconst hB dX12_plan_36 (v := (-1)) (by decide) ?_
    refine m2_icmp_eq hB dX12_plan_37 (tgt := 67) (by decide) (fun q27 : v1 = (-1) => ?_) (fun q27 : ¬ v1 = (-1) => ?_)
    · replace k := k.1 q27
      refine m2_iload hB dX12_plan_67 rfl ?_
      refine m2_istore_n hB (ls' := [.ref kM, .int v4, .int v2, .int v3, .int v4]) dX12_plan_69 rfl (by decide) rfl ?_
      refine m2_aload_n hB dX12_plan_70 rfl ?_
      refine m2_getI hB dX12_plan_71 fl_X12_370 sh_kM rfl ?_
      refine m2_istore_n hB (ls' := [.ref kM, .int v4, .int (μ23.1 kM 43), .int v3, .int v4]) dX12_plan_74 rfl (by decide) rfl ?_
      refine m2_aload_n hB dX12_plan_75 rfl ?_
      refine m2_getI hB dX12_plan_76 fl_X12_361 sh_kM rfl ?_
      refine m2_istore_n hB (ls' := [.ref kM, .int v4, .int (μ23.1 kM 43), .int (μ23.1 kM 44), .int v4]) dX12_plan_79 rfl (by decide) rfl ?_
      refine m2_iinc hB (ls' := [.ref kM, .int v4, .int (μ23.1 kM 43), .int (μ23.1 kM 44), .int (v4 + 1)]) (v := (v4 + 1)) dX12_plan_80 rfl (by decide) rfl rfl ?_
      refine m2_goto hB dX12_plan_83 (tgt := 14) (by decide) ?_
      exact k
    · replace k := k.2 q27
      refine m2_aload_n hB dX12_plan_40 rfl ?_
      refine m2_getI hB dX12_plan_41 fl_X12_370 sh_kM rfl ?_
      refine m2_iload_n hB dX12_plan_44 rfl ?_
      refine m2_icmp_lt hB dX12_plan_45 (tgt := 80) (by decide) (fun q28 : (μ23.1 kM 43) < v2 => ?_) (fun q28 : ¬ (μ23.1 kM 43) < v2 => ?_)
      · replace k := k.1 q28
        refine m2_iinc hB (ls' := [.ref kM, .int v1, .int v2, .int v3, .int (v4 + 1)]) (v := (v4 + 1)) dX12_plan_80 rfl (by decide) rfl rfl ?_
        refine m2_goto hB dX12_plan_83 (tgt := 14) (by decide) ?_
        exact k
      · replace k := k.2 q28
        refine m2_aload_n hB dX12_plan_48 rfl ?_
        refine m2_getI hB dX12_plan_49 fl_X12_370 sh_kM rfl ?_
        refine m2_iload_n hB dX12_plan_52 rfl ?_
        refine m2_icmp_ne hB dX12_plan_53 (tgt := 67) (by decide) (fun q29 : ¬ (μ23.1 kM 43) = v2 => ?_) (fun q29 : (μ23.1 kM 43) = v2 => ?_)
        · replace k := k.1 q29
          refine m2_iload hB dX12_plan_67 rfl ?_
          refine m2_istore_n hB (ls' := [.ref kM, .int v4, .int v2, .int v3, .int v4]) dX12_plan_69 rfl (by decide) rfl ?_
          refine m2_aload_n hB dX12_plan_70 rfl ?_
          refine m2_getI hB dX12_plan_71 fl_X12_370 sh_kM rfl ?_
          refine m2_istore_n hB (ls' := [.ref kM, .int v4, .int (μ23.1 kM 43), .int v3, .int v4]) dX12_plan_74 rfl (by decide) rfl ?_
          refine m2_aload_n hB dX12_plan_75 rfl ?_
          refine m2_getI hB dX12_plan_76 fl_X12_361 sh_kM rfl ?_
          refine m2_istore_n hB (ls' := [.ref kM, .int v4, .int (μ23.1 kM 43), .int (μ23.1 kM 44), .int v4]) dX12_plan_79 rfl (by decide) rfl ?_
          refine m2_iinc hB (ls' := [.ref kM, .int v4, .int (μ23.1 kM 43), .int (μ23.1 kM 44), .int (v4 + 1)]) (v := (v4 + 1)) dX12_plan_80 rfl (by decide) rfl rfl ?_
          refine m2_goto hB dX12_plan_83 (tgt := 14) (by decide) ?_
          exact k
        · replace k := k.2 q29
          refine m2_aload_n hB dX12_plan_56 rfl ?_
          refine m2_getI hB dX12_plan_57 fl_X12_361 sh_kM rfl ?_
          refine m2_iload_n hB dX12_plan_60 rfl ?_
          refine m2_icmp_lt hB dX12_plan_61 (tgt := 67) (by decide) (fun q30 : (μ23.1 kM 44) < v3 => ?_) (fun q30 : ¬ (μ23.1 kM 44) < v3 => ?_)
          · replace k := k.1 q30
            refine m2_iload hB dX12_plan_67 rfl ?_
            refine m2_istore_n hB (ls' := [.ref kM, .int v4, .int v2, .int v3, .int v4]) dX12_plan_69 rfl (by decide) rfl ?_
            refine m2_aload_n hB dX12_plan_70 rfl ?_
            refine m2_getI hB dX12_plan_71 fl_X12_370 sh_kM rfl ?_
            refine m2_istore_n hB (ls' := [.ref kM, .int v4, .int (μ23.1 kM 43), .int v3, .int v4]) dX12_plan_74 rfl (by decide) rfl ?_
            refine m2_aload_n hB dX12_plan_75 rfl ?_
            refine m2_getI hB dX12_plan_76 fl_X12_361 sh_kM rfl ?_
            refine m2_istore_n hB (ls' := [.ref kM, .int v4, .int (μ23.1 kM 43), .int (μ23.1 kM 44), .int v4]) dX12_plan_79 rfl (by decide) rfl ?_
            refine m2_iinc hB (ls' := [.ref kM, .int v4, .int (μ23.1 kM 43), .int (μ23.1 kM 44), .int (v4 + 1)]) (v := (v4 + 1)) dX12_plan_80 rfl (by decide) rfl rfl ?_
            refine m2_goto hB dX12_plan_83 (tgt := 14) (by decide) ?_
            exact k
          · replace k := k.2 q30
            refine m2_goto hB dX12_plan_64 (tgt := 80) (by decide) ?_
            refine m2_iinc hB (ls' := [.ref kM, .int v1, .int v2, .int v3, .int (v4 + 1)]) (v := (v4 + 1)) dX12_plan_80 rfl (by decide) rfl rfl ?_
            refine m2_goto hB dX12_plan_83 (tgt := 14) (by decide) ?_
            exact k
theorem dX12_toGo_0 : decode cX12_toGo 0 = .ok (.iconst 0, 1) := by decide +kernel
theorem dX12_toGo_1 : decode cX12_toGo 1 = .ok (.istore_n 1, 1) := by decide +kernel
theorem dX12_toGo_2 : decode cX12_toGo 2 = .ok (.iconst 0, 1) := by decide +kernel
theorem dX12_toGo_3 : decode cX12_toGo 3 = .ok (.istore_n 2, 1) := by decide +kernel
theorem dX12_toGo_4 : decode cX12_toGo 4 = .ok (.iload_n 2, 1) := by decide +kernel
theorem dX12_toGo_5 : decode cX12_toGo 5 = .ok (.aload_n 0, 1) := by decide +kernel
theorem dX12_toGo_6 : decode cX12_toGo 6 = .ok (.getfield 156, 3) := by decide +kernel
theorem dX12_toGo_9 : decode cX12_toGo 9 = .ok (.if_icmp .ge 28, 3) := by decide +kernel
theorem dX12_toGo_12 : decode cX12_toGo 12 = .ok (.iload_n 1, 1) := by decide +kernel
theorem dX12_toGo_13 : decode cX12_toGo 13 = .ok (.aload_n 0, 1) := by decide +kernel
theorem dX12_toGo_14 : decode cX12_toGo 14 = .ok (.iload_n 2, 1) := by decide +kernel
theorem dX12_toGo_15 : decode cX12_toGo 15 = .ok (.invokevirtual 241, 3) := by decide +kernel
theorem dX12_toGo_18 : decode cX12_toGo 18 = .ok (.iconst (-1), 1) := by decide +kernel
theorem dX12_toGo_19 : decode cX12_toGo 19 = .ok (.if_icmp .eq 9, 3) := by decide +kernel
theorem dX12_toGo_22 : decode cX12_toGo 22 = .ok (.iconst 1, 1) := by decide +kernel
theorem dX12_toGo_23 : decode cX12_toGo 23 = .ok (.iload_n 2, 1) := by decide +kernel
theorem dX12_toGo_24 : decode cX12_toGo 24 = .ok (.ishl, 1) := by decide +kernel
theorem dX12_toGo_25 : decode cX12_toGo 25 = .ok (.goto 4, 3) := by decide +kernel
theorem dX12_toGo_28 : decode cX12_toGo 28 = .ok (.iconst 0, 1) := by decide +kernel
theorem dX12_toGo_29 : decode cX12_toGo 29 = .ok (.ior, 1) := by decide +kernel
theorem dX12_toGo_30 : decode cX12_toGo 30 = .ok (.istore_n 1, 1) := by decide +kernel
theorem dX12_toGo_31 : decode cX12_toGo 31 = .ok (.iinc 2 1, 3) := by decide +kernel
theorem dX12_toGo_34 : decode cX12_toGo 34 = .ok (.goto (-30), 3) := by decide +kernel
theorem dX12_toGo_37 : decode cX12_toGo 37 = .ok (.iload_n 1, 1) := by decide +kernel
theorem dX12_toGo_38 : decode cX12_toGo 38 = .ok (.ireturn, 1) := by decide +kernel
set_option maxRecDepth 100000 in
set_option maxHeartbeats 4000000 in
theorem B_X12_toGo_0 {κ : Nat → List Value → List Value → m2M → Prop} {D : Nat} {Q : Option Value → m2M → Prop} (h : m2_RL κ cX12_toGo RX12 3 D (some .int) Q)  {μ : m2M} (k : κ 4 [.ref kM, .int 0, .int 0] [] μ) : κ 0 [.ref kM, .null, .null] [] μ := by
  have hB := h.b
  refine m2_iconst hB dX12_toGo_0 (v := 0) (by decide) ?_
  refine m2_istore_n hB (ls' := [.ref kM, .int 0, .null]) dX12_toGo_1 rfl (by decide) rfl ?_
  refine m2_iconst hB dX12_toGo_2 (v := 0) (by decide) ?_
  refine m2_istore_n hB (ls' := [.ref kM, .int 0, .int 0]) dX12_toGo_3 rfl (by decide) rfl ?_
  exact k
set_option maxRecDepth 100000 in
set_option maxHeartbeats 4000000 in
theorem B_X12_toGo_4 {κ : Nat → List Value → List Value → m2M → Prop} {D : Nat} {Q : Option Value → m2M → Prop} (h : m2_RL κ cX12_toGo RX12 3 (D + 1) (some .int) Q) (hD : 0 ≤ D) {v1 : Int32} {v2 : Int32} {μ : m2M} (k : ((μ.1 kM 7) ≤ v2 → Q (some (.int v1)) μ) ∧ (¬ (μ.1 kM 7) ≤ v2 → (vp_in v2 8) ∧ (κ 4 [.ref kM, .int (v1 ||| (if (fX12_nextOf v2 μ) = (-1) then 0 else ((1 : Int32) <<< (v2 &&& 31)) : Int32)), .int (v2 + 1)] [] μ))) : κ 4 [.ref kM, .int v1, .int v2] [] μ := by
  have hB := h.b
  refine m2_iload_n hB dX12_toGo_4 rfl ?_
  refine m2_aload_n hB dX12_toGo_5 rfl ?_
  refine m2_getI hB dX12_toGo_6 fl_X12_156 sh_kM rfl ?_
  refine m2_icmp_ge hB dX12_toGo_9 (tgt := 37) (by decide) (fun q1 : (μ.1 kM 7) ≤ v2 => ?_) (fun q1 : ¬ (μ.1 kM 7) ≤ v2 => ?_)
  · replace k := k.1 q1
    refine m2_iload_n hB dX12_toGo_37 rfl ?_
    exact m2_iret h dX12_toGo_38 k
  · replace k := k.2 q1
    refine m2_iload_n hB dX12_toGo_12 rfl ?_
    refine m2_aload_n hB dX12_toGo_13 rfl ?_
    refine m2_iload_n hB dX12_toGo_14 rfl ?_
    obtain ⟨hs2, k⟩ := k
    refine m2_invi hB (as := [.int v2]) dX12_toGo_15 mv_X12_241 rfl sh_kM rfl (Nat.le_of_ble_eq_true rfl) rfl (P_X12_nextOf (by omega) (v2) _ hs2) (fun y3 μ4 hq5 => ?_)
    obtain ⟨⟨⟩, hq5⟩ := hq5
    subst μ4
    refine m2_iconst hB dX12_toGo_18 (v := (-1)) (by decide) ?_
    have G7 : κ 29 [.ref kM, .int v1, .int v2] [.int (if (fX12_nextOf v2 μ) = (-1) then 0 else ((1 : Int32) <<< (v2 &&& 31)) : Int32), .int v1] μ := by
      refine m2_ior hB dX12_toGo_29 ?_
      refine m2_istore_n hB (ls' := [.ref kM, .int (v1 ||| (if (fX12_nextOf v2 μ) = (-1) then 0 else ((1 : Int32) <<< (v2 &&& 31)) : Int32)), .int v2]) dX12_toGo_30 rfl (by decide) rfl ?_
      refine m2_iinc hB (ls' := [.ref kM, .int (v1 ||| (if (fX12_nextOf v2 μ) = (-1) then 0 else ((1 : Int32) <<< (v2 &&& 31)) : Int32)), .int (v2 + 1)]) (v := (v2 + 1)) dX12_toGo_31 rfl (by decide) rfl rfl ?_
      refine m2_goto hB dX12_toGo_34 (tgt := 4) (by decide) ?_
      exact k
    refine m2_icmp_eq hB dX12_toGo_19 (tgt := 28) (by decide) (fun q6 : (fX12_nextOf v2 μ) = (-1) => ?_) (fun q6 : ¬ (fX12_nextOf v2 μ) = (-1) => ?_)
    · rw [if_pos q6] at G7
      refine m2_iconst hB dX12_toGo_28 (v := 0) (by decide) ?_
      exact G7
    · rw [if_neg q6] at G7
      refine m2_iconst hB dX12_toGo_22 (v := 1) (by decide) ?_
      refine m2_iload_n hB dX12_toGo_23 rfl ?_
      refine m2_ishl hB dX12_toGo_24 ?_
      refine m2_goto hB dX12_toGo_25 (tgt := 29) (by decide) ?_
      exact G7
theorem dX12_orderFrom_0 : decode cX12_orderFrom 0 = .ok (.iload_n 2, 1) := by decide +kernel
theorem dX12_orderFrom_1 : decode cX12_orderFrom 1 = .ok (.ifCond .eq 58, 3) := by decide +kernel
theorem dX12_orderFrom_4 : decode cX12_orderFrom 4 = .ok (.iconst 0, 1) := by decide +kernel
theorem dX12_orderFrom_5 : decode cX12_orderFrom 5 = .ok (.istore 4, 2) := by decide +kernel
theorem dX12_orderFrom_7 : decode cX12_orderFrom 7 = .ok (.iload 4, 2) := by decide +kernel
theorem dX12_orderFrom_9 : decode cX12_orderFrom 9 = .ok (.aload_n 0, 1) := by decide +kernel
theorem dX12_orderFrom_10 : decode cX12_orderFrom 10 = .ok (.getfield 156, 3) := by decide +kernel
theorem dX12_orderFrom_13 : decode cX12_orderFrom 13 = .ok (.if_icmp .ge 45, 3) := by decide +kernel
theorem dX12_orderFrom_16 : decode cX12_orderFrom 16 = .ok (.iload_n 2, 1) := by decide +kernel
theorem dX12_orderFrom_17 : decode cX12_orderFrom 17 = .ok (.iload 4, 2) := by decide +kernel
theorem dX12_orderFrom_19 : decode cX12_orderFrom 19 = .ok (.invokestatic 234, 3) := by decide +kernel
theorem dX12_orderFrom_22 : decode cX12_orderFrom 22 = .ok (.ifCond .ne 6, 3) := by decide +kernel
theorem dX12_orderFrom_25 : decode cX12_orderFrom 25 = .ok (.goto 27, 3) := by decide +kernel
theorem dX12_orderFrom_28 : decode cX12_orderFrom 28 = .ok (.aload_n 0, 1) := by decide +kernel
theorem dX12_orderFrom_29 : decode cX12_orderFrom 29 = .ok (.getfield 98, 3) := by decide +kernel
theorem dX12_orderFrom_32 : decode cX12_orderFrom 32 = .ok (.iload_n 1, 1) := by decide +kernel
theorem dX12_orderFrom_33 : decode cX12_orderFrom 33 = .ok (.iload 4, 2) := by decide +kernel
theorem dX12_orderFrom_35 : decode cX12_orderFrom 35 = .ok (.iastore, 1) := by decide +kernel
theorem dX12_orderFrom_36 : decode cX12_orderFrom 36 = .ok (.aload_n 0, 1) := by decide +kernel
theorem dX12_orderFrom_37 : decode cX12_orderFrom 37 = .ok (.iload_n 1, 1) := by decide +kernel
theorem dX12_orderFrom_38 : decode cX12_orderFrom 38 = .ok (.iconst 1, 1) := by decide +kernel
theorem dX12_orderFrom_39 : decode cX12_orderFrom 39 = .ok (.iadd, 1) := by decide +kernel
theorem dX12_orderFrom_40 : decode cX12_orderFrom 40 = .ok (.iload_n 2, 1) := by decide +kernel
theorem dX12_orderFrom_41 : decode cX12_orderFrom 41 = .ok (.iconst 1, 1) := by decide +kernel
theorem dX12_orderFrom_42 : decode cX12_orderFrom 42 = .ok (.iload 4, 2) := by decide +kernel
theorem dX12_orderFrom_44 : decode cX12_orderFrom 44 = .ok (.ishl, 1) := by decide +kernel
theorem dX12_orderFrom_45 : decode cX12_orderFrom 45 = .ok (.iconst (-1), 1) := by decide +kernel
theorem dX12_orderFrom_46 : decode cX12_orderFrom 46 = .ok (.ixor, 1) := by decide +kernel
theorem dX12_orderFrom_47 : decode cX12_orderFrom 47 = .ok (.iand, 1) := by decide +kernel
theorem dX12_orderFrom_48 : decode cX12_orderFrom 48 = .ok (.iload_n 3, 1) := by decide +kernel
theorem dX12_orderFrom_49 : decode cX12_orderFrom 49 = .ok (.invokevirtual 388, 3) := by decide +kernel
theorem dX12_orderFrom_52 : decode cX12_orderFrom 52 = .ok (.iinc 4 1, 3) := by decide +kernel
theorem dX12_orderFrom_55 : decode cX12_orderFrom 55 = .ok (.goto (-48), 3) := by decide +kernel
theorem dX12_orderFrom_58 : decode cX12_orderFrom 58 = .ok (.return_, 1) := by decide +kernel
theorem dX12_orderFrom_59 : decode cX12_orderFrom 59 = .ok (.aload_n 0, 1) := by decide +kernel
theorem dX12_orderFrom_60 : decode cX12_orderFrom 60 = .ok (.invokevirtual 342, 3) := by decide +kernel
theorem dX12_orderFrom_63 : decode cX12_orderFrom 63 = .ok (.aload_n 0, 1) := by decide +kernel
theorem dX12_orderFrom_64 : decode cX12_orderFrom 64 = .ok (.invokevirtual 373, 3) := by decide +kernel
theorem dX12_orderFrom_67 : decode cX12_orderFrom 67 = .ok (.iconst 0, 1) := by decide +kernel
theorem dX12_orderFrom_68 : decode cX12_orderFrom 68 = .ok (.istore 4, 2) := by decide +kernel
theorem dX12_orderFrom_70 : decode cX12_orderFrom 70 = .ok (.iload 4, 2) := by decide +kernel
theorem dX12_orderFrom_72 : decode cX12_orderFrom 72 = .ok (.iload_n 1, 1) := by decide +kernel
theorem dX12_orderFrom_73 : decode cX12_orderFrom 73 = .ok (.if_icmp .ge 21, 3) := by decide +kernel
theorem dX12_orderFrom_76 : decode cX12_orderFrom 76 = .ok (.aload_n 0, 1) := by decide +kernel
theorem dX12_orderFrom_77 : decode cX12_orderFrom 77 = .ok (.aload_n 0, 1) := by decide +kernel
theorem dX12_orderFrom_78 : decode cX12_orderFrom 78 = .ok (.getfield 98, 3) := by decide +kernel
theorem dX12_orderFrom_81 : decode cX12_orderFrom 81 = .ok (.iload 4, 2) := by decide +kernel
theorem dX12_orderFrom_83 : decode cX12_orderFrom 83 = .ok (.iaload, 1) := by decide +kernel
theorem dX12_orderFrom_84 : decode cX12_orderFrom 84 = .ok (.iload_n 3, 1) := by decide +kernel
theorem dX12_orderFrom_85 : decode cX12_orderFrom 85 = .ok (.invokevirtual 376, 3) := by decide +kernel
theorem dX12_orderFrom_88 : decode cX12_orderFrom 88 = .ok (.iinc 4 1, 3) := by decide +kernel
theorem dX12_orderFrom_91 : decode cX12_orderFrom 91 = .ok (.goto (-21), 3) := by decide +kernel
theorem dX12_orderFrom_94 : decode cX12_orderFrom 94 = .ok (.aload_n 0, 1) := by decide +kernel
theorem dX12_orderFrom_95 : decode cX12_orderFrom 95 = .ok (.invokevirtual 379, 3) := by decide +kernel
theorem dX12_orderFrom_98 : decode cX12_orderFrom 98 = .ok (.aload_n 0, 1) := by decide +kernel
theorem dX12_orderFrom_99 : decode cX12_orderFrom 99 = .ok (.invokevirtual 348, 3) := by decide +kernel
theorem dX12_orderFrom_102 : decode cX12_orderFrom 102 = .ok (.aload_n 0, 1) := by decide +kernel
theorem dX12_orderFrom_103 : decode cX12_orderFrom 103 = .ok (.getfield 391, 3) := by decide +kernel
theorem dX12_orderFrom_106 : decode cX12_orderFrom 106 = .ok (.iconst (-1), 1) := by decide +kernel
theorem dX12_orderFrom_107 : decode cX12_orderFrom 107 = .ok (.if_icmp .eq 37, 3) := by decide +kernel
theorem dX12_orderFrom_110 : decode cX12_orderFrom 110 = .ok (.aload_n 0, 1) := by decide +kernel
theorem dX12_orderFrom_111 : decode cX12_orderFrom 111 = .ok (.getfield 370, 3) := by decide +kernel
theorem dX12_orderFrom_114 : decode cX12_orderFrom 114 = .ok (.aload_n 0, 1) := by decide +kernel
theorem dX12_orderFrom_115 : decode cX12_orderFrom 115 = .ok (.getfield 391, 3) := by decide +kernel
theorem dX12_orderFrom_118 : decode cX12_orderFrom 118 = .ok (.if_icmp .lt 25, 3) := by decide +kernel
theorem dX12_orderFrom_121 : decode cX12_orderFrom 121 = .ok (.aload_n 0, 1) := by decide +kernel
theorem dX12_orderFrom_122 : decode cX12_orderFrom 122 = .ok (.getfield 370, 3) := by decide +kernel
theorem dX12_orderFrom_125 : decode cX12_orderFrom 125 = .ok (.aload_n 0, 1) := by decide +kernel
theorem dX12_orderFrom_126 : decode cX12_orderFrom 126 = .ok (.getfield 391, 3) := by decide +kernel
theorem dX12_orderFrom_129 : decode cX12_orderFrom 129 = .ok (.if_icmp .ne 15, 3) := by decide +kernel
theorem dX12_orderFrom_132 : decode cX12_orderFrom 132 = .ok (.aload_n 0, 1) := by decide +kernel
theorem dX12_orderFrom_133 : decode cX12_orderFrom 133 = .ok (.getfield 361, 3) := by decide +kernel
theorem dX12_orderFrom_136 : decode cX12_orderFrom 136 = .ok (.aload_n 0, 1) := by decide +kernel
theorem dX12_orderFrom_137 : decode cX12_orderFrom 137 = .ok (.getfield 394, 3) := by decide +kernel
theorem dX12_orderFrom_140 : decode cX12_orderFrom 140 = .ok (.if_icmp .lt 4, 3) := by decide +kernel
theorem dX12_orderFrom_143 : decode cX12_orderFrom 143 = .ok (.return_, 1) := by decide +kernel
theorem dX12_orderFrom_144 : decode cX12_orderFrom 144 = .ok (.aload_n 0, 1) := by decide +kernel
theorem dX12_orderFrom_145 : decode cX12_orderFrom 145 = .ok (.aload_n 0, 1) := by decide +kernel
theorem dX12_orderFrom_146 : decode cX12_orderFrom 146 = .ok (.getfield 370, 3) := by decide +kernel
theorem dX12_orderFrom_149 : decode cX12_orderFrom 149 = .ok (.putfield 391, 3) := by decide +kernel
theorem dX12_orderFrom_152 : decode cX12_orderFrom 152 = .ok (.aload_n 0, 1) := by decide +kernel
theorem dX12_orderFrom_153 : decode cX12_orderFrom 153 = .ok (.aload_n 0, 1) := by decide +kernel
theorem dX12_orderFrom_154 : decode cX12_orderFrom 154 = .ok (.getfield 361, 3) := by decide +kernel
theorem dX12_orderFrom_157 : decode cX12_orderFrom 157 = .ok (.putfield 394, 3) := by decide +kernel
theorem dX12_orderFrom_160 : decode cX12_orderFrom 160 = .ok (.iconst 0, 1) := by decide +kernel
theorem dX12_orderFrom_161 : decode cX12_orderFrom 161 = .ok (.istore 4, 2) := by decide +kernel
theorem dX12_orderFrom_163 : decode cX12_orderFrom 163 = .ok (.iload 4, 2) := by decide +kernel
theorem dX12_orderFrom_165 : decode cX12_orderFrom 165 = .ok (.iload_n 1, 1) := by decide +kernel
theorem dX12_orderFrom_166 : decode cX12_orderFrom 166 = .ok (.if_icmp .ge 23, 3) := by decide +kernel
theorem dX12_orderFrom_169 : decode cX12_orderFrom 169 = .ok (.aload_n 0, 1) := by decide +kernel
theorem dX12_orderFrom_170 : decode cX12_orderFrom 170 = .ok (.getfield 101, 3) := by decide +kernel
theorem dX12_orderFrom_173 : decode cX12_orderFrom 173 = .ok (.iload 4, 2) := by decide +kernel
theorem dX12_orderFrom_175 : decode cX12_orderFrom 175 = .ok (.aload_n 0, 1) := by decide +kernel
theorem dX12_orderFrom_176 : decode cX12_orderFrom 176 = .ok (.getfield 98, 3) := by decide +kernel
theorem dX12_orderFrom_179 : decode cX12_orderFrom 179 = .ok (.iload 4, 2) := by decide +kernel
theorem dX12_orderFrom_181 : decode cX12_orderFrom 181 = .ok (.iaload, 1) := by decide +kernel
theorem dX12_orderFrom_182 : decode cX12_orderFrom 182 = .ok (.iastore, 1) := by decide +kernel
theorem dX12_orderFrom_183 : decode cX12_orderFrom 183 = .ok (.iinc 4 1, 3) := by decide +kernel
theorem dX12_orderFrom_186 : decode cX12_orderFrom 186 = .ok (.goto (-23), 3) := by decide +kernel
theorem dX12_orderFrom_189 : decode cX12_orderFrom 189 = .ok (.return_, 1) := by decide +kernel
set_option maxRecDepth 100000 in
set_option maxHeartbeats 4000000 in
theorem B_X12_orderFrom_0 {κ : Nat → List Value → List Value → m2M → Prop} {D : Nat} {Q : Option Value → m2M → Prop} (h : m2_RL κ cX12_orderFrom RX12 5 (D + 1) none Q) {x1 : Int32} {x2 : Int32} {x3 : Int32} {μ : m2M} (k : (x2 = 0 → ∃ Q4 : Option Value → m2M → Prop, m2_MT D yX12_putBy cX12_putBy 1 none [.ref kM] μ Q4 ∧ ∀ (μ3 : m2M), Q4 none μ3 → (∃ Q9 : Option Value → m2M → Prop, m2_MT D yX12_beginDay cX12_beginDay 1 none [.ref kM] μ3 Q9 ∧ ∀ (μ8 : m2M), Q9 none μ8 → (κ 70 [.ref kM, .int x1, .int x2, .int x3, .int 0] [] μ8))) ∧ (¬ x2 = 0 → κ 7 [.ref kM, .int x1, .int x2, .int x3, .int 0] [] μ)) : κ 0 [.ref kM, .int x1, .int x2, .int x3, .null] [] μ := by
  have hB := h.b
  refine m2_iload_n hB dX12_orderFrom_0 rfl ?_
  refine m2_if_eq hB dX12_orderFrom_1 (tgt := 59) (by decide) (fun q1 : x2 = 0 => ?_) (fun q1 : ¬ x2 = 0 => ?_)
  · replace k := k.1 q1
    refine m2_aload_n hB dX12_orderFrom_59 rfl ?_
    obtain ⟨Q4, hM5, k⟩ := k
    refine m2_invv hB (as := []) dX12_orderFrom_60 mv_X12_342 rfl sh_kM rfl (Nat.le_of_ble_eq_true rfl) rfl hM5 (fun μ3 hq6 => ?_)
    replace k := k μ3 hq6
    refine m2_aload_n hB dX12_orderFrom_63 rfl ?_
    obtain ⟨Q9, hM10, k⟩ := k
    refine m2_invv hB (as := []) dX12_orderFrom_64 mv_X12_373 rfl sh_kM rfl (Nat.le_of_ble_eq_true rfl) rfl hM10 (fun μ8 hq11 => ?_)
    replace k := k μ8 hq11
    refine m2_iconst hB dX12_orderFrom_67 (v := 0) (by decide) ?_
    refine m2_istore hB (ls' := [.ref kM, .int x1, .int x2, .int x3, .int 0]) dX12_orderFrom_68 (by decide) rfl ?_
    exact k
  · replace k := k.2 q1
    refine m2_iconst hB dX12_orderFrom_4 (v := 0) (by decide) ?_
    refine m2_istore hB (ls' := [.ref kM, .int x1, .int x2, .int x3, .int 0]) dX12_orderFrom_5 (by decide) rfl ?_
    exact k
set_option maxRecDepth 100000 in
set_option maxHeartbeats 4000000 in
theorem B_X12_orderFrom_7 {κ : Nat → List Value → List Value → m2M → Prop} {D : Nat} {Q : Option Value → m2M → Prop} (h : m2_RL κ cX12_orderFrom RX12 5 (D + 1) none Q) (hD : 0 ≤ D) {v1 : Int32} {v2 : Int32} {v3 : Int32} {v4 : Int32} {μ : m2M} (k : ((μ.1 kM 7) ≤ v4 → Q none μ) ∧ (¬ (μ.1 kM 7) ≤ v4 → ((fX12_has v2 v4) = 1 → (vp_in v1 6) ∧ (∃ Q12 : Option Value → m2M → Prop, m2_MT D yX12_orderFrom cX12_orderFrom 5 none [.ref kM, .int (v1 + 1), .int (v2 &&& (((1 : Int32) <<< (v4 &&& 31)) ^^^ ((-1) : Int32))), .int v3] (m2_si μ kM_line (v1).toNatClampNeg v4) Q12 ∧ ∀ (μ11 : m2M), Q12 none μ11 → (κ 7 [.ref kM, .int v1, .int v2, .int v3, .int (v4 + 1)] [] μ11))) ∧ (¬ (fX12_has v2 v4) = 1 → κ 7 [.ref kM, .int v1, .int v2, .int v3, .int (v4 + 1)] [] μ))) : κ 7 [.ref kM, .int v1, .int v2, .int v3, .int v4] [] μ := by
  have hB := h.b
  refine m2_iload hB dX12_orderFrom_7 rfl ?_
  refine m2_aload_n hB dX12_orderFrom_9 rfl ?_
  refine m2_getI hB dX12_orderFrom_10 fl_X12_156 sh_kM rfl ?_
  refine m2_icmp_ge hB dX12_orderFrom_13 (tgt := 58) (by decide) (fun q4 : (μ.1 kM 7) ≤ v4 => ?_) (fun q4 : ¬ (μ.1 kM 7) ≤ v4 => ?_)
  · replace k := k.1 q4
    exact m2_vret h dX12_orderFrom_58 k
  · replace k := k.2 q4
    refine m2_iload_n hB dX12_orderFrom_16 rfl ?_
    refine m2_iload hB dX12_orderFrom_17 rfl ?_
    refine m2_invSz hB (as := [.int v2, .int v4]) dX12_orderFrom_19 ms_X12_234 rfl (Nat.le_of_ble_eq_true rfl) rfl (P_X12_has (by omega) (v2) (v4) _ ) (fun y5 μ6 hq7 => ?_)
    obtain ⟨⟨⟩, hq7⟩ := hq7
    subst μ6
    show κ 22 [.ref kM, .int v1, .int v2, .int v3, .int v4] [.int (if (fX12_has v2 v4) = 1 then 1 else 0 : Int32)] μ
    by_cases q8 : (fX12_has v2 v4) = 1
    · rw [if_pos q8]
      replace k := k.1 q8
      refine m2_if_ne hB dX12_orderFrom_22 (tgt := 28) (by decide) (fun _ => ?_) (fun q => absurd q (by decide))
      refine m2_aload_n hB dX12_orderFrom_28 rfl ?_
      refine m2_getR hB dX12_orderFrom_29 fl_X12_98 sh_kM (c1 := kM_line) rfl ?_
      refine m2_iload_n hB dX12_orderFrom_32 rfl ?_
      refine m2_iload hB dX12_orderFrom_33 rfl ?_
      obtain ⟨hi9, k⟩ := k
      refine m2_iast hB dX12_orderFrom_35 sh_kM_line hi9 ?_
      refine m2_aload_n hB dX12_orderFrom_36 rfl ?_
      refine m2_iload_n hB dX12_orderFrom_37 rfl ?_
      refine m2_iconst hB dX12_orderFrom_38 (v := 1) (by decide) ?_
      refine m2_iadd hB dX12_orderFrom_39 ?_
      refine m2_iload_n hB dX12_orderFrom_40 rfl ?_
      refine m2_iconst hB dX12_orderFrom_41 (v := 1) (by decide) ?_
      refine m2_iload hB dX12_orderFrom_42 rfl ?_
      refine m2_ishl hB dX12_orderFrom_44 ?_
      refine m2_iconst hB dX12_orderFrom_45 (v := (-1)) (by decide) ?_
      refine m2_ixor hB dX12_orderFrom_46 ?_
      refine m2_iand hB dX12_orderFrom_47 ?_
      refine m2_iload_n hB dX12_orderFrom_48 rfl ?_
      obtain ⟨Q12, hM13, k⟩ := k
      refine m2_invv hB (as := [.int (v1 + 1), .int (v2 &&& (((1 : Int32) <<< (v4 &&& 31)) ^^^ ((-1) : Int32))), .int v3]) dX12_orderFrom_49 mv_X12_388 rfl sh_kM rfl (Nat.le_of_ble_eq_true rfl) rfl hM13 (fun μ11 hq14 => ?_)
      replace k := k μ11 hq14
      refine m2_iinc hB (ls' := [.ref kM, .int v1, .int v2, .int v3, .int (v4 + 1)]) (v := (v4 + 1)) dX12_orderFrom_52 rfl (by decide) rfl rfl ?_
      refine m2_goto hB dX12_orderFrom_55 (tgt := 7) (by decide) ?_
      exact k
    · rw [if_neg q8]
      replace k := k.2 q8
      refine m2_if_ne hB dX12_orderFrom_22 (tgt := 28) (by decide) (fun q => absurd q (by decide)) (fun _ => ?_)
      refine m2_goto hB dX12_orderFrom_25 (tgt := 52) (by decide) ?_
      refine m2_iinc hB (ls' := [.ref kM, .int v1, .int v2, .int v3, .int (v4 + 1)]) (v := (v4 + 1)) dX12_orderFrom_52 rfl (by decide) rfl rfl ?_
      refine m2_goto hB dX12_orderFrom_55 (tgt := 7) (by decide) ?_
      exact k
set_option maxRecDepth 100000 in
set_option maxHeartbeats 4000000 in
theorem B_X12_orderFrom_70 {κ : Nat → List Value → List Value → m2M → Prop} {D : Nat} {Q : Option Value → m2M → Prop} (h : m2_RL κ cX12_orderFrom RX12 5 (D + 1) none Q) {v1 : Int32} {v2 : Int32} {v3 : Int32} {v4 : Int32} {μ : m2M} (k : (v1 ≤ v4 → ∃ Q5 : Option Value → m2M → Prop, m2_MT D yX12_endDay cX12_endDay 2 none [.ref kM] μ Q5 ∧ ∀ (μ4 : m2M), Q5 none μ4 → (∃ Q10 : Option Value → m2M → Prop, m2_MT D yX12_bringBack cX12_bringBack 1 none [.ref kM] μ4 Q10 ∧ ∀ (μ9 : m2M), Q10 none μ9 → (((μ9.1 kM 48) = (-1) → κ 163 [.ref kM, .int v1, .int v2, .int v3, .int 0] [] (m2_si (m2_si μ9 kM 48 (μ9.1 kM 43)) kM 49 (μ9.1 kM 44))) ∧ (¬ (μ9.1 kM 48) = (-1) → ((μ9.1 kM 43) < (μ9.1 kM 48) → Q none μ9) ∧ (¬ (μ9.1 kM 43) < (μ9.1 kM 48) → (¬ (μ9.1 kM 43) = (μ9.1 kM 48) → κ 163 [.ref kM, .int v1, .int v2, .int v3, .int 0] [] (m2_si (m2_si μ9 kM 48 (μ9.1 kM 43)) kM 49 (μ9.1 kM 44))) ∧ ((μ9.1 kM 43) = (μ9.1 kM 48) → ((μ9.1 kM 44) < (μ9.1 kM 49) → κ 163 [.ref kM, .int v1, .int v2, .int v3, .int 0] [] (m2_si (m2_si μ9 kM 48 (μ9.1 kM 43)) kM 49 (μ9.1 kM 44))) ∧ (¬ (μ9.1 kM 44) < (μ9.1 kM 49) → Q none μ9))))))) ∧ (¬ v1 ≤ v4 → (vp_in v4 6) ∧ (∃ Q20 : Option Value → m2M → Prop, m2_MT D yX12_dayOf cX12_dayOf 5 none [.ref kM, .int (μ.1 kM_line (v4).toNatClampNeg), .int v3] μ Q20 ∧ ∀ (μ19 : m2M), Q20 none μ19 → (κ 70 [.ref kM, .int v1, .int v2, .int v3, .int (v4 + 1)] [] μ19)))) : κ 70 [.ref kM, .int v1, .int v2, .int v3, .int v4] [] μ := by
  have hB := h.b
  refine m2_iload hB dX12_orderFrom_70 rfl ?_
  refine m2_iload_n hB dX12_orderFrom_72 rfl ?_
  refine m2_icmp_ge hB dX12_orderFrom_73 (tgt := 94) (by decide) (fun q2 : v1 ≤ v4 => ?_) (fun q2 : ¬ v1 ≤ v4 => ?_)
  · replace k := k.1 q2
    refine m2_aload_n hB dX12_orderFrom_94 rfl ?_
    obtain ⟨Q5, hM6, k⟩ := k
    refine m2_invv hB (as := []) dX12_orderFrom_95 mv_X12_379 rfl sh_kM rfl (Nat.le_of_ble_eq_true rfl) rfl hM6 (fun μ4 hq7 => ?_)
    replace k := k μ4 hq7
    refine m2_aload_n hB dX12_orderFrom_98 rfl ?_
    obtain ⟨Q10, hM11, k⟩ := k
    refine m2_invv hB (as := []) dX12_orderFrom_99 mv_X12_348 rfl sh_kM rfl (Nat.le_of_ble_eq_true rfl) rfl hM11 (fun μ9 hq12 => ?_)
    replace k := k μ9 hq12
    refine m2_aload_n hB dX12_orderFrom_102 rfl ?_
    refine m2_getI hB dX12_orderFrom_103 fl_X12_391 sh_kM rfl ?_
    refine m2_iconst hB dX12_orderFrom_106 (v := (-1)) (by decide) ?_
    refine m2_icmp_eq hB dX12_orderFrom_107 (tgt := 144) (by decide) (fun q13 : (μ9.1 kM 48) = (-1) => ?_) (fun q13 : ¬ (μ9.1 kM 48) = (-1) => ?_)
    · replace k := k.1 q13
      refine m2_aload_n hB dX12_orderFrom_144 rfl ?_
      refine m2_aload_n hB dX12_orderFrom_145 rfl ?_
      refine m2_getI hB dX12_orderFrom_146 fl_X12_370 sh_kM rfl ?_
      refine m2_putI hB dX12_orderFrom_149 fl_X12_391 sh_kM rfl ?_
      refine m2_aload_n hB dX12_orderFrom_152 rfl ?_
      refine m2_aload_n hB dX12_orderFrom_153 rfl ?_
      refine m2_getI hB dX12_orderFrom_154 fl_X12_361 sh_kM rfl ?_
      refine m2_putI hB dX12_orderFrom_157 fl_X12_394 sh_kM rfl ?_
      refine m2_iconst hB dX12_orderFrom_160 (v := 0) (by decide) ?_
      refine m2_istore hB (ls' := [.ref kM, .int v1, .int v2, .int v3, .int 0]) dX12_orderFrom_161 (by decide) rfl ?_
      exact k
    · replace k := k.2 q13
      refine m2_aload_n hB dX12_orderFrom_110 rfl ?_
      refine m2_getI hB dX12_orderFrom_111 fl_X12_370 sh_kM rfl ?_
      refine m2_aload_n hB dX12_orderFrom_114 rfl ?_
      refine m2_getI hB dX12_orderFrom_115 fl_X12_391 sh_kM rfl ?_
      refine m2_icmp_lt hB dX12_orderFrom_118 (tgt := 143) (by decide) (fun q14 : (μ9.1 kM 43) < (μ9.1 kM 48) => ?_) (fun q14 : ¬ (μ9.1 kM 43) < (μ9.1 kM 48) => ?_)
      · replace k := k.1 q14
        exact m2_vret h dX12_orderFrom_143 k
      · replace k := k.2 q14
        refine m2_aload_n hB dX12_orderFrom_121 rfl ?_
        refine m2_getI hB dX12_orderFrom_122 fl_X12_370 sh_kM rfl ?_
        refine m2_aload_n hB dX12_orderFrom_125 rfl ?_
        refine m2_getI hB dX12_orderFrom_126 fl_X12_391 sh_kM rfl ?_
        refine m2_icmp_ne hB dX12_orderFrom_129 (tgt := 144) (by decide) (fun q15 : ¬ (μ9.1 kM 43) = (μ9.1 kM 48) => ?_) (fun q15 : (μ9.1 kM 43) = (μ9.1 kM 48) => ?_)
        · replace k := k.1 q15
          refine m2_aload_n hB dX12_orderFrom_144 rfl ?_
          refine m2_aload_n hB dX12_orderFrom_145 rfl ?_
          refine m2_getI hB dX12_orderFrom_146 fl_X12_370 sh_kM rfl ?_
          refine m2_putI hB dX12_orderFrom_149 fl_X12_391 sh_kM rfl ?_
          refine m2_aload_n hB dX12_orderFrom_152 rfl ?_
          refine m2_aload_n hB dX12_orderFrom_153 rfl ?_
          refine m2_getI hB dX12_orderFrom_154 fl_X12_361 sh_kM rfl ?_
          refine m2_putI hB dX12_orderFrom_157 fl_X12_394 sh_kM rfl ?_
          refine m2_iconst hB dX12_orderFrom_160 (v := 0) (by decide) ?_
          refine m2_istore hB (ls' := [.ref kM, .int v1, .int v2, .int v3, .int 0]) dX12_orderFrom_161 (by decide) rfl ?_
          exact k
        · replace k := k.2 q15
          refine m2_aload_n hB dX12_orderFrom_132 rfl ?_
          refine m2_getI hB dX12_orderFrom_133 fl_X12_361 sh_kM rfl ?_
          refine m2_aload_n hB dX12_orderFrom_136 rfl ?_
          refine m2_getI hB dX12_orderFrom_137 fl_X12_394 sh_kM rfl ?_
          refine m2_icmp_lt hB dX12_orderFrom_140 (tgt := 144) (by decide) (fun q16 : (μ9.1 kM 44) < (μ9.1 kM 49) => ?_) (fun q16 : ¬ (μ9.1 kM 44) < (μ9.1 kM 49) => ?_)
          · replace k := k.1 q16
            refine m2_aload_n hB dX12_orderFrom_144 rfl ?_
            refine m2_aload_n hB dX12_orderFrom_145 rfl ?_
            refine m2_getI hB dX12_orderFrom_146 fl_X12_370 sh_kM rfl ?_
            refine m2_putI hB dX12_orderFrom_149 fl_X12_391 sh_kM rfl ?_
            refine m2_aload_n hB dX12_orderFrom_152 rfl ?_
            refine m2_aload_n hB dX12_orderFrom_153 rfl ?_
            refine m2_getI hB dX12_orderFrom_154 fl_X12_361 sh_kM rfl ?_
            refine m2_putI hB dX12_orderFrom_157 fl_X12_394 sh_kM rfl ?_
            refine m2_iconst hB dX12_orderFrom_160 (v := 0) (by decide) ?_
            refine m2_istore hB (ls' := [.ref kM, .int v1, .int v2, .int v3, .int 0]) dX12_orderFrom_161 (by decide) rfl ?_
            exact k
          · replace k := k.2 q16
            exact m2_vret h dX12_orderFrom_143 k
  · replace k := k.2 q2
    refine m2_aload_n hB dX12_orderFrom_76 rfl ?_
    refine m2_aload_n hB dX12_orderFrom_77 rfl ?_
    refine m2_getR hB dX12_orderFrom_78 fl_X12_98 sh_kM (c1 := kM_line) rfl ?_
    refine m2_iload hB dX12_orderFrom_81 rfl ?_
    obtain ⟨hi17, k⟩ := k
    refine m2_iald hB dX12_orderFrom_83 sh_kM_line hi17 ?_
    refine m2_iload_n hB dX12_orderFrom_84 rfl ?_
    obtain ⟨Q20, hM21, k⟩ := k
    refine m2_invv hB (as := [.int (μ.1 kM_line (v4).toNatClampNeg), .int v3]) dX12_orderFrom_85 mv_X12_376 rfl sh_kM rfl (Nat.le_of_ble_eq_true rfl) rfl hM21 (fun μ19 hq22 => ?_)
    replace k := k μ19 hq22
    refine m2_iinc hB (ls' := [.ref kM, .int v1, .int v2, .int v3, .int (v4 + 1)]) (v := (v4 + 1)) dX12_orderFrom_88 rfl (by decide) rfl rfl ?_
    refine m2_goto hB dX12_orderFrom_91 (tgt := 70) (by decide) ?_
    exact k
set_option maxRecDepth 100000 in
set_option maxHeartbeats 4000000 in
theorem B_X12_orderFrom_163 {κ : Nat → List Value → List Value → m2M → Prop} {D : Nat} {Q : Option Value → m2M → Prop} (h : m2_RL κ cX12_orderFrom RX12 5 D none Q) {v1 : Int32} {v2 : Int32} {v3 : Int32} {v4 : Int32} {μ : m2M} (k : (v1 ≤ v4 → Q none μ) ∧ (¬ v1 ≤ v4 → (vp_in v4 6) ∧ (κ 163 [.ref kM, .int v1, .int v2, .int v3, .int (v4 + 1)] [] (m2_si μ kM_bestLine (v4).toNatClampNeg (μ.1 kM_line (v4).toNatClampNeg))))) : κ 163 [.ref kM, .int v1, .int v2, .int v3, .int v4] [] μ := by
  have hB := h.b
  refine m2_iload hB dX12_orderFrom_163 rfl ?_
  refine m2_iload_n hB dX12_orderFrom_165 rfl ?_
  refine m2_icmp_ge hB dX12_orderFrom_166 (tgt := 189) (by decide) (fun q2 : v1 ≤ v4 => ?_) (fun q2 : ¬ v1 ≤ v4 => ?_)
  · replace k := k.1 q2
    exact m2_vret h dX12_orderFrom_189 k
  · replace k := k.2 q2
    refine m2_aload_n hB dX12_orderFrom_169 rfl ?_
    refine m2_getR hB dX12_orderFrom_170 fl_X12_101 sh_kM (c1 := kM_bestLine) rfl ?_
    refine m2_iload hB dX12_orderFrom_173 rfl ?_
    refine m2_aload_n hB dX12_orderFrom_175 rfl ?_
    refine m2_getR hB dX12_orderFrom_176 fl_X12_98 sh_kM (c1 := kM_line) rfl ?_
    refine m2_iload hB dX12_orderFrom_179 rfl ?_
    obtain ⟨hi3, k⟩ := k
    refine m2_iald hB dX12_orderFrom_181 sh_kM_line hi3 ?_
    have hi4 := hi3
    refine m2_iast hB dX12_orderFrom_182 sh_kM_bestLine hi4 ?_
    refine m2_iinc hB (ls' := [.ref kM, .int v1, .int v2, .int v3, .int (v4 + 1)]) (v := (v4 + 1)) dX12_orderFrom_183 rfl (by decide) rfl rfl ?_
    refine m2_goto hB dX12_orderFrom_186 (tgt := 163) (by decide) ?_
    exact k
theorem dX12_order_0 : decode cX12_order 0 = .ok (.aload_n 0, 1) := by decide +kernel
theorem dX12_order_1 : decode cX12_order 1 = .ok (.iconst 0, 1) := by decide +kernel
theorem dX12_order_2 : decode cX12_order 2 = .ok (.putfield 143, 3) := by decide +kernel
theorem dX12_order_5 : decode cX12_order 5 = .ok (.iload_n 1, 1) := by decide +kernel
theorem dX12_order_6 : decode cX12_order 6 = .ok (.iconst 0, 1) := by decide +kernel
theorem dX12_order_7 : decode cX12_order 7 = .ok (.iconst 3, 1) := by decide +kernel
theorem dX12_order_8 : decode cX12_order 8 = .ok (.invokestatic 149, 3) := by decide +kernel
theorem dX12_order_11 : decode cX12_order 11 = .ok (.ifCond .ne 5, 3) := by decide +kernel
theorem dX12_order_14 : decode cX12_order 14 = .ok (.iconst (-1), 1) := by decide +kernel
theorem dX12_order_15 : decode cX12_order 15 = .ok (.ireturn, 1) := by decide +kernel
theorem dX12_order_16 : decode cX12_order 16 = .ok (.aload_n 0, 1) := by decide +kernel
theorem dX12_order_17 : decode cX12_order 17 = .ok (.invokevirtual 397, 3) := by decide +kernel
theorem dX12_order_20 : decode cX12_order 20 = .ok (.istore_n 2, 1) := by decide +kernel
theorem dX12_order_21 : decode cX12_order 21 = .ok (.iload_n 2, 1) := by decide +kernel
theorem dX12_order_22 : decode cX12_order 22 = .ok (.invokestatic 251, 3) := by decide +kernel
theorem dX12_order_25 : decode cX12_order 25 = .ok (.bipush 6, 2) := by decide +kernel
theorem dX12_order_27 : decode cX12_order 27 = .ok (.if_icmp .le 6, 3) := by decide +kernel
theorem dX12_order_30 : decode cX12_order 30 = .ok (.bipush (-3), 2) := by decide +kernel
theorem dX12_order_32 : decode cX12_order 32 = .ok (.ireturn, 1) := by decide +kernel
theorem dX12_order_33 : decode cX12_order 33 = .ok (.aload_n 0, 1) := by decide +kernel
theorem dX12_order_34 : decode cX12_order 34 = .ok (.iconst (-1), 1) := by decide +kernel
theorem dX12_order_35 : decode cX12_order 35 = .ok (.putfield 391, 3) := by decide +kernel
theorem dX12_order_38 : decode cX12_order 38 = .ok (.aload_n 0, 1) := by decide +kernel
theorem dX12_order_39 : decode cX12_order 39 = .ok (.iconst 0, 1) := by decide +kernel
theorem dX12_order_40 : decode cX12_order 40 = .ok (.iload_n 2, 1) := by decide +kernel
theorem dX12_order_41 : decode cX12_order 41 = .ok (.iload_n 1, 1) := by decide +kernel
theorem dX12_order_42 : decode cX12_order 42 = .ok (.invokevirtual 388, 3) := by decide +kernel
theorem dX12_order_45 : decode cX12_order 45 = .ok (.aload_n 0, 1) := by decide +kernel
theorem dX12_order_46 : decode cX12_order 46 = .ok (.iconst 0, 1) := by decide +kernel
theorem dX12_order_47 : decode cX12_order 47 = .ok (.putfield 146, 3) := by decide +kernel
theorem dX12_order_50 : decode cX12_order 50 = .ok (.aload_n 0, 1) := by decide +kernel
theorem dX12_order_51 : decode cX12_order 51 = .ok (.aload_n 0, 1) := by decide +kernel
theorem dX12_order_52 : decode cX12_order 52 = .ok (.getfield 394, 3) := by decide +kernel
theorem dX12_order_55 : decode cX12_order 55 = .ok (.i2l, 1) := by decide +kernel
theorem dX12_order_56 : decode cX12_order 56 = .ok (.invokevirtual 278, 3) := by decide +kernel
theorem dX12_order_59 : decode cX12_order 59 = .ok (.iconst 0, 1) := by decide +kernel
theorem dX12_order_60 : decode cX12_order 60 = .ok (.istore_n 3, 1) := by decide +kernel
theorem dX12_order_61 : decode cX12_order 61 = .ok (.iload_n 3, 1) := by decide +kernel
theorem dX12_order_62 : decode cX12_order 62 = .ok (.iload_n 2, 1) := by decide +kernel
theorem dX12_order_63 : decode cX12_order 63 = .ok (.invokestatic 251, 3) := by decide +kernel
theorem dX12_order_66 : decode cX12_order 66 = .ok (.if_icmp .ge 20, 3) := by decide +kernel
theorem dX12_order_69 : decode cX12_order 69 = .ok (.aload_n 0, 1) := by decide +kernel
theorem dX12_order_70 : decode cX12_order 70 = .ok (.aload_n 0, 1) := by decide +kernel
theorem dX12_order_71 : decode cX12_order 71 = .ok (.getfield 101, 3) := by decide +kernel
theorem dX12_order_74 : decode cX12_order 74 = .ok (.iload_n 3, 1) := by decide +kernel
theorem dX12_order_75 : decode cX12_order 75 = .ok (.iaload, 1) := by decide +kernel
theorem dX12_order_76 : decode cX12_order 76 = .ok (.i2l, 1) := by decide +kernel
theorem dX12_order_77 : decode cX12_order 77 = .ok (.invokevirtual 278, 3) := by decide +kernel
theorem dX12_order_80 : decode cX12_order 80 = .ok (.iinc 3 1, 3) := by decide +kernel
theorem dX12_order_83 : decode cX12_order 83 = .ok (.goto (-22), 3) := by decide +kernel
theorem dX12_order_86 : decode cX12_order 86 = .ok (.aload_n 0, 1) := by decide +kernel
theorem dX12_order_87 : decode cX12_order 87 = .ok (.getfield 391, 3) := by decide +kernel
theorem dX12_order_90 : decode cX12_order 90 = .ok (.ireturn, 1) := by decide +kernel
set_option maxRecDepth 100000 in
set_option maxHeartbeats 4000000 in
theorem B_X12_order_0 {κ : Nat → List Value → List Value → m2M → Prop} {D : Nat} {Q : Option Value → m2M → Prop} (h : m2_RL κ cX12_order RX12 4 (D + 1) (some .int) Q) (hD : 0 ≤ D) {x1 : Int32} {μ : m2M} (k : ((fX12_in x1 0 3) = 1 → ∃ Q7 : Option Value → m2M → Prop, m2_MT D yX12_toGo cX12_toGo 3 (some .int) [.ref kM] (m2_si μ kM 22 0) Q7 ∧ ∀ (y5 : Int32) (μ6 : m2M), Q7 (some (.int y5)) μ6 → (((fJ6_bitCount_0f7a4 y5) ≤ 6 → ∃ Q16 : Option Value → m2M → Prop, m2_MT D yX12_orderFrom cX12_orderFrom 5 none [.ref kM, .int 0, .int y5, .int x1] (m2_si μ6 kM 48 (-1)) Q16 ∧ ∀ (μ15 : m2M), Q16 none μ15 → (∃ Q21 : Option Value → m2M → Prop, m2_MT D yX12_tell cX12_tell 3 none [.ref kM, .long ((μ15.1 kM 49)).toInt64] (m2_si μ15 kM 21 0) Q21 ∧ ∀ (μ20 : m2M), Q21 none μ20 → (κ 61 [.ref kM, .int x1, .int y5, .int 0] [] μ20))) ∧ (¬ (fJ6_bitCount_0f7a4 y5) ≤ 6 → Q (some (.int (-3))) μ6))) ∧ (¬ (fX12_in x1 0 3) = 1 → Q (some (.int (-1))) (m2_si μ kM 22 0))) : κ 0 [.ref kM, .int x1, .null, .null] [] μ := by
  have hB := h.b
  refine m2_aload_n hB dX12_order_0 rfl ?_
  refine m2_iconst hB dX12_order_1 (v := 0) (by decide) ?_
  refine m2_putI hB dX12_order_2 fl_X12_143 sh_kM rfl ?_
  refine m2_iload_n hB dX12_order_5 rfl ?_
  refine m2_iconst hB dX12_order_6 (v := 0) (by decide) ?_
  refine m2_iconst hB dX12_order_7 (v := 3) (by decide) ?_
  refine m2_invSz hB (as := [.int x1, .int 0, .int 3]) dX12_order_8 ms_X12_149 rfl (Nat.le_of_ble_eq_true rfl) rfl (P_X12_in (by omega) (x1) (0) (3) _ ) (fun y1 μ2 hq3 => ?_)
  obtain ⟨⟨⟩, hq3⟩ := hq3
  subst μ2
  show κ 11 [.ref kM, .int x1, .null, .null] [.int (if (fX12_in x1 0 3) = 1 then 1 else 0 : Int32)] (m2_si μ kM 22 0)
  by_cases q4 : (fX12_in x1 0 3) = 1
  · rw [if_pos q4]
    replace k := k.1 q4
    refine m2_if_ne hB dX12_order_11 (tgt := 16) (by decide) (fun _ => ?_) (fun q => absurd q (by decide))
    refine m2_aload_n hB dX12_order_16 rfl ?_
    obtain ⟨Q7, hM8, k⟩ := k
    refine m2_invi hB (as := []) dX12_order_17 mv_X12_397 rfl sh_kM rfl (Nat.le_of_ble_eq_true rfl) rfl hM8 (fun y5 μ6 hq9 => ?_)
    replace k := k y5 μ6 hq9
    refine m2_istore_n hB (ls' := [.ref kM, .int x1, .int y5, .null]) dX12_order_20 rfl (by decide) rfl ?_
    refine m2_iload_n hB dX12_order_21 rfl ?_
    refine m2_invSi hB (as := [.int y5]) dX12_order_22 ms_X12_251 rfl (Nat.le_of_ble_eq_true rfl) rfl (P_J6_bitCount_0f7a4 (by omega) (y5) _ ) (fun y10 μ11 hq12 => ?_)
    obtain ⟨⟨⟩, hq12⟩ := hq12
    subst μ11
    refine m2_bipush hB dX12_order_25 (v := 6) (by decide) ?_
    refine m2_icmp_le hB dX12_order_27 (tgt := 33) (by decide) (fun q13 : (fJ6_bitCount_0f7a4 y5) ≤ 6 => ?_) (fun q13 : ¬ (fJ6_bitCount_0f7a4 y5) ≤ 6 => ?_)
    · replace k := k.1 q13
      refine m2_aload_n hB dX12_order_33 rfl ?_
      refine m2_iconst hB dX12_order_34 (v := (-1)) (by decide) ?_
      refine m2_putI hB dX12_order_35 fl_X12_391 sh_kM rfl ?_
      refine m2_aload_n hB dX12_order_38 rfl ?_
      refine m2_iconst hB dX12_order_39 (v := 0) (by decide) ?_
      refine m2_iload_n hB dX12_order_40 rfl ?_
      refine m2_iload_n hB dX12_order_41 rfl ?_
      obtain ⟨Q16, hM17, k⟩ := k
      refine m2_invv hB (as := [.int 0, .int y5, .int x1]) dX12_order_42 mv_X12_388 rfl sh_kM rfl (Nat.le_of_ble_eq_true rfl) rfl hM17 (fun μ15 hq18 => ?_)
      replace k := k μ15 hq18
      refine m2_aload_n hB dX12_order_45 rfl ?_
      refine m2_iconst hB dX12_order_46 (v := 0) (by decide) ?_
      refine m2_putI hB dX12_order_47 fl_X12_146 sh_kM rfl ?_
      refine m2_aload_n hB dX12_order_50 rfl ?_
      refine m2_aload_n hB dX12_order_51 rfl ?_
      refine m2_getI hB dX12_order_52 fl_X12_394 sh_kM rfl ?_
      refine m2_i2l hB dX12_order_55 ?_
      obtain ⟨Q21, hM22, k⟩ := k
      refine m2_invv hB (as := [.long ((μ15.1 kM 49)).toInt64]) dX12_order_56 mv_X12_278 rfl sh_kM rfl (Nat.le_of_ble_eq_true rfl) rfl hM22 (fun μ20 hq23 => ?_)
      replace k := k μ20 hq23
      refine m2_iconst hB dX12_order_59 (v := 0) (by decide) ?_
      refine m2_istore_n hB (ls' := [.ref kM, .int x1, .int y5, .int 0]) dX12_order_60 rfl (by decide) rfl ?_
      exact k
    · replace k := k.2 q13
      refine m2_bipush hB dX12_order_30 (v := (-3)) (by decide) ?_
      exact m2_iret h dX12_order_32 k
  · rw [if_neg q4]
    replace k := k.2 q4
    refine m2_if_ne hB dX12_order_11 (tgt := 16) (by decide) (fun q => absurd q (by decide)) (fun _ => ?_)
    refine m2_iconst hB dX12_order_14 (v := (-1)) (by decide) ?_
    exact m2_iret h dX12_order_15 k
set_option maxRecDepth 100000 in
set_option maxHeartbeats 4000000 in
theorem B_X12_order_61 {κ : Nat → List Value → List Value → m2M → Prop} {D : Nat} {Q : Option Value → m2M → Prop} (h : m2_RL κ cX12_order RX12 4 (D + 1) (some .int) Q) (hD : 0 ≤ D) {v1 : Int32} {v2 : Int32} {v3 : Int32} {μ : m2M} (k : ((fJ6_bitCount_0f7a4 v2) ≤ v3 → Q (some (.int (μ.1 kM 48))) μ) ∧ (¬ (fJ6_bitCount_0f7a4 v2) ≤ v3 → (vp_in v3 6) ∧ (∃ Q9 : Option Value → m2M → Prop, m2_MT D yX12_tell cX12_tell 3 none [.ref kM, .long ((μ.1 kM_bestLine (v3).toNatClampNeg)).toInt64] μ Q9 ∧ ∀ (μ8 : m2M), Q9 none μ8 → (κ 61 [.ref kM, .int v1, .int v2, .int (v3 + 1)] [] μ8)))) : κ 61 [.ref kM, .int v1, .int v2, .int v3] [] μ := by
  have hB := h.b
  refine m2_iload_n hB dX12_order_61 rfl ?_
  refine m2_iload_n hB dX12_order_62 rfl ?_
  refine m2_invSi hB (as := [.int v2]) dX12_order_63 ms_X12_251 rfl (Nat.le_of_ble_eq_true rfl) rfl (P_J6_bitCount_0f7a4 (by omega) (v2) _ ) (fun y1 μ2 hq3 => ?_)
  obtain ⟨⟨⟩, hq3⟩ := hq3
  subst μ2
  refine m2_icmp_ge hB dX12_order_66 (tgt := 86) (by decide) (fun q5 : (fJ6_bitCount_0f7a4 v2) ≤ v3 => ?_) (fun q5 : ¬ (fJ6_bitCount_0f7a4 v2) ≤ v3 => ?_)
  · replace k := k.1 q5
    refine m2_aload_n hB dX12_order_86 rfl ?_
    refine m2_getI hB dX12_order_87 fl_X12_391 sh_kM rfl ?_
    exact m2_iret h dX12_order_90 k
  · replace k := k.2 q5
    refine m2_aload_n hB dX12_order_69 rfl ?_
    refine m2_aload_n hB dX12_order_70 rfl ?_
    refine m2_getR hB dX12_order_71 fl_X12_101 sh_kM (c1 := kM_bestLine) rfl ?_
    refine m2_iload_n hB dX12_order_74 rfl ?_
    obtain ⟨hi6, k⟩ := k
    refine m2_iald hB dX12_order_75 sh_kM_bestLine hi6 ?_
    refine m2_i2l hB dX12_order_76 ?_
    obtain ⟨Q9, hM10, k⟩ := k
    refine m2_invv hB (as := [.long ((μ.1 kM_bestLine (v3).toNatClampNeg)).toInt64]) dX12_order_77 mv_X12_278 rfl sh_kM rfl (Nat.le_of_ble_eq_true rfl) rfl hM10 (fun μ8 hq11 => ?_)
    replace k := k μ8 hq11
    refine m2_iinc hB (ls' := [.ref kM, .int v1, .int v2, .int (v3 + 1)]) (v := (v3 + 1)) dX12_order_80 rfl (by decide) rfl rfl ?_
    refine m2_goto hB dX12_order_83 (tgt := 61) (by decide) ?_
    exact k
theorem dX12_leave_0 : decode cX12_leave 0 = .ok (.aload_n 0, 1) := by decide +kernel
theorem dX12_leave_1 : decode cX12_leave 1 = .ok (.iconst 0, 1) := by decide +kernel
theorem dX12_leave_2 : decode cX12_leave 2 = .ok (.putfield 143, 3) := by decide +kernel
theorem dX12_leave_5 : decode cX12_leave 5 = .ok (.iload_n 1, 1) := by decide +kernel
theorem dX12_leave_6 : decode cX12_leave 6 = .ok (.iconst 0, 1) := by decide +kernel
theorem dX12_leave_7 : decode cX12_leave 7 = .ok (.iconst 3, 1) := by decide +kernel
theorem dX12_leave_8 : decode cX12_leave 8 = .ok (.invokestatic 149, 3) := by decide +kernel
theorem dX12_leave_11 : decode cX12_leave 11 = .ok (.ifCond .ne 5, 3) := by decide +kernel
theorem dX12_leave_14 : decode cX12_leave 14 = .ok (.iconst (-1), 1) := by decide +kernel
theorem dX12_leave_15 : decode cX12_leave 15 = .ok (.ireturn, 1) := by decide +kernel
theorem dX12_leave_16 : decode cX12_leave 16 = .ok (.aload_n 0, 1) := by decide +kernel
theorem dX12_leave_17 : decode cX12_leave 17 = .ok (.invokevirtual 397, 3) := by decide +kernel
theorem dX12_leave_20 : decode cX12_leave 20 = .ok (.istore_n 2, 1) := by decide +kernel
theorem dX12_leave_21 : decode cX12_leave 21 = .ok (.bipush (-2), 2) := by decide +kernel
theorem dX12_leave_23 : decode cX12_leave 23 = .ok (.istore_n 3, 1) := by decide +kernel
theorem dX12_leave_24 : decode cX12_leave 24 = .ok (.iconst 0, 1) := by decide +kernel
theorem dX12_leave_25 : decode cX12_leave 25 = .ok (.istore 4, 2) := by decide +kernel
theorem dX12_leave_27 : decode cX12_leave 27 = .ok (.iconst 0, 1) := by decide +kernel
theorem dX12_leave_28 : decode cX12_leave 28 = .ok (.istore 5, 2) := by decide +kernel
theorem dX12_leave_30 : decode cX12_leave 30 = .ok (.iload 5, 2) := by decide +kernel
theorem dX12_leave_32 : decode cX12_leave 32 = .ok (.aload_n 0, 1) := by decide +kernel
theorem dX12_leave_33 : decode cX12_leave 33 = .ok (.getfield 156, 3) := by decide +kernel
theorem dX12_leave_36 : decode cX12_leave 36 = .ok (.if_icmp .ge 61, 3) := by decide +kernel
theorem dX12_leave_39 : decode cX12_leave 39 = .ok (.iload_n 2, 1) := by decide +kernel
theorem dX12_leave_40 : decode cX12_leave 40 = .ok (.iload 5, 2) := by decide +kernel
theorem dX12_leave_42 : decode cX12_leave 42 = .ok (.invokestatic 234, 3) := by decide +kernel
theorem dX12_leave_45 : decode cX12_leave 45 = .ok (.ifCond .ne 6, 3) := by decide +kernel
theorem dX12_leave_48 : decode cX12_leave 48 = .ok (.goto 43, 3) := by decide +kernel
theorem dX12_leave_51 : decode cX12_leave 51 = .ok (.aload_n 0, 1) := by decide +kernel
theorem dX12_leave_52 : decode cX12_leave 52 = .ok (.invokevirtual 342, 3) := by decide +kernel
theorem dX12_leave_55 : decode cX12_leave 55 = .ok (.aload_n 0, 1) := by decide +kernel
theorem dX12_leave_56 : decode cX12_leave 56 = .ok (.iload_n 1, 1) := by decide +kernel
theorem dX12_leave_57 : decode cX12_leave 57 = .ok (.iload 5, 2) := by decide +kernel
theorem dX12_leave_59 : decode cX12_leave 59 = .ok (.invokevirtual 382, 3) := by decide +kernel
theorem dX12_leave_62 : decode cX12_leave 62 = .ok (.aload_n 0, 1) := by decide +kernel
theorem dX12_leave_63 : decode cX12_leave 63 = .ok (.invokevirtual 348, 3) := by decide +kernel
theorem dX12_leave_66 : decode cX12_leave 66 = .ok (.iload_n 3, 1) := by decide +kernel
theorem dX12_leave_67 : decode cX12_leave 67 = .ok (.ifCond .lt 15, 3) := by decide +kernel
theorem dX12_leave_70 : decode cX12_leave 70 = .ok (.aload_n 0, 1) := by decide +kernel
theorem dX12_leave_71 : decode cX12_leave 71 = .ok (.getfield 370, 3) := by decide +kernel
theorem dX12_leave_74 : decode cX12_leave 74 = .ok (.iload 4, 2) := by decide +kernel
theorem dX12_leave_76 : decode cX12_leave 76 = .ok (.if_icmp .gt 6, 3) := by decide +kernel
theorem dX12_leave_79 : decode cX12_leave 79 = .ok (.goto 12, 3) := by decide +kernel
theorem dX12_leave_82 : decode cX12_leave 82 = .ok (.iload 5, 2) := by decide +kernel
theorem dX12_leave_84 : decode cX12_leave 84 = .ok (.istore_n 3, 1) := by decide +kernel
theorem dX12_leave_85 : decode cX12_leave 85 = .ok (.aload_n 0, 1) := by decide +kernel
theorem dX12_leave_86 : decode cX12_leave 86 = .ok (.getfield 370, 3) := by decide +kernel
theorem dX12_leave_89 : decode cX12_leave 89 = .ok (.istore 4, 2) := by decide +kernel
theorem dX12_leave_91 : decode cX12_leave 91 = .ok (.iinc 5 1, 3) := by decide +kernel
theorem dX12_leave_94 : decode cX12_leave 94 = .ok (.goto (-64), 3) := by decide +kernel
theorem dX12_leave_97 : decode cX12_leave 97 = .ok (.iload_n 3, 1) := by decide +kernel
theorem dX12_leave_98 : decode cX12_leave 98 = .ok (.ifCond .ge 6, 3) := by decide +kernel
theorem dX12_leave_101 : decode cX12_leave 101 = .ok (.bipush (-2), 2) := by decide +kernel
theorem dX12_leave_103 : decode cX12_leave 103 = .ok (.ireturn, 1) := by decide +kernel
theorem dX12_leave_104 : decode cX12_leave 104 = .ok (.aload_n 0, 1) := by decide +kernel
theorem dX12_leave_105 : decode cX12_leave 105 = .ok (.iconst 0, 1) := by decide +kernel
theorem dX12_leave_106 : decode cX12_leave 106 = .ok (.putfield 146, 3) := by decide +kernel
theorem dX12_leave_109 : decode cX12_leave 109 = .ok (.aload_n 0, 1) := by decide +kernel
theorem dX12_leave_110 : decode cX12_leave 110 = .ok (.iload 4, 2) := by decide +kernel
theorem dX12_leave_112 : decode cX12_leave 112 = .ok (.i2l, 1) := by decide +kernel
theorem dX12_leave_113 : decode cX12_leave 113 = .ok (.invokevirtual 278, 3) := by decide +kernel
theorem dX12_leave_116 : decode cX12_leave 116 = .ok (.iload_n 3, 1) := by decide +kernel
theorem dX12_leave_117 : decode cX12_leave 117 = .ok (.ireturn, 1) := by decide +kernel
set_option maxRecDepth 100000 in
set_option maxHeartbeats 4000000 in
theorem B_X12_leave_0 {κ : Nat → List Value → List Value → m2M → Prop} {D : Nat} {Q : Option Value → m2M → Prop} (h : m2_RL κ cX12_leave RX12 6 (D + 1) (some .int) Q) (hD : 0 ≤ D) {x1 : Int32} {μ : m2M} (k : ((fX12_in x1 0 3) = 1 → ∃ Q7 : Option Value → m2M → Prop, m2_MT D yX12_toGo cX12_toGo 3 (some .int) [.ref kM] (m2_si μ kM 22 0) Q7 ∧ ∀ (y5 : Int32) (μ6 : m2M), Q7 (some (.int y5)) μ6 → (κ 30 [.ref kM, .int x1, .int y5, .int (-2), .int 0, .int 0] [] μ6)) ∧ (¬ (fX12_in x1 0 3) = 1 → Q (some (.int (-1))) (m2_si μ kM 22 0))) : κ 0 [.ref kM, .int x1, .null, .null, .null, .null] [] μ := by
  have hB := h.b
  refine m2_aload_n hB dX12_leave_0 rfl ?_
  refine m2_iconst hB dX12_leave_1 (v := 0) (by decide) ?_
  refine m2_putI hB dX12_leave_2 fl_X12_143 sh_kM rfl ?_
  refine m2_iload_n hB dX12_leave_5 rfl ?_
  refine m2_iconst hB dX12_leave_6 (v := 0) (by decide) ?_
  refine m2_iconst hB dX12_leave_7 (v := 3) (by decide) ?_
  refine m2_invSz hB (as := [.int x1, .int 0, .int 3]) dX12_leave_8 ms_X12_149 rfl (Nat.le_of_ble_eq_true rfl) rfl (P_X12_in (by omega) (x1) (0) (3) _ ) (fun y1 μ2 hq3 => ?_)
  obtain ⟨⟨⟩, hq3⟩ := hq3
  subst μ2
  show κ 11 [.ref kM, .int x1, .null, .null, .null, .null] [.int (if (fX12_in x1 0 3) = 1 then 1 else 0 : Int32)] (m2_si μ kM 22 0)
  by_cases q4 : (fX12_in x1 0 3) = 1
  · rw [if_pos q4]
    replace k := k.1 q4
    refine m2_if_ne hB dX12_leave_11 (tgt := 16) (by decide) (fun _ => ?_) (fun q => absurd q (by decide))
    refine m2_aload_n hB dX12_leave_16 rfl ?_
    obtain ⟨Q7, hM8, k⟩ := k
    refine m2_invi hB (as := []) dX12_leave_17 mv_X12_397 rfl sh_kM rfl (Nat.le_of_ble_eq_true rfl) rfl hM8 (fun y5 μ6 hq9 => ?_)
    replace k := k y5 μ6 hq9
    refine m2_istore_n hB (ls' := [.ref kM, .int x1, .int y5, .null, .null, .null]) dX12_leave_20 rfl (by decide) rfl ?_
    refine m2_bipush hB dX12_leave_21 (v := (-2)) (by decide) ?_
    refine m2_istore_n hB (ls' := [.ref kM, .int x1, .int y5, .int (-2), .null, .null]) dX12_leave_23 rfl (by decide) rfl ?_
    refine m2_iconst hB dX12_leave_24 (v := 0) (by decide) ?_
    refine m2_istore hB (ls' := [.ref kM, .int x1, .int y5, .int (-2), .int 0, .null]) dX12_leave_25 (by decide) rfl ?_
    refine m2_iconst hB dX12_leave_27 (v := 0) (by decide) ?_
    refine m2_istore hB (ls' := [.ref kM, .int x1, .int y5, .int (-2), .int 0, .int 0]) dX12_leave_28 (by decide) rfl ?_
    exact k
  · rw [if_neg q4]
    replace k := k.2 q4
    refine m2_if_ne hB dX12_leave_11 (tgt := 16) (by decide) (fun q => absurd q (by decide)) (fun _ => ?_)
    refine m2_iconst hB dX12_leave_14 (v := (-1)) (by decide) ?_
    exact m2_iret h dX12_leave_15 k
set_option maxRecDepth 100000 in
set_option maxHeartbeats 4000000 in
theorem B_X12_leave_30 {κ : Nat → List Value → List Value → m2M → Prop} {D : Nat} {Q : Option Value → m2M → Prop} (h : m2_RL κ cX12_leave RX12 6 (D + 1) (some .int) Q) (hD : 0 ≤ D) {v1 : Int32} {v2 : Int32} {v3 : Int32} {v4 : Int32} {v5 : Int32} {μ : m2M} (k : ((μ.1 kM 7) ≤ v5 → (0 ≤ v3 → ∃ Q8 : Option Value → m2M → Prop, m2_MT D yX12_tell cX12_tell 3 none [.ref kM, .long (v4).toInt64] (m2_si μ kM 21 0) Q8 ∧ ∀ (μ7 : m2M), Q8 none μ7 → (Q (some (.int v3)) μ7)) ∧ (¬ 0 ≤ v3 → Q (some (.int (-2))) μ)) ∧ (¬ (μ.1 kM 7) ≤ v5 → ((fX12_has v2 v5) = 1 → ∃ Q17 : Option Value → m2M → Prop, m2_MT D yX12_putBy cX12_putBy 1 none [.ref kM] μ Q17 ∧ ∀ (μ16 : m2M), Q17 none μ16 → (∃ Q22 : Option Value → m2M → Prop, m2_MT D yX12_goAll cX12_goAll 4 none [.ref kM, .int v1, .int v5] μ16 Q22 ∧ ∀ (μ21 : m2M), Q22 none μ21 → (∃ Q27 : Option Value → m2M → Prop, m2_MT D yX12_bringBack cX12_bringBack 1 none [.ref kM] μ21 Q27 ∧ ∀ (μ26 : m2M), Q27 none μ26 → ((v3 < 0 → κ 30 [.ref kM, .int v1, .int v2, .int v5, .int (μ26.1 kM 43), .int (v5 + 1)] [] μ26) ∧ (¬ v3 < 0 → (v4 < (μ26.1 kM 43) → κ 30 [.ref kM, .int v1, .int v2, .int v5, .int (μ26.1 kM 43), .int (v5 + 1)] [] μ26) ∧ (¬ v4 < (μ26.1 kM 43) → κ 30 [.ref kM, .int v1, .int v2, .int v3, .int v4, .int (v5 + 1)] [] μ26)))))) ∧ (¬ (fX12_has v2 v5) = 1 → κ 30 [.ref kM, .int v1, .int v2, .int v3, .int v4, .int (v5 + 1)] [] μ))) : κ 30 [.ref kM, .int v1, .int v2, .int v3, .int v4, .int v5] [] μ := by
  have hB := h.b
  refine m2_iload hB dX12_leave_30 rfl ?_
  refine m2_aload_n hB dX12_leave_32 rfl ?_
  refine m2_getI hB dX12_leave_33 fl_X12_156 sh_kM rfl ?_
  refine m2_icmp_ge hB dX12_leave_36 (tgt := 97) (by decide) (fun q4 : (μ.1 kM 7) ≤ v5 => ?_) (fun q4 : ¬ (μ.1 kM 7) ≤ v5 => ?_)
  · replace k := k.1 q4
    refine m2_iload_n hB dX12_leave_97 rfl ?_
    refine m2_if_ge hB dX12_leave_98 (tgt := 104) (by decide) (fun q5 : 0 ≤ v3 => ?_) (fun q5 : ¬ 0 ≤ v3 => ?_)
    · replace k := k.1 q5
      refine m2_aload_n hB dX12_leave_104 rfl ?_
      refine m2_iconst hB dX12_leave_105 (v := 0) (by decide) ?_
      refine m2_putI hB dX12_leave_106 fl_X12_146 sh_kM rfl ?_
      refine m2_aload_n hB dX12_leave_109 rfl ?_
      refine m2_iload hB dX12_leave_110 rfl ?_
      refine m2_i2l hB dX12_leave_112 ?_
      obtain ⟨Q8, hM9, k⟩ := k
      refine m2_invv hB (as := [.long (v4).toInt64]) dX12_leave_113 mv_X12_278 rfl sh_kM rfl (Nat.le_of_ble_eq_true rfl) rfl hM9 (fun μ7 hq10 => ?_)
      replace k := k μ7 hq10
      refine m2_iload_n hB dX12_leave_116 rfl ?_
      exact m2_iret h dX12_leave_117 k
    · replace k := k.2 q5
      refine m2_bipush hB dX12_leave_101 (v := (-2)) (by decide) ?_
      exact m2_iret h dX12_leave_103 k
  · replace k := k.2 q4
    refine m2_iload_n hB dX12_leave_39 rfl ?_
    refine m2_iload hB dX12_leave_40 rfl ?_
    refine m2_invSz hB (as := [.int v2, .int v5]) dX12_leave_42 ms_X12_234 rfl (Nat.le_of_ble_eq_true rfl) rfl (P_X12_has (by omega) (v2) (v5) _ ) (fun y11 μ12 hq13 => ?_)
    obtain ⟨⟨⟩, hq13⟩ := hq13
    subst μ12
    show κ 45 [.ref kM, .int v1, .int v2, .int v3, .int v4, .int v5] [.int (if (fX12_has v2 v5) = 1 then 1 else 0 : Int32)] μ
    by_cases q14 : (fX12_has v2 v5) = 1
    · rw [if_pos q14]
      replace k := k.1 q14
      refine m2_if_ne hB dX12_leave_45 (tgt := 51) (by decide) (fun _ => ?_) (fun q => absurd q (by decide))
      refine m2_aload_n hB dX12_leave_51 rfl ?_
      obtain ⟨Q17, hM18, k⟩ := k
      refine m2_invv hB (as := []) dX12_leave_52 mv_X12_342 rfl sh_kM rfl (Nat.le_of_ble_eq_true rfl) rfl hM18 (fun μ16 hq19 => ?_)
      replace k := k μ16 hq19
      refine m2_aload_n hB dX12_leave_55 rfl ?_
      refine m2_iload_n hB dX12_leave_56 rfl ?_
      refine m2_iload hB dX12_leave_57 rfl ?_
      obtain ⟨Q22, hM23, k⟩ := k
      refine m2_invv hB (as := [.int v1, .int v5]) dX12_leave_59 mv_X12_382 rfl sh_kM rfl (Nat.le_of_ble_eq_true rfl) rfl hM23 (fun μ21 hq24 => ?_)
      replace k := k μ21 hq24
      refine m2_aload_n hB dX12_leave_62 rfl ?_
      obtain ⟨Q27, hM28, k⟩ := k
      refine m2_invv hB (as := []) dX12_leave_63 mv_X12_348 rfl sh_kM rfl (Nat.le_of_ble_eq_true rfl) rfl hM28 (fun μ26 hq29 => ?_)
      replace k := k μ26 hq29
      refine m2_iload_n hB dX12_leave_66 rfl ?_
      refine m2_if_lt hB dX12_leave_67 (tgt := 82) (by decide) (fun q30 : v3 < 0 => ?_) (fun q30 : ¬ v3 < 0 => ?_)
      · replace k := k.1 q30
        refine m2_iload hB dX12_leave_82 rfl ?_
        refine m2_istore_n hB (ls' := [.ref kM, .int v1, .int v2, .int v5, .int v4, .int v5]) dX12_leave_84 rfl (by decide) rfl ?_
        refine m2_aload_n hB dX12_leave_85 rfl ?_
        refine m2_getI hB dX12_leave_86 fl_X12_370 sh_kM rfl ?_
        refine m2_istore hB (ls' := [.ref kM, .int v1, .int v2, .int v5, .int (μ26.1 kM 43), .int v5]) dX12_leave_89 (by decide) rfl ?_
        refine m2_iinc hB (ls' := [.ref kM, .int v1, .int v2, .int v5, .int (μ26.1 kM 43), .int (v5 + 1)]) (v := (v5 + 1)) dX12_leave_91 rfl (by decide) rfl rfl ?_
        refine m2_goto hB dX12_leave_94 (tgt := 30) (by decide) ?_
        exact k
      · replace k := k.2 q30
        refine m2_aload_n hB dX12_leave_70 rfl ?_
        refine m2_getI hB dX12_leave_71 fl_X12_370 sh_kM rfl ?_
        refine m2_iload hB dX12_leave_74 rfl ?_
        refine m2_icmp_gt hB dX12_leave_76 (tgt := 82) (by decide) (fun q31 : v4 < (μ26.1 kM 43) => ?_) (fun q31 : ¬ v4 < (μ26.1 kM 43) => ?_)
        · replace k := k.1 q31
          refine m2_iload hB dX12_leave_82 rfl ?_
          refine m2_istore_n hB (ls' := [.ref kM, .int v1, .int v2, .int v5, .int v4, .int v5]) dX12_leave_84 rfl (by decide) rfl ?_
          refine m2_aload_n hB dX12_leave_85 rfl ?_
          refine m2_getI hB dX12_leave_86 fl_X12_370 sh_kM rfl ?_
          refine m2_istore hB (ls' := [.ref kM, .int v1, .int v2, .int v5, .int (μ26.1 kM 43), .int v5]) dX12_leave_89 (by decide) rfl ?_
          refine m2_iinc hB (ls' := [.ref kM, .int v1, .int v2, .int v5, .int (μ26.1 kM 43), .int (v5 + 1)]) (v := (v5 + 1)) dX12_leave_91 rfl (by decide) rfl rfl ?_
          refine m2_goto hB dX12_leave_94 (tgt := 30) (by decide) ?_
          exact k
        · replace k := k.2 q31
          refine m2_goto hB dX12_leave_79 (tgt := 91) (by decide) ?_
          refine m2_iinc hB (ls' := [.ref kM, .int v1, .int v2, .int v3, .int v4, .int (v5 + 1)]) (v := (v5 + 1)) dX12_leave_91 rfl (by decide) rfl rfl ?_
          refine m2_goto hB dX12_leave_94 (tgt := 30) (by decide) ?_
          exact k
    · rw [if_neg q14]
      replace k := k.2 q14
      refine m2_if_ne hB dX12_leave_45 (tgt := 51) (by decide) (fun q => absurd q (by decide)) (fun _ => ?_)
      refine m2_goto hB dX12_leave_48 (tgt := 91) (by decide) ?_
      refine m2_iinc hB (ls' := [.ref kM, .int v1, .int v2, .int v3, .int v4, .int (v5 + 1)]) (v := (v5 + 1)) dX12_leave_91 rfl (by decide) rfl rfl ?_
      refine m2_goto hB dX12_leave_94 (tgt := 30) (by decide) ?_
      exact k
theorem dX12_tourFrom_0 : decode cX12_tourFrom 0 = .ok (.aload_n 0, 1) := by decide +kernel
theorem dX12_tourFrom_1 : decode cX12_tourFrom 1 = .ok (.getfield 400, 3) := by decide +kernel
theorem dX12_tourFrom_4 : decode cX12_tourFrom 4 = .ok (.iconst (-1), 1) := by decide +kernel
theorem dX12_tourFrom_5 : decode cX12_tourFrom 5 = .ok (.if_icmp .eq 13, 3) := by decide +kernel
theorem dX12_tourFrom_8 : decode cX12_tourFrom 8 = .ok (.iload 4, 2) := by decide +kernel
theorem dX12_tourFrom_10 : decode cX12_tourFrom 10 = .ok (.aload_n 0, 1) := by decide +kernel
theorem dX12_tourFrom_11 : decode cX12_tourFrom 11 = .ok (.getfield 400, 3) := by decide +kernel
theorem dX12_tourFrom_14 : decode cX12_tourFrom 14 = .ok (.if_icmp .lt 4, 3) := by decide +kernel
theorem dX12_tourFrom_17 : decode cX12_tourFrom 17 = .ok (.return_, 1) := by decide +kernel
theorem dX12_tourFrom_18 : decode cX12_tourFrom 18 = .ok (.iload_n 3, 1) := by decide +kernel
theorem dX12_tourFrom_19 : decode cX12_tourFrom 19 = .ok (.ifCond .ne 39, 3) := by decide +kernel
theorem dX12_tourFrom_22 : decode cX12_tourFrom 22 = .ok (.aload_n 0, 1) := by decide +kernel
theorem dX12_tourFrom_23 : decode cX12_tourFrom 23 = .ok (.iload 4, 2) := by decide +kernel
theorem dX12_tourFrom_25 : decode cX12_tourFrom 25 = .ok (.putfield 400, 3) := by decide +kernel
theorem dX12_tourFrom_28 : decode cX12_tourFrom 28 = .ok (.iconst 0, 1) := by decide +kernel
theorem dX12_tourFrom_29 : decode cX12_tourFrom 29 = .ok (.istore 5, 2) := by decide +kernel
theorem dX12_tourFrom_31 : decode cX12_tourFrom 31 = .ok (.iload 5, 2) := by decide +kernel
theorem dX12_tourFrom_33 : decode cX12_tourFrom 33 = .ok (.iload_n 1, 1) := by decide +kernel
theorem dX12_tourFrom_34 : decode cX12_tourFrom 34 = .ok (.if_icmp .ge 23, 3) := by decide +kernel
theorem dX12_tourFrom_37 : decode cX12_tourFrom 37 = .ok (.aload_n 0, 1) := by decide +kernel
theorem dX12_tourFrom_38 : decode cX12_tourFrom 38 = .ok (.getfield 107, 3) := by decide +kernel
theorem dX12_tourFrom_41 : decode cX12_tourFrom 41 = .ok (.iload 5, 2) := by decide +kernel
theorem dX12_tourFrom_43 : decode cX12_tourFrom 43 = .ok (.aload_n 0, 1) := by decide +kernel
theorem dX12_tourFrom_44 : decode cX12_tourFrom 44 = .ok (.getfield 104, 3) := by decide +kernel
theorem dX12_tourFrom_47 : decode cX12_tourFrom 47 = .ok (.iload 5, 2) := by decide +kernel
theorem dX12_tourFrom_49 : decode cX12_tourFrom 49 = .ok (.iaload, 1) := by decide +kernel
theorem dX12_tourFrom_50 : decode cX12_tourFrom 50 = .ok (.iastore, 1) := by decide +kernel
theorem dX12_tourFrom_51 : decode cX12_tourFrom 51 = .ok (.iinc 5 1, 3) := by decide +kernel
theorem dX12_tourFrom_54 : decode cX12_tourFrom 54 = .ok (.goto (-23), 3) := by decide +kernel
theorem dX12_tourFrom_57 : decode cX12_tourFrom 57 = .ok (.return_, 1) := by decide +kernel
theorem dX12_tourFrom_58 : decode cX12_tourFrom 58 = .ok (.iconst 0, 1) := by decide +kernel
theorem dX12_tourFrom_59 : decode cX12_tourFrom 59 = .ok (.istore 5, 2) := by decide +kernel
theorem dX12_tourFrom_61 : decode cX12_tourFrom 61 = .ok (.iload 5, 2) := by decide +kernel
theorem dX12_tourFrom_63 : decode cX12_tourFrom 63 = .ok (.bipush 12, 2) := by decide +kernel
theorem dX12_tourFrom_65 : decode cX12_tourFrom 65 = .ok (.if_icmp .ge 63, 3) := by decide +kernel
theorem dX12_tourFrom_68 : decode cX12_tourFrom 68 = .ok (.iload_n 3, 1) := by decide +kernel
theorem dX12_tourFrom_69 : decode cX12_tourFrom 69 = .ok (.iload 5, 2) := by decide +kernel
theorem dX12_tourFrom_71 : decode cX12_tourFrom 71 = .ok (.invokestatic 234, 3) := by decide +kernel
theorem dX12_tourFrom_74 : decode cX12_tourFrom 74 = .ok (.ifCond .eq 48, 3) := by decide +kernel
theorem dX12_tourFrom_77 : decode cX12_tourFrom 77 = .ok (.aload_n 0, 1) := by decide +kernel
theorem dX12_tourFrom_78 : decode cX12_tourFrom 78 = .ok (.iload_n 2, 1) := by decide +kernel
theorem dX12_tourFrom_79 : decode cX12_tourFrom 79 = .ok (.iload 5, 2) := by decide +kernel
theorem dX12_tourFrom_81 : decode cX12_tourFrom 81 = .ok (.invokevirtual 305, 3) := by decide +kernel
theorem dX12_tourFrom_84 : decode cX12_tourFrom 84 = .ok (.ifCond .ne 6, 3) := by decide +kernel
theorem dX12_tourFrom_87 : decode cX12_tourFrom 87 = .ok (.goto 35, 3) := by decide +kernel
theorem dX12_tourFrom_90 : decode cX12_tourFrom 90 = .ok (.aload_n 0, 1) := by decide +kernel
theorem dX12_tourFrom_91 : decode cX12_tourFrom 91 = .ok (.getfield 104, 3) := by decide +kernel
theorem dX12_tourFrom_94 : decode cX12_tourFrom 94 = .ok (.iload_n 1, 1) := by decide +kernel
theorem dX12_tourFrom_95 : decode cX12_tourFrom 95 = .ok (.iload 5, 2) := by decide +kernel
theorem dX12_tourFrom_97 : decode cX12_tourFrom 97 = .ok (.iastore, 1) := by decide +kernel
theorem dX12_tourFrom_98 : decode cX12_tourFrom 98 = .ok (.aload_n 0, 1) := by decide +kernel
theorem dX12_tourFrom_99 : decode cX12_tourFrom 99 = .ok (.iload_n 1, 1) := by decide +kernel
theorem dX12_tourFrom_100 : decode cX12_tourFrom 100 = .ok (.iconst 1, 1) := by decide +kernel
theorem dX12_tourFrom_101 : decode cX12_tourFrom 101 = .ok (.iadd, 1) := by decide +kernel
theorem dX12_tourFrom_102 : decode cX12_tourFrom 102 = .ok (.iload 5, 2) := by decide +kernel
theorem dX12_tourFrom_104 : decode cX12_tourFrom 104 = .ok (.iload_n 3, 1) := by decide +kernel
theorem dX12_tourFrom_105 : decode cX12_tourFrom 105 = .ok (.iconst 1, 1) := by decide +kernel
theorem dX12_tourFrom_106 : decode cX12_tourFrom 106 = .ok (.iload 5, 2) := by decide +kernel
theorem dX12_tourFrom_108 : decode cX12_tourFrom 108 = .ok (.ishl, 1) := by decide +kernel
theorem dX12_tourFrom_109 : decode cX12_tourFrom 109 = .ok (.iconst (-1), 1) := by decide +kernel
theorem dX12_tourFrom_110 : decode cX12_tourFrom 110 = .ok (.ixor, 1) := by decide +kernel
theorem dX12_tourFrom_111 : decode cX12_tourFrom 111 = .ok (.iand, 1) := by decide +kernel
theorem dX12_tourFrom_112 : decode cX12_tourFrom 112 = .ok (.iload 4, 2) := by decide +kernel
theorem dX12_tourFrom_114 : decode cX12_tourFrom 114 = .ok (.aload_n 0, 1) := by decide +kernel
theorem dX12_tourFrom_115 : decode cX12_tourFrom 115 = .ok (.getfield 248, 3) := by decide +kernel
theorem dX12_tourFrom_118 : decode cX12_tourFrom 118 = .ok (.iadd, 1) := by decide +kernel
theorem dX12_tourFrom_119 : decode cX12_tourFrom 119 = .ok (.invokevirtual 403, 3) := by decide +kernel
theorem dX12_tourFrom_122 : decode cX12_tourFrom 122 = .ok (.iinc 5 1, 3) := by decide +kernel
theorem dX12_tourFrom_125 : decode cX12_tourFrom 125 = .ok (.goto (-64), 3) := by decide +kernel
theorem dX12_tourFrom_128 : decode cX12_tourFrom 128 = .ok (.return_, 1) := by decide +kernel
set_option maxRecDepth 100000 in
set_option maxHeartbeats 4000000 in
theorem B_X12_tourFrom_0 {κ : Nat → List Value → List Value → m2M → Prop} {D : Nat} {Q : Option Value → m2M → Prop} (h : m2_RL κ cX12_tourFrom RX12 6 D none Q) {x1 : Int32} {x2 : Int32} {x3 : Int32} {x4 : Int32} {μ : m2M} (k : ((μ.1 kM 52) = (-1) → (¬ x3 = 0 → κ 61 [.ref kM, .int x1, .int x2, .int x3, .int x4, .int 0] [] μ) ∧ (x3 = 0 → κ 31 [.ref kM, .int x1, .int x2, .int x3, .int x4, .int 0] [] (m2_si μ kM 52 x4))) ∧ (¬ (μ.1 kM 52) = (-1) → (x4 < (μ.1 kM 52) → (¬ x3 = 0 → κ 61 [.ref kM, .int x1, .int x2, .int x3, .int x4, .int 0] [] μ) ∧ (x3 = 0 → κ 31 [.ref kM, .int x1, .int x2, .int x3, .int x4, .int 0] [] (m2_si μ kM 52 x4))) ∧ (¬ x4 < (μ.1 kM 52) → Q none μ))) : κ 0 [.ref kM, .int x1, .int x2, .int x3, .int x4, .null] [] μ := by
  have hB := h.b
  refine m2_aload_n hB dX12_tourFrom_0 rfl ?_
  refine m2_getI hB dX12_tourFrom_1 fl_X12_400 sh_kM rfl ?_
  refine m2_iconst hB dX12_tourFrom_4 (v := (-1)) (by decide) ?_
  refine m2_icmp_eq hB dX12_tourFrom_5 (tgt := 18) (by decide) (fun q1 : (μ.1 kM 52) = (-1) => ?_) (fun q1 : ¬ (μ.1 kM 52) = (-1) => ?_)
  · replace k := k.1 q1
    refine m2_iload_n hB dX12_tourFrom_18 rfl ?_
    refine m2_if_ne hB dX12_tourFrom_19 (tgt := 58) (by decide) (fun q2 : ¬ x3 = 0 => ?_) (fun q2 : x3 = 0 => ?_)
    · replace k := k.1 q2
      refine m2_iconst hB dX12_tourFrom_58 (v := 0) (by decide) ?_
      refine m2_istore hB (ls' := [.ref kM, .int x1, .int x2, .int x3, .int x4, .int 0]) dX12_tourFrom_59 (by decide) rfl ?_
      exact k
    · replace k := k.2 q2
      refine m2_aload_n hB dX12_tourFrom_22 rfl ?_
      refine m2_iload hB dX12_tourFrom_23 rfl ?_
      refine m2_putI hB dX12_tourFrom_25 fl_X12_400 sh_kM rfl ?_
      refine m2_iconst hB dX12_tourFrom_28 (v := 0) (by decide) ?_
      refine m2_istore hB (ls' := [.ref kM, .int x1, .int x2, .int x3, .int x4, .int 0]) dX12_tourFrom_29 (by decide) rfl ?_
      exact k
  · replace k := k.2 q1
    refine m2_iload hB dX12_tourFrom_8 rfl ?_
    refine m2_aload_n hB dX12_tourFrom_10 rfl ?_
    refine m2_getI hB dX12_tourFrom_11 fl_X12_400 sh_kM rfl ?_
    refine m2_icmp_lt hB dX12_tourFrom_14 (tgt := 18) (by decide) (fun q3 : x4 < (μ.1 kM 52) => ?_) (fun q3 : ¬ x4 < (μ.1 kM 52) => ?_)
    · replace k := k.1 q3
      refine m2_iload_n hB dX12_tourFrom_18 rfl ?_
      refine m2_if_ne hB dX12_tourFrom_19 (tgt := 58) (by decide) (fun q4 : ¬ x3 = 0 => ?_) (fun q4 : x3 = 0 => ?_)
      · replace k := k.1 q4
        refine m2_iconst hB dX12_tourFrom_58 (v := 0) (by decide) ?_
        refine m2_istore hB (ls' := [.ref kM, .int x1, .int x2, .int x3, .int x4, .int 0]) dX12_tourFrom_59 (by decide) rfl ?_
        exact k
      · replace k := k.2 q4
        refine m2_aload_n hB dX12_tourFrom_22 rfl ?_
        refine m2_iload hB dX12_tourFrom_23 rfl ?_
        refine m2_putI hB dX12_tourFrom_25 fl_X12_400 sh_kM rfl ?_
        refine m2_iconst hB dX12_tourFrom_28 (v := 0) (by decide) ?_
        refine m2_istore hB (ls' := [.ref kM, .int x1, .int x2, .int x3, .int x4, .int 0]) dX12_tourFrom_29 (by decide) rfl ?_
        exact k
    · replace k := k.2 q3
      exact m2_vret h dX12_tourFrom_17 k
set_option maxRecDepth 100000 in
set_option maxHeartbeats 4000000 in
theorem B_X12_tourFrom_31 {κ : Nat → List Value → List Value → m2M → Prop} {D : Nat} {Q : Option Value → m2M → Prop} (h : m2_RL κ cX12_tourFrom RX12 6 D none Q) {v1 : Int32} {v2 : Int32} {v3 : Int32} {v4 : Int32} {v5 : Int32} {μ : m2M} (k : (v1 ≤ v5 → Q none μ) ∧ (¬ v1 ≤ v5 → (vp_in v5 6) ∧ (κ 31 [.ref kM, .int v1, .int v2, .int v3, .int v4, .int (v5 + 1)] [] (m2_si μ kM_bestTour (v5).toNatClampNeg (μ.1 kM_tour (v5).toNatClampNeg))))) : κ 31 [.ref kM, .int v1, .int v2, .int v3, .int v4, .int v5] [] μ := by
  have hB := h.b
  refine m2_iload hB dX12_tourFrom_31 rfl ?_
  refine m2_iload_n hB dX12_tourFrom_33 rfl ?_
  refine m2_icmp_ge hB dX12_tourFrom_34 (tgt := 57) (by decide) (fun q2 : v1 ≤ v5 => ?_) (fun q2 : ¬ v1 ≤ v5 => ?_)
  · replace k := k.1 q2
    exact m2_vret h dX12_tourFrom_57 k
  · replace k := k.2 q2
    refine m2_aload_n hB dX12_tourFrom_37 rfl ?_
    refine m2_getR hB dX12_tourFrom_38 fl_X12_107 sh_kM (c1 := kM_bestTour) rfl ?_
    refine m2_iload hB dX12_tourFrom_41 rfl ?_
    refine m2_aload_n hB dX12_tourFrom_43 rfl ?_
    refine m2_getR hB dX12_tourFrom_44 fl_X12_104 sh_kM (c1 := kM_tour) rfl ?_
    refine m2_iload hB dX12_tourFrom_47 rfl ?_
    obtain ⟨hi3, k⟩ := k
    refine m2_iald hB dX12_tourFrom_49 sh_kM_tour hi3 ?_
    have hi4 := hi3
    refine m2_iast hB dX12_tourFrom_50 sh_kM_bestTour hi4 ?_
    refine m2_iinc hB (ls' := [.ref kM, .int v1, .int v2, .int v3, .int v4, .int (v5 + 1)]) (v := (v5 + 1)) dX12_tourFrom_51 rfl (by decide) rfl rfl ?_
    refine m2_goto hB dX12_tourFrom_54 (tgt := 31) (by decide) ?_
    exact k
set_option maxRecDepth 100000 in
set_option maxHeartbeats 4000000 in
theorem B_X12_tourFrom_61 {κ : Nat → List Value → List Value → m2M → Prop} {D : Nat} {Q : Option Value → m2M → Prop} (h : m2_RL κ cX12_tourFrom RX12 6 (D + 1) none Q) (hD : 0 ≤ D) {v1 : Int32} {v2 : Int32} {v3 : Int32} {v4 : Int32} {v5 : Int32} {μ : m2M} (k : (12 ≤ v5 → Q none μ) ∧ (¬ 12 ≤ v5 → ((fX12_has v3 v5) = 1 → ∃ Q11 : Option Value → m2M → Prop, m2_MT D yX12_findOpenWay cX12_findOpenWay 4 (some .boolean) [.ref kM, .int v2, .int v5] μ Q11 ∧ ∀ (y9 : Int32) (μ10 : m2M), Q11 (some (.int y9)) μ10 → ((¬ y9 = 0 → (vp_in v1 6) ∧ (∃ Q19 : Option Value → m2M → Prop, m2_MT D yX12_tourFrom cX12_tourFrom 6 none [.ref kM, .int (v1 + 1), .int v5, .int (v3 &&& (((1 : Int32) <<< (v5 &&& 31)) ^^^ ((-1) : Int32))), .int (v4 + (μ10.1 kM 37))] (m2_si μ10 kM_tour (v1).toNatClampNeg v5) Q19 ∧ ∀ (μ18 : m2M), Q19 none μ18 → (κ 61 [.ref kM, .int v1, .int v2, .int v3, .int v4, .int (v5 + 1)] [] μ18))) ∧ (y9 = 0 → κ 61 [.ref kM, .int v1, .int v2, .int v3, .int v4, .int (v5 + 1)] [] μ10))) ∧ (¬ (fX12_has v3 v5) = 1 → κ 61 [.ref kM, .int v1, .int v2, .int v3, .int v4, .int (v5 + 1)] [] μ))) : κ 61 [.ref kM, .int v1, .int v2, .int v3, .int v4, .int v5] [] μ := by
  have hB := h.b
  refine m2_iload hB dX12_tourFrom_61 rfl ?_
  refine m2_bipush hB dX12_tourFrom_63 (v := 12) (by decide) ?_
  refine m2_icmp_ge hB dX12_tourFrom_65 (tgt := 128) (by decide) (fun q4 : 12 ≤ v5 => ?_) (fun q4 : ¬ 12 ≤ v5 => ?_)
  · replace k := k.1 q4
    exact m2_vret h dX12_tourFrom_128 k
  · replace k := k.2 q4
    refine m2_iload_n hB dX12_tourFrom_68 rfl ?_
    refine m2_iload hB dX12_tourFrom_69 rfl ?_
    refine m2_invSz hB (as := [.int v3, .int v5]) dX12_tourFrom_71 ms_X12_234 rfl (Nat.le_of_ble_eq_true rfl) rfl (P_X12_has (by omega) (v3) (v5) _ ) (fun y5 μ6 hq7 => ?_)
    obtain ⟨⟨⟩, hq7⟩ := hq7
    subst μ6
    show κ 74 [.ref kM, .int v1, .int v2, .int v3, .int v4, .int v5] [.int (if (fX12_has v3 v5) = 1 then 1 else 0 : Int32)] μ
    by_cases q8 : (fX12_has v3 v5) = 1
    · rw [if_pos q8]
      replace k := k.1 q8
      refine m2_if_eq hB dX12_tourFrom_74 (tgt := 122) (by decide) (fun q => absurd q (by decide)) (fun _ => ?_)
      refine m2_aload_n hB dX12_tourFrom_77 rfl ?_
      refine m2_iload_n hB dX12_tourFrom_78 rfl ?_
      refine m2_iload hB dX12_tourFrom_79 rfl ?_
      obtain ⟨Q11, hM12, k⟩ := k
      refine m2_invz hB (as := [.int v2, .int v5]) dX12_tourFrom_81 mv_X12_305 rfl sh_kM rfl (Nat.le_of_ble_eq_true rfl) rfl hM12 (fun y9 μ10 hq13 => ?_)
      replace k := k y9 μ10 hq13
      refine m2_if_ne hB dX12_tourFrom_84 (tgt := 90) (by decide) (fun q15 : ¬ y9 = 0 => ?_) (fun q15 : y9 = 0 => ?_)
      · replace k := k.1 q15
        refine m2_aload_n hB dX12_tourFrom_90 rfl ?_
        refine m2_getR hB dX12_tourFrom_91 fl_X12_104 sh_kM (c1 := kM_tour) rfl ?_
        refine m2_iload_n hB dX12_tourFrom_94 rfl ?_
        refine m2_iload hB dX12_tourFrom_95 rfl ?_
        obtain ⟨hi16, k⟩ := k
        refine m2_iast hB dX12_tourFrom_97 sh_kM_tour hi16 ?_
        refine m2_aload_n hB dX12_tourFrom_98 rfl ?_
        refine m2_iload_n hB dX12_tourFrom_99 rfl ?_
        refine m2_iconst hB dX12_tourFrom_100 (v := 1) (by decide) ?_
        refine m2_iadd hB dX12_tourFrom_101 ?_
        refine m2_iload hB dX12_tourFrom_102 rfl ?_
        refine m2_iload_n hB dX12_tourFrom_104 rfl ?_
        refine m2_iconst hB dX12_tourFrom_105 (v := 1) (by decide) ?_
        refine m2_iload hB dX12_tourFrom_106 rfl ?_
        refine m2_ishl hB dX12_tourFrom_108 ?_
        refine m2_iconst hB dX12_tourFrom_109 (v := (-1)) (by decide) ?_
        refine m2_ixor hB dX12_tourFrom_110 ?_
        refine m2_iand hB dX12_tourFrom_111 ?_
        refine m2_iload hB dX12_tourFrom_112 rfl ?_
        refine m2_aload_n hB dX12_tourFrom_114 rfl ?_
        refine m2_getI hB dX12_tourFrom_115 fl_X12_248 sh_kM rfl ?_
        refine m2_iadd hB dX12_tourFrom_118 ?_
        obtain ⟨Q19, hM20, k⟩ := k
        refine m2_invv hB (as := [.int (v1 + 1), .int v5, .int (v3 &&& (((1 : Int32) <<< (v5 &&& 31)) ^^^ ((-1) : Int32))), .int (v4 + (μ10.1 kM 37))]) dX12_tourFrom_119 mv_X12_403 rfl sh_kM rfl (Nat.le_of_ble_eq_true rfl) rfl hM20 (fun μ18 hq21 => ?_)
        replace k := k μ18 hq21
        refine m2_iinc hB (ls' := [.ref kM, .int v1, .int v2, .int v3, .int v4, .int (v5 + 1)]) (v := (v5 + 1)) dX12_tourFrom_122 rfl (by decide) rfl rfl ?_
        refine m2_goto hB dX12_tourFrom_125 (tgt := 61) (by decide) ?_
        exact k
      · replace k := k.2 q15
        refine m2_goto hB dX12_tourFrom_87 (tgt := 122) (by decide) ?_
        refine m2_iinc hB (ls' := [.ref kM, .int v1, .int v2, .int v3, .int v4, .int (v5 + 1)]) (v := (v5 + 1)) dX12_tourFrom_122 rfl (by decide) rfl rfl ?_
        refine m2_goto hB dX12_tourFrom_125 (tgt := 61) (by decide) ?_
        exact k
    · rw [if_neg q8]
      replace k := k.2 q8
      refine m2_if_eq hB dX12_tourFrom_74 (tgt := 122) (by decide) (fun _ => ?_) (fun q => absurd q (by decide))
      refine m2_iinc hB (ls' := [.ref kM, .int v1, .int v2, .int v3, .int v4, .int (v5 + 1)]) (v := (v5 + 1)) dX12_tourFrom_122 rfl (by decide) rfl rfl ?_
      refine m2_goto hB dX12_tourFrom_125 (tgt := 61) (by decide) ?_
      exact k
theorem dX12_tour_0 : decode cX12_tour 0 = .ok (.aload_n 0, 1) := by decide +kernel
theorem dX12_tour_1 : decode cX12_tour 1 = .ok (.iconst 0, 1) := by decide +kernel
theorem dX12_tour_2 : decode cX12_tour 2 = .ok (.putfield 143, 3) := by decide +kernel
theorem dX12_tour_5 : decode cX12_tour 5 = .ok (.aload_n 0, 1) := by decide +kernel
theorem dX12_tour_6 : decode cX12_tour 6 = .ok (.iload_n 1, 1) := by decide +kernel
theorem dX12_tour_7 : decode cX12_tour 7 = .ok (.invokevirtual 295, 3) := by decide +kernel
theorem dX12_tour_10 : decode cX12_tour 10 = .ok (.ifCond .eq 10, 3) := by decide +kernel
theorem dX12_tour_13 : decode cX12_tour 13 = .ok (.iload_n 2, 1) := by decide +kernel
theorem dX12_tour_14 : decode cX12_tour 14 = .ok (.invokestatic 407, 3) := by decide +kernel
theorem dX12_tour_17 : decode cX12_tour 17 = .ok (.ifCond .ne 5, 3) := by decide +kernel
theorem dX12_tour_20 : decode cX12_tour 20 = .ok (.iconst (-1), 1) := by decide +kernel
theorem dX12_tour_21 : decode cX12_tour 21 = .ok (.ireturn, 1) := by decide +kernel
theorem dX12_tour_22 : decode cX12_tour 22 = .ok (.aload_n 0, 1) := by decide +kernel
theorem dX12_tour_23 : decode cX12_tour 23 = .ok (.iconst (-1), 1) := by decide +kernel
theorem dX12_tour_24 : decode cX12_tour 24 = .ok (.putfield 400, 3) := by decide +kernel
theorem dX12_tour_27 : decode cX12_tour 27 = .ok (.aload_n 0, 1) := by decide +kernel
theorem dX12_tour_28 : decode cX12_tour 28 = .ok (.iconst 0, 1) := by decide +kernel
theorem dX12_tour_29 : decode cX12_tour 29 = .ok (.aload_n 0, 1) := by decide +kernel
theorem dX12_tour_30 : decode cX12_tour 30 = .ok (.getfield 29, 3) := by decide +kernel
theorem dX12_tour_33 : decode cX12_tour 33 = .ok (.iload_n 1, 1) := by decide +kernel
theorem dX12_tour_34 : decode cX12_tour 34 = .ok (.iaload, 1) := by decide +kernel
theorem dX12_tour_35 : decode cX12_tour 35 = .ok (.iload_n 2, 1) := by decide +kernel
theorem dX12_tour_36 : decode cX12_tour 36 = .ok (.iconst 0, 1) := by decide +kernel
theorem dX12_tour_37 : decode cX12_tour 37 = .ok (.invokevirtual 403, 3) := by decide +kernel
theorem dX12_tour_40 : decode cX12_tour 40 = .ok (.aload_n 0, 1) := by decide +kernel
theorem dX12_tour_41 : decode cX12_tour 41 = .ok (.getfield 400, 3) := by decide +kernel
theorem dX12_tour_44 : decode cX12_tour 44 = .ok (.iconst (-1), 1) := by decide +kernel
theorem dX12_tour_45 : decode cX12_tour 45 = .ok (.if_icmp .ne 6, 3) := by decide +kernel
theorem dX12_tour_48 : decode cX12_tour 48 = .ok (.bipush (-2), 2) := by decide +kernel
theorem dX12_tour_50 : decode cX12_tour 50 = .ok (.ireturn, 1) := by decide +kernel
theorem dX12_tour_51 : decode cX12_tour 51 = .ok (.aload_n 0, 1) := by decide +kernel
theorem dX12_tour_52 : decode cX12_tour 52 = .ok (.iconst 0, 1) := by decide +kernel
theorem dX12_tour_53 : decode cX12_tour 53 = .ok (.putfield 146, 3) := by decide +kernel
theorem dX12_tour_56 : decode cX12_tour 56 = .ok (.iconst 0, 1) := by decide +kernel
theorem dX12_tour_57 : decode cX12_tour 57 = .ok (.istore_n 3, 1) := by decide +kernel
theorem dX12_tour_58 : decode cX12_tour 58 = .ok (.iload_n 3, 1) := by decide +kernel
theorem dX12_tour_59 : decode cX12_tour 59 = .ok (.iload_n 2, 1) := by decide +kernel
theorem dX12_tour_60 : decode cX12_tour 60 = .ok (.invokestatic 251, 3) := by decide +kernel
theorem dX12_tour_63 : decode cX12_tour 63 = .ok (.if_icmp .ge 20, 3) := by decide +kernel
theorem dX12_tour_66 : decode cX12_tour 66 = .ok (.aload_n 0, 1) := by decide +kernel
theorem dX12_tour_67 : decode cX12_tour 67 = .ok (.aload_n 0, 1) := by decide +kernel
theorem dX12_tour_68 : decode cX12_tour 68 = .ok (.getfield 107, 3) := by decide +kernel
theorem dX12_tour_71 : decode cX12_tour 71 = .ok (.iload_n 3, 1) := by decide +kernel
theorem dX12_tour_72 : decode cX12_tour 72 = .ok (.iaload, 1) := by decide +kernel
theorem dX12_tour_73 : decode cX12_tour 73 = .ok (.i2l, 1) := by decide +kernel
theorem dX12_tour_74 : decode cX12_tour 74 = .ok (.invokevirtual 278, 3) := by decide +kernel
theorem dX12_tour_77 : decode cX12_tour 77 = .ok (.iinc 3 1, 3) := by decide +kernel
theorem dX12_tour_80 : decode cX12_tour 80 = .ok (.goto (-22), 3) := by decide +kernel
theorem dX12_tour_83 : decode cX12_tour 83 = .ok (.aload_n 0, 1) := by decide +kernel
theorem dX12_tour_84 : decode cX12_tour 84 = .ok (.getfield 400, 3) := by decide +kernel
theorem dX12_tour_87 : decode cX12_tour 87 = .ok (.ireturn, 1) := by decide +kernel
set_option maxRecDepth 100000 in
set_option maxHeartbeats 4000000 in
theorem B_X12_tour_0 {κ : Nat → List Value → List Value → m2M → Prop} {D : Nat} {Q : Option Value → m2M → Prop} (h : m2_RL κ cX12_tour RX12 4 (D + 1) (some .int) Q) (hD : 1 ≤ D) {x1 : Int32} {x2 : Int32} {μ : m2M} (k : ((fX12_isOne x1 (m2_si μ kM 22 0)) = 1 → ((fX12_areSix x2) = 1 → (vp_in x1 8) ∧ (∃ Q12 : Option Value → m2M → Prop, m2_MT D yX12_tourFrom cX12_tourFrom 6 none [.ref kM, .int 0, .int (μ.1 kM_where (x1).toNatClampNeg), .int x2, .int 0] (m2_si (m2_si μ kM 22 0) kM 52 (-1)) Q12 ∧ ∀ (μ11 : m2M), Q12 none μ11 → ((¬ (μ11.1 kM 52) = (-1) → κ 58 [.ref kM, .int x1, .int x2, .int 0] [] (m2_si μ11 kM 21 0)) ∧ ((μ11.1 kM 52) = (-1) → Q (some (.int (-2))) μ11)))) ∧ (¬ (fX12_areSix x2) = 1 → Q (some (.int (-1))) (m2_si μ kM 22 0))) ∧ (¬ (fX12_isOne x1 (m2_si μ kM 22 0)) = 1 → Q (some (.int (-1))) (m2_si μ kM 22 0))) : κ 0 [.ref kM, .int x1, .int x2, .null] [] μ := by
  have hB := h.b
  refine m2_aload_n hB dX12_tour_0 rfl ?_
  refine m2_iconst hB dX12_tour_1 (v := 0) (by decide) ?_
  refine m2_putI hB dX12_tour_2 fl_X12_143 sh_kM rfl ?_
  refine m2_aload_n hB dX12_tour_5 rfl ?_
  refine m2_iload_n hB dX12_tour_6 rfl ?_
  refine m2_invz hB (as := [.int x1]) dX12_tour_7 mv_X12_295 rfl sh_kM rfl (Nat.le_of_ble_eq_true rfl) rfl (P_X12_isOne (by omega) (x1) _ ) (fun y1 μ2 hq3 => ?_)
  obtain ⟨⟨⟩, hq3⟩ := hq3
  subst μ2
  show κ 10 [.ref kM, .int x1, .int x2, .null] [.int (if (fX12_isOne x1 (m2_si μ kM 22 0)) = 1 then 1 else 0 : Int32)] (m2_si μ kM 22 0)
  by_cases q4 : (fX12_isOne x1 (m2_si μ kM 22 0)) = 1
  · rw [if_pos q4]
    replace k := k.1 q4
    refine m2_if_eq hB dX12_tour_10 (tgt := 20) (by decide) (fun q => absurd q (by decide)) (fun _ => ?_)
    refine m2_iload_n hB dX12_tour_13 rfl ?_
    refine m2_invSz hB (as := [.int x2]) dX12_tour_14 ms_X12_407 rfl (Nat.le_of_ble_eq_true rfl) rfl (P_X12_areSix (by omega) (x2) _ ) (fun y5 μ6 hq7 => ?_)
    obtain ⟨⟨⟩, hq7⟩ := hq7
    subst μ6
    show κ 17 [.ref kM, .int x1, .int x2, .null] [.int (if (fX12_areSix x2) = 1 then 1 else 0 : Int32)] (m2_si μ kM 22 0)
    by_cases q8 : (fX12_areSix x2) = 1
    · rw [if_pos q8]
      replace k := k.1 q8
      refine m2_if_ne hB dX12_tour_17 (tgt := 22) (by decide) (fun _ => ?_) (fun q => absurd q (by decide))
      refine m2_aload_n hB dX12_tour_22 rfl ?_
      refine m2_iconst hB dX12_tour_23 (v := (-1)) (by decide) ?_
      refine m2_putI hB dX12_tour_24 fl_X12_400 sh_kM rfl ?_
      refine m2_aload_n hB dX12_tour_27 rfl ?_
      refine m2_iconst hB dX12_tour_28 (v := 0) (by decide) ?_
      refine m2_aload_n hB dX12_tour_29 rfl ?_
      refine m2_getR hB dX12_tour_30 fl_X12_29 sh_kM (c1 := kM_where) rfl ?_
      refine m2_iload_n hB dX12_tour_33 rfl ?_
      obtain ⟨hi9, k⟩ := k
      refine m2_iald hB dX12_tour_34 sh_kM_where hi9 ?_
      refine m2_iload_n hB dX12_tour_35 rfl ?_
      refine m2_iconst hB dX12_tour_36 (v := 0) (by decide) ?_
      obtain ⟨Q12, hM13, k⟩ := k
      refine m2_invv hB (as := [.int 0, .int (μ.1 kM_where (x1).toNatClampNeg), .int x2, .int 0]) dX12_tour_37 mv_X12_403 rfl sh_kM rfl (Nat.le_of_ble_eq_true rfl) rfl hM13 (fun μ11 hq14 => ?_)
      replace k := k μ11 hq14
      refine m2_aload_n hB dX12_tour_40 rfl ?_
      refine m2_getI hB dX12_tour_41 fl_X12_400 sh_kM rfl ?_
      refine m2_iconst hB dX12_tour_44 (v := (-1)) (by decide) ?_
      refine m2_icmp_ne hB dX12_tour_45 (tgt := 51) (by decide) (fun q15 : ¬ (μ11.1 kM 52) = (-1) => ?_) (fun q15 : (μ11.1 kM 52) = (-1) => ?_)
      · replace k := k.1 q15
        refine m2_aload_n hB dX12_tour_51 rfl ?_
        refine m2_iconst hB dX12_tour_52 (v := 0) (by decide) ?_
        refine m2_putI hB dX12_tour_53 fl_X12_146 sh_kM rfl ?_
        refine m2_iconst hB dX12_tour_56 (v := 0) (by decide) ?_
        refine m2_istore_n hB (ls' := [.ref kM, .int x1, .int x2, .int 0]) dX12_tour_57 rfl (by decide) rfl ?_
        exact k
      · replace k := k.2 q15
        refine m2_bipush hB dX12_tour_48 (v := (-2)) (by decide) ?_
        exact m2_iret h dX12_tour_50 k
    · rw [if_neg q8]
      replace k := k.2 q8
      refine m2_if_ne hB dX12_tour_17 (tgt := 22) (by decide) (fun q => absurd q (by decide)) (fun _ => ?_)
      refine m2_iconst hB dX12_tour_20 (v := (-1)) (by decide) ?_
      exact m2_iret h dX12_tour_21 k
  · rw [if_neg q4]
    replace k := k.2 q4
    refine m2_if_eq hB dX12_tour_10 (tgt := 20) (by decide) (fun _ => ?_) (fun q => absurd q (by decide))
    refine m2_iconst hB dX12_tour_20 (v := (-1)) (by decide) ?_
    exact m2_iret h dX12_tour_21 k
set_option maxRecDepth 100000 in
set_option maxHeartbeats 4000000 in
theorem B_X12_tour_58 {κ : Nat → List Value → List Value → m2M → Prop} {D : Nat} {Q : Option Value → m2M → Prop} (h : m2_RL κ cX12_tour RX12 4 (D + 1) (some .int) Q) (hD : 0 ≤ D) {v1 : Int32} {v2 : Int32} {v3 : Int32} {μ : m2M} (k : ((fJ6_bitCount_0f7a4 v2) ≤ v3 → Q (some (.int (μ.1 kM 52))) μ) ∧ (¬ (fJ6_bitCount_0f7a4 v2) ≤ v3 → (vp_in v3 6) ∧ (∃ Q9 : Option Value → m2M → Prop, m2_MT D yX12_tell cX12_tell 3 none [.ref kM, .long ((μ.1 kM_bestTour (v3).toNatClampNeg)).toInt64] μ Q9 ∧ ∀ (μ8 : m2M), Q9 none μ8 → (κ 58 [.ref kM, .int v1, .int v2, .int (v3 + 1)] [] μ8)))) : κ 58 [.ref kM, .int v1, .int v2, .int v3] [] μ := by
  have hB := h.b
  refine m2_iload_n hB dX12_tour_58 rfl ?_
  refine m2_iload_n hB dX12_tour_59 rfl ?_
  refine m2_invSi hB (as := [.int v2]) dX12_tour_60 ms_X12_251 rfl (Nat.le_of_ble_eq_true rfl) rfl (P_J6_bitCount_0f7a4 (by omega) (v2) _ ) (fun y1 μ2 hq3 => ?_)
  obtain ⟨⟨⟩, hq3⟩ := hq3
  subst μ2
  refine m2_icmp_ge hB dX12_tour_63 (tgt := 83) (by decide) (fun q5 : (fJ6_bitCount_0f7a4 v2) ≤ v3 => ?_) (fun q5 : ¬ (fJ6_bitCount_0f7a4 v2) ≤ v3 => ?_)
  · replace k := k.1 q5
    refine m2_aload_n hB dX12_tour_83 rfl ?_
    refine m2_getI hB dX12_tour_84 fl_X12_400 sh_kM rfl ?_
    exact m2_iret h dX12_tour_87 k
  · replace k := k.2 q5
    refine m2_aload_n hB dX12_tour_66 rfl ?_
    refine m2_aload_n hB dX12_tour_67 rfl ?_
    refine m2_getR hB dX12_tour_68 fl_X12_107 sh_kM (c1 := kM_bestTour) rfl ?_
    refine m2_iload_n hB dX12_tour_71 rfl ?_
    obtain ⟨hi6, k⟩ := k
    refine m2_iald hB dX12_tour_72 sh_kM_bestTour hi6 ?_
    refine m2_i2l hB dX12_tour_73 ?_
    obtain ⟨Q9, hM10, k⟩ := k
    refine m2_invv hB (as := [.long ((μ.1 kM_bestTour (v3).toNatClampNeg)).toInt64]) dX12_tour_74 mv_X12_278 rfl sh_kM rfl (Nat.le_of_ble_eq_true rfl) rfl hM10 (fun μ8 hq11 => ?_)
    replace k := k μ8 hq11
    refine m2_iinc hB (ls' := [.ref kM, .int v1, .int v2, .int (v3 + 1)]) (v := (v3 + 1)) dX12_tour_77 rfl (by decide) rfl rfl ?_
    refine m2_goto hB dX12_tour_80 (tgt := 58) (by decide) ?_
    exact k
theorem dX12_send_0 : decode cX12_send 0 = .ok (.aload_n 0, 1) := by decide +kernel
theorem dX12_send_1 : decode cX12_send 1 = .ok (.iconst 0, 1) := by decide +kernel
theorem dX12_send_2 : decode cX12_send 2 = .ok (.putfield 143, 3) := by decide +kernel
theorem dX12_send_5 : decode cX12_send 5 = .ok (.iload_n 1, 1) := by decide +kernel
theorem dX12_send_6 : decode cX12_send 6 = .ok (.invokestatic 407, 3) := by decide +kernel
theorem dX12_send_9 : decode cX12_send 9 = .ok (.ifCond .eq 10, 3) := by decide +kernel
theorem dX12_send_12 : decode cX12_send 12 = .ok (.aload_n 0, 1) := by decide +kernel
theorem dX12_send_13 : decode cX12_send 13 = .ok (.getfield 156, 3) := by decide +kernel
theorem dX12_send_16 : decode cX12_send 16 = .ok (.ifCond .ne 5, 3) := by decide +kernel
theorem dX12_send_19 : decode cX12_send 19 = .ok (.iconst (-1), 1) := by decide +kernel
theorem dX12_send_20 : decode cX12_send 20 = .ok (.ireturn, 1) := by decide +kernel
theorem dX12_send_21 : decode cX12_send 21 = .ok (.bipush (-2), 2) := by decide +kernel
theorem dX12_send_23 : decode cX12_send 23 = .ok (.istore_n 2, 1) := by decide +kernel
theorem dX12_send_24 : decode cX12_send 24 = .ok (.iconst 0, 1) := by decide +kernel
theorem dX12_send_25 : decode cX12_send 25 = .ok (.istore_n 3, 1) := by decide +kernel
theorem dX12_send_26 : decode cX12_send 26 = .ok (.iconst 0, 1) := by decide +kernel
theorem dX12_send_27 : decode cX12_send 27 = .ok (.istore 4, 2) := by decide +kernel
theorem dX12_send_29 : decode cX12_send 29 = .ok (.iload 4, 2) := by decide +kernel
theorem dX12_send_31 : decode cX12_send 31 = .ok (.aload_n 0, 1) := by decide +kernel
theorem dX12_send_32 : decode cX12_send 32 = .ok (.getfield 156, 3) := by decide +kernel
theorem dX12_send_35 : decode cX12_send 35 = .ok (.if_icmp .ge 59, 3) := by decide +kernel
theorem dX12_send_38 : decode cX12_send 38 = .ok (.aload_n 0, 1) := by decide +kernel
theorem dX12_send_39 : decode cX12_send 39 = .ok (.iconst (-1), 1) := by decide +kernel
theorem dX12_send_40 : decode cX12_send 40 = .ok (.putfield 400, 3) := by decide +kernel
theorem dX12_send_43 : decode cX12_send 43 = .ok (.aload_n 0, 1) := by decide +kernel
theorem dX12_send_44 : decode cX12_send 44 = .ok (.iconst 0, 1) := by decide +kernel
theorem dX12_send_45 : decode cX12_send 45 = .ok (.aload_n 0, 1) := by decide +kernel
theorem dX12_send_46 : decode cX12_send 46 = .ok (.getfield 29, 3) := by decide +kernel
theorem dX12_send_49 : decode cX12_send 49 = .ok (.iload 4, 2) := by decide +kernel
theorem dX12_send_51 : decode cX12_send 51 = .ok (.iaload, 1) := by decide +kernel
theorem dX12_send_52 : decode cX12_send 52 = .ok (.iload_n 1, 1) := by decide +kernel
theorem dX12_send_53 : decode cX12_send 53 = .ok (.iconst 0, 1) := by decide +kernel
theorem dX12_send_54 : decode cX12_send 54 = .ok (.invokevirtual 403, 3) := by decide +kernel
theorem dX12_send_57 : decode cX12_send 57 = .ok (.aload_n 0, 1) := by decide +kernel
theorem dX12_send_58 : decode cX12_send 58 = .ok (.getfield 400, 3) := by decide +kernel
theorem dX12_send_61 : decode cX12_send 61 = .ok (.iconst (-1), 1) := by decide +kernel
theorem dX12_send_62 : decode cX12_send 62 = .ok (.if_icmp .eq 26, 3) := by decide +kernel
theorem dX12_send_65 : decode cX12_send 65 = .ok (.iload_n 2, 1) := by decide +kernel
theorem dX12_send_66 : decode cX12_send 66 = .ok (.ifCond .lt 14, 3) := by decide +kernel
theorem dX12_send_69 : decode cX12_send 69 = .ok (.aload_n 0, 1) := by decide +kernel
theorem dX12_send_70 : decode cX12_send 70 = .ok (.getfield 400, 3) := by decide +kernel
theorem dX12_send_73 : decode cX12_send 73 = .ok (.iload_n 3, 1) := by decide +kernel
theorem dX12_send_74 : decode cX12_send 74 = .ok (.if_icmp .lt 6, 3) := by decide +kernel
theorem dX12_send_77 : decode cX12_send 77 = .ok (.goto 11, 3) := by decide +kernel
theorem dX12_send_80 : decode cX12_send 80 = .ok (.iload 4, 2) := by decide +kernel
theorem dX12_send_82 : decode cX12_send 82 = .ok (.istore_n 2, 1) := by decide +kernel
theorem dX12_send_83 : decode cX12_send 83 = .ok (.aload_n 0, 1) := by decide +kernel
theorem dX12_send_84 : decode cX12_send 84 = .ok (.getfield 400, 3) := by decide +kernel
theorem dX12_send_87 : decode cX12_send 87 = .ok (.istore_n 3, 1) := by decide +kernel
theorem dX12_send_88 : decode cX12_send 88 = .ok (.iinc 4 1, 3) := by decide +kernel
theorem dX12_send_91 : decode cX12_send 91 = .ok (.goto (-62), 3) := by decide +kernel
theorem dX12_send_94 : decode cX12_send 94 = .ok (.iload_n 2, 1) := by decide +kernel
theorem dX12_send_95 : decode cX12_send 95 = .ok (.ifCond .ge 6, 3) := by decide +kernel
theorem dX12_send_98 : decode cX12_send 98 = .ok (.bipush (-2), 2) := by decide +kernel
theorem dX12_send_100 : decode cX12_send 100 = .ok (.ireturn, 1) := by decide +kernel
theorem dX12_send_101 : decode cX12_send 101 = .ok (.aload_n 0, 1) := by decide +kernel
theorem dX12_send_102 : decode cX12_send 102 = .ok (.iconst 0, 1) := by decide +kernel
theorem dX12_send_103 : decode cX12_send 103 = .ok (.putfield 146, 3) := by decide +kernel
theorem dX12_send_106 : decode cX12_send 106 = .ok (.aload_n 0, 1) := by decide +kernel
theorem dX12_send_107 : decode cX12_send 107 = .ok (.iload_n 3, 1) := by decide +kernel
theorem dX12_send_108 : decode cX12_send 108 = .ok (.i2l, 1) := by decide +kernel
theorem dX12_send_109 : decode cX12_send 109 = .ok (.invokevirtual 278, 3) := by decide +kernel
theorem dX12_send_112 : decode cX12_send 112 = .ok (.iload_n 2, 1) := by decide +kernel
theorem dX12_send_113 : decode cX12_send 113 = .ok (.ireturn, 1) := by decide +kernel
set_option maxRecDepth 100000 in
set_option maxHeartbeats 4000000 in
theorem B_X12_send_0 {κ : Nat → List Value → List Value → m2M → Prop} {D : Nat} {Q : Option Value → m2M → Prop} (h : m2_RL κ cX12_send RX12 5 (D + 1) (some .int) Q) (hD : 1 ≤ D) {x1 : Int32} {μ : m2M} (k : ((fX12_areSix x1) = 1 → (¬ (μ.1 kM 7) = 0 → κ 29 [.ref kM, .int x1, .int (-2), .int 0, .int 0] [] (m2_si μ kM 22 0)) ∧ ((μ.1 kM 7) = 0 → Q (some (.int (-1))) (m2_si μ kM 22 0))) ∧ (¬ (fX12_areSix x1) = 1 → Q (some (.int (-1))) (m2_si μ kM 22 0))) : κ 0 [.ref kM, .int x1, .null, .null, .null] [] μ := by
  have hB := h.b
  refine m2_aload_n hB dX12_send_0 rfl ?_
  refine m2_iconst hB dX12_send_1 (v := 0) (by decide) ?_
  refine m2_putI hB dX12_send_2 fl_X12_143 sh_kM rfl ?_
  refine m2_iload_n hB dX12_send_5 rfl ?_
  refine m2_invSz hB (as := [.int x1]) dX12_send_6 ms_X12_407 rfl (Nat.le_of_ble_eq_true rfl) rfl (P_X12_areSix (by omega) (x1) _ ) (fun y1 μ2 hq3 => ?_)
  obtain ⟨⟨⟩, hq3⟩ := hq3
  subst μ2
  show κ 9 [.ref kM, .int x1, .null, .null, .null] [.int (if (fX12_areSix x1) = 1 then 1 else 0 : Int32)] (m2_si μ kM 22 0)
  by_cases q4 : (fX12_areSix x1) = 1
  · rw [if_pos q4]
    replace k := k.1 q4
    refine m2_if_eq hB dX12_send_9 (tgt := 19) (by decide) (fun q => absurd q (by decide)) (fun _ => ?_)
    refine m2_aload_n hB dX12_send_12 rfl ?_
    refine m2_getI hB dX12_send_13 fl_X12_156 sh_kM rfl ?_
    refine m2_if_ne hB dX12_send_16 (tgt := 21) (by decide) (fun q5 : ¬ (μ.1 kM 7) = 0 => ?_) (fun q5 : (μ.1 kM 7) = 0 => ?_)
    · replace k := k.1 q5
      refine m2_bipush hB dX12_send_21 (v := (-2)) (by decide) ?_
      refine m2_istore_n hB (ls' := [.ref kM, .int x1, .int (-2), .null, .null]) dX12_send_23 rfl (by decide) rfl ?_
      refine m2_iconst hB dX12_send_24 (v := 0) (by decide) ?_
      refine m2_istore_n hB (ls' := [.ref kM, .int x1, .int (-2), .int 0, .null]) dX12_send_25 rfl (by decide) rfl ?_
      refine m2_iconst hB dX12_send_26 (v := 0) (by decide) ?_
      refine m2_istore hB (ls' := [.ref kM, .int x1, .int (-2), .int 0, .int 0]) dX12_send_27 (by decide) rfl ?_
      exact k
    · replace k := k.2 q5
      refine m2_iconst hB dX12_send_19 (v := (-1)) (by decide) ?_
      exact m2_iret h dX12_send_20 k
  · rw [if_neg q4]
    replace k := k.2 q4
    refine m2_if_eq hB dX12_send_9 (tgt := 19) (by decide) (fun _ => ?_) (fun q => absurd q (by decide))
    refine m2_iconst hB dX12_send_19 (v := (-1)) (by decide) ?_
    exact m2_iret h dX12_send_20 k
set_option maxRecDepth 100000 in
set_option maxHeartbeats 4000000 in
theorem B_X12_send_29 {κ : Nat → List Value → List Value → m2M → Prop} {D : Nat} {Q : Option Value → m2M → Prop} (h : m2_RL κ cX12_send RX12 5 (D + 1) (some .int) Q) {v1 : Int32} {v2 : Int32} {v3 : Int32} {v4 : Int32} {μ : m2M} (k : ((μ.1 kM 7) ≤ v4 → (0 ≤ v2 → ∃ Q5 : Option Value → m2M → Prop, m2_MT D yX12_tell cX12_tell 3 none [.ref kM, .long (v3).toInt64] (m2_si μ kM 21 0) Q5 ∧ ∀ (μ4 : m2M), Q5 none μ4 → (Q (some (.int v2)) μ4)) ∧ (¬ 0 ≤ v2 → Q (some (.int (-2))) μ)) ∧ (¬ (μ.1 kM 7) ≤ v4 → (vp_in v4 8) ∧ (∃ Q11 : Option Value → m2M → Prop, m2_MT D yX12_tourFrom cX12_tourFrom 6 none [.ref kM, .int 0, .int (μ.1 kM_where (v4).toNatClampNeg), .int v1, .int 0] (m2_si μ kM 52 (-1)) Q11 ∧ ∀ (μ10 : m2M), Q11 none μ10 → (((μ10.1 kM 52) = (-1) → κ 29 [.ref kM, .int v1, .int v2, .int v3, .int (v4 + 1)] [] μ10) ∧ (¬ (μ10.1 kM 52) = (-1) → (v2 < 0 → κ 29 [.ref kM, .int v1, .int v4, .int (μ10.1 kM 52), .int (v4 + 1)] [] μ10) ∧ (¬ v2 < 0 → ((μ10.1 kM 52) < v3 → κ 29 [.ref kM, .int v1, .int v4, .int (μ10.1 kM 52), .int (v4 + 1)] [] μ10) ∧ (¬ (μ10.1 kM 52) < v3 → κ 29 [.ref kM, .int v1, .int v2, .int v3, .int (v4 + 1)] [] μ10))))))) : κ 29 [.ref kM, .int v1, .int v2, .int v3, .int v4] [] μ := by
  have hB := h.b
  refine m2_iload hB dX12_send_29 rfl ?_
  refine m2_aload_n hB dX12_send_31 rfl ?_
  refine m2_getI hB dX12_send_32 fl_X12_156 sh_kM rfl ?_
  refine m2_icmp_ge hB dX12_send_35 (tgt := 94) (by decide) (fun q1 : (μ.1 kM 7) ≤ v4 => ?_) (fun q1 : ¬ (μ.1 kM 7) ≤ v4 => ?_)
  · replace k := k.1 q1
    refine m2_iload_n hB dX12_send_94 rfl ?_
    refine m2_if_ge hB dX12_send_95 (tgt := 101) (by decide) (fun q2 : 0 ≤ v2 => ?_) (fun q2 : ¬ 0 ≤ v2 => ?_)
    · replace k := k.1 q2
      refine m2_aload_n hB dX12_send_101 rfl ?_
      refine m2_iconst hB dX12_send_102 (v := 0) (by decide) ?_
      refine m2_putI hB dX12_send_103 fl_X12_146 sh_kM rfl ?_
      refine m2_aload_n hB dX12_send_106 rfl ?_
      refine m2_iload_n hB dX12_send_107 rfl ?_
      refine m2_i2l hB dX12_send_108 ?_
      obtain ⟨Q5, hM6, k⟩ := k
      refine m2_invv hB (as := [.long (v3).toInt64]) dX12_send_109 mv_X12_278 rfl sh_kM rfl (Nat.le_of_ble_eq_true rfl) rfl hM6 (fun μ4 hq7 => ?_)
      replace k := k μ4 hq7
      refine m2_iload_n hB dX12_send_112 rfl ?_
      exact m2_iret h dX12_send_113 k
    · replace k := k.2 q2
      refine m2_bipush hB dX12_send_98 (v := (-2)) (by decide) ?_
      exact m2_iret h dX12_send_100 k
  · replace k := k.2 q1
    refine m2_aload_n hB dX12_send_38 rfl ?_
    refine m2_iconst hB dX12_send_39 (v := (-1)) (by decide) ?_
    refine m2_putI hB dX12_send_40 fl_X12_400 sh_kM rfl ?_
    refine m2_aload_n hB dX12_send_43 rfl ?_
    refine m2_iconst hB dX12_send_44 (v := 0) (by decide) ?_
    refine m2_aload_n hB dX12_send_45 rfl ?_
    refine m2_getR hB dX12_send_46 fl_X12_29 sh_kM (c1 := kM_where) rfl ?_
    refine m2_iload hB dX12_send_49 rfl ?_
    obtain ⟨hi8, k⟩ := k
    refine m2_iald hB dX12_send_51 sh_kM_where hi8 ?_
    refine m2_iload_n hB dX12_send_52 rfl ?_
    refine m2_iconst hB dX12_send_53 (v := 0) (by decide) ?_
    obtain ⟨Q11, hM12, k⟩ := k
    refine m2_invv hB (as := [.int 0, .int (μ.1 kM_where (v4).toNatClampNeg), .int v1, .int 0]) dX12_send_54 mv_X12_403 rfl sh_kM rfl (Nat.le_of_ble_eq_true rfl) rfl hM12 (fun μ10 hq13 => ?_)
    replace k := k μ10 hq13
    refine m2_aload_n hB dX12_send_57 rfl ?_
    refine m2_getI hB dX12_send_58 fl_X12_400 sh_kM rfl ?_
    refine m2_iconst hB dX12_send_61 (v := (-1)) (by decide) ?_
    refine m2_icmp_eq hB dX12_send_62 (tgt := 88) (by decide) (fun q14 : (μ10.1 kM 52) = (-1) => ?_) (fun q14 : ¬ (μ10.1 kM 52) = (-1) => ?_)
    · replace k := k.1 q14
      refine m2_iinc hB (ls' := [.ref kM, .int v1, .int v2, .int v3, .int (v4 + 1)]) (v := (v4 + 1)) dX12_send_88 rfl (by decide) rfl rfl ?_
      refine m2_goto hB dX12_send_91 (tgt := 29) (by decide) ?_
      exact k
    · replace k := k.2 q14
      refine m2_iload_n hB dX12_send_65 rfl ?_
      refine m2_if_lt hB dX12_send_66 (tgt := 80) (by decide) (fun q15 : v2 < 0 => ?_) (fun q15 : ¬ v2 < 0 => ?_)
      · replace k := k.1 q15
        refine m2_iload hB dX12_send_80 rfl ?_
        refine m2_istore_n hB (ls' := [.ref kM, .int v1, .int v4, .int v3, .int v4]) dX12_send_82 rfl (by decide) rfl ?_
        refine m2_aload_n hB dX12_send_83 rfl ?_
        refine m2_getI hB dX12_send_84 fl_X12_400 sh_kM rfl ?_
        refine m2_istore_n hB (ls' := [.ref kM, .int v1, .int v4, .int (μ10.1 kM 52), .int v4]) dX12_send_87 rfl (by decide) rfl ?_
        refine m2_iinc hB (ls' := [.ref kM, .int v1, .int v4, .int (μ10.1 kM 52), .int (v4 + 1)]) (v := (v4 + 1)) dX12_send_88 rfl (by decide) rfl rfl ?_
        refine m2_goto hB dX12_send_91 (tgt := 29) (by decide) ?_
        exact k
      · replace k := k.2 q15
        refine m2_aload_n hB dX12_send_69 rfl ?_
        refine m2_getI hB dX12_send_70 fl_X12_400 sh_kM rfl ?_
        refine m2_iload_n hB dX12_send_73 rfl ?_
        refine m2_icmp_lt hB dX12_send_74 (tgt := 80) (by decide) (fun q16 : (μ10.1 kM 52) < v3 => ?_) (fun q16 : ¬ (μ10.1 kM 52) < v3 => ?_)
        · replace k := k.1 q16
          refine m2_iload hB dX12_send_80 rfl ?_
          refine m2_istore_n hB (ls' := [.ref kM, .int v1, .int v4, .int v3, .int v4]) dX12_send_82 rfl (by decide) rfl ?_
          refine m2_aload_n hB dX12_send_83 rfl ?_
          refine m2_getI hB dX12_send_84 fl_X12_400 sh_kM rfl ?_
          refine m2_istore_n hB (ls' := [.ref kM, .int v1, .int v4, .int (μ10.1 kM 52), .int v4]) dX12_send_87 rfl (by decide) rfl ?_
          refine m2_iinc hB (ls' := [.ref kM, .int v1, .int v4, .int (μ10.1 kM 52), .int (v4 + 1)]) (v := (v4 + 1)) dX12_send_88 rfl (by decide) rfl rfl ?_
          refine m2_goto hB dX12_send_91 (tgt := 29) (by decide) ?_
          exact k
        · replace k := k.2 q16
          refine m2_goto hB dX12_send_77 (tgt := 88) (by decide) ?_
          refine m2_iinc hB (ls' := [.ref kM, .int v1, .int v2, .int v3, .int (v4 + 1)]) (v := (v4 + 1)) dX12_send_88 rfl (by decide) rfl rfl ?_
          refine m2_goto hB dX12_send_91 (tgt := 29) (by decide) ?_
          exact k
theorem dX12_twoFrom_0 : decode cX12_twoFrom 0 = .ok (.iload_n 1, 1) := by decide +kernel
theorem dX12_twoFrom_1 : decode cX12_twoFrom 1 = .ok (.ifCond .eq 7, 3) := by decide +kernel
theorem dX12_twoFrom_4 : decode cX12_twoFrom 4 = .ok (.iload_n 2, 1) := by decide +kernel
theorem dX12_twoFrom_5 : decode cX12_twoFrom 5 = .ok (.goto 9, 3) := by decide +kernel
theorem dX12_twoFrom_8 : decode cX12_twoFrom 8 = .ok (.aload_n 0, 1) := by decide +kernel
theorem dX12_twoFrom_9 : decode cX12_twoFrom 9 = .ok (.getfield 410, 3) := by decide +kernel
theorem dX12_twoFrom_12 : decode cX12_twoFrom 12 = .ok (.iload_n 2, 1) := by decide +kernel
theorem dX12_twoFrom_13 : decode cX12_twoFrom 13 = .ok (.iadd, 1) := by decide +kernel
theorem dX12_twoFrom_14 : decode cX12_twoFrom 14 = .ok (.istore 5, 2) := by decide +kernel
theorem dX12_twoFrom_16 : decode cX12_twoFrom 16 = .ok (.aload_n 0, 1) := by decide +kernel
theorem dX12_twoFrom_17 : decode cX12_twoFrom 17 = .ok (.getfield 413, 3) := by decide +kernel
theorem dX12_twoFrom_20 : decode cX12_twoFrom 20 = .ok (.iconst (-1), 1) := by decide +kernel
theorem dX12_twoFrom_21 : decode cX12_twoFrom 21 = .ok (.if_icmp .eq 13, 3) := by decide +kernel
theorem dX12_twoFrom_24 : decode cX12_twoFrom 24 = .ok (.iload 5, 2) := by decide +kernel
theorem dX12_twoFrom_26 : decode cX12_twoFrom 26 = .ok (.aload_n 0, 1) := by decide +kernel
theorem dX12_twoFrom_27 : decode cX12_twoFrom 27 = .ok (.getfield 413, 3) := by decide +kernel
theorem dX12_twoFrom_30 : decode cX12_twoFrom 30 = .ok (.if_icmp .lt 4, 3) := by decide +kernel
theorem dX12_twoFrom_33 : decode cX12_twoFrom 33 = .ok (.return_, 1) := by decide +kernel
theorem dX12_twoFrom_34 : decode cX12_twoFrom 34 = .ok (.iload_n 3, 1) := by decide +kernel
theorem dX12_twoFrom_35 : decode cX12_twoFrom 35 = .ok (.iload_n 1, 1) := by decide +kernel
theorem dX12_twoFrom_36 : decode cX12_twoFrom 36 = .ok (.ifCond .eq 10, 3) := by decide +kernel
theorem dX12_twoFrom_39 : decode cX12_twoFrom 39 = .ok (.aload_n 0, 1) := by decide +kernel
theorem dX12_twoFrom_40 : decode cX12_twoFrom 40 = .ok (.getfield 416, 3) := by decide +kernel
theorem dX12_twoFrom_43 : decode cX12_twoFrom 43 = .ok (.goto 7, 3) := by decide +kernel
theorem dX12_twoFrom_46 : decode cX12_twoFrom 46 = .ok (.aload_n 0, 1) := by decide +kernel
theorem dX12_twoFrom_47 : decode cX12_twoFrom 47 = .ok (.getfield 419, 3) := by decide +kernel
theorem dX12_twoFrom_50 : decode cX12_twoFrom 50 = .ok (.if_icmp .ne 138, 3) := by decide +kernel
theorem dX12_twoFrom_53 : decode cX12_twoFrom 53 = .ok (.iload_n 1, 1) := by decide +kernel
theorem dX12_twoFrom_54 : decode cX12_twoFrom 54 = .ok (.ifCond .eq 35, 3) := by decide +kernel
theorem dX12_twoFrom_57 : decode cX12_twoFrom 57 = .ok (.aload_n 0, 1) := by decide +kernel
theorem dX12_twoFrom_58 : decode cX12_twoFrom 58 = .ok (.iload_n 2, 1) := by decide +kernel
theorem dX12_twoFrom_59 : decode cX12_twoFrom 59 = .ok (.putfield 410, 3) := by decide +kernel
theorem dX12_twoFrom_62 : decode cX12_twoFrom 62 = .ok (.aload_n 0, 1) := by decide +kernel
theorem dX12_twoFrom_63 : decode cX12_twoFrom 63 = .ok (.iconst 0, 1) := by decide +kernel
theorem dX12_twoFrom_64 : decode cX12_twoFrom 64 = .ok (.iconst 0, 1) := by decide +kernel
theorem dX12_twoFrom_65 : decode cX12_twoFrom 65 = .ok (.aload_n 0, 1) := by decide +kernel
theorem dX12_twoFrom_66 : decode cX12_twoFrom 66 = .ok (.getfield 29, 3) := by decide +kernel
theorem dX12_twoFrom_69 : decode cX12_twoFrom 69 = .ok (.aload_n 0, 1) := by decide +kernel
theorem dX12_twoFrom_70 : decode cX12_twoFrom 70 = .ok (.getfield 422, 3) := by decide +kernel
theorem dX12_twoFrom_73 : decode cX12_twoFrom 73 = .ok (.iaload, 1) := by decide +kernel
theorem dX12_twoFrom_74 : decode cX12_twoFrom 74 = .ok (.iconst 1, 1) := by decide +kernel
theorem dX12_twoFrom_75 : decode cX12_twoFrom 75 = .ok (.aload_n 0, 1) := by decide +kernel
theorem dX12_twoFrom_76 : decode cX12_twoFrom 76 = .ok (.getfield 29, 3) := by decide +kernel
theorem dX12_twoFrom_79 : decode cX12_twoFrom 79 = .ok (.aload_n 0, 1) := by decide +kernel
theorem dX12_twoFrom_80 : decode cX12_twoFrom 80 = .ok (.getfield 422, 3) := by decide +kernel
theorem dX12_twoFrom_83 : decode cX12_twoFrom 83 = .ok (.iaload, 1) := by decide +kernel
theorem dX12_twoFrom_84 : decode cX12_twoFrom 84 = .ok (.ishl, 1) := by decide +kernel
theorem dX12_twoFrom_85 : decode cX12_twoFrom 85 = .ok (.invokevirtual 425, 3) := by decide +kernel
theorem dX12_twoFrom_88 : decode cX12_twoFrom 88 = .ok (.return_, 1) := by decide +kernel
theorem dX12_twoFrom_89 : decode cX12_twoFrom 89 = .ok (.aload_n 0, 1) := by decide +kernel
theorem dX12_twoFrom_90 : decode cX12_twoFrom 90 = .ok (.iload 5, 2) := by decide +kernel
theorem dX12_twoFrom_92 : decode cX12_twoFrom 92 = .ok (.putfield 413, 3) := by decide +kernel
theorem dX12_twoFrom_95 : decode cX12_twoFrom 95 = .ok (.aload_n 0, 1) := by decide +kernel
theorem dX12_twoFrom_96 : decode cX12_twoFrom 96 = .ok (.getfield 116, 3) := by decide +kernel
theorem dX12_twoFrom_99 : decode cX12_twoFrom 99 = .ok (.iconst 0, 1) := by decide +kernel
theorem dX12_twoFrom_100 : decode cX12_twoFrom 100 = .ok (.aload_n 0, 1) := by decide +kernel
theorem dX12_twoFrom_101 : decode cX12_twoFrom 101 = .ok (.getfield 410, 3) := by decide +kernel
theorem dX12_twoFrom_104 : decode cX12_twoFrom 104 = .ok (.iastore, 1) := by decide +kernel
theorem dX12_twoFrom_105 : decode cX12_twoFrom 105 = .ok (.iconst 0, 1) := by decide +kernel
theorem dX12_twoFrom_106 : decode cX12_twoFrom 106 = .ok (.istore 6, 2) := by decide +kernel
theorem dX12_twoFrom_108 : decode cX12_twoFrom 108 = .ok (.iload 6, 2) := by decide +kernel
theorem dX12_twoFrom_110 : decode cX12_twoFrom 110 = .ok (.aload_n 0, 1) := by decide +kernel
theorem dX12_twoFrom_111 : decode cX12_twoFrom 111 = .ok (.getfield 410, 3) := by decide +kernel
theorem dX12_twoFrom_114 : decode cX12_twoFrom 114 = .ok (.if_icmp .ge 25, 3) := by decide +kernel
theorem dX12_twoFrom_117 : decode cX12_twoFrom 117 = .ok (.aload_n 0, 1) := by decide +kernel
theorem dX12_twoFrom_118 : decode cX12_twoFrom 118 = .ok (.getfield 116, 3) := by decide +kernel
theorem dX12_twoFrom_121 : decode cX12_twoFrom 121 = .ok (.iconst 1, 1) := by decide +kernel
theorem dX12_twoFrom_122 : decode cX12_twoFrom 122 = .ok (.iload 6, 2) := by decide +kernel
theorem dX12_twoFrom_124 : decode cX12_twoFrom 124 = .ok (.iadd, 1) := by decide +kernel
theorem dX12_twoFrom_125 : decode cX12_twoFrom 125 = .ok (.aload_n 0, 1) := by decide +kernel
theorem dX12_twoFrom_126 : decode cX12_twoFrom 126 = .ok (.getfield 110, 3) := by decide +kernel
theorem dX12_twoFrom_129 : decode cX12_twoFrom 129 = .ok (.iload 6, 2) := by decide +kernel
theorem dX12_twoFrom_131 : decode cX12_twoFrom 131 = .ok (.iaload, 1) := by decide +kernel
theorem dX12_twoFrom_132 : decode cX12_twoFrom 132 = .ok (.iastore, 1) := by decide +kernel
theorem dX12_twoFrom_133 : decode cX12_twoFrom 133 = .ok (.iinc 6 1, 3) := by decide +kernel
theorem dX12_twoFrom_136 : decode cX12_twoFrom 136 = .ok (.goto (-28), 3) := by decide +kernel
theorem dX12_twoFrom_139 : decode cX12_twoFrom 139 = .ok (.aload_n 0, 1) := by decide +kernel
theorem dX12_twoFrom_140 : decode cX12_twoFrom 140 = .ok (.getfield 116, 3) := by decide +kernel
theorem dX12_twoFrom_143 : decode cX12_twoFrom 143 = .ok (.iconst 1, 1) := by decide +kernel
theorem dX12_twoFrom_144 : decode cX12_twoFrom 144 = .ok (.aload_n 0, 1) := by decide +kernel
theorem dX12_twoFrom_145 : decode cX12_twoFrom 145 = .ok (.getfield 410, 3) := by decide +kernel
theorem dX12_twoFrom_148 : decode cX12_twoFrom 148 = .ok (.iadd, 1) := by decide +kernel
theorem dX12_twoFrom_149 : decode cX12_twoFrom 149 = .ok (.iload_n 2, 1) := by decide +kernel
theorem dX12_twoFrom_150 : decode cX12_twoFrom 150 = .ok (.iastore, 1) := by decide +kernel
theorem dX12_twoFrom_151 : decode cX12_twoFrom 151 = .ok (.iconst 0, 1) := by decide +kernel
theorem dX12_twoFrom_152 : decode cX12_twoFrom 152 = .ok (.istore 6, 2) := by decide +kernel
theorem dX12_twoFrom_154 : decode cX12_twoFrom 154 = .ok (.iload 6, 2) := by decide +kernel
theorem dX12_twoFrom_156 : decode cX12_twoFrom 156 = .ok (.iload_n 2, 1) := by decide +kernel
theorem dX12_twoFrom_157 : decode cX12_twoFrom 157 = .ok (.if_icmp .ge 30, 3) := by decide +kernel
theorem dX12_twoFrom_160 : decode cX12_twoFrom 160 = .ok (.aload_n 0, 1) := by decide +kernel
theorem dX12_twoFrom_161 : decode cX12_twoFrom 161 = .ok (.getfield 116, 3) := by decide +kernel
theorem dX12_twoFrom_164 : decode cX12_twoFrom 164 = .ok (.iconst 2, 1) := by decide +kernel
theorem dX12_twoFrom_165 : decode cX12_twoFrom 165 = .ok (.aload_n 0, 1) := by decide +kernel
theorem dX12_twoFrom_166 : decode cX12_twoFrom 166 = .ok (.getfield 410, 3) := by decide +kernel
theorem dX12_twoFrom_169 : decode cX12_twoFrom 169 = .ok (.iadd, 1) := by decide +kernel
theorem dX12_twoFrom_170 : decode cX12_twoFrom 170 = .ok (.iload 6, 2) := by decide +kernel
theorem dX12_twoFrom_172 : decode cX12_twoFrom 172 = .ok (.iadd, 1) := by decide +kernel
theorem dX12_twoFrom_173 : decode cX12_twoFrom 173 = .ok (.aload_n 0, 1) := by decide +kernel
theorem dX12_twoFrom_174 : decode cX12_twoFrom 174 = .ok (.getfield 113, 3) := by decide +kernel
theorem dX12_twoFrom_177 : decode cX12_twoFrom 177 = .ok (.iload 6, 2) := by decide +kernel
theorem dX12_twoFrom_179 : decode cX12_twoFrom 179 = .ok (.iaload, 1) := by decide +kernel
theorem dX12_twoFrom_180 : decode cX12_twoFrom 180 = .ok (.iastore, 1) := by decide +kernel
theorem dX12_twoFrom_181 : decode cX12_twoFrom 181 = .ok (.iinc 6 1, 3) := by decide +kernel
theorem dX12_twoFrom_184 : decode cX12_twoFrom 184 = .ok (.goto (-30), 3) := by decide +kernel
theorem dX12_twoFrom_187 : decode cX12_twoFrom 187 = .ok (.return_, 1) := by decide +kernel
theorem dX12_twoFrom_188 : decode cX12_twoFrom 188 = .ok (.iload_n 2, 1) := by decide +kernel
theorem dX12_twoFrom_189 : decode cX12_twoFrom 189 = .ok (.iconst 5, 1) := by decide +kernel
theorem dX12_twoFrom_190 : decode cX12_twoFrom 190 = .ok (.if_icmp .ne 4, 3) := by decide +kernel
theorem dX12_twoFrom_193 : decode cX12_twoFrom 193 = .ok (.return_, 1) := by decide +kernel
theorem dX12_twoFrom_194 : decode cX12_twoFrom 194 = .ok (.iload_n 1, 1) := by decide +kernel
theorem dX12_twoFrom_195 : decode cX12_twoFrom 195 = .ok (.ifCond .eq 10, 3) := by decide +kernel
theorem dX12_twoFrom_198 : decode cX12_twoFrom 198 = .ok (.aload_n 0, 1) := by decide +kernel
theorem dX12_twoFrom_199 : decode cX12_twoFrom 199 = .ok (.getfield 429, 3) := by decide +kernel
theorem dX12_twoFrom_202 : decode cX12_twoFrom 202 = .ok (.goto 7, 3) := by decide +kernel
theorem dX12_twoFrom_205 : decode cX12_twoFrom 205 = .ok (.aload_n 0, 1) := by decide +kernel
theorem dX12_twoFrom_206 : decode cX12_twoFrom 206 = .ok (.getfield 422, 3) := by decide +kernel
theorem dX12_twoFrom_209 : decode cX12_twoFrom 209 = .ok (.istore 6, 2) := by decide +kernel
theorem dX12_twoFrom_211 : decode cX12_twoFrom 211 = .ok (.iconst 0, 1) := by decide +kernel
theorem dX12_twoFrom_212 : decode cX12_twoFrom 212 = .ok (.istore 7, 2) := by decide +kernel
theorem dX12_twoFrom_214 : decode cX12_twoFrom 214 = .ok (.iload 7, 2) := by decide +kernel
theorem dX12_twoFrom_216 : decode cX12_twoFrom 216 = .ok (.aload_n 0, 1) := by decide +kernel
theorem dX12_twoFrom_217 : decode cX12_twoFrom 217 = .ok (.getfield 153, 3) := by decide +kernel
theorem dX12_twoFrom_220 : decode cX12_twoFrom 220 = .ok (.if_icmp .ge 149, 3) := by decide +kernel
theorem dX12_twoFrom_223 : decode cX12_twoFrom 223 = .ok (.aload_n 0, 1) := by decide +kernel
theorem dX12_twoFrom_224 : decode cX12_twoFrom 224 = .ok (.iload 7, 2) := by decide +kernel
theorem dX12_twoFrom_226 : decode cX12_twoFrom 226 = .ok (.iload_n 3, 1) := by decide +kernel
theorem dX12_twoFrom_227 : decode cX12_twoFrom 227 = .ok (.invokevirtual 275, 3) := by decide +kernel
theorem dX12_twoFrom_230 : decode cX12_twoFrom 230 = .ok (.istore 8, 2) := by decide +kernel
theorem dX12_twoFrom_232 : decode cX12_twoFrom 232 = .ok (.iload 8, 2) := by decide +kernel
theorem dX12_twoFrom_234 : decode cX12_twoFrom 234 = .ok (.iconst (-1), 1) := by decide +kernel
theorem dX12_twoFrom_235 : decode cX12_twoFrom 235 = .ok (.if_icmp .eq 128, 3) := by decide +kernel
theorem dX12_twoFrom_238 : decode cX12_twoFrom 238 = .ok (.aload_n 0, 1) := by decide +kernel
theorem dX12_twoFrom_239 : decode cX12_twoFrom 239 = .ok (.getfield 119, 3) := by decide +kernel
theorem dX12_twoFrom_242 : decode cX12_twoFrom 242 = .ok (.iload 7, 2) := by decide +kernel
theorem dX12_twoFrom_244 : decode cX12_twoFrom 244 = .ok (.iaload, 1) := by decide +kernel
theorem dX12_twoFrom_245 : decode cX12_twoFrom 245 = .ok (.ifCond .eq 118, 3) := by decide +kernel
theorem dX12_twoFrom_248 : decode cX12_twoFrom 248 = .ok (.aload_n 0, 1) := by decide +kernel
theorem dX12_twoFrom_249 : decode cX12_twoFrom 249 = .ok (.getfield 35, 3) := by decide +kernel
theorem dX12_twoFrom_252 : decode cX12_twoFrom 252 = .ok (.iload 6, 2) := by decide +kernel
theorem dX12_twoFrom_254 : decode cX12_twoFrom 254 = .ok (.baload, 1) := by decide +kernel
theorem dX12_twoFrom_255 : decode cX12_twoFrom 255 = .ok (.ifCond .ne 13, 3) := by decide +kernel
theorem dX12_twoFrom_258 : decode cX12_twoFrom 258 = .ok (.aload_n 0, 1) := by decide +kernel
theorem dX12_twoFrom_259 : decode cX12_twoFrom 259 = .ok (.getfield 23, 3) := by decide +kernel
theorem dX12_twoFrom_262 : decode cX12_twoFrom 262 = .ok (.iload 7, 2) := by decide +kernel
theorem dX12_twoFrom_264 : decode cX12_twoFrom 264 = .ok (.iaload, 1) := by decide +kernel
theorem dX12_twoFrom_265 : decode cX12_twoFrom 265 = .ok (.ifCond .eq 98, 3) := by decide +kernel
theorem dX12_twoFrom_268 : decode cX12_twoFrom 268 = .ok (.iload 4, 2) := by decide +kernel
theorem dX12_twoFrom_270 : decode cX12_twoFrom 270 = .ok (.iload 8, 2) := by decide +kernel
theorem dX12_twoFrom_272 : decode cX12_twoFrom 272 = .ok (.invokestatic 234, 3) := by decide +kernel
theorem dX12_twoFrom_275 : decode cX12_twoFrom 275 = .ok (.ifCond .eq 6, 3) := by decide +kernel
theorem dX12_twoFrom_278 : decode cX12_twoFrom 278 = .ok (.goto 85, 3) := by decide +kernel
theorem dX12_twoFrom_281 : decode cX12_twoFrom 281 = .ok (.iload_n 1, 1) := by decide +kernel
theorem dX12_twoFrom_282 : decode cX12_twoFrom 282 = .ok (.ifCond .eq 14, 3) := by decide +kernel
theorem dX12_twoFrom_285 : decode cX12_twoFrom 285 = .ok (.aload_n 0, 1) := by decide +kernel
theorem dX12_twoFrom_286 : decode cX12_twoFrom 286 = .ok (.getfield 110, 3) := by decide +kernel
theorem dX12_twoFrom_289 : decode cX12_twoFrom 289 = .ok (.iload_n 2, 1) := by decide +kernel
theorem dX12_twoFrom_290 : decode cX12_twoFrom 290 = .ok (.iload 7, 2) := by decide +kernel
theorem dX12_twoFrom_292 : decode cX12_twoFrom 292 = .ok (.iastore, 1) := by decide +kernel
theorem dX12_twoFrom_293 : decode cX12_twoFrom 293 = .ok (.goto 11, 3) := by decide +kernel
theorem dX12_twoFrom_296 : decode cX12_twoFrom 296 = .ok (.aload_n 0, 1) := by decide +kernel
theorem dX12_twoFrom_297 : decode cX12_twoFrom 297 = .ok (.getfield 113, 3) := by decide +kernel
theorem dX12_twoFrom_300 : decode cX12_twoFrom 300 = .ok (.iload_n 2, 1) := by decide +kernel
theorem dX12_twoFrom_301 : decode cX12_twoFrom 301 = .ok (.iload 7, 2) := by decide +kernel
theorem dX12_twoFrom_303 : decode cX12_twoFrom 303 = .ok (.iastore, 1) := by decide +kernel
theorem dX12_twoFrom_304 : decode cX12_twoFrom 304 = .ok (.aload_n 0, 1) := by decide +kernel
theorem dX12_twoFrom_305 : decode cX12_twoFrom 305 = .ok (.getfield 35, 3) := by decide +kernel
theorem dX12_twoFrom_308 : decode cX12_twoFrom 308 = .ok (.iload 6, 2) := by decide +kernel
theorem dX12_twoFrom_310 : decode cX12_twoFrom 310 = .ok (.baload, 1) := by decide +kernel
theorem dX12_twoFrom_311 : decode cX12_twoFrom 311 = .ok (.ifCond .ne 14, 3) := by decide +kernel
theorem dX12_twoFrom_314 : decode cX12_twoFrom 314 = .ok (.aload_n 0, 1) := by decide +kernel
theorem dX12_twoFrom_315 : decode cX12_twoFrom 315 = .ok (.getfield 23, 3) := by decide +kernel
theorem dX12_twoFrom_318 : decode cX12_twoFrom 318 = .ok (.iload 7, 2) := by decide +kernel
theorem dX12_twoFrom_320 : decode cX12_twoFrom 320 = .ok (.dup2, 1) := by decide +kernel
theorem dX12_twoFrom_321 : decode cX12_twoFrom 321 = .ok (.iaload, 1) := by decide +kernel
theorem dX12_twoFrom_322 : decode cX12_twoFrom 322 = .ok (.iconst 1, 1) := by decide +kernel
theorem dX12_twoFrom_323 : decode cX12_twoFrom 323 = .ok (.isub, 1) := by decide +kernel
theorem dX12_twoFrom_324 : decode cX12_twoFrom 324 = .ok (.iastore, 1) := by decide +kernel
theorem dX12_twoFrom_325 : decode cX12_twoFrom 325 = .ok (.aload_n 0, 1) := by decide +kernel
theorem dX12_twoFrom_326 : decode cX12_twoFrom 326 = .ok (.iload_n 1, 1) := by decide +kernel
theorem dX12_twoFrom_327 : decode cX12_twoFrom 327 = .ok (.iload_n 2, 1) := by decide +kernel
theorem dX12_twoFrom_328 : decode cX12_twoFrom 328 = .ok (.iconst 1, 1) := by decide +kernel
theorem dX12_twoFrom_329 : decode cX12_twoFrom 329 = .ok (.iadd, 1) := by decide +kernel
theorem dX12_twoFrom_330 : decode cX12_twoFrom 330 = .ok (.iload 8, 2) := by decide +kernel
theorem dX12_twoFrom_332 : decode cX12_twoFrom 332 = .ok (.iload 4, 2) := by decide +kernel
theorem dX12_twoFrom_334 : decode cX12_twoFrom 334 = .ok (.iconst 1, 1) := by decide +kernel
theorem dX12_twoFrom_335 : decode cX12_twoFrom 335 = .ok (.iload 8, 2) := by decide +kernel
theorem dX12_twoFrom_337 : decode cX12_twoFrom 337 = .ok (.ishl, 1) := by decide +kernel
theorem dX12_twoFrom_338 : decode cX12_twoFrom 338 = .ok (.ior, 1) := by decide +kernel
theorem dX12_twoFrom_339 : decode cX12_twoFrom 339 = .ok (.invokevirtual 425, 3) := by decide +kernel
theorem dX12_twoFrom_342 : decode cX12_twoFrom 342 = .ok (.aload_n 0, 1) := by decide +kernel
theorem dX12_twoFrom_343 : decode cX12_twoFrom 343 = .ok (.getfield 35, 3) := by decide +kernel
theorem dX12_twoFrom_346 : decode cX12_twoFrom 346 = .ok (.iload 6, 2) := by decide +kernel
theorem dX12_twoFrom_348 : decode cX12_twoFrom 348 = .ok (.baload, 1) := by decide +kernel
theorem dX12_twoFrom_349 : decode cX12_twoFrom 349 = .ok (.ifCond .ne 14, 3) := by decide +kernel
theorem dX12_twoFrom_352 : decode cX12_twoFrom 352 = .ok (.aload_n 0, 1) := by decide +kernel
theorem dX12_twoFrom_353 : decode cX12_twoFrom 353 = .ok (.getfield 23, 3) := by decide +kernel
theorem dX12_twoFrom_356 : decode cX12_twoFrom 356 = .ok (.iload 7, 2) := by decide +kernel
theorem dX12_twoFrom_358 : decode cX12_twoFrom 358 = .ok (.dup2, 1) := by decide +kernel
theorem dX12_twoFrom_359 : decode cX12_twoFrom 359 = .ok (.iaload, 1) := by decide +kernel
theorem dX12_twoFrom_360 : decode cX12_twoFrom 360 = .ok (.iconst 1, 1) := by decide +kernel
theorem dX12_twoFrom_361 : decode cX12_twoFrom 361 = .ok (.iadd, 1) := by decide +kernel
theorem dX12_twoFrom_362 : decode cX12_twoFrom 362 = .ok (.iastore, 1) := by decide +kernel
theorem dX12_twoFrom_363 : decode cX12_twoFrom 363 = .ok (.iinc 7 1, 3) := by decide +kernel
theorem dX12_twoFrom_366 : decode cX12_twoFrom 366 = .ok (.goto (-152), 3) := by decide +kernel
theorem dX12_twoFrom_369 : decode cX12_twoFrom 369 = .ok (.return_, 1) := by decide +kernel
set_option maxRecDepth 100000 in
set_option maxHeartbeats 4000000 in
theorem B_X12_twoFrom_0 {κ : Nat → List Value → List Value → m2M → Prop} {D : Nat} {Q : Option Value → m2M → Prop} (h : m2_RL κ cX12_twoFrom RX12 9 D none Q) {x1 : Int32} {x2 : Int32} {x3 : Int32} {x4 : Int32} {μ : m2M} (k : ((μ.1 kM 58) = (-1) → κ 34 [.ref kM, .int x1, .int x2, .int x3, .int x4, .int (if x1 = 0 then ((μ.1 kM 57) + x2) else x2 : Int32), .null, .null, .null] [] μ) ∧ (¬ (μ.1 kM 58) = (-1) → (x1 = 0 → (((μ.1 kM 57) + x2) < (μ.1 kM 58) → κ 34 [.ref kM, .int x1, .int x2, .int x3, .int x4, .int ((μ.1 kM 57) + x2), .null, .null, .null] [] μ) ∧ (¬ ((μ.1 kM 57) + x2) < (μ.1 kM 58) → Q none μ)) ∧ (¬ x1 = 0 → (x2 < (μ.1 kM 58) → κ 34 [.ref kM, .int x1, .int x2, .int x3, .int x4, .int x2, .null, .null, .null] [] μ) ∧ (¬ x2 < (μ.1 kM 58) → Q none μ)))) : κ 0 [.ref kM, .int x1, .int x2, .int x3, .int x4, .null, .null, .null, .null] [] μ := by
  have hB := h.b
  refine m2_iload_n hB dX12_twoFrom_0 rfl ?_
  have G2 : κ 14 [.ref kM, .int x1, .int x2, .int x3, .int x4, .null, .null, .null, .null] [.int (if x1 = 0 then ((μ.1 kM 57) + x2) else x2 : Int32)] μ := by
    refine m2_istore hB (ls' := [.ref kM, .int x1, .int x2, .int x3, .int x4, .int (if x1 = 0 then ((μ.1 kM 57) + x2) else x2 : Int32), .null, .null, .null]) dX12_twoFrom_14 (by decide) rfl ?_
    refine m2_aload_n hB dX12_twoFrom_16 rfl ?_
    refine m2_getI hB dX12_twoFrom_17 fl_X12_413 sh_kM rfl ?_
    refine m2_iconst hB dX12_twoFrom_20 (v := (-1)) (by decide) ?_
    refine m2_icmp_eq hB dX12_twoFrom_21 (tgt := 34) (by decide) (fun q3 : (μ.1 kM 58) = (-1) => ?_) (fun q3 : ¬ (μ.1 kM 58) = (-1) => ?_)
    · replace k := k.1 q3
      exact k
    · replace k := k.2 q3
      refine m2_iload hB dX12_twoFrom_24 rfl ?_
      refine m2_aload_n hB dX12_twoFrom_26 rfl ?_
      refine m2_getI hB dX12_twoFrom_27 fl_X12_413 sh_kM rfl ?_
      show κ 30 [.ref kM, .int x1, .int x2, .int x3, .int x4, .int (if x1 = 0 then ((μ.1 kM 57) + x2) else x2 : Int32), .null, .null, .null] [.int (μ.1 kM 58), .int (if x1 = 0 then ((μ.1 kM 57) + x2) else x2 : Int32)] μ
      by_cases q4 : x1 = 0
      · rw [if_pos q4]
        replace k := k.1 q4
        refine m2_icmp_lt hB dX12_twoFrom_30 (tgt := 34) (by decide) (fun q5 : ((μ.1 kM 57) + x2) < (μ.1 kM 58) => ?_) (fun q5 : ¬ ((μ.1 kM 57) + x2) < (μ.1 kM 58) => ?_)
        · replace k := k.1 q5
          exact k
        · replace k := k.2 q5
          exact m2_vret h dX12_twoFrom_33 k
      · rw [if_neg q4]
        replace k := k.2 q4
        refine m2_icmp_lt hB dX12_twoFrom_30 (tgt := 34) (by decide) (fun q6 : x2 < (μ.1 kM 58) => ?_) (fun q6 : ¬ x2 < (μ.1 kM 58) => ?_)
        · replace k := k.1 q6
          exact k
        · replace k := k.2 q6
          exact m2_vret h dX12_twoFrom_33 k
  refine m2_if_eq hB dX12_twoFrom_1 (tgt := 8) (by decide) (fun q1 : x1 = 0 => ?_) (fun q1 : ¬ x1 = 0 => ?_)
  · rw [if_pos q1] at G2
    refine m2_aload_n hB dX12_twoFrom_8 rfl ?_
    refine m2_getI hB dX12_twoFrom_9 fl_X12_410 sh_kM rfl ?_
    refine m2_iload_n hB dX12_twoFrom_12 rfl ?_
    refine m2_iadd hB dX12_twoFrom_13 ?_
    exact G2
  · rw [if_neg q1] at G2
    refine m2_iload_n hB dX12_twoFrom_4 rfl ?_
    refine m2_goto hB dX12_twoFrom_5 (tgt := 14) (by decide) ?_
    exact G2
set_option maxRecDepth 100000 in
set_option maxHeartbeats 4000000 in
theorem B_X12_twoFrom_34 {κ : Nat → List Value → List Value → m2M → Prop} {D : Nat} {Q : Option Value → m2M → Prop} (h : m2_RL κ cX12_twoFrom RX12 9 (D + 1) none Q) {v1 : Int32} {v2 : Int32} {v3 : Int32} {v4 : Int32} {v5 : Int32} {μ : m2M} (k : (v1 = 0 → (¬ v3 = (μ.1 kM 62) → (¬ v2 = 5 → κ 214 [.ref kM, .int v1, .int v2, .int v3, .int v4, .int v5, .int (if v1 = 0 then (μ.1 kM 60) else (μ.1 kM 59) : Int32), .int 0, .null] [] μ) ∧ (v2 = 5 → Q none μ)) ∧ (v3 = (μ.1 kM 62) → (v1 = 0 → κ 108 [.ref kM, .int v1, .int v2, .int v3, .int v4, .int v5, .int 0, .null, .null] [] (m2_si (m2_si μ kM 58 v5) kM_bestTwo ((0 : Int32)).toNatClampNeg (μ.1 kM 57))) ∧ (¬ v1 = 0 → (vp_in (μ.1 kM 60) 8) ∧ (∃ Q14 : Option Value → m2M → Prop, m2_MT D yX12_twoFrom cX12_twoFrom 9 none [.ref kM, .int 0, .int 0, .int (μ.1 kM_where ((μ.1 kM 60)).toNatClampNeg), .int ((1 : Int32) <<< ((μ.1 kM_where ((μ.1 kM 60)).toNatClampNeg) &&& 31))] (m2_si μ kM 57 v2) Q14 ∧ ∀ (μ13 : m2M), Q14 none μ13 → (Q none μ13))))) ∧ (¬ v1 = 0 → (¬ v3 = (μ.1 kM 61) → (¬ v2 = 5 → κ 214 [.ref kM, .int v1, .int v2, .int v3, .int v4, .int v5, .int (if v1 = 0 then (μ.1 kM 60) else (μ.1 kM 59) : Int32), .int 0, .null] [] μ) ∧ (v2 = 5 → Q none μ)) ∧ (v3 = (μ.1 kM 61) → (v1 = 0 → κ 108 [.ref kM, .int v1, .int v2, .int v3, .int v4, .int v5, .int 0, .null, .null] [] (m2_si (m2_si μ kM 58 v5) kM_bestTwo ((0 : Int32)).toNatClampNeg (μ.1 kM 57))) ∧ (¬ v1 = 0 → (vp_in (μ.1 kM 60) 8) ∧ (∃ Q27 : Option Value → m2M → Prop, m2_MT D yX12_twoFrom cX12_twoFrom 9 none [.ref kM, .int 0, .int 0, .int (μ.1 kM_where ((μ.1 kM 60)).toNatClampNeg), .int ((1 : Int32) <<< ((μ.1 kM_where ((μ.1 kM 60)).toNatClampNeg) &&& 31))] (m2_si μ kM 57 v2) Q27 ∧ ∀ (μ26 : m2M), Q27 none μ26 → (Q none μ26)))))) : κ 34 [.ref kM, .int v1, .int v2, .int v3, .int v4, .int v5, .null, .null, .null] [] μ := by
  have hB := h.b
  refine m2_iload_n hB dX12_twoFrom_34 rfl ?_
  refine m2_iload_n hB dX12_twoFrom_35 rfl ?_
  have G2 : κ 50 [.ref kM, .int v1, .int v2, .int v3, .int v4, .int v5, .null, .null, .null] [.int (if v1 = 0 then (μ.1 kM 62) else (μ.1 kM 61) : Int32), .int v3] μ := by
    show κ 50 [.ref kM, .int v1, .int v2, .int v3, .int v4, .int v5, .null, .null, .null] [.int (if v1 = 0 then (μ.1 kM 62) else (μ.1 kM 61) : Int32), .int v3] μ
    by_cases q3 : v1 = 0
    · rw [if_pos q3]
      replace k := k.1 q3
      refine m2_icmp_ne hB dX12_twoFrom_50 (tgt := 188) (by decide) (fun q4 : ¬ v3 = (μ.1 kM 62) => ?_) (fun q4 : v3 = (μ.1 kM 62) => ?_)
      · replace k := k.1 q4
        refine m2_iload_n hB dX12_twoFrom_188 rfl ?_
        refine m2_iconst hB dX12_twoFrom_189 (v := 5) (by decide) ?_
        refine m2_icmp_ne hB dX12_twoFrom_190 (tgt := 194) (by decide) (fun q5 : ¬ v2 = 5 => ?_) (fun q5 : v2 = 5 => ?_)
        · replace k := k.1 q5
          refine m2_iload_n hB dX12_twoFrom_194 rfl ?_
          have G7 : κ 209 [.ref kM, .int v1, .int v2, .int v3, .int v4, .int v5, .null, .null, .null] [.int (if v1 = 0 then (μ.1 kM 60) else (μ.1 kM 59) : Int32)] μ := by
            refine m2_istore hB (ls' := [.ref kM, .int v1, .int v2, .int v3, .int v4, .int v5, .int (if v1 = 0 then (μ.1 kM 60) else (μ.1 kM 59) : Int32), .null, .null]) dX12_twoFrom_209 (by decide) rfl ?_
            refine m2_iconst hB dX12_twoFrom_211 (v := 0) (by decide) ?_
            refine m2_istore hB (ls' := [.ref kM, .int v1, .int v2, .int v3, .int v4, .int v5, .int (if v1 = 0 then (μ.1 kM 60) else (μ.1 kM 59) : Int32), .int 0, .null]) dX12_twoFrom_212 (by decide) rfl ?_
            exact k
          refine m2_if_eq hB dX12_twoFrom_195 (tgt := 205) (by decide) (fun q6 : v1 = 0 => ?_) (fun q6 : ¬ v1 = 0 => ?_)
          · rw [if_pos q6] at G7
            refine m2_aload_n hB dX12_twoFrom_205 rfl ?_
            refine m2_getI hB dX12_twoFrom_206 fl_X12_422 sh_kM rfl ?_
            exact G7
          · rw [if_neg q6] at G7
            refine m2_aload_n hB dX12_twoFrom_198 rfl ?_
            refine m2_getI hB dX12_twoFrom_199 fl_X12_429 sh_kM rfl ?_
            refine m2_goto hB dX12_twoFrom_202 (tgt := 209) (by decide) ?_
            exact G7
        · replace k := k.2 q5
          exact m2_vret h dX12_twoFrom_193 k
      · replace k := k.2 q4
        refine m2_iload_n hB dX12_twoFrom_53 rfl ?_
        refine m2_if_eq hB dX12_twoFrom_54 (tgt := 89) (by decide) (fun q8 : v1 = 0 => ?_) (fun q8 : ¬ v1 = 0 => ?_)
        · replace k := k.1 q8
          refine m2_aload_n hB dX12_twoFrom_89 rfl ?_
          refine m2_iload hB dX12_twoFrom_90 rfl ?_
          refine m2_putI hB dX12_twoFrom_92 fl_X12_413 sh_kM rfl ?_
          refine m2_aload_n hB dX12_twoFrom_95 rfl ?_
          refine m2_getR hB dX12_twoFrom_96 fl_X12_116 sh_kM (c1 := kM_bestTwo) rfl ?_
          refine m2_iconst hB dX12_twoFrom_99 (v := 0) (by decide) ?_
          refine m2_aload_n hB dX12_twoFrom_100 rfl ?_
          refine m2_getI hB dX12_twoFrom_101 fl_X12_410 sh_kM rfl ?_
          refine m2_iast hB dX12_twoFrom_104 sh_kM_bestTwo (vp_in_iff.mpr ⟨by decide, by decide⟩) ?_
          refine m2_iconst hB dX12_twoFrom_105 (v := 0) (by decide) ?_
          refine m2_istore hB (ls' := [.ref kM, .int v1, .int v2, .int v3, .int v4, .int v5, .int 0, .null, .null]) dX12_twoFrom_106 (by decide) rfl ?_
          exact k
        · replace k := k.2 q8
          refine m2_aload_n hB dX12_twoFrom_57 rfl ?_
          refine m2_iload_n hB dX12_twoFrom_58 rfl ?_
          refine m2_putI hB dX12_twoFrom_59 fl_X12_410 sh_kM rfl ?_
          refine m2_aload_n hB dX12_twoFrom_62 rfl ?_
          refine m2_iconst hB dX12_twoFrom_63 (v := 0) (by decide) ?_
          refine m2_iconst hB dX12_twoFrom_64 (v := 0) (by decide) ?_
          refine m2_aload_n hB dX12_twoFrom_65 rfl ?_
          refine m2_getR hB dX12_twoFrom_66 fl_X12_29 sh_kM (c1 := kM_where) rfl ?_
          refine m2_aload_n hB dX12_twoFrom_69 rfl ?_
          refine m2_getI hB dX12_twoFrom_70 fl_X12_422 sh_kM rfl ?_
          obtain ⟨hi10, k⟩ := k
          refine m2_iald hB dX12_twoFrom_73 sh_kM_where hi10 ?_
          refine m2_iconst hB dX12_twoFrom_74 (v := 1) (by decide) ?_
          refine m2_aload_n hB dX12_twoFrom_75 rfl ?_
          refine m2_getR hB dX12_twoFrom_76 fl_X12_29 sh_kM (c1 := kM_where) rfl ?_
          refine m2_aload_n hB dX12_twoFrom_79 rfl ?_
          refine m2_getI hB dX12_twoFrom_80 fl_X12_422 sh_kM rfl ?_
          have hi11 := hi10
          refine m2_iald hB dX12_twoFrom_83 sh_kM_where hi11 ?_
          refine m2_ishl hB dX12_twoFrom_84 ?_
          obtain ⟨Q14, hM15, k⟩ := k
          refine m2_invv hB (as := [.int 0, .int 0, .int (μ.1 kM_where ((μ.1 kM 60)).toNatClampNeg), .int ((1 : Int32) <<< ((μ.1 kM_where ((μ.1 kM 60)).toNatClampNeg) &&& 31))]) dX12_twoFrom_85 mv_X12_425 rfl sh_kM rfl (Nat.le_of_ble_eq_true rfl) rfl hM15 (fun μ13 hq16 => ?_)
          replace k := k μ13 hq16
          exact m2_vret h dX12_twoFrom_88 k
    · rw [if_neg q3]
      replace k := k.2 q3
      refine m2_icmp_ne hB dX12_twoFrom_50 (tgt := 188) (by decide) (fun q17 : ¬ v3 = (μ.1 kM 61) => ?_) (fun q17 : v3 = (μ.1 kM 61) => ?_)
      · replace k := k.1 q17
        refine m2_iload_n hB dX12_twoFrom_188 rfl ?_
        refine m2_iconst hB dX12_twoFrom_189 (v := 5) (by decide) ?_
        refine m2_icmp_ne hB dX12_twoFrom_190 (tgt := 194) (by decide) (fun q18 : ¬ v2 = 5 => ?_) (fun q18 : v2 = 5 => ?_)
        · replace k := k.1 q18
          refine m2_iload_n hB dX12_twoFrom_194 rfl ?_
          have G20 : κ 209 [.ref kM, .int v1, .int v2, .int v3, .int v4, .int v5, .null, .null, .null] [.int (if v1 = 0 then (μ.1 kM 60) else (μ.1 kM 59) : Int32)] μ := by
            refine m2_istore hB (ls' := [.ref kM, .int v1, .int v2, .int v3, .int v4, .int v5, .int (if v1 = 0 then (μ.1 kM 60) else (μ.1 kM 59) : Int32), .null, .null]) dX12_twoFrom_209 (by decide) rfl ?_
            refine m2_iconst hB dX12_twoFrom_211 (v := 0) (by decide) ?_
            refine m2_istore hB (ls' := [.ref kM, .int v1, .int v2, .int v3, .int v4, .int v5, .int (if v1 = 0 then (μ.1 kM 60) else (μ.1 kM 59) : Int32), .int 0, .null]) dX12_twoFrom_212 (by decide) rfl ?_
            exact k
          refine m2_if_eq hB dX12_twoFrom_195 (tgt := 205) (by decide) (fun q19 : v1 = 0 => ?_) (fun q19 : ¬ v1 = 0 => ?_)
          · rw [if_pos q19] at G20
            refine m2_aload_n hB dX12_twoFrom_205 rfl ?_
            refine m2_getI hB dX12_twoFrom_206 fl_X12_422 sh_kM rfl ?_
            exact G20
          · rw [if_neg q19] at G20
            refine m2_aload_n hB dX12_twoFrom_198 rfl ?_
            refine m2_getI hB dX12_twoFrom_199 fl_X12_429 sh_kM rfl ?_
            refine m2_goto hB dX12_twoFrom_202 (tgt := 209) (by decide) ?_
            exact G20
        · replace k := k.2 q18
          exact m2_vret h dX12_twoFrom_193 k
      · replace k := k.2 q17
        refine m2_iload_n hB dX12_twoFrom_53 rfl ?_
        refine m2_if_eq hB dX12_twoFrom_54 (tgt := 89) (by decide) (fun q21 : v1 = 0 => ?_) (fun q21 : ¬ v1 = 0 => ?_)
        · replace k := k.1 q21
          refine m2_aload_n hB dX12_twoFrom_89 rfl ?_
          refine m2_iload hB dX12_twoFrom_90 rfl ?_
          refine m2_putI hB dX12_twoFrom_92 fl_X12_413 sh_kM rfl ?_
          refine m2_aload_n hB dX12_twoFrom_95 rfl ?_
          refine m2_getR hB dX12_twoFrom_96 fl_X12_116 sh_kM (c1 := kM_bestTwo) rfl ?_
          refine m2_iconst hB dX12_twoFrom_99 (v := 0) (by decide) ?_
          refine m2_aload_n hB dX12_twoFrom_100 rfl ?_
          refine m2_getI hB dX12_twoFrom_101 fl_X12_410 sh_kM rfl ?_
          refine m2_iast hB dX12_twoFrom_104 sh_kM_bestTwo (vp_in_iff.mpr ⟨by decide, by decide⟩) ?_
          refine m2_iconst hB dX12_twoFrom_105 (v := 0) (by decide) ?_
          refine m2_istore hB (ls' := [.ref kM, .int v1, .int v2, .int v3, .int v4, .int v5, .int 0, .null, .null]) dX12_twoFrom_106 (by decide) rfl ?_
          exact k
        · replace k := k.2 q21
          refine m2_aload_n hB dX12_twoFrom_57 rfl ?_
          refine m2_iload_n hB dX12_twoFrom_58 rfl ?_
          refine m2_putI hB dX12_twoFrom_59 fl_X12_410 sh_kM rfl ?_
          refine m2_aload_n hB dX12_twoFrom_62 rfl ?_
          refine m2_iconst hB dX12_twoFrom_63 (v := 0) (by decide) ?_
          refine m2_iconst hB dX12_twoFrom_64 (v := 0) (by decide) ?_
          refine m2_aload_n hB dX12_twoFrom_65 rfl ?_
          refine m2_getR hB dX12_twoFrom_66 fl_X12_29 sh_kM (c1 := kM_where) rfl ?_
          refine m2_aload_n hB dX12_twoFrom_69 rfl ?_
          refine m2_getI hB dX12_twoFrom_70 fl_X12_422 sh_kM rfl ?_
          obtain ⟨hi23, k⟩ := k
          refine m2_iald hB dX12_twoFrom_73 sh_kM_where hi23 ?_
          refine m2_iconst hB dX12_twoFrom_74 (v := 1) (by decide) ?_
          refine m2_aload_n hB dX12_twoFrom_75 rfl ?_
          refine m2_getR hB dX12_twoFrom_76 fl_X12_29 sh_kM (c1 := kM_where) rfl ?_
          refine m2_aload_n hB dX12_twoFrom_79 rfl ?_
          refine m2_getI hB dX12_twoFrom_80 fl_X12_422 sh_kM rfl ?_
          have hi24 := hi23
          refine m2_iald hB dX12_twoFrom_83 sh_kM_where hi24 ?_
          refine m2_ishl hB dX12_twoFrom_84 ?_
          obtain ⟨Q27, hM28, k⟩ := k
          refine m2_invv hB (as := [.int 0, .int 0, .int (μ.1 kM_where ((μ.1 kM 60)).toNatClampNeg), .int ((1 : Int32) <<< ((μ.1 kM_where ((μ.1 kM 60)).toNatClampNeg) &&& 31))]) dX12_twoFrom_85 mv_X12_425 rfl sh_kM rfl (Nat.le_of_ble_eq_true rfl) rfl hM28 (fun μ26 hq29 => ?_)
          replace k := k μ26 hq29
          exact m2_vret h dX12_twoFrom_88 k
  refine m2_if_eq hB dX12_twoFrom_36 (tgt := 46) (by decide) (fun q1 : v1 = 0 => ?_) (fun q1 : ¬ v1 = 0 => ?_)
  · rw [if_pos q1] at G2
    refine m2_aload_n hB dX12_twoFrom_46 rfl ?_
    refine m2_getI hB dX12_twoFrom_47 fl_X12_419 sh_kM rfl ?_
    exact G2
  · rw [if_neg q1] at G2
    refine m2_aload_n hB dX12_twoFrom_39 rfl ?_
    refine m2_getI hB dX12_twoFrom_40 fl_X12_416 sh_kM rfl ?_
    refine m2_goto hB dX12_twoFrom_43 (tgt := 50) (by decide) ?_
    exact G2
set_option maxRecDepth 100000 in
set_option maxHeartbeats 4000000 in
theorem B_X12_twoFrom_108 {κ : Nat → List Value → List Value → m2M → Prop} {D : Nat} {Q : Option Value → m2M → Prop} (h : m2_RL κ cX12_twoFrom RX12 9 D none Q) {v1 : Int32} {v2 : Int32} {v3 : Int32} {v4 : Int32} {v5 : Int32} {v6 : Int32} {μ : m2M} (k : ((μ.1 kM 57) ≤ v6 → (vp_in ((1 : Int32) + (μ.1 kM 57)) 12) ∧ (κ 154 [.ref kM, .int v1, .int v2, .int v3, .int v4, .int v5, .int 0, .null, .null] [] (m2_si μ kM_bestTwo (((1 : Int32) + (μ.1 kM 57))).toNatClampNeg v2))) ∧ (¬ (μ.1 kM 57) ≤ v6 → (vp_in v6 5) ∧ ((vp_in ((1 : Int32) + v6) 12) ∧ (κ 108 [.ref kM, .int v1, .int v2, .int v3, .int v4, .int v5, .int (v6 + 1), .null, .null] [] (m2_si μ kM_bestTwo (((1 : Int32) + v6)).toNatClampNeg (μ.1 kM_firstWay (v6).toNatClampNeg)))))) : κ 108 [.ref kM, .int v1, .int v2, .int v3, .int v4, .int v5, .int v6, .null, .null] [] μ := by
  have hB := h.b
  refine m2_iload hB dX12_twoFrom_108 rfl ?_
  refine m2_aload_n hB dX12_twoFrom_110 rfl ?_
  refine m2_getI hB dX12_twoFrom_111 fl_X12_410 sh_kM rfl ?_
  refine m2_icmp_ge hB dX12_twoFrom_114 (tgt := 139) (by decide) (fun q2 : (μ.1 kM 57) ≤ v6 => ?_) (fun q2 : ¬ (μ.1 kM 57) ≤ v6 => ?_)
  · replace k := k.1 q2
    refine m2_aload_n hB dX12_twoFrom_139 rfl ?_
    refine m2_getR hB dX12_twoFrom_140 fl_X12_116 sh_kM (c1 := kM_bestTwo) rfl ?_
    refine m2_iconst hB dX12_twoFrom_143 (v := 1) (by decide) ?_
    refine m2_aload_n hB dX12_twoFrom_144 rfl ?_
    refine m2_getI hB dX12_twoFrom_145 fl_X12_410 sh_kM rfl ?_
    refine m2_iadd hB dX12_twoFrom_148 ?_
    refine m2_iload_n hB dX12_twoFrom_149 rfl ?_
    obtain ⟨hi3, k⟩ := k
    refine m2_iast hB dX12_twoFrom_150 sh_kM_bestTwo hi3 ?_
    refine m2_iconst hB dX12_twoFrom_151 (v := 0) (by decide) ?_
    refine m2_istore hB (ls' := [.ref kM, .int v1, .int v2, .int v3, .int v4, .int v5, .int 0, .null, .null]) dX12_twoFrom_152 (by decide) rfl ?_
    exact k
  · replace k := k.2 q2
    refine m2_aload_n hB dX12_twoFrom_117 rfl ?_
    refine m2_getR hB dX12_twoFrom_118 fl_X12_116 sh_kM (c1 := kM_bestTwo) rfl ?_
    refine m2_iconst hB dX12_twoFrom_121 (v := 1) (by decide) ?_
    refine m2_iload hB dX12_twoFrom_122 rfl ?_
    refine m2_iadd hB dX12_twoFrom_124 ?_
    refine m2_aload_n hB dX12_twoFrom_125 rfl ?_
    refine m2_getR hB dX12_twoFrom_126 fl_X12_110 sh_kM (c1 := kM_firstWay) rfl ?_
    refine m2_iload hB dX12_twoFrom_129 rfl ?_
    obtain ⟨hi4, k⟩ := k
    refine m2_iald hB dX12_twoFrom_131 sh_kM_firstWay hi4 ?_
    obtain ⟨hi5, k⟩ := k
    refine m2_iast hB dX12_twoFrom_132 sh_kM_bestTwo hi5 ?_
    refine m2_iinc hB (ls' := [.ref kM, .int v1, .int v2, .int v3, .int v4, .int v5, .int (v6 + 1), .null, .null]) (v := (v6 + 1)) dX12_twoFrom_133 rfl (by decide) rfl rfl ?_
    refine m2_goto hB dX12_twoFrom_136 (tgt := 108) (by decide) ?_
    exact k
set_option maxRecDepth 100000 in
set_option maxHeartbeats 4000000 in
theorem B_X12_twoFrom_154 {κ : Nat → List Value → List Value → m2M → Prop} {D : Nat} {Q : Option Value → m2M → Prop} (h : m2_RL κ cX12_twoFrom RX12 9 D none Q) {v1 : Int32} {v2 : Int32} {v3 : Int32} {v4 : Int32} {v5 : Int32} {v6 : Int32} {μ : m2M} (k : (v2 ≤ v6 → Q none μ) ∧ (¬ v2 ≤ v6 → (vp_in v6 5) ∧ ((vp_in (((2 : Int32) + (μ.1 kM 57)) + v6) 12) ∧ (κ 154 [.ref kM, .int v1, .int v2, .int v3, .int v4, .int v5, .int (v6 + 1), .null, .null] [] (m2_si μ kM_bestTwo ((((2 : Int32) + (μ.1 kM 57)) + v6)).toNatClampNeg (μ.1 kM_secondWay (v6).toNatClampNeg)))))) : κ 154 [.ref kM, .int v1, .int v2, .int v3, .int v4, .int v5, .int v6, .null, .null] [] μ := by
  have hB := h.b
  refine m2_iload hB dX12_twoFrom_154 rfl ?_
  refine m2_iload_n hB dX12_twoFrom_156 rfl ?_
  refine m2_icmp_ge hB dX12_twoFrom_157 (tgt := 187) (by decide) (fun q2 : v2 ≤ v6 => ?_) (fun q2 : ¬ v2 ≤ v6 => ?_)
  · replace k := k.1 q2
    exact m2_vret h dX12_twoFrom_187 k
  · replace k := k.2 q2
    refine m2_aload_n hB dX12_twoFrom_160 rfl ?_
    refine m2_getR hB dX12_twoFrom_161 fl_X12_116 sh_kM (c1 := kM_bestTwo) rfl ?_
    refine m2_iconst hB dX12_twoFrom_164 (v := 2) (by decide) ?_
    refine m2_aload_n hB dX12_twoFrom_165 rfl ?_
    refine m2_getI hB dX12_twoFrom_166 fl_X12_410 sh_kM rfl ?_
    refine m2_iadd hB dX12_twoFrom_169 ?_
    refine m2_iload hB dX12_twoFrom_170 rfl ?_
    refine m2_iadd hB dX12_twoFrom_172 ?_
    refine m2_aload_n hB dX12_twoFrom_173 rfl ?_
    refine m2_getR hB dX12_twoFrom_174 fl_X12_113 sh_kM (c1 := kM_secondWay) rfl ?_
    refine m2_iload hB dX12_twoFrom_177 rfl ?_
    obtain ⟨hi3, k⟩ := k
    refine m2_iald hB dX12_twoFrom_179 sh_kM_secondWay hi3 ?_
    obtain ⟨hi4, k⟩ := k
    refine m2_iast hB dX12_twoFrom_180 sh_kM_bestTwo hi4 ?_
    refine m2_iinc hB (ls' := [.ref kM, .int v1, .int v2, .int v3, .int v4, .int v5, .int (v6 + 1), .null, .null]) (v := (v6 + 1)) dX12_twoFrom_181 rfl (by decide) rfl rfl ?_
    refine m2_goto hB dX12_twoFrom_184 (tgt := 154) (by decide) ?_
    exact k
set_option maxRecDepth 100000 in
set_option maxHeartbeats 4000000 in
theorem B_X12_twoFrom_214 {κ : Nat → List Value → List Value → m2M → Prop} {D : Nat} {Q : Option Value → m2M → Prop} (h : m2_RL κ cX12_twoFrom RX12 9 (D + 1) none Q) (hD : 0 ≤ D) {v1 : Int32} {v2 : Int32} {v3 : Int32} {v4 : Int32} {v5 : Int32} {v6 : Int32} {v7 : Int32} {μ : m2M} (k : ((μ.1 kM 0) ≤ v7 → Q none μ) ∧ (¬ (μ.1 kM 0) ≤ v7 → (vp_in v7 20) ∧ (((fX12_beyond v7 v3 μ) = (-1) → κ 363 [.ref kM, .int v1, .int v2, .int v3, .int v4, .int v5, .int v6, .int v7, .int (fX12_beyond v7 v3 μ)] [] μ) ∧ (¬ (fX12_beyond v7 v3 μ) = (-1) → ((μ.1 kM_wasLeft (v7).toNatClampNeg) = 0 → κ 363 [.ref kM, .int v1, .int v2, .int v3, .int v4, .int v5, .int v6, .int v7, .int (fX12_beyond v7 v3 μ)] [] μ) ∧ (¬ (μ.1 kM_wasLeft (v7).toNatClampNeg) = 0 → (vp_in v6 8) ∧ ((¬ (μ.1 kM_isStranger (v6).toNatClampNeg) = 0 → κ 268 [.ref kM, .int v1, .int v2, .int v3, .int v4, .int v5, .int v6, .int v7, .int (fX12_beyond v7 v3 μ)] [] μ) ∧ ((μ.1 kM_isStranger (v6).toNatClampNeg) = 0 → ((μ.1 kM_left (v7).toNatClampNeg) = 0 → κ 363 [.ref kM, .int v1, .int v2, .int v3, .int v4, .int v5, .int v6, .int v7, .int (fX12_beyond v7 v3 μ)] [] μ) ∧ (¬ (μ.1 kM_left (v7).toNatClampNeg) = 0 → κ 268 [.ref kM, .int v1, .int v2, .int v3, .int v4, .int v5, .int v6, .int v7, .int (fX12_beyond v7 v3 μ)] [] μ)))))))) : κ 214 [.ref kM, .int v1, .int v2, .int v3, .int v4, .int v5, .int v6, .int v7, .null] [] μ := by
  have hB := h.b
  refine m2_iload hB dX12_twoFrom_214 rfl ?_
  refine m2_aload_n hB dX12_twoFrom_216 rfl ?_
  refine m2_getI hB dX12_twoFrom_217 fl_X12_153 sh_kM rfl ?_
  refine m2_icmp_ge hB dX12_twoFrom_220 (tgt := 369) (by decide) (fun q1 : (μ.1 kM 0) ≤ v7 => ?_) (fun q1 : ¬ (μ.1 kM 0) ≤ v7 => ?_)
  · replace k := k.1 q1
    exact m2_vret h dX12_twoFrom_369 k
  · replace k := k.2 q1
    refine m2_aload_n hB dX12_twoFrom_223 rfl ?_
    refine m2_iload hB dX12_twoFrom_224 rfl ?_
    refine m2_iload_n hB dX12_twoFrom_226 rfl ?_
    obtain ⟨hs2, k⟩ := k
    refine m2_invi hB (as := [.int v7, .int v3]) dX12_twoFrom_227 mv_X12_275 rfl sh_kM rfl (Nat.le_of_ble_eq_true rfl) rfl (P_X12_beyond (by omega) (v7) (v3) _ hs2) (fun y3 μ4 hq5 => ?_)
    obtain ⟨⟨⟩, hq5⟩ := hq5
    subst μ4
    refine m2_istore hB (ls' := [.ref kM, .int v1, .int v2, .int v3, .int v4, .int v5, .int v6, .int v7, .int (fX12_beyond v7 v3 μ)]) dX12_twoFrom_230 (by decide) rfl ?_
    refine m2_iload hB dX12_twoFrom_232 rfl ?_
    refine m2_iconst hB dX12_twoFrom_234 (v := (-1)) (by decide) ?_
    refine m2_icmp_eq hB dX12_twoFrom_235 (tgt := 363) (by decide) (fun q7 : (fX12_beyond v7 v3 μ) = (-1) => ?_) (fun q7 : ¬ (fX12_beyond v7 v3 μ) = (-1) => ?_)
    · replace k := k.1 q7
      exact k
    · replace k := k.2 q7
      refine m2_aload_n hB dX12_twoFrom_238 rfl ?_
      refine m2_getR hB dX12_twoFrom_239 fl_X12_119 sh_kM (c1 := kM_wasLeft) rfl ?_
      refine m2_iload hB dX12_twoFrom_242 rfl ?_
      have hi8 := hs2
      refine m2_iald hB dX12_twoFrom_244 sh_kM_wasLeft hi8 ?_
      refine m2_if_eq hB dX12_twoFrom_245 (tgt := 363) (by decide) (fun q10 : (μ.1 kM_wasLeft (v7).toNatClampNeg) = 0 => ?_) (fun q10 : ¬ (μ.1 kM_wasLeft (v7).toNatClampNeg) = 0 => ?_)
      · replace k := k.1 q10
        exact k
      · replace k := k.2 q10
        refine m2_aload_n hB dX12_twoFrom_248 rfl ?_
        refine m2_getR hB dX12_twoFrom_249 fl_X12_35 sh_kM (c1 := kM_isStranger) rfl ?_
        refine m2_iload hB dX12_twoFrom_252 rfl ?_
        obtain ⟨hi11, k⟩ := k
        refine m2_zald hB dX12_twoFrom_254 sh_kM_isStranger hi11 ?_
        refine m2_if_ne hB dX12_twoFrom_255 (tgt := 268) (by decide) (fun q12 : ¬ (μ.1 kM_isStranger (v6).toNatClampNeg) = 0 => ?_) (fun q12 : (μ.1 kM_isStranger (v6).toNatClampNeg) = 0 => ?_)
        · replace k := k.1 q12
          exact k
        · replace k := k.2 q12
          refine m2_aload_n hB dX12_twoFrom_258 rfl ?_
          refine m2_getR hB dX12_twoFrom_259 fl_X12_23 sh_kM (c1 := kM_left) rfl ?_
          refine m2_iload hB dX12_twoFrom_262 rfl ?_
          have hi13 := hs2
          refine m2_iald hB dX12_twoFrom_264 sh_kM_left hi13 ?_
          refine m2_if_eq hB dX12_twoFrom_265 (tgt := 363) (by decide) (fun q14 : (μ.1 kM_left (v7).toNatClampNeg) = 0 => ?_) (fun q14 : ¬ (μ.1 kM_left (v7).toNatClampNeg) = 0 => ?_)
          · replace k := k.1 q14
            exact k
          · replace k := k.2 q14
            exact k
set_option maxRecDepth 100000 in
set_option maxHeartbeats 4000000 in
theorem B_X12_twoFrom_268 {κ : Nat → List Value → List Value → m2M → Prop} {D : Nat} {Q : Option Value → m2M → Prop} (h : m2_RL κ cX12_twoFrom RX12 9 (D + 1) none Q) (hD : 0 ≤ D) {v1 : Int32} {v2 : Int32} {v3 : Int32} {v4 : Int32} {v5 : Int32} {v6 : Int32} {v7 : Int32} {v8 : Int32} {μ : m2M} (k : ((fX12_has v4 v8) = 1 → κ 363 [.ref kM, .int v1, .int v2, .int v3, .int v4, .int v5, .int v6, .int v7, .int v8] [] μ) ∧ (¬ (fX12_has v4 v8) = 1 → (v1 = 0 → (vp_in v2 5) ∧ (κ 304 [.ref kM, .int v1, .int v2, .int v3, .int v4, .int v5, .int v6, .int v7, .int v8] [] (m2_si μ kM_secondWay (v2).toNatClampNeg v7))) ∧ (¬ v1 = 0 → (vp_in v2 5) ∧ (κ 304 [.ref kM, .int v1, .int v2, .int v3, .int v4, .int v5, .int v6, .int v7, .int v8] [] (m2_si μ kM_firstWay (v2).toNatClampNeg v7))))) : κ 268 [.ref kM, .int v1, .int v2, .int v3, .int v4, .int v5, .int v6, .int v7, .int v8] [] μ := by
  have hB := h.b
  refine m2_iload hB dX12_twoFrom_268 rfl ?_
  refine m2_iload hB dX12_twoFrom_270 rfl ?_
  refine m2_invSz hB (as := [.int v4, .int v8]) dX12_twoFrom_272 ms_X12_234 rfl (Nat.le_of_ble_eq_true rfl) rfl (P_X12_has (by omega) (v4) (v8) _ ) (fun y1 μ2 hq3 => ?_)
  obtain ⟨⟨⟩, hq3⟩ := hq3
  subst μ2
  show κ 275 [.ref kM, .int v1, .int v2, .int v3, .int v4, .int v5, .int v6, .int v7, .int v8] [.int (if (fX12_has v4 v8) = 1 then 1 else 0 : Int32)] μ
  by_cases q4 : (fX12_has v4 v8) = 1
  · rw [if_pos q4]
    replace k := k.1 q4
    refine m2_if_eq hB dX12_twoFrom_275 (tgt := 281) (by decide) (fun q => absurd q (by decide)) (fun _ => ?_)
    refine m2_goto hB dX12_twoFrom_278 (tgt := 363) (by decide) ?_
    exact k
  · rw [if_neg q4]
    replace k := k.2 q4
    refine m2_if_eq hB dX12_twoFrom_275 (tgt := 281) (by decide) (fun _ => ?_) (fun q => absurd q (by decide))
    refine m2_iload_n hB dX12_twoFrom_281 rfl ?_
    refine m2_if_eq hB dX12_twoFrom_282 (tgt := 296) (by decide) (fun q6 : v1 = 0 => ?_) (fun q6 : ¬ v1 = 0 => ?_)
    · replace k := k.1 q6
      refine m2_aload_n hB dX12_twoFrom_296 rfl ?_
      refine m2_getR hB dX12_twoFrom_297 fl_X12_113 sh_kM (c1 := kM_secondWay) rfl ?_
      refine m2_iload_n hB dX12_twoFrom_300 rfl ?_
      refine m2_iload hB dX12_twoFrom_301 rfl ?_
      obtain ⟨hi7, k⟩ := k
      refine m2_iast hB dX12_twoFrom_303 sh_kM_secondWay hi7 ?_
      exact k
    · replace k := k.2 q6
      refine m2_aload_n hB dX12_twoFrom_285 rfl ?_
      refine m2_getR hB dX12_twoFrom_286 fl_X12_110 sh_kM (c1 := kM_firstWay) rfl ?_
      refine m2_iload_n hB dX12_twoFrom_289 rfl ?_
      refine m2_iload hB dX12_twoFrom_290 rfl ?_
      obtain ⟨hi8, k⟩ := k
      refine m2_iast hB dX12_twoFrom_292 sh_kM_firstWay hi8 ?_
      refine m2_goto hB dX12_twoFrom_293 (tgt := 304) (by decide) ?_
      exact k
set_option maxRecDepth 100000 in
set_option maxHeartbeats 4000000 in
theorem B_X12_twoFrom_304 {κ : Nat → List Value → List Value → m2M → Prop} {D : Nat} {Q : Option Value → m2M → Prop} (h : m2_RL κ cX12_twoFrom RX12 9 D none Q) {v1 : Int32} {v2 : Int32} {v3 : Int32} {v4 : Int32} {v5 : Int32} {v6 : Int32} {v7 : Int32} {v8 : Int32} {μ : m2M} (k : (vp_in v6 8) ∧ ((¬ (μ.1 kM_isStranger (v6).toNatClampNeg) = 0 → κ 325 [.ref kM, .int v1, .int v2, .int v3, .int v4, .int v5, .int v6, .int v7, .int v8] [] μ) ∧ ((μ.1 kM_isStranger (v6).toNatClampNeg) = 0 → (vp_in v7 20) ∧ (κ 325 [.ref kM, .int v1, .int v2, .int v3, .int v4, .int v5, .int v6, .int v7, .int v8] [] (m2_si μ kM_left (v7).toNatClampNeg ((μ.1 kM_left (v7).toNatClampNeg) - 1)))))) : κ 304 [.ref kM, .int v1, .int v2, .int v3, .int v4, .int v5, .int v6, .int v7, .int v8] [] μ := by
  have hB := h.b
  refine m2_aload_n hB dX12_twoFrom_304 rfl ?_
  refine m2_getR hB dX12_twoFrom_305 fl_X12_35 sh_kM (c1 := kM_isStranger) rfl ?_
  refine m2_iload hB dX12_twoFrom_308 rfl ?_
  obtain ⟨hi1, k⟩ := k
  refine m2_zald hB dX12_twoFrom_310 sh_kM_isStranger hi1 ?_
  refine m2_if_ne hB dX12_twoFrom_311 (tgt := 325) (by decide) (fun q3 : ¬ (μ.1 kM_isStranger (v6).toNatClampNeg) = 0 => ?_) (fun q3 : (μ.1 kM_isStranger (v6).toNatClampNeg) = 0 => ?_)
  · replace k := k.1 q3
    exact k
  · replace k := k.2 q3
    refine m2_aload_n hB dX12_twoFrom_314 rfl ?_
    refine m2_getR hB dX12_twoFrom_315 fl_X12_23 sh_kM (c1 := kM_left) rfl ?_
    refine m2_iload hB dX12_twoFrom_318 rfl ?_
    refine m2_dup2 hB dX12_twoFrom_320 rfl rfl ?_
    obtain ⟨hi4, k⟩ := k
    refine m2_iald hB dX12_twoFrom_321 sh_kM_left hi4 ?_
    refine m2_iconst hB dX12_twoFrom_322 (v := 1) (by decide) ?_
    refine m2_isub hB dX12_twoFrom_323 ?_
    have hi5 := hi4
    refine m2_iast hB dX12_twoFrom_324 sh_kM_left hi5 ?_
    exact k
set_option maxRecDepth 100000 in
set_option maxHeartbeats 4000000 in
theorem B_X12_twoFrom_325 {κ : Nat → List Value → List Value → m2M → Prop} {D : Nat} {Q : Option Value → m2M → Prop} (h : m2_RL κ cX12_twoFrom RX12 9 (D + 1) none Q) {v1 : Int32} {v2 : Int32} {v3 : Int32} {v4 : Int32} {v5 : Int32} {v6 : Int32} {v7 : Int32} {v8 : Int32} {μ : m2M} (k : ∃ Q3 : Option Value → m2M → Prop, m2_MT D yX12_twoFrom cX12_twoFrom 9 none [.ref kM, .int v1, .int (v2 + 1), .int v8, .int (v4 ||| ((1 : Int32) <<< (v8 &&& 31)))] μ Q3 ∧ ∀ (μ2 : m2M), Q3 none μ2 → ((vp_in v6 8) ∧ ((¬ (μ2.1 kM_isStranger (v6).toNatClampNeg) = 0 → κ 363 [.ref kM, .int v1, .int v2, .int v3, .int v4, .int v5, .int v6, .int v7, .int v8] [] μ2) ∧ ((μ2.1 kM_isStranger (v6).toNatClampNeg) = 0 → (vp_in v7 20) ∧ (κ 363 [.ref kM, .int v1, .int v2, .int v3, .int v4, .int v5, .int v6, .int v7, .int v8] [] (m2_si μ2 kM_left (v7).toNatClampNeg ((μ2.1 kM_left (v7).toNatClampNeg) + 1))))))) : κ 325 [.ref kM, .int v1, .int v2, .int v3, .int v4, .int v5, .int v6, .int v7, .int v8] [] μ := by
  have hB := h.b
  refine m2_aload_n hB dX12_twoFrom_325 rfl ?_
  refine m2_iload_n hB dX12_twoFrom_326 rfl ?_
  refine m2_iload_n hB dX12_twoFrom_327 rfl ?_
  refine m2_iconst hB dX12_twoFrom_328 (v := 1) (by decide) ?_
  refine m2_iadd hB dX12_twoFrom_329 ?_
  refine m2_iload hB dX12_twoFrom_330 rfl ?_
  refine m2_iload hB dX12_twoFrom_332 rfl ?_
  refine m2_iconst hB dX12_twoFrom_334 (v := 1) (by decide) ?_
  refine m2_iload hB dX12_twoFrom_335 rfl ?_
  refine m2_ishl hB dX12_twoFrom_337 ?_
  refine m2_ior hB dX12_twoFrom_338 ?_
  obtain ⟨Q3, hM4, k⟩ := k
  refine m2_invv hB (as := [.int v1, .int (v2 + 1), .int v8, .int (v4 ||| ((1 : Int32) <<< (v8 &&& 31)))]) dX12_twoFrom_339 mv_X12_425 rfl sh_kM rfl (Nat.le_of_ble_eq_true rfl) rfl hM4 (fun μ2 hq5 => ?_)
  replace k := k μ2 hq5
  refine m2_aload_n hB dX12_twoFrom_342 rfl ?_
  refine m2_getR hB dX12_twoFrom_343 fl_X12_35 sh_kM (c1 := kM_isStranger) rfl ?_
  refine m2_iload hB dX12_twoFrom_346 rfl ?_
  obtain ⟨hi6, k⟩ := k
  refine m2_zald hB dX12_twoFrom_348 sh_kM_isStranger hi6 ?_
  refine m2_if_ne hB dX12_twoFrom_349 (tgt := 363) (by decide) (fun q8 : ¬ (μ2.1 kM_isStranger (v6).toNatClampNeg) = 0 => ?_) (fun q8 : (μ2.1 kM_isStranger (v6).toNatClampNeg) = 0 => ?_)
  · replace k := k.1 q8
    exact k
  · replace k := k.2 q8
    refine m2_aload_n hB dX12_twoFrom_352 rfl ?_
    refine m2_getR hB dX12_twoFrom_353 fl_X12_23 sh_kM (c1 := kM_left) rfl ?_
    refine m2_iload hB dX12_twoFrom_356 rfl ?_
    refine m2_dup2 hB dX12_twoFrom_358 rfl rfl ?_
    obtain ⟨hi9, k⟩ := k
    refine m2_iald hB dX12_twoFrom_359 sh_kM_left hi9 ?_
    refine m2_iconst hB dX12_twoFrom_360 (v := 1) (by decide) ?_
    refine m2_iadd hB dX12_twoFrom_361 ?_
    have hi10 := hi9
    refine m2_iast hB dX12_twoFrom_362 sh_kM_left hi10 ?_
    exact k
set_option maxRecDepth 100000 in
set_option maxHeartbeats 4000000 in
theorem B_X12_twoFrom_363 {κ : Nat → List Value → List Value → m2M → Prop} {D : Nat} {Q : Option Value → m2M → Prop} (h : m2_RL κ cX12_twoFrom RX12 9 D none Q) {v1 : Int32} {v2 : Int32} {v3 : Int32} {v4 : Int32} {v5 : Int32} {v6 : Int32} {v7 : Int32} {v8 : Int32} {μ : m2M} (k : κ 214 [.ref kM, .int v1, .int v2, .int v3, .int v4, .int v5, .int v6, .int (v7 + 1), .null] [] μ) : κ 363 [.ref kM, .int v1, .int v2, .int v3, .int v4, .int v5, .int v6, .int v7, .int v8] [] μ := by
  have hB := h.b
  refine m2_iinc hB (ls' := [.ref kM, .int v1, .int v2, .int v3, .int v4, .int v5, .int v6, .int (v7 + 1), .int v8]) (v := (v7 + 1)) dX12_twoFrom_363 rfl (by decide) rfl rfl ?_
  refine m2_goto hB dX12_twoFrom_366 (tgt := 214) (by decide) ?_
  exact m2_weak (ls' := [.ref kM, .int v1, .int v2, .int v3, .int v4, .int v5, .int v6, .int (v7 + 1), .null]) hB ⟨Or.inr rfl, Or.inr rfl, Or.inr rfl, Or.inr rfl, Or.inr rfl, Or.inr rfl, Or.inr rfl, Or.inr rfl, Or.inl rfl, trivial⟩ k
theorem dX12_two_0 : decode cX12_two 0 = .ok (.aload_n 0, 1) := by decide +kernel
theorem dX12_two_1 : decode cX12_two 1 = .ok (.iconst 0, 1) := by decide +kernel
theorem dX12_two_2 : decode cX12_two 2 = .ok (.putfield 143, 3) := by decide +kernel
theorem dX12_two_5 : decode cX12_two 5 = .ok (.aload_n 0, 1) := by decide +kernel
theorem dX12_two_6 : decode cX12_two 6 = .ok (.iload_n 1, 1) := by decide +kernel
theorem dX12_two_7 : decode cX12_two 7 = .ok (.invokevirtual 295, 3) := by decide +kernel
theorem dX12_two_10 : decode cX12_two 10 = .ok (.ifCond .eq 31, 3) := by decide +kernel
theorem dX12_two_13 : decode cX12_two 13 = .ok (.aload_n 0, 1) := by decide +kernel
theorem dX12_two_14 : decode cX12_two 14 = .ok (.iload_n 3, 1) := by decide +kernel
theorem dX12_two_15 : decode cX12_two 15 = .ok (.invokevirtual 295, 3) := by decide +kernel
theorem dX12_two_18 : decode cX12_two 18 = .ok (.ifCond .eq 23, 3) := by decide +kernel
theorem dX12_two_21 : decode cX12_two 21 = .ok (.iload_n 1, 1) := by decide +kernel
theorem dX12_two_22 : decode cX12_two 22 = .ok (.iload_n 3, 1) := by decide +kernel
theorem dX12_two_23 : decode cX12_two 23 = .ok (.if_icmp .eq 18, 3) := by decide +kernel
theorem dX12_two_26 : decode cX12_two 26 = .ok (.iload_n 2, 1) := by decide +kernel
theorem dX12_two_27 : decode cX12_two 27 = .ok (.invokestatic 302, 3) := by decide +kernel
theorem dX12_two_30 : decode cX12_two 30 = .ok (.ifCond .eq 11, 3) := by decide +kernel
theorem dX12_two_33 : decode cX12_two 33 = .ok (.iload 4, 2) := by decide +kernel
theorem dX12_two_35 : decode cX12_two 35 = .ok (.invokestatic 302, 3) := by decide +kernel
theorem dX12_two_38 : decode cX12_two 38 = .ok (.ifCond .ne 5, 3) := by decide +kernel
theorem dX12_two_41 : decode cX12_two 41 = .ok (.iconst (-1), 1) := by decide +kernel
theorem dX12_two_42 : decode cX12_two 42 = .ok (.ireturn, 1) := by decide +kernel
theorem dX12_two_43 : decode cX12_two 43 = .ok (.aload_n 0, 1) := by decide +kernel
theorem dX12_two_44 : decode cX12_two 44 = .ok (.iload_n 1, 1) := by decide +kernel
theorem dX12_two_45 : decode cX12_two 45 = .ok (.putfield 429, 3) := by decide +kernel
theorem dX12_two_48 : decode cX12_two 48 = .ok (.aload_n 0, 1) := by decide +kernel
theorem dX12_two_49 : decode cX12_two 49 = .ok (.iload_n 3, 1) := by decide +kernel
theorem dX12_two_50 : decode cX12_two 50 = .ok (.putfield 422, 3) := by decide +kernel
theorem dX12_two_53 : decode cX12_two 53 = .ok (.aload_n 0, 1) := by decide +kernel
theorem dX12_two_54 : decode cX12_two 54 = .ok (.iload_n 2, 1) := by decide +kernel
theorem dX12_two_55 : decode cX12_two 55 = .ok (.putfield 416, 3) := by decide +kernel
theorem dX12_two_58 : decode cX12_two 58 = .ok (.aload_n 0, 1) := by decide +kernel
theorem dX12_two_59 : decode cX12_two 59 = .ok (.iload 4, 2) := by decide +kernel
theorem dX12_two_61 : decode cX12_two 61 = .ok (.putfield 419, 3) := by decide +kernel
theorem dX12_two_64 : decode cX12_two 64 = .ok (.aload_n 0, 1) := by decide +kernel
theorem dX12_two_65 : decode cX12_two 65 = .ok (.iconst (-1), 1) := by decide +kernel
theorem dX12_two_66 : decode cX12_two 66 = .ok (.putfield 413, 3) := by decide +kernel
theorem dX12_two_69 : decode cX12_two 69 = .ok (.iconst 0, 1) := by decide +kernel
theorem dX12_two_70 : decode cX12_two 70 = .ok (.istore 5, 2) := by decide +kernel
theorem dX12_two_72 : decode cX12_two 72 = .ok (.iload 5, 2) := by decide +kernel
theorem dX12_two_74 : decode cX12_two 74 = .ok (.aload_n 0, 1) := by decide +kernel
theorem dX12_two_75 : decode cX12_two 75 = .ok (.getfield 153, 3) := by decide +kernel
theorem dX12_two_78 : decode cX12_two 78 = .ok (.if_icmp .ge 23, 3) := by decide +kernel
theorem dX12_two_81 : decode cX12_two 81 = .ok (.aload_n 0, 1) := by decide +kernel
theorem dX12_two_82 : decode cX12_two 82 = .ok (.getfield 119, 3) := by decide +kernel
theorem dX12_two_85 : decode cX12_two 85 = .ok (.iload 5, 2) := by decide +kernel
theorem dX12_two_87 : decode cX12_two 87 = .ok (.aload_n 0, 1) := by decide +kernel
theorem dX12_two_88 : decode cX12_two 88 = .ok (.getfield 23, 3) := by decide +kernel
theorem dX12_two_91 : decode cX12_two 91 = .ok (.iload 5, 2) := by decide +kernel
theorem dX12_two_93 : decode cX12_two 93 = .ok (.iaload, 1) := by decide +kernel
theorem dX12_two_94 : decode cX12_two 94 = .ok (.iastore, 1) := by decide +kernel
theorem dX12_two_95 : decode cX12_two 95 = .ok (.iinc 5 1, 3) := by decide +kernel
theorem dX12_two_98 : decode cX12_two 98 = .ok (.goto (-26), 3) := by decide +kernel
theorem dX12_two_101 : decode cX12_two 101 = .ok (.aload_n 0, 1) := by decide +kernel
theorem dX12_two_102 : decode cX12_two 102 = .ok (.iconst 1, 1) := by decide +kernel
theorem dX12_two_103 : decode cX12_two 103 = .ok (.iconst 0, 1) := by decide +kernel
theorem dX12_two_104 : decode cX12_two 104 = .ok (.aload_n 0, 1) := by decide +kernel
theorem dX12_two_105 : decode cX12_two 105 = .ok (.getfield 29, 3) := by decide +kernel
theorem dX12_two_108 : decode cX12_two 108 = .ok (.iload_n 1, 1) := by decide +kernel
theorem dX12_two_109 : decode cX12_two 109 = .ok (.iaload, 1) := by decide +kernel
theorem dX12_two_110 : decode cX12_two 110 = .ok (.iconst 1, 1) := by decide +kernel
theorem dX12_two_111 : decode cX12_two 111 = .ok (.aload_n 0, 1) := by decide +kernel
theorem dX12_two_112 : decode cX12_two 112 = .ok (.getfield 29, 3) := by decide +kernel
theorem dX12_two_115 : decode cX12_two 115 = .ok (.iload_n 1, 1) := by decide +kernel
theorem dX12_two_116 : decode cX12_two 116 = .ok (.iaload, 1) := by decide +kernel
theorem dX12_two_117 : decode cX12_two 117 = .ok (.ishl, 1) := by decide +kernel
theorem dX12_two_118 : decode cX12_two 118 = .ok (.invokevirtual 425, 3) := by decide +kernel
theorem dX12_two_121 : decode cX12_two 121 = .ok (.aload_n 0, 1) := by decide +kernel
theorem dX12_two_122 : decode cX12_two 122 = .ok (.getfield 413, 3) := by decide +kernel
theorem dX12_two_125 : decode cX12_two 125 = .ok (.iconst (-1), 1) := by decide +kernel
theorem dX12_two_126 : decode cX12_two 126 = .ok (.if_icmp .ne 6, 3) := by decide +kernel
theorem dX12_two_129 : decode cX12_two 129 = .ok (.bipush (-2), 2) := by decide +kernel
theorem dX12_two_131 : decode cX12_two 131 = .ok (.ireturn, 1) := by decide +kernel
theorem dX12_two_132 : decode cX12_two 132 = .ok (.aload_n 0, 1) := by decide +kernel
theorem dX12_two_133 : decode cX12_two 133 = .ok (.iconst 0, 1) := by decide +kernel
theorem dX12_two_134 : decode cX12_two 134 = .ok (.putfield 146, 3) := by decide +kernel
theorem dX12_two_137 : decode cX12_two 137 = .ok (.aload_n 0, 1) := by decide +kernel
theorem dX12_two_138 : decode cX12_two 138 = .ok (.getfield 116, 3) := by decide +kernel
theorem dX12_two_141 : decode cX12_two 141 = .ok (.iconst 0, 1) := by decide +kernel
theorem dX12_two_142 : decode cX12_two 142 = .ok (.iaload, 1) := by decide +kernel
theorem dX12_two_143 : decode cX12_two 143 = .ok (.istore 5, 2) := by decide +kernel
theorem dX12_two_145 : decode cX12_two 145 = .ok (.aload_n 0, 1) := by decide +kernel
theorem dX12_two_146 : decode cX12_two 146 = .ok (.getfield 116, 3) := by decide +kernel
theorem dX12_two_149 : decode cX12_two 149 = .ok (.iconst 1, 1) := by decide +kernel
theorem dX12_two_150 : decode cX12_two 150 = .ok (.iload 5, 2) := by decide +kernel
theorem dX12_two_152 : decode cX12_two 152 = .ok (.iadd, 1) := by decide +kernel
theorem dX12_two_153 : decode cX12_two 153 = .ok (.iaload, 1) := by decide +kernel
theorem dX12_two_154 : decode cX12_two 154 = .ok (.istore 6, 2) := by decide +kernel
theorem dX12_two_156 : decode cX12_two 156 = .ok (.aload_n 0, 1) := by decide +kernel
theorem dX12_two_157 : decode cX12_two 157 = .ok (.iload 5, 2) := by decide +kernel
theorem dX12_two_159 : decode cX12_two 159 = .ok (.i2l, 1) := by decide +kernel
theorem dX12_two_160 : decode cX12_two 160 = .ok (.invokevirtual 278, 3) := by decide +kernel
theorem dX12_two_163 : decode cX12_two 163 = .ok (.iconst 0, 1) := by decide +kernel
theorem dX12_two_164 : decode cX12_two 164 = .ok (.istore 7, 2) := by decide +kernel
theorem dX12_two_166 : decode cX12_two 166 = .ok (.iload 7, 2) := by decide +kernel
theorem dX12_two_168 : decode cX12_two 168 = .ok (.iload 5, 2) := by decide +kernel
theorem dX12_two_170 : decode cX12_two 170 = .ok (.if_icmp .ge 23, 3) := by decide +kernel
theorem dX12_two_173 : decode cX12_two 173 = .ok (.aload_n 0, 1) := by decide +kernel
theorem dX12_two_174 : decode cX12_two 174 = .ok (.aload_n 0, 1) := by decide +kernel
theorem dX12_two_175 : decode cX12_two 175 = .ok (.getfield 116, 3) := by decide +kernel
theorem dX12_two_178 : decode cX12_two 178 = .ok (.iconst 1, 1) := by decide +kernel
theorem dX12_two_179 : decode cX12_two 179 = .ok (.iload 7, 2) := by decide +kernel
theorem dX12_two_181 : decode cX12_two 181 = .ok (.iadd, 1) := by decide +kernel
theorem dX12_two_182 : decode cX12_two 182 = .ok (.iaload, 1) := by decide +kernel
theorem dX12_two_183 : decode cX12_two 183 = .ok (.i2l, 1) := by decide +kernel
theorem dX12_two_184 : decode cX12_two 184 = .ok (.invokevirtual 278, 3) := by decide +kernel
theorem dX12_two_187 : decode cX12_two 187 = .ok (.iinc 7 1, 3) := by decide +kernel
theorem dX12_two_190 : decode cX12_two 190 = .ok (.goto (-24), 3) := by decide +kernel
theorem dX12_two_193 : decode cX12_two 193 = .ok (.iconst 0, 1) := by decide +kernel
theorem dX12_two_194 : decode cX12_two 194 = .ok (.istore 7, 2) := by decide +kernel
theorem dX12_two_196 : decode cX12_two 196 = .ok (.iload 7, 2) := by decide +kernel
theorem dX12_two_198 : decode cX12_two 198 = .ok (.iload 6, 2) := by decide +kernel
theorem dX12_two_200 : decode cX12_two 200 = .ok (.if_icmp .ge 26, 3) := by decide +kernel
theorem dX12_two_203 : decode cX12_two 203 = .ok (.aload_n 0, 1) := by decide +kernel
theorem dX12_two_204 : decode cX12_two 204 = .ok (.aload_n 0, 1) := by decide +kernel
theorem dX12_two_205 : decode cX12_two 205 = .ok (.getfield 116, 3) := by decide +kernel
theorem dX12_two_208 : decode cX12_two 208 = .ok (.iconst 2, 1) := by decide +kernel
theorem dX12_two_209 : decode cX12_two 209 = .ok (.iload 5, 2) := by decide +kernel
theorem dX12_two_211 : decode cX12_two 211 = .ok (.iadd, 1) := by decide +kernel
theorem dX12_two_212 : decode cX12_two 212 = .ok (.iload 7, 2) := by decide +kernel
theorem dX12_two_214 : decode cX12_two 214 = .ok (.iadd, 1) := by decide +kernel
theorem dX12_two_215 : decode cX12_two 215 = .ok (.iaload, 1) := by decide +kernel
theorem dX12_two_216 : decode cX12_two 216 = .ok (.i2l, 1) := by decide +kernel
theorem dX12_two_217 : decode cX12_two 217 = .ok (.invokevirtual 278, 3) := by decide +kernel
theorem dX12_two_220 : decode cX12_two 220 = .ok (.iinc 7 1, 3) := by decide +kernel
theorem dX12_two_223 : decode cX12_two 223 = .ok (.goto (-27), 3) := by decide +kernel
theorem dX12_two_226 : decode cX12_two 226 = .ok (.aload_n 0, 1) := by decide +kernel
theorem dX12_two_227 : decode cX12_two 227 = .ok (.getfield 413, 3) := by decide +kernel
theorem dX12_two_230 : decode cX12_two 230 = .ok (.ireturn, 1) := by decide +kernel
set_option maxRecDepth 100000 in
set_option maxHeartbeats 4000000 in
theorem B_X12_two_0 {κ : Nat → List Value → List Value → m2M → Prop} {D : Nat} {Q : Option Value → m2M → Prop} (h : m2_RL κ cX12_two RX12 8 (D + 1) (some .int) Q) (hD : 1 ≤ D) {x1 : Int32} {x2 : Int32} {x3 : Int32} {x4 : Int32} {μ : m2M} (k : ((fX12_isOne x1 (m2_si μ kM 22 0)) = 1 → ((fX12_isOne x3 (m2_si μ kM 22 0)) = 1 → (x1 = x3 → Q (some (.int (-1))) (m2_si μ kM 22 0)) ∧ (¬ x1 = x3 → ((fX12_isRoom x2) = 1 → ((fX12_isRoom x4) = 1 → κ 72 [.ref kM, .int x1, .int x2, .int x3, .int x4, .int 0, .null, .null] [] (m2_si (m2_si (m2_si (m2_si (m2_si (m2_si μ kM 22 0) kM 59 x1) kM 60 x3) kM 61 x2) kM 62 x4) kM 58 (-1))) ∧ (¬ (fX12_isRoom x4) = 1 → Q (some (.int (-1))) (m2_si μ kM 22 0))) ∧ (¬ (fX12_isRoom x2) = 1 → Q (some (.int (-1))) (m2_si μ kM 22 0)))) ∧ (¬ (fX12_isOne x3 (m2_si μ kM 22 0)) = 1 → Q (some (.int (-1))) (m2_si μ kM 22 0))) ∧ (¬ (fX12_isOne x1 (m2_si μ kM 22 0)) = 1 → Q (some (.int (-1))) (m2_si μ kM 22 0))) : κ 0 [.ref kM, .int x1, .int x2, .int x3, .int x4, .null, .null, .null] [] μ := by
  have hB := h.b
  refine m2_aload_n hB dX12_two_0 rfl ?_
  refine m2_iconst hB dX12_two_1 (v := 0) (by decide) ?_
  refine m2_putI hB dX12_two_2 fl_X12_143 sh_kM rfl ?_
  refine m2_aload_n hB dX12_two_5 rfl ?_
  refine m2_iload_n hB dX12_two_6 rfl ?_
  refine m2_invz hB (as := [.int x1]) dX12_two_7 mv_X12_295 rfl sh_kM rfl (Nat.le_of_ble_eq_true rfl) rfl (P_X12_isOne (by omega) (x1) _ ) (fun y1 μ2 hq3 => ?_)
  obtain ⟨⟨⟩, hq3⟩ := hq3
  subst μ2
  show κ 10 [.ref kM, .int x1, .int x2, .int x3, .int x4, .null, .null, .null] [.int (if (fX12_isOne x1 (m2_si μ kM 22 0)) = 1 then 1 else 0 : Int32)] (m2_si μ kM 22 0)
  by_cases q4 : (fX12_isOne x1 (m2_si μ kM 22 0)) = 1
  · rw [if_pos q4]
    replace k := k.1 q4
    refine m2_if_eq hB dX12_two_10 (tgt := 41) (by decide) (fun q => absurd q (by decide)) (fun _ => ?_)
    refine m2_aload_n hB dX12_two_13 rfl ?_
    refine m2_iload_n hB dX12_two_14 rfl ?_
    refine m2_invz hB (as := [.int x3]) dX12_two_15 mv_X12_295 rfl sh_kM rfl (Nat.le_of_ble_eq_true rfl) rfl (P_X12_isOne (by omega) (x3) _ ) (fun y5 μ6 hq7 => ?_)
    obtain ⟨⟨⟩, hq7⟩ := hq7
    subst μ6
    show κ 18 [.ref kM, .int x1, .int x2, .int x3, .int x4, .null, .null, .null] [.int (if (fX12_isOne x3 (m2_si μ kM 22 0)) = 1 then 1 else 0 : Int32)] (m2_si μ kM 22 0)
    by_cases q8 : (fX12_isOne x3 (m2_si μ kM 22 0)) = 1
    · rw [if_pos q8]
      replace k := k.1 q8
      refine m2_if_eq hB dX12_two_18 (tgt := 41) (by decide) (fun q => absurd q (by decide)) (fun _ => ?_)
      refine m2_iload_n hB dX12_two_21 rfl ?_
      refine m2_iload_n hB dX12_two_22 rfl ?_
      refine m2_icmp_eq hB dX12_two_23 (tgt := 41) (by decide) (fun q9 : x1 = x3 => ?_) (fun q9 : ¬ x1 = x3 => ?_)
      · replace k := k.1 q9
        refine m2_iconst hB dX12_two_41 (v := (-1)) (by decide) ?_
        exact m2_iret h dX12_two_42 k
      · replace k := k.2 q9
        refine m2_iload_n hB dX12_two_26 rfl ?_
        refine m2_invSz hB (as := [.int x2]) dX12_two_27 ms_X12_302 rfl (Nat.le_of_ble_eq_true rfl) rfl (P_X12_isRoom (by omega) (x2) _ ) (fun y10 μ11 hq12 => ?_)
        obtain ⟨⟨⟩, hq12⟩ := hq12
        subst μ11
        show κ 30 [.ref kM, .int x1, .int x2, .int x3, .int x4, .null, .null, .null] [.int (if (fX12_isRoom x2) = 1 then 1 else 0 : Int32)] (m2_si μ kM 22 0)
        by_cases q13 : (fX12_isRoom x2) = 1
        · rw [if_pos q13]
          replace k := k.1 q13
          refine m2_if_eq hB dX12_two_30 (tgt := 41) (by decide) (fun q => absurd q (by decide)) (fun _ => ?_)
          refine m2_iload hB dX12_two_33 rfl ?_
          refine m2_invSz hB (as := [.int x4]) dX12_two_35 ms_X12_302 rfl (Nat.le_of_ble_eq_true rfl) rfl (P_X12_isRoom (by omega) (x4) _ ) (fun y14 μ15 hq16 => ?_)
          obtain ⟨⟨⟩, hq16⟩ := hq16
          subst μ15
          show κ 38 [.ref kM, .int x1, .int x2, .int x3, .int x4, .null, .null, .null] [.int (if (fX12_isRoom x4) = 1 then 1 else 0 : Int32)] (m2_si μ kM 22 0)
          by_cases q17 : (fX12_isRoom x4) = 1
          · rw [if_pos q17]
            replace k := k.1 q17
            refine m2_if_ne hB dX12_two_38 (tgt := 43) (by decide) (fun _ => ?_) (fun q => absurd q (by decide))
            refine m2_aload_n hB dX12_two_43 rfl ?_
            refine m2_iload_n hB dX12_two_44 rfl ?_
            refine m2_putI hB dX12_two_45 fl_X12_429 sh_kM rfl ?_
            refine m2_aload_n hB dX12_two_48 rfl ?_
            refine m2_iload_n hB dX12_two_49 rfl ?_
            refine m2_putI hB dX12_two_50 fl_X12_422 sh_kM rfl ?_
            refine m2_aload_n hB dX12_two_53 rfl ?_
            refine m2_iload_n hB dX12_two_54 rfl ?_
            refine m2_putI hB dX12_two_55 fl_X12_416 sh_kM rfl ?_
            refine m2_aload_n hB dX12_two_58 rfl ?_
            refine m2_iload hB dX12_two_59 rfl ?_
            refine m2_putI hB dX12_two_61 fl_X12_419 sh_kM rfl ?_
            refine m2_aload_n hB dX12_two_64 rfl ?_
            refine m2_iconst hB dX12_two_65 (v := (-1)) (by decide) ?_
            refine m2_putI hB dX12_two_66 fl_X12_413 sh_kM rfl ?_
            refine m2_iconst hB dX12_two_69 (v := 0) (by decide) ?_
            refine m2_istore hB (ls' := [.ref kM, .int x1, .int x2, .int x3, .int x4, .int 0, .null, .null]) dX12_two_70 (by decide) rfl ?_
            exact k
          · rw [if_neg q17]
            replace k := k.2 q17
            refine m2_if_ne hB dX12_two_38 (tgt := 43) (by decide) (fun q => absurd q (by decide)) (fun _ => ?_)
            refine m2_iconst hB dX12_two_41 (v := (-1)) (by decide) ?_
            exact m2_iret h dX12_two_42 k
        · rw [if_neg q13]
          replace k := k.2 q13
          refine m2_if_eq hB dX12_two_30 (tgt := 41) (by decide) (fun _ => ?_) (fun q => absurd q (by decide))
          refine m2_iconst hB dX12_two_41 (v := (-1)) (by decide) ?_
          exact m2_iret h dX12_two_42 k
    · rw [if_neg q8]
      replace k := k.2 q8
      refine m2_if_eq hB dX12_two_18 (tgt := 41) (by decide) (fun _ => ?_) (fun q => absurd q (by decide))
      refine m2_iconst hB dX12_two_41 (v := (-1)) (by decide) ?_
      exact m2_iret h dX12_two_42 k
  · rw [if_neg q4]
    replace k := k.2 q4
    refine m2_if_eq hB dX12_two_10 (tgt := 41) (by decide) (fun _ => ?_) (fun q => absurd q (by decide))
    refine m2_iconst hB dX12_two_41 (v := (-1)) (by decide) ?_
    exact m2_iret h dX12_two_42 k
set_option maxRecDepth 100000 in
set_option maxHeartbeats 4000000 in
theorem B_X12_two_72 {κ : Nat → List Value → List Value → m2M → Prop} {D : Nat} {Q : Option Value → m2M → Prop} (h : m2_RL κ cX12_two RX12 8 (D + 1) (some .int) Q) {v1 : Int32} {v2 : Int32} {v3 : Int32} {v4 : Int32} {v5 : Int32} {μ : m2M} (k : ((μ.1 kM 0) ≤ v5 → (vp_in v1 8) ∧ (∃ Q7 : Option Value → m2M → Prop, m2_MT D yX12_twoFrom cX12_twoFrom 9 none [.ref kM, .int 1, .int 0, .int (μ.1 kM_where (v1).toNatClampNeg), .int ((1 : Int32) <<< ((μ.1 kM_where (v1).toNatClampNeg) &&& 31))] μ Q7 ∧ ∀ (μ6 : m2M), Q7 none μ6 → ((¬ (μ6.1 kM 58) = (-1) → (vp_in ((1 : Int32) + (μ6.1 kM_bestTwo ((0 : Int32)).toNatClampNeg)) 12) ∧ (∃ Q15 : Option Value → m2M → Prop, m2_MT D yX12_tell cX12_tell 3 none [.ref kM, .long ((μ6.1 kM_bestTwo ((0 : Int32)).toNatClampNeg)).toInt64] (m2_si μ6 kM 21 0) Q15 ∧ ∀ (μ14 : m2M), Q15 none μ14 → (κ 166 [.ref kM, .int v1, .int v2, .int v3, .int v4, .int (μ6.1 kM_bestTwo ((0 : Int32)).toNatClampNeg), .int (μ6.1 kM_bestTwo (((1 : Int32) + (μ6.1 kM_bestTwo ((0 : Int32)).toNatClampNeg))).toNatClampNeg), .int 0] [] μ14))) ∧ ((μ6.1 kM 58) = (-1) → Q (some (.int (-2))) μ6)))) ∧ (¬ (μ.1 kM 0) ≤ v5 → (vp_in v5 20) ∧ (κ 72 [.ref kM, .int v1, .int v2, .int v3, .int v4, .int (v5 + 1), .null, .null] [] (m2_si μ kM_wasLeft (v5).toNatClampNeg (μ.1 kM_left (v5).toNatClampNeg))))) : κ 72 [.ref kM, .int v1, .int v2, .int v3, .int v4, .int v5, .null, .null] [] μ := by
  have hB := h.b
  refine m2_iload hB dX12_two_72 rfl ?_
  refine m2_aload_n hB dX12_two_74 rfl ?_
  refine m2_getI hB dX12_two_75 fl_X12_153 sh_kM rfl ?_
  refine m2_icmp_ge hB dX12_two_78 (tgt := 101) (by decide) (fun q2 : (μ.1 kM 0) ≤ v5 => ?_) (fun q2 : ¬ (μ.1 kM 0) ≤ v5 => ?_)
  · replace k := k.1 q2
    refine m2_aload_n hB dX12_two_101 rfl ?_
    refine m2_iconst hB dX12_two_102 (v := 1) (by decide) ?_
    refine m2_iconst hB dX12_two_103 (v := 0) (by decide) ?_
    refine m2_aload_n hB dX12_two_104 rfl ?_
    refine m2_getR hB dX12_two_105 fl_X12_29 sh_kM (c1 := kM_where) rfl ?_
    refine m2_iload_n hB dX12_two_108 rfl ?_
    obtain ⟨hi3, k⟩ := k
    refine m2_iald hB dX12_two_109 sh_kM_where hi3 ?_
    refine m2_iconst hB dX12_two_110 (v := 1) (by decide) ?_
    refine m2_aload_n hB dX12_two_111 rfl ?_
    refine m2_getR hB dX12_two_112 fl_X12_29 sh_kM (c1 := kM_where) rfl ?_
    refine m2_iload_n hB dX12_two_115 rfl ?_
    have hi4 := hi3
    refine m2_iald hB dX12_two_116 sh_kM_where hi4 ?_
    refine m2_ishl hB dX12_two_117 ?_
    obtain ⟨Q7, hM8, k⟩ := k
    refine m2_invv hB (as := [.int 1, .int 0, .int (μ.1 kM_where (v1).toNatClampNeg), .int ((1 : Int32) <<< ((μ.1 kM_where (v1).toNatClampNeg) &&& 31))]) dX12_two_118 mv_X12_425 rfl sh_kM rfl (Nat.le_of_ble_eq_true rfl) rfl hM8 (fun μ6 hq9 => ?_)
    replace k := k μ6 hq9
    refine m2_aload_n hB dX12_two_121 rfl ?_
    refine m2_getI hB dX12_two_122 fl_X12_413 sh_kM rfl ?_
    refine m2_iconst hB dX12_two_125 (v := (-1)) (by decide) ?_
    refine m2_icmp_ne hB dX12_two_126 (tgt := 132) (by decide) (fun q10 : ¬ (μ6.1 kM 58) = (-1) => ?_) (fun q10 : (μ6.1 kM 58) = (-1) => ?_)
    · replace k := k.1 q10
      refine m2_aload_n hB dX12_two_132 rfl ?_
      refine m2_iconst hB dX12_two_133 (v := 0) (by decide) ?_
      refine m2_putI hB dX12_two_134 fl_X12_146 sh_kM rfl ?_
      refine m2_aload_n hB dX12_two_137 rfl ?_
      refine m2_getR hB dX12_two_138 fl_X12_116 sh_kM (c1 := kM_bestTwo) rfl ?_
      refine m2_iconst hB dX12_two_141 (v := 0) (by decide) ?_
      refine m2_iald hB dX12_two_142 sh_kM_bestTwo (vp_in_iff.mpr ⟨by decide, by decide⟩) ?_
      refine m2_istore hB (ls' := [.ref kM, .int v1, .int v2, .int v3, .int v4, .int (μ6.1 kM_bestTwo ((0 : Int32)).toNatClampNeg), .null, .null]) dX12_two_143 (by decide) rfl ?_
      refine m2_aload_n hB dX12_two_145 rfl ?_
      refine m2_getR hB dX12_two_146 fl_X12_116 sh_kM (c1 := kM_bestTwo) rfl ?_
      refine m2_iconst hB dX12_two_149 (v := 1) (by decide) ?_
      refine m2_iload hB dX12_two_150 rfl ?_
      refine m2_iadd hB dX12_two_152 ?_
      obtain ⟨hi12, k⟩ := k
      refine m2_iald hB dX12_two_153 sh_kM_bestTwo hi12 ?_
      refine m2_istore hB (ls' := [.ref kM, .int v1, .int v2, .int v3, .int v4, .int (μ6.1 kM_bestTwo ((0 : Int32)).toNatClampNeg), .int (μ6.1 kM_bestTwo (((1 : Int32) + (μ6.1 kM_bestTwo ((0 : Int32)).toNatClampNeg))).toNatClampNeg), .null]) dX12_two_154 (by decide) rfl ?_
      refine m2_aload_n hB dX12_two_156 rfl ?_
      refine m2_iload hB dX12_two_157 rfl ?_
      refine m2_i2l hB dX12_two_159 ?_
      obtain ⟨Q15, hM16, k⟩ := k
      refine m2_invv hB (as := [.long ((μ6.1 kM_bestTwo ((0 : Int32)).toNatClampNeg)).toInt64]) dX12_two_160 mv_X12_278 rfl sh_kM rfl (Nat.le_of_ble_eq_true rfl) rfl hM16 (fun μ14 hq17 => ?_)
      replace k := k μ14 hq17
      refine m2_iconst hB dX12_two_163 (v := 0) (by decide) ?_
      refine m2_istore hB (ls' := [.ref kM, .int v1, .int v2, .int v3, .int v4, .int (μ6.1 kM_bestTwo ((0 : Int32)).toNatClampNeg), .int (μ6.1 kM_bestTwo (((1 : Int32) + (μ6.1 kM_bestTwo ((0 : Int32)).toNatClampNeg))).toNatClampNeg), .int 0]) dX12_two_164 (by decide) rfl ?_
      exact k
    · replace k := k.2 q10
      refine m2_bipush hB dX12_two_129 (v := (-2)) (by decide) ?_
      exact m2_iret h dX12_two_131 k
  · replace k := k.2 q2
    refine m2_aload_n hB dX12_two_81 rfl ?_
    refine m2_getR hB dX12_two_82 fl_X12_119 sh_kM (c1 := kM_wasLeft) rfl ?_
    refine m2_iload hB dX12_two_85 rfl ?_
    refine m2_aload_n hB dX12_two_87 rfl ?_
    refine m2_getR hB dX12_two_88 fl_X12_23 sh_kM (c1 := kM_left) rfl ?_
    refine m2_iload hB dX12_two_91 rfl ?_
    obtain ⟨hi18, k⟩ := k
    refine m2_iald hB dX12_two_93 sh_kM_left hi18 ?_
    have hi19 := hi18
    refine m2_iast hB dX12_two_94 sh_kM_wasLeft hi19 ?_
    refine m2_iinc hB (ls' := [.ref kM, .int v1, .int v2, .int v3, .int v4, .int (v5 + 1), .null, .null]) (v := (v5 + 1)) dX12_two_95 rfl (by decide) rfl rfl ?_
    refine m2_goto hB dX12_two_98 (tgt := 72) (by decide) ?_
    exact k
set_option maxRecDepth 100000 in
set_option maxHeartbeats 4000000 in
theorem B_X12_two_166 {κ : Nat → List Value → List Value → m2M → Prop} {D : Nat} {Q : Option Value → m2M → Prop} (h : m2_RL κ cX12_two RX12 8 (D + 1) (some .int) Q) {v1 : Int32} {v2 : Int32} {v3 : Int32} {v4 : Int32} {v5 : Int32} {v6 : Int32} {v7 : Int32} {μ : m2M} (k : (v5 ≤ v7 → κ 196 [.ref kM, .int v1, .int v2, .int v3, .int v4, .int v5, .int v6, .int 0] [] μ) ∧ (¬ v5 ≤ v7 → (vp_in ((1 : Int32) + v7) 12) ∧ (∃ Q6 : Option Value → m2M → Prop, m2_MT D yX12_tell cX12_tell 3 none [.ref kM, .long ((μ.1 kM_bestTwo (((1 : Int32) + v7)).toNatClampNeg)).toInt64] μ Q6 ∧ ∀ (μ5 : m2M), Q6 none μ5 → (κ 166 [.ref kM, .int v1, .int v2, .int v3, .int v4, .int v5, .int v6, .int (v7 + 1)] [] μ5)))) : κ 166 [.ref kM, .int v1, .int v2, .int v3, .int v4, .int v5, .int v6, .int v7] [] μ := by
  have hB := h.b
  refine m2_iload hB dX12_two_166 rfl ?_
  refine m2_iload hB dX12_two_168 rfl ?_
  refine m2_icmp_ge hB dX12_two_170 (tgt := 193) (by decide) (fun q2 : v5 ≤ v7 => ?_) (fun q2 : ¬ v5 ≤ v7 => ?_)
  · replace k := k.1 q2
    refine m2_iconst hB dX12_two_193 (v := 0) (by decide) ?_
    refine m2_istore hB (ls' := [.ref kM, .int v1, .int v2, .int v3, .int v4, .int v5, .int v6, .int 0]) dX12_two_194 (by decide) rfl ?_
    exact k
  · replace k := k.2 q2
    refine m2_aload_n hB dX12_two_173 rfl ?_
    refine m2_aload_n hB dX12_two_174 rfl ?_
    refine m2_getR hB dX12_two_175 fl_X12_116 sh_kM (c1 := kM_bestTwo) rfl ?_
    refine m2_iconst hB dX12_two_178 (v := 1) (by decide) ?_
    refine m2_iload hB dX12_two_179 rfl ?_
    refine m2_iadd hB dX12_two_181 ?_
    obtain ⟨hi3, k⟩ := k
    refine m2_iald hB dX12_two_182 sh_kM_bestTwo hi3 ?_
    refine m2_i2l hB dX12_two_183 ?_
    obtain ⟨Q6, hM7, k⟩ := k
    refine m2_invv hB (as := [.long ((μ.1 kM_bestTwo (((1 : Int32) + v7)).toNatClampNeg)).toInt64]) dX12_two_184 mv_X12_278 rfl sh_kM rfl (Nat.le_of_ble_eq_true rfl) rfl hM7 (fun μ5 hq8 => ?_)
    replace k := k μ5 hq8
    refine m2_iinc hB (ls' := [.ref kM, .int v1, .int v2, .int v3, .int v4, .int v5, .int v6, .int (v7 + 1)]) (v := (v7 + 1)) dX12_two_187 rfl (by decide) rfl rfl ?_
    refine m2_goto hB dX12_two_190 (tgt := 166) (by decide) ?_
    exact k
set_option maxRecDepth 100000 in
set_option maxHeartbeats 4000000 in
theorem B_X12_two_196 {κ : Nat → List Value → List Value → m2M → Prop} {D : Nat} {Q : Option Value → m2M → Prop} (h : m2_RL κ cX12_two RX12 8 (D + 1) (some .int) Q) {v1 : Int32} {v2 : Int32} {v3 : Int32} {v4 : Int32} {v5 : Int32} {v6 : Int32} {v7 : Int32} {μ : m2M} (k : (v6 ≤ v7 → Q (some (.int (μ.1 kM 58))) μ) ∧ (¬ v6 ≤ v7 → (vp_in (((2 : Int32) + v5) + v7) 12) ∧ (∃ Q6 : Option Value → m2M → Prop, m2_MT D yX12_tell cX12_tell 3 none [.ref kM, .long ((μ.1 kM_bestTwo ((((2 : Int32) + v5) + v7)).toNatClampNeg)).toInt64] μ Q6 ∧ ∀ (μ5 : m2M), Q6 none μ5 → (κ 196 [.ref kM, .int v1, .int v2, .int v3, .int v4, .int v5, .int v6, .int (v7 + 1)] [] μ5)))) : κ 196 [.ref kM, .int v1, .int v2, .int v3, .int v4, .int v5, .int v6, .int v7] [] μ := by
  have hB := h.b
  refine m2_iload hB dX12_two_196 rfl ?_
  refine m2_iload hB dX12_two_198 rfl ?_
  refine m2_icmp_ge hB dX12_two_200 (tgt := 226) (by decide) (fun q2 : v6 ≤ v7 => ?_) (fun q2 : ¬ v6 ≤ v7 => ?_)
  · replace k := k.1 q2
    refine m2_aload_n hB dX12_two_226 rfl ?_
    refine m2_getI hB dX12_two_227 fl_X12_413 sh_kM rfl ?_
    exact m2_iret h dX12_two_230 k
  · replace k := k.2 q2
    refine m2_aload_n hB dX12_two_203 rfl ?_
    refine m2_aload_n hB dX12_two_204 rfl ?_
    refine m2_getR hB dX12_two_205 fl_X12_116 sh_kM (c1 := kM_bestTwo) rfl ?_
    refine m2_iconst hB dX12_two_208 (v := 2) (by decide) ?_
    refine m2_iload hB dX12_two_209 rfl ?_
    refine m2_iadd hB dX12_two_211 ?_
    refine m2_iload hB dX12_two_212 rfl ?_
    refine m2_iadd hB dX12_two_214 ?_
    obtain ⟨hi3, k⟩ := k
    refine m2_iald hB dX12_two_215 sh_kM_bestTwo hi3 ?_
    refine m2_i2l hB dX12_two_216 ?_
    obtain ⟨Q6, hM7, k⟩ := k
    refine m2_invv hB (as := [.long ((μ.1 kM_bestTwo ((((2 : Int32) + v5) + v7)).toNatClampNeg)).toInt64]) dX12_two_217 mv_X12_278 rfl sh_kM rfl (Nat.le_of_ble_eq_true rfl) rfl hM7 (fun μ5 hq8 => ?_)
    replace k := k μ5 hq8
    refine m2_iinc hB (ls' := [.ref kM, .int v1, .int v2, .int v3, .int v4, .int v5, .int v6, .int (v7 + 1)]) (v := (v7 + 1)) dX12_two_220 rfl (by decide) rfl rfl ?_
    refine m2_goto hB dX12_two_223 (tgt := 196) (by decide) ?_
    exact k
theorem dX12_keep_0 : decode cX12_keep 0 = .ok (.aload_n 0, 1) := by decide +kernel
theorem dX12_keep_1 : decode cX12_keep 1 = .ok (.iconst 0, 1) := by decide +kernel
theorem dX12_keep_2 : decode cX12_keep 2 = .ok (.putfield 143, 3) := by decide +kernel
theorem dX12_keep_5 : decode cX12_keep 5 = .ok (.aload_n 0, 1) := by decide +kernel
theorem dX12_keep_6 : decode cX12_keep 6 = .ok (.iload_n 1, 1) := by decide +kernel
theorem dX12_keep_7 : decode cX12_keep 7 = .ok (.invokevirtual 288, 3) := by decide +kernel
theorem dX12_keep_10 : decode cX12_keep 10 = .ok (.ifCond .eq 59, 3) := by decide +kernel
theorem dX12_keep_13 : decode cX12_keep 13 = .ok (.iload_n 2, 1) := by decide +kernel
theorem dX12_keep_14 : decode cX12_keep 14 = .ok (.iconst 0, 1) := by decide +kernel
theorem dX12_keep_15 : decode cX12_keep 15 = .ok (.bipush 10, 2) := by decide +kernel
theorem dX12_keep_17 : decode cX12_keep 17 = .ok (.invokestatic 149, 3) := by decide +kernel
theorem dX12_keep_20 : decode cX12_keep 20 = .ok (.ifCond .eq 49, 3) := by decide +kernel
theorem dX12_keep_23 : decode cX12_keep 23 = .ok (.iload_n 3, 1) := by decide +kernel
theorem dX12_keep_24 : decode cX12_keep 24 = .ok (.iconst 0, 1) := by decide +kernel
theorem dX12_keep_25 : decode cX12_keep 25 = .ok (.bipush 10, 2) := by decide +kernel
theorem dX12_keep_27 : decode cX12_keep 27 = .ok (.invokestatic 149, 3) := by decide +kernel
theorem dX12_keep_30 : decode cX12_keep 30 = .ok (.ifCond .eq 39, 3) := by decide +kernel
theorem dX12_keep_33 : decode cX12_keep 33 = .ok (.iload 4, 2) := by decide +kernel
theorem dX12_keep_35 : decode cX12_keep 35 = .ok (.iconst 0, 1) := by decide +kernel
theorem dX12_keep_36 : decode cX12_keep 36 = .ok (.bipush 99, 2) := by decide +kernel
theorem dX12_keep_38 : decode cX12_keep 38 = .ok (.invokestatic 149, 3) := by decide +kernel
theorem dX12_keep_41 : decode cX12_keep 41 = .ok (.ifCond .eq 28, 3) := by decide +kernel
theorem dX12_keep_44 : decode cX12_keep 44 = .ok (.iload 5, 2) := by decide +kernel
theorem dX12_keep_46 : decode cX12_keep 46 = .ok (.iconst 0, 1) := by decide +kernel
theorem dX12_keep_47 : decode cX12_keep 47 = .ok (.bipush 10, 2) := by decide +kernel
theorem dX12_keep_49 : decode cX12_keep 49 = .ok (.iload_n 3, 1) := by decide +kernel
theorem dX12_keep_50 : decode cX12_keep 50 = .ok (.isub, 1) := by decide +kernel
theorem dX12_keep_51 : decode cX12_keep 51 = .ok (.invokestatic 149, 3) := by decide +kernel
theorem dX12_keep_54 : decode cX12_keep 54 = .ok (.ifCond .eq 15, 3) := by decide +kernel
theorem dX12_keep_57 : decode cX12_keep 57 = .ok (.iload 6, 2) := by decide +kernel
theorem dX12_keep_59 : decode cX12_keep 59 = .ok (.iload 4, 2) := by decide +kernel
theorem dX12_keep_61 : decode cX12_keep 61 = .ok (.bipush 99, 2) := by decide +kernel
theorem dX12_keep_63 : decode cX12_keep 63 = .ok (.invokestatic 149, 3) := by decide +kernel
theorem dX12_keep_66 : decode cX12_keep 66 = .ok (.ifCond .ne 5, 3) := by decide +kernel
theorem dX12_keep_69 : decode cX12_keep 69 = .ok (.iconst (-1), 1) := by decide +kernel
theorem dX12_keep_70 : decode cX12_keep 70 = .ok (.ireturn, 1) := by decide +kernel
theorem dX12_keep_71 : decode cX12_keep 71 = .ok (.lconst 1, 1) := by decide +kernel
theorem dX12_keep_72 : decode cX12_keep 72 = .ok (.lstore 7, 2) := by decide +kernel
theorem dX12_keep_74 : decode cX12_keep 74 = .ok (.iconst 0, 1) := by decide +kernel
theorem dX12_keep_75 : decode cX12_keep 75 = .ok (.istore 9, 2) := by decide +kernel
theorem dX12_keep_77 : decode cX12_keep 77 = .ok (.iconst 0, 1) := by decide +kernel
theorem dX12_keep_78 : decode cX12_keep 78 = .ok (.istore 10, 2) := by decide +kernel
theorem dX12_keep_80 : decode cX12_keep 80 = .ok (.iload 10, 2) := by decide +kernel
theorem dX12_keep_82 : decode cX12_keep 82 = .ok (.bipush 60, 2) := by decide +kernel
theorem dX12_keep_84 : decode cX12_keep 84 = .ok (.if_icmp .gt 17, 3) := by decide +kernel
theorem dX12_keep_87 : decode cX12_keep 87 = .ok (.aload_n 0, 1) := by decide +kernel
theorem dX12_keep_88 : decode cX12_keep 88 = .ok (.getfield 122, 3) := by decide +kernel
theorem dX12_keep_91 : decode cX12_keep 91 = .ok (.iload 10, 2) := by decide +kernel
theorem dX12_keep_93 : decode cX12_keep 93 = .ok (.lconst 0, 1) := by decide +kernel
theorem dX12_keep_94 : decode cX12_keep 94 = .ok (.lastore, 1) := by decide +kernel
theorem dX12_keep_95 : decode cX12_keep 95 = .ok (.iinc 10 1, 3) := by decide +kernel
theorem dX12_keep_98 : decode cX12_keep 98 = .ok (.goto (-18), 3) := by decide +kernel
theorem dX12_keep_101 : decode cX12_keep 101 = .ok (.iconst 1, 1) := by decide +kernel
theorem dX12_keep_102 : decode cX12_keep 102 = .ok (.istore 10, 2) := by decide +kernel
theorem dX12_keep_104 : decode cX12_keep 104 = .ok (.iload 10, 2) := by decide +kernel
theorem dX12_keep_106 : decode cX12_keep 106 = .ok (.iload_n 2, 1) := by decide +kernel
theorem dX12_keep_107 : decode cX12_keep 107 = .ok (.if_icmp .gt 210, 3) := by decide +kernel
theorem dX12_keep_110 : decode cX12_keep 110 = .ok (.iconst 0, 1) := by decide +kernel
theorem dX12_keep_111 : decode cX12_keep 111 = .ok (.istore 11, 2) := by decide +kernel
theorem dX12_keep_113 : decode cX12_keep 113 = .ok (.iload 11, 2) := by decide +kernel
theorem dX12_keep_115 : decode cX12_keep 115 = .ok (.bipush 60, 2) := by decide +kernel
theorem dX12_keep_117 : decode cX12_keep 117 = .ok (.if_icmp .gt 186, 3) := by decide +kernel
theorem dX12_keep_120 : decode cX12_keep 120 = .ok (.aload_n 0, 1) := by decide +kernel
theorem dX12_keep_121 : decode cX12_keep 121 = .ok (.getfield 122, 3) := by decide +kernel
theorem dX12_keep_124 : decode cX12_keep 124 = .ok (.bipush 61, 2) := by decide +kernel
theorem dX12_keep_126 : decode cX12_keep 126 = .ok (.iload 10, 2) := by decide +kernel
theorem dX12_keep_128 : decode cX12_keep 128 = .ok (.iconst 1, 1) := by decide +kernel
theorem dX12_keep_129 : decode cX12_keep 129 = .ok (.isub, 1) := by decide +kernel
theorem dX12_keep_130 : decode cX12_keep 130 = .ok (.imul, 1) := by decide +kernel
theorem dX12_keep_131 : decode cX12_keep 131 = .ok (.iload 11, 2) := by decide +kernel
theorem dX12_keep_133 : decode cX12_keep 133 = .ok (.iadd, 1) := by decide +kernel
theorem dX12_keep_134 : decode cX12_keep 134 = .ok (.laload, 1) := by decide +kernel
theorem dX12_keep_135 : decode cX12_keep 135 = .ok (.lstore 12, 2) := by decide +kernel
theorem dX12_keep_137 : decode cX12_keep 137 = .ok (.iload 11, 2) := by decide +kernel
theorem dX12_keep_139 : decode cX12_keep 139 = .ok (.ifCond .ne 7, 3) := by decide +kernel
theorem dX12_keep_142 : decode cX12_keep 142 = .ok (.lconst 0, 1) := by decide +kernel
theorem dX12_keep_143 : decode cX12_keep 143 = .ok (.goto 27, 3) := by decide +kernel
theorem dX12_keep_146 : decode cX12_keep 146 = .ok (.iload 4, 2) := by decide +kernel
theorem dX12_keep_148 : decode cX12_keep 148 = .ok (.i2l, 1) := by decide +kernel
theorem dX12_keep_149 : decode cX12_keep 149 = .ok (.lload 7, 2) := by decide +kernel
theorem dX12_keep_151 : decode cX12_keep 151 = .ok (.lmul, 1) := by decide +kernel
theorem dX12_keep_152 : decode cX12_keep 152 = .ok (.aload_n 0, 1) := by decide +kernel
theorem dX12_keep_153 : decode cX12_keep 153 = .ok (.getfield 122, 3) := by decide +kernel
theorem dX12_keep_156 : decode cX12_keep 156 = .ok (.bipush 61, 2) := by decide +kernel
theorem dX12_keep_158 : decode cX12_keep 158 = .ok (.iload 10, 2) := by decide +kernel
theorem dX12_keep_160 : decode cX12_keep 160 = .ok (.iconst 1, 1) := by decide +kernel
theorem dX12_keep_161 : decode cX12_keep 161 = .ok (.isub, 1) := by decide +kernel
theorem dX12_keep_162 : decode cX12_keep 162 = .ok (.imul, 1) := by decide +kernel
theorem dX12_keep_163 : decode cX12_keep 163 = .ok (.iload 11, 2) := by decide +kernel
theorem dX12_keep_165 : decode cX12_keep 165 = .ok (.iadd, 1) := by decide +kernel
theorem dX12_keep_166 : decode cX12_keep 166 = .ok (.iconst 1, 1) := by decide +kernel
theorem dX12_keep_167 : decode cX12_keep 167 = .ok (.isub, 1) := by decide +kernel
theorem dX12_keep_168 : decode cX12_keep 168 = .ok (.laload, 1) := by decide +kernel
theorem dX12_keep_169 : decode cX12_keep 169 = .ok (.ladd, 1) := by decide +kernel
theorem dX12_keep_170 : decode cX12_keep 170 = .ok (.lstore 14, 2) := by decide +kernel
theorem dX12_keep_172 : decode cX12_keep 172 = .ok (.iload 11, 2) := by decide +kernel
theorem dX12_keep_174 : decode cX12_keep 174 = .ok (.ifCond .ne 7, 3) := by decide +kernel
theorem dX12_keep_177 : decode cX12_keep 177 = .ok (.lconst 0, 1) := by decide +kernel
theorem dX12_keep_178 : decode cX12_keep 178 = .ok (.goto 27, 3) := by decide +kernel
theorem dX12_keep_181 : decode cX12_keep 181 = .ok (.iload 6, 2) := by decide +kernel
theorem dX12_keep_183 : decode cX12_keep 183 = .ok (.i2l, 1) := by decide +kernel
theorem dX12_keep_184 : decode cX12_keep 184 = .ok (.lload 7, 2) := by decide +kernel
theorem dX12_keep_186 : decode cX12_keep 186 = .ok (.lmul, 1) := by decide +kernel
theorem dX12_keep_187 : decode cX12_keep 187 = .ok (.aload_n 0, 1) := by decide +kernel
theorem dX12_keep_188 : decode cX12_keep 188 = .ok (.getfield 122, 3) := by decide +kernel
theorem dX12_keep_191 : decode cX12_keep 191 = .ok (.bipush 61, 2) := by decide +kernel
theorem dX12_keep_193 : decode cX12_keep 193 = .ok (.iload 10, 2) := by decide +kernel
theorem dX12_keep_195 : decode cX12_keep 195 = .ok (.iconst 1, 1) := by decide +kernel
theorem dX12_keep_196 : decode cX12_keep 196 = .ok (.isub, 1) := by decide +kernel
theorem dX12_keep_197 : decode cX12_keep 197 = .ok (.imul, 1) := by decide +kernel
theorem dX12_keep_198 : decode cX12_keep 198 = .ok (.iload 11, 2) := by decide +kernel
theorem dX12_keep_200 : decode cX12_keep 200 = .ok (.iadd, 1) := by decide +kernel
theorem dX12_keep_201 : decode cX12_keep 201 = .ok (.iconst 1, 1) := by decide +kernel
theorem dX12_keep_202 : decode cX12_keep 202 = .ok (.isub, 1) := by decide +kernel
theorem dX12_keep_203 : decode cX12_keep 203 = .ok (.laload, 1) := by decide +kernel
theorem dX12_keep_204 : decode cX12_keep 204 = .ok (.ladd, 1) := by decide +kernel
theorem dX12_keep_205 : decode cX12_keep 205 = .ok (.lstore 16, 2) := by decide +kernel
theorem dX12_keep_207 : decode cX12_keep 207 = .ok (.aload_n 0, 1) := by decide +kernel
theorem dX12_keep_208 : decode cX12_keep 208 = .ok (.getfield 122, 3) := by decide +kernel
theorem dX12_keep_211 : decode cX12_keep 211 = .ok (.bipush 61, 2) := by decide +kernel
theorem dX12_keep_213 : decode cX12_keep 213 = .ok (.iload 10, 2) := by decide +kernel
theorem dX12_keep_215 : decode cX12_keep 215 = .ok (.imul, 1) := by decide +kernel
theorem dX12_keep_216 : decode cX12_keep 216 = .ok (.iload 11, 2) := by decide +kernel
theorem dX12_keep_218 : decode cX12_keep 218 = .ok (.iadd, 1) := by decide +kernel
theorem dX12_keep_219 : decode cX12_keep 219 = .ok (.iload 11, 2) := by decide +kernel
theorem dX12_keep_221 : decode cX12_keep 221 = .ok (.ifCond .ne 7, 3) := by decide +kernel
theorem dX12_keep_224 : decode cX12_keep 224 = .ok (.lconst 0, 1) := by decide +kernel
theorem dX12_keep_225 : decode cX12_keep 225 = .ok (.goto 37, 3) := by decide +kernel
theorem dX12_keep_228 : decode cX12_keep 228 = .ok (.bipush 10, 2) := by decide +kernel
theorem dX12_keep_230 : decode cX12_keep 230 = .ok (.iload_n 3, 1) := by decide +kernel
theorem dX12_keep_231 : decode cX12_keep 231 = .ok (.isub, 1) := by decide +kernel
theorem dX12_keep_232 : decode cX12_keep 232 = .ok (.iload 5, 2) := by decide +kernel
theorem dX12_keep_234 : decode cX12_keep 234 = .ok (.isub, 1) := by decide +kernel
theorem dX12_keep_235 : decode cX12_keep 235 = .ok (.i2l, 1) := by decide +kernel
theorem dX12_keep_236 : decode cX12_keep 236 = .ok (.lload 12, 2) := by decide +kernel
theorem dX12_keep_238 : decode cX12_keep 238 = .ok (.lmul, 1) := by decide +kernel
theorem dX12_keep_239 : decode cX12_keep 239 = .ok (.iload_n 3, 1) := by decide +kernel
theorem dX12_keep_240 : decode cX12_keep 240 = .ok (.i2l, 1) := by decide +kernel
theorem dX12_keep_241 : decode cX12_keep 241 = .ok (.lload 12, 2) := by decide +kernel
theorem dX12_keep_243 : decode cX12_keep 243 = .ok (.lload 14, 2) := by decide +kernel
theorem dX12_keep_245 : decode cX12_keep 245 = .ok (.invokestatic 432, 3) := by decide +kernel
theorem dX12_keep_248 : decode cX12_keep 248 = .ok (.lmul, 1) := by decide +kernel
theorem dX12_keep_249 : decode cX12_keep 249 = .ok (.ladd, 1) := by decide +kernel
theorem dX12_keep_250 : decode cX12_keep 250 = .ok (.iload 5, 2) := by decide +kernel
theorem dX12_keep_252 : decode cX12_keep 252 = .ok (.i2l, 1) := by decide +kernel
theorem dX12_keep_253 : decode cX12_keep 253 = .ok (.lload 12, 2) := by decide +kernel
theorem dX12_keep_255 : decode cX12_keep 255 = .ok (.lload 16, 2) := by decide +kernel
theorem dX12_keep_257 : decode cX12_keep 257 = .ok (.invokestatic 432, 3) := by decide +kernel
theorem dX12_keep_260 : decode cX12_keep 260 = .ok (.lmul, 1) := by decide +kernel
theorem dX12_keep_261 : decode cX12_keep 261 = .ok (.ladd, 1) := by decide +kernel
theorem dX12_keep_262 : decode cX12_keep 262 = .ok (.lastore, 1) := by decide +kernel
theorem dX12_keep_263 : decode cX12_keep 263 = .ok (.iload 11, 2) := by decide +kernel
theorem dX12_keep_265 : decode cX12_keep 265 = .ok (.aload_n 0, 1) := by decide +kernel
theorem dX12_keep_266 : decode cX12_keep 266 = .ok (.getfield 23, 3) := by decide +kernel
theorem dX12_keep_269 : decode cX12_keep 269 = .ok (.iload_n 1, 1) := by decide +kernel
theorem dX12_keep_270 : decode cX12_keep 270 = .ok (.iaload, 1) := by decide +kernel
theorem dX12_keep_271 : decode cX12_keep 271 = .ok (.if_icmp .ne 26, 3) := by decide +kernel
theorem dX12_keep_274 : decode cX12_keep 274 = .ok (.iload 9, 2) := by decide +kernel
theorem dX12_keep_276 : decode cX12_keep 276 = .ok (.iload 11, 2) := by decide +kernel
theorem dX12_keep_278 : decode cX12_keep 278 = .ok (.ifCond .eq 11, 3) := by decide +kernel
theorem dX12_keep_281 : decode cX12_keep 281 = .ok (.lload 12, 2) := by decide +kernel
theorem dX12_keep_283 : decode cX12_keep 283 = .ok (.lload 14, 2) := by decide +kernel
theorem dX12_keep_285 : decode cX12_keep 285 = .ok (.lcmp, 1) := by decide +kernel
theorem dX12_keep_286 : decode cX12_keep 286 = .ok (.ifCond .le 7, 3) := by decide +kernel
theorem dX12_keep_289 : decode cX12_keep 289 = .ok (.iconst 1, 1) := by decide +kernel
theorem dX12_keep_290 : decode cX12_keep 290 = .ok (.goto 4, 3) := by decide +kernel
theorem dX12_keep_293 : decode cX12_keep 293 = .ok (.iconst 0, 1) := by decide +kernel
theorem dX12_keep_294 : decode cX12_keep 294 = .ok (.iadd, 1) := by decide +kernel
theorem dX12_keep_295 : decode cX12_keep 295 = .ok (.istore 9, 2) := by decide +kernel
theorem dX12_keep_297 : decode cX12_keep 297 = .ok (.iinc 11 1, 3) := by decide +kernel
theorem dX12_keep_300 : decode cX12_keep 300 = .ok (.goto (-187), 3) := by decide +kernel
theorem dX12_keep_303 : decode cX12_keep 303 = .ok (.lload 7, 2) := by decide +kernel
theorem dX12_keep_305 : decode cX12_keep 305 = .ok (.ldc2_w 434, 3) := by decide +kernel
theorem dX12_keep_308 : decode cX12_keep 308 = .ok (.lmul, 1) := by decide +kernel
theorem dX12_keep_309 : decode cX12_keep 309 = .ok (.lstore 7, 2) := by decide +kernel
theorem dX12_keep_311 : decode cX12_keep 311 = .ok (.iinc 10 1, 3) := by decide +kernel
theorem dX12_keep_314 : decode cX12_keep 314 = .ok (.goto (-210), 3) := by decide +kernel
theorem dX12_keep_317 : decode cX12_keep 317 = .ok (.aload_n 0, 1) := by decide +kernel
theorem dX12_keep_318 : decode cX12_keep 318 = .ok (.iconst 0, 1) := by decide +kernel
theorem dX12_keep_319 : decode cX12_keep 319 = .ok (.putfield 146, 3) := by decide +kernel
theorem dX12_keep_322 : decode cX12_keep 322 = .ok (.aload_n 0, 1) := by decide +kernel
theorem dX12_keep_323 : decode cX12_keep 323 = .ok (.aload_n 0, 1) := by decide +kernel
theorem dX12_keep_324 : decode cX12_keep 324 = .ok (.getfield 122, 3) := by decide +kernel
theorem dX12_keep_327 : decode cX12_keep 327 = .ok (.bipush 61, 2) := by decide +kernel
theorem dX12_keep_329 : decode cX12_keep 329 = .ok (.iload_n 2, 1) := by decide +kernel
theorem dX12_keep_330 : decode cX12_keep 330 = .ok (.imul, 1) := by decide +kernel
theorem dX12_keep_331 : decode cX12_keep 331 = .ok (.aload_n 0, 1) := by decide +kernel
theorem dX12_keep_332 : decode cX12_keep 332 = .ok (.getfield 23, 3) := by decide +kernel
theorem dX12_keep_335 : decode cX12_keep 335 = .ok (.iload_n 1, 1) := by decide +kernel
theorem dX12_keep_336 : decode cX12_keep 336 = .ok (.iaload, 1) := by decide +kernel
theorem dX12_keep_337 : decode cX12_keep 337 = .ok (.iadd, 1) := by decide +kernel
theorem dX12_keep_338 : decode cX12_keep 338 = .ok (.laload, 1) := by decide +kernel
theorem dX12_keep_339 : decode cX12_keep 339 = .ok (.invokevirtual 278, 3) := by decide +kernel
theorem dX12_keep_342 : decode cX12_keep 342 = .ok (.aload_n 0, 1) := by decide +kernel
theorem dX12_keep_343 : decode cX12_keep 343 = .ok (.iload 9, 2) := by decide +kernel
theorem dX12_keep_345 : decode cX12_keep 345 = .ok (.i2l, 1) := by decide +kernel
theorem dX12_keep_346 : decode cX12_keep 346 = .ok (.invokevirtual 278, 3) := by decide +kernel
theorem dX12_keep_349 : decode cX12_keep 349 = .ok (.iconst 0, 1) := by decide +kernel
theorem dX12_keep_350 : decode cX12_keep 350 = .ok (.ireturn, 1) := by decide +kernel
set_option maxRecDepth 100000 in
set_option maxHeartbeats 4000000 in
theorem B_X12_keep_0 {κ : Nat → List Value → List Value → m2M → Prop} {D : Nat} {Q : Option Value → m2M → Prop} (h : m2_RL κ cX12_keep RX12 18 (D + 1) (some .int) Q) (hD : 1 ≤ D) {x1 : Int32} {x2 : Int32} {x3 : Int32} {x4 : Int32} {x5 : Int32} {x6 : Int32} {μ : m2M} (k : ((fX12_isDoor x1 (m2_si μ kM 22 0)) = 1 → ((fX12_in x2 0 10) = 1 → ((fX12_in x3 0 10) = 1 → ((fX12_in x4 0 99) = 1 → ((fX12_in x5 0 ((10 : Int32) - x3)) = 1 → ((fX12_in x6 x4 99) = 1 → κ 80 [.ref kM, .int x1, .int x2, .int x3, .int x4, .int x5, .int x6, .long 1, .null, .int 0, .int 0, .null, .null, .null, .null, .null, .null, .null] [] (m2_si μ kM 22 0)) ∧ (¬ (fX12_in x6 x4 99) = 1 → Q (some (.int (-1))) (m2_si μ kM 22 0))) ∧ (¬ (fX12_in x5 0 ((10 : Int32) - x3)) = 1 → Q (some (.int (-1))) (m2_si μ kM 22 0))) ∧ (¬ (fX12_in x4 0 99) = 1 → Q (some (.int (-1))) (m2_si μ kM 22 0))) ∧ (¬ (fX12_in x3 0 10) = 1 → Q (some (.int (-1))) (m2_si μ kM 22 0))) ∧ (¬ (fX12_in x2 0 10) = 1 → Q (some (.int (-1))) (m2_si μ kM 22 0))) ∧ (¬ (fX12_isDoor x1 (m2_si μ kM 22 0)) = 1 → Q (some (.int (-1))) (m2_si μ kM 22 0))) : κ 0 [.ref kM, .int x1, .int x2, .int x3, .int x4, .int x5, .int x6, .null, .null, .null, .null, .null, .null, .null, .null, .null, .null, .null] [] μ := by
  have hB := h.b
  refine m2_aload_n hB dX12_keep_0 rfl ?_
  refine m2_iconst hB dX12_keep_1 (v := 0) (by decide) ?_
  refine m2_putI hB dX12_keep_2 fl_X12_143 sh_kM rfl ?_
  refine m2_aload_n hB dX12_keep_5 rfl ?_
  refine m2_iload_n hB dX12_keep_6 rfl ?_
  refine m2_invz hB (as := [.int x1]) dX12_keep_7 mv_X12_288 rfl sh_kM rfl (Nat.le_of_ble_eq_true rfl) rfl (P_X12_isDoor (by omega) (x1) _ ) (fun y1 μ2 hq3 => ?_)
  obtain ⟨⟨⟩, hq3⟩ := hq3
  subst μ2
  show κ 10 [.ref kM, .int x1, .int x2, .int x3, .int x4, .int x5, .int x6, .null, .null, .null, .null, .null, .null, .null, .null, .null, .null, .null] [.int (if (fX12_isDoor x1 (m2_si μ kM 22 0)) = 1 then 1 else 0 : Int32)] (m2_si μ kM 22 0)
  by_cases q4 : (fX12_isDoor x1 (m2_si μ kM 22 0)) = 1
  · rw [if_pos q4]
    replace k := k.1 q4
    refine m2_if_eq hB dX12_keep_10 (tgt := 69) (by decide) (fun q => absurd q (by decide)) (fun _ => ?_)
    refine m2_iload_n hB dX12_keep_13 rfl ?_
    refine m2_iconst hB dX12_keep_14 (v := 0) (by decide) ?_
    refine m2_bipush hB dX12_keep_15 (v := 10) (by decide) ?_
    refine m2_invSz hB (as := [.int x2, .int 0, .int 10]) dX12_keep_17 ms_X12_149 rfl (Nat.le_of_ble_eq_true rfl) rfl (P_X12_in (by omega) (x2) (0) (10) _ ) (fun y5 μ6 hq7 => ?_)
    obtain ⟨⟨⟩, hq7⟩ := hq7
    subst μ6
    show κ 20 [.ref kM, .int x1, .int x2, .int x3, .int x4, .int x5, .int x6, .null, .null, .null, .null, .null, .null, .null, .null, .null, .null, .null] [.int (if (fX12_in x2 0 10) = 1 then 1 else 0 : Int32)] (m2_si μ kM 22 0)
    by_cases q8 : (fX12_in x2 0 10) = 1
    · rw [if_pos q8]
      replace k := k.1 q8
      refine m2_if_eq hB dX12_keep_20 (tgt := 69) (by decide) (fun q => absurd q (by decide)) (fun _ => ?_)
      refine m2_iload_n hB dX12_keep_23 rfl ?_
      refine m2_iconst hB dX12_keep_24 (v := 0) (by decide) ?_
      refine m2_bipush hB dX12_keep_25 (v := 10) (by decide) ?_
      refine m2_invSz hB (as := [.int x3, .int 0, .int 10]) dX12_keep_27 ms_X12_149 rfl (Nat.le_of_ble_eq_true rfl) rfl (P_X12_in (by omega) (x3) (0) (10) _ ) (fun y9 μ10 hq11 => ?_)
      obtain ⟨⟨⟩, hq11⟩ := hq11
      subst μ10
      show κ 30 [.ref kM, .int x1, .int x2, .int x3, .int x4, .int x5, .int x6, .null, .null, .null, .null, .null, .null, .null, .null, .null, .null, .null] [.int (if (fX12_in x3 0 10) = 1 then 1 else 0 : Int32)] (m2_si μ kM 22 0)
      by_cases q12 : (fX12_in x3 0 10) = 1
      · rw [if_pos q12]
        replace k := k.1 q12
        refine m2_if_eq hB dX12_keep_30 (tgt := 69) (by decide) (fun q => absurd q (by decide)) (fun _ => ?_)
        refine m2_iload hB dX12_keep_33 rfl ?_
        refine m2_iconst hB dX12_keep_35 (v := 0) (by decide) ?_
        refine m2_bipush hB dX12_keep_36 (v := 99) (by decide) ?_
        refine m2_invSz hB (as := [.int x4, .int 0, .int 99]) dX12_keep_38 ms_X12_149 rfl (Nat.le_of_ble_eq_true rfl) rfl (P_X12_in (by omega) (x4) (0) (99) _ ) (fun y13 μ14 hq15 => ?_)
        obtain ⟨⟨⟩, hq15⟩ := hq15
        subst μ14
        show κ 41 [.ref kM, .int x1, .int x2, .int x3, .int x4, .int x5, .int x6, .null, .null, .null, .null, .null, .null, .null, .null, .null, .null, .null] [.int (if (fX12_in x4 0 99) = 1 then 1 else 0 : Int32)] (m2_si μ kM 22 0)
        by_cases q16 : (fX12_in x4 0 99) = 1
        · rw [if_pos q16]
          replace k := k.1 q16
          refine m2_if_eq hB dX12_keep_41 (tgt := 69) (by decide) (fun q => absurd q (by decide)) (fun _ => ?_)
          refine m2_iload hB dX12_keep_44 rfl ?_
          refine m2_iconst hB dX12_keep_46 (v := 0) (by decide) ?_
          refine m2_bipush hB dX12_keep_47 (v := 10) (by decide) ?_
          refine m2_iload_n hB dX12_keep_49 rfl ?_
          refine m2_isub hB dX12_keep_50 ?_
          refine m2_invSz hB (as := [.int x5, .int 0, .int ((10 : Int32) - x3)]) dX12_keep_51 ms_X12_149 rfl (Nat.le_of_ble_eq_true rfl) rfl (P_X12_in (by omega) (x5) (0) (((10 : Int32) - x3)) _ ) (fun y17 μ18 hq19 => ?_)
          obtain ⟨⟨⟩, hq19⟩ := hq19
          subst μ18
          show κ 54 [.ref kM, .int x1, .int x2, .int x3, .int x4, .int x5, .int x6, .null, .null, .null, .null, .null, .null, .null, .null, .null, .null, .null] [.int (if (fX12_in x5 0 ((10 : Int32) - x3)) = 1 then 1 else 0 : Int32)] (m2_si μ kM 22 0)
          by_cases q20 : (fX12_in x5 0 ((10 : Int32) - x3)) = 1
          · rw [if_pos q20]
            replace k := k.1 q20
            refine m2_if_eq hB dX12_keep_54 (tgt := 69) (by decide) (fun q => absurd q (by decide)) (fun _ => ?_)
            refine m2_iload hB dX12_keep_57 rfl ?_
            refine m2_iload hB dX12_keep_59 rfl ?_
            refine m2_bipush hB dX12_keep_61 (v := 99) (by decide) ?_
            refine m2_invSz hB (as := [.int x6, .int x4, .int 99]) dX12_keep_63 ms_X12_149 rfl (Nat.le_of_ble_eq_true rfl) rfl (P_X12_in (by omega) (x6) (x4) (99) _ ) (fun y21 μ22 hq23 => ?_)
            obtain ⟨⟨⟩, hq23⟩ := hq23
            subst μ22
            show κ 66 [.ref kM, .int x1, .int x2, .int x3, .int x4, .int x5, .int x6, .null, .null, .null, .null, .null, .null, .null, .null, .null, .null, .null] [.int (if (fX12_in x6 x4 99) = 1 then 1 else 0 : Int32)] (m2_si μ kM 22 0)
            by_cases q24 : (fX12_in x6 x4 99) = 1
            · rw [if_pos q24]
              replace k := k.1 q24
              refine m2_if_ne hB dX12_keep_66 (tgt := 71) (by decide) (fun _ => ?_) (fun q => absurd q (by decide))
              refine m2_lconst hB dX12_keep_71 (v := 1) (by decide) ?_
              refine m2_lstore hB (ls' := [.ref kM, .int x1, .int x2, .int x3, .int x4, .int x5, .int x6, .long 1, .null, .null, .null, .null, .null, .null, .null, .null, .null, .null]) dX12_keep_72 (by decide) rfl ?_
              refine m2_iconst hB dX12_keep_74 (v := 0) (by decide) ?_
              refine m2_istore hB (ls' := [.ref kM, .int x1, .int x2, .int x3, .int x4, .int x5, .int x6, .long 1, .null, .int 0, .null, .null, .null, .null, .null, .null, .null, .null]) dX12_keep_75 (by decide) rfl ?_
              refine m2_iconst hB dX12_keep_77 (v := 0) (by decide) ?_
              refine m2_istore hB (ls' := [.ref kM, .int x1, .int x2, .int x3, .int x4, .int x5, .int x6, .long 1, .null, .int 0, .int 0, .null, .null, .null, .null, .null, .null, .null]) dX12_keep_78 (by decide) rfl ?_
              exact k
            · rw [if_neg q24]
              replace k := k.2 q24
              refine m2_if_ne hB dX12_keep_66 (tgt := 71) (by decide) (fun q => absurd q (by decide)) (fun _ => ?_)
              refine m2_iconst hB dX12_keep_69 (v := (-1)) (by decide) ?_
              exact m2_iret h dX12_keep_70 k
          · rw [if_neg q20]
            replace k := k.2 q20
            refine m2_if_eq hB dX12_keep_54 (tgt := 69) (by decide) (fun _ => ?_) (fun q => absurd q (by decide))
            refine m2_iconst hB dX12_keep_69 (v := (-1)) (by decide) ?_
            exact m2_iret h dX12_keep_70 k
        · rw [if_neg q16]
          replace k := k.2 q16
          refine m2_if_eq hB dX12_keep_41 (tgt := 69) (by decide) (fun _ => ?_) (fun q => absurd q (by decide))
          refine m2_iconst hB dX12_keep_69 (v := (-1)) (by decide) ?_
          exact m2_iret h dX12_keep_70 k
      · rw [if_neg q12]
        replace k := k.2 q12
        refine m2_if_eq hB dX12_keep_30 (tgt := 69) (by decide) (fun _ => ?_) (fun q => absurd q (by decide))
        refine m2_iconst hB dX12_keep_69 (v := (-1)) (by decide) ?_
        exact m2_iret h dX12_keep_70 k
    · rw [if_neg q8]
      replace k := k.2 q8
      refine m2_if_eq hB dX12_keep_20 (tgt := 69) (by decide) (fun _ => ?_) (fun q => absurd q (by decide))
      refine m2_iconst hB dX12_keep_69 (v := (-1)) (by decide) ?_
      exact m2_iret h dX12_keep_70 k
  · rw [if_neg q4]
    replace k := k.2 q4
    refine m2_if_eq hB dX12_keep_10 (tgt := 69) (by decide) (fun _ => ?_) (fun q => absurd q (by decide))
    refine m2_iconst hB dX12_keep_69 (v := (-1)) (by decide) ?_
    exact m2_iret h dX12_keep_70 k
set_option maxRecDepth 100000 in
set_option maxHeartbeats 4000000 in
theorem B_X12_keep_80 {κ : Nat → List Value → List Value → m2M → Prop} {D : Nat} {Q : Option Value → m2M → Prop} (h : m2_RL κ cX12_keep RX12 18 D (some .int) Q) {v1 : Int32} {v2 : Int32} {v3 : Int32} {v4 : Int32} {v5 : Int32} {v6 : Int32} {v7 : Int64} {v9 : Int32} {v10 : Int32} {μ : m2M} (k : (60 < v10 → κ 104 [.ref kM, .int v1, .int v2, .int v3, .int v4, .int v5, .int v6, .long v7, .null, .int v9, .int 1, .null, .null, .null, .null, .null, .null, .null] [] μ) ∧ (¬ 60 < v10 → (vp_in v10 671) ∧ (κ 80 [.ref kM, .int v1, .int v2, .int v3, .int v4, .int v5, .int v6, .long v7, .null, .int v9, .int (v10 + 1), .null, .null, .null, .null, .null, .null, .null] [] (m2_sl μ kM_hope (vp_updL ((μ).2 kM_hope) (v10).toNatClampNeg 0))))) : κ 80 [.ref kM, .int v1, .int v2, .int v3, .int v4, .int v5, .int v6, .long v7, .null, .int v9, .int v10, .null, .null, .null, .null, .null, .null, .null] [] μ := by
  have hB := h.b
  refine m2_iload hB dX12_keep_80 rfl ?_
  refine m2_bipush hB dX12_keep_82 (v := 60) (by decide) ?_
  refine m2_icmp_gt hB dX12_keep_84 (tgt := 101) (by decide) (fun q2 : 60 < v10 => ?_) (fun q2 : ¬ 60 < v10 => ?_)
  · replace k := k.1 q2
    refine m2_iconst hB dX12_keep_101 (v := 1) (by decide) ?_
    refine m2_istore hB (ls' := [.ref kM, .int v1, .int v2, .int v3, .int v4, .int v5, .int v6, .long v7, .null, .int v9, .int 1, .null, .null, .null, .null, .null, .null, .null]) dX12_keep_102 (by decide) rfl ?_
    exact k
  · replace k := k.2 q2
    refine m2_aload_n hB dX12_keep_87 rfl ?_
    refine m2_getR hB dX12_keep_88 fl_X12_122 sh_kM (c1 := kM_hope) rfl ?_
    refine m2_iload hB dX12_keep_91 rfl ?_
    refine m2_lconst hB dX12_keep_93 (v := 0) (by decide) ?_
    obtain ⟨hi3, k⟩ := k
    refine m2_last hB dX12_keep_94 sh_kM_hope hi3 ?_
    refine m2_iinc hB (ls' := [.ref kM, .int v1, .int v2, .int v3, .int v4, .int v5, .int v6, .long v7, .null, .int v9, .int (v10 + 1), .null, .null, .null, .null, .null, .null, .null]) (v := (v10 + 1)) dX12_keep_95 rfl (by decide) rfl rfl ?_
    refine m2_goto hB dX12_keep_98 (tgt := 80) (by decide) ?_
    exact k
set_option maxRecDepth 100000 in
set_option maxHeartbeats 4000000 in
theorem B_X12_keep_104 {κ : Nat → List Value → List Value → m2M → Prop} {D : Nat} {Q : Option Value → m2M → Prop} (h : m2_RL κ cX12_keep RX12 18 (D + 1) (some .int) Q) {v1 : Int32} {v2 : Int32} {v3 : Int32} {v4 : Int32} {v5 : Int32} {v6 : Int32} {v7 : Int64} {v9 : Int32} {v10 : Int32} {μ : m2M} (k : (v2 < v10 → (vp_in v1 20) ∧ ((vp_in (((61 : Int32) * v2) + (μ.1 kM_left (v1).toNatClampNeg)) 671) ∧ (∃ Q6 : Option Value → m2M → Prop, m2_MT D yX12_tell cX12_tell 3 none [.ref kM, .long ((μ).2 kM_hope ((((61 : Int32) * v2) + (μ.1 kM_left (v1).toNatClampNeg))).toNatClampNeg)] (m2_si μ kM 21 0) Q6 ∧ ∀ (μ5 : m2M), Q6 none μ5 → (∃ Q11 : Option Value → m2M → Prop, m2_MT D yX12_tell cX12_tell 3 none [.ref kM, .long (v9).toInt64] μ5 Q11 ∧ ∀ (μ10 : m2M), Q11 none μ10 → (Q (some (.int 0)) μ10))))) ∧ (¬ v2 < v10 → κ 113 [.ref kM, .int v1, .int v2, .int v3, .int v4, .int v5, .int v6, .long v7, .null, .int v9, .int v10, .int 0, .null, .null, .null, .null, .null, .null] [] μ)) : κ 104 [.ref kM, .int v1, .int v2, .int v3, .int v4, .int v5, .int v6, .long v7, .null, .int v9, .int v10, .null, .null, .null, .null, .null, .null, .null] [] μ := by
  have hB := h.b
  refine m2_iload hB dX12_keep_104 rfl ?_
  refine m2_iload_n hB dX12_keep_106 rfl ?_
  refine m2_icmp_gt hB dX12_keep_107 (tgt := 317) (by decide) (fun q1 : v2 < v10 => ?_) (fun q1 : ¬ v2 < v10 => ?_)
  · replace k := k.1 q1
    refine m2_aload_n hB dX12_keep_317 rfl ?_
    refine m2_iconst hB dX12_keep_318 (v := 0) (by decide) ?_
    refine m2_putI hB dX12_keep_319 fl_X12_146 sh_kM rfl ?_
    refine m2_aload_n hB dX12_keep_322 rfl ?_
    refine m2_aload_n hB dX12_keep_323 rfl ?_
    refine m2_getR hB dX12_keep_324 fl_X12_122 sh_kM (c1 := kM_hope) rfl ?_
    refine m2_bipush hB dX12_keep_327 (v := 61) (by decide) ?_
    refine m2_iload_n hB dX12_keep_329 rfl ?_
    refine m2_imul hB dX12_keep_330 ?_
    refine m2_aload_n hB dX12_keep_331 rfl ?_
    refine m2_getR hB dX12_keep_332 fl_X12_23 sh_kM (c1 := kM_left) rfl ?_
    refine m2_iload_n hB dX12_keep_335 rfl ?_
    obtain ⟨hi2, k⟩ := k
    refine m2_iald hB dX12_keep_336 sh_kM_left hi2 ?_
    refine m2_iadd hB dX12_keep_337 ?_
    obtain ⟨hi3, k⟩ := k
    refine m2_lald hB dX12_keep_338 sh_kM_hope hi3 ?_
    obtain ⟨Q6, hM7, k⟩ := k
    refine m2_invv hB (as := [.long ((μ).2 kM_hope ((((61 : Int32) * v2) + (μ.1 kM_left (v1).toNatClampNeg))).toNatClampNeg)]) dX12_keep_339 mv_X12_278 rfl sh_kM rfl (Nat.le_of_ble_eq_true rfl) rfl hM7 (fun μ5 hq8 => ?_)
    replace k := k μ5 hq8
    refine m2_aload_n hB dX12_keep_342 rfl ?_
    refine m2_iload hB dX12_keep_343 rfl ?_
    refine m2_i2l hB dX12_keep_345 ?_
    obtain ⟨Q11, hM12, k⟩ := k
    refine m2_invv hB (as := [.long (v9).toInt64]) dX12_keep_346 mv_X12_278 rfl sh_kM rfl (Nat.le_of_ble_eq_true rfl) rfl hM12 (fun μ10 hq13 => ?_)
    replace k := k μ10 hq13
    refine m2_iconst hB dX12_keep_349 (v := 0) (by decide) ?_
    exact m2_iret h dX12_keep_350 k
  · replace k := k.2 q1
    refine m2_iconst hB dX12_keep_110 (v := 0) (by decide) ?_
    refine m2_istore hB (ls' := [.ref kM, .int v1, .int v2, .int v3, .int v4, .int v5, .int v6, .long v7, .null, .int v9, .int v10, .int 0, .null, .null, .null, .null, .null, .null]) dX12_keep_111 (by decide) rfl ?_
    exact k
set_option maxRecDepth 100000 in
set_option maxHeartbeats 4000000 in
theorem B_X12_keep_113 {κ : Nat → List Value → List Value → m2M → Prop} {D : Nat} {Q : Option Value → m2M → Prop} (h : m2_RL κ cX12_keep RX12 18 (D + 1) (some .int) Q) (hD : 0 ≤ D) {v1 : Int32} {v2 : Int32} {v3 : Int32} {v4 : Int32} {v5 : Int32} {v6 : Int32} {v7 : Int64} {v9 : Int32} {v10 : Int32} {v11 : Int32} {μ : m2M} (k : (60 < v11 → κ 104 [.ref kM, .int v1, .int v2, .int v3, .int v4, .int v5, .int v6, .long (v7 * 10), .null, .int v9, .int (v10 + 1), .null, .null, .null, .null, .null, .null, .null] [] μ) ∧ (¬ 60 < v11 → (vp_in (((61 : Int32) * (v10 - 1)) + v11) 671) ∧ ((¬ v11 = 0 → (vp_in ((((61 : Int32) * (v10 - 1)) + v11) - 1) 671) ∧ ((¬ v11 = 0 → (¬ v11 = 0 → (vp_in (((61 : Int32) * v10) + v11) 671) ∧ ((vp_in v1 20) ∧ (κ 113 [.ref kM, .int v1, .int v2, .int v3, .int v4, .int v5, .int v6, .long v7, .null, .int (if v11 = (μ.1 kM_left (v1).toNatClampNeg) then (v9 + (if v11 = 0 then 1 else (if (lg_cmp ((μ).2 kM_hope ((((61 : Int32) * (v10 - 1)) + v11)).toNatClampNeg) (((v4).toInt64 * v7) + ((μ).2 kM_hope (((((61 : Int32) * (v10 - 1)) + v11) - 1)).toNatClampNeg))) ≤ 0 then 0 else 1 : Int32) : Int32)) else v9 : Int32), .int v10, .int (v11 + 1), .null, .null, .null, .null, .null, .null] [] (m2_sl μ kM_hope (vp_updL ((μ).2 kM_hope) ((((61 : Int32) * v10) + v11)).toNatClampNeg (((((((10 : Int32) - v3) - v5)).toInt64 * ((μ).2 kM_hope ((((61 : Int32) * (v10 - 1)) + v11)).toNatClampNeg)) + ((v3).toInt64 * (m2_maxl ((μ).2 kM_hope ((((61 : Int32) * (v10 - 1)) + v11)).toNatClampNeg) (((v4).toInt64 * v7) + ((μ).2 kM_hope (((((61 : Int32) * (v10 - 1)) + v11) - 1)).toNatClampNeg))))) + ((v5).toInt64 * (m2_maxl ((μ).2 kM_hope ((((61 : Int32) * (v10 - 1)) + v11)).toNatClampNeg) (((v6).toInt64 * v7) + ((μ).2 kM_hope (((((61 : Int32) * (v10 - 1)) + v11) - 1)).toNatClampNeg)))))))))) ∧ (v11 = 0 → (vp_in (((61 : Int32) * v10) + v11) 671) ∧ ((vp_in v1 20) ∧ (κ 113 [.ref kM, .int v1, .int v2, .int v3, .int v4, .int v5, .int v6, .long v7, .null, .int (if v11 = (μ.1 kM_left (v1).toNatClampNeg) then (v9 + (if v11 = 0 then 1 else (if (lg_cmp ((μ).2 kM_hope ((((61 : Int32) * (v10 - 1)) + v11)).toNatClampNeg) (((v4).toInt64 * v7) + ((μ).2 kM_hope (((((61 : Int32) * (v10 - 1)) + v11) - 1)).toNatClampNeg))) ≤ 0 then 0 else 1 : Int32) : Int32)) else v9 : Int32), .int v10, .int (v11 + 1), .null, .null, .null, .null, .null, .null] [] (m2_sl μ kM_hope (vp_updL ((μ).2 kM_hope) ((((61 : Int32) * v10) + v11)).toNatClampNeg 0)))))) ∧ (v11 = 0 → (¬ v11 = 0 → (vp_in (((61 : Int32) * v10) + v11) 671) ∧ ((vp_in v1 20) ∧ (κ 113 [.ref kM, .int v1, .int v2, .int v3, .int v4, .int v5, .int v6, .long v7, .null, .int (if v11 = (μ.1 kM_left (v1).toNatClampNeg) then (v9 + (if v11 = 0 then 1 else (if (lg_cmp ((μ).2 kM_hope ((((61 : Int32) * (v10 - 1)) + v11)).toNatClampNeg) (((v4).toInt64 * v7) + ((μ).2 kM_hope (((((61 : Int32) * (v10 - 1)) + v11) - 1)).toNatClampNeg))) ≤ 0 then 0 else 1 : Int32) : Int32)) else v9 : Int32), .int v10, .int (v11 + 1), .null, .null, .null, .null, .null, .null] [] (m2_sl μ kM_hope (vp_updL ((μ).2 kM_hope) ((((61 : Int32) * v10) + v11)).toNatClampNeg (((((((10 : Int32) - v3) - v5)).toInt64 * ((μ).2 kM_hope ((((61 : Int32) * (v10 - 1)) + v11)).toNatClampNeg)) + ((v3).toInt64 * (m2_maxl ((μ).2 kM_hope ((((61 : Int32) * (v10 - 1)) + v11)).toNatClampNeg) (((v4).toInt64 * v7) + ((μ).2 kM_hope (((((61 : Int32) * (v10 - 1)) + v11) - 1)).toNatClampNeg))))) + ((v5).toInt64 * (m2_maxl ((μ).2 kM_hope ((((61 : Int32) * (v10 - 1)) + v11)).toNatClampNeg) 0)))))))) ∧ (v11 = 0 → (vp_in (((61 : Int32) * v10) + v11) 671) ∧ ((vp_in v1 20) ∧ (κ 113 [.ref kM, .int v1, .int v2, .int v3, .int v4, .int v5, .int v6, .long v7, .null, .int (if v11 = (μ.1 kM_left (v1).toNatClampNeg) then (v9 + (if v11 = 0 then 1 else (if (lg_cmp ((μ).2 kM_hope ((((61 : Int32) * (v10 - 1)) + v11)).toNatClampNeg) (((v4).toInt64 * v7) + ((μ).2 kM_hope (((((61 : Int32) * (v10 - 1)) + v11) - 1)).toNatClampNeg))) ≤ 0 then 0 else 1 : Int32) : Int32)) else v9 : Int32), .int v10, .int (v11 + 1), .null, .null, .null, .null, .null, .null] [] (m2_sl μ kM_hope (vp_updL ((μ).2 kM_hope) ((((61 : Int32) * v10) + v11)).toNatClampNeg 0)))))))) ∧ (v11 = 0 → (¬ v11 = 0 → (vp_in ((((61 : Int32) * (v10 - 1)) + v11) - 1) 671) ∧ ((¬ v11 = 0 → (vp_in (((61 : Int32) * v10) + v11) 671) ∧ ((vp_in v1 20) ∧ (κ 113 [.ref kM, .int v1, .int v2, .int v3, .int v4, .int v5, .int v6, .long v7, .null, .int (if v11 = (μ.1 kM_left (v1).toNatClampNeg) then (v9 + (if v11 = 0 then 1 else (if (lg_cmp ((μ).2 kM_hope ((((61 : Int32) * (v10 - 1)) + v11)).toNatClampNeg) 0) ≤ 0 then 0 else 1 : Int32) : Int32)) else v9 : Int32), .int v10, .int (v11 + 1), .null, .null, .null, .null, .null, .null] [] (m2_sl μ kM_hope (vp_updL ((μ).2 kM_hope) ((((61 : Int32) * v10) + v11)).toNatClampNeg (((((((10 : Int32) - v3) - v5)).toInt64 * ((μ).2 kM_hope ((((61 : Int32) * (v10 - 1)) + v11)).toNatClampNeg)) + ((v3).toInt64 * (m2_maxl ((μ).2 kM_hope ((((61 : Int32) * (v10 - 1)) + v11)).toNatClampNeg) 0))) + ((v5).toInt64 * (m2_maxl ((μ).2 kM_hope ((((61 : Int32) * (v10 - 1)) + v11)).toNatClampNeg) (((v6).toInt64 * v7) + ((μ).2 kM_hope (((((61 : Int32) * (v10 - 1)) + v11) - 1)).toNatClampNeg)))))))))) ∧ (v11 = 0 → (vp_in (((61 : Int32) * v10) + v11) 671) ∧ ((vp_in v1 20) ∧ (κ 113 [.ref kM, .int v1, .int v2, .int v3, .int v4, .int v5, .int v6, .long v7, .null, .int (if v11 = (μ.1 kM_left (v1).toNatClampNeg) then (v9 + (if v11 = 0 then 1 else (if (lg_cmp ((μ).2 kM_hope ((((61 : Int32) * (v10 - 1)) + v11)).toNatClampNeg) 0) ≤ 0 then 0 else 1 : Int32) : Int32)) else v9 : Int32), .int v10, .int (v11 + 1), .null, .null, .null, .null, .null, .null] [] (m2_sl μ kM_hope (vp_updL ((μ).2 kM_hope) ((((61 : Int32) * v10) + v11)).toNatClampNeg 0))))))) ∧ (v11 = 0 → (¬ v11 = 0 → (vp_in (((61 : Int32) * v10) + v11) 671) ∧ ((vp_in v1 20) ∧ (κ 113 [.ref kM, .int v1, .int v2, .int v3, .int v4, .int v5, .int v6, .long v7, .null, .int (if v11 = (μ.1 kM_left (v1).toNatClampNeg) then (v9 + (if v11 = 0 then 1 else (if (lg_cmp ((μ).2 kM_hope ((((61 : Int32) * (v10 - 1)) + v11)).toNatClampNeg) 0) ≤ 0 then 0 else 1 : Int32) : Int32)) else v9 : Int32), .int v10, .int (v11 + 1), .null, .null, .null, .null, .null, .null] [] (m2_sl μ kM_hope (vp_updL ((μ).2 kM_hope) ((((61 : Int32) * v10) + v11)).toNatClampNeg (((((((10 : Int32) - v3) - v5)).toInt64 * ((μ).2 kM_hope ((((61 : Int32) * (v10 - 1)) + v11)).toNatClampNeg)) + ((v3).toInt64 * (m2_maxl ((μ).2 kM_hope ((((61 : Int32) * (v10 - 1)) + v11)).toNatClampNeg) 0))) + ((v5).toInt64 * (m2_maxl ((μ).2 kM_hope ((((61 : Int32) * (v10 - 1)) + v11)).toNatClampNeg) 0)))))))) ∧ (v11 = 0 → (vp_in (((61 : Int32) * v10) + v11) 671) ∧ ((vp_in v1 20) ∧ (κ 113 [.ref kM, .int v1, .int v2, .int v3, .int v4, .int v5, .int v6, .long v7, .null, .int (if v11 = (μ.1 kM_left (v1).toNatClampNeg) then (v9 + (if v11 = 0 then 1 else (if (lg_cmp ((μ).2 kM_hope ((((61 : Int32) * (v10 - 1)) + v11)).toNatClampNeg) 0) ≤ 0 then 0 else 1 : Int32) : Int32)) else v9 : Int32), .int v10, .int (v11 + 1), .null, .null, .null, .null, .null, .null] [] (m2_sl μ kM_hope (vp_updL ((μ).2 kM_hope) ((((61 : Int32) * v10) + v11)).toNatClampNeg 0)))))))))) : κ 113 [.ref kM, .int v1, .int v2, .int v3, .int v4, .int v5, .int v6, .long v7, .null, .int v9, .int v10, .int v11, .null, .null, .null, .null, .null, .null] [] μ := by
  have hB := h.b
  refine m2_iload hB dX12_keep_113 rfl ?_
  refine m2_bipush hB dX12_keep_115 (v := 60) (by decide) ?_
  refine m2_icmp_gt hB dX12_keep_117 (tgt := 303) (by decide) (fun q2 : 60 < v11 => ?_) (fun q2 : ¬ 60 < v11 => ?_)
  · replace k := k.1 q2
    refine m2_lload hB dX12_keep_303 rfl ?_
    refine m2_ldc2 hB kl_X12_434 dX12_keep_305 ?_
    refine m2_lmul hB dX12_keep_308 ?_
    refine m2_lstore hB (ls' := [.ref kM, .int v1, .int v2, .int v3, .int v4, .int v5, .int v6, .long (v7 * 10), .null, .int v9, .int v10, .int v11, .null, .null, .null, .null, .null, .null]) dX12_keep_309 (by decide) rfl ?_
    refine m2_iinc hB (ls' := [.ref kM, .int v1, .int v2, .int v3, .int v4, .int v5, .int v6, .long (v7 * 10), .null, .int v9, .int (v10 + 1), .int v11, .null, .null, .null, .null, .null, .null]) (v := (v10 + 1)) dX12_keep_311 rfl (by decide) rfl rfl ?_
    refine m2_goto hB dX12_keep_314 (tgt := 104) (by decide) ?_
    exact m2_weak (ls' := [.ref kM, .int v1, .int v2, .int v3, .int v4, .int v5, .int v6, .long (v7 * 10), .null, .int v9, .int (v10 + 1), .null, .null, .null, .null, .null, .null, .null]) hB ⟨Or.inr rfl, Or.inr rfl, Or.inr rfl, Or.inr rfl, Or.inr rfl, Or.inr rfl, Or.inr rfl, Or.inr rfl, Or.inl rfl, Or.inr rfl, Or.inr rfl, Or.inl rfl, Or.inl rfl, Or.inl rfl, Or.inl rfl, Or.inl rfl, Or.inl rfl, Or.inl rfl, trivial⟩ k
  · replace k := k.2 q2
    refine m2_aload_n hB dX12_keep_120 rfl ?_
    refine m2_getR hB dX12_keep_121 fl_X12_122 sh_kM (c1 := kM_hope) rfl ?_
    refine m2_bipush hB dX12_keep_124 (v := 61) (by decide) ?_
    refine m2_iload hB dX12_keep_126 rfl ?_
    refine m2_iconst hB dX12_keep_128 (v := 1) (by decide) ?_
    refine m2_isub hB dX12_keep_129 ?_
    refine m2_imul hB dX12_keep_130 ?_
    refine m2_iload hB dX12_keep_131 rfl ?_
    refine m2_iadd hB dX12_keep_133 ?_
    obtain ⟨hi3, k⟩ := k
    refine m2_lald hB dX12_keep_134 sh_kM_hope hi3 ?_
    refine m2_lstore hB (ls' := [.ref kM, .int v1, .int v2, .int v3, .int v4, .int v5, .int v6, .long v7, .null, .int v9, .int v10, .int v11, .long ((μ).2 kM_hope ((((61 : Int32) * (v10 - 1)) + v11)).toNatClampNeg), .null, .null, .null, .null, .null]) dX12_keep_135 (by decide) rfl ?_
    refine m2_iload hB dX12_keep_137 rfl ?_
    refine m2_if_ne hB dX12_keep_139 (tgt := 146) (by decide) (fun q5 : ¬ v11 = 0 => ?_) (fun q5 : v11 = 0 => ?_)
    · replace k := k.1 q5
      refine m2_iload hB dX12_keep_146 rfl ?_
      refine m2_i2l hB dX12_keep_148 ?_
      refine m2_lload hB dX12_keep_149 rfl ?_
      refine m2_lmul hB dX12_keep_151 ?_
      refine m2_aload_n hB dX12_keep_152 rfl ?_
      refine m2_getR hB dX12_keep_153 fl_X12_122 sh_kM (c1 := kM_hope) rfl ?_
      refine m2_bipush hB dX12_keep_156 (v := 61) (by decide) ?_
      refine m2_iload hB dX12_keep_158 rfl ?_
      refine m2_iconst hB dX12_keep_160 (v := 1) (by decide) ?_
      refine m2_isub hB dX12_keep_161 ?_
      refine m2_imul hB dX12_keep_162 ?_
      refine m2_iload hB dX12_keep_163 rfl ?_
      refine m2_iadd hB dX12_keep_165 ?_
      refine m2_iconst hB dX12_keep_166 (v := 1) (by decide) ?_
      refine m2_isub hB dX12_keep_167 ?_
      obtain ⟨hi6, k⟩ := k
      refine m2_lald hB dX12_keep_168 sh_kM_hope hi6 ?_
      refine m2_ladd hB dX12_keep_169 ?_
      refine m2_lstore hB (ls' := [.ref kM, .int v1, .int v2, .int v3, .int v4, .int v5, .int v6, .long v7, .null, .int v9, .int v10, .int v11, .long ((μ).2 kM_hope ((((61 : Int32) * (v10 - 1)) + v11)).toNatClampNeg), .null, .long (((v4).toInt64 * v7) + ((μ).2 kM_hope (((((61 : Int32) * (v10 - 1)) + v11) - 1)).toNatClampNeg)), .null, .null, .null]) dX12_keep_170 (by decide) rfl ?_
      refine m2_iload hB dX12_keep_172 rfl ?_
      refine m2_if_ne hB dX12_keep_174 (tgt := 181) (by decide) (fun q8 : ¬ v11 = 0 => ?_) (fun q8 : v11 = 0 => ?_)
      · replace k := k.1 q8
        refine m2_iload hB dX12_keep_181 rfl ?_
        refine m2_i2l hB dX12_keep_183 ?_
        refine m2_lload hB dX12_keep_184 rfl ?_
        refine m2_lmul hB dX12_keep_186 ?_
        refine m2_aload_n hB dX12_keep_187 rfl ?_
        refine m2_getR hB dX12_keep_188 fl_X12_122 sh_kM (c1 := kM_hope) rfl ?_
        refine m2_bipush hB dX12_keep_191 (v := 61) (by decide) ?_
        refine m2_iload hB dX12_keep_193 rfl ?_
        refine m2_iconst hB dX12_keep_195 (v := 1) (by decide) ?_
        refine m2_isub hB dX12_keep_196 ?_
        refine m2_imul hB dX12_keep_197 ?_
        refine m2_iload hB dX12_keep_198 rfl ?_
        refine m2_iadd hB dX12_keep_200 ?_
        refine m2_iconst hB dX12_keep_201 (v := 1) (by decide) ?_
        refine m2_isub hB dX12_keep_202 ?_
        have hi9 := hi6
        refine m2_lald hB dX12_keep_203 sh_kM_hope hi9 ?_
        refine m2_ladd hB dX12_keep_204 ?_
        refine m2_lstore hB (ls' := [.ref kM, .int v1, .int v2, .int v3, .int v4, .int v5, .int v6, .long v7, .null, .int v9, .int v10, .int v11, .long ((μ).2 kM_hope ((((61 : Int32) * (v10 - 1)) + v11)).toNatClampNeg), .null, .long (((v4).toInt64 * v7) + ((μ).2 kM_hope (((((61 : Int32) * (v10 - 1)) + v11) - 1)).toNatClampNeg)), .null, .long (((v6).toInt64 * v7) + ((μ).2 kM_hope (((((61 : Int32) * (v10 - 1)) + v11) - 1)).toNatClampNeg)), .null]) dX12_keep_205 (by decide) rfl ?_
        refine m2_aload_n hB dX12_keep_207 rfl ?_
        refine m2_getR hB dX12_keep_208 fl_X12_122 sh_kM (c1 := kM_hope) rfl ?_
        refine m2_bipush hB dX12_keep_211 (v := 61) (by decide) ?_
        refine m2_iload hB dX12_keep_213 rfl ?_
        refine m2_imul hB dX12_keep_215 ?_
        refine m2_iload hB dX12_keep_216 rfl ?_
        refine m2_iadd hB dX12_keep_218 ?_
        refine m2_iload hB dX12_keep_219 rfl ?_
        refine m2_if_ne hB dX12_keep_221 (tgt := 228) (by decide) (fun q10 : ¬ v11 = 0 => ?_) (fun q10 : v11 = 0 => ?_)
        · replace k := k.1 q10
          refine m2_bipush hB dX12_keep_228 (v := 10) (by decide) ?_
          refine m2_iload_n hB dX12_keep_230 rfl ?_
          refine m2_isub hB dX12_keep_231 ?_
          refine m2_iload hB dX12_keep_232 rfl ?_
          refine m2_isub hB dX12_keep_234 ?_
          refine m2_i2l hB dX12_keep_235 ?_
          refine m2_lload hB dX12_keep_236 rfl ?_
          refine m2_lmul hB dX12_keep_238 ?_
          refine m2_iload_n hB dX12_keep_239 rfl ?_
          refine m2_i2l hB dX12_keep_240 ?_
          refine m2_lload hB dX12_keep_241 rfl ?_
          refine m2_lload hB dX12_keep_243 rfl ?_
          refine m2_mmax_long hB dX12_keep_245 ms_X12_432 (Nat.le_of_ble_eq_true rfl) ?_
          refine m2_lmul hB dX12_keep_248 ?_
          refine m2_ladd hB dX12_keep_249 ?_
          refine m2_iload hB dX12_keep_250 rfl ?_
          refine m2_i2l hB dX12_keep_252 ?_
          refine m2_lload hB dX12_keep_253 rfl ?_
          refine m2_lload hB dX12_keep_255 rfl ?_
          refine m2_mmax_long hB dX12_keep_257 ms_X12_432 (Nat.le_of_ble_eq_true rfl) ?_
          refine m2_lmul hB dX12_keep_260 ?_
          refine m2_ladd hB dX12_keep_261 ?_
          obtain ⟨hi11, k⟩ := k
          refine m2_last hB dX12_keep_262 sh_kM_hope hi11 ?_
          refine m2_iload hB dX12_keep_263 rfl ?_
          refine m2_aload_n hB dX12_keep_265 rfl ?_
          refine m2_getR hB dX12_keep_266 fl_X12_23 sh_kM (c1 := kM_left) rfl ?_
          refine m2_iload_n hB dX12_keep_269 rfl ?_
          obtain ⟨hi12, k⟩ := k
          refine m2_iald hB dX12_keep_270 sh_kM_left hi12 ?_
          have G16 : κ 297 [.ref kM, .int v1, .int v2, .int v3, .int v4, .int v5, .int v6, .long v7, .null, .int (if v11 = (μ.1 kM_left (v1).toNatClampNeg) then (v9 + (if v11 = 0 then 1 else (if (lg_cmp ((μ).2 kM_hope ((((61 : Int32) * (v10 - 1)) + v11)).toNatClampNeg) (((v4).toInt64 * v7) + ((μ).2 kM_hope (((((61 : Int32) * (v10 - 1)) + v11) - 1)).toNatClampNeg))) ≤ 0 then 0 else 1 : Int32) : Int32)) else v9 : Int32), .int v10, .int v11, .long ((μ).2 kM_hope ((((61 : Int32) * (v10 - 1)) + v11)).toNatClampNeg), .null, .long (((v4).toInt64 * v7) + ((μ).2 kM_hope (((((61 : Int32) * (v10 - 1)) + v11) - 1)).toNatClampNeg)), .null, .long (((v6).toInt64 * v7) + ((μ).2 kM_hope (((((61 : Int32) * (v10 - 1)) + v11) - 1)).toNatClampNeg)), .null] [] (m2_sl μ kM_hope (vp_updL ((μ).2 kM_hope) ((((61 : Int32) * v10) + v11)).toNatClampNeg (((((((10 : Int32) - v3) - v5)).toInt64 * ((μ).2 kM_hope ((((61 : Int32) * (v10 - 1)) + v11)).toNatClampNeg)) + ((v3).toInt64 * (m2_maxl ((μ).2 kM_hope ((((61 : Int32) * (v10 - 1)) + v11)).toNatClampNeg) (((v4).toInt64 * v7) + ((μ).2 kM_hope (((((61 : Int32) * (v10 - 1)) + v11) - 1)).toNatClampNeg))))) + ((v5).toInt64 * (m2_maxl ((μ).2 kM_hope ((((61 : Int32) * (v10 - 1)) + v11)).toNatClampNeg) (((v6).toInt64 * v7) + ((μ).2 kM_hope (((((61 : Int32) * (v10 - 1)) + v11) - 1)).toNatClampNeg))))))) := by
            refine m2_iinc hB (ls' := [.ref kM, .int v1, .int v2, .int v3, .int v4, .int v5, .int v6, .long v7, .null, .int (if v11 = (μ.1 kM_left (v1).toNatClampNeg) then (v9 + (if v11 = 0 then 1 else (if (lg_cmp ((μ).2 kM_hope ((((61 : Int32) * (v10 - 1)) + v11)).toNatClampNeg) (((v4).toInt64 * v7) + ((μ).2 kM_hope (((((61 : Int32) * (v10 - 1)) + v11) - 1)).toNatClampNeg))) ≤ 0 then 0 else 1 : Int32) : Int32)) else v9 : Int32), .int v10, .int (v11 + 1), .long ((μ).2 kM_hope ((((61 : Int32) * (v10 - 1)) + v11)).toNatClampNeg), .null, .long (((v4).toInt64 * v7) + ((μ).2 kM_hope (((((61 : Int32) * (v10 - 1)) + v11) - 1)).toNatClampNeg)), .null, .long (((v6).toInt64 * v7) + ((μ).2 kM_hope (((((61 : Int32) * (v10 - 1)) + v11) - 1)).toNatClampNeg)), .null]) (v := (v11 + 1)) dX12_keep_297 rfl (by decide) rfl rfl ?_
            refine m2_goto hB dX12_keep_300 (tgt := 113) (by decide) ?_
            exact m2_weak (ls' := [.ref kM, .int v1, .int v2, .int v3, .int v4, .int v5, .int v6, .long v7, .null, .int (if v11 = (μ.1 kM_left (v1).toNatClampNeg) then (v9 + (if v11 = 0 then 1 else (if (lg_cmp ((μ).2 kM_hope ((((61 : Int32) * (v10 - 1)) + v11)).toNatClampNeg) (((v4).toInt64 * v7) + ((μ).2 kM_hope (((((61 : Int32) * (v10 - 1)) + v11) - 1)).toNatClampNeg))) ≤ 0 then 0 else 1 : Int32) : Int32)) else v9 : Int32), .int v10, .int (v11 + 1), .null, .null, .null, .null, .null, .null]) hB ⟨Or.inr rfl, Or.inr rfl, Or.inr rfl, Or.inr rfl, Or.inr rfl, Or.inr rfl, Or.inr rfl, Or.inr rfl, Or.inl rfl, Or.inr rfl, Or.inr rfl, Or.inr rfl, Or.inl rfl, Or.inl rfl, Or.inl rfl, Or.inl rfl, Or.inl rfl, Or.inl rfl, trivial⟩ k
          refine m2_icmp_ne hB dX12_keep_271 (tgt := 297) (by decide) (fun q15 : ¬ v11 = (μ.1 kM_left (v1).toNatClampNeg) => ?_) (fun q15 : v11 = (μ.1 kM_left (v1).toNatClampNeg) => ?_)
          · rw [if_neg q15] at G16
            exact G16
          · rw [if_pos q15] at G16
            refine m2_iload hB dX12_keep_274 rfl ?_
            refine m2_iload hB dX12_keep_276 rfl ?_
            have G17 : κ 294 [.ref kM, .int v1, .int v2, .int v3, .int v4, .int v5, .int v6, .long v7, .null, .int v9, .int v10, .int v11, .long ((μ).2 kM_hope ((((61 : Int32) * (v10 - 1)) + v11)).toNatClampNeg), .null, .long (((v4).toInt64 * v7) + ((μ).2 kM_hope (((((61 : Int32) * (v10 - 1)) + v11) - 1)).toNatClampNeg)), .null, .long (((v6).toInt64 * v7) + ((μ).2 kM_hope (((((61 : Int32) * (v10 - 1)) + v11) - 1)).toNatClampNeg)), .null] [.int (if v11 = 0 then 1 else (if (lg_cmp ((μ).2 kM_hope ((((61 : Int32) * (v10 - 1)) + v11)).toNatClampNeg) (((v4).toInt64 * v7) + ((μ).2 kM_hope (((((61 : Int32) * (v10 - 1)) + v11) - 1)).toNatClampNeg))) ≤ 0 then 0 else 1 : Int32) : Int32), .int v9] (m2_sl μ kM_hope (vp_updL ((μ).2 kM_hope) ((((61 : Int32) * v10) + v11)).toNatClampNeg (((((((10 : Int32) - v3) - v5)).toInt64 * ((μ).2 kM_hope ((((61 : Int32) * (v10 - 1)) + v11)).toNatClampNeg)) + ((v3).toInt64 * (m2_maxl ((μ).2 kM_hope ((((61 : Int32) * (v10 - 1)) + v11)).toNatClampNeg) (((v4).toInt64 * v7) + ((μ).2 kM_hope (((((61 : Int32) * (v10 - 1)) + v11) - 1)).toNatClampNeg))))) + ((v5).toInt64 * (m2_maxl ((μ).2 kM_hope ((((61 : Int32) * (v10 - 1)) + v11)).toNatClampNeg) (((v6).toInt64 * v7) + ((μ).2 kM_hope (((((61 : Int32) * (v10 - 1)) + v11) - 1)).toNatClampNeg))))))) := by
              refine m2_iadd hB dX12_keep_294 ?_
              refine m2_istore hB (ls' := [.ref kM, .int v1, .int v2, .int v3, .int v4, .int v5, .int v6, .long v7, .null, .int (v9 + (if v11 = 0 then 1 else (if (lg_cmp ((μ).2 kM_hope ((((61 : Int32) * (v10 - 1)) + v11)).toNatClampNeg) (((v4).toInt64 * v7) + ((μ).2 kM_hope (((((61 : Int32) * (v10 - 1)) + v11) - 1)).toNatClampNeg))) ≤ 0 then 0 else 1 : Int32) : Int32)), .int v10, .int v11, .long ((μ).2 kM_hope ((((61 : Int32) * (v10 - 1)) + v11)).toNatClampNeg), .null, .long (((v4).toInt64 * v7) + ((μ).2 kM_hope (((((61 : Int32) * (v10 - 1)) + v11) - 1)).toNatClampNeg)), .null, .long (((v6).toInt64 * v7) + ((μ).2 kM_hope (((((61 : Int32) * (v10 - 1)) + v11) - 1)).toNatClampNeg)), .null]) dX12_keep_295 (by decide) rfl ?_
              exact G16
            refine m2_if_eq hB dX12_keep_278 (tgt := 289) (by decide) (fun q14 : v11 = 0 => ?_) (fun q14 : ¬ v11 = 0 => ?_)
            · rw [if_pos q14] at G17
              refine m2_iconst hB dX12_keep_289 (v := 1) (by decide) ?_
              refine m2_goto hB dX12_keep_290 (tgt := 294) (by decide) ?_
              exact G17
            · rw [if_neg q14] at G17
              refine m2_lload hB dX12_keep_281 rfl ?_
              refine m2_lload hB dX12_keep_283 rfl ?_
              refine m2_lcmp hB dX12_keep_285 ?_
              have G18 : κ 294 [.ref kM, .int v1, .int v2, .int v3, .int v4, .int v5, .int v6, .long v7, .null, .int v9, .int v10, .int v11, .long ((μ).2 kM_hope ((((61 : Int32) * (v10 - 1)) + v11)).toNatClampNeg), .null, .long (((v4).toInt64 * v7) + ((μ).2 kM_hope (((((61 : Int32) * (v10 - 1)) + v11) - 1)).toNatClampNeg)), .null, .long (((v6).toInt64 * v7) + ((μ).2 kM_hope (((((61 : Int32) * (v10 - 1)) + v11) - 1)).toNatClampNeg)), .null] [.int (if (lg_cmp ((μ).2 kM_hope ((((61 : Int32) * (v10 - 1)) + v11)).toNatClampNeg) (((v4).toInt64 * v7) + ((μ).2 kM_hope (((((61 : Int32) * (v10 - 1)) + v11) - 1)).toNatClampNeg))) ≤ 0 then 0 else 1 : Int32), .int v9] (m2_sl μ kM_hope (vp_updL ((μ).2 kM_hope) ((((61 : Int32) * v10) + v11)).toNatClampNeg (((((((10 : Int32) - v3) - v5)).toInt64 * ((μ).2 kM_hope ((((61 : Int32) * (v10 - 1)) + v11)).toNatClampNeg)) + ((v3).toInt64 * (m2_maxl ((μ).2 kM_hope ((((61 : Int32) * (v10 - 1)) + v11)).toNatClampNeg) (((v4).toInt64 * v7) + ((μ).2 kM_hope (((((61 : Int32) * (v10 - 1)) + v11) - 1)).toNatClampNeg))))) + ((v5).toInt64 * (m2_maxl ((μ).2 kM_hope ((((61 : Int32) * (v10 - 1)) + v11)).toNatClampNeg) (((v6).toInt64 * v7) + ((μ).2 kM_hope (((((61 : Int32) * (v10 - 1)) + v11) - 1)).toNatClampNeg))))))) := by
                exact G17
              refine m2_if_le hB dX12_keep_286 (tgt := 293) (by decide) (fun q13 : (lg_cmp ((μ).2 kM_hope ((((61 : Int32) * (v10 - 1)) + v11)).toNatClampNeg) (((v4).toInt64 * v7) + ((μ).2 kM_hope (((((61 : Int32) * (v10 - 1)) + v11) - 1)).toNatClampNeg))) ≤ 0 => ?_) (fun q13 : ¬ (lg_cmp ((μ).2 kM_hope ((((61 : Int32) * (v10 - 1)) + v11)).toNatClampNeg) (((v4).toInt64 * v7) + ((μ).2 kM_hope (((((61 : Int32) * (v10 - 1)) + v11) - 1)).toNatClampNeg))) ≤ 0 => ?_)
              · rw [if_pos q13] at G18
                refine m2_iconst hB dX12_keep_293 (v := 0) (by decide) ?_
                exact G18
              · rw [if_neg q13] at G18
                refine m2_iconst hB dX12_keep_289 (v := 1) (by decide) ?_
                refine m2_goto hB dX12_keep_290 (tgt := 294) (by decide) ?_
                exact G18
        · replace k := k.2 q10
          refine m2_lconst hB dX12_keep_224 (v := 0) (by decide) ?_
          refine m2_goto hB dX12_keep_225 (tgt := 262) (by decide) ?_
          obtain ⟨hi19, k⟩ := k
          refine m2_last hB dX12_keep_262 sh_kM_hope hi19 ?_
          refine m2_iload hB dX12_keep_263 rfl ?_
          refine m2_aload_n hB dX12_keep_265 rfl ?_
          refine m2_getR hB dX12_keep_266 fl_X12_23 sh_kM (c1 := kM_left) rfl ?_
          refine m2_iload_n hB dX12_keep_269 rfl ?_
          obtain ⟨hi20, k⟩ := k
          refine m2_iald hB dX12_keep_270 sh_kM_left hi20 ?_
          have G24 : κ 297 [.ref kM, .int v1, .int v2, .int v3, .int v4, .int v5, .int v6, .long v7, .null, .int (if v11 = (μ.1 kM_left (v1).toNatClampNeg) then (v9 + (if v11 = 0 then 1 else (if (lg_cmp ((μ).2 kM_hope ((((61 : Int32) * (v10 - 1)) + v11)).toNatClampNeg) (((v4).toInt64 * v7) + ((μ).2 kM_hope (((((61 : Int32) * (v10 - 1)) + v11) - 1)).toNatClampNeg))) ≤ 0 then 0 else 1 : Int32) : Int32)) else v9 : Int32), .int v10, .int v11, .long ((μ).2 kM_hope ((((61 : Int32) * (v10 - 1)) + v11)).toNatClampNeg), .null, .long (((v4).toInt64 * v7) + ((μ).2 kM_hope (((((61 : Int32) * (v10 - 1)) + v11) - 1)).toNatClampNeg)), .null, .long (((v6).toInt64 * v7) + ((μ).2 kM_hope (((((61 : Int32) * (v10 - 1)) + v11) - 1)).toNatClampNeg)), .null] [] (m2_sl μ kM_hope (vp_updL ((μ).2 kM_hope) ((((61 : Int32) * v10) + v11)).toNatClampNeg 0)) := by
            refine m2_iinc hB (ls' := [.ref kM, .int v1, .int v2, .int v3, .int v4, .int v5, .int v6, .long v7, .null, .int (if v11 = (μ.1 kM_left (v1).toNatClampNeg) then (v9 + (if v11 = 0 then 1 else (if (lg_cmp ((μ).2 kM_hope ((((61 : Int32) * (v10 - 1)) + v11)).toNatClampNeg) (((v4).toInt64 * v7) + ((μ).2 kM_hope (((((61 : Int32) * (v10 - 1)) + v11) - 1)).toNatClampNeg))) ≤ 0 then 0 else 1 : Int32) : Int32)) else v9 : Int32), .int v10, .int (v11 + 1), .long ((μ).2 kM_hope ((((61 : Int32) * (v10 - 1)) + v11)).toNatClampNeg), .null, .long (((v4).toInt64 * v7) + ((μ).2 kM_hope (((((61 : Int32) * (v10 - 1)) + v11) - 1)).toNatClampNeg)), .null, .long (((v6).toInt64 * v7) + ((μ).2 kM_hope (((((61 : Int32) * (v10 - 1)) + v11) - 1)).toNatClampNeg)), .null]) (v := (v11 + 1)) dX12_keep_297 rfl (by decide) rfl rfl ?_
            refine m2_goto hB dX12_keep_300 (tgt := 113) (by decide) ?_
            exact m2_weak (ls' := [.ref kM, .int v1, .int v2, .int v3, .int v4, .int v5, .int v6, .long v7, .null, .int (if v11 = (μ.1 kM_left (v1).toNatClampNeg) then (v9 + (if v11 = 0 then 1 else (if (lg_cmp ((μ).2 kM_hope ((((61 : Int32) * (v10 - 1)) + v11)).toNatClampNeg) (((v4).toInt64 * v7) + ((μ).2 kM_hope (((((61 : Int32) * (v10 - 1)) + v11) - 1)).toNatClampNeg))) ≤ 0 then 0 else 1 : Int32) : Int32)) else v9 : Int32), .int v10, .int (v11 + 1), .null, .null, .null, .null, .null, .null]) hB ⟨Or.inr rfl, Or.inr rfl, Or.inr rfl, Or.inr rfl, Or.inr rfl, Or.inr rfl, Or.inr rfl, Or.inr rfl, Or.inl rfl, Or.inr rfl, Or.inr rfl, Or.inr rfl, Or.inl rfl, Or.inl rfl, Or.inl rfl, Or.inl rfl, Or.inl rfl, Or.inl rfl, trivial⟩ k
          refine m2_icmp_ne hB dX12_keep_271 (tgt := 297) (by decide) (fun q23 : ¬ v11 = (μ.1 kM_left (v1).toNatClampNeg) => ?_) (fun q23 : v11 = (μ.1 kM_left (v1).toNatClampNeg) => ?_)
          · rw [if_neg q23] at G24
            exact G24
          · rw [if_pos q23] at G24
            refine m2_iload hB dX12_keep_274 rfl ?_
            refine m2_iload hB dX12_keep_276 rfl ?_
            have G25 : κ 294 [.ref kM, .int v1, .int v2, .int v3, .int v4, .int v5, .int v6, .long v7, .null, .int v9, .int v10, .int v11, .long ((μ).2 kM_hope ((((61 : Int32) * (v10 - 1)) + v11)).toNatClampNeg), .null, .long (((v4).toInt64 * v7) + ((μ).2 kM_hope (((((61 : Int32) * (v10 - 1)) + v11) - 1)).toNatClampNeg)), .null, .long (((v6).toInt64 * v7) + ((μ).2 kM_hope (((((61 : Int32) * (v10 - 1)) + v11) - 1)).toNatClampNeg)), .null] [.int (if v11 = 0 then 1 else (if (lg_cmp ((μ).2 kM_hope ((((61 : Int32) * (v10 - 1)) + v11)).toNatClampNeg) (((v4).toInt64 * v7) + ((μ).2 kM_hope (((((61 : Int32) * (v10 - 1)) + v11) - 1)).toNatClampNeg))) ≤ 0 then 0 else 1 : Int32) : Int32), .int v9] (m2_sl μ kM_hope (vp_updL ((μ).2 kM_hope) ((((61 : Int32) * v10) + v11)).toNatClampNeg 0)) := by
              refine m2_iadd hB dX12_keep_294 ?_
              refine m2_istore hB (ls' := [.ref kM, .int v1, .int v2, .int v3, .int v4, .int v5, .int v6, .long v7, .null, .int (v9 + (if v11 = 0 then 1 else (if (lg_cmp ((μ).2 kM_hope ((((61 : Int32) * (v10 - 1)) + v11)).toNatClampNeg) (((v4).toInt64 * v7) + ((μ).2 kM_hope (((((61 : Int32) * (v10 - 1)) + v11) - 1)).toNatClampNeg))) ≤ 0 then 0 else 1 : Int32) : Int32)), .int v10, .int v11, .long ((μ).2 kM_hope ((((61 : Int32) * (v10 - 1)) + v11)).toNatClampNeg), .null, .long (((v4).toInt64 * v7) + ((μ).2 kM_hope (((((61 : Int32) * (v10 - 1)) + v11) - 1)).toNatClampNeg)), .null, .long (((v6).toInt64 * v7) + ((μ).2 kM_hope (((((61 : Int32) * (v10 - 1)) + v11) - 1)).toNatClampNeg)), .null]) dX12_keep_295 (by decide) rfl ?_
              exact G24
            refine m2_if_eq hB dX12_keep_278 (tgt := 289) (by decide) (fun q22 : v11 = 0 => ?_) (fun q22 : ¬ v11 = 0 => ?_)
            · rw [if_pos q22] at G25
              refine m2_iconst hB dX12_keep_289 (v := 1) (by decide) ?_
              refine m2_goto hB dX12_keep_290 (tgt := 294) (by decide) ?_
              exact G25
            · rw [if_neg q22] at G25
              refine m2_lload hB dX12_keep_281 rfl ?_
              refine m2_lload hB dX12_keep_283 rfl ?_
              refine m2_lcmp hB dX12_keep_285 ?_
              have G26 : κ 294 [.ref kM, .int v1, .int v2, .int v3, .int v4, .int v5, .int v6, .long v7, .null, .int v9, .int v10, .int v11, .long ((μ).2 kM_hope ((((61 : Int32) * (v10 - 1)) + v11)).toNatClampNeg), .null, .long (((v4).toInt64 * v7) + ((μ).2 kM_hope (((((61 : Int32) * (v10 - 1)) + v11) - 1)).toNatClampNeg)), .null, .long (((v6).toInt64 * v7) + ((μ).2 kM_hope (((((61 : Int32) * (v10 - 1)) + v11) - 1)).toNatClampNeg)), .null] [.int (if (lg_cmp ((μ).2 kM_hope ((((61 : Int32) * (v10 - 1)) + v11)).toNatClampNeg) (((v4).toInt64 * v7) + ((μ).2 kM_hope (((((61 : Int32) * (v10 - 1)) + v11) - 1)).toNatClampNeg))) ≤ 0 then 0 else 1 : Int32), .int v9] (m2_sl μ kM_hope (vp_updL ((μ).2 kM_hope) ((((61 : Int32) * v10) + v11)).toNatClampNeg 0)) := by
                exact G25
              refine m2_if_le hB dX12_keep_286 (tgt := 293) (by decide) (fun q21 : (lg_cmp ((μ).2 kM_hope ((((61 : Int32) * (v10 - 1)) + v11)).toNatClampNeg) (((v4).toInt64 * v7) + ((μ).2 kM_hope (((((61 : Int32) * (v10 - 1)) + v11) - 1)).toNatClampNeg))) ≤ 0 => ?_) (fun q21 : ¬ (lg_cmp ((μ).2 kM_hope ((((61 : Int32) * (v10 - 1)) + v11)).toNatClampNeg) (((v4).toInt64 * v7) + ((μ).2 kM_hope (((((61 : Int32) * (v10 - 1)) + v11) - 1)).toNatClampNeg))) ≤ 0 => ?_)
              · rw [if_pos q21] at G26
                refine m2_iconst hB dX12_keep_293 (v := 0) (by decide) ?_
                exact G26
              · rw [if_neg q21] at G26
                refine m2_iconst hB dX12_keep_289 (v := 1) (by decide) ?_
                refine m2_goto hB dX12_keep_290 (tgt := 294) (by decide) ?_
                exact G26
      · replace k := k.2 q8
        refine m2_lconst hB dX12_keep_177 (v := 0) (by decide) ?_
        refine m2_goto hB dX12_keep_178 (tgt := 205) (by decide) ?_
        refine m2_lstore hB (ls' := [.ref kM, .int v1, .int v2, .int v3, .int v4, .int v5, .int v6, .long v7, .null, .int v9, .int v10, .int v11, .long ((μ).2 kM_hope ((((61 : Int32) * (v10 - 1)) + v11)).toNatClampNeg), .null, .long (((v4).toInt64 * v7) + ((μ).2 kM_hope (((((61 : Int32) * (v10 - 1)) + v11) - 1)).toNatClampNeg)), .null, .long 0, .null]) dX12_keep_205 (by decide) rfl ?_
        refine m2_aload_n hB dX12_keep_207 rfl ?_
        refine m2_getR hB dX12_keep_208 fl_X12_122 sh_kM (c1 := kM_hope) rfl ?_
        refine m2_bipush hB dX12_keep_211 (v := 61) (by decide) ?_
        refine m2_iload hB dX12_keep_213 rfl ?_
        refine m2_imul hB dX12_keep_215 ?_
        refine m2_iload hB dX12_keep_216 rfl ?_
        refine m2_iadd hB dX12_keep_218 ?_
        refine m2_iload hB dX12_keep_219 rfl ?_
        refine m2_if_ne hB dX12_keep_221 (tgt := 228) (by decide) (fun q27 : ¬ v11 = 0 => ?_) (fun q27 : v11 = 0 => ?_)
        · replace k := k.1 q27
          refine m2_bipush hB dX12_keep_228 (v := 10) (by decide) ?_
          refine m2_iload_n hB dX12_keep_230 rfl ?_
          refine m2_isub hB dX12_keep_231 ?_
          refine m2_iload hB dX12_keep_232 rfl ?_
          refine m2_isub hB dX12_keep_234 ?_
          refine m2_i2l hB dX12_keep_235 ?_
          refine m2_lload hB dX12_keep_236 rfl ?_
          refine m2_lmul hB dX12_keep_238 ?_
          refine m2_iload_n hB dX12_keep_239 rfl ?_
          refine m2_i2l hB dX12_keep_240 ?_
          refine m2_lload hB dX12_keep_241 rfl ?_
          refine m2_lload hB dX12_keep_243 rfl ?_
          refine m2_mmax_long hB dX12_keep_245 ms_X12_432 (Nat.le_of_ble_eq_true rfl) ?_
          refine m2_lmul hB dX12_keep_248 ?_
          refine m2_ladd hB dX12_keep_249 ?_
          refine m2_iload hB dX12_keep_250 rfl ?_
          refine m2_i2l hB dX12_keep_252 ?_
          refine m2_lload hB dX12_keep_253 rfl ?_
          refine m2_lload hB dX12_keep_255 rfl ?_
          refine m2_mmax_long hB dX12_keep_257 ms_X12_432 (Nat.le_of_ble_eq_true rfl) ?_
          refine m2_lmul hB dX12_keep_260 ?_
          refine m2_ladd hB dX12_keep_261 ?_
          obtain ⟨hi28, k⟩ := k
          refine m2_last hB dX12_keep_262 sh_kM_hope hi28 ?_
          refine m2_iload hB dX12_keep_263 rfl ?_
          refine m2_aload_n hB dX12_keep_265 rfl ?_
          refine m2_getR hB dX12_keep_266 fl_X12_23 sh_kM (c1 := kM_left) rfl ?_
          refine m2_iload_n hB dX12_keep_269 rfl ?_
          obtain ⟨hi29, k⟩ := k
          refine m2_iald hB dX12_keep_270 sh_kM_left hi29 ?_
          have G33 : κ 297 [.ref kM, .int v1, .int v2, .int v3, .int v4, .int v5, .int v6, .long v7, .null, .int (if v11 = (μ.1 kM_left (v1).toNatClampNeg) then (v9 + (if v11 = 0 then 1 else (if (lg_cmp ((μ).2 kM_hope ((((61 : Int32) * (v10 - 1)) + v11)).toNatClampNeg) (((v4).toInt64 * v7) + ((μ).2 kM_hope (((((61 : Int32) * (v10 - 1)) + v11) - 1)).toNatClampNeg))) ≤ 0 then 0 else 1 : Int32) : Int32)) else v9 : Int32), .int v10, .int v11, .long ((μ).2 kM_hope ((((61 : Int32) * (v10 - 1)) + v11)).toNatClampNeg), .null, .long (((v4).toInt64 * v7) + ((μ).2 kM_hope (((((61 : Int32) * (v10 - 1)) + v11) - 1)).toNatClampNeg)), .null, .long 0, .null] [] (m2_sl μ kM_hope (vp_updL ((μ).2 kM_hope) ((((61 : Int32) * v10) + v11)).toNatClampNeg (((((((10 : Int32) - v3) - v5)).toInt64 * ((μ).2 kM_hope ((((61 : Int32) * (v10 - 1)) + v11)).toNatClampNeg)) + ((v3).toInt64 * (m2_maxl ((μ).2 kM_hope ((((61 : Int32) * (v10 - 1)) + v11)).toNatClampNeg) (((v4).toInt64 * v7) + ((μ).2 kM_hope (((((61 : Int32) * (v10 - 1)) + v11) - 1)).toNatClampNeg))))) + ((v5).toInt64 * (m2_maxl ((μ).2 kM_hope ((((61 : Int32) * (v10 - 1)) + v11)).toNatClampNeg) 0))))) := by
            refine m2_iinc hB (ls' := [.ref kM, .int v1, .int v2, .int v3, .int v4, .int v5, .int v6, .long v7, .null, .int (if v11 = (μ.1 kM_left (v1).toNatClampNeg) then (v9 + (if v11 = 0 then 1 else (if (lg_cmp ((μ).2 kM_hope ((((61 : Int32) * (v10 - 1)) + v11)).toNatClampNeg) (((v4).toInt64 * v7) + ((μ).2 kM_hope (((((61 : Int32) * (v10 - 1)) + v11) - 1)).toNatClampNeg))) ≤ 0 then 0 else 1 : Int32) : Int32)) else v9 : Int32), .int v10, .int (v11 + 1), .long ((μ).2 kM_hope ((((61 : Int32) * (v10 - 1)) + v11)).toNatClampNeg), .null, .long (((v4).toInt64 * v7) + ((μ).2 kM_hope (((((61 : Int32) * (v10 - 1)) + v11) - 1)).toNatClampNeg)), .null, .long 0, .null]) (v := (v11 + 1)) dX12_keep_297 rfl (by decide) rfl rfl ?_
            refine m2_goto hB dX12_keep_300 (tgt := 113) (by decide) ?_
            exact m2_weak (ls' := [.ref kM, .int v1, .int v2, .int v3, .int v4, .int v5, .int v6, .long v7, .null, .int (if v11 = (μ.1 kM_left (v1).toNatClampNeg) then (v9 + (if v11 = 0 then 1 else (if (lg_cmp ((μ).2 kM_hope ((((61 : Int32) * (v10 - 1)) + v11)).toNatClampNeg) (((v4).toInt64 * v7) + ((μ).2 kM_hope (((((61 : Int32) * (v10 - 1)) + v11) - 1)).toNatClampNeg))) ≤ 0 then 0 else 1 : Int32) : Int32)) else v9 : Int32), .int v10, .int (v11 + 1), .null, .null, .null, .null, .null, .null]) hB ⟨Or.inr rfl, Or.inr rfl, Or.inr rfl, Or.inr rfl, Or.inr rfl, Or.inr rfl, Or.inr rfl, Or.inr rfl, Or.inl rfl, Or.inr rfl, Or.inr rfl, Or.inr rfl, Or.inl rfl, Or.inl rfl, Or.inl rfl, Or.inl rfl, Or.inl rfl, Or.inl rfl, trivial⟩ k
          refine m2_icmp_ne hB dX12_keep_271 (tgt := 297) (by decide) (fun q32 : ¬ v11 = (μ.1 kM_left (v1).toNatClampNeg) => ?_) (fun q32 : v11 = (μ.1 kM_left (v1).toNatClampNeg) => ?_)
          · rw [if_neg q32] at G33
            exact G33
          · rw [if_pos q32] at G33
            refine m2_iload hB dX12_keep_274 rfl ?_
            refine m2_iload hB dX12_keep_276 rfl ?_
            have G34 : κ 294 [.ref kM, .int v1, .int v2, .int v3, .int v4, .int v5, .int v6, .long v7, .null, .int v9, .int v10, .int v11, .long ((μ).2 kM_hope ((((61 : Int32) * (v10 - 1)) + v11)).toNatClampNeg), .null, .long (((v4).toInt64 * v7) + ((μ).2 kM_hope (((((61 : Int32) * (v10 - 1)) + v11) - 1)).toNatClampNeg)), .null, .long 0, .null] [.int (if v11 = 0 then 1 else (if (lg_cmp ((μ).2 kM_hope ((((61 : Int32) * (v10 - 1)) + v11)).toNatClampNeg) (((v4).toInt64 * v7) + ((μ).2 kM_hope (((((61 : Int32) * (v10 - 1)) + v11) - 1)).toNatClampNeg))) ≤ 0 then 0 else 1 : Int32) : Int32), .int v9] (m2_sl μ kM_hope (vp_updL ((μ).2 kM_hope) ((((61 : Int32) * v10) + v11)).toNatClampNeg (((((((10 : Int32) - v3) - v5)).toInt64 * ((μ).2 kM_hope ((((61 : Int32) * (v10 - 1)) + v11)).toNatClampNeg)) + ((v3).toInt64 * (m2_maxl ((μ).2 kM_hope ((((61 : Int32) * (v10 - 1)) + v11)).toNatClampNeg) (((v4).toInt64 * v7) + ((μ).2 kM_hope (((((61 : Int32) * (v10 - 1)) + v11) - 1)).toNatClampNeg))))) + ((v5).toInt64 * (m2_maxl ((μ).2 kM_hope ((((61 : Int32) * (v10 - 1)) + v11)).toNatClampNeg) 0))))) := by
              refine m2_iadd hB dX12_keep_294 ?_
              refine m2_istore hB (ls' := [.ref kM, .int v1, .int v2, .int v3, .int v4, .int v5, .int v6, .long v7, .null, .int (v9 + (if v11 = 0 then 1 else (if (lg_cmp ((μ).2 kM_hope ((((61 : Int32) * (v10 - 1)) + v11)).toNatClampNeg) (((v4).toInt64 * v7) + ((μ).2 kM_hope (((((61 : Int32) * (v10 - 1)) + v11) - 1)).toNatClampNeg))) ≤ 0 then 0 else 1 : Int32) : Int32)), .int v10, .int v11, .long ((μ).2 kM_hope ((((61 : Int32) * (v10 - 1)) + v11)).toNatClampNeg), .null, .long (((v4).toInt64 * v7) + ((μ).2 kM_hope (((((61 : Int32) * (v10 - 1)) + v11) - 1)).toNatClampNeg)), .null, .long 0, .null]) dX12_keep_295 (by decide) rfl ?_
              exact G33
            refine m2_if_eq hB dX12_keep_278 (tgt := 289) (by decide) (fun q31 : v11 = 0 => ?_) (fun q31 : ¬ v11 = 0 => ?_)
            · rw [if_pos q31] at G34
              refine m2_iconst hB dX12_keep_289 (v := 1) (by decide) ?_
              refine m2_goto hB dX12_keep_290 (tgt := 294) (by decide) ?_
              exact G34
            · rw [if_neg q31] at G34
              refine m2_lload hB dX12_keep_281 rfl ?_
              refine m2_lload hB dX12_keep_283 rfl ?_
              refine m2_lcmp hB dX12_keep_285 ?_
              have G35 : κ 294 [.ref kM, .int v1, .int v2, .int v3, .int v4, .int v5, .int v6, .long v7, .null, .int v9, .int v10, .int v11, .long ((μ).2 kM_hope ((((61 : Int32) * (v10 - 1)) + v11)).toNatClampNeg), .null, .long (((v4).toInt64 * v7) + ((μ).2 kM_hope (((((61 : Int32) * (v10 - 1)) + v11) - 1)).toNatClampNeg)), .null, .long 0, .null] [.int (if (lg_cmp ((μ).2 kM_hope ((((61 : Int32) * (v10 - 1)) + v11)).toNatClampNeg) (((v4).toInt64 * v7) + ((μ).2 kM_hope (((((61 : Int32) * (v10 - 1)) + v11) - 1)).toNatClampNeg))) ≤ 0 then 0 else 1 : Int32), .int v9] (m2_sl μ kM_hope (vp_updL ((μ).2 kM_hope) ((((61 : Int32) * v10) + v11)).toNatClampNeg (((((((10 : Int32) - v3) - v5)).toInt64 * ((μ).2 kM_hope ((((61 : Int32) * (v10 - 1)) + v11)).toNatClampNeg)) + ((v3).toInt64 * (m2_maxl ((μ).2 kM_hope ((((61 : Int32) * (v10 - 1)) + v11)).toNatClampNeg) (((v4).toInt64 * v7) + ((μ).2 kM_hope (((((61 : Int32) * (v10 - 1)) + v11) - 1)).toNatClampNeg))))) + ((v5).toInt64 * (m2_maxl ((μ).2 kM_hope ((((61 : Int32) * (v10 - 1)) + v11)).toNatClampNeg) 0))))) := by
                exact G34
              refine m2_if_le hB dX12_keep_286 (tgt := 293) (by decide) (fun q30 : (lg_cmp ((μ).2 kM_hope ((((61 : Int32) * (v10 - 1)) + v11)).toNatClampNeg) (((v4).toInt64 * v7) + ((μ).2 kM_hope (((((61 : Int32) * (v10 - 1)) + v11) - 1)).toNatClampNeg))) ≤ 0 => ?_) (fun q30 : ¬ (lg_cmp ((μ).2 kM_hope ((((61 : Int32) * (v10 - 1)) + v11)).toNatClampNeg) (((v4).toInt64 * v7) + ((μ).2 kM_hope (((((61 : Int32) * (v10 - 1)) + v11) - 1)).toNatClampNeg))) ≤ 0 => ?_)
              · rw [if_pos q30] at G35
                refine m2_iconst hB dX12_keep_293 (v := 0) (by decide) ?_
                exact G35
              · rw [if_neg q30] at G35
                refine m2_iconst hB dX12_keep_289 (v := 1) (by decide) ?_
                refine m2_goto hB dX12_keep_290 (tgt := 294) (by decide) ?_
                exact G35
        · replace k := k.2 q27
          refine m2_lconst hB dX12_keep_224 (v := 0) (by decide) ?_
          refine m2_goto hB dX12_keep_225 (tgt := 262) (by decide) ?_
          obtain ⟨hi36, k⟩ := k
          refine m2_last hB dX12_keep_262 sh_kM_hope hi36 ?_
          refine m2_iload hB dX12_keep_263 rfl ?_
          refine m2_aload_n hB dX12_keep_265 rfl ?_
          refine m2_getR hB dX12_keep_266 fl_X12_23 sh_kM (c1 := kM_left) rfl ?_
          refine m2_iload_n hB dX12_keep_269 rfl ?_
          obtain ⟨hi37, k⟩ := k
          refine m2_iald hB dX12_keep_270 sh_kM_left hi37 ?_
          have G41 : κ 297 [.ref kM, .int v1, .int v2, .int v3, .int v4, .int v5, .int v6, .long v7, .null, .int (if v11 = (μ.1 kM_left (v1).toNatClampNeg) then (v9 + (if v11 = 0 then 1 else (if (lg_cmp ((μ).2 kM_hope ((((61 : Int32) * (v10 - 1)) + v11)).toNatClampNeg) (((v4).toInt64 * v7) + ((μ).2 kM_hope (((((61 : Int32) * (v10 - 1)) + v11) - 1)).toNatClampNeg))) ≤ 0 then 0 else 1 : Int32) : Int32)) else v9 : Int32), .int v10, .int v11, .long ((μ).2 kM_hope ((((61 : Int32) * (v10 - 1)) + v11)).toNatClampNeg), .null, .long (((v4).toInt64 * v7) + ((μ).2 kM_hope (((((61 : Int32) * (v10 - 1)) + v11) - 1)).toNatClampNeg)), .null, .long 0, .null] [] (m2_sl μ kM_hope (vp_updL ((μ).2 kM_hope) ((((61 : Int32) * v10) + v11)).toNatClampNeg 0)) := by
            refine m2_iinc hB (ls' := [.ref kM, .int v1, .int v2, .int v3, .int v4, .int v5, .int v6, .long v7, .null, .int (if v11 = (μ.1 kM_left (v1).toNatClampNeg) then (v9 + (if v11 = 0 then 1 else (if (lg_cmp ((μ).2 kM_hope ((((61 : Int32) * (v10 - 1)) + v11)).toNatClampNeg) (((v4).toInt64 * v7) + ((μ).2 kM_hope (((((61 : Int32) * (v10 - 1)) + v11) - 1)).toNatClampNeg))) ≤ 0 then 0 else 1 : Int32) : Int32)) else v9 : Int32), .int v10, .int (v11 + 1), .long ((μ).2 kM_hope ((((61 : Int32) * (v10 - 1)) + v11)).toNatClampNeg), .null, .long (((v4).toInt64 * v7) + ((μ).2 kM_hope (((((61 : Int32) * (v10 - 1)) + v11) - 1)).toNatClampNeg)), .null, .long 0, .null]) (v := (v11 + 1)) dX12_keep_297 rfl (by decide) rfl rfl ?_
            refine m2_goto hB dX12_keep_300 (tgt := 113) (by decide) ?_
            exact m2_weak (ls' := [.ref kM, .int v1, .int v2, .int v3, .int v4, .int v5, .int v6, .long v7, .null, .int (if v11 = (μ.1 kM_left (v1).toNatClampNeg) then (v9 + (if v11 = 0 then 1 else (if (lg_cmp ((μ).2 kM_hope ((((61 : Int32) * (v10 - 1)) + v11)).toNatClampNeg) (((v4).toInt64 * v7) + ((μ).2 kM_hope (((((61 : Int32) * (v10 - 1)) + v11) - 1)).toNatClampNeg))) ≤ 0 then 0 else 1 : Int32) : Int32)) else v9 : Int32), .int v10, .int (v11 + 1), .null, .null, .null, .null, .null, .null]) hB ⟨Or.inr rfl, Or.inr rfl, Or.inr rfl, Or.inr rfl, Or.inr rfl, Or.inr rfl, Or.inr rfl, Or.inr rfl, Or.inl rfl, Or.inr rfl, Or.inr rfl, Or.inr rfl, Or.inl rfl, Or.inl rfl, Or.inl rfl, Or.inl rfl, Or.inl rfl, Or.inl rfl, trivial⟩ k
          refine m2_icmp_ne hB dX12_keep_271 (tgt := 297) (by decide) (fun q40 : ¬ v11 = (μ.1 kM_left (v1).toNatClampNeg) => ?_) (fun q40 : v11 = (μ.1 kM_left (v1).toNatClampNeg) => ?_)
          · rw [if_neg q40] at G41
            exact G41
          · rw [if_pos q40] at G41
            refine m2_iload hB dX12_keep_274 rfl ?_
            refine m2_iload hB dX12_keep_276 rfl ?_
            have G42 : κ 294 [.ref kM, .int v1, .int v2, .int v3, .int v4, .int v5, .int v6, .long v7, .null, .int v9, .int v10, .int v11, .long ((μ).2 kM_hope ((((61 : Int32) * (v10 - 1)) + v11)).toNatClampNeg), .null, .long (((v4).toInt64 * v7) + ((μ).2 kM_hope (((((61 : Int32) * (v10 - 1)) + v11) - 1)).toNatClampNeg)), .null, .long 0, .null] [.int (if v11 = 0 then 1 else (if (lg_cmp ((μ).2 kM_hope ((((61 : Int32) * (v10 - 1)) + v11)).toNatClampNeg) (((v4).toInt64 * v7) + ((μ).2 kM_hope (((((61 : Int32) * (v10 - 1)) + v11) - 1)).toNatClampNeg))) ≤ 0 then 0 else 1 : Int32) : Int32), .int v9] (m2_sl μ kM_hope (vp_updL ((μ).2 kM_hope) ((((61 : Int32) * v10) + v11)).toNatClampNeg 0)) := by
              refine m2_iadd hB dX12_keep_294 ?_
              refine m2_istore hB (ls' := [.ref kM, .int v1, .int v2, .int v3, .int v4, .int v5, .int v6, .long v7, .null, .int (v9 + (if v11 = 0 then 1 else (if (lg_cmp ((μ).2 kM_hope ((((61 : Int32) * (v10 - 1)) + v11)).toNatClampNeg) (((v4).toInt64 * v7) + ((μ).2 kM_hope (((((61 : Int32) * (v10 - 1)) + v11) - 1)).toNatClampNeg))) ≤ 0 then 0 else 1 : Int32) : Int32)), .int v10, .int v11, .long ((μ).2 kM_hope ((((61 : Int32) * (v10 - 1)) + v11)).toNatClampNeg), .null, .long (((v4).toInt64 * v7) + ((μ).2 kM_hope (((((61 : Int32) * (v10 - 1)) + v11) - 1)).toNatClampNeg)), .null, .long 0, .null]) dX12_keep_295 (by decide) rfl ?_
              exact G41
            refine m2_if_eq hB dX12_keep_278 (tgt := 289) (by decide) (fun q39 : v11 = 0 => ?_) (fun q39 : ¬ v11 = 0 => ?_)
            · rw [if_pos q39] at G42
              refine m2_iconst hB dX12_keep_289 (v := 1) (by decide) ?_
              refine m2_goto hB dX12_keep_290 (tgt := 294) (by decide) ?_
              exact G42
            · rw [if_neg q39] at G42
              refine m2_lload hB dX12_keep_281 rfl ?_
              refine m2_lload hB dX12_keep_283 rfl ?_
              refine m2_lcmp hB dX12_keep_285 ?_
              have G43 : κ 294 [.ref kM, .int v1, .int v2, .int v3, .int v4, .int v5, .int v6, .long v7, .null, .int v9, .int v10, .int v11, .long ((μ).2 kM_hope ((((61 : Int32) * (v10 - 1)) + v11)).toNatClampNeg), .null, .long (((v4).toInt64 * v7) + ((μ).2 kM_hope (((((61 : Int32) * (v10 - 1)) + v11) - 1)).toNatClampNeg)), .null, .long 0, .null] [.int (if (lg_cmp ((μ).2 kM_hope ((((61 : Int32) * (v10 - 1)) + v11)).toNatClampNeg) (((v4).toInt64 * v7) + ((μ).2 kM_hope (((((61 : Int32) * (v10 - 1)) + v11) - 1)).toNatClampNeg))) ≤ 0 then 0 else 1 : Int32), .int v9] (m2_sl μ kM_hope (vp_updL ((μ).2 kM_hope) ((((61 : Int32) * v10) + v11)).toNatClampNeg 0)) := by
                exact G42
              refine m2_if_le hB dX12_keep_286 (tgt := 293) (by decide) (fun q38 : (lg_cmp ((μ).2 kM_hope ((((61 : Int32) * (v10 - 1)) + v11)).toNatClampNeg) (((v4).toInt64 * v7) + ((μ).2 kM_hope (((((61 : Int32) * (v10 - 1)) + v11) - 1)).toNatClampNeg))) ≤ 0 => ?_) (fun q38 : ¬ (lg_cmp ((μ).2 kM_hope ((((61 : Int32) * (v10 - 1)) + v11)).toNatClampNeg) (((v4).toInt64 * v7) + ((μ).2 kM_hope (((((61 : Int32) * (v10 - 1)) + v11) - 1)).toNatClampNeg))) ≤ 0 => ?_)
              · rw [if_pos q38] at G43
                refine m2_iconst hB dX12_keep_293 (v := 0) (by decide) ?_
                exact G43
              · rw [if_neg q38] at G43
                refine m2_iconst hB dX12_keep_289 (v := 1) (by decide) ?_
                refine m2_goto hB dX12_keep_290 (tgt := 294) (by decide) ?_
                exact G43
    · replace k := k.2 q5
      refine m2_lconst hB dX12_keep_142 (v := 0) (by decide) ?_
      refine m2_goto hB dX12_keep_143 (tgt := 170) (by decide) ?_
      refine m2_lstore hB (ls' := [.ref kM, .int v1, .int v2, .int v3, .int v4, .int v5, .int v6, .long v7, .null, .int v9, .int v10, .int v11, .long ((μ).2 kM_hope ((((61 : Int32) * (v10 - 1)) + v11)).toNatClampNeg), .null, .long 0, .null, .null, .null]) dX12_keep_170 (by decide) rfl ?_
      refine m2_iload hB dX12_keep_172 rfl ?_
      refine m2_if_ne hB dX12_keep_174 (tgt := 181) (by decide) (fun q45 : ¬ v11 = 0 => ?_) (fun q45 : v11 = 0 => ?_)
      · replace k := k.1 q45
        refine m2_iload hB dX12_keep_181 rfl ?_
        refine m2_i2l hB dX12_keep_183 ?_
        refine m2_lload hB dX12_keep_184 rfl ?_
        refine m2_lmul hB dX12_keep_186 ?_
        refine m2_aload_n hB dX12_keep_187 rfl ?_
        refine m2_getR hB dX12_keep_188 fl_X12_122 sh_kM (c1 := kM_hope) rfl ?_
        refine m2_bipush hB dX12_keep_191 (v := 61) (by decide) ?_
        refine m2_iload hB dX12_keep_193 rfl ?_
        refine m2_iconst hB dX12_keep_195 (v := 1) (by decide) ?_
        refine m2_isub hB dX12_keep_196 ?_
        refine m2_imul hB dX12_keep_197 ?_
        refine m2_iload hB dX12_keep_198 rfl ?_
        refine m2_iadd hB dX12_keep_200 ?_
        refine m2_iconst hB dX12_keep_201 (v := 1) (by decide) ?_
        refine m2_isub hB dX12_keep_202 ?_
        obtain ⟨hi46, k⟩ := k
        refine m2_lald hB dX12_keep_203 sh_kM_hope hi46 ?_
        refine m2_ladd hB dX12_keep_204 ?_
        refine m2_lstore hB (ls' := [.ref kM, .int v1, .int v2, .int v3, .int v4, .int v5, .int v6, .long v7, .null, .int v9, .int v10, .int v11, .long ((μ).2 kM_hope ((((61 : Int32) * (v10 - 1)) + v11)).toNatClampNeg), .null, .long 0, .null, .long (((v6).toInt64 * v7) + ((μ).2 kM_hope (((((61 : Int32) * (v10 - 1)) + v11) - 1)).toNatClampNeg)), .null]) dX12_keep_205 (by decide) rfl ?_
        refine m2_aload_n hB dX12_keep_207 rfl ?_
        refine m2_getR hB dX12_keep_208 fl_X12_122 sh_kM (c1 := kM_hope) rfl ?_
        refine m2_bipush hB dX12_keep_211 (v := 61) (by decide) ?_
        refine m2_iload hB dX12_keep_213 rfl ?_
        refine m2_imul hB dX12_keep_215 ?_
        refine m2_iload hB dX12_keep_216 rfl ?_
        refine m2_iadd hB dX12_keep_218 ?_
        refine m2_iload hB dX12_keep_219 rfl ?_
        refine m2_if_ne hB dX12_keep_221 (tgt := 228) (by decide) (fun q47 : ¬ v11 = 0 => ?_) (fun q47 : v11 = 0 => ?_)
        · replace k := k.1 q47
          refine m2_bipush hB dX12_keep_228 (v := 10) (by decide) ?_
          refine m2_iload_n hB dX12_keep_230 rfl ?_
          refine m2_isub hB dX12_keep_231 ?_
          refine m2_iload hB dX12_keep_232 rfl ?_
          refine m2_isub hB dX12_keep_234 ?_
          refine m2_i2l hB dX12_keep_235 ?_
          refine m2_lload hB dX12_keep_236 rfl ?_
          refine m2_lmul hB dX12_keep_238 ?_
          refine m2_iload_n hB dX12_keep_239 rfl ?_
          refine m2_i2l hB dX12_keep_240 ?_
          refine m2_lload hB dX12_keep_241 rfl ?_
          refine m2_lload hB dX12_keep_243 rfl ?_
          refine m2_mmax_long hB dX12_keep_245 ms_X12_432 (Nat.le_of_ble_eq_true rfl) ?_
          refine m2_lmul hB dX12_keep_248 ?_
          refine m2_ladd hB dX12_keep_249 ?_
          refine m2_iload hB dX12_keep_250 rfl ?_
          refine m2_i2l hB dX12_keep_252 ?_
          refine m2_lload hB dX12_keep_253 rfl ?_
          refine m2_lload hB dX12_keep_255 rfl ?_
          refine m2_mmax_long hB dX12_keep_257 ms_X12_432 (Nat.le_of_ble_eq_true rfl) ?_
          refine m2_lmul hB dX12_keep_260 ?_
          refine m2_ladd hB dX12_keep_261 ?_
          obtain ⟨hi48, k⟩ := k
          refine m2_last hB dX12_keep_262 sh_kM_hope hi48 ?_
          refine m2_iload hB dX12_keep_263 rfl ?_
          refine m2_aload_n hB dX12_keep_265 rfl ?_
          refine m2_getR hB dX12_keep_266 fl_X12_23 sh_kM (c1 := kM_left) rfl ?_
          refine m2_iload_n hB dX12_keep_269 rfl ?_
          obtain ⟨hi49, k⟩ := k
          refine m2_iald hB dX12_keep_270 sh_kM_left hi49 ?_
          have G53 : κ 297 [.ref kM, .int v1, .int v2, .int v3, .int v4, .int v5, .int v6, .long v7, .null, .int (if v11 = (μ.1 kM_left (v1).toNatClampNeg) then (v9 + (if v11 = 0 then 1 else (if (lg_cmp ((μ).2 kM_hope ((((61 : Int32) * (v10 - 1)) + v11)).toNatClampNeg) 0) ≤ 0 then 0 else 1 : Int32) : Int32)) else v9 : Int32), .int v10, .int v11, .long ((μ).2 kM_hope ((((61 : Int32) * (v10 - 1)) + v11)).toNatClampNeg), .null, .long 0, .null, .long (((v6).toInt64 * v7) + ((μ).2 kM_hope (((((61 : Int32) * (v10 - 1)) + v11) - 1)).toNatClampNeg)), .null] [] (m2_sl μ kM_hope (vp_updL ((μ).2 kM_hope) ((((61 : Int32) * v10) + v11)).toNatClampNeg (((((((10 : Int32) - v3) - v5)).toInt64 * ((μ).2 kM_hope ((((61 : Int32) * (v10 - 1)) + v11)).toNatClampNeg)) + ((v3).toInt64 * (m2_maxl ((μ).2 kM_hope ((((61 : Int32) * (v10 - 1)) + v11)).toNatClampNeg) 0))) + ((v5).toInt64 * (m2_maxl ((μ).2 kM_hope ((((61 : Int32) * (v10 - 1)) + v11)).toNatClampNeg) (((v6).toInt64 * v7) + ((μ).2 kM_hope (((((61 : Int32) * (v10 - 1)) + v11) - 1)).toNatClampNeg))))))) := by
            refine m2_iinc hB (ls' := [.ref kM, .int v1, .int v2, .int v3, .int v4, .int v5, .int v6, .long v7, .null, .int (if v11 = (μ.1 kM_left (v1).toNatClampNeg) then (v9 + (if v11 = 0 then 1 else (if (lg_cmp ((μ).2 kM_hope ((((61 : Int32) * (v10 - 1)) + v11)).toNatClampNeg) 0) ≤ 0 then 0 else 1 : Int32) : Int32)) else v9 : Int32), .int v10, .int (v11 + 1), .long ((μ).2 kM_hope ((((61 : Int32) * (v10 - 1)) + v11)).toNatClampNeg), .null, .long 0, .null, .long (((v6).toInt64 * v7) + ((μ).2 kM_hope (((((61 : Int32) * (v10 - 1)) + v11) - 1)).toNatClampNeg)), .null]) (v := (v11 + 1)) dX12_keep_297 rfl (by decide) rfl rfl ?_
            refine m2_goto hB dX12_keep_300 (tgt := 113) (by decide) ?_
            exact m2_weak (ls' := [.ref kM, .int v1, .int v2, .int v3, .int v4, .int v5, .int v6, .long v7, .null, .int (if v11 = (μ.1 kM_left (v1).toNatClampNeg) then (v9 + (if v11 = 0 then 1 else (if (lg_cmp ((μ).2 kM_hope ((((61 : Int32) * (v10 - 1)) + v11)).toNatClampNeg) 0) ≤ 0 then 0 else 1 : Int32) : Int32)) else v9 : Int32), .int v10, .int (v11 + 1), .null, .null, .null, .null, .null, .null]) hB ⟨Or.inr rfl, Or.inr rfl, Or.inr rfl, Or.inr rfl, Or.inr rfl, Or.inr rfl, Or.inr rfl, Or.inr rfl, Or.inl rfl, Or.inr rfl, Or.inr rfl, Or.inr rfl, Or.inl rfl, Or.inl rfl, Or.inl rfl, Or.inl rfl, Or.inl rfl, Or.inl rfl, trivial⟩ k
          refine m2_icmp_ne hB dX12_keep_271 (tgt := 297) (by decide) (fun q52 : ¬ v11 = (μ.1 kM_left (v1).toNatClampNeg) => ?_) (fun q52 : v11 = (μ.1 kM_left (v1).toNatClampNeg) => ?_)
          · rw [if_neg q52] at G53
            exact G53
          · rw [if_pos q52] at G53
            refine m2_iload hB dX12_keep_274 rfl ?_
            refine m2_iload hB dX12_keep_276 rfl ?_
            have G54 : κ 294 [.ref kM, .int v1, .int v2, .int v3, .int v4, .int v5, .int v6, .long v7, .null, .int v9, .int v10, .int v11, .long ((μ).2 kM_hope ((((61 : Int32) * (v10 - 1)) + v11)).toNatClampNeg), .null, .long 0, .null, .long (((v6).toInt64 * v7) + ((μ).2 kM_hope (((((61 : Int32) * (v10 - 1)) + v11) - 1)).toNatClampNeg)), .null] [.int (if v11 = 0 then 1 else (if (lg_cmp ((μ).2 kM_hope ((((61 : Int32) * (v10 - 1)) + v11)).toNatClampNeg) 0) ≤ 0 then 0 else 1 : Int32) : Int32), .int v9] (m2_sl μ kM_hope (vp_updL ((μ).2 kM_hope) ((((61 : Int32) * v10) + v11)).toNatClampNeg (((((((10 : Int32) - v3) - v5)).toInt64 * ((μ).2 kM_hope ((((61 : Int32) * (v10 - 1)) + v11)).toNatClampNeg)) + ((v3).toInt64 * (m2_maxl ((μ).2 kM_hope ((((61 : Int32) * (v10 - 1)) + v11)).toNatClampNeg) 0))) + ((v5).toInt64 * (m2_maxl ((μ).2 kM_hope ((((61 : Int32) * (v10 - 1)) + v11)).toNatClampNeg) (((v6).toInt64 * v7) + ((μ).2 kM_hope (((((61 : Int32) * (v10 - 1)) + v11) - 1)).toNatClampNeg))))))) := by
              refine m2_iadd hB dX12_keep_294 ?_
              refine m2_istore hB (ls' := [.ref kM, .int v1, .int v2, .int v3, .int v4, .int v5, .int v6, .long v7, .null, .int (v9 + (if v11 = 0 then 1 else (if (lg_cmp ((μ).2 kM_hope ((((61 : Int32) * (v10 - 1)) + v11)).toNatClampNeg) 0) ≤ 0 then 0 else 1 : Int32) : Int32)), .int v10, .int v11, .long ((μ).2 kM_hope ((((61 : Int32) * (v10 - 1)) + v11)).toNatClampNeg), .null, .long 0, .null, .long (((v6).toInt64 * v7) + ((μ).2 kM_hope (((((61 : Int32) * (v10 - 1)) + v11) - 1)).toNatClampNeg)), .null]) dX12_keep_295 (by decide) rfl ?_
              exact G53
            refine m2_if_eq hB dX12_keep_278 (tgt := 289) (by decide) (fun q51 : v11 = 0 => ?_) (fun q51 : ¬ v11 = 0 => ?_)
            · rw [if_pos q51] at G54
              refine m2_iconst hB dX12_keep_289 (v := 1) (by decide) ?_
              refine m2_goto hB dX12_keep_290 (tgt := 294) (by decide) ?_
              exact G54
            · rw [if_neg q51] at G54
              refine m2_lload hB dX12_keep_281 rfl ?_
              refine m2_lload hB dX12_keep_283 rfl ?_
              refine m2_lcmp hB dX12_keep_285 ?_
              have G55 : κ 294 [.ref kM, .int v1, .int v2, .int v3, .int v4, .int v5, .int v6, .long v7, .null, .int v9, .int v10, .int v11, .long ((μ).2 kM_hope ((((61 : Int32) * (v10 - 1)) + v11)).toNatClampNeg), .null, .long 0, .null, .long (((v6).toInt64 * v7) + ((μ).2 kM_hope (((((61 : Int32) * (v10 - 1)) + v11) - 1)).toNatClampNeg)), .null] [.int (if (lg_cmp ((μ).2 kM_hope ((((61 : Int32) * (v10 - 1)) + v11)).toNatClampNeg) 0) ≤ 0 then 0 else 1 : Int32), .int v9] (m2_sl μ kM_hope (vp_updL ((μ).2 kM_hope) ((((61 : Int32) * v10) + v11)).toNatClampNeg (((((((10 : Int32) - v3) - v5)).toInt64 * ((μ).2 kM_hope ((((61 : Int32) * (v10 - 1)) + v11)).toNatClampNeg)) + ((v3).toInt64 * (m2_maxl ((μ).2 kM_hope ((((61 : Int32) * (v10 - 1)) + v11)).toNatClampNeg) 0))) + ((v5).toInt64 * (m2_maxl ((μ).2 kM_hope ((((61 : Int32) * (v10 - 1)) + v11)).toNatClampNeg) (((v6).toInt64 * v7) + ((μ).2 kM_hope (((((61 : Int32) * (v10 - 1)) + v11) - 1)).toNatClampNeg))))))) := by
                exact G54
              refine m2_if_le hB dX12_keep_286 (tgt := 293) (by decide) (fun q50 : (lg_cmp ((μ).2 kM_hope ((((61 : Int32) * (v10 - 1)) + v11)).toNatClampNeg) 0) ≤ 0 => ?_) (fun q50 : ¬ (lg_cmp ((μ).2 kM_hope ((((61 : Int32) * (v10 - 1)) + v11)).toNatClampNeg) 0) ≤ 0 => ?_)
              · rw [if_pos q50] at G55
                refine m2_iconst hB dX12_keep_293 (v := 0) (by decide) ?_
                exact G55
              · rw [if_neg q50] at G55
                refine m2_iconst hB dX12_keep_289 (v := 1) (by decide) ?_
                refine m2_goto hB dX12_keep_290 (tgt := 294) (by decide) ?_
                exact G55
        · replace k := k.2 q47
          refine m2_lconst hB dX12_keep_224 (v := 0) (by decide) ?_
          refine m2_goto hB dX12_keep_225 (tgt := 262) (by decide) ?_
          obtain ⟨hi56, k⟩ := k
          refine m2_last hB dX12_keep_262 sh_kM_hope hi56 ?_
          refine m2_iload hB dX12_keep_263 rfl ?_
          refine m2_aload_n hB dX12_keep_265 rfl ?_
          refine m2_getR hB dX12_keep_266 fl_X12_23 sh_kM (c1 := kM_left) rfl ?_
          refine m2_iload_n hB dX12_keep_269 rfl ?_
          obtain ⟨hi57, k⟩ := k
          refine m2_iald hB dX12_keep_270 sh_kM_left hi57 ?_
          have G61 : κ 297 [.ref kM, .int v1, .int v2, .int v3, .int v4, .int v5, .int v6, .long v7, .null, .int (if v11 = (μ.1 kM_left (v1).toNatClampNeg) then (v9 + (if v11 = 0 then 1 else (if (lg_cmp ((μ).2 kM_hope ((((61 : Int32) * (v10 - 1)) + v11)).toNatClampNeg) 0) ≤ 0 then 0 else 1 : Int32) : Int32)) else v9 : Int32), .int v10, .int v11, .long ((μ).2 kM_hope ((((61 : Int32) * (v10 - 1)) + v11)).toNatClampNeg), .null, .long 0, .null, .long (((v6).toInt64 * v7) + ((μ).2 kM_hope (((((61 : Int32) * (v10 - 1)) + v11) - 1)).toNatClampNeg)), .null] [] (m2_sl μ kM_hope (vp_updL ((μ).2 kM_hope) ((((61 : Int32) * v10) + v11)).toNatClampNeg 0)) := by
            refine m2_iinc hB (ls' := [.ref kM, .int v1, .int v2, .int v3, .int v4, .int v5, .int v6, .long v7, .null, .int (if v11 = (μ.1 kM_left (v1).toNatClampNeg) then (v9 + (if v11 = 0 then 1 else (if (lg_cmp ((μ).2 kM_hope ((((61 : Int32) * (v10 - 1)) + v11)).toNatClampNeg) 0) ≤ 0 then 0 else 1 : Int32) : Int32)) else v9 : Int32), .int v10, .int (v11 + 1), .long ((μ).2 kM_hope ((((61 : Int32) * (v10 - 1)) + v11)).toNatClampNeg), .null, .long 0, .null, .long (((v6).toInt64 * v7) + ((μ).2 kM_hope (((((61 : Int32) * (v10 - 1)) + v11) - 1)).toNatClampNeg)), .null]) (v := (v11 + 1)) dX12_keep_297 rfl (by decide) rfl rfl ?_
            refine m2_goto hB dX12_keep_300 (tgt := 113) (by decide) ?_
            exact m2_weak (ls' := [.ref kM, .int v1, .int v2, .int v3, .int v4, .int v5, .int v6, .long v7, .null, .int (if v11 = (μ.1 kM_left (v1).toNatClampNeg) then (v9 + (if v11 = 0 then 1 else (if (lg_cmp ((μ).2 kM_hope ((((61 : Int32) * (v10 - 1)) + v11)).toNatClampNeg) 0) ≤ 0 then 0 else 1 : Int32) : Int32)) else v9 : Int32), .int v10, .int (v11 + 1), .null, .null, .null, .null, .null, .null]) hB ⟨Or.inr rfl, Or.inr rfl, Or.inr rfl, Or.inr rfl, Or.inr rfl, Or.inr rfl, Or.inr rfl, Or.inr rfl, Or.inl rfl, Or.inr rfl, Or.inr rfl, Or.inr rfl, Or.inl rfl, Or.inl rfl, Or.inl rfl, Or.inl rfl, Or.inl rfl, Or.inl rfl, trivial⟩ k
          refine m2_icmp_ne hB dX12_keep_271 (tgt := 297) (by decide) (fun q60 : ¬ v11 = (μ.1 kM_left (v1).toNatClampNeg) => ?_) (fun q60 : v11 = (μ.1 kM_left (v1).toNatClampNeg) => ?_)
          · rw [if_neg q60] at G61
            exact G61
          · rw [if_pos q60] at G61
            refine m2_iload hB dX12_keep_274 rfl ?_
            refine m2_iload hB dX12_keep_276 rfl ?_
            have G62 : κ 294 [.ref kM, .int v1, .int v2, .int v3, .int v4, .int v5, .int v6, .long v7, .null, .int v9, .int v10, .int v11, .long ((μ).2 kM_hope ((((61 : Int32) * (v10 - 1)) + v11)).toNatClampNeg), .null, .long 0, .null, .long (((v6).toInt64 * v7) + ((μ).2 kM_hope (((((61 : Int32) * (v10 - 1)) + v11) - 1)).toNatClampNeg)), .null] [.int (if v11 = 0 then 1 else (if (lg_cmp ((μ).2 kM_hope ((((61 : Int32) * (v10 - 1)) + v11)).toNatClampNeg) 0) ≤ 0 then 0 else 1 : Int32) : Int32), .int v9] (m2_sl μ kM_hope (vp_updL ((μ).2 kM_hope) ((((61 : Int32) * v10) + v11)).toNatClampNeg 0)) := by
              refine m2_iadd hB dX12_keep_294 ?_
              refine m2_istore hB (ls' := [.ref kM, .int v1, .int v2, .int v3, .int v4, .int v5, .int v6, .long v7, .null, .int (v9 + (if v11 = 0 then 1 else (if (lg_cmp ((μ).2 kM_hope ((((61 : Int32) * (v10 - 1)) + v11)).toNatClampNeg) 0) ≤ 0 then 0 else 1 : Int32) : Int32)), .int v10, .int v11, .long ((μ).2 kM_hope ((((61 : Int32) * (v10 - 1)) + v11)).toNatClampNeg), .null, .long 0, .null, .long (((v6).toInt64 * v7) + ((μ).2 kM_hope (((((61 : Int32) * (v10 - 1)) + v11) - 1)).toNatClampNeg)), .null]) dX12_keep_295 (by decide) rfl ?_
              exact G61
            refine m2_if_eq hB dX12_keep_278 (tgt := 289) (by decide) (fun q59 : v11 = 0 => ?_) (fun q59 : ¬ v11 = 0 => ?_)
            · rw [if_pos q59] at G62
              refine m2_iconst hB dX12_keep_289 (v := 1) (by decide) ?_
              refine m2_goto hB dX12_keep_290 (tgt := 294) (by decide) ?_
              exact G62
            · rw [if_neg q59] at G62
              refine m2_lload hB dX12_keep_281 rfl ?_
              refine m2_lload hB dX12_keep_283 rfl ?_
              refine m2_lcmp hB dX12_keep_285 ?_
              have G63 : κ 294 [.ref kM, .int v1, .int v2, .int v3, .int v4, .int v5, .int v6, .long v7, .null, .int v9, .int v10, .int v11, .long ((μ).2 kM_hope ((((61 : Int32) * (v10 - 1)) + v11)).toNatClampNeg), .null, .long 0, .null, .long (((v6).toInt64 * v7) + ((μ).2 kM_hope (((((61 : Int32) * (v10 - 1)) + v11) - 1)).toNatClampNeg)), .null] [.int (if (lg_cmp ((μ).2 kM_hope ((((61 : Int32) * (v10 - 1)) + v11)).toNatClampNeg) 0) ≤ 0 then 0 else 1 : Int32), .int v9] (m2_sl μ kM_hope (vp_updL ((μ).2 kM_hope) ((((61 : Int32) * v10) + v11)).toNatClampNeg 0)) := by
                exact G62
              refine m2_if_le hB dX12_keep_286 (tgt := 293) (by decide) (fun q58 : (lg_cmp ((μ).2 kM_hope ((((61 : Int32) * (v10 - 1)) + v11)).toNatClampNeg) 0) ≤ 0 => ?_) (fun q58 : ¬ (lg_cmp ((μ).2 kM_hope ((((61 : Int32) * (v10 - 1)) + v11)).toNatClampNeg) 0) ≤ 0 => ?_)
              · rw [if_pos q58] at G63
                refine m2_iconst hB dX12_keep_293 (v := 0) (by decide) ?_
                exact G63
              · rw [if_neg q58] at G63
                refine m2_iconst hB dX12_keep_289 (v := 1) (by decide) ?_
                refine m2_goto hB dX12_keep_290 (tgt := 294) (by decide) ?_
                exact G63
      · replace k := k.2 q45
        refine m2_lconst hB dX12_keep_177 (v := 0) (by decide) ?_
        refine m2_goto hB dX12_keep_178 (tgt := 205) (by decide) ?_
        refine m2_lstore hB (ls' := [.ref kM, .int v1, .int v2, .int v3, .int v4, .int v5, .int v6, .long v7, .null, .int v9, .int v10, .int v11, .long ((μ).2 kM_hope ((((61 : Int32) * (v10 - 1)) + v11)).toNatClampNeg), .null, .long 0, .null, .long 0, .null]) dX12_keep_205 (by decide) rfl ?_
        refine m2_aload_n hB dX12_keep_207 rfl ?_
        refine m2_getR hB dX12_keep_208 fl_X12_122 sh_kM (c1 := kM_hope) rfl ?_
        refine m2_bipush hB dX12_keep_211 (v := 61) (by decide) ?_
        refine m2_iload hB dX12_keep_213 rfl ?_
        refine m2_imul hB dX12_keep_215 ?_
        refine m2_iload hB dX12_keep_216 rfl ?_
        refine m2_iadd hB dX12_keep_218 ?_
        refine m2_iload hB dX12_keep_219 rfl ?_
        refine m2_if_ne hB dX12_keep_221 (tgt := 228) (by decide) (fun q64 : ¬ v11 = 0 => ?_) (fun q64 : v11 = 0 => ?_)
        · replace k := k.1 q64
          refine m2_bipush hB dX12_keep_228 (v := 10) (by decide) ?_
          refine m2_iload_n hB dX12_keep_230 rfl ?_
          refine m2_isub hB dX12_keep_231 ?_
          refine m2_iload hB dX12_keep_232 rfl ?_
          refine m2_isub hB dX12_keep_234 ?_
          refine m2_i2l hB dX12_keep_235 ?_
          refine m2_lload hB dX12_keep_236 rfl ?_
          refine m2_lmul hB dX12_keep_238 ?_
          refine m2_iload_n hB dX12_keep_239 rfl ?_
          refine m2_i2l hB dX12_keep_240 ?_
          refine m2_lload hB dX12_keep_241 rfl ?_
          refine m2_lload hB dX12_keep_243 rfl ?_
          refine m2_mmax_long hB dX12_keep_245 ms_X12_432 (Nat.le_of_ble_eq_true rfl) ?_
          refine m2_lmul hB dX12_keep_248 ?_
          refine m2_ladd hB dX12_keep_249 ?_
          refine m2_iload hB dX12_keep_250 rfl ?_
          refine m2_i2l hB dX12_keep_252 ?_
          refine m2_lload hB dX12_keep_253 rfl ?_
          refine m2_lload hB dX12_keep_255 rfl ?_
          refine m2_mmax_long hB dX12_keep_257 ms_X12_432 (Nat.le_of_ble_eq_true rfl) ?_
          refine m2_lmul hB dX12_keep_260 ?_
          refine m2_ladd hB dX12_keep_261 ?_
          obtain ⟨hi65, k⟩ := k
          refine m2_last hB dX12_keep_262 sh_kM_hope hi65 ?_
          refine m2_iload hB dX12_keep_263 rfl ?_
          refine m2_aload_n hB dX12_keep_265 rfl ?_
          refine m2_getR hB dX12_keep_266 fl_X12_23 sh_kM (c1 := kM_left) rfl ?_
          refine m2_iload_n hB dX12_keep_269 rfl ?_
          obtain ⟨hi66, k⟩ := k
          refine m2_iald hB dX12_keep_270 sh_kM_left hi66 ?_
          have G70 : κ 297 [.ref kM, .int v1, .int v2, .int v3, .int v4, .int v5, .int v6, .long v7, .null, .int (if v11 = (μ.1 kM_left (v1).toNatClampNeg) then (v9 + (if v11 = 0 then 1 else (if (lg_cmp ((μ).2 kM_hope ((((61 : Int32) * (v10 - 1)) + v11)).toNatClampNeg) 0) ≤ 0 then 0 else 1 : Int32) : Int32)) else v9 : Int32), .int v10, .int v11, .long ((μ).2 kM_hope ((((61 : Int32) * (v10 - 1)) + v11)).toNatClampNeg), .null, .long 0, .null, .long 0, .null] [] (m2_sl μ kM_hope (vp_updL ((μ).2 kM_hope) ((((61 : Int32) * v10) + v11)).toNatClampNeg (((((((10 : Int32) - v3) - v5)).toInt64 * ((μ).2 kM_hope ((((61 : Int32) * (v10 - 1)) + v11)).toNatClampNeg)) + ((v3).toInt64 * (m2_maxl ((μ).2 kM_hope ((((61 : Int32) * (v10 - 1)) + v11)).toNatClampNeg) 0))) + ((v5).toInt64 * (m2_maxl ((μ).2 kM_hope ((((61 : Int32) * (v10 - 1)) + v11)).toNatClampNeg) 0))))) := by
            refine m2_iinc hB (ls' := [.ref kM, .int v1, .int v2, .int v3, .int v4, .int v5, .int v6, .long v7, .null, .int (if v11 = (μ.1 kM_left (v1).toNatClampNeg) then (v9 + (if v11 = 0 then 1 else (if (lg_cmp ((μ).2 kM_hope ((((61 : Int32) * (v10 - 1)) + v11)).toNatClampNeg) 0) ≤ 0 then 0 else 1 : Int32) : Int32)) else v9 : Int32), .int v10, .int (v11 + 1), .long ((μ).2 kM_hope ((((61 : Int32) * (v10 - 1)) + v11)).toNatClampNeg), .null, .long 0, .null, .long 0, .null]) (v := (v11 + 1)) dX12_keep_297 rfl (by decide) rfl rfl ?_
            refine m2_goto hB dX12_keep_300 (tgt := 113) (by decide) ?_
            exact m2_weak (ls' := [.ref kM, .int v1, .int v2, .int v3, .int v4, .int v5, .int v6, .long v7, .null, .int (if v11 = (μ.1 kM_left (v1).toNatClampNeg) then (v9 + (if v11 = 0 then 1 else (if (lg_cmp ((μ).2 kM_hope ((((61 : Int32) * (v10 - 1)) + v11)).toNatClampNeg) 0) ≤ 0 then 0 else 1 : Int32) : Int32)) else v9 : Int32), .int v10, .int (v11 + 1), .null, .null, .null, .null, .null, .null]) hB ⟨Or.inr rfl, Or.inr rfl, Or.inr rfl, Or.inr rfl, Or.inr rfl, Or.inr rfl, Or.inr rfl, Or.inr rfl, Or.inl rfl, Or.inr rfl, Or.inr rfl, Or.inr rfl, Or.inl rfl, Or.inl rfl, Or.inl rfl, Or.inl rfl, Or.inl rfl, Or.inl rfl, trivial⟩ k
          refine m2_icmp_ne hB dX12_keep_271 (tgt := 297) (by decide) (fun q69 : ¬ v11 = (μ.1 kM_left (v1).toNatClampNeg) => ?_) (fun q69 : v11 = (μ.1 kM_left (v1).toNatClampNeg) => ?_)
          · rw [if_neg q69] at G70
            exact G70
          · rw [if_pos q69] at G70
            refine m2_iload hB dX12_keep_274 rfl ?_
            refine m2_iload hB dX12_keep_276 rfl ?_
            have G71 : κ 294 [.ref kM, .int v1, .int v2, .int v3, .int v4, .int v5, .int v6, .long v7, .null, .int v9, .int v10, .int v11, .long ((μ).2 kM_hope ((((61 : Int32) * (v10 - 1)) + v11)).toNatClampNeg), .null, .long 0, .null, .long 0, .null] [.int (if v11 = 0 then 1 else (if (lg_cmp ((μ).2 kM_hope ((((61 : Int32) * (v10 - 1)) + v11)).toNatClampNeg) 0) ≤ 0 then 0 else 1 : Int32) : Int32), .int v9] (m2_sl μ kM_hope (vp_updL ((μ).2 kM_hope) ((((61 : Int32) * v10) + v11)).toNatClampNeg (((((((10 : Int32) - v3) - v5)).toInt64 * ((μ).2 kM_hope ((((61 : Int32) * (v10 - 1)) + v11)).toNatClampNeg)) + ((v3).toInt64 * (m2_maxl ((μ).2 kM_hope ((((61 : Int32) * (v10 - 1)) + v11)).toNatClampNeg) 0))) + ((v5).toInt64 * (m2_maxl ((μ).2 kM_hope ((((61 : Int32) * (v10 - 1)) + v11)).toNatClampNeg) 0))))) := by
              refine m2_iadd hB dX12_keep_294 ?_
              refine m2_istore hB (ls' := [.ref kM, .int v1, .int v2, .int v3, .int v4, .int v5, .int v6, .long v7, .null, .int (v9 + (if v11 = 0 then 1 else (if (lg_cmp ((μ).2 kM_hope ((((61 : Int32) * (v10 - 1)) + v11)).toNatClampNeg) 0) ≤ 0 then 0 else 1 : Int32) : Int32)), .int v10, .int v11, .long ((μ).2 kM_hope ((((61 : Int32) * (v10 - 1)) + v11)).toNatClampNeg), .null, .long 0, .null, .long 0, .null]) dX12_keep_295 (by decide) rfl ?_
              exact G70
            refine m2_if_eq hB dX12_keep_278 (tgt := 289) (by decide) (fun q68 : v11 = 0 => ?_) (fun q68 : ¬ v11 = 0 => ?_)
            · rw [if_pos q68] at G71
              refine m2_iconst hB dX12_keep_289 (v := 1) (by decide) ?_
              refine m2_goto hB dX12_keep_290 (tgt := 294) (by decide) ?_
              exact G71
            · rw [if_neg q68] at G71
              refine m2_lload hB dX12_keep_281 rfl ?_
              refine m2_lload hB dX12_keep_283 rfl ?_
              refine m2_lcmp hB dX12_keep_285 ?_
              have G72 : κ 294 [.ref kM, .int v1, .int v2, .int v3, .int v4, .int v5, .int v6, .long v7, .null, .int v9, .int v10, .int v11, .long ((μ).2 kM_hope ((((61 : Int32) * (v10 - 1)) + v11)).toNatClampNeg), .null, .long 0, .null, .long 0, .null] [.int (if (lg_cmp ((μ).2 kM_hope ((((61 : Int32) * (v10 - 1)) + v11)).toNatClampNeg) 0) ≤ 0 then 0 else 1 : Int32), .int v9] (m2_sl μ kM_hope (vp_updL ((μ).2 kM_hope) ((((61 : Int32) * v10) + v11)).toNatClampNeg (((((((10 : Int32) - v3) - v5)).toInt64 * ((μ).2 kM_hope ((((61 : Int32) * (v10 - 1)) + v11)).toNatClampNeg)) + ((v3).toInt64 * (m2_maxl ((μ).2 kM_hope ((((61 : Int32) * (v10 - 1)) + v11)).toNatClampNeg) 0))) + ((v5).toInt64 * (m2_maxl ((μ).2 kM_hope ((((61 : Int32) * (v10 - 1)) + v11)).toNatClampNeg) 0))))) := by
                exact G71
              refine m2_if_le hB dX12_keep_286 (tgt := 293) (by decide) (fun q67 : (lg_cmp ((μ).2 kM_hope ((((61 : Int32) * (v10 - 1)) + v11)).toNatClampNeg) 0) ≤ 0 => ?_) (fun q67 : ¬ (lg_cmp ((μ).2 kM_hope ((((61 : Int32) * (v10 - 1)) + v11)).toNatClampNeg) 0) ≤ 0 => ?_)
              · rw [if_pos q67] at G72
                refine m2_iconst hB dX12_keep_293 (v := 0) (by decide) ?_
                exact G72
              · rw [if_neg q67] at G72
                refine m2_iconst hB dX12_keep_289 (v := 1) (by decide) ?_
                refine m2_goto hB dX12_keep_290 (tgt := 294) (by decide) ?_
                exact G72
        · replace k := k.2 q64
          refine m2_lconst hB dX12_keep_224 (v := 0) (by decide) ?_
          refine m2_goto hB dX12_keep_225 (tgt := 262) (by decide) ?_
          obtain ⟨hi73, k⟩ := k
          refine m2_last hB dX12_keep_262 sh_kM_hope hi73 ?_
          refine m2_iload hB dX12_keep_263 rfl ?_
          refine m2_aload_n hB dX12_keep_265 rfl ?_
          refine m2_getR hB dX12_keep_266 fl_X12_23 sh_kM (c1 := kM_left) rfl ?_
          refine m2_iload_n hB dX12_keep_269 rfl ?_
          obtain ⟨hi74, k⟩ := k
          refine m2_iald hB dX12_keep_270 sh_kM_left hi74 ?_
          have G78 : κ 297 [.ref kM, .int v1, .int v2, .int v3, .int v4, .int v5, .int v6, .long v7, .null, .int (if v11 = (μ.1 kM_left (v1).toNatClampNeg) then (v9 + (if v11 = 0 then 1 else (if (lg_cmp ((μ).2 kM_hope ((((61 : Int32) * (v10 - 1)) + v11)).toNatClampNeg) 0) ≤ 0 then 0 else 1 : Int32) : Int32)) else v9 : Int32), .int v10, .int v11, .long ((μ).2 kM_hope ((((61 : Int32) * (v10 - 1)) + v11)).toNatClampNeg), .null, .long 0, .null, .long 0, .null] [] (m2_sl μ kM_hope (vp_updL ((μ).2 kM_hope) ((((61 : Int32) * v10) + v11)).toNatClampNeg 0)) := by
            refine m2_iinc hB (ls' := [.ref kM, .int v1, .int v2, .int v3, .int v4, .int v5, .int v6, .long v7, .null, .int (if v11 = (μ.1 kM_left (v1).toNatClampNeg) then (v9 + (if v11 = 0 then 1 else (if (lg_cmp ((μ).2 kM_hope ((((61 : Int32) * (v10 - 1)) + v11)).toNatClampNeg) 0) ≤ 0 then 0 else 1 : Int32) : Int32)) else v9 : Int32), .int v10, .int (v11 + 1), .long ((μ).2 kM_hope ((((61 : Int32) * (v10 - 1)) + v11)).toNatClampNeg), .null, .long 0, .null, .long 0, .null]) (v := (v11 + 1)) dX12_keep_297 rfl (by decide) rfl rfl ?_
            refine m2_goto hB dX12_keep_300 (tgt := 113) (by decide) ?_
            exact m2_weak (ls' := [.ref kM, .int v1, .int v2, .int v3, .int v4, .int v5, .int v6, .long v7, .null, .int (if v11 = (μ.1 kM_left (v1).toNatClampNeg) then (v9 + (if v11 = 0 then 1 else (if (lg_cmp ((μ).2 kM_hope ((((61 : Int32) * (v10 - 1)) + v11)).toNatClampNeg) 0) ≤ 0 then 0 else 1 : Int32) : Int32)) else v9 : Int32), .int v10, .int (v11 + 1), .null, .null, .null, .null, .null, .null]) hB ⟨Or.inr rfl, Or.inr rfl, Or.inr rfl, Or.inr rfl, Or.inr rfl, Or.inr rfl, Or.inr rfl, Or.inr rfl, Or.inl rfl, Or.inr rfl, Or.inr rfl, Or.inr rfl, Or.inl rfl, Or.inl rfl, Or.inl rfl, Or.inl rfl, Or.inl rfl, Or.inl rfl, trivial⟩ k
          refine m2_icmp_ne hB dX12_keep_271 (tgt := 297) (by decide) (fun q77 : ¬ v11 = (μ.1 kM_left (v1).toNatClampNeg) => ?_) (fun q77 : v11 = (μ.1 kM_left (v1).toNatClampNeg) => ?_)
          · rw [if_neg q77] at G78
            exact G78
          · rw [if_pos q77] at G78
            refine m2_iload hB dX12_keep_274 rfl ?_
            refine m2_iload hB dX12_keep_276 rfl ?_
            have G79 : κ 294 [.ref kM, .int v1, .int v2, .int v3, .int v4, .int v5, .int v6, .long v7, .null, .int v9, .int v10, .int v11, .long ((μ).2 kM_hope ((((61 : Int32) * (v10 - 1)) + v11)).toNatClampNeg), .null, .long 0, .null, .long 0, .null] [.int (if v11 = 0 then 1 else (if (lg_cmp ((μ).2 kM_hope ((((61 : Int32) * (v10 - 1)) + v11)).toNatClampNeg) 0) ≤ 0 then 0 else 1 : Int32) : Int32), .int v9] (m2_sl μ kM_hope (vp_updL ((μ).2 kM_hope) ((((61 : Int32) * v10) + v11)).toNatClampNeg 0)) := by
              refine m2_iadd hB dX12_keep_294 ?_
              refine m2_istore hB (ls' := [.ref kM, .int v1, .int v2, .int v3, .int v4, .int v5, .int v6, .long v7, .null, .int (v9 + (if v11 = 0 then 1 else (if (lg_cmp ((μ).2 kM_hope ((((61 : Int32) * (v10 - 1)) + v11)).toNatClampNeg) 0) ≤ 0 then 0 else 1 : Int32) : Int32)), .int v10, .int v11, .long ((μ).2 kM_hope ((((61 : Int32) * (v10 - 1)) + v11)).toNatClampNeg), .null, .long 0, .null, .long 0, .null]) dX12_keep_295 (by decide) rfl ?_
              exact G78
            refine m2_if_eq hB dX12_keep_278 (tgt := 289) (by decide) (fun q76 : v11 = 0 => ?_) (fun q76 : ¬ v11 = 0 => ?_)
            · rw [if_pos q76] at G79
              refine m2_iconst hB dX12_keep_289 (v := 1) (by decide) ?_
              refine m2_goto hB dX12_keep_290 (tgt := 294) (by decide) ?_
              exact G79
            · rw [if_neg q76] at G79
              refine m2_lload hB dX12_keep_281 rfl ?_
              refine m2_lload hB dX12_keep_283 rfl ?_
              refine m2_lcmp hB dX12_keep_285 ?_
              have G80 : κ 294 [.ref kM, .int v1, .int v2, .int v3, .int v4, .int v5, .int v6, .long v7, .null, .int v9, .int v10, .int v11, .long ((μ).2 kM_hope ((((61 : Int32) * (v10 - 1)) + v11)).toNatClampNeg), .null, .long 0, .null, .long 0, .null] [.int (if (lg_cmp ((μ).2 kM_hope ((((61 : Int32) * (v10 - 1)) + v11)).toNatClampNeg) 0) ≤ 0 then 0 else 1 : Int32), .int v9] (m2_sl μ kM_hope (vp_updL ((μ).2 kM_hope) ((((61 : Int32) * v10) + v11)).toNatClampNeg 0)) := by
                exact G79
              refine m2_if_le hB dX12_keep_286 (tgt := 293) (by decide) (fun q75 : (lg_cmp ((μ).2 kM_hope ((((61 : Int32) * (v10 - 1)) + v11)).toNatClampNeg) 0) ≤ 0 => ?_) (fun q75 : ¬ (lg_cmp ((μ).2 kM_hope ((((61 : Int32) * (v10 - 1)) + v11)).toNatClampNeg) 0) ≤ 0 => ?_)
              · rw [if_pos q75] at G80
                refine m2_iconst hB dX12_keep_293 (v := 0) (by decide) ?_
                exact G80
              · rw [if_neg q75] at G80
                refine m2_iconst hB dX12_keep_289 (v := 1) (by decide) ?_
                refine m2_goto hB dX12_keep_290 (tgt := 294) (by decide) ?_
                exact G80
theorem dX12_sure_0 : decode cX12_sure 0 = .ok (.aload_n 0, 1) := by decide +kernel
theorem dX12_sure_1 : decode cX12_sure 1 = .ok (.iconst 0, 1) := by decide +kernel
theorem dX12_sure_2 : decode cX12_sure 2 = .ok (.putfield 143, 3) := by decide +kernel
theorem dX12_sure_5 : decode cX12_sure 5 = .ok (.iload_n 1, 1) := by decide +kernel
theorem dX12_sure_6 : decode cX12_sure 6 = .ok (.iload_n 2, 1) := by decide +kernel
theorem dX12_sure_7 : decode cX12_sure 7 = .ok (.invokestatic 326, 3) := by decide +kernel
theorem dX12_sure_10 : decode cX12_sure 10 = .ok (.ifCond .ne 5, 3) := by decide +kernel
theorem dX12_sure_13 : decode cX12_sure 13 = .ok (.iconst (-1), 1) := by decide +kernel
theorem dX12_sure_14 : decode cX12_sure 14 = .ok (.ireturn, 1) := by decide +kernel
theorem dX12_sure_15 : decode cX12_sure 15 = .ok (.bipush 60, 2) := by decide +kernel
theorem dX12_sure_17 : decode cX12_sure 17 = .ok (.istore_n 3, 1) := by decide +kernel
theorem dX12_sure_18 : decode cX12_sure 18 = .ok (.iload_n 3, 1) := by decide +kernel
theorem dX12_sure_19 : decode cX12_sure 19 = .ok (.ifCond .le 74, 3) := by decide +kernel
theorem dX12_sure_22 : decode cX12_sure 22 = .ok (.iconst 0, 1) := by decide +kernel
theorem dX12_sure_23 : decode cX12_sure 23 = .ok (.istore 4, 2) := by decide +kernel
theorem dX12_sure_25 : decode cX12_sure 25 = .ok (.iload 4, 2) := by decide +kernel
theorem dX12_sure_27 : decode cX12_sure 27 = .ok (.aload_n 0, 1) := by decide +kernel
theorem dX12_sure_28 : decode cX12_sure 28 = .ok (.getfield 153, 3) := by decide +kernel
theorem dX12_sure_31 : decode cX12_sure 31 = .ok (.if_icmp .ge 33, 3) := by decide +kernel
theorem dX12_sure_34 : decode cX12_sure 34 = .ok (.aload_n 0, 1) := by decide +kernel
theorem dX12_sure_35 : decode cX12_sure 35 = .ok (.getfield 77, 3) := by decide +kernel
theorem dX12_sure_38 : decode cX12_sure 38 = .ok (.iload 4, 2) := by decide +kernel
theorem dX12_sure_40 : decode cX12_sure 40 = .ok (.aload_n 0, 1) := by decide +kernel
theorem dX12_sure_41 : decode cX12_sure 41 = .ok (.getfield 23, 3) := by decide +kernel
theorem dX12_sure_44 : decode cX12_sure 44 = .ok (.iload 4, 2) := by decide +kernel
theorem dX12_sure_46 : decode cX12_sure 46 = .ok (.iaload, 1) := by decide +kernel
theorem dX12_sure_47 : decode cX12_sure 47 = .ok (.iload_n 3, 1) := by decide +kernel
theorem dX12_sure_48 : decode cX12_sure 48 = .ok (.if_icmp .lt 7, 3) := by decide +kernel
theorem dX12_sure_51 : decode cX12_sure 51 = .ok (.iconst 1, 1) := by decide +kernel
theorem dX12_sure_52 : decode cX12_sure 52 = .ok (.goto 5, 3) := by decide +kernel
theorem dX12_sure_55 : decode cX12_sure 55 = .ok (.ldc 244, 2) := by decide +kernel
theorem dX12_sure_57 : decode cX12_sure 57 = .ok (.iastore, 1) := by decide +kernel
theorem dX12_sure_58 : decode cX12_sure 58 = .ok (.iinc 4 1, 3) := by decide +kernel
theorem dX12_sure_61 : decode cX12_sure 61 = .ok (.goto (-36), 3) := by decide +kernel
theorem dX12_sure_64 : decode cX12_sure 64 = .ok (.aload_n 0, 1) := by decide +kernel
theorem dX12_sure_65 : decode cX12_sure 65 = .ok (.iload_n 1, 1) := by decide +kernel
theorem dX12_sure_66 : decode cX12_sure 66 = .ok (.iload_n 2, 1) := by decide +kernel
theorem dX12_sure_67 : decode cX12_sure 67 = .ok (.invokevirtual 245, 3) := by decide +kernel
theorem dX12_sure_70 : decode cX12_sure 70 = .ok (.ifCond .ne 6, 3) := by decide +kernel
theorem dX12_sure_73 : decode cX12_sure 73 = .ok (.goto 14, 3) := by decide +kernel
theorem dX12_sure_76 : decode cX12_sure 76 = .ok (.aload_n 0, 1) := by decide +kernel
theorem dX12_sure_77 : decode cX12_sure 77 = .ok (.iconst 0, 1) := by decide +kernel
theorem dX12_sure_78 : decode cX12_sure 78 = .ok (.putfield 146, 3) := by decide +kernel
theorem dX12_sure_81 : decode cX12_sure 81 = .ok (.aload_n 0, 1) := by decide +kernel
theorem dX12_sure_82 : decode cX12_sure 82 = .ok (.invokevirtual 308, 3) := by decide +kernel
theorem dX12_sure_85 : decode cX12_sure 85 = .ok (.iload_n 3, 1) := by decide +kernel
theorem dX12_sure_86 : decode cX12_sure 86 = .ok (.ireturn, 1) := by decide +kernel
theorem dX12_sure_87 : decode cX12_sure 87 = .ok (.iinc 3 (-1), 3) := by decide +kernel
theorem dX12_sure_90 : decode cX12_sure 90 = .ok (.goto (-72), 3) := by decide +kernel
theorem dX12_sure_93 : decode cX12_sure 93 = .ok (.bipush (-2), 2) := by decide +kernel
theorem dX12_sure_95 : decode cX12_sure 95 = .ok (.ireturn, 1) := by decide +kernel
set_option maxRecDepth 100000 in
set_option maxHeartbeats 4000000 in
theorem B_X12_sure_0 {κ : Nat → List Value → List Value → m2M → Prop} {D : Nat} {Q : Option Value → m2M → Prop} (h : m2_RL κ cX12_sure RX12 5 (D + 1) (some .int) Q) (hD : 2 ≤ D) {x1 : Int32} {x2 : Int32} {μ : m2M} (k : ((fX12_areEnds x1 x2) = 1 → κ 18 [.ref kM, .int x1, .int x2, .int 60, .null] [] (m2_si μ kM 22 0)) ∧ (¬ (fX12_areEnds x1 x2) = 1 → Q (some (.int (-1))) (m2_si μ kM 22 0))) : κ 0 [.ref kM, .int x1, .int x2, .null, .null] [] μ := by
  have hB := h.b
  refine m2_aload_n hB dX12_sure_0 rfl ?_
  refine m2_iconst hB dX12_sure_1 (v := 0) (by decide) ?_
  refine m2_putI hB dX12_sure_2 fl_X12_143 sh_kM rfl ?_
  refine m2_iload_n hB dX12_sure_5 rfl ?_
  refine m2_iload_n hB dX12_sure_6 rfl ?_
  refine m2_invSz hB (as := [.int x1, .int x2]) dX12_sure_7 ms_X12_326 rfl (Nat.le_of_ble_eq_true rfl) rfl (P_X12_areEnds (by omega) (x1) (x2) _ ) (fun y1 μ2 hq3 => ?_)
  obtain ⟨⟨⟩, hq3⟩ := hq3
  subst μ2
  show κ 10 [.ref kM, .int x1, .int x2, .null, .null] [.int (if (fX12_areEnds x1 x2) = 1 then 1 else 0 : Int32)] (m2_si μ kM 22 0)
  by_cases q4 : (fX12_areEnds x1 x2) = 1
  · rw [if_pos q4]
    replace k := k.1 q4
    refine m2_if_ne hB dX12_sure_10 (tgt := 15) (by decide) (fun _ => ?_) (fun q => absurd q (by decide))
    refine m2_bipush hB dX12_sure_15 (v := 60) (by decide) ?_
    refine m2_istore_n hB (ls' := [.ref kM, .int x1, .int x2, .int 60, .null]) dX12_sure_17 rfl (by decide) rfl ?_
    exact k
  · rw [if_neg q4]
    replace k := k.2 q4
    refine m2_if_ne hB dX12_sure_10 (tgt := 15) (by decide) (fun q => absurd q (by decide)) (fun _ => ?_)
    refine m2_iconst hB dX12_sure_13 (v := (-1)) (by decide) ?_
    exact m2_iret h dX12_sure_14 k
set_option maxRecDepth 100000 in
set_option maxHeartbeats 4000000 in
theorem B_X12_sure_18 {κ : Nat → List Value → List Value → m2M → Prop} {D : Nat} {Q : Option Value → m2M → Prop} (h : m2_RL κ cX12_sure RX12 5 D (some .int) Q) {v1 : Int32} {v2 : Int32} {v3 : Int32} {μ : m2M} (k : (v3 ≤ 0 → Q (some (.int (-2))) μ) ∧ (¬ v3 ≤ 0 → κ 25 [.ref kM, .int v1, .int v2, .int v3, .int 0] [] μ)) : κ 18 [.ref kM, .int v1, .int v2, .int v3, .null] [] μ := by
  have hB := h.b
  refine m2_iload_n hB dX12_sure_18 rfl ?_
  refine m2_if_le hB dX12_sure_19 (tgt := 93) (by decide) (fun q1 : v3 ≤ 0 => ?_) (fun q1 : ¬ v3 ≤ 0 => ?_)
  · replace k := k.1 q1
    refine m2_bipush hB dX12_sure_93 (v := (-2)) (by decide) ?_
    exact m2_iret h dX12_sure_95 k
  · replace k := k.2 q1
    refine m2_iconst hB dX12_sure_22 (v := 0) (by decide) ?_
    refine m2_istore hB (ls' := [.ref kM, .int v1, .int v2, .int v3, .int 0]) dX12_sure_23 (by decide) rfl ?_
    exact k
set_option maxRecDepth 100000 in
set_option maxHeartbeats 4000000 in
theorem B_X12_sure_25 {κ : Nat → List Value → List Value → m2M → Prop} {D : Nat} {Q : Option Value → m2M → Prop} (h : m2_RL κ cX12_sure RX12 5 (D + 1) (some .int) Q) {v1 : Int32} {v2 : Int32} {v3 : Int32} {v4 : Int32} {μ : m2M} (k : ((μ.1 kM 0) ≤ v4 → ∃ Q5 : Option Value → m2M → Prop, m2_MT D yX12_findWay cX12_findWay 7 (some .boolean) [.ref kM, .int v1, .int v2] μ Q5 ∧ ∀ (y3 : Int32) (μ4 : m2M), Q5 (some (.int y3)) μ4 → ((¬ y3 = 0 → ∃ Q11 : Option Value → m2M → Prop, m2_MT D yX12_tellWay cX12_tellWay 2 none [.ref kM] (m2_si μ4 kM 21 0) Q11 ∧ ∀ (μ10 : m2M), Q11 none μ10 → (Q (some (.int v3)) μ10)) ∧ (y3 = 0 → κ 18 [.ref kM, .int v1, .int v2, .int (v3 + (-1)), .null] [] μ4))) ∧ (¬ (μ.1 kM 0) ≤ v4 → (vp_in v4 20) ∧ (κ 25 [.ref kM, .int v1, .int v2, .int v3, .int (v4 + 1)] [] (m2_si μ kM_cost (v4).toNatClampNeg (if (μ.1 kM_left (v4).toNatClampNeg) < v3 then 100000000 else 1 : Int32))))) : κ 25 [.ref kM, .int v1, .int v2, .int v3, .int v4] [] μ := by
  have hB := h.b
  refine m2_iload hB dX12_sure_25 rfl ?_
  refine m2_aload_n hB dX12_sure_27 rfl ?_
  refine m2_getI hB dX12_sure_28 fl_X12_153 sh_kM rfl ?_
  refine m2_icmp_ge hB dX12_sure_31 (tgt := 64) (by decide) (fun q2 : (μ.1 kM 0) ≤ v4 => ?_) (fun q2 : ¬ (μ.1 kM 0) ≤ v4 => ?_)
  · replace k := k.1 q2
    refine m2_aload_n hB dX12_sure_64 rfl ?_
    refine m2_iload_n hB dX12_sure_65 rfl ?_
    refine m2_iload_n hB dX12_sure_66 rfl ?_
    obtain ⟨Q5, hM6, k⟩ := k
    refine m2_invz hB (as := [.int v1, .int v2]) dX12_sure_67 mv_X12_245 rfl sh_kM rfl (Nat.le_of_ble_eq_true rfl) rfl hM6 (fun y3 μ4 hq7 => ?_)
    replace k := k y3 μ4 hq7
    refine m2_if_ne hB dX12_sure_70 (tgt := 76) (by decide) (fun q8 : ¬ y3 = 0 => ?_) (fun q8 : y3 = 0 => ?_)
    · replace k := k.1 q8
      refine m2_aload_n hB dX12_sure_76 rfl ?_
      refine m2_iconst hB dX12_sure_77 (v := 0) (by decide) ?_
      refine m2_putI hB dX12_sure_78 fl_X12_146 sh_kM rfl ?_
      refine m2_aload_n hB dX12_sure_81 rfl ?_
      obtain ⟨Q11, hM12, k⟩ := k
      refine m2_invv hB (as := []) dX12_sure_82 mv_X12_308 rfl sh_kM rfl (Nat.le_of_ble_eq_true rfl) rfl hM12 (fun μ10 hq13 => ?_)
      replace k := k μ10 hq13
      refine m2_iload_n hB dX12_sure_85 rfl ?_
      exact m2_iret h dX12_sure_86 k
    · replace k := k.2 q8
      refine m2_goto hB dX12_sure_73 (tgt := 87) (by decide) ?_
      refine m2_iinc hB (ls' := [.ref kM, .int v1, .int v2, .int (v3 + (-1)), .int v4]) (v := (v3 + (-1))) dX12_sure_87 rfl (by decide) rfl rfl ?_
      refine m2_goto hB dX12_sure_90 (tgt := 18) (by decide) ?_
      exact m2_weak (ls' := [.ref kM, .int v1, .int v2, .int (v3 + (-1)), .null]) hB ⟨Or.inr rfl, Or.inr rfl, Or.inr rfl, Or.inr rfl, Or.inl rfl, trivial⟩ k
  · replace k := k.2 q2
    refine m2_aload_n hB dX12_sure_34 rfl ?_
    refine m2_getR hB dX12_sure_35 fl_X12_77 sh_kM (c1 := kM_cost) rfl ?_
    refine m2_iload hB dX12_sure_38 rfl ?_
    refine m2_aload_n hB dX12_sure_40 rfl ?_
    refine m2_getR hB dX12_sure_41 fl_X12_23 sh_kM (c1 := kM_left) rfl ?_
    refine m2_iload hB dX12_sure_44 rfl ?_
    obtain ⟨hi14, k⟩ := k
    refine m2_iald hB dX12_sure_46 sh_kM_left hi14 ?_
    refine m2_iload_n hB dX12_sure_47 rfl ?_
    have G16 : κ 57 [.ref kM, .int v1, .int v2, .int v3, .int v4] [.int (if (μ.1 kM_left (v4).toNatClampNeg) < v3 then 100000000 else 1 : Int32), .int v4, .ref kM_cost] μ := by
      have hi17 := hi14
      refine m2_iast hB dX12_sure_57 sh_kM_cost hi17 ?_
      refine m2_iinc hB (ls' := [.ref kM, .int v1, .int v2, .int v3, .int (v4 + 1)]) (v := (v4 + 1)) dX12_sure_58 rfl (by decide) rfl rfl ?_
      refine m2_goto hB dX12_sure_61 (tgt := 25) (by decide) ?_
      exact k
    refine m2_icmp_lt hB dX12_sure_48 (tgt := 55) (by decide) (fun q15 : (μ.1 kM_left (v4).toNatClampNeg) < v3 => ?_) (fun q15 : ¬ (μ.1 kM_left (v4).toNatClampNeg) < v3 => ?_)
    · rw [if_pos q15] at G16
      refine m2_ldc hB kc_X12_244 dX12_sure_55 ?_
      exact G16
    · rw [if_neg q15] at G16
      refine m2_iconst hB dX12_sure_51 (v := 1) (by decide) ?_
      refine m2_goto hB dX12_sure_52 (tgt := 57) (by decide) ?_
      exact G16
theorem dX12_says_0 : decode cX12_says 0 = .ok (.aload_n 0, 1) := by decide +kernel
theorem dX12_says_1 : decode cX12_says 1 = .ok (.iconst 0, 1) := by decide +kernel
theorem dX12_says_2 : decode cX12_says 2 = .ok (.putfield 143, 3) := by decide +kernel
theorem dX12_says_5 : decode cX12_says 5 = .ok (.iload_n 1, 1) := by decide +kernel
theorem dX12_says_6 : decode cX12_says 6 = .ok (.iconst 0, 1) := by decide +kernel
theorem dX12_says_7 : decode cX12_says 7 = .ok (.iconst 3, 1) := by decide +kernel
theorem dX12_says_8 : decode cX12_says 8 = .ok (.invokestatic 149, 3) := by decide +kernel
theorem dX12_says_11 : decode cX12_says 11 = .ok (.ifCond .eq 30, 3) := by decide +kernel
theorem dX12_says_14 : decode cX12_says 14 = .ok (.aload_n 0, 1) := by decide +kernel
theorem dX12_says_15 : decode cX12_says 15 = .ok (.iload_n 2, 1) := by decide +kernel
theorem dX12_says_16 : decode cX12_says 16 = .ok (.invokevirtual 288, 3) := by decide +kernel
theorem dX12_says_19 : decode cX12_says 19 = .ok (.ifCond .eq 22, 3) := by decide +kernel
theorem dX12_says_22 : decode cX12_says 22 = .ok (.iload_n 3, 1) := by decide +kernel
theorem dX12_says_23 : decode cX12_says 23 = .ok (.iconst 0, 1) := by decide +kernel
theorem dX12_says_24 : decode cX12_says 24 = .ok (.bipush 60, 2) := by decide +kernel
theorem dX12_says_26 : decode cX12_says 26 = .ok (.invokestatic 149, 3) := by decide +kernel
theorem dX12_says_29 : decode cX12_says 29 = .ok (.ifCond .eq 12, 3) := by decide +kernel
theorem dX12_says_32 : decode cX12_says 32 = .ok (.aload_n 0, 1) := by decide +kernel
theorem dX12_says_33 : decode cX12_says 33 = .ok (.getfield 436, 3) := by decide +kernel
theorem dX12_says_36 : decode cX12_says 36 = .ok (.bipush 20, 2) := by decide +kernel
theorem dX12_says_38 : decode cX12_says 38 = .ok (.if_icmp .ne 5, 3) := by decide +kernel
theorem dX12_says_41 : decode cX12_says 41 = .ok (.iconst (-1), 1) := by decide +kernel
theorem dX12_says_42 : decode cX12_says 42 = .ok (.ireturn, 1) := by decide +kernel
theorem dX12_says_43 : decode cX12_says 43 = .ok (.aload_n 0, 1) := by decide +kernel
theorem dX12_says_44 : decode cX12_says 44 = .ok (.getfield 125, 3) := by decide +kernel
theorem dX12_says_47 : decode cX12_says 47 = .ok (.aload_n 0, 1) := by decide +kernel
theorem dX12_says_48 : decode cX12_says 48 = .ok (.getfield 436, 3) := by decide +kernel
theorem dX12_says_51 : decode cX12_says 51 = .ok (.iload_n 1, 1) := by decide +kernel
theorem dX12_says_52 : decode cX12_says 52 = .ok (.iastore, 1) := by decide +kernel
theorem dX12_says_53 : decode cX12_says 53 = .ok (.aload_n 0, 1) := by decide +kernel
theorem dX12_says_54 : decode cX12_says 54 = .ok (.getfield 128, 3) := by decide +kernel
theorem dX12_says_57 : decode cX12_says 57 = .ok (.aload_n 0, 1) := by decide +kernel
theorem dX12_says_58 : decode cX12_says 58 = .ok (.getfield 436, 3) := by decide +kernel
theorem dX12_says_61 : decode cX12_says 61 = .ok (.iload_n 2, 1) := by decide +kernel
theorem dX12_says_62 : decode cX12_says 62 = .ok (.iastore, 1) := by decide +kernel
theorem dX12_says_63 : decode cX12_says 63 = .ok (.aload_n 0, 1) := by decide +kernel
theorem dX12_says_64 : decode cX12_says 64 = .ok (.getfield 131, 3) := by decide +kernel
theorem dX12_says_67 : decode cX12_says 67 = .ok (.aload_n 0, 1) := by decide +kernel
theorem dX12_says_68 : decode cX12_says 68 = .ok (.getfield 436, 3) := by decide +kernel
theorem dX12_says_71 : decode cX12_says 71 = .ok (.iload_n 3, 1) := by decide +kernel
theorem dX12_says_72 : decode cX12_says 72 = .ok (.iastore, 1) := by decide +kernel
theorem dX12_says_73 : decode cX12_says 73 = .ok (.aload_n 0, 1) := by decide +kernel
theorem dX12_says_74 : decode cX12_says 74 = .ok (.dup, 1) := by decide +kernel
theorem dX12_says_75 : decode cX12_says 75 = .ok (.getfield 436, 3) := by decide +kernel
theorem dX12_says_78 : decode cX12_says 78 = .ok (.iconst 1, 1) := by decide +kernel
theorem dX12_says_79 : decode cX12_says 79 = .ok (.iadd, 1) := by decide +kernel
theorem dX12_says_80 : decode cX12_says 80 = .ok (.putfield 436, 3) := by decide +kernel
theorem dX12_says_83 : decode cX12_says 83 = .ok (.aload_n 0, 1) := by decide +kernel
theorem dX12_says_84 : decode cX12_says 84 = .ok (.getfield 436, 3) := by decide +kernel
theorem dX12_says_87 : decode cX12_says 87 = .ok (.ireturn, 1) := by decide +kernel
set_option maxRecDepth 100000 in
set_option maxHeartbeats 4000000 in
theorem B_X12_says_0 {κ : Nat → List Value → List Value → m2M → Prop} {D : Nat} {Q : Option Value → m2M → Prop} (h : m2_RL κ cX12_says RX12 4 (D + 1) (some .int) Q) (hD : 1 ≤ D) {x1 : Int32} {x2 : Int32} {x3 : Int32} {μ : m2M} (k : ((fX12_in x1 0 3) = 1 → ((fX12_isDoor x2 (m2_si μ kM 22 0)) = 1 → ((fX12_in x3 0 60) = 1 → (¬ (μ.1 kM 64) = 20 → (vp_in (μ.1 kM 64) 20) ∧ (Q (some (.int ((μ.1 kM 64) + 1))) (m2_si (m2_si (m2_si (m2_si (m2_si μ kM 22 0) kM_saysWho ((μ.1 kM 64)).toNatClampNeg x1) kM_saysDoor ((μ.1 kM 64)).toNatClampNeg x2) kM_saysNumber ((μ.1 kM 64)).toNatClampNeg x3) kM 64 ((μ.1 kM 64) + 1)))) ∧ ((μ.1 kM 64) = 20 → Q (some (.int (-1))) (m2_si μ kM 22 0))) ∧ (¬ (fX12_in x3 0 60) = 1 → Q (some (.int (-1))) (m2_si μ kM 22 0))) ∧ (¬ (fX12_isDoor x2 (m2_si μ kM 22 0)) = 1 → Q (some (.int (-1))) (m2_si μ kM 22 0))) ∧ (¬ (fX12_in x1 0 3) = 1 → Q (some (.int (-1))) (m2_si μ kM 22 0))) : κ 0 [.ref kM, .int x1, .int x2, .int x3] [] μ := by
  have hB := h.b
  refine m2_aload_n hB dX12_says_0 rfl ?_
  refine m2_iconst hB dX12_says_1 (v := 0) (by decide) ?_
  refine m2_putI hB dX12_says_2 fl_X12_143 sh_kM rfl ?_
  refine m2_iload_n hB dX12_says_5 rfl ?_
  refine m2_iconst hB dX12_says_6 (v := 0) (by decide) ?_
  refine m2_iconst hB dX12_says_7 (v := 3) (by decide) ?_
  refine m2_invSz hB (as := [.int x1, .int 0, .int 3]) dX12_says_8 ms_X12_149 rfl (Nat.le_of_ble_eq_true rfl) rfl (P_X12_in (by omega) (x1) (0) (3) _ ) (fun y1 μ2 hq3 => ?_)
  obtain ⟨⟨⟩, hq3⟩ := hq3
  subst μ2
  show κ 11 [.ref kM, .int x1, .int x2, .int x3] [.int (if (fX12_in x1 0 3) = 1 then 1 else 0 : Int32)] (m2_si μ kM 22 0)
  by_cases q4 : (fX12_in x1 0 3) = 1
  · rw [if_pos q4]
    replace k := k.1 q4
    refine m2_if_eq hB dX12_says_11 (tgt := 41) (by decide) (fun q => absurd q (by decide)) (fun _ => ?_)
    refine m2_aload_n hB dX12_says_14 rfl ?_
    refine m2_iload_n hB dX12_says_15 rfl ?_
    refine m2_invz hB (as := [.int x2]) dX12_says_16 mv_X12_288 rfl sh_kM rfl (Nat.le_of_ble_eq_true rfl) rfl (P_X12_isDoor (by omega) (x2) _ ) (fun y5 μ6 hq7 => ?_)
    obtain ⟨⟨⟩, hq7⟩ := hq7
    subst μ6
    show κ 19 [.ref kM, .int x1, .int x2, .int x3] [.int (if (fX12_isDoor x2 (m2_si μ kM 22 0)) = 1 then 1 else 0 : Int32)] (m2_si μ kM 22 0)
    by_cases q8 : (fX12_isDoor x2 (m2_si μ kM 22 0)) = 1
    · rw [if_pos q8]
      replace k := k.1 q8
      refine m2_if_eq hB dX12_says_19 (tgt := 41) (by decide) (fun q => absurd q (by decide)) (fun _ => ?_)
      refine m2_iload_n hB dX12_says_22 rfl ?_
      refine m2_iconst hB dX12_says_23 (v := 0) (by decide) ?_
      refine m2_bipush hB dX12_says_24 (v := 60) (by decide) ?_
      refine m2_invSz hB (as := [.int x3, .int 0, .int 60]) dX12_says_26 ms_X12_149 rfl (Nat.le_of_ble_eq_true rfl) rfl (P_X12_in (by omega) (x3) (0) (60) _ ) (fun y9 μ10 hq11 => ?_)
      obtain ⟨⟨⟩, hq11⟩ := hq11
      subst μ10
      show κ 29 [.ref kM, .int x1, .int x2, .int x3] [.int (if (fX12_in x3 0 60) = 1 then 1 else 0 : Int32)] (m2_si μ kM 22 0)
      by_cases q12 : (fX12_in x3 0 60) = 1
      · rw [if_pos q12]
        replace k := k.1 q12
        refine m2_if_eq hB dX12_says_29 (tgt := 41) (by decide) (fun q => absurd q (by decide)) (fun _ => ?_)
        refine m2_aload_n hB dX12_says_32 rfl ?_
        refine m2_getI hB dX12_says_33 fl_X12_436 sh_kM rfl ?_
        refine m2_bipush hB dX12_says_36 (v := 20) (by decide) ?_
        refine m2_icmp_ne hB dX12_says_38 (tgt := 43) (by decide) (fun q13 : ¬ (μ.1 kM 64) = 20 => ?_) (fun q13 : (μ.1 kM 64) = 20 => ?_)
        · replace k := k.1 q13
          refine m2_aload_n hB dX12_says_43 rfl ?_
          refine m2_getR hB dX12_says_44 fl_X12_125 sh_kM (c1 := kM_saysWho) rfl ?_
          refine m2_aload_n hB dX12_says_47 rfl ?_
          refine m2_getI hB dX12_says_48 fl_X12_436 sh_kM rfl ?_
          refine m2_iload_n hB dX12_says_51 rfl ?_
          obtain ⟨hi14, k⟩ := k
          refine m2_iast hB dX12_says_52 sh_kM_saysWho hi14 ?_
          refine m2_aload_n hB dX12_says_53 rfl ?_
          refine m2_getR hB dX12_says_54 fl_X12_128 sh_kM (c1 := kM_saysDoor) rfl ?_
          refine m2_aload_n hB dX12_says_57 rfl ?_
          refine m2_getI hB dX12_says_58 fl_X12_436 sh_kM rfl ?_
          refine m2_iload_n hB dX12_says_61 rfl ?_
          have hi15 := hi14
          refine m2_iast hB dX12_says_62 sh_kM_saysDoor hi15 ?_
          refine m2_aload_n hB dX12_says_63 rfl ?_
          refine m2_getR hB dX12_says_64 fl_X12_131 sh_kM (c1 := kM_saysNumber) rfl ?_
          refine m2_aload_n hB dX12_says_67 rfl ?_
          refine m2_getI hB dX12_says_68 fl_X12_436 sh_kM rfl ?_
          refine m2_iload_n hB dX12_says_71 rfl ?_
          have hi16 := hi14
          refine m2_iast hB dX12_says_72 sh_kM_saysNumber hi16 ?_
          refine m2_aload_n hB dX12_says_73 rfl ?_
          refine m2_dup hB dX12_says_74 rfl ?_
          refine m2_getI hB dX12_says_75 fl_X12_436 sh_kM rfl ?_
          refine m2_iconst hB dX12_says_78 (v := 1) (by decide) ?_
          refine m2_iadd hB dX12_says_79 ?_
          refine m2_putI hB dX12_says_80 fl_X12_436 sh_kM rfl ?_
          refine m2_aload_n hB dX12_says_83 rfl ?_
          refine m2_getI hB dX12_says_84 fl_X12_436 sh_kM rfl ?_
          exact m2_iret h dX12_says_87 k
        · replace k := k.2 q13
          refine m2_iconst hB dX12_says_41 (v := (-1)) (by decide) ?_
          exact m2_iret h dX12_says_42 k
      · rw [if_neg q12]
        replace k := k.2 q12
        refine m2_if_eq hB dX12_says_29 (tgt := 41) (by decide) (fun _ => ?_) (fun q => absurd q (by decide))
        refine m2_iconst hB dX12_says_41 (v := (-1)) (by decide) ?_
        exact m2_iret h dX12_says_42 k
    · rw [if_neg q8]
      replace k := k.2 q8
      refine m2_if_eq hB dX12_says_19 (tgt := 41) (by decide) (fun _ => ?_) (fun q => absurd q (by decide))
      refine m2_iconst hB dX12_says_41 (v := (-1)) (by decide) ?_
      exact m2_iret h dX12_says_42 k
  · rw [if_neg q4]
    replace k := k.2 q4
    refine m2_if_eq hB dX12_says_11 (tgt := 41) (by decide) (fun _ => ?_) (fun q => absurd q (by decide))
    refine m2_iconst hB dX12_says_41 (v := (-1)) (by decide) ?_
    exact m2_iret h dX12_says_42 k
theorem dX12_trust_0 : decode cX12_trust 0 = .ok (.aload_n 0, 1) := by decide +kernel
theorem dX12_trust_1 : decode cX12_trust 1 = .ok (.iconst 0, 1) := by decide +kernel
theorem dX12_trust_2 : decode cX12_trust 2 = .ok (.putfield 143, 3) := by decide +kernel
theorem dX12_trust_5 : decode cX12_trust 5 = .ok (.iload_n 1, 1) := by decide +kernel
theorem dX12_trust_6 : decode cX12_trust 6 = .ok (.iconst 0, 1) := by decide +kernel
theorem dX12_trust_7 : decode cX12_trust 7 = .ok (.iconst 3, 1) := by decide +kernel
theorem dX12_trust_8 : decode cX12_trust 8 = .ok (.invokestatic 149, 3) := by decide +kernel
theorem dX12_trust_11 : decode cX12_trust 11 = .ok (.ifCond .ne 5, 3) := by decide +kernel
theorem dX12_trust_14 : decode cX12_trust 14 = .ok (.iconst (-1), 1) := by decide +kernel
theorem dX12_trust_15 : decode cX12_trust 15 = .ok (.ireturn, 1) := by decide +kernel
theorem dX12_trust_16 : decode cX12_trust 16 = .ok (.iconst 0, 1) := by decide +kernel
theorem dX12_trust_17 : decode cX12_trust 17 = .ok (.istore_n 2, 1) := by decide +kernel
theorem dX12_trust_18 : decode cX12_trust 18 = .ok (.iconst 0, 1) := by decide +kernel
theorem dX12_trust_19 : decode cX12_trust 19 = .ok (.istore_n 3, 1) := by decide +kernel
theorem dX12_trust_20 : decode cX12_trust 20 = .ok (.iconst 0, 1) := by decide +kernel
theorem dX12_trust_21 : decode cX12_trust 21 = .ok (.istore 4, 2) := by decide +kernel
theorem dX12_trust_23 : decode cX12_trust 23 = .ok (.iconst 0, 1) := by decide +kernel
theorem dX12_trust_24 : decode cX12_trust 24 = .ok (.istore 5, 2) := by decide +kernel
theorem dX12_trust_26 : decode cX12_trust 26 = .ok (.iload 5, 2) := by decide +kernel
theorem dX12_trust_28 : decode cX12_trust 28 = .ok (.aload_n 0, 1) := by decide +kernel
theorem dX12_trust_29 : decode cX12_trust 29 = .ok (.getfield 436, 3) := by decide +kernel
theorem dX12_trust_32 : decode cX12_trust 32 = .ok (.if_icmp .ge 71, 3) := by decide +kernel
theorem dX12_trust_35 : decode cX12_trust 35 = .ok (.aload_n 0, 1) := by decide +kernel
theorem dX12_trust_36 : decode cX12_trust 36 = .ok (.getfield 125, 3) := by decide +kernel
theorem dX12_trust_39 : decode cX12_trust 39 = .ok (.iload 5, 2) := by decide +kernel
theorem dX12_trust_41 : decode cX12_trust 41 = .ok (.iaload, 1) := by decide +kernel
theorem dX12_trust_42 : decode cX12_trust 42 = .ok (.iload_n 1, 1) := by decide +kernel
theorem dX12_trust_43 : decode cX12_trust 43 = .ok (.if_icmp .eq 6, 3) := by decide +kernel
theorem dX12_trust_46 : decode cX12_trust 46 = .ok (.goto 51, 3) := by decide +kernel
theorem dX12_trust_49 : decode cX12_trust 49 = .ok (.aload_n 0, 1) := by decide +kernel
theorem dX12_trust_50 : decode cX12_trust 50 = .ok (.getfield 131, 3) := by decide +kernel
theorem dX12_trust_53 : decode cX12_trust 53 = .ok (.iload 5, 2) := by decide +kernel
theorem dX12_trust_55 : decode cX12_trust 55 = .ok (.iaload, 1) := by decide +kernel
theorem dX12_trust_56 : decode cX12_trust 56 = .ok (.aload_n 0, 1) := by decide +kernel
theorem dX12_trust_57 : decode cX12_trust 57 = .ok (.getfield 23, 3) := by decide +kernel
theorem dX12_trust_60 : decode cX12_trust 60 = .ok (.aload_n 0, 1) := by decide +kernel
theorem dX12_trust_61 : decode cX12_trust 61 = .ok (.getfield 128, 3) := by decide +kernel
theorem dX12_trust_64 : decode cX12_trust 64 = .ok (.iload 5, 2) := by decide +kernel
theorem dX12_trust_66 : decode cX12_trust 66 = .ok (.iaload, 1) := by decide +kernel
theorem dX12_trust_67 : decode cX12_trust 67 = .ok (.iaload, 1) := by decide +kernel
theorem dX12_trust_68 : decode cX12_trust 68 = .ok (.isub, 1) := by decide +kernel
theorem dX12_trust_69 : decode cX12_trust 69 = .ok (.invokestatic 439, 3) := by decide +kernel
theorem dX12_trust_72 : decode cX12_trust 72 = .ok (.istore 6, 2) := by decide +kernel
theorem dX12_trust_74 : decode cX12_trust 74 = .ok (.iload_n 2, 1) := by decide +kernel
theorem dX12_trust_75 : decode cX12_trust 75 = .ok (.iload 6, 2) := by decide +kernel
theorem dX12_trust_77 : decode cX12_trust 77 = .ok (.ifCond .ne 7, 3) := by decide +kernel
theorem dX12_trust_80 : decode cX12_trust 80 = .ok (.iconst 1, 1) := by decide +kernel
theorem dX12_trust_81 : decode cX12_trust 81 = .ok (.goto 4, 3) := by decide +kernel
theorem dX12_trust_84 : decode cX12_trust 84 = .ok (.iconst 0, 1) := by decide +kernel
theorem dX12_trust_85 : decode cX12_trust 85 = .ok (.iadd, 1) := by decide +kernel
theorem dX12_trust_86 : decode cX12_trust 86 = .ok (.istore_n 2, 1) := by decide +kernel
theorem dX12_trust_87 : decode cX12_trust 87 = .ok (.iload 4, 2) := by decide +kernel
theorem dX12_trust_89 : decode cX12_trust 89 = .ok (.iload 6, 2) := by decide +kernel
theorem dX12_trust_91 : decode cX12_trust 91 = .ok (.iadd, 1) := by decide +kernel
theorem dX12_trust_92 : decode cX12_trust 92 = .ok (.istore 4, 2) := by decide +kernel
theorem dX12_trust_94 : decode cX12_trust 94 = .ok (.iinc 3 1, 3) := by decide +kernel
theorem dX12_trust_97 : decode cX12_trust 97 = .ok (.iinc 5 1, 3) := by decide +kernel
theorem dX12_trust_100 : decode cX12_trust 100 = .ok (.goto (-74), 3) := by decide +kernel
theorem dX12_trust_103 : decode cX12_trust 103 = .ok (.aload_n 0, 1) := by decide +kernel
theorem dX12_trust_104 : decode cX12_trust 104 = .ok (.iconst 0, 1) := by decide +kernel
theorem dX12_trust_105 : decode cX12_trust 105 = .ok (.putfield 146, 3) := by decide +kernel
theorem dX12_trust_108 : decode cX12_trust 108 = .ok (.aload_n 0, 1) := by decide +kernel
theorem dX12_trust_109 : decode cX12_trust 109 = .ok (.iload_n 3, 1) := by decide +kernel
theorem dX12_trust_110 : decode cX12_trust 110 = .ok (.i2l, 1) := by decide +kernel
theorem dX12_trust_111 : decode cX12_trust 111 = .ok (.invokevirtual 278, 3) := by decide +kernel
theorem dX12_trust_114 : decode cX12_trust 114 = .ok (.aload_n 0, 1) := by decide +kernel
theorem dX12_trust_115 : decode cX12_trust 115 = .ok (.iload 4, 2) := by decide +kernel
theorem dX12_trust_117 : decode cX12_trust 117 = .ok (.i2l, 1) := by decide +kernel
theorem dX12_trust_118 : decode cX12_trust 118 = .ok (.invokevirtual 278, 3) := by decide +kernel
theorem dX12_trust_121 : decode cX12_trust 121 = .ok (.iload_n 2, 1) := by decide +kernel
theorem dX12_trust_122 : decode cX12_trust 122 = .ok (.ireturn, 1) := by decide +kernel
set_option maxRecDepth 100000 in
set_option maxHeartbeats 4000000 in
theorem B_X12_trust_0 {κ : Nat → List Value → List Value → m2M → Prop} {D : Nat} {Q : Option Value → m2M → Prop} (h : m2_RL κ cX12_trust RX12 7 (D + 1) (some .int) Q) (hD : 0 ≤ D) {x1 : Int32} {μ : m2M} (k : ((fX12_in x1 0 3) = 1 → κ 26 [.ref kM, .int x1, .int 0, .int 0, .int 0, .int 0, .null] [] (m2_si μ kM 22 0)) ∧ (¬ (fX12_in x1 0 3) = 1 → Q (some (.int (-1))) (m2_si μ kM 22 0))) : κ 0 [.ref kM, .int x1, .null, .null, .null, .null, .null] [] μ := by
  have hB := h.b
  refine m2_aload_n hB dX12_trust_0 rfl ?_
  refine m2_iconst hB dX12_trust_1 (v := 0) (by decide) ?_
  refine m2_putI hB dX12_trust_2 fl_X12_143 sh_kM rfl ?_
  refine m2_iload_n hB dX12_trust_5 rfl ?_
  refine m2_iconst hB dX12_trust_6 (v := 0) (by decide) ?_
  refine m2_iconst hB dX12_trust_7 (v := 3) (by decide) ?_
  refine m2_invSz hB (as := [.int x1, .int 0, .int 3]) dX12_trust_8 ms_X12_149 rfl (Nat.le_of_ble_eq_true rfl) rfl (P_X12_in (by omega) (x1) (0) (3) _ ) (fun y1 μ2 hq3 => ?_)
  obtain ⟨⟨⟩, hq3⟩ := hq3
  subst μ2
  show κ 11 [.ref kM, .int x1, .null, .null, .null, .null, .null] [.int (if (fX12_in x1 0 3) = 1 then 1 else 0 : Int32)] (m2_si μ kM 22 0)
  by_cases q4 : (fX12_in x1 0 3) = 1
  · rw [if_pos q4]
    replace k := k.1 q4
    refine m2_if_ne hB dX12_trust_11 (tgt := 16) (by decide) (fun _ => ?_) (fun q => absurd q (by decide))
    refine m2_iconst hB dX12_trust_16 (v := 0) (by decide) ?_
    refine m2_istore_n hB (ls' := [.ref kM, .int x1, .int 0, .null, .null, .null, .null]) dX12_trust_17 rfl (by decide) rfl ?_
    refine m2_iconst hB dX12_trust_18 (v := 0) (by decide) ?_
    refine m2_istore_n hB (ls' := [.ref kM, .int x1, .int 0, .int 0, .null, .null, .null]) dX12_trust_19 rfl (by decide) rfl ?_
    refine m2_iconst hB dX12_trust_20 (v := 0) (by decide) ?_
    refine m2_istore hB (ls' := [.ref kM, .int x1, .int 0, .int 0, .int 0, .null, .null]) dX12_trust_21 (by decide) rfl ?_
    refine m2_iconst hB dX12_trust_23 (v := 0) (by decide) ?_
    refine m2_istore hB (ls' := [.ref kM, .int x1, .int 0, .int 0, .int 0, .int 0, .null]) dX12_trust_24 (by decide) rfl ?_
    exact k
  · rw [if_neg q4]
    replace k := k.2 q4
    refine m2_if_ne hB dX12_trust_11 (tgt := 16) (by decide) (fun q => absurd q (by decide)) (fun _ => ?_)
    refine m2_iconst hB dX12_trust_14 (v := (-1)) (by decide) ?_
    exact m2_iret h dX12_trust_15 k
set_option maxRecDepth 100000 in
set_option maxHeartbeats 4000000 in
theorem B_X12_trust_26 {κ : Nat → List Value → List Value → m2M → Prop} {D : Nat} {Q : Option Value → m2M → Prop} (h : m2_RL κ cX12_trust RX12 7 (D + 1) (some .int) Q) (hD : 0 ≤ D) {v1 : Int32} {v2 : Int32} {v3 : Int32} {v4 : Int32} {v5 : Int32} {μ : m2M} (k : ((μ.1 kM 64) ≤ v5 → ∃ Q5 : Option Value → m2M → Prop, m2_MT D yX12_tell cX12_tell 3 none [.ref kM, .long (v3).toInt64] (m2_si μ kM 21 0) Q5 ∧ ∀ (μ4 : m2M), Q5 none μ4 → (∃ Q10 : Option Value → m2M → Prop, m2_MT D yX12_tell cX12_tell 3 none [.ref kM, .long (v4).toInt64] μ4 Q10 ∧ ∀ (μ9 : m2M), Q10 none μ9 → (Q (some (.int v2)) μ9))) ∧ (¬ (μ.1 kM 64) ≤ v5 → (vp_in v5 20) ∧ (((μ.1 kM_saysWho (v5).toNatClampNeg) = v1 → (vp_in (μ.1 kM_saysDoor (v5).toNatClampNeg) 20) ∧ (κ 26 [.ref kM, .int v1, .int (v2 + (if (m2_abs ((μ.1 kM_saysNumber (v5).toNatClampNeg) - (μ.1 kM_left ((μ.1 kM_saysDoor (v5).toNatClampNeg)).toNatClampNeg))) = 0 then 1 else 0 : Int32)), .int (v3 + 1), .int (v4 + (m2_abs ((μ.1 kM_saysNumber (v5).toNatClampNeg) - (μ.1 kM_left ((μ.1 kM_saysDoor (v5).toNatClampNeg)).toNatClampNeg)))), .int (v5 + 1), .null] [] μ)) ∧ (¬ (μ.1 kM_saysWho (v5).toNatClampNeg) = v1 → κ 26 [.ref kM, .int v1, .int v2, .int v3, .int v4, .int (v5 + 1), .null] [] μ)))) : κ 26 [.ref kM, .int v1, .int v2, .int v3, .int v4, .int v5, .null] [] μ := by
  have hB := h.b
  refine m2_iload hB dX12_trust_26 rfl ?_
  refine m2_aload_n hB dX12_trust_28 rfl ?_
  refine m2_getI hB dX12_trust_29 fl_X12_436 sh_kM rfl ?_
  refine m2_icmp_ge hB dX12_trust_32 (tgt := 103) (by decide) (fun q2 : (μ.1 kM 64) ≤ v5 => ?_) (fun q2 : ¬ (μ.1 kM 64) ≤ v5 => ?_)
  · replace k := k.1 q2
    refine m2_aload_n hB dX12_trust_103 rfl ?_
    refine m2_iconst hB dX12_trust_104 (v := 0) (by decide) ?_
    refine m2_putI hB dX12_trust_105 fl_X12_146 sh_kM rfl ?_
    refine m2_aload_n hB dX12_trust_108 rfl ?_
    refine m2_iload_n hB dX12_trust_109 rfl ?_
    refine m2_i2l hB dX12_trust_110 ?_
    obtain ⟨Q5, hM6, k⟩ := k
    refine m2_invv hB (as := [.long (v3).toInt64]) dX12_trust_111 mv_X12_278 rfl sh_kM rfl (Nat.le_of_ble_eq_true rfl) rfl hM6 (fun μ4 hq7 => ?_)
    replace k := k μ4 hq7
    refine m2_aload_n hB dX12_trust_114 rfl ?_
    refine m2_iload hB dX12_trust_115 rfl ?_
    refine m2_i2l hB dX12_trust_117 ?_
    obtain ⟨Q10, hM11, k⟩ := k
    refine m2_invv hB (as := [.long (v4).toInt64]) dX12_trust_118 mv_X12_278 rfl sh_kM rfl (Nat.le_of_ble_eq_true rfl) rfl hM11 (fun μ9 hq12 => ?_)
    replace k := k μ9 hq12
    refine m2_iload_n hB dX12_trust_121 rfl ?_
    exact m2_iret h dX12_trust_122 k
  · replace k := k.2 q2
    refine m2_aload_n hB dX12_trust_35 rfl ?_
    refine m2_getR hB dX12_trust_36 fl_X12_125 sh_kM (c1 := kM_saysWho) rfl ?_
    refine m2_iload hB dX12_trust_39 rfl ?_
    obtain ⟨hi13, k⟩ := k
    refine m2_iald hB dX12_trust_41 sh_kM_saysWho hi13 ?_
    refine m2_iload_n hB dX12_trust_42 rfl ?_
    refine m2_icmp_eq hB dX12_trust_43 (tgt := 49) (by decide) (fun q15 : (μ.1 kM_saysWho (v5).toNatClampNeg) = v1 => ?_) (fun q15 : ¬ (μ.1 kM_saysWho (v5).toNatClampNeg) = v1 => ?_)
    · replace k := k.1 q15
      refine m2_aload_n hB dX12_trust_49 rfl ?_
      refine m2_getR hB dX12_trust_50 fl_X12_131 sh_kM (c1 := kM_saysNumber) rfl ?_
      refine m2_iload hB dX12_trust_53 rfl ?_
      have hi16 := hi13
      refine m2_iald hB dX12_trust_55 sh_kM_saysNumber hi16 ?_
      refine m2_aload_n hB dX12_trust_56 rfl ?_
      refine m2_getR hB dX12_trust_57 fl_X12_23 sh_kM (c1 := kM_left) rfl ?_
      refine m2_aload_n hB dX12_trust_60 rfl ?_
      refine m2_getR hB dX12_trust_61 fl_X12_128 sh_kM (c1 := kM_saysDoor) rfl ?_
      refine m2_iload hB dX12_trust_64 rfl ?_
      have hi17 := hi13
      refine m2_iald hB dX12_trust_66 sh_kM_saysDoor hi17 ?_
      obtain ⟨hi18, k⟩ := k
      refine m2_iald hB dX12_trust_67 sh_kM_left hi18 ?_
      refine m2_isub hB dX12_trust_68 ?_
      refine m2_mabs hB dX12_trust_69 ms_X12_439 (Nat.le_of_ble_eq_true rfl) ?_
      refine m2_istore hB (ls' := [.ref kM, .int v1, .int v2, .int v3, .int v4, .int v5, .int (m2_abs ((μ.1 kM_saysNumber (v5).toNatClampNeg) - (μ.1 kM_left ((μ.1 kM_saysDoor (v5).toNatClampNeg)).toNatClampNeg)))]) dX12_trust_72 (by decide) rfl ?_
      refine m2_iload_n hB dX12_trust_74 rfl ?_
      refine m2_iload hB dX12_trust_75 rfl ?_
      have G20 : κ 85 [.ref kM, .int v1, .int v2, .int v3, .int v4, .int v5, .int (m2_abs ((μ.1 kM_saysNumber (v5).toNatClampNeg) - (μ.1 kM_left ((μ.1 kM_saysDoor (v5).toNatClampNeg)).toNatClampNeg)))] [.int (if (m2_abs ((μ.1 kM_saysNumber (v5).toNatClampNeg) - (μ.1 kM_left ((μ.1 kM_saysDoor (v5).toNatClampNeg)).toNatClampNeg))) = 0 then 1 else 0 : Int32), .int v2] μ := by
        refine m2_iadd hB dX12_trust_85 ?_
        refine m2_istore_n hB (ls' := [.ref kM, .int v1, .int (v2 + (if (m2_abs ((μ.1 kM_saysNumber (v5).toNatClampNeg) - (μ.1 kM_left ((μ.1 kM_saysDoor (v5).toNatClampNeg)).toNatClampNeg))) = 0 then 1 else 0 : Int32)), .int v3, .int v4, .int v5, .int (m2_abs ((μ.1 kM_saysNumber (v5).toNatClampNeg) - (μ.1 kM_left ((μ.1 kM_saysDoor (v5).toNatClampNeg)).toNatClampNeg)))]) dX12_trust_86 rfl (by decide) rfl ?_
        refine m2_iload hB dX12_trust_87 rfl ?_
        refine m2_iload hB dX12_trust_89 rfl ?_
        refine m2_iadd hB dX12_trust_91 ?_
        refine m2_istore hB (ls' := [.ref kM, .int v1, .int (v2 + (if (m2_abs ((μ.1 kM_saysNumber (v5).toNatClampNeg) - (μ.1 kM_left ((μ.1 kM_saysDoor (v5).toNatClampNeg)).toNatClampNeg))) = 0 then 1 else 0 : Int32)), .int v3, .int (v4 + (m2_abs ((μ.1 kM_saysNumber (v5).toNatClampNeg) - (μ.1 kM_left ((μ.1 kM_saysDoor (v5).toNatClampNeg)).toNatClampNeg)))), .int v5, .int (m2_abs ((μ.1 kM_saysNumber (v5).toNatClampNeg) - (μ.1 kM_left ((μ.1 kM_saysDoor (v5).toNatClampNeg)).toNatClampNeg)))]) dX12_trust_92 (by decide) rfl ?_
        refine m2_iinc hB (ls' := [.ref kM, .int v1, .int (v2 + (if (m2_abs ((μ.1 kM_saysNumber (v5).toNatClampNeg) - (μ.1 kM_left ((μ.1 kM_saysDoor (v5).toNatClampNeg)).toNatClampNeg))) = 0 then 1 else 0 : Int32)), .int (v3 + 1), .int (v4 + (m2_abs ((μ.1 kM_saysNumber (v5).toNatClampNeg) - (μ.1 kM_left ((μ.1 kM_saysDoor (v5).toNatClampNeg)).toNatClampNeg)))), .int v5, .int (m2_abs ((μ.1 kM_saysNumber (v5).toNatClampNeg) - (μ.1 kM_left ((μ.1 kM_saysDoor (v5).toNatClampNeg)).toNatClampNeg)))]) (v := (v3 + 1)) dX12_trust_94 rfl (by decide) rfl rfl ?_
        refine m2_iinc hB (ls' := [.ref kM, .int v1, .int (v2 + (if (m2_abs ((μ.1 kM_saysNumber (v5).toNatClampNeg) - (μ.1 kM_left ((μ.1 kM_saysDoor (v5).toNatClampNeg)).toNatClampNeg))) = 0 then 1 else 0 : Int32)), .int (v3 + 1), .int (v4 + (m2_abs ((μ.1 kM_saysNumber (v5).toNatClampNeg) - (μ.1 kM_left ((μ.1 kM_saysDoor (v5).toNatClampNeg)).toNatClampNeg)))), .int (v5 + 1), .int (m2_abs ((μ.1 kM_saysNumber (v5).toNatClampNeg) - (μ.1 kM_left ((μ.1 kM_saysDoor (v5).toNatClampNeg)).toNatClampNeg)))]) (v := (v5 + 1)) dX12_trust_97 rfl (by decide) rfl rfl ?_
        refine m2_goto hB dX12_trust_100 (tgt := 26) (by decide) ?_
        exact m2_weak (ls' := [.ref kM, .int v1, .int (v2 + (if (m2_abs ((μ.1 kM_saysNumber (v5).toNatClampNeg) - (μ.1 kM_left ((μ.1 kM_saysDoor (v5).toNatClampNeg)).toNatClampNeg))) = 0 then 1 else 0 : Int32)), .int (v3 + 1), .int (v4 + (m2_abs ((μ.1 kM_saysNumber (v5).toNatClampNeg) - (μ.1 kM_left ((μ.1 kM_saysDoor (v5).toNatClampNeg)).toNatClampNeg)))), .int (v5 + 1), .null]) hB ⟨Or.inr rfl, Or.inr rfl, Or.inr rfl, Or.inr rfl, Or.inr rfl, Or.inr rfl, Or.inl rfl, trivial⟩ k
      refine m2_if_ne hB dX12_trust_77 (tgt := 84) (by decide) (fun q19 : ¬ (m2_abs ((μ.1 kM_saysNumber (v5).toNatClampNeg) - (μ.1 kM_left ((μ.1 kM_saysDoor (v5).toNatClampNeg)).toNatClampNeg))) = 0 => ?_) (fun q19 : (m2_abs ((μ.1 kM_saysNumber (v5).toNatClampNeg) - (μ.1 kM_left ((μ.1 kM_saysDoor (v5).toNatClampNeg)).toNatClampNeg))) = 0 => ?_)
      · rw [if_neg q19] at G20
        refine m2_iconst hB dX12_trust_84 (v := 0) (by decide) ?_
        exact G20
      · rw [if_pos q19] at G20
        refine m2_iconst hB dX12_trust_80 (v := 1) (by decide) ?_
        refine m2_goto hB dX12_trust_81 (tgt := 85) (by decide) ?_
        exact G20
    · replace k := k.2 q15
      refine m2_goto hB dX12_trust_46 (tgt := 97) (by decide) ?_
      refine m2_iinc hB (ls' := [.ref kM, .int v1, .int v2, .int v3, .int v4, .int (v5 + 1), .null]) (v := (v5 + 1)) dX12_trust_97 rfl (by decide) rfl rfl ?_
      refine m2_goto hB dX12_trust_100 (tgt := 26) (by decide) ?_
      exact k
theorem dX12_safe_0 : decode cX12_safe 0 = .ok (.aload_n 0, 1) := by decide +kernel
theorem dX12_safe_1 : decode cX12_safe 1 = .ok (.iconst 0, 1) := by decide +kernel
theorem dX12_safe_2 : decode cX12_safe 2 = .ok (.putfield 143, 3) := by decide +kernel
theorem dX12_safe_5 : decode cX12_safe 5 = .ok (.aload_n 0, 1) := by decide +kernel
theorem dX12_safe_6 : decode cX12_safe 6 = .ok (.iload_n 1, 1) := by decide +kernel
theorem dX12_safe_7 : decode cX12_safe 7 = .ok (.invokevirtual 295, 3) := by decide +kernel
theorem dX12_safe_10 : decode cX12_safe 10 = .ok (.ifCond .eq 31, 3) := by decide +kernel
theorem dX12_safe_13 : decode cX12_safe 13 = .ok (.iload_n 2, 1) := by decide +kernel
theorem dX12_safe_14 : decode cX12_safe 14 = .ok (.invokestatic 302, 3) := by decide +kernel
theorem dX12_safe_17 : decode cX12_safe 17 = .ok (.ifCond .eq 24, 3) := by decide +kernel
theorem dX12_safe_20 : decode cX12_safe 20 = .ok (.iload_n 3, 1) := by decide +kernel
theorem dX12_safe_21 : decode cX12_safe 21 = .ok (.iconst 1, 1) := by decide +kernel
theorem dX12_safe_22 : decode cX12_safe 22 = .ok (.bipush 15, 2) := by decide +kernel
theorem dX12_safe_24 : decode cX12_safe 24 = .ok (.invokestatic 149, 3) := by decide +kernel
theorem dX12_safe_27 : decode cX12_safe 27 = .ok (.ifCond .eq 14, 3) := by decide +kernel
theorem dX12_safe_30 : decode cX12_safe 30 = .ok (.iload 4, 2) := by decide +kernel
theorem dX12_safe_32 : decode cX12_safe 32 = .ok (.iconst 0, 1) := by decide +kernel
theorem dX12_safe_33 : decode cX12_safe 33 = .ok (.bipush 60, 2) := by decide +kernel
theorem dX12_safe_35 : decode cX12_safe 35 = .ok (.invokestatic 149, 3) := by decide +kernel
theorem dX12_safe_38 : decode cX12_safe 38 = .ok (.ifCond .ne 5, 3) := by decide +kernel
theorem dX12_safe_41 : decode cX12_safe 41 = .ok (.iconst (-1), 1) := by decide +kernel
theorem dX12_safe_42 : decode cX12_safe 42 = .ok (.ireturn, 1) := by decide +kernel
theorem dX12_safe_43 : decode cX12_safe 43 = .ok (.iconst 0, 1) := by decide +kernel
theorem dX12_safe_44 : decode cX12_safe 44 = .ok (.istore 5, 2) := by decide +kernel
theorem dX12_safe_46 : decode cX12_safe 46 = .ok (.iload 5, 2) := by decide +kernel
theorem dX12_safe_48 : decode cX12_safe 48 = .ok (.aload_n 0, 1) := by decide +kernel
theorem dX12_safe_49 : decode cX12_safe 49 = .ok (.getfield 153, 3) := by decide +kernel
theorem dX12_safe_52 : decode cX12_safe 52 = .ok (.if_icmp .ge 18, 3) := by decide +kernel
theorem dX12_safe_55 : decode cX12_safe 55 = .ok (.aload_n 0, 1) := by decide +kernel
theorem dX12_safe_56 : decode cX12_safe 56 = .ok (.getfield 77, 3) := by decide +kernel
theorem dX12_safe_59 : decode cX12_safe 59 = .ok (.iload 5, 2) := by decide +kernel
theorem dX12_safe_61 : decode cX12_safe 61 = .ok (.ldc 244, 2) := by decide +kernel
theorem dX12_safe_63 : decode cX12_safe 63 = .ok (.iastore, 1) := by decide +kernel
theorem dX12_safe_64 : decode cX12_safe 64 = .ok (.iinc 5 1, 3) := by decide +kernel
theorem dX12_safe_67 : decode cX12_safe 67 = .ok (.goto (-21), 3) := by decide +kernel
theorem dX12_safe_70 : decode cX12_safe 70 = .ok (.iconst 0, 1) := by decide +kernel
theorem dX12_safe_71 : decode cX12_safe 71 = .ok (.istore 5, 2) := by decide +kernel
theorem dX12_safe_73 : decode cX12_safe 73 = .ok (.iload 5, 2) := by decide +kernel
theorem dX12_safe_75 : decode cX12_safe 75 = .ok (.aload_n 0, 1) := by decide +kernel
theorem dX12_safe_76 : decode cX12_safe 76 = .ok (.getfield 436, 3) := by decide +kernel
theorem dX12_safe_79 : decode cX12_safe 79 = .ok (.if_icmp .ge 48, 3) := by decide +kernel
theorem dX12_safe_82 : decode cX12_safe 82 = .ok (.iload_n 3, 1) := by decide +kernel
theorem dX12_safe_83 : decode cX12_safe 83 = .ok (.aload_n 0, 1) := by decide +kernel
theorem dX12_safe_84 : decode cX12_safe 84 = .ok (.getfield 125, 3) := by decide +kernel
theorem dX12_safe_87 : decode cX12_safe 87 = .ok (.iload 5, 2) := by decide +kernel
theorem dX12_safe_89 : decode cX12_safe 89 = .ok (.iaload, 1) := by decide +kernel
theorem dX12_safe_90 : decode cX12_safe 90 = .ok (.invokestatic 234, 3) := by decide +kernel
theorem dX12_safe_93 : decode cX12_safe 93 = .ok (.ifCond .eq 28, 3) := by decide +kernel
theorem dX12_safe_96 : decode cX12_safe 96 = .ok (.aload_n 0, 1) := by decide +kernel
theorem dX12_safe_97 : decode cX12_safe 97 = .ok (.getfield 131, 3) := by decide +kernel
theorem dX12_safe_100 : decode cX12_safe 100 = .ok (.iload 5, 2) := by decide +kernel
theorem dX12_safe_102 : decode cX12_safe 102 = .ok (.iaload, 1) := by decide +kernel
theorem dX12_safe_103 : decode cX12_safe 103 = .ok (.iload 4, 2) := by decide +kernel
theorem dX12_safe_105 : decode cX12_safe 105 = .ok (.if_icmp .le 16, 3) := by decide +kernel
theorem dX12_safe_108 : decode cX12_safe 108 = .ok (.aload_n 0, 1) := by decide +kernel
theorem dX12_safe_109 : decode cX12_safe 109 = .ok (.getfield 77, 3) := by decide +kernel
theorem dX12_safe_112 : decode cX12_safe 112 = .ok (.aload_n 0, 1) := by decide +kernel
theorem dX12_safe_113 : decode cX12_safe 113 = .ok (.getfield 128, 3) := by decide +kernel
theorem dX12_safe_116 : decode cX12_safe 116 = .ok (.iload 5, 2) := by decide +kernel
theorem dX12_safe_118 : decode cX12_safe 118 = .ok (.iaload, 1) := by decide +kernel
theorem dX12_safe_119 : decode cX12_safe 119 = .ok (.iconst 1, 1) := by decide +kernel
theorem dX12_safe_120 : decode cX12_safe 120 = .ok (.iastore, 1) := by decide +kernel
theorem dX12_safe_121 : decode cX12_safe 121 = .ok (.iinc 5 1, 3) := by decide +kernel
theorem dX12_safe_124 : decode cX12_safe 124 = .ok (.goto (-51), 3) := by decide +kernel
theorem dX12_safe_127 : decode cX12_safe 127 = .ok (.aload_n 0, 1) := by decide +kernel
theorem dX12_safe_128 : decode cX12_safe 128 = .ok (.aload_n 0, 1) := by decide +kernel
theorem dX12_safe_129 : decode cX12_safe 129 = .ok (.getfield 29, 3) := by decide +kernel
theorem dX12_safe_132 : decode cX12_safe 132 = .ok (.iload_n 1, 1) := by decide +kernel
theorem dX12_safe_133 : decode cX12_safe 133 = .ok (.iaload, 1) := by decide +kernel
theorem dX12_safe_134 : decode cX12_safe 134 = .ok (.iload_n 2, 1) := by decide +kernel
theorem dX12_safe_135 : decode cX12_safe 135 = .ok (.invokevirtual 245, 3) := by decide +kernel
theorem dX12_safe_138 : decode cX12_safe 138 = .ok (.ifCond .ne 6, 3) := by decide +kernel
theorem dX12_safe_141 : decode cX12_safe 141 = .ok (.bipush (-2), 2) := by decide +kernel
theorem dX12_safe_143 : decode cX12_safe 143 = .ok (.ireturn, 1) := by decide +kernel
theorem dX12_safe_144 : decode cX12_safe 144 = .ok (.aload_n 0, 1) := by decide +kernel
theorem dX12_safe_145 : decode cX12_safe 145 = .ok (.iconst 0, 1) := by decide +kernel
theorem dX12_safe_146 : decode cX12_safe 146 = .ok (.putfield 146, 3) := by decide +kernel
theorem dX12_safe_149 : decode cX12_safe 149 = .ok (.aload_n 0, 1) := by decide +kernel
theorem dX12_safe_150 : decode cX12_safe 150 = .ok (.invokevirtual 308, 3) := by decide +kernel
theorem dX12_safe_153 : decode cX12_safe 153 = .ok (.aload_n 0, 1) := by decide +kernel
theorem dX12_safe_154 : decode cX12_safe 154 = .ok (.getfield 248, 3) := by decide +kernel
theorem dX12_safe_157 : decode cX12_safe 157 = .ok (.ireturn, 1) := by decide +kernel
set_option maxRecDepth 100000 in
set_option maxHeartbeats 4000000 in
theorem B_X12_safe_0 {κ : Nat → List Value → List Value → m2M → Prop} {D : Nat} {Q : Option Value → m2M → Prop} (h : m2_RL κ cX12_safe RX12 6 (D + 1) (some .int) Q) (hD : 1 ≤ D) {x1 : Int32} {x2 : Int32} {x3 : Int32} {x4 : Int32} {μ : m2M} (k : ((fX12_isOne x1 (m2_si μ kM 22 0)) = 1 → ((fX12_isRoom x2) = 1 → ((fX12_in x3 1 15) = 1 → ((fX12_in x4 0 60) = 1 → κ 46 [.ref kM, .int x1, .int x2, .int x3, .int x4, .int 0] [] (m2_si μ kM 22 0)) ∧ (¬ (fX12_in x4 0 60) = 1 → Q (some (.int (-1))) (m2_si μ kM 22 0))) ∧ (¬ (fX12_in x3 1 15) = 1 → Q (some (.int (-1))) (m2_si μ kM 22 0))) ∧ (¬ (fX12_isRoom x2) = 1 → Q (some (.int (-1))) (m2_si μ kM 22 0))) ∧ (¬ (fX12_isOne x1 (m2_si μ kM 22 0)) = 1 → Q (some (.int (-1))) (m2_si μ kM 22 0))) : κ 0 [.ref kM, .int x1, .int x2, .int x3, .int x4, .null] [] μ := by
  have hB := h.b
  refine m2_aload_n hB dX12_safe_0 rfl ?_
  refine m2_iconst hB dX12_safe_1 (v := 0) (by decide) ?_
  refine m2_putI hB dX12_safe_2 fl_X12_143 sh_kM rfl ?_
  refine m2_aload_n hB dX12_safe_5 rfl ?_
  refine m2_iload_n hB dX12_safe_6 rfl ?_
  refine m2_invz hB (as := [.int x1]) dX12_safe_7 mv_X12_295 rfl sh_kM rfl (Nat.le_of_ble_eq_true rfl) rfl (P_X12_isOne (by omega) (x1) _ ) (fun y1 μ2 hq3 => ?_)
  obtain ⟨⟨⟩, hq3⟩ := hq3
  subst μ2
  show κ 10 [.ref kM, .int x1, .int x2, .int x3, .int x4, .null] [.int (if (fX12_isOne x1 (m2_si μ kM 22 0)) = 1 then 1 else 0 : Int32)] (m2_si μ kM 22 0)
  by_cases q4 : (fX12_isOne x1 (m2_si μ kM 22 0)) = 1
  · rw [if_pos q4]
    replace k := k.1 q4
    refine m2_if_eq hB dX12_safe_10 (tgt := 41) (by decide) (fun q => absurd q (by decide)) (fun _ => ?_)
    refine m2_iload_n hB dX12_safe_13 rfl ?_
    refine m2_invSz hB (as := [.int x2]) dX12_safe_14 ms_X12_302 rfl (Nat.le_of_ble_eq_true rfl) rfl (P_X12_isRoom (by omega) (x2) _ ) (fun y5 μ6 hq7 => ?_)
    obtain ⟨⟨⟩, hq7⟩ := hq7
    subst μ6
    show κ 17 [.ref kM, .int x1, .int x2, .int x3, .int x4, .null] [.int (if (fX12_isRoom x2) = 1 then 1 else 0 : Int32)] (m2_si μ kM 22 0)
    by_cases q8 : (fX12_isRoom x2) = 1
    · rw [if_pos q8]
      replace k := k.1 q8
      refine m2_if_eq hB dX12_safe_17 (tgt := 41) (by decide) (fun q => absurd q (by decide)) (fun _ => ?_)
      refine m2_iload_n hB dX12_safe_20 rfl ?_
      refine m2_iconst hB dX12_safe_21 (v := 1) (by decide) ?_
      refine m2_bipush hB dX12_safe_22 (v := 15) (by decide) ?_
      refine m2_invSz hB (as := [.int x3, .int 1, .int 15]) dX12_safe_24 ms_X12_149 rfl (Nat.le_of_ble_eq_true rfl) rfl (P_X12_in (by omega) (x3) (1) (15) _ ) (fun y9 μ10 hq11 => ?_)
      obtain ⟨⟨⟩, hq11⟩ := hq11
      subst μ10
      show κ 27 [.ref kM, .int x1, .int x2, .int x3, .int x4, .null] [.int (if (fX12_in x3 1 15) = 1 then 1 else 0 : Int32)] (m2_si μ kM 22 0)
      by_cases q12 : (fX12_in x3 1 15) = 1
      · rw [if_pos q12]
        replace k := k.1 q12
        refine m2_if_eq hB dX12_safe_27 (tgt := 41) (by decide) (fun q => absurd q (by decide)) (fun _ => ?_)
        refine m2_iload hB dX12_safe_30 rfl ?_
        refine m2_iconst hB dX12_safe_32 (v := 0) (by decide) ?_
        refine m2_bipush hB dX12_safe_33 (v := 60) (by decide) ?_
        refine m2_invSz hB (as := [.int x4, .int 0, .int 60]) dX12_safe_35 ms_X12_149 rfl (Nat.le_of_ble_eq_true rfl) rfl (P_X12_in (by omega) (x4) (0) (60) _ ) (fun y13 μ14 hq15 => ?_)
        obtain ⟨⟨⟩, hq15⟩ := hq15
        subst μ14
        show κ 38 [.ref kM, .int x1, .int x2, .int x3, .int x4, .null] [.int (if (fX12_in x4 0 60) = 1 then 1 else 0 : Int32)] (m2_si μ kM 22 0)
        by_cases q16 : (fX12_in x4 0 60) = 1
        · rw [if_pos q16]
          replace k := k.1 q16
          refine m2_if_ne hB dX12_safe_38 (tgt := 43) (by decide) (fun _ => ?_) (fun q => absurd q (by decide))
          refine m2_iconst hB dX12_safe_43 (v := 0) (by decide) ?_
          refine m2_istore hB (ls' := [.ref kM, .int x1, .int x2, .int x3, .int x4, .int 0]) dX12_safe_44 (by decide) rfl ?_
          exact k
        · rw [if_neg q16]
          replace k := k.2 q16
          refine m2_if_ne hB dX12_safe_38 (tgt := 43) (by decide) (fun q => absurd q (by decide)) (fun _ => ?_)
          refine m2_iconst hB dX12_safe_41 (v := (-1)) (by decide) ?_
          exact m2_iret h dX12_safe_42 k
      · rw [if_neg q12]
        replace k := k.2 q12
        refine m2_if_eq hB dX12_safe_27 (tgt := 41) (by decide) (fun _ => ?_) (fun q => absurd q (by decide))
        refine m2_iconst hB dX12_safe_41 (v := (-1)) (by decide) ?_
        exact m2_iret h dX12_safe_42 k
    · rw [if_neg q8]
      replace k := k.2 q8
      refine m2_if_eq hB dX12_safe_17 (tgt := 41) (by decide) (fun _ => ?_) (fun q => absurd q (by decide))
      refine m2_iconst hB dX12_safe_41 (v := (-1)) (by decide) ?_
      exact m2_iret h dX12_safe_42 k
  · rw [if_neg q4]
    replace k := k.2 q4
    refine m2_if_eq hB dX12_safe_10 (tgt := 41) (by decide) (fun _ => ?_) (fun q => absurd q (by decide))
    refine m2_iconst hB dX12_safe_41 (v := (-1)) (by decide) ?_
    exact m2_iret h dX12_safe_42 k
set_option maxRecDepth 100000 in
set_option maxHeartbeats 4000000 in
theorem B_X12_safe_46 {κ : Nat → List Value → List Value → m2M → Prop} {D : Nat} {Q : Option Value → m2M → Prop} (h : m2_RL κ cX12_safe RX12 6 D (some .int) Q) {v1 : Int32} {v2 : Int32} {v3 : Int32} {v4 : Int32} {v5 : Int32} {μ : m2M} (k : ((μ.1 kM 0) ≤ v5 → κ 73 [.ref kM, .int v1, .int v2, .int v3, .int v4, .int 0] [] μ) ∧ (¬ (μ.1 kM 0) ≤ v5 → (vp_in v5 20) ∧ (κ 46 [.ref kM, .int v1, .int v2, .int v3, .int v4, .int (v5 + 1)] [] (m2_si μ kM_cost (v5).toNatClampNeg 100000000)))) : κ 46 [.ref kM, .int v1, .int v2, .int v3, .int v4, .int v5] [] μ := by
  have hB := h.b
  refine m2_iload hB dX12_safe_46 rfl ?_
  refine m2_aload_n hB dX12_safe_48 rfl ?_
  refine m2_getI hB dX12_safe_49 fl_X12_153 sh_kM rfl ?_
  refine m2_icmp_ge hB dX12_safe_52 (tgt := 70) (by decide) (fun q2 : (μ.1 kM 0) ≤ v5 => ?_) (fun q2 : ¬ (μ.1 kM 0) ≤ v5 => ?_)
  · replace k := k.1 q2
    refine m2_iconst hB dX12_safe_70 (v := 0) (by decide) ?_
    refine m2_istore hB (ls' := [.ref kM, .int v1, .int v2, .int v3, .int v4, .int 0]) dX12_safe_71 (by decide) rfl ?_
    exact k
  · replace k := k.2 q2
    refine m2_aload_n hB dX12_safe_55 rfl ?_
    refine m2_getR hB dX12_safe_56 fl_X12_77 sh_kM (c1 := kM_cost) rfl ?_
    refine m2_iload hB dX12_safe_59 rfl ?_
    refine m2_ldc hB kc_X12_244 dX12_safe_61 ?_
    obtain ⟨hi3, k⟩ := k
    refine m2_iast hB dX12_safe_63 sh_kM_cost hi3 ?_
    refine m2_iinc hB (ls' := [.ref kM, .int v1, .int v2, .int v3, .int v4, .int (v5 + 1)]) (v := (v5 + 1)) dX12_safe_64 rfl (by decide) rfl rfl ?_
    refine m2_goto hB dX12_safe_67 (tgt := 46) (by decide) ?_
    exact k
set_option maxRecDepth 100000 in
set_option maxHeartbeats 4000000 in
theorem B_X12_safe_73 {κ : Nat → List Value → List Value → m2M → Prop} {D : Nat} {Q : Option Value → m2M → Prop} (h : m2_RL κ cX12_safe RX12 6 (D + 1) (some .int) Q) (hD : 0 ≤ D) {v1 : Int32} {v2 : Int32} {v3 : Int32} {v4 : Int32} {v5 : Int32} {μ : m2M} (k : ((μ.1 kM 64) ≤ v5 → (vp_in v1 8) ∧ (∃ Q6 : Option Value → m2M → Prop, m2_MT D yX12_findWay cX12_findWay 7 (some .boolean) [.ref kM, .int (μ.1 kM_where (v1).toNatClampNeg), .int v2] μ Q6 ∧ ∀ (y4 : Int32) (μ5 : m2M), Q6 (some (.int y4)) μ5 → ((¬ y4 = 0 → ∃ Q12 : Option Value → m2M → Prop, m2_MT D yX12_tellWay cX12_tellWay 2 none [.ref kM] (m2_si μ5 kM 21 0) Q12 ∧ ∀ (μ11 : m2M), Q12 none μ11 → (Q (some (.int (μ11.1 kM 37))) μ11)) ∧ (y4 = 0 → Q (some (.int (-2))) μ5)))) ∧ (¬ (μ.1 kM 64) ≤ v5 → (vp_in v5 20) ∧ (((fX12_has v3 (μ.1 kM_saysWho (v5).toNatClampNeg)) = 1 → ((μ.1 kM_saysNumber (v5).toNatClampNeg) ≤ v4 → κ 73 [.ref kM, .int v1, .int v2, .int v3, .int v4, .int (v5 + 1)] [] μ) ∧ (¬ (μ.1 kM_saysNumber (v5).toNatClampNeg) ≤ v4 → (vp_in (μ.1 kM_saysDoor (v5).toNatClampNeg) 20) ∧ (κ 73 [.ref kM, .int v1, .int v2, .int v3, .int v4, .int (v5 + 1)] [] (m2_si μ kM_cost ((μ.1 kM_saysDoor (v5).toNatClampNeg)).toNatClampNeg 1)))) ∧ (¬ (fX12_has v3 (μ.1 kM_saysWho (v5).toNatClampNeg)) = 1 → κ 73 [.ref kM, .int v1, .int v2, .int v3, .int v4, .int (v5 + 1)] [] μ)))) : κ 73 [.ref kM, .int v1, .int v2, .int v3, .int v4, .int v5] [] μ := by
  have hB := h.b
  refine m2_iload hB dX12_safe_73 rfl ?_
  refine m2_aload_n hB dX12_safe_75 rfl ?_
  refine m2_getI hB dX12_safe_76 fl_X12_436 sh_kM rfl ?_
  refine m2_icmp_ge hB dX12_safe_79 (tgt := 127) (by decide) (fun q2 : (μ.1 kM 64) ≤ v5 => ?_) (fun q2 : ¬ (μ.1 kM 64) ≤ v5 => ?_)
  · replace k := k.1 q2
    refine m2_aload_n hB dX12_safe_127 rfl ?_
    refine m2_aload_n hB dX12_safe_128 rfl ?_
    refine m2_getR hB dX12_safe_129 fl_X12_29 sh_kM (c1 := kM_where) rfl ?_
    refine m2_iload_n hB dX12_safe_132 rfl ?_
    obtain ⟨hi3, k⟩ := k
    refine m2_iald hB dX12_safe_133 sh_kM_where hi3 ?_
    refine m2_iload_n hB dX12_safe_134 rfl ?_
    obtain ⟨Q6, hM7, k⟩ := k
    refine m2_invz hB (as := [.int (μ.1 kM_where (v1).toNatClampNeg), .int v2]) dX12_safe_135 mv_X12_245 rfl sh_kM rfl (Nat.le_of_ble_eq_true rfl) rfl hM7 (fun y4 μ5 hq8 => ?_)
    replace k := k y4 μ5 hq8
    refine m2_if_ne hB dX12_safe_138 (tgt := 144) (by decide) (fun q9 : ¬ y4 = 0 => ?_) (fun q9 : y4 = 0 => ?_)
    · replace k := k.1 q9
      refine m2_aload_n hB dX12_safe_144 rfl ?_
      refine m2_iconst hB dX12_safe_145 (v := 0) (by decide) ?_
      refine m2_putI hB dX12_safe_146 fl_X12_146 sh_kM rfl ?_
      refine m2_aload_n hB dX12_safe_149 rfl ?_
      obtain ⟨Q12, hM13, k⟩ := k
      refine m2_invv hB (as := []) dX12_safe_150 mv_X12_308 rfl sh_kM rfl (Nat.le_of_ble_eq_true rfl) rfl hM13 (fun μ11 hq14 => ?_)
      replace k := k μ11 hq14
      refine m2_aload_n hB dX12_safe_153 rfl ?_
      refine m2_getI hB dX12_safe_154 fl_X12_248 sh_kM rfl ?_
      exact m2_iret h dX12_safe_157 k
    · replace k := k.2 q9
      refine m2_bipush hB dX12_safe_141 (v := (-2)) (by decide) ?_
      exact m2_iret h dX12_safe_143 k
  · replace k := k.2 q2
    refine m2_iload_n hB dX12_safe_82 rfl ?_
    refine m2_aload_n hB dX12_safe_83 rfl ?_
    refine m2_getR hB dX12_safe_84 fl_X12_125 sh_kM (c1 := kM_saysWho) rfl ?_
    refine m2_iload hB dX12_safe_87 rfl ?_
    obtain ⟨hi15, k⟩ := k
    refine m2_iald hB dX12_safe_89 sh_kM_saysWho hi15 ?_
    refine m2_invSz hB (as := [.int v3, .int (μ.1 kM_saysWho (v5).toNatClampNeg)]) dX12_safe_90 ms_X12_234 rfl (Nat.le_of_ble_eq_true rfl) rfl (P_X12_has (by omega) (v3) ((μ.1 kM_saysWho (v5).toNatClampNeg)) _ ) (fun y16 μ17 hq18 => ?_)
    obtain ⟨⟨⟩, hq18⟩ := hq18
    subst μ17
    show κ 93 [.ref kM, .int v1, .int v2, .int v3, .int v4, .int v5] [.int (if (fX12_has v3 (μ.1 kM_saysWho (v5).toNatClampNeg)) = 1 then 1 else 0 : Int32)] μ
    by_cases q19 : (fX12_has v3 (μ.1 kM_saysWho (v5).toNatClampNeg)) = 1
    · rw [if_pos q19]
      replace k := k.1 q19
      refine m2_if_eq hB dX12_safe_93 (tgt := 121) (by decide) (fun q => absurd q (by decide)) (fun _ => ?_)
      refine m2_aload_n hB dX12_safe_96 rfl ?_
      refine m2_getR hB dX12_safe_97 fl_X12_131 sh_kM (c1 := kM_saysNumber) rfl ?_
      refine m2_iload hB dX12_safe_100 rfl ?_
      have hi20 := hi15
      refine m2_iald hB dX12_safe_102 sh_kM_saysNumber hi20 ?_
      refine m2_iload hB dX12_safe_103 rfl ?_
      refine m2_icmp_le hB dX12_safe_105 (tgt := 121) (by decide) (fun q22 : (μ.1 kM_saysNumber (v5).toNatClampNeg) ≤ v4 => ?_) (fun q22 : ¬ (μ.1 kM_saysNumber (v5).toNatClampNeg) ≤ v4 => ?_)
      · replace k := k.1 q22
        refine m2_iinc hB (ls' := [.ref kM, .int v1, .int v2, .int v3, .int v4, .int (v5 + 1)]) (v := (v5 + 1)) dX12_safe_121 rfl (by decide) rfl rfl ?_
        refine m2_goto hB dX12_safe_124 (tgt := 73) (by decide) ?_
        exact k
      · replace k := k.2 q22
        refine m2_aload_n hB dX12_safe_108 rfl ?_
        refine m2_getR hB dX12_safe_109 fl_X12_77 sh_kM (c1 := kM_cost) rfl ?_
        refine m2_aload_n hB dX12_safe_112 rfl ?_
        refine m2_getR hB dX12_safe_113 fl_X12_128 sh_kM (c1 := kM_saysDoor) rfl ?_
        refine m2_iload hB dX12_safe_116 rfl ?_
        have hi23 := hi15
        refine m2_iald hB dX12_safe_118 sh_kM_saysDoor hi23 ?_
        refine m2_iconst hB dX12_safe_119 (v := 1) (by decide) ?_
        obtain ⟨hi24, k⟩ := k
        refine m2_iast hB dX12_safe_120 sh_kM_cost hi24 ?_
        refine m2_iinc hB (ls' := [.ref kM, .int v1, .int v2, .int v3, .int v4, .int (v5 + 1)]) (v := (v5 + 1)) dX12_safe_121 rfl (by decide) rfl rfl ?_
        refine m2_goto hB dX12_safe_124 (tgt := 73) (by decide) ?_
        exact k
    · rw [if_neg q19]
      replace k := k.2 q19
      refine m2_if_eq hB dX12_safe_93 (tgt := 121) (by decide) (fun _ => ?_) (fun q => absurd q (by decide))
      refine m2_iinc hB (ls' := [.ref kM, .int v1, .int v2, .int v3, .int v4, .int (v5 + 1)]) (v := (v5 + 1)) dX12_safe_121 rfl (by decide) rfl rfl ?_
      refine m2_goto hB dX12_safe_124 (tgt := 73) (by decide) ?_
      exact k
theorem dX12_put_0 : decode cX12_put 0 = .ok (.aload_n 0, 1) := by decide +kernel
theorem dX12_put_1 : decode cX12_put 1 = .ok (.iconst 0, 1) := by decide +kernel
theorem dX12_put_2 : decode cX12_put 2 = .ok (.putfield 143, 3) := by decide +kernel
theorem dX12_put_5 : decode cX12_put 5 = .ok (.iload_n 1, 1) := by decide +kernel
theorem dX12_put_6 : decode cX12_put 6 = .ok (.iconst 0, 1) := by decide +kernel
theorem dX12_put_7 : decode cX12_put 7 = .ok (.iconst 2, 1) := by decide +kernel
theorem dX12_put_8 : decode cX12_put 8 = .ok (.invokestatic 149, 3) := by decide +kernel
theorem dX12_put_11 : decode cX12_put 11 = .ok (.ifCond .ne 5, 3) := by decide +kernel
theorem dX12_put_14 : decode cX12_put 14 = .ok (.iconst 0, 1) := by decide +kernel
theorem dX12_put_15 : decode cX12_put 15 = .ok (.ireturn, 1) := by decide +kernel
theorem dX12_put_16 : decode cX12_put 16 = .ok (.aload_n 0, 1) := by decide +kernel
theorem dX12_put_17 : decode cX12_put 17 = .ok (.getfield 134, 3) := by decide +kernel
theorem dX12_put_20 : decode cX12_put 20 = .ok (.iload_n 1, 1) := by decide +kernel
theorem dX12_put_21 : decode cX12_put 21 = .ok (.iconst 1, 1) := by decide +kernel
theorem dX12_put_22 : decode cX12_put 22 = .ok (.bastore, 1) := by decide +kernel
theorem dX12_put_23 : decode cX12_put 23 = .ok (.aload_n 0, 1) := by decide +kernel
theorem dX12_put_24 : decode cX12_put 24 = .ok (.getfield 137, 3) := by decide +kernel
theorem dX12_put_27 : decode cX12_put 27 = .ok (.iload_n 1, 1) := by decide +kernel
theorem dX12_put_28 : decode cX12_put 28 = .ok (.aload_n 0, 1) := by decide +kernel
theorem dX12_put_29 : decode cX12_put 29 = .ok (.getfield 153, 3) := by decide +kernel
theorem dX12_put_32 : decode cX12_put 32 = .ok (.iastore, 1) := by decide +kernel
theorem dX12_put_33 : decode cX12_put 33 = .ok (.aload_n 0, 1) := by decide +kernel
theorem dX12_put_34 : decode cX12_put 34 = .ok (.getfield 140, 3) := by decide +kernel
theorem dX12_put_37 : decode cX12_put 37 = .ok (.iload_n 1, 1) := by decide +kernel
theorem dX12_put_38 : decode cX12_put 38 = .ok (.aload_n 0, 1) := by decide +kernel
theorem dX12_put_39 : decode cX12_put 39 = .ok (.getfield 156, 3) := by decide +kernel
theorem dX12_put_42 : decode cX12_put 42 = .ok (.iastore, 1) := by decide +kernel
theorem dX12_put_43 : decode cX12_put 43 = .ok (.aload_n 0, 1) := by decide +kernel
theorem dX12_put_44 : decode cX12_put 44 = .ok (.iload_n 1, 1) := by decide +kernel
theorem dX12_put_45 : decode cX12_put 45 = .ok (.invokevirtual 351, 3) := by decide +kernel
theorem dX12_put_48 : decode cX12_put 48 = .ok (.iconst 1, 1) := by decide +kernel
theorem dX12_put_49 : decode cX12_put 49 = .ok (.ireturn, 1) := by decide +kernel
set_option maxRecDepth 100000 in
set_option maxHeartbeats 4000000 in
theorem B_X12_put_0 {κ : Nat → List Value → List Value → m2M → Prop} {D : Nat} {Q : Option Value → m2M → Prop} (h : m2_RL κ cX12_put RX12 2 (D + 1) (some .boolean) Q) (hD : 0 ≤ D) {x1 : Int32} {μ : m2M} (k : ((fX12_in x1 0 2) = 1 → (vp_in x1 3) ∧ (∃ Q10 : Option Value → m2M → Prop, m2_MT D yX12_putIn cX12_putIn 4 none [.ref kM, .int x1] (m2_si (m2_si (m2_si (m2_si μ kM 22 0) kM_isKept (x1).toNatClampNeg (vp_nar .boolean 1)) kM_keptDoors (x1).toNatClampNeg (μ.1 kM 0)) kM_keptPeople (x1).toNatClampNeg (μ.1 kM 7)) Q10 ∧ ∀ (μ9 : m2M), Q10 none μ9 → (Q (some (.int 1)) μ9))) ∧ (¬ (fX12_in x1 0 2) = 1 → Q (some (.int 0)) (m2_si μ kM 22 0))) : κ 0 [.ref kM, .int x1] [] μ := by
  have hB := h.b
  refine m2_aload_n hB dX12_put_0 rfl ?_
  refine m2_iconst hB dX12_put_1 (v := 0) (by decide) ?_
  refine m2_putI hB dX12_put_2 fl_X12_143 sh_kM rfl ?_
  refine m2_iload_n hB dX12_put_5 rfl ?_
  refine m2_iconst hB dX12_put_6 (v := 0) (by decide) ?_
  refine m2_iconst hB dX12_put_7 (v := 2) (by decide) ?_
  refine m2_invSz hB (as := [.int x1, .int 0, .int 2]) dX12_put_8 ms_X12_149 rfl (Nat.le_of_ble_eq_true rfl) rfl (P_X12_in (by omega) (x1) (0) (2) _ ) (fun y1 μ2 hq3 => ?_)
  obtain ⟨⟨⟩, hq3⟩ := hq3
  subst μ2
  show κ 11 [.ref kM, .int x1] [.int (if (fX12_in x1 0 2) = 1 then 1 else 0 : Int32)] (m2_si μ kM 22 0)
  by_cases q4 : (fX12_in x1 0 2) = 1
  · rw [if_pos q4]
    replace k := k.1 q4
    refine m2_if_ne hB dX12_put_11 (tgt := 16) (by decide) (fun _ => ?_) (fun q => absurd q (by decide))
    refine m2_aload_n hB dX12_put_16 rfl ?_
    refine m2_getR hB dX12_put_17 fl_X12_134 sh_kM (c1 := kM_isKept) rfl ?_
    refine m2_iload_n hB dX12_put_20 rfl ?_
    refine m2_iconst hB dX12_put_21 (v := 1) (by decide) ?_
    obtain ⟨hi5, k⟩ := k
    refine m2_zast hB dX12_put_22 sh_kM_isKept hi5 ?_
    refine m2_aload_n hB dX12_put_23 rfl ?_
    refine m2_getR hB dX12_put_24 fl_X12_137 sh_kM (c1 := kM_keptDoors) rfl ?_
    refine m2_iload_n hB dX12_put_27 rfl ?_
    refine m2_aload_n hB dX12_put_28 rfl ?_
    refine m2_getI hB dX12_put_29 fl_X12_153 sh_kM rfl ?_
    have hi6 := hi5
    refine m2_iast hB dX12_put_32 sh_kM_keptDoors hi6 ?_
    refine m2_aload_n hB dX12_put_33 rfl ?_
    refine m2_getR hB dX12_put_34 fl_X12_140 sh_kM (c1 := kM_keptPeople) rfl ?_
    refine m2_iload_n hB dX12_put_37 rfl ?_
    refine m2_aload_n hB dX12_put_38 rfl ?_
    refine m2_getI hB dX12_put_39 fl_X12_156 sh_kM rfl ?_
    have hi7 := hi5
    refine m2_iast hB dX12_put_42 sh_kM_keptPeople hi7 ?_
    refine m2_aload_n hB dX12_put_43 rfl ?_
    refine m2_iload_n hB dX12_put_44 rfl ?_
    obtain ⟨Q10, hM11, k⟩ := k
    refine m2_invv hB (as := [.int x1]) dX12_put_45 mv_X12_351 rfl sh_kM rfl (Nat.le_of_ble_eq_true rfl) rfl hM11 (fun μ9 hq12 => ?_)
    replace k := k μ9 hq12
    refine m2_iconst hB dX12_put_48 (v := 1) (by decide) ?_
    exact m2_zret h dX12_put_49 (Or.inr rfl) k
  · rw [if_neg q4]
    replace k := k.2 q4
    refine m2_if_ne hB dX12_put_11 (tgt := 16) (by decide) (fun q => absurd q (by decide)) (fun _ => ?_)
    refine m2_iconst hB dX12_put_14 (v := 0) (by decide) ?_
    exact m2_zret h dX12_put_15 (Or.inl rfl) k
theorem dX12_again_0 : decode cX12_again 0 = .ok (.aload_n 0, 1) := by decide +kernel
theorem dX12_again_1 : decode cX12_again 1 = .ok (.iconst 0, 1) := by decide +kernel
theorem dX12_again_2 : decode cX12_again 2 = .ok (.putfield 143, 3) := by decide +kernel
theorem dX12_again_5 : decode cX12_again 5 = .ok (.iload_n 1, 1) := by decide +kernel
theorem dX12_again_6 : decode cX12_again 6 = .ok (.iconst 0, 1) := by decide +kernel
theorem dX12_again_7 : decode cX12_again 7 = .ok (.iconst 2, 1) := by decide +kernel
theorem dX12_again_8 : decode cX12_again 8 = .ok (.invokestatic 149, 3) := by decide +kernel
theorem dX12_again_11 : decode cX12_again 11 = .ok (.ifCond .eq 12, 3) := by decide +kernel
theorem dX12_again_14 : decode cX12_again 14 = .ok (.aload_n 0, 1) := by decide +kernel
theorem dX12_again_15 : decode cX12_again 15 = .ok (.getfield 134, 3) := by decide +kernel
theorem dX12_again_18 : decode cX12_again 18 = .ok (.iload_n 1, 1) := by decide +kernel
theorem dX12_again_19 : decode cX12_again 19 = .ok (.baload, 1) := by decide +kernel
theorem dX12_again_20 : decode cX12_again 20 = .ok (.ifCond .ne 5, 3) := by decide +kernel
theorem dX12_again_23 : decode cX12_again 23 = .ok (.iconst 0, 1) := by decide +kernel
theorem dX12_again_24 : decode cX12_again 24 = .ok (.ireturn, 1) := by decide +kernel
theorem dX12_again_25 : decode cX12_again 25 = .ok (.aload_n 0, 1) := by decide +kernel
theorem dX12_again_26 : decode cX12_again 26 = .ok (.iload_n 1, 1) := by decide +kernel
theorem dX12_again_27 : decode cX12_again 27 = .ok (.aload_n 0, 1) := by decide +kernel
theorem dX12_again_28 : decode cX12_again 28 = .ok (.getfield 137, 3) := by decide +kernel
theorem dX12_again_31 : decode cX12_again 31 = .ok (.iload_n 1, 1) := by decide +kernel
theorem dX12_again_32 : decode cX12_again 32 = .ok (.iaload, 1) := by decide +kernel
theorem dX12_again_33 : decode cX12_again 33 = .ok (.aload_n 0, 1) := by decide +kernel
theorem dX12_again_34 : decode cX12_again 34 = .ok (.getfield 140, 3) := by decide +kernel
theorem dX12_again_37 : decode cX12_again 37 = .ok (.iload_n 1, 1) := by decide +kernel
theorem dX12_again_38 : decode cX12_again 38 = .ok (.iaload, 1) := by decide +kernel
theorem dX12_again_39 : decode cX12_again 39 = .ok (.invokevirtual 354, 3) := by decide +kernel
theorem dX12_again_42 : decode cX12_again 42 = .ok (.iconst 1, 1) := by decide +kernel
theorem dX12_again_43 : decode cX12_again 43 = .ok (.ireturn, 1) := by decide +kernel
set_option maxRecDepth 100000 in
set_option maxHeartbeats 4000000 in
theorem B_X12_again_0 {κ : Nat → List Value → List Value → m2M → Prop} {D : Nat} {Q : Option Value → m2M → Prop} (h : m2_RL κ cX12_again RX12 2 (D + 1) (some .boolean) Q) (hD : 0 ≤ D) {x1 : Int32} {μ : m2M} (k : ((fX12_in x1 0 2) = 1 → (vp_in x1 3) ∧ ((¬ (μ.1 kM_isKept (x1).toNatClampNeg) = 0 → ∃ Q11 : Option Value → m2M → Prop, m2_MT D yX12_takeOut cX12_takeOut 6 none [.ref kM, .int x1, .int (μ.1 kM_keptDoors (x1).toNatClampNeg), .int (μ.1 kM_keptPeople (x1).toNatClampNeg)] (m2_si μ kM 22 0) Q11 ∧ ∀ (μ10 : m2M), Q11 none μ10 → (Q (some (.int 1)) μ10)) ∧ ((μ.1 kM_isKept (x1).toNatClampNeg) = 0 → Q (some (.int 0)) (m2_si μ kM 22 0)))) ∧ (¬ (fX12_in x1 0 2) = 1 → Q (some (.int 0)) (m2_si μ kM 22 0))) : κ 0 [.ref kM, .int x1] [] μ := by
  have hB := h.b
  refine m2_aload_n hB dX12_again_0 rfl ?_
  refine m2_iconst hB dX12_again_1 (v := 0) (by decide) ?_
  refine m2_putI hB dX12_again_2 fl_X12_143 sh_kM rfl ?_
  refine m2_iload_n hB dX12_again_5 rfl ?_
  refine m2_iconst hB dX12_again_6 (v := 0) (by decide) ?_
  refine m2_iconst hB dX12_again_7 (v := 2) (by decide) ?_
  refine m2_invSz hB (as := [.int x1, .int 0, .int 2]) dX12_again_8 ms_X12_149 rfl (Nat.le_of_ble_eq_true rfl) rfl (P_X12_in (by omega) (x1) (0) (2) _ ) (fun y1 μ2 hq3 => ?_)
  obtain ⟨⟨⟩, hq3⟩ := hq3
  subst μ2
  show κ 11 [.ref kM, .int x1] [.int (if (fX12_in x1 0 2) = 1 then 1 else 0 : Int32)] (m2_si μ kM 22 0)
  by_cases q4 : (fX12_in x1 0 2) = 1
  · rw [if_pos q4]
    replace k := k.1 q4
    refine m2_if_eq hB dX12_again_11 (tgt := 23) (by decide) (fun q => absurd q (by decide)) (fun _ => ?_)
    refine m2_aload_n hB dX12_again_14 rfl ?_
    refine m2_getR hB dX12_again_15 fl_X12_134 sh_kM (c1 := kM_isKept) rfl ?_
    refine m2_iload_n hB dX12_again_18 rfl ?_
    obtain ⟨hi5, k⟩ := k
    refine m2_zald hB dX12_again_19 sh_kM_isKept hi5 ?_
    refine m2_if_ne hB dX12_again_20 (tgt := 25) (by decide) (fun q6 : ¬ (μ.1 kM_isKept (x1).toNatClampNeg) = 0 => ?_) (fun q6 : (μ.1 kM_isKept (x1).toNatClampNeg) = 0 => ?_)
    · replace k := k.1 q6
      refine m2_aload_n hB dX12_again_25 rfl ?_
      refine m2_iload_n hB dX12_again_26 rfl ?_
      refine m2_aload_n hB dX12_again_27 rfl ?_
      refine m2_getR hB dX12_again_28 fl_X12_137 sh_kM (c1 := kM_keptDoors) rfl ?_
      refine m2_iload_n hB dX12_again_31 rfl ?_
      have hi7 := hi5
      refine m2_iald hB dX12_again_32 sh_kM_keptDoors hi7 ?_
      refine m2_aload_n hB dX12_again_33 rfl ?_
      refine m2_getR hB dX12_again_34 fl_X12_140 sh_kM (c1 := kM_keptPeople) rfl ?_
      refine m2_iload_n hB dX12_again_37 rfl ?_
      have hi8 := hi5
      refine m2_iald hB dX12_again_38 sh_kM_keptPeople hi8 ?_
      obtain ⟨Q11, hM12, k⟩ := k
      refine m2_invv hB (as := [.int x1, .int (μ.1 kM_keptDoors (x1).toNatClampNeg), .int (μ.1 kM_keptPeople (x1).toNatClampNeg)]) dX12_again_39 mv_X12_354 rfl sh_kM rfl (Nat.le_of_ble_eq_true rfl) rfl hM12 (fun μ10 hq13 => ?_)
      replace k := k μ10 hq13
      refine m2_iconst hB dX12_again_42 (v := 1) (by decide) ?_
      exact m2_zret h dX12_again_43 (Or.inr rfl) k
    · replace k := k.2 q6
      refine m2_iconst hB dX12_again_23 (v := 0) (by decide) ?_
      exact m2_zret h dX12_again_24 (Or.inl rfl) k
  · rw [if_neg q4]
    replace k := k.2 q4
    refine m2_if_eq hB dX12_again_11 (tgt := 23) (by decide) (fun _ => ?_) (fun q => absurd q (by decide))
    refine m2_iconst hB dX12_again_23 (v := 0) (by decide) ?_
    exact m2_zret h dX12_again_24 (Or.inl rfl) k
theorem dX12_count_0 : decode cX12_count 0 = .ok (.aload_n 0, 1) := by decide +kernel
theorem dX12_count_1 : decode cX12_count 1 = .ok (.iconst 0, 1) := by decide +kernel
theorem dX12_count_2 : decode cX12_count 2 = .ok (.putfield 143, 3) := by decide +kernel
theorem dX12_count_5 : decode cX12_count 5 = .ok (.iconst 0, 1) := by decide +kernel
theorem dX12_count_6 : decode cX12_count 6 = .ok (.istore_n 2, 1) := by decide +kernel
theorem dX12_count_7 : decode cX12_count 7 = .ok (.iload_n 1, 1) := by decide +kernel
theorem dX12_count_8 : decode cX12_count 8 = .ok (.tableswitch 192 0 9 #[56, 61, 66, 71, 108, 135, 140, 145, 150, 155], 56) := by decide +kernel
theorem dX12_count_64 : decode cX12_count 64 = .ok (.aload_n 0, 1) := by decide +kernel
theorem dX12_count_65 : decode cX12_count 65 = .ok (.getfield 153, 3) := by decide +kernel
theorem dX12_count_68 : decode cX12_count 68 = .ok (.ireturn, 1) := by decide +kernel
theorem dX12_count_69 : decode cX12_count 69 = .ok (.aload_n 0, 1) := by decide +kernel
theorem dX12_count_70 : decode cX12_count 70 = .ok (.getfield 156, 3) := by decide +kernel
theorem dX12_count_73 : decode cX12_count 73 = .ok (.ireturn, 1) := by decide +kernel
theorem dX12_count_74 : decode cX12_count 74 = .ok (.aload_n 0, 1) := by decide +kernel
theorem dX12_count_75 : decode cX12_count 75 = .ok (.getfield 228, 3) := by decide +kernel
theorem dX12_count_78 : decode cX12_count 78 = .ok (.ireturn, 1) := by decide +kernel
theorem dX12_count_79 : decode cX12_count 79 = .ok (.iconst 0, 1) := by decide +kernel
theorem dX12_count_80 : decode cX12_count 80 = .ok (.istore_n 3, 1) := by decide +kernel
theorem dX12_count_81 : decode cX12_count 81 = .ok (.iload_n 3, 1) := by decide +kernel
theorem dX12_count_82 : decode cX12_count 82 = .ok (.aload_n 0, 1) := by decide +kernel
theorem dX12_count_83 : decode cX12_count 83 = .ok (.getfield 153, 3) := by decide +kernel
theorem dX12_count_86 : decode cX12_count 86 = .ok (.if_icmp .ge 28, 3) := by decide +kernel
theorem dX12_count_89 : decode cX12_count 89 = .ok (.iload_n 2, 1) := by decide +kernel
theorem dX12_count_90 : decode cX12_count 90 = .ok (.aload_n 0, 1) := by decide +kernel
theorem dX12_count_91 : decode cX12_count 91 = .ok (.getfield 23, 3) := by decide +kernel
theorem dX12_count_94 : decode cX12_count 94 = .ok (.iload_n 3, 1) := by decide +kernel
theorem dX12_count_95 : decode cX12_count 95 = .ok (.iaload, 1) := by decide +kernel
theorem dX12_count_96 : decode cX12_count 96 = .ok (.ifCond .le 9, 3) := by decide +kernel
theorem dX12_count_99 : decode cX12_count 99 = .ok (.iconst 1, 1) := by decide +kernel
theorem dX12_count_100 : decode cX12_count 100 = .ok (.iload_n 3, 1) := by decide +kernel
theorem dX12_count_101 : decode cX12_count 101 = .ok (.ishl, 1) := by decide +kernel
theorem dX12_count_102 : decode cX12_count 102 = .ok (.goto 4, 3) := by decide +kernel
theorem dX12_count_105 : decode cX12_count 105 = .ok (.iconst 0, 1) := by decide +kernel
theorem dX12_count_106 : decode cX12_count 106 = .ok (.ior, 1) := by decide +kernel
theorem dX12_count_107 : decode cX12_count 107 = .ok (.istore_n 2, 1) := by decide +kernel
theorem dX12_count_108 : decode cX12_count 108 = .ok (.iinc 3 1, 3) := by decide +kernel
theorem dX12_count_111 : decode cX12_count 111 = .ok (.goto (-30), 3) := by decide +kernel
theorem dX12_count_114 : decode cX12_count 114 = .ok (.iload_n 2, 1) := by decide +kernel
theorem dX12_count_115 : decode cX12_count 115 = .ok (.ireturn, 1) := by decide +kernel
theorem dX12_count_116 : decode cX12_count 116 = .ok (.iconst 0, 1) := by decide +kernel
theorem dX12_count_117 : decode cX12_count 117 = .ok (.istore_n 3, 1) := by decide +kernel
theorem dX12_count_118 : decode cX12_count 118 = .ok (.iload_n 3, 1) := by decide +kernel
theorem dX12_count_119 : decode cX12_count 119 = .ok (.aload_n 0, 1) := by decide +kernel
theorem dX12_count_120 : decode cX12_count 120 = .ok (.getfield 153, 3) := by decide +kernel
theorem dX12_count_123 : decode cX12_count 123 = .ok (.if_icmp .ge 18, 3) := by decide +kernel
theorem dX12_count_126 : decode cX12_count 126 = .ok (.iload_n 2, 1) := by decide +kernel
theorem dX12_count_127 : decode cX12_count 127 = .ok (.aload_n 0, 1) := by decide +kernel
theorem dX12_count_128 : decode cX12_count 128 = .ok (.getfield 23, 3) := by decide +kernel
theorem dX12_count_131 : decode cX12_count 131 = .ok (.iload_n 3, 1) := by decide +kernel
theorem dX12_count_132 : decode cX12_count 132 = .ok (.iaload, 1) := by decide +kernel
theorem dX12_count_133 : decode cX12_count 133 = .ok (.iadd, 1) := by decide +kernel
theorem dX12_count_134 : decode cX12_count 134 = .ok (.istore_n 2, 1) := by decide +kernel
theorem dX12_count_135 : decode cX12_count 135 = .ok (.iinc 3 1, 3) := by decide +kernel
theorem dX12_count_138 : decode cX12_count 138 = .ok (.goto (-20), 3) := by decide +kernel
theorem dX12_count_141 : decode cX12_count 141 = .ok (.iload_n 2, 1) := by decide +kernel
theorem dX12_count_142 : decode cX12_count 142 = .ok (.ireturn, 1) := by decide +kernel
theorem dX12_count_143 : decode cX12_count 143 = .ok (.aload_n 0, 1) := by decide +kernel
theorem dX12_count_144 : decode cX12_count 144 = .ok (.getfield 436, 3) := by decide +kernel
theorem dX12_count_147 : decode cX12_count 147 = .ok (.ireturn, 1) := by decide +kernel
theorem dX12_count_148 : decode cX12_count 148 = .ok (.aload_n 0, 1) := by decide +kernel
theorem dX12_count_149 : decode cX12_count 149 = .ok (.getfield 53, 3) := by decide +kernel
theorem dX12_count_152 : decode cX12_count 152 = .ok (.ireturn, 1) := by decide +kernel
theorem dX12_count_153 : decode cX12_count 153 = .ok (.aload_n 0, 1) := by decide +kernel
theorem dX12_count_154 : decode cX12_count 154 = .ok (.getfield 146, 3) := by decide +kernel
theorem dX12_count_157 : decode cX12_count 157 = .ok (.ireturn, 1) := by decide +kernel
theorem dX12_count_158 : decode cX12_count 158 = .ok (.aload_n 0, 1) := by decide +kernel
theorem dX12_count_159 : decode cX12_count 159 = .ok (.getfield 159, 3) := by decide +kernel
theorem dX12_count_162 : decode cX12_count 162 = .ok (.ireturn, 1) := by decide +kernel
theorem dX12_count_163 : decode cX12_count 163 = .ok (.iconst 0, 1) := by decide +kernel
theorem dX12_count_164 : decode cX12_count 164 = .ok (.istore_n 3, 1) := by decide +kernel
theorem dX12_count_165 : decode cX12_count 165 = .ok (.iload_n 3, 1) := by decide +kernel
theorem dX12_count_166 : decode cX12_count 166 = .ok (.aload_n 0, 1) := by decide +kernel
theorem dX12_count_167 : decode cX12_count 167 = .ok (.getfield 156, 3) := by decide +kernel
theorem dX12_count_170 : decode cX12_count 170 = .ok (.if_icmp .ge 28, 3) := by decide +kernel
theorem dX12_count_173 : decode cX12_count 173 = .ok (.iload_n 2, 1) := by decide +kernel
theorem dX12_count_174 : decode cX12_count 174 = .ok (.aload_n 0, 1) := by decide +kernel
theorem dX12_count_175 : decode cX12_count 175 = .ok (.getfield 50, 3) := by decide +kernel
theorem dX12_count_178 : decode cX12_count 178 = .ok (.iload_n 3, 1) := by decide +kernel
theorem dX12_count_179 : decode cX12_count 179 = .ok (.baload, 1) := by decide +kernel
theorem dX12_count_180 : decode cX12_count 180 = .ok (.ifCond .eq 9, 3) := by decide +kernel
theorem dX12_count_183 : decode cX12_count 183 = .ok (.iconst 1, 1) := by decide +kernel
theorem dX12_count_184 : decode cX12_count 184 = .ok (.iload_n 3, 1) := by decide +kernel
theorem dX12_count_185 : decode cX12_count 185 = .ok (.ishl, 1) := by decide +kernel
theorem dX12_count_186 : decode cX12_count 186 = .ok (.goto 4, 3) := by decide +kernel
theorem dX12_count_189 : decode cX12_count 189 = .ok (.iconst 0, 1) := by decide +kernel
theorem dX12_count_190 : decode cX12_count 190 = .ok (.ior, 1) := by decide +kernel
theorem dX12_count_191 : decode cX12_count 191 = .ok (.istore_n 2, 1) := by decide +kernel
theorem dX12_count_192 : decode cX12_count 192 = .ok (.iinc 3 1, 3) := by decide +kernel
theorem dX12_count_195 : decode cX12_count 195 = .ok (.goto (-30), 3) := by decide +kernel
theorem dX12_count_198 : decode cX12_count 198 = .ok (.iload_n 2, 1) := by decide +kernel
theorem dX12_count_199 : decode cX12_count 199 = .ok (.ireturn, 1) := by decide +kernel
theorem dX12_count_200 : decode cX12_count 200 = .ok (.iconst (-1), 1) := by decide +kernel
theorem dX12_count_201 : decode cX12_count 201 = .ok (.ireturn, 1) := by decide +kernel
set_option maxRecDepth 100000 in
set_option maxHeartbeats 4000000 in
theorem B_X12_count_0 {κ : Nat → List Value → List Value → m2M → Prop} {D : Nat} {Q : Option Value → m2M → Prop} (h : m2_RL κ cX12_count RX12 4 D (some .int) Q) {x1 : Int32} {μ : m2M} (k : (x1 = 0 → Q (some (.int (μ.1 kM 0))) (m2_si μ kM 22 0)) ∧ (¬ x1 = 0 → (x1 = 1 → Q (some (.int (μ.1 kM 7))) (m2_si μ kM 22 0)) ∧ (¬ x1 = 1 → (x1 = 2 → Q (some (.int (μ.1 kM 16))) (m2_si μ kM 22 0)) ∧ (¬ x1 = 2 → (x1 = 3 → κ 81 [.ref kM, .int x1, .int 0, .int 0] [] (m2_si μ kM 22 0)) ∧ (¬ x1 = 3 → (x1 = 4 → κ 118 [.ref kM, .int x1, .int 0, .int 0] [] (m2_si μ kM 22 0)) ∧ (¬ x1 = 4 → (x1 = 5 → Q (some (.int (μ.1 kM 64))) (m2_si μ kM 22 0)) ∧ (¬ x1 = 5 → (x1 = 6 → Q (some (.int (μ.1 kM 17))) (m2_si μ kM 22 0)) ∧ (¬ x1 = 6 → (x1 = 7 → Q (some (.int (μ.1 kM 21))) (m2_si μ kM 22 0)) ∧ (¬ x1 = 7 → (x1 = 8 → Q (some (.int (μ.1 kM 19))) (m2_si μ kM 22 0)) ∧ (¬ x1 = 8 → (x1 = 9 → κ 165 [.ref kM, .int x1, .int 0, .int 0] [] (m2_si μ kM 22 0)) ∧ (¬ x1 = 9 → Q (some (.int (-1))) (m2_si μ kM 22 0)))))))))))) : κ 0 [.ref kM, .int x1, .null, .null] [] μ := by
  have hB := h.b
  refine m2_aload_n hB dX12_count_0 rfl ?_
  refine m2_iconst hB dX12_count_1 (v := 0) (by decide) ?_
  refine m2_putI hB dX12_count_2 fl_X12_143 sh_kM rfl ?_
  refine m2_iconst hB dX12_count_5 (v := 0) (by decide) ?_
  refine m2_istore_n hB (ls' := [.ref kM, .int x1, .int 0, .null]) dX12_count_6 rfl (by decide) rfl ?_
  refine m2_iload_n hB dX12_count_7 rfl ?_
  by_cases q1 : x1 = 0
  · replace k := k.1 q1
    refine m2_tableIn hB dX12_count_8 (off := 56) (tgt := 64) (by rw [q1]; decide) (by rw [q1]; decide) (by rw [q1]; decide) (by decide) ?_
    refine m2_aload_n hB dX12_count_64 rfl ?_
    refine m2_getI hB dX12_count_65 fl_X12_153 sh_kM rfl ?_
    exact m2_iret h dX12_count_68 k
  replace k := k.2 q1
  by_cases q2 : x1 = 1
  · replace k := k.1 q2
    refine m2_tableIn hB dX12_count_8 (off := 61) (tgt := 69) (by rw [q2]; decide) (by rw [q2]; decide) (by rw [q2]; decide) (by decide) ?_
    refine m2_aload_n hB dX12_count_69 rfl ?_
    refine m2_getI hB dX12_count_70 fl_X12_156 sh_kM rfl ?_
    exact m2_iret h dX12_count_73 k
  replace k := k.2 q2
  by_cases q3 : x1 = 2
  · replace k := k.1 q3
    refine m2_tableIn hB dX12_count_8 (off := 66) (tgt := 74) (by rw [q3]; decide) (by rw [q3]; decide) (by rw [q3]; decide) (by decide) ?_
    refine m2_aload_n hB dX12_count_74 rfl ?_
    refine m2_getI hB dX12_count_75 fl_X12_228 sh_kM rfl ?_
    exact m2_iret h dX12_count_78 k
  replace k := k.2 q3
  by_cases q4 : x1 = 3
  · replace k := k.1 q4
    refine m2_tableIn hB dX12_count_8 (off := 71) (tgt := 79) (by rw [q4]; decide) (by rw [q4]; decide) (by rw [q4]; decide) (by decide) ?_
    refine m2_iconst hB dX12_count_79 (v := 0) (by decide) ?_
    refine m2_istore_n hB (ls' := [.ref kM, .int x1, .int 0, .int 0]) dX12_count_80 rfl (by decide) rfl ?_
    exact k
  replace k := k.2 q4
  by_cases q5 : x1 = 4
  · replace k := k.1 q5
    refine m2_tableIn hB dX12_count_8 (off := 108) (tgt := 116) (by rw [q5]; decide) (by rw [q5]; decide) (by rw [q5]; decide) (by decide) ?_
    refine m2_iconst hB dX12_count_116 (v := 0) (by decide) ?_
    refine m2_istore_n hB (ls' := [.ref kM, .int x1, .int 0, .int 0]) dX12_count_117 rfl (by decide) rfl ?_
    exact k
  replace k := k.2 q5
  by_cases q6 : x1 = 5
  · replace k := k.1 q6
    refine m2_tableIn hB dX12_count_8 (off := 135) (tgt := 143) (by rw [q6]; decide) (by rw [q6]; decide) (by rw [q6]; decide) (by decide) ?_
    refine m2_aload_n hB dX12_count_143 rfl ?_
    refine m2_getI hB dX12_count_144 fl_X12_436 sh_kM rfl ?_
    exact m2_iret h dX12_count_147 k
  replace k := k.2 q6
  by_cases q7 : x1 = 6
  · replace k := k.1 q7
    refine m2_tableIn hB dX12_count_8 (off := 140) (tgt := 148) (by rw [q7]; decide) (by rw [q7]; decide) (by rw [q7]; decide) (by decide) ?_
    refine m2_aload_n hB dX12_count_148 rfl ?_
    refine m2_getI hB dX12_count_149 fl_X12_53 sh_kM rfl ?_
    exact m2_iret h dX12_count_152 k
  replace k := k.2 q7
  by_cases q8 : x1 = 7
  · replace k := k.1 q8
    refine m2_tableIn hB dX12_count_8 (off := 145) (tgt := 153) (by rw [q8]; decide) (by rw [q8]; decide) (by rw [q8]; decide) (by decide) ?_
    refine m2_aload_n hB dX12_count_153 rfl ?_
    refine m2_getI hB dX12_count_154 fl_X12_146 sh_kM rfl ?_
    exact m2_iret h dX12_count_157 k
  replace k := k.2 q8
  by_cases q9 : x1 = 8
  · replace k := k.1 q9
    refine m2_tableIn hB dX12_count_8 (off := 150) (tgt := 158) (by rw [q9]; decide) (by rw [q9]; decide) (by rw [q9]; decide) (by decide) ?_
    refine m2_aload_n hB dX12_count_158 rfl ?_
    refine m2_getI hB dX12_count_159 fl_X12_159 sh_kM rfl ?_
    exact m2_iret h dX12_count_162 k
  replace k := k.2 q9
  by_cases q10 : x1 = 9
  · replace k := k.1 q10
    refine m2_tableIn hB dX12_count_8 (off := 155) (tgt := 163) (by rw [q10]; decide) (by rw [q10]; decide) (by rw [q10]; decide) (by decide) ?_
    refine m2_iconst hB dX12_count_163 (v := 0) (by decide) ?_
    refine m2_istore_n hB (ls' := [.ref kM, .int x1, .int 0, .int 0]) dX12_count_164 rfl (by decide) rfl ?_
    exact k
  replace k := k.2 q10
  refine m2_tableOut hB dX12_count_8 (tgt := 200) (by have z0 := lv_neT q1 (show (0 : Int32).toInt = 0 by decide); have z1 := lv_neT q2 (show (1 : Int32).toInt = 1 by decide); have z2 := lv_neT q3 (show (2 : Int32).toInt = 2 by decide); have z3 := lv_neT q4 (show (3 : Int32).toInt = 3 by decide); have z4 := lv_neT q5 (show (4 : Int32).toInt = 4 by decide); have z5 := lv_neT q6 (show (5 : Int32).toInt = 5 by decide); have z6 := lv_neT q7 (show (6 : Int32).toInt = 6 by decide); have z7 := lv_neT q8 (show (7 : Int32).toInt = 7 by decide); have z8 := lv_neT q9 (show (8 : Int32).toInt = 8 by decide); have z9 := lv_neT q10 (show (9 : Int32).toInt = 9 by decide); omega) (by decide) ?_
  refine m2_iconst hB dX12_count_200 (v := (-1)) (by decide) ?_
  exact m2_iret h dX12_count_201 k
set_option maxRecDepth 100000 in
set_option maxHeartbeats 4000000 in
theorem B_X12_count_81 {κ : Nat → List Value → List Value → m2M → Prop} {D : Nat} {Q : Option Value → m2M → Prop} (h : m2_RL κ cX12_count RX12 4 D (some .int) Q) {v1 : Int32} {v2 : Int32} {v3 : Int32} {μ : m2M} (k : ((μ.1 kM 0) ≤ v3 → Q (some (.int v2)) μ) ∧ (¬ (μ.1 kM 0) ≤ v3 → (vp_in v3 20) ∧ (κ 81 [.ref kM, .int v1, .int (v2 ||| (if (μ.1 kM_left (v3).toNatClampNeg) ≤ 0 then 0 else ((1 : Int32) <<< (v3 &&& 31)) : Int32)), .int (v3 + 1)] [] μ))) : κ 81 [.ref kM, .int v1, .int v2, .int v3] [] μ := by
  have hB := h.b
  refine m2_iload_n hB dX12_count_81 rfl ?_
  refine m2_aload_n hB dX12_count_82 rfl ?_
  refine m2_getI hB dX12_count_83 fl_X12_153 sh_kM rfl ?_
  refine m2_icmp_ge hB dX12_count_86 (tgt := 114) (by decide) (fun q2 : (μ.1 kM 0) ≤ v3 => ?_) (fun q2 : ¬ (μ.1 kM 0) ≤ v3 => ?_)
  · replace k := k.1 q2
    refine m2_iload_n hB dX12_count_114 rfl ?_
    exact m2_iret h dX12_count_115 k
  · replace k := k.2 q2
    refine m2_iload_n hB dX12_count_89 rfl ?_
    refine m2_aload_n hB dX12_count_90 rfl ?_
    refine m2_getR hB dX12_count_91 fl_X12_23 sh_kM (c1 := kM_left) rfl ?_
    refine m2_iload_n hB dX12_count_94 rfl ?_
    obtain ⟨hi3, k⟩ := k
    refine m2_iald hB dX12_count_95 sh_kM_left hi3 ?_
    have G5 : κ 106 [.ref kM, .int v1, .int v2, .int v3] [.int (if (μ.1 kM_left (v3).toNatClampNeg) ≤ 0 then 0 else ((1 : Int32) <<< (v3 &&& 31)) : Int32), .int v2] μ := by
      refine m2_ior hB dX12_count_106 ?_
      refine m2_istore_n hB (ls' := [.ref kM, .int v1, .int (v2 ||| (if (μ.1 kM_left (v3).toNatClampNeg) ≤ 0 then 0 else ((1 : Int32) <<< (v3 &&& 31)) : Int32)), .int v3]) dX12_count_107 rfl (by decide) rfl ?_
      refine m2_iinc hB (ls' := [.ref kM, .int v1, .int (v2 ||| (if (μ.1 kM_left (v3).toNatClampNeg) ≤ 0 then 0 else ((1 : Int32) <<< (v3 &&& 31)) : Int32)), .int (v3 + 1)]) (v := (v3 + 1)) dX12_count_108 rfl (by decide) rfl rfl ?_
      refine m2_goto hB dX12_count_111 (tgt := 81) (by decide) ?_
      exact k
    refine m2_if_le hB dX12_count_96 (tgt := 105) (by decide) (fun q4 : (μ.1 kM_left (v3).toNatClampNeg) ≤ 0 => ?_) (fun q4 : ¬ (μ.1 kM_left (v3).toNatClampNeg) ≤ 0 => ?_)
    · rw [if_pos q4] at G5
      refine m2_iconst hB dX12_count_105 (v := 0) (by decide) ?_
      exact G5
    · rw [if_neg q4] at G5
      refine m2_iconst hB dX12_count_99 (v := 1) (by decide) ?_
      refine m2_iload_n hB dX12_count_100 rfl ?_
      refine m2_ishl hB dX12_count_101 ?_
      refine m2_goto hB dX12_count_102 (tgt := 106) (by decide) ?_
      exact G5
set_option maxRecDepth 100000 in
set_option maxHeartbeats 4000000 in
theorem B_X12_count_118 {κ : Nat → List Value → List Value → m2M → Prop} {D : Nat} {Q : Option Value → m2M → Prop} (h : m2_RL κ cX12_count RX12 4 D (some .int) Q) {v1 : Int32} {v2 : Int32} {v3 : Int32} {μ : m2M} (k : ((μ.1 kM 0) ≤ v3 → Q (some (.int v2)) μ) ∧ (¬ (μ.1 kM 0) ≤ v3 → (vp_in v3 20) ∧ (κ 118 [.ref kM, .int v1, .int (v2 + (μ.1 kM_left (v3).toNatClampNeg)), .int (v3 + 1)] [] μ))) : κ 118 [.ref kM, .int v1, .int v2, .int v3] [] μ := by
  have hB := h.b
  refine m2_iload_n hB dX12_count_118 rfl ?_
  refine m2_aload_n hB dX12_count_119 rfl ?_
  refine m2_getI hB dX12_count_120 fl_X12_153 sh_kM rfl ?_
  refine m2_icmp_ge hB dX12_count_123 (tgt := 141) (by decide) (fun q2 : (μ.1 kM 0) ≤ v3 => ?_) (fun q2 : ¬ (μ.1 kM 0) ≤ v3 => ?_)
  · replace k := k.1 q2
    refine m2_iload_n hB dX12_count_141 rfl ?_
    exact m2_iret h dX12_count_142 k
  · replace k := k.2 q2
    refine m2_iload_n hB dX12_count_126 rfl ?_
    refine m2_aload_n hB dX12_count_127 rfl ?_
    refine m2_getR hB dX12_count_128 fl_X12_23 sh_kM (c1 := kM_left) rfl ?_
    refine m2_iload_n hB dX12_count_131 rfl ?_
    obtain ⟨hi3, k⟩ := k
    refine m2_iald hB dX12_count_132 sh_kM_left hi3 ?_
    refine m2_iadd hB dX12_count_133 ?_
    refine m2_istore_n hB (ls' := [.ref kM, .int v1, .int (v2 + (μ.1 kM_left (v3).toNatClampNeg)), .int v3]) dX12_count_134 rfl (by decide) rfl ?_
    refine m2_iinc hB (ls' := [.ref kM, .int v1, .int (v2 + (μ.1 kM_left (v3).toNatClampNeg)), .int (v3 + 1)]) (v := (v3 + 1)) dX12_count_135 rfl (by decide) rfl rfl ?_
    refine m2_goto hB dX12_count_138 (tgt := 118) (by decide) ?_
    exact k
set_option maxRecDepth 100000 in
set_option maxHeartbeats 4000000 in
theorem B_X12_count_165 {κ : Nat → List Value → List Value → m2M → Prop} {D : Nat} {Q : Option Value → m2M → Prop} (h : m2_RL κ cX12_count RX12 4 D (some .int) Q) {v1 : Int32} {v2 : Int32} {v3 : Int32} {μ : m2M} (k : ((μ.1 kM 7) ≤ v3 → Q (some (.int v2)) μ) ∧ (¬ (μ.1 kM 7) ≤ v3 → (vp_in v3 8) ∧ (κ 165 [.ref kM, .int v1, .int (v2 ||| (if (μ.1 kM_isDone (v3).toNatClampNeg) = 0 then 0 else ((1 : Int32) <<< (v3 &&& 31)) : Int32)), .int (v3 + 1)] [] μ))) : κ 165 [.ref kM, .int v1, .int v2, .int v3] [] μ := by
  have hB := h.b
  refine m2_iload_n hB dX12_count_165 rfl ?_
  refine m2_aload_n hB dX12_count_166 rfl ?_
  refine m2_getI hB dX12_count_167 fl_X12_156 sh_kM rfl ?_
  refine m2_icmp_ge hB dX12_count_170 (tgt := 198) (by decide) (fun q2 : (μ.1 kM 7) ≤ v3 => ?_) (fun q2 : ¬ (μ.1 kM 7) ≤ v3 => ?_)
  · replace k := k.1 q2
    refine m2_iload_n hB dX12_count_198 rfl ?_
    exact m2_iret h dX12_count_199 k
  · replace k := k.2 q2
    refine m2_iload_n hB dX12_count_173 rfl ?_
    refine m2_aload_n hB dX12_count_174 rfl ?_
    refine m2_getR hB dX12_count_175 fl_X12_50 sh_kM (c1 := kM_isDone) rfl ?_
    refine m2_iload_n hB dX12_count_178 rfl ?_
    obtain ⟨hi3, k⟩ := k
    refine m2_zald hB dX12_count_179 sh_kM_isDone hi3 ?_
    have G5 : κ 190 [.ref kM, .int v1, .int v2, .int v3] [.int (if (μ.1 kM_isDone (v3).toNatClampNeg) = 0 then 0 else ((1 : Int32) <<< (v3 &&& 31)) : Int32), .int v2] μ := by
      refine m2_ior hB dX12_count_190 ?_
      refine m2_istore_n hB (ls' := [.ref kM, .int v1, .int (v2 ||| (if (μ.1 kM_isDone (v3).toNatClampNeg) = 0 then 0 else ((1 : Int32) <<< (v3 &&& 31)) : Int32)), .int v3]) dX12_count_191 rfl (by decide) rfl ?_
      refine m2_iinc hB (ls' := [.ref kM, .int v1, .int (v2 ||| (if (μ.1 kM_isDone (v3).toNatClampNeg) = 0 then 0 else ((1 : Int32) <<< (v3 &&& 31)) : Int32)), .int (v3 + 1)]) (v := (v3 + 1)) dX12_count_192 rfl (by decide) rfl rfl ?_
      refine m2_goto hB dX12_count_195 (tgt := 165) (by decide) ?_
      exact k
    refine m2_if_eq hB dX12_count_180 (tgt := 189) (by decide) (fun q4 : (μ.1 kM_isDone (v3).toNatClampNeg) = 0 => ?_) (fun q4 : ¬ (μ.1 kM_isDone (v3).toNatClampNeg) = 0 => ?_)
    · rw [if_pos q4] at G5
      refine m2_iconst hB dX12_count_189 (v := 0) (by decide) ?_
      exact G5
    · rw [if_neg q4] at G5
      refine m2_iconst hB dX12_count_183 (v := 1) (by decide) ?_
      refine m2_iload_n hB dX12_count_184 rfl ?_
      refine m2_ishl hB dX12_count_185 ?_
      refine m2_goto hB dX12_count_186 (tgt := 190) (by decide) ?_
      exact G5
theorem dX12_row_0 : decode cX12_row 0 = .ok (.aload_n 0, 1) := by decide +kernel
theorem dX12_row_1 : decode cX12_row 1 = .ok (.iconst 0, 1) := by decide +kernel
theorem dX12_row_2 : decode cX12_row 2 = .ok (.putfield 143, 3) := by decide +kernel
theorem dX12_row_5 : decode cX12_row 5 = .ok (.iload_n 1, 1) := by decide +kernel
theorem dX12_row_6 : decode cX12_row 6 = .ok (.iconst 0, 1) := by decide +kernel
theorem dX12_row_7 : decode cX12_row 7 = .ok (.aload_n 0, 1) := by decide +kernel
theorem dX12_row_8 : decode cX12_row 8 = .ok (.getfield 146, 3) := by decide +kernel
theorem dX12_row_11 : decode cX12_row 11 = .ok (.iconst 1, 1) := by decide +kernel
theorem dX12_row_12 : decode cX12_row 12 = .ok (.isub, 1) := by decide +kernel
theorem dX12_row_13 : decode cX12_row 13 = .ok (.invokestatic 149, 3) := by decide +kernel
theorem dX12_row_16 : decode cX12_row 16 = .ok (.ifCond .eq 12, 3) := by decide +kernel
theorem dX12_row_19 : decode cX12_row 19 = .ok (.aload_n 0, 1) := by decide +kernel
theorem dX12_row_20 : decode cX12_row 20 = .ok (.getfield 61, 3) := by decide +kernel
theorem dX12_row_23 : decode cX12_row 23 = .ok (.iload_n 1, 1) := by decide +kernel
theorem dX12_row_24 : decode cX12_row 24 = .ok (.laload, 1) := by decide +kernel
theorem dX12_row_25 : decode cX12_row 25 = .ok (.goto 8, 3) := by decide +kernel
theorem dX12_row_28 : decode cX12_row 28 = .ok (.aload_n 0, 1) := by decide +kernel
theorem dX12_row_29 : decode cX12_row 29 = .ok (.invokevirtual 292, 3) := by decide +kernel
theorem dX12_row_32 : decode cX12_row 32 = .ok (.i2l, 1) := by decide +kernel
theorem dX12_row_33 : decode cX12_row 33 = .ok (.lreturn, 1) := by decide +kernel
set_option maxRecDepth 100000 in
set_option maxHeartbeats 4000000 in
theorem B_X12_row_0 {κ : Nat → List Value → List Value → m2M → Prop} {D : Nat} {Q : Option Value → m2M → Prop} (h : m2_RL κ cX12_row RX12 2 (D + 1) (some .long) Q) (hD : 0 ≤ D) {x1 : Int32} {μ : m2M} (k : ((fX12_in x1 0 ((μ.1 kM 21) - 1)) = 1 → (vp_in x1 40) ∧ (Q (some (.long ((μ).2 kM_row (x1).toNatClampNeg))) (m2_si μ kM 22 0))) ∧ (¬ (fX12_in x1 0 ((μ.1 kM 21) - 1)) = 1 → ∃ Q8 : Option Value → m2M → Prop, m2_MT D yX12_lost cX12_lost 1 (some .int) [.ref kM] (m2_si μ kM 22 0) Q8 ∧ ∀ (y6 : Int32) (μ7 : m2M), Q8 (some (.int y6)) μ7 → (Q (some (.long (y6).toInt64)) μ7))) : κ 0 [.ref kM, .int x1] [] μ := by
  have hB := h.b
  refine m2_aload_n hB dX12_row_0 rfl ?_
  refine m2_iconst hB dX12_row_1 (v := 0) (by decide) ?_
  refine m2_putI hB dX12_row_2 fl_X12_143 sh_kM rfl ?_
  refine m2_iload_n hB dX12_row_5 rfl ?_
  refine m2_iconst hB dX12_row_6 (v := 0) (by decide) ?_
  refine m2_aload_n hB dX12_row_7 rfl ?_
  refine m2_getI hB dX12_row_8 fl_X12_146 sh_kM rfl ?_
  refine m2_iconst hB dX12_row_11 (v := 1) (by decide) ?_
  refine m2_isub hB dX12_row_12 ?_
  refine m2_invSz hB (as := [.int x1, .int 0, .int ((μ.1 kM 21) - 1)]) dX12_row_13 ms_X12_149 rfl (Nat.le_of_ble_eq_true rfl) rfl (P_X12_in (by omega) (x1) (0) (((μ.1 kM 21) - 1)) _ ) (fun y1 μ2 hq3 => ?_)
  obtain ⟨⟨⟩, hq3⟩ := hq3
  subst μ2
  show κ 16 [.ref kM, .int x1] [.int (if (fX12_in x1 0 ((μ.1 kM 21) - 1)) = 1 then 1 else 0 : Int32)] (m2_si μ kM 22 0)
  by_cases q4 : (fX12_in x1 0 ((μ.1 kM 21) - 1)) = 1
  · rw [if_pos q4]
    replace k := k.1 q4
    refine m2_if_eq hB dX12_row_16 (tgt := 28) (by decide) (fun q => absurd q (by decide)) (fun _ => ?_)
    refine m2_aload_n hB dX12_row_19 rfl ?_
    refine m2_getR hB dX12_row_20 fl_X12_61 sh_kM (c1 := kM_row) rfl ?_
    refine m2_iload_n hB dX12_row_23 rfl ?_
    obtain ⟨hi5, k⟩ := k
    refine m2_lald hB dX12_row_24 sh_kM_row hi5 ?_
    refine m2_goto hB dX12_row_25 (tgt := 33) (by decide) ?_
    exact m2_lret h dX12_row_33 k
  · rw [if_neg q4]
    replace k := k.2 q4
    refine m2_if_eq hB dX12_row_16 (tgt := 28) (by decide) (fun _ => ?_) (fun q => absurd q (by decide))
    refine m2_aload_n hB dX12_row_28 rfl ?_
    obtain ⟨Q8, hM9, k⟩ := k
    refine m2_invi hB (as := []) dX12_row_29 mv_X12_292 rfl sh_kM rfl (Nat.le_of_ble_eq_true rfl) rfl hM9 (fun y6 μ7 hq10 => ?_)
    replace k := k y6 μ7 hq10
    refine m2_i2l hB dX12_row_32 ?_
    exact m2_lret h dX12_row_33 k
