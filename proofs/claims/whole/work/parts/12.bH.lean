theorem dX2_read_0 : decode cX2_read 0 = .ok (.aload_n 0, 1) := by decide +kernel
theorem dX2_read_1 : decode cX2_read 1 = .ok (.iload_n 1, 1) := by decide +kernel
theorem dX2_read_2 : decode cX2_read 2 = .ok (.bipush 76, 2) := by decide +kernel
theorem dX2_read_4 : decode cX2_read 4 = .ok (.invokestatic 23, 3) := by decide +kernel
theorem dX2_read_7 : decode cX2_read 7 = .ok (.putfield 29, 3) := by decide +kernel
theorem dX2_read_10 : decode cX2_read 10 = .ok (.aload_n 0, 1) := by decide +kernel
theorem dX2_read_11 : decode cX2_read 11 = .ok (.iconst 0, 1) := by decide +kernel
theorem dX2_read_12 : decode cX2_read 12 = .ok (.putfield 33, 3) := by decide +kernel
theorem dX2_read_15 : decode cX2_read 15 = .ok (.aload_n 0, 1) := by decide +kernel
theorem dX2_read_16 : decode cX2_read 16 = .ok (.aload_n 0, 1) := by decide +kernel
theorem dX2_read_17 : decode cX2_read 17 = .ok (.getfield 15, 3) := by decide +kernel
theorem dX2_read_20 : decode cX2_read 20 = .ok (.getfield 36, 3) := by decide +kernel
theorem dX2_read_23 : decode cX2_read 23 = .ok (.putfield 41, 3) := by decide +kernel
theorem dX2_read_26 : decode cX2_read 26 = .ok (.aload_n 0, 1) := by decide +kernel
theorem dX2_read_27 : decode cX2_read 27 = .ok (.aload_n 0, 1) := by decide +kernel
theorem dX2_read_28 : decode cX2_read 28 = .ok (.getfield 19, 3) := by decide +kernel
theorem dX2_read_31 : decode cX2_read 31 = .ok (.getfield 44, 3) := by decide +kernel
theorem dX2_read_34 : decode cX2_read 34 = .ok (.putfield 47, 3) := by decide +kernel
theorem dX2_read_37 : decode cX2_read 37 = .ok (.iconst 0, 1) := by decide +kernel
theorem dX2_read_38 : decode cX2_read 38 = .ok (.istore_n 2, 1) := by decide +kernel
theorem dX2_read_39 : decode cX2_read 39 = .ok (.iconst 1, 1) := by decide +kernel
theorem dX2_read_40 : decode cX2_read 40 = .ok (.istore_n 3, 1) := by decide +kernel
theorem dX2_read_41 : decode cX2_read 41 = .ok (.iconst 0, 1) := by decide +kernel
theorem dX2_read_42 : decode cX2_read 42 = .ok (.istore 4, 2) := by decide +kernel
theorem dX2_read_44 : decode cX2_read 44 = .ok (.iload 4, 2) := by decide +kernel
theorem dX2_read_46 : decode cX2_read 46 = .ok (.bipush 76, 2) := by decide +kernel
theorem dX2_read_48 : decode cX2_read 48 = .ok (.if_icmp .ge 54, 3) := by decide +kernel
theorem dX2_read_51 : decode cX2_read 51 = .ok (.iload_n 3, 1) := by decide +kernel
theorem dX2_read_52 : decode cX2_read 52 = .ok (.ifCond .eq 50, 3) := by decide +kernel
theorem dX2_read_55 : decode cX2_read 55 = .ok (.aload_n 0, 1) := by decide +kernel
theorem dX2_read_56 : decode cX2_read 56 = .ok (.getfield 33, 3) := by decide +kernel
theorem dX2_read_59 : decode cX2_read 59 = .ok (.aload_n 0, 1) := by decide +kernel
theorem dX2_read_60 : decode cX2_read 60 = .ok (.getfield 29, 3) := by decide +kernel
theorem dX2_read_63 : decode cX2_read 63 = .ok (.if_icmp .ge 39, 3) := by decide +kernel
theorem dX2_read_66 : decode cX2_read 66 = .ok (.iload 4, 2) := by decide +kernel
theorem dX2_read_68 : decode cX2_read 68 = .ok (.ifCond .eq 12, 3) := by decide +kernel
theorem dX2_read_71 : decode cX2_read 71 = .ok (.aload_n 0, 1) := by decide +kernel
theorem dX2_read_72 : decode cX2_read 72 = .ok (.bipush 59, 2) := by decide +kernel
theorem dX2_read_74 : decode cX2_read 74 = .ok (.invokevirtual 50, 3) := by decide +kernel
theorem dX2_read_77 : decode cX2_read 77 = .ok (.ifCond .eq 14, 3) := by decide +kernel
theorem dX2_read_80 : decode cX2_read 80 = .ok (.aload_n 0, 1) := by decide +kernel
theorem dX2_read_81 : decode cX2_read 81 = .ok (.invokevirtual 54, 3) := by decide +kernel
theorem dX2_read_84 : decode cX2_read 84 = .ok (.ifCond .eq 7, 3) := by decide +kernel
theorem dX2_read_87 : decode cX2_read 87 = .ok (.iconst 1, 1) := by decide +kernel
theorem dX2_read_88 : decode cX2_read 88 = .ok (.goto 4, 3) := by decide +kernel
theorem dX2_read_91 : decode cX2_read 91 = .ok (.iconst 0, 1) := by decide +kernel
theorem dX2_read_92 : decode cX2_read 92 = .ok (.istore_n 3, 1) := by decide +kernel
theorem dX2_read_93 : decode cX2_read 93 = .ok (.iinc 2 1, 3) := by decide +kernel
theorem dX2_read_96 : decode cX2_read 96 = .ok (.iinc 4 1, 3) := by decide +kernel
theorem dX2_read_99 : decode cX2_read 99 = .ok (.goto (-55), 3) := by decide +kernel
theorem dX2_read_102 : decode cX2_read 102 = .ok (.iload_n 3, 1) := by decide +kernel
theorem dX2_read_103 : decode cX2_read 103 = .ok (.ifCond .eq 9, 3) := by decide +kernel
theorem dX2_read_106 : decode cX2_read 106 = .ok (.iload_n 1, 1) := by decide +kernel
theorem dX2_read_107 : decode cX2_read 107 = .ok (.bipush 76, 2) := by decide +kernel
theorem dX2_read_109 : decode cX2_read 109 = .ok (.if_icmp .le 10, 3) := by decide +kernel
theorem dX2_read_112 : decode cX2_read 112 = .ok (.iconst (-1), 1) := by decide +kernel
theorem dX2_read_113 : decode cX2_read 113 = .ok (.aload_n 0, 1) := by decide +kernel
theorem dX2_read_114 : decode cX2_read 114 = .ok (.getfield 33, 3) := by decide +kernel
theorem dX2_read_117 : decode cX2_read 117 = .ok (.isub, 1) := by decide +kernel
theorem dX2_read_118 : decode cX2_read 118 = .ok (.ireturn, 1) := by decide +kernel
theorem dX2_read_119 : decode cX2_read 119 = .ok (.aload_n 0, 1) := by decide +kernel
theorem dX2_read_120 : decode cX2_read 120 = .ok (.getfield 15, 3) := by decide +kernel
theorem dX2_read_123 : decode cX2_read 123 = .ok (.aload_n 0, 1) := by decide +kernel
theorem dX2_read_124 : decode cX2_read 124 = .ok (.getfield 41, 3) := by decide +kernel
theorem dX2_read_127 : decode cX2_read 127 = .ok (.putfield 36, 3) := by decide +kernel
theorem dX2_read_130 : decode cX2_read 130 = .ok (.aload_n 0, 1) := by decide +kernel
theorem dX2_read_131 : decode cX2_read 131 = .ok (.getfield 19, 3) := by decide +kernel
theorem dX2_read_134 : decode cX2_read 134 = .ok (.aload_n 0, 1) := by decide +kernel
theorem dX2_read_135 : decode cX2_read 135 = .ok (.getfield 47, 3) := by decide +kernel
theorem dX2_read_138 : decode cX2_read 138 = .ok (.putfield 44, 3) := by decide +kernel
theorem dX2_read_141 : decode cX2_read 141 = .ok (.iload_n 2, 1) := by decide +kernel
theorem dX2_read_142 : decode cX2_read 142 = .ok (.ireturn, 1) := by decide +kernel
set_option maxRecDepth 100000 in
set_option maxHeartbeats 4000000 in
theorem B_X2_read_0 {κ : Nat → List Value → List Value → m2M → Prop} {D : Nat} {Q : Option Value → m2M → Prop} (h : m2_RL κ cX2_read RX2 5 (D + 1) (some .int) Q) (hD : 0 ≤ D) {x1 : Int32} {μ : m2M} (k : κ 44 [.ref kH, .int x1, .int 0, .int 1, .int 0] [] (m2_si (m2_si (m2_si (m2_si μ kH 3 (m2_min x1 76)) kH 4 0) kH 6 (μ.1 kD 6)) kH 7 (μ.1 kP 8))) : κ 0 [.ref kH, .int x1, .null, .null, .null] [] μ := by
  have hB := h.b
  refine m2_aload_n hB dX2_read_0 rfl ?_
  refine m2_iload_n hB dX2_read_1 rfl ?_
  refine m2_bipush hB dX2_read_2 (v := 76) (by decide) ?_
  refine m2_mmin hB dX2_read_4 ms_X2_23 (Nat.le_of_ble_eq_true rfl) ?_
  refine m2_putI hB dX2_read_7 fl_X2_29 sh_kH rfl ?_
  refine m2_aload_n hB dX2_read_10 rfl ?_
  refine m2_iconst hB dX2_read_11 (v := 0) (by decide) ?_
  refine m2_putI hB dX2_read_12 fl_X2_33 sh_kH rfl ?_
  refine m2_aload_n hB dX2_read_15 rfl ?_
  refine m2_aload_n hB dX2_read_16 rfl ?_
  refine m2_getR hB dX2_read_17 fl_X2_15 sh_kH (c1 := kD) rfl ?_
  refine m2_getI hB dX2_read_20 fl_X2_36 sh_kD rfl ?_
  refine m2_putI hB dX2_read_23 fl_X2_41 sh_kH rfl ?_
  refine m2_aload_n hB dX2_read_26 rfl ?_
  refine m2_aload_n hB dX2_read_27 rfl ?_
  refine m2_getR hB dX2_read_28 fl_X2_19 sh_kH (c1 := kP) rfl ?_
  refine m2_getI hB dX2_read_31 fl_X2_44 sh_kP rfl ?_
  refine m2_putI hB dX2_read_34 fl_X2_47 sh_kH rfl ?_
  refine m2_iconst hB dX2_read_37 (v := 0) (by decide) ?_
  refine m2_istore_n hB (ls' := [.ref kH, .int x1, .int 0, .null, .null]) dX2_read_38 rfl (by decide) rfl ?_
  refine m2_iconst hB dX2_read_39 (v := 1) (by decide) ?_
  refine m2_istore_n hB (ls' := [.ref kH, .int x1, .int 0, .int 1, .null]) dX2_read_40 rfl (by decide) rfl ?_
  refine m2_iconst hB dX2_read_41 (v := 0) (by decide) ?_
  refine m2_istore hB (ls' := [.ref kH, .int x1, .int 0, .int 1, .int 0]) dX2_read_42 (by decide) rfl ?_
  exact k
set_option maxRecDepth 100000 in
set_option maxHeartbeats 4000000 in
theorem B_X2_read_44 {κ : Nat → List Value → List Value → m2M → Prop} {D : Nat} {Q : Option Value → m2M → Prop} (h : m2_RL κ cX2_read RX2 5 (D + 1) (some .int) Q) {v1 : Int32} {v2 : Int32} {v3 : Int32} {v4 : Int32} {μ : m2M} (k : (76 ≤ v4 → (v3 = 0 → Q (some (.int (((-1) : Int32) - (μ.1 kH 4)))) μ) ∧ (¬ v3 = 0 → (v1 ≤ 76 → Q (some (.int v2)) (m2_si (m2_si μ kD 6 (μ.1 kH 6)) kP 8 (μ.1 kH 7))) ∧ (¬ v1 ≤ 76 → Q (some (.int (((-1) : Int32) - (μ.1 kH 4)))) μ))) ∧ (¬ 76 ≤ v4 → (v3 = 0 → (v3 = 0 → Q (some (.int (((-1) : Int32) - (μ.1 kH 4)))) μ) ∧ (¬ v3 = 0 → (v1 ≤ 76 → Q (some (.int v2)) (m2_si (m2_si μ kD 6 (μ.1 kH 6)) kP 8 (μ.1 kH 7))) ∧ (¬ v1 ≤ 76 → Q (some (.int (((-1) : Int32) - (μ.1 kH 4)))) μ))) ∧ (¬ v3 = 0 → ((μ.1 kH 3) ≤ (μ.1 kH 4) → (v3 = 0 → Q (some (.int (((-1) : Int32) - (μ.1 kH 4)))) μ) ∧ (¬ v3 = 0 → (v1 ≤ 76 → Q (some (.int v2)) (m2_si (m2_si μ kD 6 (μ.1 kH 6)) kP 8 (μ.1 kH 7))) ∧ (¬ v1 ≤ 76 → Q (some (.int (((-1) : Int32) - (μ.1 kH 4)))) μ))) ∧ (¬ (μ.1 kH 3) ≤ (μ.1 kH 4) → (v4 = 0 → ∃ Q13 : Option Value → m2M → Prop, m2_MT D yX2_readLine cX2_readLine 1 (some .boolean) [.ref kH] μ Q13 ∧ ∀ (y11 : Int32) (μ12 : m2M), Q13 (some (.int y11)) μ12 → (κ 44 [.ref kH, .int v1, .int (v2 + 1), .int (if y11 = 0 then 0 else 1 : Int32), .int (v4 + 1)] [] μ12)) ∧ (¬ v4 = 0 → ∃ Q20 : Option Value → m2M → Prop, m2_MT D yX2_takes cX2_takes 2 (some .boolean) [.ref kH, .int 59] μ Q20 ∧ ∀ (y18 : Int32) (μ19 : m2M), Q20 (some (.int y18)) μ19 → ((y18 = 0 → κ 44 [.ref kH, .int v1, .int (v2 + 1), .int 0, .int (v4 + 1)] [] μ19) ∧ (¬ y18 = 0 → ∃ Q26 : Option Value → m2M → Prop, m2_MT D yX2_readLine cX2_readLine 1 (some .boolean) [.ref kH] μ19 Q26 ∧ ∀ (y24 : Int32) (μ25 : m2M), Q26 (some (.int y24)) μ25 → (κ 44 [.ref kH, .int v1, .int (v2 + 1), .int (if y24 = 0 then 0 else 1 : Int32), .int (v4 + 1)] [] μ25)))))))) : κ 44 [.ref kH, .int v1, .int v2, .int v3, .int v4] [] μ := by
  have hB := h.b
  refine m2_iload hB dX2_read_44 rfl ?_
  refine m2_bipush hB dX2_read_46 (v := 76) (by decide) ?_
  refine m2_icmp_ge hB dX2_read_48 (tgt := 102) (by decide) (fun q1 : 76 ≤ v4 => ?_) (fun q1 : ¬ 76 ≤ v4 => ?_)
  · replace k := k.1 q1
    refine m2_iload_n hB dX2_read_102 rfl ?_
    refine m2_if_eq hB dX2_read_103 (tgt := 112) (by decide) (fun q2 : v3 = 0 => ?_) (fun q2 : ¬ v3 = 0 => ?_)
    · replace k := k.1 q2
      refine m2_iconst hB dX2_read_112 (v := (-1)) (by decide) ?_
      refine m2_aload_n hB dX2_read_113 rfl ?_
      refine m2_getI hB dX2_read_114 fl_X2_33 sh_kH rfl ?_
      refine m2_isub hB dX2_read_117 ?_
      exact m2_iret h dX2_read_118 k
    · replace k := k.2 q2
      refine m2_iload_n hB dX2_read_106 rfl ?_
      refine m2_bipush hB dX2_read_107 (v := 76) (by decide) ?_
      refine m2_icmp_le hB dX2_read_109 (tgt := 119) (by decide) (fun q3 : v1 ≤ 76 => ?_) (fun q3 : ¬ v1 ≤ 76 => ?_)
      · replace k := k.1 q3
        refine m2_aload_n hB dX2_read_119 rfl ?_
        refine m2_getR hB dX2_read_120 fl_X2_15 sh_kH (c1 := kD) rfl ?_
        refine m2_aload_n hB dX2_read_123 rfl ?_
        refine m2_getI hB dX2_read_124 fl_X2_41 sh_kH rfl ?_
        refine m2_putI hB dX2_read_127 fl_X2_36 sh_kD rfl ?_
        refine m2_aload_n hB dX2_read_130 rfl ?_
        refine m2_getR hB dX2_read_131 fl_X2_19 sh_kH (c1 := kP) rfl ?_
        refine m2_aload_n hB dX2_read_134 rfl ?_
        refine m2_getI hB dX2_read_135 fl_X2_47 sh_kH rfl ?_
        refine m2_putI hB dX2_read_138 fl_X2_44 sh_kP rfl ?_
        refine m2_iload_n hB dX2_read_141 rfl ?_
        exact m2_iret h dX2_read_142 k
      · replace k := k.2 q3
        refine m2_iconst hB dX2_read_112 (v := (-1)) (by decide) ?_
        refine m2_aload_n hB dX2_read_113 rfl ?_
        refine m2_getI hB dX2_read_114 fl_X2_33 sh_kH rfl ?_
        refine m2_isub hB dX2_read_117 ?_
        exact m2_iret h dX2_read_118 k
  · replace k := k.2 q1
    refine m2_iload_n hB dX2_read_51 rfl ?_
    refine m2_if_eq hB dX2_read_52 (tgt := 102) (by decide) (fun q4 : v3 = 0 => ?_) (fun q4 : ¬ v3 = 0 => ?_)
    · replace k := k.1 q4
      refine m2_iload_n hB dX2_read_102 rfl ?_
      refine m2_if_eq hB dX2_read_103 (tgt := 112) (by decide) (fun q5 : v3 = 0 => ?_) (fun q5 : ¬ v3 = 0 => ?_)
      · replace k := k.1 q5
        refine m2_iconst hB dX2_read_112 (v := (-1)) (by decide) ?_
        refine m2_aload_n hB dX2_read_113 rfl ?_
        refine m2_getI hB dX2_read_114 fl_X2_33 sh_kH rfl ?_
        refine m2_isub hB dX2_read_117 ?_
        exact m2_iret h dX2_read_118 k
      · replace k := k.2 q5
        refine m2_iload_n hB dX2_read_106 rfl ?_
        refine m2_bipush hB dX2_read_107 (v := 76) (by decide) ?_
        refine m2_icmp_le hB dX2_read_109 (tgt := 119) (by decide) (fun q6 : v1 ≤ 76 => ?_) (fun q6 : ¬ v1 ≤ 76 => ?_)
        · replace k := k.1 q6
          refine m2_aload_n hB dX2_read_119 rfl ?_
          refine m2_getR hB dX2_read_120 fl_X2_15 sh_kH (c1 := kD) rfl ?_
          refine m2_aload_n hB dX2_read_123 rfl ?_
          refine m2_getI hB dX2_read_124 fl_X2_41 sh_kH rfl ?_
          refine m2_putI hB dX2_read_127 fl_X2_36 sh_kD rfl ?_
          refine m2_aload_n hB dX2_read_130 rfl ?_
          refine m2_getR hB dX2_read_131 fl_X2_19 sh_kH (c1 := kP) rfl ?_
          refine m2_aload_n hB dX2_read_134 rfl ?_
          refine m2_getI hB dX2_read_135 fl_X2_47 sh_kH rfl ?_
          refine m2_putI hB dX2_read_138 fl_X2_44 sh_kP rfl ?_
          refine m2_iload_n hB dX2_read_141 rfl ?_
          exact m2_iret h dX2_read_142 k
        · replace k := k.2 q6
          refine m2_iconst hB dX2_read_112 (v := (-1)) (by decide) ?_
          refine m2_aload_n hB dX2_read_113 rfl ?_
          refine m2_getI hB dX2_read_114 fl_X2_33 sh_kH rfl ?_
          refine m2_isub hB dX2_read_117 ?_
          exact m2_iret h dX2_read_118 k
    · replace k := k.2 q4
      refine m2_aload_n hB dX2_read_55 rfl ?_
      refine m2_getI hB dX2_read_56 fl_X2_33 sh_kH rfl ?_
      refine m2_aload_n hB dX2_read_59 rfl ?_
      refine m2_getI hB dX2_read_60 fl_X2_29 sh_kH rfl ?_
      refine m2_icmp_ge hB dX2_read_63 (tgt := 102) (by decide) (fun q7 : (μ.1 kH 3) ≤ (μ.1 kH 4) => ?_) (fun q7 : ¬ (μ.1 kH 3) ≤ (μ.1 kH 4) => ?_)
      · replace k := k.1 q7
        refine m2_iload_n hB dX2_read_102 rfl ?_
        refine m2_if_eq hB dX2_read_103 (tgt := 112) (by decide) (fun q8 : v3 = 0 => ?_) (fun q8 : ¬ v3 = 0 => ?_)
        · replace k := k.1 q8
          refine m2_iconst hB dX2_read_112 (v := (-1)) (by decide) ?_
          refine m2_aload_n hB dX2_read_113 rfl ?_
          refine m2_getI hB dX2_read_114 fl_X2_33 sh_kH rfl ?_
          refine m2_isub hB dX2_read_117 ?_
          exact m2_iret h dX2_read_118 k
        · replace k := k.2 q8
          refine m2_iload_n hB dX2_read_106 rfl ?_
          refine m2_bipush hB dX2_read_107 (v := 76) (by decide) ?_
          refine m2_icmp_le hB dX2_read_109 (tgt := 119) (by decide) (fun q9 : v1 ≤ 76 => ?_) (fun q9 : ¬ v1 ≤ 76 => ?_)
          · replace k := k.1 q9
            refine m2_aload_n hB dX2_read_119 rfl ?_
            refine m2_getR hB dX2_read_120 fl_X2_15 sh_kH (c1 := kD) rfl ?_
            refine m2_aload_n hB dX2_read_123 rfl ?_
            refine m2_getI hB dX2_read_124 fl_X2_41 sh_kH rfl ?_
            refine m2_putI hB dX2_read_127 fl_X2_36 sh_kD rfl ?_
            refine m2_aload_n hB dX2_read_130 rfl ?_
            refine m2_getR hB dX2_read_131 fl_X2_19 sh_kH (c1 := kP) rfl ?_
            refine m2_aload_n hB dX2_read_134 rfl ?_
            refine m2_getI hB dX2_read_135 fl_X2_47 sh_kH rfl ?_
            refine m2_putI hB dX2_read_138 fl_X2_44 sh_kP rfl ?_
            refine m2_iload_n hB dX2_read_141 rfl ?_
            exact m2_iret h dX2_read_142 k
          · replace k := k.2 q9
            refine m2_iconst hB dX2_read_112 (v := (-1)) (by decide) ?_
            refine m2_aload_n hB dX2_read_113 rfl ?_
            refine m2_getI hB dX2_read_114 fl_X2_33 sh_kH rfl ?_
            refine m2_isub hB dX2_read_117 ?_
            exact m2_iret h dX2_read_118 k
      · replace k := k.2 q7
        refine m2_iload hB dX2_read_66 rfl ?_
        refine m2_if_eq hB dX2_read_68 (tgt := 80) (by decide) (fun q10 : v4 = 0 => ?_) (fun q10 : ¬ v4 = 0 => ?_)
        · replace k := k.1 q10
          refine m2_aload_n hB dX2_read_80 rfl ?_
          obtain ⟨Q13, hM14, k⟩ := k
          refine m2_invz hB (as := []) dX2_read_81 mv_X2_54 rfl sh_kH rfl (Nat.le_of_ble_eq_true rfl) rfl hM14 (fun y11 μ12 hq15 => ?_)
          replace k := k y11 μ12 hq15
          have G17 : κ 92 [.ref kH, .int v1, .int v2, .int v3, .int v4] [.int (if y11 = 0 then 0 else 1 : Int32)] μ12 := by
            refine m2_istore_n hB (ls' := [.ref kH, .int v1, .int v2, .int (if y11 = 0 then 0 else 1 : Int32), .int v4]) dX2_read_92 rfl (by decide) rfl ?_
            refine m2_iinc hB (ls' := [.ref kH, .int v1, .int (v2 + 1), .int (if y11 = 0 then 0 else 1 : Int32), .int v4]) (v := (v2 + 1)) dX2_read_93 rfl (by decide) rfl rfl ?_
            refine m2_iinc hB (ls' := [.ref kH, .int v1, .int (v2 + 1), .int (if y11 = 0 then 0 else 1 : Int32), .int (v4 + 1)]) (v := (v4 + 1)) dX2_read_96 rfl (by decide) rfl rfl ?_
            refine m2_goto hB dX2_read_99 (tgt := 44) (by decide) ?_
            exact k
          refine m2_if_eq hB dX2_read_84 (tgt := 91) (by decide) (fun q16 : y11 = 0 => ?_) (fun q16 : ¬ y11 = 0 => ?_)
          · rw [if_pos q16] at G17
            refine m2_iconst hB dX2_read_91 (v := 0) (by decide) ?_
            exact G17
          · rw [if_neg q16] at G17
            refine m2_iconst hB dX2_read_87 (v := 1) (by decide) ?_
            refine m2_goto hB dX2_read_88 (tgt := 92) (by decide) ?_
            exact G17
        · replace k := k.2 q10
          refine m2_aload_n hB dX2_read_71 rfl ?_
          refine m2_bipush hB dX2_read_72 (v := 59) (by decide) ?_
          obtain ⟨Q20, hM21, k⟩ := k
          refine m2_invz hB (as := [.int 59]) dX2_read_74 mv_X2_50 rfl sh_kH rfl (Nat.le_of_ble_eq_true rfl) rfl hM21 (fun y18 μ19 hq22 => ?_)
          replace k := k y18 μ19 hq22
          refine m2_if_eq hB dX2_read_77 (tgt := 91) (by decide) (fun q23 : y18 = 0 => ?_) (fun q23 : ¬ y18 = 0 => ?_)
          · replace k := k.1 q23
            refine m2_iconst hB dX2_read_91 (v := 0) (by decide) ?_
            refine m2_istore_n hB (ls' := [.ref kH, .int v1, .int v2, .int 0, .int v4]) dX2_read_92 rfl (by decide) rfl ?_
            refine m2_iinc hB (ls' := [.ref kH, .int v1, .int (v2 + 1), .int 0, .int v4]) (v := (v2 + 1)) dX2_read_93 rfl (by decide) rfl rfl ?_
            refine m2_iinc hB (ls' := [.ref kH, .int v1, .int (v2 + 1), .int 0, .int (v4 + 1)]) (v := (v4 + 1)) dX2_read_96 rfl (by decide) rfl rfl ?_
            refine m2_goto hB dX2_read_99 (tgt := 44) (by decide) ?_
            exact k
          · replace k := k.2 q23
            refine m2_aload_n hB dX2_read_80 rfl ?_
            obtain ⟨Q26, hM27, k⟩ := k
            refine m2_invz hB (as := []) dX2_read_81 mv_X2_54 rfl sh_kH rfl (Nat.le_of_ble_eq_true rfl) rfl hM27 (fun y24 μ25 hq28 => ?_)
            replace k := k y24 μ25 hq28
            have G30 : κ 92 [.ref kH, .int v1, .int v2, .int v3, .int v4] [.int (if y24 = 0 then 0 else 1 : Int32)] μ25 := by
              refine m2_istore_n hB (ls' := [.ref kH, .int v1, .int v2, .int (if y24 = 0 then 0 else 1 : Int32), .int v4]) dX2_read_92 rfl (by decide) rfl ?_
              refine m2_iinc hB (ls' := [.ref kH, .int v1, .int (v2 + 1), .int (if y24 = 0 then 0 else 1 : Int32), .int v4]) (v := (v2 + 1)) dX2_read_93 rfl (by decide) rfl rfl ?_
              refine m2_iinc hB (ls' := [.ref kH, .int v1, .int (v2 + 1), .int (if y24 = 0 then 0 else 1 : Int32), .int (v4 + 1)]) (v := (v4 + 1)) dX2_read_96 rfl (by decide) rfl rfl ?_
              refine m2_goto hB dX2_read_99 (tgt := 44) (by decide) ?_
              exact k
            refine m2_if_eq hB dX2_read_84 (tgt := 91) (by decide) (fun q29 : y24 = 0 => ?_) (fun q29 : ¬ y24 = 0 => ?_)
            · rw [if_pos q29] at G30
              refine m2_iconst hB dX2_read_91 (v := 0) (by decide) ?_
              exact G30
            · rw [if_neg q29] at G30
              refine m2_iconst hB dX2_read_87 (v := 1) (by decide) ?_
              refine m2_goto hB dX2_read_88 (tgt := 92) (by decide) ?_
              exact G30
theorem dX2_readLine_0 : decode cX2_readLine 0 = .ok (.aload_n 0, 1) := by decide +kernel
theorem dX2_readLine_1 : decode cX2_readLine 1 = .ok (.bipush 100, 2) := by decide +kernel
theorem dX2_readLine_3 : decode cX2_readLine 3 = .ok (.invokevirtual 58, 3) := by decide +kernel
theorem dX2_readLine_6 : decode cX2_readLine 6 = .ok (.ifCond .eq 29, 3) := by decide +kernel
theorem dX2_readLine_9 : decode cX2_readLine 9 = .ok (.aload_n 0, 1) := by decide +kernel
theorem dX2_readLine_10 : decode cX2_readLine 10 = .ok (.getfield 41, 3) := by decide +kernel
theorem dX2_readLine_13 : decode cX2_readLine 13 = .ok (.bipush 20, 2) := by decide +kernel
theorem dX2_readLine_15 : decode cX2_readLine 15 = .ok (.if_icmp .ge 18, 3) := by decide +kernel
theorem dX2_readLine_18 : decode cX2_readLine 18 = .ok (.aload_n 0, 1) := by decide +kernel
theorem dX2_readLine_19 : decode cX2_readLine 19 = .ok (.aload_n 0, 1) := by decide +kernel
theorem dX2_readLine_20 : decode cX2_readLine 20 = .ok (.getfield 41, 3) := by decide +kernel
theorem dX2_readLine_23 : decode cX2_readLine 23 = .ok (.invokevirtual 61, 3) := by decide +kernel
theorem dX2_readLine_26 : decode cX2_readLine 26 = .ok (.ifCond .eq 7, 3) := by decide +kernel
theorem dX2_readLine_29 : decode cX2_readLine 29 = .ok (.iconst 1, 1) := by decide +kernel
theorem dX2_readLine_30 : decode cX2_readLine 30 = .ok (.goto 4, 3) := by decide +kernel
theorem dX2_readLine_33 : decode cX2_readLine 33 = .ok (.iconst 0, 1) := by decide +kernel
theorem dX2_readLine_34 : decode cX2_readLine 34 = .ok (.ireturn, 1) := by decide +kernel
theorem dX2_readLine_35 : decode cX2_readLine 35 = .ok (.aload_n 0, 1) := by decide +kernel
theorem dX2_readLine_36 : decode cX2_readLine 36 = .ok (.bipush 112, 2) := by decide +kernel
theorem dX2_readLine_38 : decode cX2_readLine 38 = .ok (.invokevirtual 58, 3) := by decide +kernel
theorem dX2_readLine_41 : decode cX2_readLine 41 = .ok (.ifCond .ne 12, 3) := by decide +kernel
theorem dX2_readLine_44 : decode cX2_readLine 44 = .ok (.aload_n 0, 1) := by decide +kernel
theorem dX2_readLine_45 : decode cX2_readLine 45 = .ok (.bipush 115, 2) := by decide +kernel
theorem dX2_readLine_47 : decode cX2_readLine 47 = .ok (.invokevirtual 58, 3) := by decide +kernel
theorem dX2_readLine_50 : decode cX2_readLine 50 = .ok (.ifCond .eq 29, 3) := by decide +kernel
theorem dX2_readLine_53 : decode cX2_readLine 53 = .ok (.aload_n 0, 1) := by decide +kernel
theorem dX2_readLine_54 : decode cX2_readLine 54 = .ok (.getfield 47, 3) := by decide +kernel
theorem dX2_readLine_57 : decode cX2_readLine 57 = .ok (.bipush 8, 2) := by decide +kernel
theorem dX2_readLine_59 : decode cX2_readLine 59 = .ok (.if_icmp .ge 18, 3) := by decide +kernel
theorem dX2_readLine_62 : decode cX2_readLine 62 = .ok (.aload_n 0, 1) := by decide +kernel
theorem dX2_readLine_63 : decode cX2_readLine 63 = .ok (.aload_n 0, 1) := by decide +kernel
theorem dX2_readLine_64 : decode cX2_readLine 64 = .ok (.getfield 47, 3) := by decide +kernel
theorem dX2_readLine_67 : decode cX2_readLine 67 = .ok (.invokevirtual 65, 3) := by decide +kernel
theorem dX2_readLine_70 : decode cX2_readLine 70 = .ok (.ifCond .eq 7, 3) := by decide +kernel
theorem dX2_readLine_73 : decode cX2_readLine 73 = .ok (.iconst 1, 1) := by decide +kernel
theorem dX2_readLine_74 : decode cX2_readLine 74 = .ok (.goto 4, 3) := by decide +kernel
theorem dX2_readLine_77 : decode cX2_readLine 77 = .ok (.iconst 0, 1) := by decide +kernel
theorem dX2_readLine_78 : decode cX2_readLine 78 = .ok (.ireturn, 1) := by decide +kernel
theorem dX2_readLine_79 : decode cX2_readLine 79 = .ok (.iconst 0, 1) := by decide +kernel
theorem dX2_readLine_80 : decode cX2_readLine 80 = .ok (.ireturn, 1) := by decide +kernel
set_option maxRecDepth 100000 in
set_option maxHeartbeats 4000000 in
theorem B_X2_readLine_0 {κ : Nat → List Value → List Value → m2M → Prop} {D : Nat} {Q : Option Value → m2M → Prop} (h : m2_RL κ cX2_readLine RX2 1 (D + 1) (some .boolean) Q) (hD : 0 ≤ D)  {μ : m2M} (k : ((¬ (μ.1 kH 3) ≤ (μ.1 kH 4) → vp_in (μ.1 kH 4) 80)) ∧ (((fX2_stands 100 μ) = 1 → (20 ≤ (μ.1 kH 6) → Q (some (.int 0)) μ) ∧ (¬ 20 ≤ (μ.1 kH 6) → ∃ Q9 : Option Value → m2M → Prop, m2_MT D yX2_readDoor cX2_readDoor 2 (some .boolean) [.ref kH, .int (μ.1 kH 6)] μ Q9 ∧ ∀ (y7 : Int32) (μ8 : m2M), Q9 (some (.int y7)) μ8 → (Q (some (.int (if y7 = 0 then 0 else 1 : Int32))) μ8))) ∧ (¬ (fX2_stands 100 μ) = 1 → ((fX2_stands 112 μ) = 1 → (8 ≤ (μ.1 kH 7) → Q (some (.int 0)) μ) ∧ (¬ 8 ≤ (μ.1 kH 7) → ∃ Q22 : Option Value → m2M → Prop, m2_MT D yX2_readPerson cX2_readPerson 3 (some .boolean) [.ref kH, .int (μ.1 kH 7)] μ Q22 ∧ ∀ (y20 : Int32) (μ21 : m2M), Q22 (some (.int y20)) μ21 → (Q (some (.int (if y20 = 0 then 0 else 1 : Int32))) μ21))) ∧ (¬ (fX2_stands 112 μ) = 1 → ((fX2_stands 115 μ) = 1 → (8 ≤ (μ.1 kH 7) → Q (some (.int 0)) μ) ∧ (¬ 8 ≤ (μ.1 kH 7) → ∃ Q35 : Option Value → m2M → Prop, m2_MT D yX2_readPerson cX2_readPerson 3 (some .boolean) [.ref kH, .int (μ.1 kH 7)] μ Q35 ∧ ∀ (y33 : Int32) (μ34 : m2M), Q35 (some (.int y33)) μ34 → (Q (some (.int (if y33 = 0 then 0 else 1 : Int32))) μ34))) ∧ (¬ (fX2_stands 115 μ) = 1 → Q (some (.int 0)) μ))))) : κ 0 [.ref kH] [] μ := by
  have hB := h.b
  refine m2_aload_n hB dX2_readLine_0 rfl ?_
  refine m2_bipush hB dX2_readLine_1 (v := 100) (by decide) ?_
  obtain ⟨hs1, k⟩ := k
  refine m2_invz hB (as := [.int 100]) dX2_readLine_3 mv_X2_58 rfl sh_kH rfl (Nat.le_of_ble_eq_true rfl) rfl (P_X2_stands (by omega) (100) _ hs1) (fun y2 μ3 hq4 => ?_)
  obtain ⟨⟨⟩, hq4⟩ := hq4
  subst μ3
  show κ 6 [.ref kH] [.int (if (fX2_stands 100 μ) = 1 then 1 else 0 : Int32)] μ
  by_cases q5 : (fX2_stands 100 μ) = 1
  · rw [if_pos q5]
    replace k := k.1 q5
    refine m2_if_eq hB dX2_readLine_6 (tgt := 35) (by decide) (fun q => absurd q (by decide)) (fun _ => ?_)
    refine m2_aload_n hB dX2_readLine_9 rfl ?_
    refine m2_getI hB dX2_readLine_10 fl_X2_41 sh_kH rfl ?_
    refine m2_bipush hB dX2_readLine_13 (v := 20) (by decide) ?_
    refine m2_icmp_ge hB dX2_readLine_15 (tgt := 33) (by decide) (fun q6 : 20 ≤ (μ.1 kH 6) => ?_) (fun q6 : ¬ 20 ≤ (μ.1 kH 6) => ?_)
    · replace k := k.1 q6
      refine m2_iconst hB dX2_readLine_33 (v := 0) (by decide) ?_
      exact m2_zret h dX2_readLine_34 (Or.inl rfl) k
    · replace k := k.2 q6
      refine m2_aload_n hB dX2_readLine_18 rfl ?_
      refine m2_aload_n hB dX2_readLine_19 rfl ?_
      refine m2_getI hB dX2_readLine_20 fl_X2_41 sh_kH rfl ?_
      obtain ⟨Q9, hM10, k⟩ := k
      refine m2_invz hB (as := [.int (μ.1 kH 6)]) dX2_readLine_23 mv_X2_61 rfl sh_kH rfl (Nat.le_of_ble_eq_true rfl) rfl hM10 (fun y7 μ8 hq11 => ?_)
      replace k := k y7 μ8 hq11
      have G13 : κ 34 [.ref kH] [.int (if y7 = 0 then 0 else 1 : Int32)] μ8 := by
        exact m2_zret h dX2_readLine_34 (by (repeat' split) <;> first | exact Or.inl rfl | exact Or.inr rfl) k
      refine m2_if_eq hB dX2_readLine_26 (tgt := 33) (by decide) (fun q12 : y7 = 0 => ?_) (fun q12 : ¬ y7 = 0 => ?_)
      · rw [if_pos q12] at G13
        refine m2_iconst hB dX2_readLine_33 (v := 0) (by decide) ?_
        exact G13
      · rw [if_neg q12] at G13
        refine m2_iconst hB dX2_readLine_29 (v := 1) (by decide) ?_
        refine m2_goto hB dX2_readLine_30 (tgt := 34) (by decide) ?_
        exact G13
  · rw [if_neg q5]
    replace k := k.2 q5
    refine m2_if_eq hB dX2_readLine_6 (tgt := 35) (by decide) (fun _ => ?_) (fun q => absurd q (by decide))
    refine m2_aload_n hB dX2_readLine_35 rfl ?_
    refine m2_bipush hB dX2_readLine_36 (v := 112) (by decide) ?_
    have hs14 := hs1
    refine m2_invz hB (as := [.int 112]) dX2_readLine_38 mv_X2_58 rfl sh_kH rfl (Nat.le_of_ble_eq_true rfl) rfl (P_X2_stands (by omega) (112) _ hs14) (fun y15 μ16 hq17 => ?_)
    obtain ⟨⟨⟩, hq17⟩ := hq17
    subst μ16
    show κ 41 [.ref kH] [.int (if (fX2_stands 112 μ) = 1 then 1 else 0 : Int32)] μ
    by_cases q18 : (fX2_stands 112 μ) = 1
    · rw [if_pos q18]
      replace k := k.1 q18
      refine m2_if_ne hB dX2_readLine_41 (tgt := 53) (by decide) (fun _ => ?_) (fun q => absurd q (by decide))
      refine m2_aload_n hB dX2_readLine_53 rfl ?_
      refine m2_getI hB dX2_readLine_54 fl_X2_47 sh_kH rfl ?_
      refine m2_bipush hB dX2_readLine_57 (v := 8) (by decide) ?_
      refine m2_icmp_ge hB dX2_readLine_59 (tgt := 77) (by decide) (fun q19 : 8 ≤ (μ.1 kH 7) => ?_) (fun q19 : ¬ 8 ≤ (μ.1 kH 7) => ?_)
      · replace k := k.1 q19
        refine m2_iconst hB dX2_readLine_77 (v := 0) (by decide) ?_
        exact m2_zret h dX2_readLine_78 (Or.inl rfl) k
      · replace k := k.2 q19
        refine m2_aload_n hB dX2_readLine_62 rfl ?_
        refine m2_aload_n hB dX2_readLine_63 rfl ?_
        refine m2_getI hB dX2_readLine_64 fl_X2_47 sh_kH rfl ?_
        obtain ⟨Q22, hM23, k⟩ := k
        refine m2_invz hB (as := [.int (μ.1 kH 7)]) dX2_readLine_67 mv_X2_65 rfl sh_kH rfl (Nat.le_of_ble_eq_true rfl) rfl hM23 (fun y20 μ21 hq24 => ?_)
        replace k := k y20 μ21 hq24
        have G26 : κ 78 [.ref kH] [.int (if y20 = 0 then 0 else 1 : Int32)] μ21 := by
          exact m2_zret h dX2_readLine_78 (by (repeat' split) <;> first | exact Or.inl rfl | exact Or.inr rfl) k
        refine m2_if_eq hB dX2_readLine_70 (tgt := 77) (by decide) (fun q25 : y20 = 0 => ?_) (fun q25 : ¬ y20 = 0 => ?_)
        · rw [if_pos q25] at G26
          refine m2_iconst hB dX2_readLine_77 (v := 0) (by decide) ?_
          exact G26
        · rw [if_neg q25] at G26
          refine m2_iconst hB dX2_readLine_73 (v := 1) (by decide) ?_
          refine m2_goto hB dX2_readLine_74 (tgt := 78) (by decide) ?_
          exact G26
    · rw [if_neg q18]
      replace k := k.2 q18
      refine m2_if_ne hB dX2_readLine_41 (tgt := 53) (by decide) (fun q => absurd q (by decide)) (fun _ => ?_)
      refine m2_aload_n hB dX2_readLine_44 rfl ?_
      refine m2_bipush hB dX2_readLine_45 (v := 115) (by decide) ?_
      have hs27 := hs1
      refine m2_invz hB (as := [.int 115]) dX2_readLine_47 mv_X2_58 rfl sh_kH rfl (Nat.le_of_ble_eq_true rfl) rfl (P_X2_stands (by omega) (115) _ hs27) (fun y28 μ29 hq30 => ?_)
      obtain ⟨⟨⟩, hq30⟩ := hq30
      subst μ29
      show κ 50 [.ref kH] [.int (if (fX2_stands 115 μ) = 1 then 1 else 0 : Int32)] μ
      by_cases q31 : (fX2_stands 115 μ) = 1
      · rw [if_pos q31]
        replace k := k.1 q31
        refine m2_if_eq hB dX2_readLine_50 (tgt := 79) (by decide) (fun q => absurd q (by decide)) (fun _ => ?_)
        refine m2_aload_n hB dX2_readLine_53 rfl ?_
        refine m2_getI hB dX2_readLine_54 fl_X2_47 sh_kH rfl ?_
        refine m2_bipush hB dX2_readLine_57 (v := 8) (by decide) ?_
        refine m2_icmp_ge hB dX2_readLine_59 (tgt := 77) (by decide) (fun q32 : 8 ≤ (μ.1 kH 7) => ?_) (fun q32 : ¬ 8 ≤ (μ.1 kH 7) => ?_)
        · replace k := k.1 q32
          refine m2_iconst hB dX2_readLine_77 (v := 0) (by decide) ?_
          exact m2_zret h dX2_readLine_78 (Or.inl rfl) k
        · replace k := k.2 q32
          refine m2_aload_n hB dX2_readLine_62 rfl ?_
          refine m2_aload_n hB dX2_readLine_63 rfl ?_
          refine m2_getI hB dX2_readLine_64 fl_X2_47 sh_kH rfl ?_
          obtain ⟨Q35, hM36, k⟩ := k
          refine m2_invz hB (as := [.int (μ.1 kH 7)]) dX2_readLine_67 mv_X2_65 rfl sh_kH rfl (Nat.le_of_ble_eq_true rfl) rfl hM36 (fun y33 μ34 hq37 => ?_)
          replace k := k y33 μ34 hq37
          have G39 : κ 78 [.ref kH] [.int (if y33 = 0 then 0 else 1 : Int32)] μ34 := by
            exact m2_zret h dX2_readLine_78 (by (repeat' split) <;> first | exact Or.inl rfl | exact Or.inr rfl) k
          refine m2_if_eq hB dX2_readLine_70 (tgt := 77) (by decide) (fun q38 : y33 = 0 => ?_) (fun q38 : ¬ y33 = 0 => ?_)
          · rw [if_pos q38] at G39
            refine m2_iconst hB dX2_readLine_77 (v := 0) (by decide) ?_
            exact G39
          · rw [if_neg q38] at G39
            refine m2_iconst hB dX2_readLine_73 (v := 1) (by decide) ?_
            refine m2_goto hB dX2_readLine_74 (tgt := 78) (by decide) ?_
            exact G39
      · rw [if_neg q31]
        replace k := k.2 q31
        refine m2_if_eq hB dX2_readLine_50 (tgt := 79) (by decide) (fun _ => ?_) (fun q => absurd q (by decide))
        refine m2_iconst hB dX2_readLine_79 (v := 0) (by decide) ?_
        exact m2_zret h dX2_readLine_80 (Or.inl rfl) k
theorem dX2_readDoor_0 : decode cX2_readDoor 0 = .ok (.aload_n 0, 1) := by decide +kernel
theorem dX2_readDoor_1 : decode cX2_readDoor 1 = .ok (.dup, 1) := by decide +kernel
theorem dX2_readDoor_2 : decode cX2_readDoor 2 = .ok (.getfield 33, 3) := by decide +kernel
theorem dX2_readDoor_5 : decode cX2_readDoor 5 = .ok (.iconst 1, 1) := by decide +kernel
theorem dX2_readDoor_6 : decode cX2_readDoor 6 = .ok (.iadd, 1) := by decide +kernel
theorem dX2_readDoor_7 : decode cX2_readDoor 7 = .ok (.putfield 33, 3) := by decide +kernel
theorem dX2_readDoor_10 : decode cX2_readDoor 10 = .ok (.aload_n 0, 1) := by decide +kernel
theorem dX2_readDoor_11 : decode cX2_readDoor 11 = .ok (.bipush 11, 2) := by decide +kernel
theorem dX2_readDoor_13 : decode cX2_readDoor 13 = .ok (.invokevirtual 68, 3) := by decide +kernel
theorem dX2_readDoor_16 : decode cX2_readDoor 16 = .ok (.ifCond .ne 5, 3) := by decide +kernel
theorem dX2_readDoor_19 : decode cX2_readDoor 19 = .ok (.iconst 0, 1) := by decide +kernel
theorem dX2_readDoor_20 : decode cX2_readDoor 20 = .ok (.ireturn, 1) := by decide +kernel
theorem dX2_readDoor_21 : decode cX2_readDoor 21 = .ok (.aload_n 0, 1) := by decide +kernel
theorem dX2_readDoor_22 : decode cX2_readDoor 22 = .ok (.getfield 15, 3) := by decide +kernel
theorem dX2_readDoor_25 : decode cX2_readDoor 25 = .ok (.getfield 71, 3) := by decide +kernel
theorem dX2_readDoor_28 : decode cX2_readDoor 28 = .ok (.iload_n 1, 1) := by decide +kernel
theorem dX2_readDoor_29 : decode cX2_readDoor 29 = .ok (.aload_n 0, 1) := by decide +kernel
theorem dX2_readDoor_30 : decode cX2_readDoor 30 = .ok (.getfield 75, 3) := by decide +kernel
theorem dX2_readDoor_33 : decode cX2_readDoor 33 = .ok (.iastore, 1) := by decide +kernel
theorem dX2_readDoor_34 : decode cX2_readDoor 34 = .ok (.aload_n 0, 1) := by decide +kernel
theorem dX2_readDoor_35 : decode cX2_readDoor 35 = .ok (.getfield 15, 3) := by decide +kernel
theorem dX2_readDoor_38 : decode cX2_readDoor 38 = .ok (.getfield 78, 3) := by decide +kernel
theorem dX2_readDoor_41 : decode cX2_readDoor 41 = .ok (.iload_n 1, 1) := by decide +kernel
theorem dX2_readDoor_42 : decode cX2_readDoor 42 = .ok (.aload_n 0, 1) := by decide +kernel
theorem dX2_readDoor_43 : decode cX2_readDoor 43 = .ok (.bipush 62, 2) := by decide +kernel
theorem dX2_readDoor_45 : decode cX2_readDoor 45 = .ok (.invokevirtual 58, 3) := by decide +kernel
theorem dX2_readDoor_48 : decode cX2_readDoor 48 = .ok (.bastore, 1) := by decide +kernel
theorem dX2_readDoor_49 : decode cX2_readDoor 49 = .ok (.aload_n 0, 1) := by decide +kernel
theorem dX2_readDoor_50 : decode cX2_readDoor 50 = .ok (.bipush 45, 2) := by decide +kernel
theorem dX2_readDoor_52 : decode cX2_readDoor 52 = .ok (.invokevirtual 50, 3) := by decide +kernel
theorem dX2_readDoor_55 : decode cX2_readDoor 55 = .ok (.ifCond .ne 12, 3) := by decide +kernel
theorem dX2_readDoor_58 : decode cX2_readDoor 58 = .ok (.aload_n 0, 1) := by decide +kernel
theorem dX2_readDoor_59 : decode cX2_readDoor 59 = .ok (.bipush 62, 2) := by decide +kernel
theorem dX2_readDoor_61 : decode cX2_readDoor 61 = .ok (.invokevirtual 50, 3) := by decide +kernel
theorem dX2_readDoor_64 : decode cX2_readDoor 64 = .ok (.ifCond .eq 12, 3) := by decide +kernel
theorem dX2_readDoor_67 : decode cX2_readDoor 67 = .ok (.aload_n 0, 1) := by decide +kernel
theorem dX2_readDoor_68 : decode cX2_readDoor 68 = .ok (.bipush 11, 2) := by decide +kernel
theorem dX2_readDoor_70 : decode cX2_readDoor 70 = .ok (.invokevirtual 68, 3) := by decide +kernel
theorem dX2_readDoor_73 : decode cX2_readDoor 73 = .ok (.ifCond .ne 5, 3) := by decide +kernel
theorem dX2_readDoor_76 : decode cX2_readDoor 76 = .ok (.iconst 0, 1) := by decide +kernel
theorem dX2_readDoor_77 : decode cX2_readDoor 77 = .ok (.ireturn, 1) := by decide +kernel
theorem dX2_readDoor_78 : decode cX2_readDoor 78 = .ok (.aload_n 0, 1) := by decide +kernel
theorem dX2_readDoor_79 : decode cX2_readDoor 79 = .ok (.getfield 75, 3) := by decide +kernel
theorem dX2_readDoor_82 : decode cX2_readDoor 82 = .ok (.aload_n 0, 1) := by decide +kernel
theorem dX2_readDoor_83 : decode cX2_readDoor 83 = .ok (.getfield 15, 3) := by decide +kernel
theorem dX2_readDoor_86 : decode cX2_readDoor 86 = .ok (.getfield 71, 3) := by decide +kernel
theorem dX2_readDoor_89 : decode cX2_readDoor 89 = .ok (.iload_n 1, 1) := by decide +kernel
theorem dX2_readDoor_90 : decode cX2_readDoor 90 = .ok (.iaload, 1) := by decide +kernel
theorem dX2_readDoor_91 : decode cX2_readDoor 91 = .ok (.if_icmp .ne 15, 3) := by decide +kernel
theorem dX2_readDoor_94 : decode cX2_readDoor 94 = .ok (.aload_n 0, 1) := by decide +kernel
theorem dX2_readDoor_95 : decode cX2_readDoor 95 = .ok (.dup, 1) := by decide +kernel
theorem dX2_readDoor_96 : decode cX2_readDoor 96 = .ok (.getfield 33, 3) := by decide +kernel
theorem dX2_readDoor_99 : decode cX2_readDoor 99 = .ok (.iconst 1, 1) := by decide +kernel
theorem dX2_readDoor_100 : decode cX2_readDoor 100 = .ok (.isub, 1) := by decide +kernel
theorem dX2_readDoor_101 : decode cX2_readDoor 101 = .ok (.putfield 33, 3) := by decide +kernel
theorem dX2_readDoor_104 : decode cX2_readDoor 104 = .ok (.iconst 0, 1) := by decide +kernel
theorem dX2_readDoor_105 : decode cX2_readDoor 105 = .ok (.ireturn, 1) := by decide +kernel
theorem dX2_readDoor_106 : decode cX2_readDoor 106 = .ok (.aload_n 0, 1) := by decide +kernel
theorem dX2_readDoor_107 : decode cX2_readDoor 107 = .ok (.getfield 15, 3) := by decide +kernel
theorem dX2_readDoor_110 : decode cX2_readDoor 110 = .ok (.getfield 82, 3) := by decide +kernel
theorem dX2_readDoor_113 : decode cX2_readDoor 113 = .ok (.iload_n 1, 1) := by decide +kernel
theorem dX2_readDoor_114 : decode cX2_readDoor 114 = .ok (.aload_n 0, 1) := by decide +kernel
theorem dX2_readDoor_115 : decode cX2_readDoor 115 = .ok (.getfield 75, 3) := by decide +kernel
theorem dX2_readDoor_118 : decode cX2_readDoor 118 = .ok (.iastore, 1) := by decide +kernel
theorem dX2_readDoor_119 : decode cX2_readDoor 119 = .ok (.aload_n 0, 1) := by decide +kernel
theorem dX2_readDoor_120 : decode cX2_readDoor 120 = .ok (.bipush 44, 2) := by decide +kernel
theorem dX2_readDoor_122 : decode cX2_readDoor 122 = .ok (.invokevirtual 50, 3) := by decide +kernel
theorem dX2_readDoor_125 : decode cX2_readDoor 125 = .ok (.ifCond .eq 12, 3) := by decide +kernel
theorem dX2_readDoor_128 : decode cX2_readDoor 128 = .ok (.aload_n 0, 1) := by decide +kernel
theorem dX2_readDoor_129 : decode cX2_readDoor 129 = .ok (.bipush 60, 2) := by decide +kernel
theorem dX2_readDoor_131 : decode cX2_readDoor 131 = .ok (.invokevirtual 68, 3) := by decide +kernel
theorem dX2_readDoor_134 : decode cX2_readDoor 134 = .ok (.ifCond .ne 5, 3) := by decide +kernel
theorem dX2_readDoor_137 : decode cX2_readDoor 137 = .ok (.iconst 0, 1) := by decide +kernel
theorem dX2_readDoor_138 : decode cX2_readDoor 138 = .ok (.ireturn, 1) := by decide +kernel
theorem dX2_readDoor_139 : decode cX2_readDoor 139 = .ok (.aload_n 0, 1) := by decide +kernel
theorem dX2_readDoor_140 : decode cX2_readDoor 140 = .ok (.getfield 15, 3) := by decide +kernel
theorem dX2_readDoor_143 : decode cX2_readDoor 143 = .ok (.getfield 85, 3) := by decide +kernel
theorem dX2_readDoor_146 : decode cX2_readDoor 146 = .ok (.iload_n 1, 1) := by decide +kernel
theorem dX2_readDoor_147 : decode cX2_readDoor 147 = .ok (.aload_n 0, 1) := by decide +kernel
theorem dX2_readDoor_148 : decode cX2_readDoor 148 = .ok (.getfield 75, 3) := by decide +kernel
theorem dX2_readDoor_151 : decode cX2_readDoor 151 = .ok (.iastore, 1) := by decide +kernel
theorem dX2_readDoor_152 : decode cX2_readDoor 152 = .ok (.aload_n 0, 1) := by decide +kernel
theorem dX2_readDoor_153 : decode cX2_readDoor 153 = .ok (.getfield 15, 3) := by decide +kernel
theorem dX2_readDoor_156 : decode cX2_readDoor 156 = .ok (.getfield 88, 3) := by decide +kernel
theorem dX2_readDoor_159 : decode cX2_readDoor 159 = .ok (.iload_n 1, 1) := by decide +kernel
theorem dX2_readDoor_160 : decode cX2_readDoor 160 = .ok (.aload_n 0, 1) := by decide +kernel
theorem dX2_readDoor_161 : decode cX2_readDoor 161 = .ok (.getfield 75, 3) := by decide +kernel
theorem dX2_readDoor_164 : decode cX2_readDoor 164 = .ok (.iastore, 1) := by decide +kernel
theorem dX2_readDoor_165 : decode cX2_readDoor 165 = .ok (.aload_n 0, 1) := by decide +kernel
theorem dX2_readDoor_166 : decode cX2_readDoor 166 = .ok (.getfield 15, 3) := by decide +kernel
theorem dX2_readDoor_169 : decode cX2_readDoor 169 = .ok (.getfield 91, 3) := by decide +kernel
theorem dX2_readDoor_172 : decode cX2_readDoor 172 = .ok (.iload_n 1, 1) := by decide +kernel
theorem dX2_readDoor_173 : decode cX2_readDoor 173 = .ok (.iconst (-1), 1) := by decide +kernel
theorem dX2_readDoor_174 : decode cX2_readDoor 174 = .ok (.iastore, 1) := by decide +kernel
theorem dX2_readDoor_175 : decode cX2_readDoor 175 = .ok (.aload_n 0, 1) := by decide +kernel
theorem dX2_readDoor_176 : decode cX2_readDoor 176 = .ok (.bipush 64, 2) := by decide +kernel
theorem dX2_readDoor_178 : decode cX2_readDoor 178 = .ok (.invokevirtual 50, 3) := by decide +kernel
theorem dX2_readDoor_181 : decode cX2_readDoor 181 = .ok (.ifCond .eq 27, 3) := by decide +kernel
theorem dX2_readDoor_184 : decode cX2_readDoor 184 = .ok (.aload_n 0, 1) := by decide +kernel
theorem dX2_readDoor_185 : decode cX2_readDoor 185 = .ok (.bipush 60, 2) := by decide +kernel
theorem dX2_readDoor_187 : decode cX2_readDoor 187 = .ok (.invokevirtual 68, 3) := by decide +kernel
theorem dX2_readDoor_190 : decode cX2_readDoor 190 = .ok (.ifCond .ne 5, 3) := by decide +kernel
theorem dX2_readDoor_193 : decode cX2_readDoor 193 = .ok (.iconst 0, 1) := by decide +kernel
theorem dX2_readDoor_194 : decode cX2_readDoor 194 = .ok (.ireturn, 1) := by decide +kernel
theorem dX2_readDoor_195 : decode cX2_readDoor 195 = .ok (.aload_n 0, 1) := by decide +kernel
theorem dX2_readDoor_196 : decode cX2_readDoor 196 = .ok (.getfield 15, 3) := by decide +kernel
theorem dX2_readDoor_199 : decode cX2_readDoor 199 = .ok (.getfield 91, 3) := by decide +kernel
theorem dX2_readDoor_202 : decode cX2_readDoor 202 = .ok (.iload_n 1, 1) := by decide +kernel
theorem dX2_readDoor_203 : decode cX2_readDoor 203 = .ok (.aload_n 0, 1) := by decide +kernel
theorem dX2_readDoor_204 : decode cX2_readDoor 204 = .ok (.getfield 75, 3) := by decide +kernel
theorem dX2_readDoor_207 : decode cX2_readDoor 207 = .ok (.iastore, 1) := by decide +kernel
theorem dX2_readDoor_208 : decode cX2_readDoor 208 = .ok (.aload_n 0, 1) := by decide +kernel
theorem dX2_readDoor_209 : decode cX2_readDoor 209 = .ok (.dup, 1) := by decide +kernel
theorem dX2_readDoor_210 : decode cX2_readDoor 210 = .ok (.getfield 41, 3) := by decide +kernel
theorem dX2_readDoor_213 : decode cX2_readDoor 213 = .ok (.iconst 1, 1) := by decide +kernel
theorem dX2_readDoor_214 : decode cX2_readDoor 214 = .ok (.iadd, 1) := by decide +kernel
theorem dX2_readDoor_215 : decode cX2_readDoor 215 = .ok (.putfield 41, 3) := by decide +kernel
theorem dX2_readDoor_218 : decode cX2_readDoor 218 = .ok (.iconst 1, 1) := by decide +kernel
theorem dX2_readDoor_219 : decode cX2_readDoor 219 = .ok (.ireturn, 1) := by decide +kernel
set_option maxRecDepth 100000 in
set_option maxHeartbeats 4000000 in
theorem B_X2_readDoor_0 {κ : Nat → List Value → List Value → m2M → Prop} {D : Nat} {Q : Option Value → m2M → Prop} (h : m2_RL κ cX2_readDoor RX2 2 (D + 1) (some .boolean) Q) (hD : 0 ≤ D) {x1 : Int32} {μ : m2M} (k : ∃ Q3 : Option Value → m2M → Prop, m2_MT D yX2_readNumber cX2_readNumber 3 (some .boolean) [.ref kH, .int 11] (m2_si μ kH 4 ((μ.1 kH 4) + 1)) Q3 ∧ ∀ (y1 : Int32) (μ2 : m2M), Q3 (some (.int y1)) μ2 → ((¬ y1 = 0 → (vp_in x1 20) ∧ (((¬ (μ2.1 kH 3) ≤ (μ2.1 kH 4) → vp_in (μ2.1 kH 4) 80)) ∧ (∃ Q15 : Option Value → m2M → Prop, m2_MT D yX2_takes cX2_takes 2 (some .boolean) [.ref kH, .int 45] (m2_si (m2_si μ2 kD_a (x1).toNatClampNeg (μ2.1 kH 5)) kD_oneWay (x1).toNatClampNeg (vp_nar .boolean (if (fX2_stands 62 (m2_si μ2 kD_a (x1).toNatClampNeg (μ2.1 kH 5))) = 1 then 1 else 0 : Int32))) Q15 ∧ ∀ (y13 : Int32) (μ14 : m2M), Q15 (some (.int y13)) μ14 → ((¬ y13 = 0 → κ 67 [.ref kH, .int x1] [] μ14) ∧ (y13 = 0 → ∃ Q21 : Option Value → m2M → Prop, m2_MT D yX2_takes cX2_takes 2 (some .boolean) [.ref kH, .int 62] μ14 Q21 ∧ ∀ (y19 : Int32) (μ20 : m2M), Q21 (some (.int y19)) μ20 → ((y19 = 0 → κ 76 [.ref kH, .int x1] [] μ20) ∧ (¬ y19 = 0 → κ 67 [.ref kH, .int x1] [] μ20))))))) ∧ (y1 = 0 → Q (some (.int 0)) μ2))) : κ 0 [.ref kH, .int x1] [] μ := by
  have hB := h.b
  refine m2_aload_n hB dX2_readDoor_0 rfl ?_
  refine m2_dup hB dX2_readDoor_1 rfl ?_
  refine m2_getI hB dX2_readDoor_2 fl_X2_33 sh_kH rfl ?_
  refine m2_iconst hB dX2_readDoor_5 (v := 1) (by decide) ?_
  refine m2_iadd hB dX2_readDoor_6 ?_
  refine m2_putI hB dX2_readDoor_7 fl_X2_33 sh_kH rfl ?_
  refine m2_aload_n hB dX2_readDoor_10 rfl ?_
  refine m2_bipush hB dX2_readDoor_11 (v := 11) (by decide) ?_
  obtain ⟨Q3, hM4, k⟩ := k
  refine m2_invz hB (as := [.int 11]) dX2_readDoor_13 mv_X2_68 rfl sh_kH rfl (Nat.le_of_ble_eq_true rfl) rfl hM4 (fun y1 μ2 hq5 => ?_)
  replace k := k y1 μ2 hq5
  refine m2_if_ne hB dX2_readDoor_16 (tgt := 21) (by decide) (fun q6 : ¬ y1 = 0 => ?_) (fun q6 : y1 = 0 => ?_)
  · replace k := k.1 q6
    refine m2_aload_n hB dX2_readDoor_21 rfl ?_
    refine m2_getR hB dX2_readDoor_22 fl_X2_15 sh_kH (c1 := kD) rfl ?_
    refine m2_getR hB dX2_readDoor_25 fl_X2_71 sh_kD (c1 := kD_a) rfl ?_
    refine m2_iload_n hB dX2_readDoor_28 rfl ?_
    refine m2_aload_n hB dX2_readDoor_29 rfl ?_
    refine m2_getI hB dX2_readDoor_30 fl_X2_75 sh_kH rfl ?_
    obtain ⟨hi7, k⟩ := k
    refine m2_iast hB dX2_readDoor_33 sh_kD_a hi7 ?_
    refine m2_aload_n hB dX2_readDoor_34 rfl ?_
    refine m2_getR hB dX2_readDoor_35 fl_X2_15 sh_kH (c1 := kD) rfl ?_
    refine m2_getR hB dX2_readDoor_38 fl_X2_78 sh_kD (c1 := kD_oneWay) rfl ?_
    refine m2_iload_n hB dX2_readDoor_41 rfl ?_
    refine m2_aload_n hB dX2_readDoor_42 rfl ?_
    refine m2_bipush hB dX2_readDoor_43 (v := 62) (by decide) ?_
    obtain ⟨hs8, k⟩ := k
    refine m2_invz hB (as := [.int 62]) dX2_readDoor_45 mv_X2_58 rfl sh_kH rfl (Nat.le_of_ble_eq_true rfl) rfl (P_X2_stands (by omega) (62) _ hs8) (fun y9 μ10 hq11 => ?_)
    obtain ⟨⟨⟩, hq11⟩ := hq11
    subst μ10
    have hi12 := hi7
    refine m2_zast hB dX2_readDoor_48 sh_kD_oneWay hi12 ?_
    refine m2_aload_n hB dX2_readDoor_49 rfl ?_
    refine m2_bipush hB dX2_readDoor_50 (v := 45) (by decide) ?_
    obtain ⟨Q15, hM16, k⟩ := k
    refine m2_invz hB (as := [.int 45]) dX2_readDoor_52 mv_X2_50 rfl sh_kH rfl (Nat.le_of_ble_eq_true rfl) rfl hM16 (fun y13 μ14 hq17 => ?_)
    replace k := k y13 μ14 hq17
    refine m2_if_ne hB dX2_readDoor_55 (tgt := 67) (by decide) (fun q18 : ¬ y13 = 0 => ?_) (fun q18 : y13 = 0 => ?_)
    · replace k := k.1 q18
      exact k
    · replace k := k.2 q18
      refine m2_aload_n hB dX2_readDoor_58 rfl ?_
      refine m2_bipush hB dX2_readDoor_59 (v := 62) (by decide) ?_
      obtain ⟨Q21, hM22, k⟩ := k
      refine m2_invz hB (as := [.int 62]) dX2_readDoor_61 mv_X2_50 rfl sh_kH rfl (Nat.le_of_ble_eq_true rfl) rfl hM22 (fun y19 μ20 hq23 => ?_)
      replace k := k y19 μ20 hq23
      refine m2_if_eq hB dX2_readDoor_64 (tgt := 76) (by decide) (fun q24 : y19 = 0 => ?_) (fun q24 : ¬ y19 = 0 => ?_)
      · replace k := k.1 q24
        exact k
      · replace k := k.2 q24
        exact k
  · replace k := k.2 q6
    refine m2_iconst hB dX2_readDoor_19 (v := 0) (by decide) ?_
    exact m2_zret h dX2_readDoor_20 (Or.inl rfl) k
set_option maxRecDepth 100000 in
set_option maxHeartbeats 4000000 in
theorem B_X2_readDoor_67 {κ : Nat → List Value → List Value → m2M → Prop} {D : Nat} {Q : Option Value → m2M → Prop} (h : m2_RL κ cX2_readDoor RX2 2 (D + 1) (some .boolean) Q) {v1 : Int32} {μ : m2M} (k : ∃ Q3 : Option Value → m2M → Prop, m2_MT D yX2_readNumber cX2_readNumber 3 (some .boolean) [.ref kH, .int 11] μ Q3 ∧ ∀ (y1 : Int32) (μ2 : m2M), Q3 (some (.int y1)) μ2 → ((¬ y1 = 0 → (vp_in v1 20) ∧ ((¬ (μ2.1 kH 5) = (μ2.1 kD_a (v1).toNatClampNeg) → ∃ Q12 : Option Value → m2M → Prop, m2_MT D yX2_takes cX2_takes 2 (some .boolean) [.ref kH, .int 44] (m2_si μ2 kD_b (v1).toNatClampNeg (μ2.1 kH 5)) Q12 ∧ ∀ (y10 : Int32) (μ11 : m2M), Q12 (some (.int y10)) μ11 → ((y10 = 0 → κ 137 [.ref kH, .int v1] [] μ11) ∧ (¬ y10 = 0 → ∃ Q18 : Option Value → m2M → Prop, m2_MT D yX2_readNumber cX2_readNumber 3 (some .boolean) [.ref kH, .int 60] μ11 Q18 ∧ ∀ (y16 : Int32) (μ17 : m2M), Q18 (some (.int y16)) μ17 → ((¬ y16 = 0 → ∃ Q27 : Option Value → m2M → Prop, m2_MT D yX2_takes cX2_takes 2 (some .boolean) [.ref kH, .int 64] (m2_si (m2_si (m2_si μ17 kD_lets (v1).toNatClampNeg (μ17.1 kH 5)) kD_left (v1).toNatClampNeg (μ17.1 kH 5)) kD_noon (v1).toNatClampNeg (-1)) Q27 ∧ ∀ (y25 : Int32) (μ26 : m2M), Q27 (some (.int y25)) μ26 → ((y25 = 0 → κ 208 [.ref kH, .int v1] [] μ26) ∧ (¬ y25 = 0 → ∃ Q33 : Option Value → m2M → Prop, m2_MT D yX2_readNumber cX2_readNumber 3 (some .boolean) [.ref kH, .int 60] μ26 Q33 ∧ ∀ (y31 : Int32) (μ32 : m2M), Q33 (some (.int y31)) μ32 → ((¬ y31 = 0 → κ 208 [.ref kH, .int v1] [] (m2_si μ32 kD_noon (v1).toNatClampNeg (μ32.1 kH 5))) ∧ (y31 = 0 → Q (some (.int 0)) μ32))))) ∧ (y16 = 0 → κ 137 [.ref kH, .int v1] [] μ17))))) ∧ ((μ2.1 kH 5) = (μ2.1 kD_a (v1).toNatClampNeg) → Q (some (.int 0)) (m2_si μ2 kH 4 ((μ2.1 kH 4) - 1))))) ∧ (y1 = 0 → κ 76 [.ref kH, .int v1] [] μ2))) : κ 67 [.ref kH, .int v1] [] μ := by
  have hB := h.b
  refine m2_aload_n hB dX2_readDoor_67 rfl ?_
  refine m2_bipush hB dX2_readDoor_68 (v := 11) (by decide) ?_
  obtain ⟨Q3, hM4, k⟩ := k
  refine m2_invz hB (as := [.int 11]) dX2_readDoor_70 mv_X2_68 rfl sh_kH rfl (Nat.le_of_ble_eq_true rfl) rfl hM4 (fun y1 μ2 hq5 => ?_)
  replace k := k y1 μ2 hq5
  refine m2_if_ne hB dX2_readDoor_73 (tgt := 78) (by decide) (fun q6 : ¬ y1 = 0 => ?_) (fun q6 : y1 = 0 => ?_)
  · replace k := k.1 q6
    refine m2_aload_n hB dX2_readDoor_78 rfl ?_
    refine m2_getI hB dX2_readDoor_79 fl_X2_75 sh_kH rfl ?_
    refine m2_aload_n hB dX2_readDoor_82 rfl ?_
    refine m2_getR hB dX2_readDoor_83 fl_X2_15 sh_kH (c1 := kD) rfl ?_
    refine m2_getR hB dX2_readDoor_86 fl_X2_71 sh_kD (c1 := kD_a) rfl ?_
    refine m2_iload_n hB dX2_readDoor_89 rfl ?_
    obtain ⟨hi7, k⟩ := k
    refine m2_iald hB dX2_readDoor_90 sh_kD_a hi7 ?_
    refine m2_icmp_ne hB dX2_readDoor_91 (tgt := 106) (by decide) (fun q8 : ¬ (μ2.1 kH 5) = (μ2.1 kD_a (v1).toNatClampNeg) => ?_) (fun q8 : (μ2.1 kH 5) = (μ2.1 kD_a (v1).toNatClampNeg) => ?_)
    · replace k := k.1 q8
      refine m2_aload_n hB dX2_readDoor_106 rfl ?_
      refine m2_getR hB dX2_readDoor_107 fl_X2_15 sh_kH (c1 := kD) rfl ?_
      refine m2_getR hB dX2_readDoor_110 fl_X2_82 sh_kD (c1 := kD_b) rfl ?_
      refine m2_iload_n hB dX2_readDoor_113 rfl ?_
      refine m2_aload_n hB dX2_readDoor_114 rfl ?_
      refine m2_getI hB dX2_readDoor_115 fl_X2_75 sh_kH rfl ?_
      have hi9 := hi7
      refine m2_iast hB dX2_readDoor_118 sh_kD_b hi9 ?_
      refine m2_aload_n hB dX2_readDoor_119 rfl ?_
      refine m2_bipush hB dX2_readDoor_120 (v := 44) (by decide) ?_
      obtain ⟨Q12, hM13, k⟩ := k
      refine m2_invz hB (as := [.int 44]) dX2_readDoor_122 mv_X2_50 rfl sh_kH rfl (Nat.le_of_ble_eq_true rfl) rfl hM13 (fun y10 μ11 hq14 => ?_)
      replace k := k y10 μ11 hq14
      refine m2_if_eq hB dX2_readDoor_125 (tgt := 137) (by decide) (fun q15 : y10 = 0 => ?_) (fun q15 : ¬ y10 = 0 => ?_)
      · replace k := k.1 q15
        exact k
      · replace k := k.2 q15
        refine m2_aload_n hB dX2_readDoor_128 rfl ?_
        refine m2_bipush hB dX2_readDoor_129 (v := 60) (by decide) ?_
        obtain ⟨Q18, hM19, k⟩ := k
        refine m2_invz hB (as := [.int 60]) dX2_readDoor_131 mv_X2_68 rfl sh_kH rfl (Nat.le_of_ble_eq_true rfl) rfl hM19 (fun y16 μ17 hq20 => ?_)
        replace k := k y16 μ17 hq20
        refine m2_if_ne hB dX2_readDoor_134 (tgt := 139) (by decide) (fun q21 : ¬ y16 = 0 => ?_) (fun q21 : y16 = 0 => ?_)
        · replace k := k.1 q21
          refine m2_aload_n hB dX2_readDoor_139 rfl ?_
          refine m2_getR hB dX2_readDoor_140 fl_X2_15 sh_kH (c1 := kD) rfl ?_
          refine m2_getR hB dX2_readDoor_143 fl_X2_85 sh_kD (c1 := kD_lets) rfl ?_
          refine m2_iload_n hB dX2_readDoor_146 rfl ?_
          refine m2_aload_n hB dX2_readDoor_147 rfl ?_
          refine m2_getI hB dX2_readDoor_148 fl_X2_75 sh_kH rfl ?_
          have hi22 := hi7
          refine m2_iast hB dX2_readDoor_151 sh_kD_lets hi22 ?_
          refine m2_aload_n hB dX2_readDoor_152 rfl ?_
          refine m2_getR hB dX2_readDoor_153 fl_X2_15 sh_kH (c1 := kD) rfl ?_
          refine m2_getR hB dX2_readDoor_156 fl_X2_88 sh_kD (c1 := kD_left) rfl ?_
          refine m2_iload_n hB dX2_readDoor_159 rfl ?_
          refine m2_aload_n hB dX2_readDoor_160 rfl ?_
          refine m2_getI hB dX2_readDoor_161 fl_X2_75 sh_kH rfl ?_
          have hi23 := hi7
          refine m2_iast hB dX2_readDoor_164 sh_kD_left hi23 ?_
          refine m2_aload_n hB dX2_readDoor_165 rfl ?_
          refine m2_getR hB dX2_readDoor_166 fl_X2_15 sh_kH (c1 := kD) rfl ?_
          refine m2_getR hB dX2_readDoor_169 fl_X2_91 sh_kD (c1 := kD_noon) rfl ?_
          refine m2_iload_n hB dX2_readDoor_172 rfl ?_
          refine m2_iconst hB dX2_readDoor_173 (v := (-1)) (by decide) ?_
          have hi24 := hi7
          refine m2_iast hB dX2_readDoor_174 sh_kD_noon hi24 ?_
          refine m2_aload_n hB dX2_readDoor_175 rfl ?_
          refine m2_bipush hB dX2_readDoor_176 (v := 64) (by decide) ?_
          obtain ⟨Q27, hM28, k⟩ := k
          refine m2_invz hB (as := [.int 64]) dX2_readDoor_178 mv_X2_50 rfl sh_kH rfl (Nat.le_of_ble_eq_true rfl) rfl hM28 (fun y25 μ26 hq29 => ?_)
          replace k := k y25 μ26 hq29
          refine m2_if_eq hB dX2_readDoor_181 (tgt := 208) (by decide) (fun q30 : y25 = 0 => ?_) (fun q30 : ¬ y25 = 0 => ?_)
          · replace k := k.1 q30
            exact k
          · replace k := k.2 q30
            refine m2_aload_n hB dX2_readDoor_184 rfl ?_
            refine m2_bipush hB dX2_readDoor_185 (v := 60) (by decide) ?_
            obtain ⟨Q33, hM34, k⟩ := k
            refine m2_invz hB (as := [.int 60]) dX2_readDoor_187 mv_X2_68 rfl sh_kH rfl (Nat.le_of_ble_eq_true rfl) rfl hM34 (fun y31 μ32 hq35 => ?_)
            replace k := k y31 μ32 hq35
            refine m2_if_ne hB dX2_readDoor_190 (tgt := 195) (by decide) (fun q36 : ¬ y31 = 0 => ?_) (fun q36 : y31 = 0 => ?_)
            · replace k := k.1 q36
              refine m2_aload_n hB dX2_readDoor_195 rfl ?_
              refine m2_getR hB dX2_readDoor_196 fl_X2_15 sh_kH (c1 := kD) rfl ?_
              refine m2_getR hB dX2_readDoor_199 fl_X2_91 sh_kD (c1 := kD_noon) rfl ?_
              refine m2_iload_n hB dX2_readDoor_202 rfl ?_
              refine m2_aload_n hB dX2_readDoor_203 rfl ?_
              refine m2_getI hB dX2_readDoor_204 fl_X2_75 sh_kH rfl ?_
              have hi37 := hi7
              refine m2_iast hB dX2_readDoor_207 sh_kD_noon hi37 ?_
              exact k
            · replace k := k.2 q36
              refine m2_iconst hB dX2_readDoor_193 (v := 0) (by decide) ?_
              exact m2_zret h dX2_readDoor_194 (Or.inl rfl) k
        · replace k := k.2 q21
          exact k
    · replace k := k.2 q8
      refine m2_aload_n hB dX2_readDoor_94 rfl ?_
      refine m2_dup hB dX2_readDoor_95 rfl ?_
      refine m2_getI hB dX2_readDoor_96 fl_X2_33 sh_kH rfl ?_
      refine m2_iconst hB dX2_readDoor_99 (v := 1) (by decide) ?_
      refine m2_isub hB dX2_readDoor_100 ?_
      refine m2_putI hB dX2_readDoor_101 fl_X2_33 sh_kH rfl ?_
      refine m2_iconst hB dX2_readDoor_104 (v := 0) (by decide) ?_
      exact m2_zret h dX2_readDoor_105 (Or.inl rfl) k
  · replace k := k.2 q6
    exact k
set_option maxRecDepth 100000 in
set_option maxHeartbeats 4000000 in
theorem B_X2_readDoor_76 {κ : Nat → List Value → List Value → m2M → Prop} {D : Nat} {Q : Option Value → m2M → Prop} (h : m2_RL κ cX2_readDoor RX2 2 D (some .boolean) Q) {v1 : Int32} {μ : m2M} (k : Q (some (.int 0)) μ) : κ 76 [.ref kH, .int v1] [] μ := by
  have hB := h.b
  refine m2_iconst hB dX2_readDoor_76 (v := 0) (by decide) ?_
  exact m2_zret h dX2_readDoor_77 (Or.inl rfl) k
set_option maxRecDepth 100000 in
set_option maxHeartbeats 4000000 in
theorem B_X2_readDoor_137 {κ : Nat → List Value → List Value → m2M → Prop} {D : Nat} {Q : Option Value → m2M → Prop} (h : m2_RL κ cX2_readDoor RX2 2 D (some .boolean) Q) {v1 : Int32} {μ : m2M} (k : Q (some (.int 0)) μ) : κ 137 [.ref kH, .int v1] [] μ := by
  have hB := h.b
  refine m2_iconst hB dX2_readDoor_137 (v := 0) (by decide) ?_
  exact m2_zret h dX2_readDoor_138 (Or.inl rfl) k
set_option maxRecDepth 100000 in
set_option maxHeartbeats 4000000 in
theorem B_X2_readDoor_208 {κ : Nat → List Value → List Value → m2M → Prop} {D : Nat} {Q : Option Value → m2M → Prop} (h : m2_RL κ cX2_readDoor RX2 2 D (some .boolean) Q) {v1 : Int32} {μ : m2M} (k : Q (some (.int 1)) (m2_si μ kH 6 ((μ.1 kH 6) + 1))) : κ 208 [.ref kH, .int v1] [] μ := by
  have hB := h.b
  refine m2_aload_n hB dX2_readDoor_208 rfl ?_
  refine m2_dup hB dX2_readDoor_209 rfl ?_
  refine m2_getI hB dX2_readDoor_210 fl_X2_41 sh_kH rfl ?_
  refine m2_iconst hB dX2_readDoor_213 (v := 1) (by decide) ?_
  refine m2_iadd hB dX2_readDoor_214 ?_
  refine m2_putI hB dX2_readDoor_215 fl_X2_41 sh_kH rfl ?_
  refine m2_iconst hB dX2_readDoor_218 (v := 1) (by decide) ?_
  exact m2_zret h dX2_readDoor_219 (Or.inr rfl) k
theorem dX2_readPerson_0 : decode cX2_readPerson 0 = .ok (.aload_n 0, 1) := by decide +kernel
theorem dX2_readPerson_1 : decode cX2_readPerson 1 = .ok (.getfield 19, 3) := by decide +kernel
theorem dX2_readPerson_4 : decode cX2_readPerson 4 = .ok (.getfield 94, 3) := by decide +kernel
theorem dX2_readPerson_7 : decode cX2_readPerson 7 = .ok (.iload_n 1, 1) := by decide +kernel
theorem dX2_readPerson_8 : decode cX2_readPerson 8 = .ok (.aload_n 0, 1) := by decide +kernel
theorem dX2_readPerson_9 : decode cX2_readPerson 9 = .ok (.bipush 115, 2) := by decide +kernel
theorem dX2_readPerson_11 : decode cX2_readPerson 11 = .ok (.invokevirtual 58, 3) := by decide +kernel
theorem dX2_readPerson_14 : decode cX2_readPerson 14 = .ok (.bastore, 1) := by decide +kernel
theorem dX2_readPerson_15 : decode cX2_readPerson 15 = .ok (.aload_n 0, 1) := by decide +kernel
theorem dX2_readPerson_16 : decode cX2_readPerson 16 = .ok (.dup, 1) := by decide +kernel
theorem dX2_readPerson_17 : decode cX2_readPerson 17 = .ok (.getfield 33, 3) := by decide +kernel
theorem dX2_readPerson_20 : decode cX2_readPerson 20 = .ok (.iconst 1, 1) := by decide +kernel
theorem dX2_readPerson_21 : decode cX2_readPerson 21 = .ok (.iadd, 1) := by decide +kernel
theorem dX2_readPerson_22 : decode cX2_readPerson 22 = .ok (.putfield 33, 3) := by decide +kernel
theorem dX2_readPerson_25 : decode cX2_readPerson 25 = .ok (.aload_n 0, 1) := by decide +kernel
theorem dX2_readPerson_26 : decode cX2_readPerson 26 = .ok (.bipush 11, 2) := by decide +kernel
theorem dX2_readPerson_28 : decode cX2_readPerson 28 = .ok (.invokevirtual 68, 3) := by decide +kernel
theorem dX2_readPerson_31 : decode cX2_readPerson 31 = .ok (.ifCond .ne 5, 3) := by decide +kernel
theorem dX2_readPerson_34 : decode cX2_readPerson 34 = .ok (.iconst 0, 1) := by decide +kernel
theorem dX2_readPerson_35 : decode cX2_readPerson 35 = .ok (.ireturn, 1) := by decide +kernel
theorem dX2_readPerson_36 : decode cX2_readPerson 36 = .ok (.aload_n 0, 1) := by decide +kernel
theorem dX2_readPerson_37 : decode cX2_readPerson 37 = .ok (.getfield 75, 3) := by decide +kernel
theorem dX2_readPerson_40 : decode cX2_readPerson 40 = .ok (.istore_n 2, 1) := by decide +kernel
theorem dX2_readPerson_41 : decode cX2_readPerson 41 = .ok (.aload_n 0, 1) := by decide +kernel
theorem dX2_readPerson_42 : decode cX2_readPerson 42 = .ok (.bipush 44, 2) := by decide +kernel
theorem dX2_readPerson_44 : decode cX2_readPerson 44 = .ok (.invokevirtual 50, 3) := by decide +kernel
theorem dX2_readPerson_47 : decode cX2_readPerson 47 = .ok (.ifCond .eq 12, 3) := by decide +kernel
theorem dX2_readPerson_50 : decode cX2_readPerson 50 = .ok (.aload_n 0, 1) := by decide +kernel
theorem dX2_readPerson_51 : decode cX2_readPerson 51 = .ok (.bipush 99, 2) := by decide +kernel
theorem dX2_readPerson_53 : decode cX2_readPerson 53 = .ok (.invokevirtual 68, 3) := by decide +kernel
theorem dX2_readPerson_56 : decode cX2_readPerson 56 = .ok (.ifCond .ne 5, 3) := by decide +kernel
theorem dX2_readPerson_59 : decode cX2_readPerson 59 = .ok (.iconst 0, 1) := by decide +kernel
theorem dX2_readPerson_60 : decode cX2_readPerson 60 = .ok (.ireturn, 1) := by decide +kernel
theorem dX2_readPerson_61 : decode cX2_readPerson 61 = .ok (.aload_n 0, 1) := by decide +kernel
theorem dX2_readPerson_62 : decode cX2_readPerson 62 = .ok (.getfield 19, 3) := by decide +kernel
theorem dX2_readPerson_65 : decode cX2_readPerson 65 = .ok (.getfield 97, 3) := by decide +kernel
theorem dX2_readPerson_68 : decode cX2_readPerson 68 = .ok (.iload_n 1, 1) := by decide +kernel
theorem dX2_readPerson_69 : decode cX2_readPerson 69 = .ok (.aload_n 0, 1) := by decide +kernel
theorem dX2_readPerson_70 : decode cX2_readPerson 70 = .ok (.getfield 75, 3) := by decide +kernel
theorem dX2_readPerson_73 : decode cX2_readPerson 73 = .ok (.iastore, 1) := by decide +kernel
theorem dX2_readPerson_74 : decode cX2_readPerson 74 = .ok (.aload_n 0, 1) := by decide +kernel
theorem dX2_readPerson_75 : decode cX2_readPerson 75 = .ok (.getfield 19, 3) := by decide +kernel
theorem dX2_readPerson_78 : decode cX2_readPerson 78 = .ok (.getfield 100, 3) := by decide +kernel
theorem dX2_readPerson_81 : decode cX2_readPerson 81 = .ok (.iload_n 1, 1) := by decide +kernel
theorem dX2_readPerson_82 : decode cX2_readPerson 82 = .ok (.iconst (-1), 1) := by decide +kernel
theorem dX2_readPerson_83 : decode cX2_readPerson 83 = .ok (.iastore, 1) := by decide +kernel
theorem dX2_readPerson_84 : decode cX2_readPerson 84 = .ok (.aload_n 0, 1) := by decide +kernel
theorem dX2_readPerson_85 : decode cX2_readPerson 85 = .ok (.getfield 19, 3) := by decide +kernel
theorem dX2_readPerson_88 : decode cX2_readPerson 88 = .ok (.getfield 103, 3) := by decide +kernel
theorem dX2_readPerson_91 : decode cX2_readPerson 91 = .ok (.iload_n 1, 1) := by decide +kernel
theorem dX2_readPerson_92 : decode cX2_readPerson 92 = .ok (.iconst 0, 1) := by decide +kernel
theorem dX2_readPerson_93 : decode cX2_readPerson 93 = .ok (.bastore, 1) := by decide +kernel
theorem dX2_readPerson_94 : decode cX2_readPerson 94 = .ok (.aload_n 0, 1) := by decide +kernel
theorem dX2_readPerson_95 : decode cX2_readPerson 95 = .ok (.bipush 62, 2) := by decide +kernel
theorem dX2_readPerson_97 : decode cX2_readPerson 97 = .ok (.invokevirtual 50, 3) := by decide +kernel
theorem dX2_readPerson_100 : decode cX2_readPerson 100 = .ok (.ifCond .eq 42, 3) := by decide +kernel
theorem dX2_readPerson_103 : decode cX2_readPerson 103 = .ok (.aload_n 0, 1) := by decide +kernel
theorem dX2_readPerson_104 : decode cX2_readPerson 104 = .ok (.bipush 11, 2) := by decide +kernel
theorem dX2_readPerson_106 : decode cX2_readPerson 106 = .ok (.invokevirtual 68, 3) := by decide +kernel
theorem dX2_readPerson_109 : decode cX2_readPerson 109 = .ok (.ifCond .ne 5, 3) := by decide +kernel
theorem dX2_readPerson_112 : decode cX2_readPerson 112 = .ok (.iconst 0, 1) := by decide +kernel
theorem dX2_readPerson_113 : decode cX2_readPerson 113 = .ok (.ireturn, 1) := by decide +kernel
theorem dX2_readPerson_114 : decode cX2_readPerson 114 = .ok (.aload_n 0, 1) := by decide +kernel
theorem dX2_readPerson_115 : decode cX2_readPerson 115 = .ok (.getfield 19, 3) := by decide +kernel
theorem dX2_readPerson_118 : decode cX2_readPerson 118 = .ok (.getfield 100, 3) := by decide +kernel
theorem dX2_readPerson_121 : decode cX2_readPerson 121 = .ok (.iload_n 1, 1) := by decide +kernel
theorem dX2_readPerson_122 : decode cX2_readPerson 122 = .ok (.aload_n 0, 1) := by decide +kernel
theorem dX2_readPerson_123 : decode cX2_readPerson 123 = .ok (.getfield 75, 3) := by decide +kernel
theorem dX2_readPerson_126 : decode cX2_readPerson 126 = .ok (.iastore, 1) := by decide +kernel
theorem dX2_readPerson_127 : decode cX2_readPerson 127 = .ok (.aload_n 0, 1) := by decide +kernel
theorem dX2_readPerson_128 : decode cX2_readPerson 128 = .ok (.getfield 19, 3) := by decide +kernel
theorem dX2_readPerson_131 : decode cX2_readPerson 131 = .ok (.getfield 103, 3) := by decide +kernel
theorem dX2_readPerson_134 : decode cX2_readPerson 134 = .ok (.iload_n 1, 1) := by decide +kernel
theorem dX2_readPerson_135 : decode cX2_readPerson 135 = .ok (.aload_n 0, 1) := by decide +kernel
theorem dX2_readPerson_136 : decode cX2_readPerson 136 = .ok (.bipush 60, 2) := by decide +kernel
theorem dX2_readPerson_138 : decode cX2_readPerson 138 = .ok (.invokevirtual 50, 3) := by decide +kernel
theorem dX2_readPerson_141 : decode cX2_readPerson 141 = .ok (.bastore, 1) := by decide +kernel
theorem dX2_readPerson_142 : decode cX2_readPerson 142 = .ok (.aload_n 0, 1) := by decide +kernel
theorem dX2_readPerson_143 : decode cX2_readPerson 143 = .ok (.getfield 19, 3) := by decide +kernel
theorem dX2_readPerson_146 : decode cX2_readPerson 146 = .ok (.iload_n 1, 1) := by decide +kernel
theorem dX2_readPerson_147 : decode cX2_readPerson 147 = .ok (.iload_n 2, 1) := by decide +kernel
theorem dX2_readPerson_148 : decode cX2_readPerson 148 = .ok (.invokevirtual 106, 3) := by decide +kernel
theorem dX2_readPerson_151 : decode cX2_readPerson 151 = .ok (.aload_n 0, 1) := by decide +kernel
theorem dX2_readPerson_152 : decode cX2_readPerson 152 = .ok (.dup, 1) := by decide +kernel
theorem dX2_readPerson_153 : decode cX2_readPerson 153 = .ok (.getfield 47, 3) := by decide +kernel
theorem dX2_readPerson_156 : decode cX2_readPerson 156 = .ok (.iconst 1, 1) := by decide +kernel
theorem dX2_readPerson_157 : decode cX2_readPerson 157 = .ok (.iadd, 1) := by decide +kernel
theorem dX2_readPerson_158 : decode cX2_readPerson 158 = .ok (.putfield 47, 3) := by decide +kernel
theorem dX2_readPerson_161 : decode cX2_readPerson 161 = .ok (.iconst 1, 1) := by decide +kernel
theorem dX2_readPerson_162 : decode cX2_readPerson 162 = .ok (.ireturn, 1) := by decide +kernel
set_option maxRecDepth 100000 in
set_option maxHeartbeats 4000000 in
theorem B_X2_readPerson_0 {κ : Nat → List Value → List Value → m2M → Prop} {D : Nat} {Q : Option Value → m2M → Prop} (h : m2_RL κ cX2_readPerson RX2 3 (D + 1) (some .boolean) Q) (hD : 0 ≤ D) {x1 : Int32} {μ : m2M} (k : ((¬ (μ.1 kH 3) ≤ (μ.1 kH 4) → vp_in (μ.1 kH 4) 80)) ∧ ((vp_in x1 8) ∧ (∃ Q8 : Option Value → m2M → Prop, m2_MT D yX2_readNumber cX2_readNumber 3 (some .boolean) [.ref kH, .int 11] (m2_si (m2_si μ kP_stranger (x1).toNatClampNeg (vp_nar .boolean (if (fX2_stands 115 μ) = 1 then 1 else 0 : Int32))) kH 4 ((μ.1 kH 4) + 1)) Q8 ∧ ∀ (y6 : Int32) (μ7 : m2M), Q8 (some (.int y6)) μ7 → ((¬ y6 = 0 → ∃ Q14 : Option Value → m2M → Prop, m2_MT D yX2_takes cX2_takes 2 (some .boolean) [.ref kH, .int 44] μ7 Q14 ∧ ∀ (y12 : Int32) (μ13 : m2M), Q14 (some (.int y12)) μ13 → ((y12 = 0 → Q (some (.int 0)) μ13) ∧ (¬ y12 = 0 → ∃ Q20 : Option Value → m2M → Prop, m2_MT D yX2_readNumber cX2_readNumber 3 (some .boolean) [.ref kH, .int 99] μ13 Q20 ∧ ∀ (y18 : Int32) (μ19 : m2M), Q20 (some (.int y18)) μ19 → ((¬ y18 = 0 → ∃ Q29 : Option Value → m2M → Prop, m2_MT D yX2_takes cX2_takes 2 (some .boolean) [.ref kH, .int 62] (m2_si (m2_si (m2_si μ19 kP_worth (x1).toNatClampNeg (μ19.1 kH 5)) kP_errand (x1).toNatClampNeg (-1)) kP_back (x1).toNatClampNeg (vp_nar .boolean 0)) Q29 ∧ ∀ (y27 : Int32) (μ28 : m2M), Q29 (some (.int y27)) μ28 → ((y27 = 0 → ∃ Q35 : Option Value → m2M → Prop, m2_MT D yX6_begin cX6_begin 3 none [.ref kP, .int x1, .int (μ7.1 kH 5)] μ28 Q35 ∧ ∀ (μ34 : m2M), Q35 none μ34 → (Q (some (.int 1)) (m2_si μ34 kH 7 ((μ34.1 kH 7) + 1)))) ∧ (¬ y27 = 0 → ∃ Q40 : Option Value → m2M → Prop, m2_MT D yX2_readNumber cX2_readNumber 3 (some .boolean) [.ref kH, .int 11] μ28 Q40 ∧ ∀ (y38 : Int32) (μ39 : m2M), Q40 (some (.int y38)) μ39 → ((¬ y38 = 0 → ∃ Q47 : Option Value → m2M → Prop, m2_MT D yX2_takes cX2_takes 2 (some .boolean) [.ref kH, .int 60] (m2_si μ39 kP_errand (x1).toNatClampNeg (μ39.1 kH 5)) Q47 ∧ ∀ (y45 : Int32) (μ46 : m2M), Q47 (some (.int y45)) μ46 → (∃ Q53 : Option Value → m2M → Prop, m2_MT D yX6_begin cX6_begin 3 none [.ref kP, .int x1, .int (μ7.1 kH 5)] (m2_si μ46 kP_back (x1).toNatClampNeg (vp_nar .boolean y45)) Q53 ∧ ∀ (μ52 : m2M), Q53 none μ52 → (Q (some (.int 1)) (m2_si μ52 kH 7 ((μ52.1 kH 7) + 1))))) ∧ (y38 = 0 → Q (some (.int 0)) μ39))))) ∧ (y18 = 0 → Q (some (.int 0)) μ19))))) ∧ (y6 = 0 → Q (some (.int 0)) μ7))))) : κ 0 [.ref kH, .int x1, .null] [] μ := by
  have hB := h.b
  refine m2_aload_n hB dX2_readPerson_0 rfl ?_
  refine m2_getR hB dX2_readPerson_1 fl_X2_19 sh_kH (c1 := kP) rfl ?_
  refine m2_getR hB dX2_readPerson_4 fl_X2_94 sh_kP (c1 := kP_stranger) rfl ?_
  refine m2_iload_n hB dX2_readPerson_7 rfl ?_
  refine m2_aload_n hB dX2_readPerson_8 rfl ?_
  refine m2_bipush hB dX2_readPerson_9 (v := 115) (by decide) ?_
  obtain ⟨hs1, k⟩ := k
  refine m2_invz hB (as := [.int 115]) dX2_readPerson_11 mv_X2_58 rfl sh_kH rfl (Nat.le_of_ble_eq_true rfl) rfl (P_X2_stands (by omega) (115) _ hs1) (fun y2 μ3 hq4 => ?_)
  obtain ⟨⟨⟩, hq4⟩ := hq4
  subst μ3
  obtain ⟨hi5, k⟩ := k
  refine m2_zast hB dX2_readPerson_14 sh_kP_stranger hi5 ?_
  refine m2_aload_n hB dX2_readPerson_15 rfl ?_
  refine m2_dup hB dX2_readPerson_16 rfl ?_
  refine m2_getI hB dX2_readPerson_17 fl_X2_33 sh_kH rfl ?_
  refine m2_iconst hB dX2_readPerson_20 (v := 1) (by decide) ?_
  refine m2_iadd hB dX2_readPerson_21 ?_
  refine m2_putI hB dX2_readPerson_22 fl_X2_33 sh_kH rfl ?_
  refine m2_aload_n hB dX2_readPerson_25 rfl ?_
  refine m2_bipush hB dX2_readPerson_26 (v := 11) (by decide) ?_
  obtain ⟨Q8, hM9, k⟩ := k
  refine m2_invz hB (as := [.int 11]) dX2_readPerson_28 mv_X2_68 rfl sh_kH rfl (Nat.le_of_ble_eq_true rfl) rfl hM9 (fun y6 μ7 hq10 => ?_)
  replace k := k y6 μ7 hq10
  refine m2_if_ne hB dX2_readPerson_31 (tgt := 36) (by decide) (fun q11 : ¬ y6 = 0 => ?_) (fun q11 : y6 = 0 => ?_)
  · replace k := k.1 q11
    refine m2_aload_n hB dX2_readPerson_36 rfl ?_
    refine m2_getI hB dX2_readPerson_37 fl_X2_75 sh_kH rfl ?_
    refine m2_istore_n hB (ls' := [.ref kH, .int x1, .int (μ7.1 kH 5)]) dX2_readPerson_40 rfl (by decide) rfl ?_
    refine m2_aload_n hB dX2_readPerson_41 rfl ?_
    refine m2_bipush hB dX2_readPerson_42 (v := 44) (by decide) ?_
    obtain ⟨Q14, hM15, k⟩ := k
    refine m2_invz hB (as := [.int 44]) dX2_readPerson_44 mv_X2_50 rfl sh_kH rfl (Nat.le_of_ble_eq_true rfl) rfl hM15 (fun y12 μ13 hq16 => ?_)
    replace k := k y12 μ13 hq16
    refine m2_if_eq hB dX2_readPerson_47 (tgt := 59) (by decide) (fun q17 : y12 = 0 => ?_) (fun q17 : ¬ y12 = 0 => ?_)
    · replace k := k.1 q17
      refine m2_iconst hB dX2_readPerson_59 (v := 0) (by decide) ?_
      exact m2_zret h dX2_readPerson_60 (Or.inl rfl) k
    · replace k := k.2 q17
      refine m2_aload_n hB dX2_readPerson_50 rfl ?_
      refine m2_bipush hB dX2_readPerson_51 (v := 99) (by decide) ?_
      obtain ⟨Q20, hM21, k⟩ := k
      refine m2_invz hB (as := [.int 99]) dX2_readPerson_53 mv_X2_68 rfl sh_kH rfl (Nat.le_of_ble_eq_true rfl) rfl hM21 (fun y18 μ19 hq22 => ?_)
      replace k := k y18 μ19 hq22
      refine m2_if_ne hB dX2_readPerson_56 (tgt := 61) (by decide) (fun q23 : ¬ y18 = 0 => ?_) (fun q23 : y18 = 0 => ?_)
      · replace k := k.1 q23
        refine m2_aload_n hB dX2_readPerson_61 rfl ?_
        refine m2_getR hB dX2_readPerson_62 fl_X2_19 sh_kH (c1 := kP) rfl ?_
        refine m2_getR hB dX2_readPerson_65 fl_X2_97 sh_kP (c1 := kP_worth) rfl ?_
        refine m2_iload_n hB dX2_readPerson_68 rfl ?_
        refine m2_aload_n hB dX2_readPerson_69 rfl ?_
        refine m2_getI hB dX2_readPerson_70 fl_X2_75 sh_kH rfl ?_
        have hi24 := hi5
        refine m2_iast hB dX2_readPerson_73 sh_kP_worth hi24 ?_
        refine m2_aload_n hB dX2_readPerson_74 rfl ?_
        refine m2_getR hB dX2_readPerson_75 fl_X2_19 sh_kH (c1 := kP) rfl ?_
        refine m2_getR hB dX2_readPerson_78 fl_X2_100 sh_kP (c1 := kP_errand) rfl ?_
        refine m2_iload_n hB dX2_readPerson_81 rfl ?_
        refine m2_iconst hB dX2_readPerson_82 (v := (-1)) (by decide) ?_
        have hi25 := hi5
        refine m2_iast hB dX2_readPerson_83 sh_kP_errand hi25 ?_
        refine m2_aload_n hB dX2_readPerson_84 rfl ?_
        refine m2_getR hB dX2_readPerson_85 fl_X2_19 sh_kH (c1 := kP) rfl ?_
        refine m2_getR hB dX2_readPerson_88 fl_X2_103 sh_kP (c1 := kP_back) rfl ?_
        refine m2_iload_n hB dX2_readPerson_91 rfl ?_
        refine m2_iconst hB dX2_readPerson_92 (v := 0) (by decide) ?_
        have hi26 := hi5
        refine m2_zast hB dX2_readPerson_93 sh_kP_back hi26 ?_
        refine m2_aload_n hB dX2_readPerson_94 rfl ?_
        refine m2_bipush hB dX2_readPerson_95 (v := 62) (by decide) ?_
        obtain ⟨Q29, hM30, k⟩ := k
        refine m2_invz hB (as := [.int 62]) dX2_readPerson_97 mv_X2_50 rfl sh_kH rfl (Nat.le_of_ble_eq_true rfl) rfl hM30 (fun y27 μ28 hq31 => ?_)
        replace k := k y27 μ28 hq31
        refine m2_if_eq hB dX2_readPerson_100 (tgt := 142) (by decide) (fun q32 : y27 = 0 => ?_) (fun q32 : ¬ y27 = 0 => ?_)
        · replace k := k.1 q32
          refine m2_aload_n hB dX2_readPerson_142 rfl ?_
          refine m2_getR hB dX2_readPerson_143 fl_X2_19 sh_kH (c1 := kP) rfl ?_
          refine m2_iload_n hB dX2_readPerson_146 rfl ?_
          refine m2_iload_n hB dX2_readPerson_147 rfl ?_
          obtain ⟨Q35, hM36, k⟩ := k
          refine m2_invv hB (as := [.int x1, .int (μ7.1 kH 5)]) dX2_readPerson_148 mv_X2_106 rfl sh_kP rfl (Nat.le_of_ble_eq_true rfl) rfl hM36 (fun μ34 hq37 => ?_)
          replace k := k μ34 hq37
          refine m2_aload_n hB dX2_readPerson_151 rfl ?_
          refine m2_dup hB dX2_readPerson_152 rfl ?_
          refine m2_getI hB dX2_readPerson_153 fl_X2_47 sh_kH rfl ?_
          refine m2_iconst hB dX2_readPerson_156 (v := 1) (by decide) ?_
          refine m2_iadd hB dX2_readPerson_157 ?_
          refine m2_putI hB dX2_readPerson_158 fl_X2_47 sh_kH rfl ?_
          refine m2_iconst hB dX2_readPerson_161 (v := 1) (by decide) ?_
          exact m2_zret h dX2_readPerson_162 (Or.inr rfl) k
        · replace k := k.2 q32
          refine m2_aload_n hB dX2_readPerson_103 rfl ?_
          refine m2_bipush hB dX2_readPerson_104 (v := 11) (by decide) ?_
          obtain ⟨Q40, hM41, k⟩ := k
          refine m2_invz hB (as := [.int 11]) dX2_readPerson_106 mv_X2_68 rfl sh_kH rfl (Nat.le_of_ble_eq_true rfl) rfl hM41 (fun y38 μ39 hq42 => ?_)
          replace k := k y38 μ39 hq42
          refine m2_if_ne hB dX2_readPerson_109 (tgt := 114) (by decide) (fun q43 : ¬ y38 = 0 => ?_) (fun q43 : y38 = 0 => ?_)
          · replace k := k.1 q43
            refine m2_aload_n hB dX2_readPerson_114 rfl ?_
            refine m2_getR hB dX2_readPerson_115 fl_X2_19 sh_kH (c1 := kP) rfl ?_
            refine m2_getR hB dX2_readPerson_118 fl_X2_100 sh_kP (c1 := kP_errand) rfl ?_
            refine m2_iload_n hB dX2_readPerson_121 rfl ?_
            refine m2_aload_n hB dX2_readPerson_122 rfl ?_
            refine m2_getI hB dX2_readPerson_123 fl_X2_75 sh_kH rfl ?_
            have hi44 := hi5
            refine m2_iast hB dX2_readPerson_126 sh_kP_errand hi44 ?_
            refine m2_aload_n hB dX2_readPerson_127 rfl ?_
            refine m2_getR hB dX2_readPerson_128 fl_X2_19 sh_kH (c1 := kP) rfl ?_
            refine m2_getR hB dX2_readPerson_131 fl_X2_103 sh_kP (c1 := kP_back) rfl ?_
            refine m2_iload_n hB dX2_readPerson_134 rfl ?_
            refine m2_aload_n hB dX2_readPerson_135 rfl ?_
            refine m2_bipush hB dX2_readPerson_136 (v := 60) (by decide) ?_
            obtain ⟨Q47, hM48, k⟩ := k
            refine m2_invz hB (as := [.int 60]) dX2_readPerson_138 mv_X2_50 rfl sh_kH rfl (Nat.le_of_ble_eq_true rfl) rfl hM48 (fun y45 μ46 hq49 => ?_)
            replace k := k y45 μ46 hq49
            have hi50 := hi5
            refine m2_zast hB dX2_readPerson_141 sh_kP_back hi50 ?_
            refine m2_aload_n hB dX2_readPerson_142 rfl ?_
            refine m2_getR hB dX2_readPerson_143 fl_X2_19 sh_kH (c1 := kP) rfl ?_
            refine m2_iload_n hB dX2_readPerson_146 rfl ?_
            refine m2_iload_n hB dX2_readPerson_147 rfl ?_
            obtain ⟨Q53, hM54, k⟩ := k
            refine m2_invv hB (as := [.int x1, .int (μ7.1 kH 5)]) dX2_readPerson_148 mv_X2_106 rfl sh_kP rfl (Nat.le_of_ble_eq_true rfl) rfl hM54 (fun μ52 hq55 => ?_)
            replace k := k μ52 hq55
            refine m2_aload_n hB dX2_readPerson_151 rfl ?_
            refine m2_dup hB dX2_readPerson_152 rfl ?_
            refine m2_getI hB dX2_readPerson_153 fl_X2_47 sh_kH rfl ?_
            refine m2_iconst hB dX2_readPerson_156 (v := 1) (by decide) ?_
            refine m2_iadd hB dX2_readPerson_157 ?_
            refine m2_putI hB dX2_readPerson_158 fl_X2_47 sh_kH rfl ?_
            refine m2_iconst hB dX2_readPerson_161 (v := 1) (by decide) ?_
            exact m2_zret h dX2_readPerson_162 (Or.inr rfl) k
          · replace k := k.2 q43
            refine m2_iconst hB dX2_readPerson_112 (v := 0) (by decide) ?_
            exact m2_zret h dX2_readPerson_113 (Or.inl rfl) k
      · replace k := k.2 q23
        refine m2_iconst hB dX2_readPerson_59 (v := 0) (by decide) ?_
        exact m2_zret h dX2_readPerson_60 (Or.inl rfl) k
  · replace k := k.2 q11
    refine m2_iconst hB dX2_readPerson_34 (v := 0) (by decide) ?_
    exact m2_zret h dX2_readPerson_35 (Or.inl rfl) k
theorem dX2_readNumber_0 : decode cX2_readNumber 0 = .ok (.aload_n 0, 1) := by decide +kernel
theorem dX2_readNumber_1 : decode cX2_readNumber 1 = .ok (.iconst 0, 1) := by decide +kernel
theorem dX2_readNumber_2 : decode cX2_readNumber 2 = .ok (.putfield 75, 3) := by decide +kernel
theorem dX2_readNumber_5 : decode cX2_readNumber 5 = .ok (.iconst 0, 1) := by decide +kernel
theorem dX2_readNumber_6 : decode cX2_readNumber 6 = .ok (.istore_n 2, 1) := by decide +kernel
theorem dX2_readNumber_7 : decode cX2_readNumber 7 = .ok (.iload_n 2, 1) := by decide +kernel
theorem dX2_readNumber_8 : decode cX2_readNumber 8 = .ok (.iconst 2, 1) := by decide +kernel
theorem dX2_readNumber_9 : decode cX2_readNumber 9 = .ok (.if_icmp .ge 69, 3) := by decide +kernel
theorem dX2_readNumber_12 : decode cX2_readNumber 12 = .ok (.aload_n 0, 1) := by decide +kernel
theorem dX2_readNumber_13 : decode cX2_readNumber 13 = .ok (.getfield 33, 3) := by decide +kernel
theorem dX2_readNumber_16 : decode cX2_readNumber 16 = .ok (.aload_n 0, 1) := by decide +kernel
theorem dX2_readNumber_17 : decode cX2_readNumber 17 = .ok (.getfield 29, 3) := by decide +kernel
theorem dX2_readNumber_20 : decode cX2_readNumber 20 = .ok (.if_icmp .ge 58, 3) := by decide +kernel
theorem dX2_readNumber_23 : decode cX2_readNumber 23 = .ok (.aload_n 0, 1) := by decide +kernel
theorem dX2_readNumber_24 : decode cX2_readNumber 24 = .ok (.getfield 9, 3) := by decide +kernel
theorem dX2_readNumber_27 : decode cX2_readNumber 27 = .ok (.aload_n 0, 1) := by decide +kernel
theorem dX2_readNumber_28 : decode cX2_readNumber 28 = .ok (.getfield 33, 3) := by decide +kernel
theorem dX2_readNumber_31 : decode cX2_readNumber 31 = .ok (.caload, 1) := by decide +kernel
theorem dX2_readNumber_32 : decode cX2_readNumber 32 = .ok (.invokestatic 110, 3) := by decide +kernel
theorem dX2_readNumber_35 : decode cX2_readNumber 35 = .ok (.ifCond .eq 43, 3) := by decide +kernel
theorem dX2_readNumber_38 : decode cX2_readNumber 38 = .ok (.aload_n 0, 1) := by decide +kernel
theorem dX2_readNumber_39 : decode cX2_readNumber 39 = .ok (.aload_n 0, 1) := by decide +kernel
theorem dX2_readNumber_40 : decode cX2_readNumber 40 = .ok (.getfield 75, 3) := by decide +kernel
theorem dX2_readNumber_43 : decode cX2_readNumber 43 = .ok (.bipush 10, 2) := by decide +kernel
theorem dX2_readNumber_45 : decode cX2_readNumber 45 = .ok (.imul, 1) := by decide +kernel
theorem dX2_readNumber_46 : decode cX2_readNumber 46 = .ok (.aload_n 0, 1) := by decide +kernel
theorem dX2_readNumber_47 : decode cX2_readNumber 47 = .ok (.getfield 9, 3) := by decide +kernel
theorem dX2_readNumber_50 : decode cX2_readNumber 50 = .ok (.aload_n 0, 1) := by decide +kernel
theorem dX2_readNumber_51 : decode cX2_readNumber 51 = .ok (.getfield 33, 3) := by decide +kernel
theorem dX2_readNumber_54 : decode cX2_readNumber 54 = .ok (.caload, 1) := by decide +kernel
theorem dX2_readNumber_55 : decode cX2_readNumber 55 = .ok (.bipush 48, 2) := by decide +kernel
theorem dX2_readNumber_57 : decode cX2_readNumber 57 = .ok (.isub, 1) := by decide +kernel
theorem dX2_readNumber_58 : decode cX2_readNumber 58 = .ok (.iadd, 1) := by decide +kernel
theorem dX2_readNumber_59 : decode cX2_readNumber 59 = .ok (.putfield 75, 3) := by decide +kernel
theorem dX2_readNumber_62 : decode cX2_readNumber 62 = .ok (.aload_n 0, 1) := by decide +kernel
theorem dX2_readNumber_63 : decode cX2_readNumber 63 = .ok (.dup, 1) := by decide +kernel
theorem dX2_readNumber_64 : decode cX2_readNumber 64 = .ok (.getfield 33, 3) := by decide +kernel
theorem dX2_readNumber_67 : decode cX2_readNumber 67 = .ok (.iconst 1, 1) := by decide +kernel
theorem dX2_readNumber_68 : decode cX2_readNumber 68 = .ok (.iadd, 1) := by decide +kernel
theorem dX2_readNumber_69 : decode cX2_readNumber 69 = .ok (.putfield 33, 3) := by decide +kernel
theorem dX2_readNumber_72 : decode cX2_readNumber 72 = .ok (.iinc 2 1, 3) := by decide +kernel
theorem dX2_readNumber_75 : decode cX2_readNumber 75 = .ok (.goto (-68), 3) := by decide +kernel
theorem dX2_readNumber_78 : decode cX2_readNumber 78 = .ok (.aload_n 0, 1) := by decide +kernel
theorem dX2_readNumber_79 : decode cX2_readNumber 79 = .ok (.getfield 75, 3) := by decide +kernel
theorem dX2_readNumber_82 : decode cX2_readNumber 82 = .ok (.iload_n 1, 1) := by decide +kernel
theorem dX2_readNumber_83 : decode cX2_readNumber 83 = .ok (.if_icmp .le 15, 3) := by decide +kernel
theorem dX2_readNumber_86 : decode cX2_readNumber 86 = .ok (.aload_n 0, 1) := by decide +kernel
theorem dX2_readNumber_87 : decode cX2_readNumber 87 = .ok (.dup, 1) := by decide +kernel
theorem dX2_readNumber_88 : decode cX2_readNumber 88 = .ok (.getfield 33, 3) := by decide +kernel
theorem dX2_readNumber_91 : decode cX2_readNumber 91 = .ok (.iconst 1, 1) := by decide +kernel
theorem dX2_readNumber_92 : decode cX2_readNumber 92 = .ok (.isub, 1) := by decide +kernel
theorem dX2_readNumber_93 : decode cX2_readNumber 93 = .ok (.putfield 33, 3) := by decide +kernel
theorem dX2_readNumber_96 : decode cX2_readNumber 96 = .ok (.iconst 0, 1) := by decide +kernel
theorem dX2_readNumber_97 : decode cX2_readNumber 97 = .ok (.ireturn, 1) := by decide +kernel
theorem dX2_readNumber_98 : decode cX2_readNumber 98 = .ok (.iload_n 2, 1) := by decide +kernel
theorem dX2_readNumber_99 : decode cX2_readNumber 99 = .ok (.ifCond .le 7, 3) := by decide +kernel
theorem dX2_readNumber_102 : decode cX2_readNumber 102 = .ok (.iconst 1, 1) := by decide +kernel
theorem dX2_readNumber_103 : decode cX2_readNumber 103 = .ok (.goto 4, 3) := by decide +kernel
theorem dX2_readNumber_106 : decode cX2_readNumber 106 = .ok (.iconst 0, 1) := by decide +kernel
theorem dX2_readNumber_107 : decode cX2_readNumber 107 = .ok (.ireturn, 1) := by decide +kernel
set_option maxRecDepth 100000 in
set_option maxHeartbeats 4000000 in
theorem B_X2_readNumber_0 {κ : Nat → List Value → List Value → m2M → Prop} {D : Nat} {Q : Option Value → m2M → Prop} (h : m2_RL κ cX2_readNumber RX2 3 D (some .boolean) Q) {x1 : Int32} {μ : m2M} (k : κ 7 [.ref kH, .int x1, .int 0] [] (m2_si μ kH 5 0)) : κ 0 [.ref kH, .int x1, .null] [] μ := by
  have hB := h.b
  refine m2_aload_n hB dX2_readNumber_0 rfl ?_
  refine m2_iconst hB dX2_readNumber_1 (v := 0) (by decide) ?_
  refine m2_putI hB dX2_readNumber_2 fl_X2_75 sh_kH rfl ?_
  refine m2_iconst hB dX2_readNumber_5 (v := 0) (by decide) ?_
  refine m2_istore_n hB (ls' := [.ref kH, .int x1, .int 0]) dX2_readNumber_6 rfl (by decide) rfl ?_
  exact k
set_option maxRecDepth 100000 in
set_option maxHeartbeats 4000000 in
theorem B_X2_readNumber_7 {κ : Nat → List Value → List Value → m2M → Prop} {D : Nat} {Q : Option Value → m2M → Prop} (h : m2_RL κ cX2_readNumber RX2 3 (D + 1) (some .boolean) Q) (hD : 0 ≤ D) {v1 : Int32} {v2 : Int32} {μ : m2M} (k : (2 ≤ v2 → ((μ.1 kH 5) ≤ v1 → Q (some (.int (if v2 ≤ 0 then 0 else 1 : Int32))) μ) ∧ (¬ (μ.1 kH 5) ≤ v1 → Q (some (.int 0)) (m2_si μ kH 4 ((μ.1 kH 4) - 1)))) ∧ (¬ 2 ≤ v2 → ((μ.1 kH 3) ≤ (μ.1 kH 4) → ((μ.1 kH 5) ≤ v1 → Q (some (.int (if v2 ≤ 0 then 0 else 1 : Int32))) μ) ∧ (¬ (μ.1 kH 5) ≤ v1 → Q (some (.int 0)) (m2_si μ kH 4 ((μ.1 kH 4) - 1)))) ∧ (¬ (μ.1 kH 3) ≤ (μ.1 kH 4) → (vp_in (μ.1 kH 4) 80) ∧ (((fX11_isDigit (μ.1 kC_text ((μ.1 kH 4)).toNatClampNeg)) = 1 → κ 7 [.ref kH, .int v1, .int (v2 + 1)] [] (m2_si (m2_si μ kH 5 (((μ.1 kH 5) * (10 : Int32)) + ((μ.1 kC_text ((μ.1 kH 4)).toNatClampNeg) - 48))) kH 4 ((μ.1 kH 4) + 1))) ∧ (¬ (fX11_isDigit (μ.1 kC_text ((μ.1 kH 4)).toNatClampNeg)) = 1 → ((μ.1 kH 5) ≤ v1 → Q (some (.int (if v2 ≤ 0 then 0 else 1 : Int32))) μ) ∧ (¬ (μ.1 kH 5) ≤ v1 → Q (some (.int 0)) (m2_si μ kH 4 ((μ.1 kH 4) - 1)))))))) : κ 7 [.ref kH, .int v1, .int v2] [] μ := by
  have hB := h.b
  refine m2_iload_n hB dX2_readNumber_7 rfl ?_
  refine m2_iconst hB dX2_readNumber_8 (v := 2) (by decide) ?_
  refine m2_icmp_ge hB dX2_readNumber_9 (tgt := 78) (by decide) (fun q2 : 2 ≤ v2 => ?_) (fun q2 : ¬ 2 ≤ v2 => ?_)
  · replace k := k.1 q2
    refine m2_aload_n hB dX2_readNumber_78 rfl ?_
    refine m2_getI hB dX2_readNumber_79 fl_X2_75 sh_kH rfl ?_
    refine m2_iload_n hB dX2_readNumber_82 rfl ?_
    refine m2_icmp_le hB dX2_readNumber_83 (tgt := 98) (by decide) (fun q3 : (μ.1 kH 5) ≤ v1 => ?_) (fun q3 : ¬ (μ.1 kH 5) ≤ v1 => ?_)
    · replace k := k.1 q3
      refine m2_iload_n hB dX2_readNumber_98 rfl ?_
      have G5 : κ 107 [.ref kH, .int v1, .int v2] [.int (if v2 ≤ 0 then 0 else 1 : Int32)] μ := by
        exact m2_zret h dX2_readNumber_107 (by (repeat' split) <;> first | exact Or.inl rfl | exact Or.inr rfl) k
      refine m2_if_le hB dX2_readNumber_99 (tgt := 106) (by decide) (fun q4 : v2 ≤ 0 => ?_) (fun q4 : ¬ v2 ≤ 0 => ?_)
      · rw [if_pos q4] at G5
        refine m2_iconst hB dX2_readNumber_106 (v := 0) (by decide) ?_
        exact G5
      · rw [if_neg q4] at G5
        refine m2_iconst hB dX2_readNumber_102 (v := 1) (by decide) ?_
        refine m2_goto hB dX2_readNumber_103 (tgt := 107) (by decide) ?_
        exact G5
    · replace k := k.2 q3
      refine m2_aload_n hB dX2_readNumber_86 rfl ?_
      refine m2_dup hB dX2_readNumber_87 rfl ?_
      refine m2_getI hB dX2_readNumber_88 fl_X2_33 sh_kH rfl ?_
      refine m2_iconst hB dX2_readNumber_91 (v := 1) (by decide) ?_
      refine m2_isub hB dX2_readNumber_92 ?_
      refine m2_putI hB dX2_readNumber_93 fl_X2_33 sh_kH rfl ?_
      refine m2_iconst hB dX2_readNumber_96 (v := 0) (by decide) ?_
      exact m2_zret h dX2_readNumber_97 (Or.inl rfl) k
  · replace k := k.2 q2
    refine m2_aload_n hB dX2_readNumber_12 rfl ?_
    refine m2_getI hB dX2_readNumber_13 fl_X2_33 sh_kH rfl ?_
    refine m2_aload_n hB dX2_readNumber_16 rfl ?_
    refine m2_getI hB dX2_readNumber_17 fl_X2_29 sh_kH rfl ?_
    refine m2_icmp_ge hB dX2_readNumber_20 (tgt := 78) (by decide) (fun q7 : (μ.1 kH 3) ≤ (μ.1 kH 4) => ?_) (fun q7 : ¬ (μ.1 kH 3) ≤ (μ.1 kH 4) => ?_)
    · replace k := k.1 q7
      refine m2_aload_n hB dX2_readNumber_78 rfl ?_
      refine m2_getI hB dX2_readNumber_79 fl_X2_75 sh_kH rfl ?_
      refine m2_iload_n hB dX2_readNumber_82 rfl ?_
      refine m2_icmp_le hB dX2_readNumber_83 (tgt := 98) (by decide) (fun q8 : (μ.1 kH 5) ≤ v1 => ?_) (fun q8 : ¬ (μ.1 kH 5) ≤ v1 => ?_)
      · replace k := k.1 q8
        refine m2_iload_n hB dX2_readNumber_98 rfl ?_
        have G10 : κ 107 [.ref kH, .int v1, .int v2] [.int (if v2 ≤ 0 then 0 else 1 : Int32)] μ := by
          exact m2_zret h dX2_readNumber_107 (by (repeat' split) <;> first | exact Or.inl rfl | exact Or.inr rfl) k
        refine m2_if_le hB dX2_readNumber_99 (tgt := 106) (by decide) (fun q9 : v2 ≤ 0 => ?_) (fun q9 : ¬ v2 ≤ 0 => ?_)
        · rw [if_pos q9] at G10
          refine m2_iconst hB dX2_readNumber_106 (v := 0) (by decide) ?_
          exact G10
        · rw [if_neg q9] at G10
          refine m2_iconst hB dX2_readNumber_102 (v := 1) (by decide) ?_
          refine m2_goto hB dX2_readNumber_103 (tgt := 107) (by decide) ?_
          exact G10
      · replace k := k.2 q8
        refine m2_aload_n hB dX2_readNumber_86 rfl ?_
        refine m2_dup hB dX2_readNumber_87 rfl ?_
        refine m2_getI hB dX2_readNumber_88 fl_X2_33 sh_kH rfl ?_
        refine m2_iconst hB dX2_readNumber_91 (v := 1) (by decide) ?_
        refine m2_isub hB dX2_readNumber_92 ?_
        refine m2_putI hB dX2_readNumber_93 fl_X2_33 sh_kH rfl ?_
        refine m2_iconst hB dX2_readNumber_96 (v := 0) (by decide) ?_
        exact m2_zret h dX2_readNumber_97 (Or.inl rfl) k
    · replace k := k.2 q7
      refine m2_aload_n hB dX2_readNumber_23 rfl ?_
      refine m2_getR hB dX2_readNumber_24 fl_X2_9 sh_kH (c1 := kC_text) rfl ?_
      refine m2_aload_n hB dX2_readNumber_27 rfl ?_
      refine m2_getI hB dX2_readNumber_28 fl_X2_33 sh_kH rfl ?_
      obtain ⟨hi11, k⟩ := k
      refine m2_cald hB dX2_readNumber_31 sh_kC_text hi11 ?_
      refine m2_invNz hB (as := [.int (μ.1 kC_text ((μ.1 kH 4)).toNatClampNeg)]) dX2_readNumber_32 mn_X2_110 rfl (Nat.le_of_ble_eq_true rfl) rfl (P_X11_isDigit (by omega) ((μ.1 kC_text ((μ.1 kH 4)).toNatClampNeg)) _ ) (fun y12 μ13 hq14 => ?_)
      obtain ⟨⟨⟩, hq14⟩ := hq14
      subst μ13
      show κ 35 [.ref kH, .int v1, .int v2] [.int (if (fX11_isDigit (μ.1 kC_text ((μ.1 kH 4)).toNatClampNeg)) = 1 then 1 else 0 : Int32)] μ
      by_cases q15 : (fX11_isDigit (μ.1 kC_text ((μ.1 kH 4)).toNatClampNeg)) = 1
      · rw [if_pos q15]
        replace k := k.1 q15
        refine m2_if_eq hB dX2_readNumber_35 (tgt := 78) (by decide) (fun q => absurd q (by decide)) (fun _ => ?_)
        refine m2_aload_n hB dX2_readNumber_38 rfl ?_
        refine m2_aload_n hB dX2_readNumber_39 rfl ?_
        refine m2_getI hB dX2_readNumber_40 fl_X2_75 sh_kH rfl ?_
        refine m2_bipush hB dX2_readNumber_43 (v := 10) (by decide) ?_
        refine m2_imul hB dX2_readNumber_45 ?_
        refine m2_aload_n hB dX2_readNumber_46 rfl ?_
        refine m2_getR hB dX2_readNumber_47 fl_X2_9 sh_kH (c1 := kC_text) rfl ?_
        refine m2_aload_n hB dX2_readNumber_50 rfl ?_
        refine m2_getI hB dX2_readNumber_51 fl_X2_33 sh_kH rfl ?_
        have hi16 := hi11
        refine m2_cald hB dX2_readNumber_54 sh_kC_text hi16 ?_
        refine m2_bipush hB dX2_readNumber_55 (v := 48) (by decide) ?_
        refine m2_isub hB dX2_readNumber_57 ?_
        refine m2_iadd hB dX2_readNumber_58 ?_
        refine m2_putI hB dX2_readNumber_59 fl_X2_75 sh_kH rfl ?_
        refine m2_aload_n hB dX2_readNumber_62 rfl ?_
        refine m2_dup hB dX2_readNumber_63 rfl ?_
        refine m2_getI hB dX2_readNumber_64 fl_X2_33 sh_kH rfl ?_
        refine m2_iconst hB dX2_readNumber_67 (v := 1) (by decide) ?_
        refine m2_iadd hB dX2_readNumber_68 ?_
        refine m2_putI hB dX2_readNumber_69 fl_X2_33 sh_kH rfl ?_
        refine m2_iinc hB (ls' := [.ref kH, .int v1, .int (v2 + 1)]) (v := (v2 + 1)) dX2_readNumber_72 rfl (by decide) rfl rfl ?_
        refine m2_goto hB dX2_readNumber_75 (tgt := 7) (by decide) ?_
        exact k
      · rw [if_neg q15]
        replace k := k.2 q15
        refine m2_if_eq hB dX2_readNumber_35 (tgt := 78) (by decide) (fun _ => ?_) (fun q => absurd q (by decide))
        refine m2_aload_n hB dX2_readNumber_78 rfl ?_
        refine m2_getI hB dX2_readNumber_79 fl_X2_75 sh_kH rfl ?_
        refine m2_iload_n hB dX2_readNumber_82 rfl ?_
        refine m2_icmp_le hB dX2_readNumber_83 (tgt := 98) (by decide) (fun q17 : (μ.1 kH 5) ≤ v1 => ?_) (fun q17 : ¬ (μ.1 kH 5) ≤ v1 => ?_)
        · replace k := k.1 q17
          refine m2_iload_n hB dX2_readNumber_98 rfl ?_
          have G19 : κ 107 [.ref kH, .int v1, .int v2] [.int (if v2 ≤ 0 then 0 else 1 : Int32)] μ := by
            exact m2_zret h dX2_readNumber_107 (by (repeat' split) <;> first | exact Or.inl rfl | exact Or.inr rfl) k
          refine m2_if_le hB dX2_readNumber_99 (tgt := 106) (by decide) (fun q18 : v2 ≤ 0 => ?_) (fun q18 : ¬ v2 ≤ 0 => ?_)
          · rw [if_pos q18] at G19
            refine m2_iconst hB dX2_readNumber_106 (v := 0) (by decide) ?_
            exact G19
          · rw [if_neg q18] at G19
            refine m2_iconst hB dX2_readNumber_102 (v := 1) (by decide) ?_
            refine m2_goto hB dX2_readNumber_103 (tgt := 107) (by decide) ?_
            exact G19
        · replace k := k.2 q17
          refine m2_aload_n hB dX2_readNumber_86 rfl ?_
          refine m2_dup hB dX2_readNumber_87 rfl ?_
          refine m2_getI hB dX2_readNumber_88 fl_X2_33 sh_kH rfl ?_
          refine m2_iconst hB dX2_readNumber_91 (v := 1) (by decide) ?_
          refine m2_isub hB dX2_readNumber_92 ?_
          refine m2_putI hB dX2_readNumber_93 fl_X2_33 sh_kH rfl ?_
          refine m2_iconst hB dX2_readNumber_96 (v := 0) (by decide) ?_
          exact m2_zret h dX2_readNumber_97 (Or.inl rfl) k
theorem dX2_takes_0 : decode cX2_takes 0 = .ok (.aload_n 0, 1) := by decide +kernel
theorem dX2_takes_1 : decode cX2_takes 1 = .ok (.iload_n 1, 1) := by decide +kernel
theorem dX2_takes_2 : decode cX2_takes 2 = .ok (.invokevirtual 58, 3) := by decide +kernel
theorem dX2_takes_5 : decode cX2_takes 5 = .ok (.ifCond .ne 5, 3) := by decide +kernel
theorem dX2_takes_8 : decode cX2_takes 8 = .ok (.iconst 0, 1) := by decide +kernel
theorem dX2_takes_9 : decode cX2_takes 9 = .ok (.ireturn, 1) := by decide +kernel
theorem dX2_takes_10 : decode cX2_takes 10 = .ok (.aload_n 0, 1) := by decide +kernel
theorem dX2_takes_11 : decode cX2_takes 11 = .ok (.dup, 1) := by decide +kernel
theorem dX2_takes_12 : decode cX2_takes 12 = .ok (.getfield 33, 3) := by decide +kernel
theorem dX2_takes_15 : decode cX2_takes 15 = .ok (.iconst 1, 1) := by decide +kernel
theorem dX2_takes_16 : decode cX2_takes 16 = .ok (.iadd, 1) := by decide +kernel
theorem dX2_takes_17 : decode cX2_takes 17 = .ok (.putfield 33, 3) := by decide +kernel
theorem dX2_takes_20 : decode cX2_takes 20 = .ok (.iconst 1, 1) := by decide +kernel
theorem dX2_takes_21 : decode cX2_takes 21 = .ok (.ireturn, 1) := by decide +kernel
set_option maxRecDepth 100000 in
set_option maxHeartbeats 4000000 in
theorem B_X2_takes_0 {κ : Nat → List Value → List Value → m2M → Prop} {D : Nat} {Q : Option Value → m2M → Prop} (h : m2_RL κ cX2_takes RX2 2 (D + 1) (some .boolean) Q) (hD : 0 ≤ D) {x1 : Int32} {μ : m2M} (k : ((¬ (μ.1 kH 3) ≤ (μ.1 kH 4) → vp_in (μ.1 kH 4) 80)) ∧ (((fX2_stands x1 μ) = 1 → Q (some (.int 1)) (m2_si μ kH 4 ((μ.1 kH 4) + 1))) ∧ (¬ (fX2_stands x1 μ) = 1 → Q (some (.int 0)) μ))) : κ 0 [.ref kH, .int x1] [] μ := by
  have hB := h.b
  refine m2_aload_n hB dX2_takes_0 rfl ?_
  refine m2_iload_n hB dX2_takes_1 rfl ?_
  obtain ⟨hs1, k⟩ := k
  refine m2_invz hB (as := [.int x1]) dX2_takes_2 mv_X2_58 rfl sh_kH rfl (Nat.le_of_ble_eq_true rfl) rfl (P_X2_stands (by omega) (x1) _ hs1) (fun y2 μ3 hq4 => ?_)
  obtain ⟨⟨⟩, hq4⟩ := hq4
  subst μ3
  show κ 5 [.ref kH, .int x1] [.int (if (fX2_stands x1 μ) = 1 then 1 else 0 : Int32)] μ
  by_cases q5 : (fX2_stands x1 μ) = 1
  · rw [if_pos q5]
    replace k := k.1 q5
    refine m2_if_ne hB dX2_takes_5 (tgt := 10) (by decide) (fun _ => ?_) (fun q => absurd q (by decide))
    refine m2_aload_n hB dX2_takes_10 rfl ?_
    refine m2_dup hB dX2_takes_11 rfl ?_
    refine m2_getI hB dX2_takes_12 fl_X2_33 sh_kH rfl ?_
    refine m2_iconst hB dX2_takes_15 (v := 1) (by decide) ?_
    refine m2_iadd hB dX2_takes_16 ?_
    refine m2_putI hB dX2_takes_17 fl_X2_33 sh_kH rfl ?_
    refine m2_iconst hB dX2_takes_20 (v := 1) (by decide) ?_
    exact m2_zret h dX2_takes_21 (Or.inr rfl) k
  · rw [if_neg q5]
    replace k := k.2 q5
    refine m2_if_ne hB dX2_takes_5 (tgt := 10) (by decide) (fun q => absurd q (by decide)) (fun _ => ?_)
    refine m2_iconst hB dX2_takes_8 (v := 0) (by decide) ?_
    exact m2_zret h dX2_takes_9 (Or.inl rfl) k
