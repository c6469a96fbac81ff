theorem dX7_read_0 : decode cX7_read 0 = .ok (.aload_n 0, 1) := by decide +kernel
theorem dX7_read_1 : decode cX7_read 1 = .ok (.iload_n 1, 1) := by decide +kernel
theorem dX7_read_2 : decode cX7_read 2 = .ok (.bipush 40, 2) := by decide +kernel
theorem dX7_read_4 : decode cX7_read 4 = .ok (.invokestatic 33, 3) := by decide +kernel
theorem dX7_read_7 : decode cX7_read 7 = .ok (.putfield 39, 3) := by decide +kernel
theorem dX7_read_10 : decode cX7_read 10 = .ok (.aload_n 0, 1) := by decide +kernel
theorem dX7_read_11 : decode cX7_read 11 = .ok (.iconst 0, 1) := by decide +kernel
theorem dX7_read_12 : decode cX7_read 12 = .ok (.putfield 43, 3) := by decide +kernel
theorem dX7_read_15 : decode cX7_read 15 = .ok (.aload_n 0, 1) := by decide +kernel
theorem dX7_read_16 : decode cX7_read 16 = .ok (.iconst 0, 1) := by decide +kernel
theorem dX7_read_17 : decode cX7_read 17 = .ok (.putfield 46, 3) := by decide +kernel
theorem dX7_read_20 : decode cX7_read 20 = .ok (.aload_n 0, 1) := by decide +kernel
theorem dX7_read_21 : decode cX7_read 21 = .ok (.iconst 0, 1) := by decide +kernel
theorem dX7_read_22 : decode cX7_read 22 = .ok (.putfield 49, 3) := by decide +kernel
theorem dX7_read_25 : decode cX7_read 25 = .ok (.aload_n 0, 1) := by decide +kernel
theorem dX7_read_26 : decode cX7_read 26 = .ok (.iconst 0, 1) := by decide +kernel
theorem dX7_read_27 : decode cX7_read 27 = .ok (.putfield 52, 3) := by decide +kernel
theorem dX7_read_30 : decode cX7_read 30 = .ok (.aload_n 0, 1) := by decide +kernel
theorem dX7_read_31 : decode cX7_read 31 = .ok (.getfield 19, 3) := by decide +kernel
theorem dX7_read_34 : decode cX7_read 34 = .ok (.iconst 0, 1) := by decide +kernel
theorem dX7_read_35 : decode cX7_read 35 = .ok (.iconst 0, 1) := by decide +kernel
theorem dX7_read_36 : decode cX7_read 36 = .ok (.bastore, 1) := by decide +kernel
theorem dX7_read_37 : decode cX7_read 37 = .ok (.aload_n 0, 1) := by decide +kernel
theorem dX7_read_38 : decode cX7_read 38 = .ok (.aload_n 0, 1) := by decide +kernel
theorem dX7_read_39 : decode cX7_read 39 = .ok (.getfield 39, 3) := by decide +kernel
theorem dX7_read_42 : decode cX7_read 42 = .ok (.ifCond .le 7, 3) := by decide +kernel
theorem dX7_read_45 : decode cX7_read 45 = .ok (.iconst 1, 1) := by decide +kernel
theorem dX7_read_46 : decode cX7_read 46 = .ok (.goto 4, 3) := by decide +kernel
theorem dX7_read_49 : decode cX7_read 49 = .ok (.iconst 0, 1) := by decide +kernel
theorem dX7_read_50 : decode cX7_read 50 = .ok (.putfield 55, 3) := by decide +kernel
theorem dX7_read_53 : decode cX7_read 53 = .ok (.iconst 1, 1) := by decide +kernel
theorem dX7_read_54 : decode cX7_read 54 = .ok (.istore_n 2, 1) := by decide +kernel
theorem dX7_read_55 : decode cX7_read 55 = .ok (.iconst 0, 1) := by decide +kernel
theorem dX7_read_56 : decode cX7_read 56 = .ok (.istore_n 3, 1) := by decide +kernel
theorem dX7_read_57 : decode cX7_read 57 = .ok (.iload_n 3, 1) := by decide +kernel
theorem dX7_read_58 : decode cX7_read 58 = .ok (.bipush 40, 2) := by decide +kernel
theorem dX7_read_60 : decode cX7_read 60 = .ok (.if_icmp .ge 61, 3) := by decide +kernel
theorem dX7_read_63 : decode cX7_read 63 = .ok (.iload_n 2, 1) := by decide +kernel
theorem dX7_read_64 : decode cX7_read 64 = .ok (.ifCond .eq 57, 3) := by decide +kernel
theorem dX7_read_67 : decode cX7_read 67 = .ok (.aload_n 0, 1) := by decide +kernel
theorem dX7_read_68 : decode cX7_read 68 = .ok (.getfield 43, 3) := by decide +kernel
theorem dX7_read_71 : decode cX7_read 71 = .ok (.aload_n 0, 1) := by decide +kernel
theorem dX7_read_72 : decode cX7_read 72 = .ok (.getfield 39, 3) := by decide +kernel
theorem dX7_read_75 : decode cX7_read 75 = .ok (.if_icmp .ge 46, 3) := by decide +kernel
theorem dX7_read_78 : decode cX7_read 78 = .ok (.aload_n 0, 1) := by decide +kernel
theorem dX7_read_79 : decode cX7_read 79 = .ok (.getfield 55, 3) := by decide +kernel
theorem dX7_read_82 : decode cX7_read 82 = .ok (.ifCond .eq 19, 3) := by decide +kernel
theorem dX7_read_85 : decode cX7_read 85 = .ok (.aload_n 0, 1) := by decide +kernel
theorem dX7_read_86 : decode cX7_read 86 = .ok (.aload_n 0, 1) := by decide +kernel
theorem dX7_read_87 : decode cX7_read 87 = .ok (.getfield 29, 3) := by decide +kernel
theorem dX7_read_90 : decode cX7_read 90 = .ok (.aload_n 0, 1) := by decide +kernel
theorem dX7_read_91 : decode cX7_read 91 = .ok (.getfield 43, 3) := by decide +kernel
theorem dX7_read_94 : decode cX7_read 94 = .ok (.caload, 1) := by decide +kernel
theorem dX7_read_95 : decode cX7_read 95 = .ok (.invokevirtual 59, 3) := by decide +kernel
theorem dX7_read_98 : decode cX7_read 98 = .ok (.goto 16, 3) := by decide +kernel
theorem dX7_read_101 : decode cX7_read 101 = .ok (.aload_n 0, 1) := by decide +kernel
theorem dX7_read_102 : decode cX7_read 102 = .ok (.aload_n 0, 1) := by decide +kernel
theorem dX7_read_103 : decode cX7_read 103 = .ok (.getfield 29, 3) := by decide +kernel
theorem dX7_read_106 : decode cX7_read 106 = .ok (.aload_n 0, 1) := by decide +kernel
theorem dX7_read_107 : decode cX7_read 107 = .ok (.getfield 43, 3) := by decide +kernel
theorem dX7_read_110 : decode cX7_read 110 = .ok (.caload, 1) := by decide +kernel
theorem dX7_read_111 : decode cX7_read 111 = .ok (.invokevirtual 63, 3) := by decide +kernel
theorem dX7_read_114 : decode cX7_read 114 = .ok (.istore_n 2, 1) := by decide +kernel
theorem dX7_read_115 : decode cX7_read 115 = .ok (.iinc 3 1, 3) := by decide +kernel
theorem dX7_read_118 : decode cX7_read 118 = .ok (.goto (-61), 3) := by decide +kernel
theorem dX7_read_121 : decode cX7_read 121 = .ok (.iload_n 2, 1) := by decide +kernel
theorem dX7_read_122 : decode cX7_read 122 = .ok (.ifCond .eq 23, 3) := by decide +kernel
theorem dX7_read_125 : decode cX7_read 125 = .ok (.iload_n 1, 1) := by decide +kernel
theorem dX7_read_126 : decode cX7_read 126 = .ok (.bipush 40, 2) := by decide +kernel
theorem dX7_read_128 : decode cX7_read 128 = .ok (.if_icmp .gt 17, 3) := by decide +kernel
theorem dX7_read_131 : decode cX7_read 131 = .ok (.aload_n 0, 1) := by decide +kernel
theorem dX7_read_132 : decode cX7_read 132 = .ok (.getfield 55, 3) := by decide +kernel
theorem dX7_read_135 : decode cX7_read 135 = .ok (.ifCond .ne 10, 3) := by decide +kernel
theorem dX7_read_138 : decode cX7_read 138 = .ok (.aload_n 0, 1) := by decide +kernel
theorem dX7_read_139 : decode cX7_read 139 = .ok (.getfield 52, 3) := by decide +kernel
theorem dX7_read_142 : decode cX7_read 142 = .ok (.ifCond .le 10, 3) := by decide +kernel
theorem dX7_read_145 : decode cX7_read 145 = .ok (.iconst (-1), 1) := by decide +kernel
theorem dX7_read_146 : decode cX7_read 146 = .ok (.aload_n 0, 1) := by decide +kernel
theorem dX7_read_147 : decode cX7_read 147 = .ok (.getfield 43, 3) := by decide +kernel
theorem dX7_read_150 : decode cX7_read 150 = .ok (.isub, 1) := by decide +kernel
theorem dX7_read_151 : decode cX7_read 151 = .ok (.ireturn, 1) := by decide +kernel
theorem dX7_read_152 : decode cX7_read 152 = .ok (.aload_n 0, 1) := by decide +kernel
theorem dX7_read_153 : decode cX7_read 153 = .ok (.iconst 1, 1) := by decide +kernel
theorem dX7_read_154 : decode cX7_read 154 = .ok (.invokevirtual 66, 3) := by decide +kernel
theorem dX7_read_157 : decode cX7_read 157 = .ok (.aload_n 0, 1) := by decide +kernel
theorem dX7_read_158 : decode cX7_read 158 = .ok (.invokevirtual 70, 3) := by decide +kernel
theorem dX7_read_161 : decode cX7_read 161 = .ok (.iconst 0, 1) := by decide +kernel
theorem dX7_read_162 : decode cX7_read 162 = .ok (.ireturn, 1) := by decide +kernel
set_option maxRecDepth 100000 in
set_option maxHeartbeats 4000000 in
theorem B_X7_read_0 {κ : Nat → List Value → List Value → m2M → Prop} {D : Nat} {Q : Option Value → m2M → Prop} (h : m2_RL κ cX7_read RX7 4 (D + 1) (some .int) Q) (hD : 0 ≤ D) {x1 : Int32} {μ : m2M} (k : κ 57 [.ref kE, .int x1, .int 1, .int 0] [] (m2_si (m2_si (m2_si (m2_si (m2_si (m2_si (m2_si μ kE 10 (m2_min x1 40)) kE 11 0) kE 5 0) kE 7 0) kE 9 0) kE_compared ((0 : Int32)).toNatClampNeg (vp_nar .boolean 0)) kE 12 (if (m2_min x1 40) ≤ 0 then 0 else 1 : Int32))) : κ 0 [.ref kE, .int x1, .null, .null] [] μ := by
  have hB := h.b
  refine m2_aload_n hB dX7_read_0 rfl ?_
  refine m2_iload_n hB dX7_read_1 rfl ?_
  refine m2_bipush hB dX7_read_2 (v := 40) (by decide) ?_
  refine m2_mmin hB dX7_read_4 ms_X7_33 (Nat.le_of_ble_eq_true rfl) ?_
  refine m2_putI hB dX7_read_7 fl_X7_39 sh_kE rfl ?_
  refine m2_aload_n hB dX7_read_10 rfl ?_
  refine m2_iconst hB dX7_read_11 (v := 0) (by decide) ?_
  refine m2_putI hB dX7_read_12 fl_X7_43 sh_kE rfl ?_
  refine m2_aload_n hB dX7_read_15 rfl ?_
  refine m2_iconst hB dX7_read_16 (v := 0) (by decide) ?_
  refine m2_putI hB dX7_read_17 fl_X7_46 sh_kE rfl ?_
  refine m2_aload_n hB dX7_read_20 rfl ?_
  refine m2_iconst hB dX7_read_21 (v := 0) (by decide) ?_
  refine m2_putI hB dX7_read_22 fl_X7_49 sh_kE rfl ?_
  refine m2_aload_n hB dX7_read_25 rfl ?_
  refine m2_iconst hB dX7_read_26 (v := 0) (by decide) ?_
  refine m2_putI hB dX7_read_27 fl_X7_52 sh_kE rfl ?_
  refine m2_aload_n hB dX7_read_30 rfl ?_
  refine m2_getR hB dX7_read_31 fl_X7_19 sh_kE (c1 := kE_compared) rfl ?_
  refine m2_iconst hB dX7_read_34 (v := 0) (by decide) ?_
  refine m2_iconst hB dX7_read_35 (v := 0) (by decide) ?_
  refine m2_zast hB dX7_read_36 sh_kE_compared (vp_in_iff.mpr ⟨by decide, by decide⟩) ?_
  refine m2_aload_n hB dX7_read_37 rfl ?_
  refine m2_aload_n hB dX7_read_38 rfl ?_
  refine m2_getI hB dX7_read_39 fl_X7_39 sh_kE rfl ?_
  have G3 : κ 50 [.ref kE, .int x1, .null, .null] [.int (if (m2_min x1 40) ≤ 0 then 0 else 1 : Int32), .ref kE] (m2_si (m2_si (m2_si (m2_si (m2_si (m2_si μ kE 10 (m2_min x1 40)) kE 11 0) kE 5 0) kE 7 0) kE 9 0) kE_compared ((0 : Int32)).toNatClampNeg (vp_nar .boolean 0)) := by
    refine m2_putZ hB (by (repeat' split) <;> first | exact Or.inl rfl | exact Or.inr rfl) dX7_read_50 fl_X7_55 sh_kE rfl ?_
    refine m2_iconst hB dX7_read_53 (v := 1) (by decide) ?_
    refine m2_istore_n hB (ls' := [.ref kE, .int x1, .int 1, .null]) dX7_read_54 rfl (by decide) rfl ?_
    refine m2_iconst hB dX7_read_55 (v := 0) (by decide) ?_
    refine m2_istore_n hB (ls' := [.ref kE, .int x1, .int 1, .int 0]) dX7_read_56 rfl (by decide) rfl ?_
    exact k
  refine m2_if_le hB dX7_read_42 (tgt := 49) (by decide) (fun q2 : (m2_min x1 40) ≤ 0 => ?_) (fun q2 : ¬ (m2_min x1 40) ≤ 0 => ?_)
  · rw [if_pos q2] at G3
    refine m2_iconst hB dX7_read_49 (v := 0) (by decide) ?_
    exact G3
  · rw [if_neg q2] at G3
    refine m2_iconst hB dX7_read_45 (v := 1) (by decide) ?_
    refine m2_goto hB dX7_read_46 (tgt := 50) (by decide) ?_
    exact G3
set_option maxRecDepth 100000 in
set_option maxHeartbeats 4000000 in
theorem B_X7_read_57 {κ : Nat → List Value → List Value → m2M → Prop} {D : Nat} {Q : Option Value → m2M → Prop} (h : m2_RL κ cX7_read RX7 4 (D + 1) (some .int) Q) {v1 : Int32} {v2 : Int32} {v3 : Int32} {μ : m2M} (k : (40 ≤ v3 → κ 121 [.ref kE, .int v1, .int v2, .int v3] [] μ) ∧ (¬ 40 ≤ v3 → (v2 = 0 → κ 121 [.ref kE, .int v1, .int v2, .int v3] [] μ) ∧ (¬ v2 = 0 → ((μ.1 kE 10) ≤ (μ.1 kE 11) → κ 121 [.ref kE, .int v1, .int v2, .int v3] [] μ) ∧ (¬ (μ.1 kE 10) ≤ (μ.1 kE 11) → ((μ.1 kE 12) = 0 → (vp_in (μ.1 kE 11) 80) ∧ (∃ Q12 : Option Value → m2M → Prop, m2_MT D yX7_readJoint cX7_readJoint 3 (some .boolean) [.ref kE, .int (μ.1 kC_text ((μ.1 kE 11)).toNatClampNeg)] μ Q12 ∧ ∀ (y10 : Int32) (μ11 : m2M), Q12 (some (.int y10)) μ11 → (κ 57 [.ref kE, .int v1, .int y10, .int (v3 + 1)] [] μ11))) ∧ (¬ (μ.1 kE 12) = 0 → (vp_in (μ.1 kE 11) 80) ∧ (∃ Q18 : Option Value → m2M → Prop, m2_MT D yX7_readThing cX7_readThing 3 (some .boolean) [.ref kE, .int (μ.1 kC_text ((μ.1 kE 11)).toNatClampNeg)] μ Q18 ∧ ∀ (y16 : Int32) (μ17 : m2M), Q18 (some (.int y16)) μ17 → (κ 57 [.ref kE, .int v1, .int y16, .int (v3 + 1)] [] μ17))))))) : κ 57 [.ref kE, .int v1, .int v2, .int v3] [] μ := by
  have hB := h.b
  refine m2_iload_n hB dX7_read_57 rfl ?_
  refine m2_bipush hB dX7_read_58 (v := 40) (by decide) ?_
  refine m2_icmp_ge hB dX7_read_60 (tgt := 121) (by decide) (fun q2 : 40 ≤ v3 => ?_) (fun q2 : ¬ 40 ≤ v3 => ?_)
  · replace k := k.1 q2
    exact k
  · replace k := k.2 q2
    refine m2_iload_n hB dX7_read_63 rfl ?_
    refine m2_if_eq hB dX7_read_64 (tgt := 121) (by decide) (fun q4 : v2 = 0 => ?_) (fun q4 : ¬ v2 = 0 => ?_)
    · replace k := k.1 q4
      exact k
    · replace k := k.2 q4
      refine m2_aload_n hB dX7_read_67 rfl ?_
      refine m2_getI hB dX7_read_68 fl_X7_43 sh_kE rfl ?_
      refine m2_aload_n hB dX7_read_71 rfl ?_
      refine m2_getI hB dX7_read_72 fl_X7_39 sh_kE rfl ?_
      refine m2_icmp_ge hB dX7_read_75 (tgt := 121) (by decide) (fun q6 : (μ.1 kE 10) ≤ (μ.1 kE 11) => ?_) (fun q6 : ¬ (μ.1 kE 10) ≤ (μ.1 kE 11) => ?_)
      · replace k := k.1 q6
        exact k
      · replace k := k.2 q6
        refine m2_aload_n hB dX7_read_78 rfl ?_
        refine m2_getI hB dX7_read_79 fl_X7_55 sh_kE rfl ?_
        refine m2_if_eq hB dX7_read_82 (tgt := 101) (by decide) (fun q8 : (μ.1 kE 12) = 0 => ?_) (fun q8 : ¬ (μ.1 kE 12) = 0 => ?_)
        · replace k := k.1 q8
          refine m2_aload_n hB dX7_read_101 rfl ?_
          refine m2_aload_n hB dX7_read_102 rfl ?_
          refine m2_getR hB dX7_read_103 fl_X7_29 sh_kE (c1 := kC_text) rfl ?_
          refine m2_aload_n hB dX7_read_106 rfl ?_
          refine m2_getI hB dX7_read_107 fl_X7_43 sh_kE rfl ?_
          obtain ⟨hi9, k⟩ := k
          refine m2_cald hB dX7_read_110 sh_kC_text hi9 ?_
          obtain ⟨Q12, hM13, k⟩ := k
          refine m2_invz hB (as := [.int (μ.1 kC_text ((μ.1 kE 11)).toNatClampNeg)]) dX7_read_111 mv_X7_63 rfl sh_kE rfl (Nat.le_of_ble_eq_true rfl) rfl hM13 (fun y10 μ11 hq14 => ?_)
          replace k := k y10 μ11 hq14
          refine m2_istore_n hB (ls' := [.ref kE, .int v1, .int y10, .int v3]) dX7_read_114 rfl (by decide) rfl ?_
          refine m2_iinc hB (ls' := [.ref kE, .int v1, .int y10, .int (v3 + 1)]) (v := (v3 + 1)) dX7_read_115 rfl (by decide) rfl rfl ?_
          refine m2_goto hB dX7_read_118 (tgt := 57) (by decide) ?_
          exact k
        · replace k := k.2 q8
          refine m2_aload_n hB dX7_read_85 rfl ?_
          refine m2_aload_n hB dX7_read_86 rfl ?_
          refine m2_getR hB dX7_read_87 fl_X7_29 sh_kE (c1 := kC_text) rfl ?_
          refine m2_aload_n hB dX7_read_90 rfl ?_
          refine m2_getI hB dX7_read_91 fl_X7_43 sh_kE rfl ?_
          obtain ⟨hi15, k⟩ := k
          refine m2_cald hB dX7_read_94 sh_kC_text hi15 ?_
          obtain ⟨Q18, hM19, k⟩ := k
          refine m2_invz hB (as := [.int (μ.1 kC_text ((μ.1 kE 11)).toNatClampNeg)]) dX7_read_95 mv_X7_59 rfl sh_kE rfl (Nat.le_of_ble_eq_true rfl) rfl hM19 (fun y16 μ17 hq20 => ?_)
          replace k := k y16 μ17 hq20
          refine m2_goto hB dX7_read_98 (tgt := 114) (by decide) ?_
          refine m2_istore_n hB (ls' := [.ref kE, .int v1, .int y16, .int v3]) dX7_read_114 rfl (by decide) rfl ?_
          refine m2_iinc hB (ls' := [.ref kE, .int v1, .int y16, .int (v3 + 1)]) (v := (v3 + 1)) dX7_read_115 rfl (by decide) rfl rfl ?_
          refine m2_goto hB dX7_read_118 (tgt := 57) (by decide) ?_
          exact k
set_option maxRecDepth 100000 in
set_option maxHeartbeats 4000000 in
theorem B_X7_read_121 {κ : Nat → List Value → List Value → m2M → Prop} {D : Nat} {Q : Option Value → m2M → Prop} (h : m2_RL κ cX7_read RX7 4 (D + 1) (some .int) Q) {v1 : Int32} {v2 : Int32} {v3 : Int32} {μ : m2M} (k : (v2 = 0 → κ 145 [.ref kE, .int v1, .int v2, .int v3] [] μ) ∧ (¬ v2 = 0 → (40 < v1 → κ 145 [.ref kE, .int v1, .int v2, .int v3] [] μ) ∧ (¬ 40 < v1 → (¬ (μ.1 kE 12) = 0 → κ 145 [.ref kE, .int v1, .int v2, .int v3] [] μ) ∧ ((μ.1 kE 12) = 0 → ((μ.1 kE 9) ≤ 0 → ∃ Q7 : Option Value → m2M → Prop, m2_MT D yX7_release cX7_release 2 none [.ref kE, .int 1] μ Q7 ∧ ∀ (μ6 : m2M), Q7 none μ6 → (∃ Q12 : Option Value → m2M → Prop, m2_MT D yX7_adopt cX7_adopt 2 none [.ref kE] μ6 Q12 ∧ ∀ (μ11 : m2M), Q12 none μ11 → (Q (some (.int 0)) μ11))) ∧ (¬ (μ.1 kE 9) ≤ 0 → κ 145 [.ref kE, .int v1, .int v2, .int v3] [] μ))))) : κ 121 [.ref kE, .int v1, .int v2, .int v3] [] μ := by
  have hB := h.b
  refine m2_iload_n hB dX7_read_121 rfl ?_
  refine m2_if_eq hB dX7_read_122 (tgt := 145) (by decide) (fun q1 : v2 = 0 => ?_) (fun q1 : ¬ v2 = 0 => ?_)
  · replace k := k.1 q1
    exact k
  · replace k := k.2 q1
    refine m2_iload_n hB dX7_read_125 rfl ?_
    refine m2_bipush hB dX7_read_126 (v := 40) (by decide) ?_
    refine m2_icmp_gt hB dX7_read_128 (tgt := 145) (by decide) (fun q2 : 40 < v1 => ?_) (fun q2 : ¬ 40 < v1 => ?_)
    · replace k := k.1 q2
      exact k
    · replace k := k.2 q2
      refine m2_aload_n hB dX7_read_131 rfl ?_
      refine m2_getI hB dX7_read_132 fl_X7_55 sh_kE rfl ?_
      refine m2_if_ne hB dX7_read_135 (tgt := 145) (by decide) (fun q3 : ¬ (μ.1 kE 12) = 0 => ?_) (fun q3 : (μ.1 kE 12) = 0 => ?_)
      · replace k := k.1 q3
        exact k
      · replace k := k.2 q3
        refine m2_aload_n hB dX7_read_138 rfl ?_
        refine m2_getI hB dX7_read_139 fl_X7_52 sh_kE rfl ?_
        refine m2_if_le hB dX7_read_142 (tgt := 152) (by decide) (fun q4 : (μ.1 kE 9) ≤ 0 => ?_) (fun q4 : ¬ (μ.1 kE 9) ≤ 0 => ?_)
        · replace k := k.1 q4
          refine m2_aload_n hB dX7_read_152 rfl ?_
          refine m2_iconst hB dX7_read_153 (v := 1) (by decide) ?_
          obtain ⟨Q7, hM8, k⟩ := k
          refine m2_invv hB (as := [.int 1]) dX7_read_154 mv_X7_66 rfl sh_kE rfl (Nat.le_of_ble_eq_true rfl) rfl hM8 (fun μ6 hq9 => ?_)
          replace k := k μ6 hq9
          refine m2_aload_n hB dX7_read_157 rfl ?_
          obtain ⟨Q12, hM13, k⟩ := k
          refine m2_invv hB (as := []) dX7_read_158 mv_X7_70 rfl sh_kE rfl (Nat.le_of_ble_eq_true rfl) rfl hM13 (fun μ11 hq14 => ?_)
          replace k := k μ11 hq14
          refine m2_iconst hB dX7_read_161 (v := 0) (by decide) ?_
          exact m2_iret h dX7_read_162 k
        · replace k := k.2 q4
          exact k
set_option maxRecDepth 100000 in
set_option maxHeartbeats 4000000 in
theorem B_X7_read_145 {κ : Nat → List Value → List Value → m2M → Prop} {D : Nat} {Q : Option Value → m2M → Prop} (h : m2_RL κ cX7_read RX7 4 D (some .int) Q) {v1 : Int32} {v2 : Int32} {v3 : Int32} {μ : m2M} (k : Q (some (.int (((-1) : Int32) - (μ.1 kE 11)))) μ) : κ 145 [.ref kE, .int v1, .int v2, .int v3] [] μ := by
  have hB := h.b
  refine m2_iconst hB dX7_read_145 (v := (-1)) (by decide) ?_
  refine m2_aload_n hB dX7_read_146 rfl ?_
  refine m2_getI hB dX7_read_147 fl_X7_43 sh_kE rfl ?_
  refine m2_isub hB dX7_read_150 ?_
  exact m2_iret h dX7_read_151 k
theorem dX7_adopt_0 : decode cX7_adopt 0 = .ok (.aload_n 0, 1) := by decide +kernel
theorem dX7_adopt_1 : decode cX7_adopt 1 = .ok (.iconst 0, 1) := by decide +kernel
theorem dX7_adopt_2 : decode cX7_adopt 2 = .ok (.putfield 73, 3) := by decide +kernel
theorem dX7_adopt_5 : decode cX7_adopt 5 = .ok (.iconst 0, 1) := by decide +kernel
theorem dX7_adopt_6 : decode cX7_adopt 6 = .ok (.istore_n 1, 1) := by decide +kernel
theorem dX7_adopt_7 : decode cX7_adopt 7 = .ok (.iload_n 1, 1) := by decide +kernel
theorem dX7_adopt_8 : decode cX7_adopt 8 = .ok (.aload_n 0, 1) := by decide +kernel
theorem dX7_adopt_9 : decode cX7_adopt 9 = .ok (.getfield 46, 3) := by decide +kernel
theorem dX7_adopt_12 : decode cX7_adopt 12 = .ok (.if_icmp .ge 46, 3) := by decide +kernel
theorem dX7_adopt_15 : decode cX7_adopt 15 = .ok (.aload_n 0, 1) := by decide +kernel
theorem dX7_adopt_16 : decode cX7_adopt 16 = .ok (.getfield 9, 3) := by decide +kernel
theorem dX7_adopt_19 : decode cX7_adopt 19 = .ok (.iload_n 1, 1) := by decide +kernel
theorem dX7_adopt_20 : decode cX7_adopt 20 = .ok (.aload_n 0, 1) := by decide +kernel
theorem dX7_adopt_21 : decode cX7_adopt 21 = .ok (.getfield 13, 3) := by decide +kernel
theorem dX7_adopt_24 : decode cX7_adopt 24 = .ok (.iload_n 1, 1) := by decide +kernel
theorem dX7_adopt_25 : decode cX7_adopt 25 = .ok (.iaload, 1) := by decide +kernel
theorem dX7_adopt_26 : decode cX7_adopt 26 = .ok (.iastore, 1) := by decide +kernel
theorem dX7_adopt_27 : decode cX7_adopt 27 = .ok (.aload_n 0, 1) := by decide +kernel
theorem dX7_adopt_28 : decode cX7_adopt 28 = .ok (.dup, 1) := by decide +kernel
theorem dX7_adopt_29 : decode cX7_adopt 29 = .ok (.getfield 73, 3) := by decide +kernel
theorem dX7_adopt_32 : decode cX7_adopt 32 = .ok (.aload_n 0, 1) := by decide +kernel
theorem dX7_adopt_33 : decode cX7_adopt 33 = .ok (.getfield 13, 3) := by decide +kernel
theorem dX7_adopt_36 : decode cX7_adopt 36 = .ok (.iload_n 1, 1) := by decide +kernel
theorem dX7_adopt_37 : decode cX7_adopt 37 = .ok (.iaload, 1) := by decide +kernel
theorem dX7_adopt_38 : decode cX7_adopt 38 = .ok (.bipush (-6), 2) := by decide +kernel
theorem dX7_adopt_40 : decode cX7_adopt 40 = .ok (.if_icmp .ne 7, 3) := by decide +kernel
theorem dX7_adopt_43 : decode cX7_adopt 43 = .ok (.iconst 1, 1) := by decide +kernel
theorem dX7_adopt_44 : decode cX7_adopt 44 = .ok (.goto 4, 3) := by decide +kernel
theorem dX7_adopt_47 : decode cX7_adopt 47 = .ok (.iconst 0, 1) := by decide +kernel
theorem dX7_adopt_48 : decode cX7_adopt 48 = .ok (.ior, 1) := by decide +kernel
theorem dX7_adopt_49 : decode cX7_adopt 49 = .ok (.putfield 73, 3) := by decide +kernel
theorem dX7_adopt_52 : decode cX7_adopt 52 = .ok (.iinc 1 1, 3) := by decide +kernel
theorem dX7_adopt_55 : decode cX7_adopt 55 = .ok (.goto (-48), 3) := by decide +kernel
theorem dX7_adopt_58 : decode cX7_adopt 58 = .ok (.aload_n 0, 1) := by decide +kernel
theorem dX7_adopt_59 : decode cX7_adopt 59 = .ok (.aload_n 0, 1) := by decide +kernel
theorem dX7_adopt_60 : decode cX7_adopt 60 = .ok (.getfield 46, 3) := by decide +kernel
theorem dX7_adopt_63 : decode cX7_adopt 63 = .ok (.putfield 76, 3) := by decide +kernel
theorem dX7_adopt_66 : decode cX7_adopt 66 = .ok (.return_, 1) := by decide +kernel
set_option maxRecDepth 100000 in
set_option maxHeartbeats 4000000 in
theorem B_X7_adopt_0 {κ : Nat → List Value → List Value → m2M → Prop} {D : Nat} {Q : Option Value → m2M → Prop} (h : m2_RL κ cX7_adopt RX7 2 D none Q)  {μ : m2M} (k : κ 7 [.ref kE, .int 0] [] (m2_si μ kE 3 0)) : κ 0 [.ref kE, .null] [] μ := by
  have hB := h.b
  refine m2_aload_n hB dX7_adopt_0 rfl ?_
  refine m2_iconst hB dX7_adopt_1 (v := 0) (by decide) ?_
  refine m2_putZ hB (Or.inl rfl) dX7_adopt_2 fl_X7_73 sh_kE rfl ?_
  refine m2_iconst hB dX7_adopt_5 (v := 0) (by decide) ?_
  refine m2_istore_n hB (ls' := [.ref kE, .int 0]) dX7_adopt_6 rfl (by decide) rfl ?_
  exact k
set_option maxRecDepth 100000 in
set_option maxHeartbeats 4000000 in
theorem B_X7_adopt_7 {κ : Nat → List Value → List Value → m2M → Prop} {D : Nat} {Q : Option Value → m2M → Prop} (h : m2_RL κ cX7_adopt RX7 2 D none Q) {v1 : Int32} {μ : m2M} (k : ((μ.1 kE 5) ≤ v1 → Q none (m2_si μ kE 2 (μ.1 kE 5))) ∧ (¬ (μ.1 kE 5) ≤ v1 → (vp_in v1 40) ∧ (((((μ.1 kE 3) ||| (if (μ.1 kE_draft (v1).toNatClampNeg) = (-6) then 1 else 0 : Int32)) = 0 ∨ ((μ.1 kE 3) ||| (if (μ.1 kE_draft (v1).toNatClampNeg) = (-6) then 1 else 0 : Int32)) = 1)) ∧ (κ 7 [.ref kE, .int (v1 + 1)] [] (m2_si (m2_si μ kE_code (v1).toNatClampNeg (μ.1 kE_draft (v1).toNatClampNeg)) kE 3 ((μ.1 kE 3) ||| (if (μ.1 kE_draft (v1).toNatClampNeg) = (-6) then 1 else 0 : Int32))))))) : κ 7 [.ref kE, .int v1] [] μ := by
  have hB := h.b
  refine m2_iload_n hB dX7_adopt_7 rfl ?_
  refine m2_aload_n hB dX7_adopt_8 rfl ?_
  refine m2_getI hB dX7_adopt_9 fl_X7_46 sh_kE rfl ?_
  refine m2_icmp_ge hB dX7_adopt_12 (tgt := 58) (by decide) (fun q2 : (μ.1 kE 5) ≤ v1 => ?_) (fun q2 : ¬ (μ.1 kE 5) ≤ v1 => ?_)
  · replace k := k.1 q2
    refine m2_aload_n hB dX7_adopt_58 rfl ?_
    refine m2_aload_n hB dX7_adopt_59 rfl ?_
    refine m2_getI hB dX7_adopt_60 fl_X7_46 sh_kE rfl ?_
    refine m2_putI hB dX7_adopt_63 fl_X7_76 sh_kE rfl ?_
    exact m2_vret h dX7_adopt_66 k
  · replace k := k.2 q2
    refine m2_aload_n hB dX7_adopt_15 rfl ?_
    refine m2_getR hB dX7_adopt_16 fl_X7_9 sh_kE (c1 := kE_code) rfl ?_
    refine m2_iload_n hB dX7_adopt_19 rfl ?_
    refine m2_aload_n hB dX7_adopt_20 rfl ?_
    refine m2_getR hB dX7_adopt_21 fl_X7_13 sh_kE (c1 := kE_draft) rfl ?_
    refine m2_iload_n hB dX7_adopt_24 rfl ?_
    obtain ⟨hi3, k⟩ := k
    refine m2_iald hB dX7_adopt_25 sh_kE_draft hi3 ?_
    have hi4 := hi3
    refine m2_iast hB dX7_adopt_26 sh_kE_code hi4 ?_
    refine m2_aload_n hB dX7_adopt_27 rfl ?_
    refine m2_dup hB dX7_adopt_28 rfl ?_
    refine m2_getI hB dX7_adopt_29 fl_X7_73 sh_kE rfl ?_
    refine m2_aload_n hB dX7_adopt_32 rfl ?_
    refine m2_getR hB dX7_adopt_33 fl_X7_13 sh_kE (c1 := kE_draft) rfl ?_
    refine m2_iload_n hB dX7_adopt_36 rfl ?_
    have hi5 := hi3
    refine m2_iald hB dX7_adopt_37 sh_kE_draft hi5 ?_
    refine m2_bipush hB dX7_adopt_38 (v := (-6)) (by decide) ?_
    have G7 : κ 48 [.ref kE, .int v1] [.int (if (μ.1 kE_draft (v1).toNatClampNeg) = (-6) then 1 else 0 : Int32), .int (μ.1 kE 3), .ref kE] (m2_si μ kE_code (v1).toNatClampNeg (μ.1 kE_draft (v1).toNatClampNeg)) := by
      refine m2_ior hB dX7_adopt_48 ?_
      obtain ⟨hz8, k⟩ := k
      refine m2_putZ hB hz8 dX7_adopt_49 fl_X7_73 sh_kE rfl ?_
      refine m2_iinc hB (ls' := [.ref kE, .int (v1 + 1)]) (v := (v1 + 1)) dX7_adopt_52 rfl (by decide) rfl rfl ?_
      refine m2_goto hB dX7_adopt_55 (tgt := 7) (by decide) ?_
      exact k
    refine m2_icmp_ne hB dX7_adopt_40 (tgt := 47) (by decide) (fun q6 : ¬ (μ.1 kE_draft (v1).toNatClampNeg) = (-6) => ?_) (fun q6 : (μ.1 kE_draft (v1).toNatClampNeg) = (-6) => ?_)
    · rw [if_neg q6] at G7
      refine m2_iconst hB dX7_adopt_47 (v := 0) (by decide) ?_
      exact G7
    · rw [if_pos q6] at G7
      refine m2_iconst hB dX7_adopt_43 (v := 1) (by decide) ?_
      refine m2_goto hB dX7_adopt_44 (tgt := 48) (by decide) ?_
      exact G7
theorem dX7_readNumber_0 : decode cX7_readNumber 0 = .ok (.iconst 0, 1) := by decide +kernel
theorem dX7_readNumber_1 : decode cX7_readNumber 1 = .ok (.istore_n 1, 1) := by decide +kernel
theorem dX7_readNumber_2 : decode cX7_readNumber 2 = .ok (.iconst 0, 1) := by decide +kernel
theorem dX7_readNumber_3 : decode cX7_readNumber 3 = .ok (.istore_n 2, 1) := by decide +kernel
theorem dX7_readNumber_4 : decode cX7_readNumber 4 = .ok (.iload_n 2, 1) := by decide +kernel
theorem dX7_readNumber_5 : decode cX7_readNumber 5 = .ok (.iconst 3, 1) := by decide +kernel
theorem dX7_readNumber_6 : decode cX7_readNumber 6 = .ok (.if_icmp .ge 63, 3) := by decide +kernel
theorem dX7_readNumber_9 : decode cX7_readNumber 9 = .ok (.aload_n 0, 1) := by decide +kernel
theorem dX7_readNumber_10 : decode cX7_readNumber 10 = .ok (.getfield 43, 3) := by decide +kernel
theorem dX7_readNumber_13 : decode cX7_readNumber 13 = .ok (.aload_n 0, 1) := by decide +kernel
theorem dX7_readNumber_14 : decode cX7_readNumber 14 = .ok (.getfield 39, 3) := by decide +kernel
theorem dX7_readNumber_17 : decode cX7_readNumber 17 = .ok (.if_icmp .ge 52, 3) := by decide +kernel
theorem dX7_readNumber_20 : decode cX7_readNumber 20 = .ok (.aload_n 0, 1) := by decide +kernel
theorem dX7_readNumber_21 : decode cX7_readNumber 21 = .ok (.getfield 29, 3) := by decide +kernel
theorem dX7_readNumber_24 : decode cX7_readNumber 24 = .ok (.aload_n 0, 1) := by decide +kernel
theorem dX7_readNumber_25 : decode cX7_readNumber 25 = .ok (.getfield 43, 3) := by decide +kernel
theorem dX7_readNumber_28 : decode cX7_readNumber 28 = .ok (.caload, 1) := by decide +kernel
theorem dX7_readNumber_29 : decode cX7_readNumber 29 = .ok (.invokestatic 79, 3) := by decide +kernel
theorem dX7_readNumber_32 : decode cX7_readNumber 32 = .ok (.ifCond .eq 37, 3) := by decide +kernel
theorem dX7_readNumber_35 : decode cX7_readNumber 35 = .ok (.iload_n 1, 1) := by decide +kernel
theorem dX7_readNumber_36 : decode cX7_readNumber 36 = .ok (.bipush 10, 2) := by decide +kernel
theorem dX7_readNumber_38 : decode cX7_readNumber 38 = .ok (.imul, 1) := by decide +kernel
theorem dX7_readNumber_39 : decode cX7_readNumber 39 = .ok (.aload_n 0, 1) := by decide +kernel
theorem dX7_readNumber_40 : decode cX7_readNumber 40 = .ok (.getfield 29, 3) := by decide +kernel
theorem dX7_readNumber_43 : decode cX7_readNumber 43 = .ok (.aload_n 0, 1) := by decide +kernel
theorem dX7_readNumber_44 : decode cX7_readNumber 44 = .ok (.getfield 43, 3) := by decide +kernel
theorem dX7_readNumber_47 : decode cX7_readNumber 47 = .ok (.caload, 1) := by decide +kernel
theorem dX7_readNumber_48 : decode cX7_readNumber 48 = .ok (.bipush 48, 2) := by decide +kernel
theorem dX7_readNumber_50 : decode cX7_readNumber 50 = .ok (.isub, 1) := by decide +kernel
theorem dX7_readNumber_51 : decode cX7_readNumber 51 = .ok (.iadd, 1) := by decide +kernel
theorem dX7_readNumber_52 : decode cX7_readNumber 52 = .ok (.istore_n 1, 1) := by decide +kernel
theorem dX7_readNumber_53 : decode cX7_readNumber 53 = .ok (.aload_n 0, 1) := by decide +kernel
theorem dX7_readNumber_54 : decode cX7_readNumber 54 = .ok (.dup, 1) := by decide +kernel
theorem dX7_readNumber_55 : decode cX7_readNumber 55 = .ok (.getfield 43, 3) := by decide +kernel
theorem dX7_readNumber_58 : decode cX7_readNumber 58 = .ok (.iconst 1, 1) := by decide +kernel
theorem dX7_readNumber_59 : decode cX7_readNumber 59 = .ok (.iadd, 1) := by decide +kernel
theorem dX7_readNumber_60 : decode cX7_readNumber 60 = .ok (.putfield 43, 3) := by decide +kernel
theorem dX7_readNumber_63 : decode cX7_readNumber 63 = .ok (.iinc 2 1, 3) := by decide +kernel
theorem dX7_readNumber_66 : decode cX7_readNumber 66 = .ok (.goto (-62), 3) := by decide +kernel
theorem dX7_readNumber_69 : decode cX7_readNumber 69 = .ok (.iload_n 1, 1) := by decide +kernel
theorem dX7_readNumber_70 : decode cX7_readNumber 70 = .ok (.ireturn, 1) := by decide +kernel
set_option maxRecDepth 100000 in
set_option maxHeartbeats 4000000 in
theorem B_X7_readNumber_0 {κ : Nat → List Value → List Value → m2M → Prop} {D : Nat} {Q : Option Value → m2M → Prop} (h : m2_RL κ cX7_readNumber RX7 3 D (some .int) Q)  {μ : m2M} (k : κ 4 [.ref kE, .int 0, .int 0] [] μ) : κ 0 [.ref kE, .null, .null] [] μ := by
  have hB := h.b
  refine m2_iconst hB dX7_readNumber_0 (v := 0) (by decide) ?_
  refine m2_istore_n hB (ls' := [.ref kE, .int 0, .null]) dX7_readNumber_1 rfl (by decide) rfl ?_
  refine m2_iconst hB dX7_readNumber_2 (v := 0) (by decide) ?_
  refine m2_istore_n hB (ls' := [.ref kE, .int 0, .int 0]) dX7_readNumber_3 rfl (by decide) rfl ?_
  exact k
set_option maxRecDepth 100000 in
set_option maxHeartbeats 4000000 in
theorem B_X7_readNumber_4 {κ : Nat → List Value → List Value → m2M → Prop} {D : Nat} {Q : Option Value → m2M → Prop} (h : m2_RL κ cX7_readNumber RX7 3 (D + 1) (some .int) Q) (hD : 0 ≤ D) {v1 : Int32} {v2 : Int32} {μ : m2M} (k : (3 ≤ v2 → Q (some (.int v1)) μ) ∧ (¬ 3 ≤ v2 → ((μ.1 kE 10) ≤ (μ.1 kE 11) → Q (some (.int v1)) μ) ∧ (¬ (μ.1 kE 10) ≤ (μ.1 kE 11) → (vp_in (μ.1 kE 11) 80) ∧ (((fX11_isDigit (μ.1 kC_text ((μ.1 kE 11)).toNatClampNeg)) = 1 → κ 4 [.ref kE, .int ((v1 * (10 : Int32)) + ((μ.1 kC_text ((μ.1 kE 11)).toNatClampNeg) - 48)), .int (v2 + 1)] [] (m2_si μ kE 11 ((μ.1 kE 11) + 1))) ∧ (¬ (fX11_isDigit (μ.1 kC_text ((μ.1 kE 11)).toNatClampNeg)) = 1 → Q (some (.int v1)) μ))))) : κ 4 [.ref kE, .int v1, .int v2] [] μ := by
  have hB := h.b
  refine m2_iload_n hB dX7_readNumber_4 rfl ?_
  refine m2_iconst hB dX7_readNumber_5 (v := 3) (by decide) ?_
  refine m2_icmp_ge hB dX7_readNumber_6 (tgt := 69) (by decide) (fun q2 : 3 ≤ v2 => ?_) (fun q2 : ¬ 3 ≤ v2 => ?_)
  · replace k := k.1 q2
    refine m2_iload_n hB dX7_readNumber_69 rfl ?_
    exact m2_iret h dX7_readNumber_70 k
  · replace k := k.2 q2
    refine m2_aload_n hB dX7_readNumber_9 rfl ?_
    refine m2_getI hB dX7_readNumber_10 fl_X7_43 sh_kE rfl ?_
    refine m2_aload_n hB dX7_readNumber_13 rfl ?_
    refine m2_getI hB dX7_readNumber_14 fl_X7_39 sh_kE rfl ?_
    refine m2_icmp_ge hB dX7_readNumber_17 (tgt := 69) (by decide) (fun q4 : (μ.1 kE 10) ≤ (μ.1 kE 11) => ?_) (fun q4 : ¬ (μ.1 kE 10) ≤ (μ.1 kE 11) => ?_)
    · replace k := k.1 q4
      refine m2_iload_n hB dX7_readNumber_69 rfl ?_
      exact m2_iret h dX7_readNumber_70 k
    · replace k := k.2 q4
      refine m2_aload_n hB dX7_readNumber_20 rfl ?_
      refine m2_getR hB dX7_readNumber_21 fl_X7_29 sh_kE (c1 := kC_text) rfl ?_
      refine m2_aload_n hB dX7_readNumber_24 rfl ?_
      refine m2_getI hB dX7_readNumber_25 fl_X7_43 sh_kE rfl ?_
      obtain ⟨hi5, k⟩ := k
      refine m2_cald hB dX7_readNumber_28 sh_kC_text hi5 ?_
      refine m2_invNz hB (as := [.int (μ.1 kC_text ((μ.1 kE 11)).toNatClampNeg)]) dX7_readNumber_29 mn_X7_79 rfl (Nat.le_of_ble_eq_true rfl) rfl (P_X11_isDigit (by omega) ((μ.1 kC_text ((μ.1 kE 11)).toNatClampNeg)) _ ) (fun y6 μ7 hq8 => ?_)
      obtain ⟨⟨⟩, hq8⟩ := hq8
      subst μ7
      show κ 32 [.ref kE, .int v1, .int v2] [.int (if (fX11_isDigit (μ.1 kC_text ((μ.1 kE 11)).toNatClampNeg)) = 1 then 1 else 0 : Int32)] μ
      by_cases q9 : (fX11_isDigit (μ.1 kC_text ((μ.1 kE 11)).toNatClampNeg)) = 1
      · rw [if_pos q9]
        replace k := k.1 q9
        refine m2_if_eq hB dX7_readNumber_32 (tgt := 69) (by decide) (fun q => absurd q (by decide)) (fun _ => ?_)
        refine m2_iload_n hB dX7_readNumber_35 rfl ?_
        refine m2_bipush hB dX7_readNumber_36 (v := 10) (by decide) ?_
        refine m2_imul hB dX7_readNumber_38 ?_
        refine m2_aload_n hB dX7_readNumber_39 rfl ?_
        refine m2_getR hB dX7_readNumber_40 fl_X7_29 sh_kE (c1 := kC_text) rfl ?_
        refine m2_aload_n hB dX7_readNumber_43 rfl ?_
        refine m2_getI hB dX7_readNumber_44 fl_X7_43 sh_kE rfl ?_
        have hi10 := hi5
        refine m2_cald hB dX7_readNumber_47 sh_kC_text hi10 ?_
        refine m2_bipush hB dX7_readNumber_48 (v := 48) (by decide) ?_
        refine m2_isub hB dX7_readNumber_50 ?_
        refine m2_iadd hB dX7_readNumber_51 ?_
        refine m2_istore_n hB (ls' := [.ref kE, .int ((v1 * (10 : Int32)) + ((μ.1 kC_text ((μ.1 kE 11)).toNatClampNeg) - 48)), .int v2]) dX7_readNumber_52 rfl (by decide) rfl ?_
        refine m2_aload_n hB dX7_readNumber_53 rfl ?_
        refine m2_dup hB dX7_readNumber_54 rfl ?_
        refine m2_getI hB dX7_readNumber_55 fl_X7_43 sh_kE rfl ?_
        refine m2_iconst hB dX7_readNumber_58 (v := 1) (by decide) ?_
        refine m2_iadd hB dX7_readNumber_59 ?_
        refine m2_putI hB dX7_readNumber_60 fl_X7_43 sh_kE rfl ?_
        refine m2_iinc hB (ls' := [.ref kE, .int ((v1 * (10 : Int32)) + ((μ.1 kC_text ((μ.1 kE 11)).toNatClampNeg) - 48)), .int (v2 + 1)]) (v := (v2 + 1)) dX7_readNumber_63 rfl (by decide) rfl rfl ?_
        refine m2_goto hB dX7_readNumber_66 (tgt := 4) (by decide) ?_
        exact k
      · rw [if_neg q9]
        replace k := k.2 q9
        refine m2_if_eq hB dX7_readNumber_32 (tgt := 69) (by decide) (fun _ => ?_) (fun q => absurd q (by decide))
        refine m2_iload_n hB dX7_readNumber_69 rfl ?_
        exact m2_iret h dX7_readNumber_70 k
theorem dX7_readJoint_0 : decode cX7_readJoint 0 = .ok (.iload_n 1, 1) := by decide +kernel
theorem dX7_readJoint_1 : decode cX7_readJoint 1 = .ok (.bipush 41, 2) := by decide +kernel
theorem dX7_readJoint_3 : decode cX7_readJoint 3 = .ok (.if_icmp .ne 49, 3) := by decide +kernel
theorem dX7_readJoint_6 : decode cX7_readJoint 6 = .ok (.aload_n 0, 1) := by decide +kernel
theorem dX7_readJoint_7 : decode cX7_readJoint 7 = .ok (.getfield 52, 3) := by decide +kernel
theorem dX7_readJoint_10 : decode cX7_readJoint 10 = .ok (.ifCond .ne 5, 3) := by decide +kernel
theorem dX7_readJoint_13 : decode cX7_readJoint 13 = .ok (.iconst 0, 1) := by decide +kernel
theorem dX7_readJoint_14 : decode cX7_readJoint 14 = .ok (.ireturn, 1) := by decide +kernel
theorem dX7_readJoint_15 : decode cX7_readJoint 15 = .ok (.aload_n 0, 1) := by decide +kernel
theorem dX7_readJoint_16 : decode cX7_readJoint 16 = .ok (.iconst 1, 1) := by decide +kernel
theorem dX7_readJoint_17 : decode cX7_readJoint 17 = .ok (.invokevirtual 66, 3) := by decide +kernel
theorem dX7_readJoint_20 : decode cX7_readJoint 20 = .ok (.aload_n 0, 1) := by decide +kernel
theorem dX7_readJoint_21 : decode cX7_readJoint 21 = .ok (.dup, 1) := by decide +kernel
theorem dX7_readJoint_22 : decode cX7_readJoint 22 = .ok (.getfield 49, 3) := by decide +kernel
theorem dX7_readJoint_25 : decode cX7_readJoint 25 = .ok (.iconst 1, 1) := by decide +kernel
theorem dX7_readJoint_26 : decode cX7_readJoint 26 = .ok (.isub, 1) := by decide +kernel
theorem dX7_readJoint_27 : decode cX7_readJoint 27 = .ok (.putfield 49, 3) := by decide +kernel
theorem dX7_readJoint_30 : decode cX7_readJoint 30 = .ok (.aload_n 0, 1) := by decide +kernel
theorem dX7_readJoint_31 : decode cX7_readJoint 31 = .ok (.dup, 1) := by decide +kernel
theorem dX7_readJoint_32 : decode cX7_readJoint 32 = .ok (.getfield 52, 3) := by decide +kernel
theorem dX7_readJoint_35 : decode cX7_readJoint 35 = .ok (.iconst 1, 1) := by decide +kernel
theorem dX7_readJoint_36 : decode cX7_readJoint 36 = .ok (.isub, 1) := by decide +kernel
theorem dX7_readJoint_37 : decode cX7_readJoint 37 = .ok (.putfield 52, 3) := by decide +kernel
theorem dX7_readJoint_40 : decode cX7_readJoint 40 = .ok (.aload_n 0, 1) := by decide +kernel
theorem dX7_readJoint_41 : decode cX7_readJoint 41 = .ok (.dup, 1) := by decide +kernel
theorem dX7_readJoint_42 : decode cX7_readJoint 42 = .ok (.getfield 43, 3) := by decide +kernel
theorem dX7_readJoint_45 : decode cX7_readJoint 45 = .ok (.iconst 1, 1) := by decide +kernel
theorem dX7_readJoint_46 : decode cX7_readJoint 46 = .ok (.iadd, 1) := by decide +kernel
theorem dX7_readJoint_47 : decode cX7_readJoint 47 = .ok (.putfield 43, 3) := by decide +kernel
theorem dX7_readJoint_50 : decode cX7_readJoint 50 = .ok (.iconst 1, 1) := by decide +kernel
theorem dX7_readJoint_51 : decode cX7_readJoint 51 = .ok (.ireturn, 1) := by decide +kernel
theorem dX7_readJoint_52 : decode cX7_readJoint 52 = .ok (.iload_n 1, 1) := by decide +kernel
theorem dX7_readJoint_53 : decode cX7_readJoint 53 = .ok (.invokestatic 102, 3) := by decide +kernel
theorem dX7_readJoint_56 : decode cX7_readJoint 56 = .ok (.istore_n 2, 1) := by decide +kernel
theorem dX7_readJoint_57 : decode cX7_readJoint 57 = .ok (.iload_n 2, 1) := by decide +kernel
theorem dX7_readJoint_58 : decode cX7_readJoint 58 = .ok (.ifCond .eq 20, 3) := by decide +kernel
theorem dX7_readJoint_61 : decode cX7_readJoint 61 = .ok (.iload_n 2, 1) := by decide +kernel
theorem dX7_readJoint_62 : decode cX7_readJoint 62 = .ok (.iconst 1, 1) := by decide +kernel
theorem dX7_readJoint_63 : decode cX7_readJoint 63 = .ok (.if_icmp .ne 17, 3) := by decide +kernel
theorem dX7_readJoint_66 : decode cX7_readJoint 66 = .ok (.aload_n 0, 1) := by decide +kernel
theorem dX7_readJoint_67 : decode cX7_readJoint 67 = .ok (.getfield 19, 3) := by decide +kernel
theorem dX7_readJoint_70 : decode cX7_readJoint 70 = .ok (.aload_n 0, 1) := by decide +kernel
theorem dX7_readJoint_71 : decode cX7_readJoint 71 = .ok (.getfield 52, 3) := by decide +kernel
theorem dX7_readJoint_74 : decode cX7_readJoint 74 = .ok (.baload, 1) := by decide +kernel
theorem dX7_readJoint_75 : decode cX7_readJoint 75 = .ok (.ifCond .eq 5, 3) := by decide +kernel
theorem dX7_readJoint_78 : decode cX7_readJoint 78 = .ok (.iconst 0, 1) := by decide +kernel
theorem dX7_readJoint_79 : decode cX7_readJoint 79 = .ok (.ireturn, 1) := by decide +kernel
theorem dX7_readJoint_80 : decode cX7_readJoint 80 = .ok (.iload_n 2, 1) := by decide +kernel
theorem dX7_readJoint_81 : decode cX7_readJoint 81 = .ok (.iconst 1, 1) := by decide +kernel
theorem dX7_readJoint_82 : decode cX7_readJoint 82 = .ok (.if_icmp .ne 13, 3) := by decide +kernel
theorem dX7_readJoint_85 : decode cX7_readJoint 85 = .ok (.aload_n 0, 1) := by decide +kernel
theorem dX7_readJoint_86 : decode cX7_readJoint 86 = .ok (.getfield 19, 3) := by decide +kernel
theorem dX7_readJoint_89 : decode cX7_readJoint 89 = .ok (.aload_n 0, 1) := by decide +kernel
theorem dX7_readJoint_90 : decode cX7_readJoint 90 = .ok (.getfield 52, 3) := by decide +kernel
theorem dX7_readJoint_93 : decode cX7_readJoint 93 = .ok (.iconst 1, 1) := by decide +kernel
theorem dX7_readJoint_94 : decode cX7_readJoint 94 = .ok (.bastore, 1) := by decide +kernel
theorem dX7_readJoint_95 : decode cX7_readJoint 95 = .ok (.aload_n 0, 1) := by decide +kernel
theorem dX7_readJoint_96 : decode cX7_readJoint 96 = .ok (.iload_n 2, 1) := by decide +kernel
theorem dX7_readJoint_97 : decode cX7_readJoint 97 = .ok (.invokevirtual 66, 3) := by decide +kernel
theorem dX7_readJoint_100 : decode cX7_readJoint 100 = .ok (.aload_n 0, 1) := by decide +kernel
theorem dX7_readJoint_101 : decode cX7_readJoint 101 = .ok (.iload_n 1, 1) := by decide +kernel
theorem dX7_readJoint_102 : decode cX7_readJoint 102 = .ok (.invokevirtual 99, 3) := by decide +kernel
theorem dX7_readJoint_105 : decode cX7_readJoint 105 = .ok (.aload_n 0, 1) := by decide +kernel
theorem dX7_readJoint_106 : decode cX7_readJoint 106 = .ok (.iconst 1, 1) := by decide +kernel
theorem dX7_readJoint_107 : decode cX7_readJoint 107 = .ok (.putfield 55, 3) := by decide +kernel
theorem dX7_readJoint_110 : decode cX7_readJoint 110 = .ok (.aload_n 0, 1) := by decide +kernel
theorem dX7_readJoint_111 : decode cX7_readJoint 111 = .ok (.dup, 1) := by decide +kernel
theorem dX7_readJoint_112 : decode cX7_readJoint 112 = .ok (.getfield 43, 3) := by decide +kernel
theorem dX7_readJoint_115 : decode cX7_readJoint 115 = .ok (.iconst 1, 1) := by decide +kernel
theorem dX7_readJoint_116 : decode cX7_readJoint 116 = .ok (.iadd, 1) := by decide +kernel
theorem dX7_readJoint_117 : decode cX7_readJoint 117 = .ok (.putfield 43, 3) := by decide +kernel
theorem dX7_readJoint_120 : decode cX7_readJoint 120 = .ok (.iconst 1, 1) := by decide +kernel
theorem dX7_readJoint_121 : decode cX7_readJoint 121 = .ok (.ireturn, 1) := by decide +kernel
set_option maxRecDepth 100000 in
set_option maxHeartbeats 4000000 in
theorem B_X7_readJoint_0 {κ : Nat → List Value → List Value → m2M → Prop} {D : Nat} {Q : Option Value → m2M → Prop} (h : m2_RL κ cX7_readJoint RX7 3 (D + 1) (some .boolean) Q) {x1 : Int32} {μ : m2M} (k : (¬ x1 = 41 → ∃ Q4 : Option Value → m2M → Prop, m2_MT D yX7_rankOf cX7_rankOf 1 (some .int) [.int x1] μ Q4 ∧ ∀ (y2 : Int32) (μ3 : m2M), Q4 (some (.int y2)) μ3 → ((y2 = 0 → Q (some (.int 0)) μ3) ∧ (¬ y2 = 0 → (¬ y2 = 1 → (¬ y2 = 1 → ∃ Q13 : Option Value → m2M → Prop, m2_MT D yX7_release cX7_release 2 none [.ref kE, .int y2] μ3 Q13 ∧ ∀ (μ12 : m2M), Q13 none μ12 → (∃ Q18 : Option Value → m2M → Prop, m2_MT D yX7_hold cX7_hold 2 none [.ref kE, .int x1] μ12 Q18 ∧ ∀ (μ17 : m2M), Q18 none μ17 → (Q (some (.int 1)) (m2_si (m2_si μ17 kE 12 1) kE 11 ((μ17.1 kE 11) + 1))))) ∧ (y2 = 1 → (vp_in (μ3.1 kE 9) 5) ∧ (∃ Q24 : Option Value → m2M → Prop, m2_MT D yX7_release cX7_release 2 none [.ref kE, .int y2] (m2_si μ3 kE_compared ((μ3.1 kE 9)).toNatClampNeg (vp_nar .boolean 1)) Q24 ∧ ∀ (μ23 : m2M), Q24 none μ23 → (∃ Q29 : Option Value → m2M → Prop, m2_MT D yX7_hold cX7_hold 2 none [.ref kE, .int x1] μ23 Q29 ∧ ∀ (μ28 : m2M), Q29 none μ28 → (Q (some (.int 1)) (m2_si (m2_si μ28 kE 12 1) kE 11 ((μ28.1 kE 11) + 1))))))) ∧ (y2 = 1 → (vp_in (μ3.1 kE 9) 5) ∧ (((μ3.1 kE_compared ((μ3.1 kE 9)).toNatClampNeg) = 0 → (¬ y2 = 1 → ∃ Q38 : Option Value → m2M → Prop, m2_MT D yX7_release cX7_release 2 none [.ref kE, .int y2] μ3 Q38 ∧ ∀ (μ37 : m2M), Q38 none μ37 → (∃ Q43 : Option Value → m2M → Prop, m2_MT D yX7_hold cX7_hold 2 none [.ref kE, .int x1] μ37 Q43 ∧ ∀ (μ42 : m2M), Q43 none μ42 → (Q (some (.int 1)) (m2_si (m2_si μ42 kE 12 1) kE 11 ((μ42.1 kE 11) + 1))))) ∧ (y2 = 1 → ∃ Q49 : Option Value → m2M → Prop, m2_MT D yX7_release cX7_release 2 none [.ref kE, .int y2] (m2_si μ3 kE_compared ((μ3.1 kE 9)).toNatClampNeg (vp_nar .boolean 1)) Q49 ∧ ∀ (μ48 : m2M), Q49 none μ48 → (∃ Q54 : Option Value → m2M → Prop, m2_MT D yX7_hold cX7_hold 2 none [.ref kE, .int x1] μ48 Q54 ∧ ∀ (μ53 : m2M), Q54 none μ53 → (Q (some (.int 1)) (m2_si (m2_si μ53 kE 12 1) kE 11 ((μ53.1 kE 11) + 1)))))) ∧ (¬ (μ3.1 kE_compared ((μ3.1 kE 9)).toNatClampNeg) = 0 → Q (some (.int 0)) μ3)))))) ∧ (x1 = 41 → (¬ (μ.1 kE 9) = 0 → ∃ Q60 : Option Value → m2M → Prop, m2_MT D yX7_release cX7_release 2 none [.ref kE, .int 1] μ Q60 ∧ ∀ (μ59 : m2M), Q60 none μ59 → (Q (some (.int 1)) (m2_si (m2_si (m2_si μ59 kE 7 ((μ59.1 kE 7) - 1)) kE 9 ((μ59.1 kE 9) - 1)) kE 11 ((μ59.1 kE 11) + 1)))) ∧ ((μ.1 kE 9) = 0 → Q (some (.int 0)) μ))) : κ 0 [.ref kE, .int x1, .null] [] μ := by
  have hB := h.b
  refine m2_iload_n hB dX7_readJoint_0 rfl ?_
  refine m2_bipush hB dX7_readJoint_1 (v := 41) (by decide) ?_
  refine m2_icmp_ne hB dX7_readJoint_3 (tgt := 52) (by decide) (fun q1 : ¬ x1 = 41 => ?_) (fun q1 : x1 = 41 => ?_)
  · replace k := k.1 q1
    refine m2_iload_n hB dX7_readJoint_52 rfl ?_
    obtain ⟨Q4, hM5, k⟩ := k
    refine m2_invSi hB (as := [.int x1]) dX7_readJoint_53 ms_X7_102 rfl (Nat.le_of_ble_eq_true rfl) rfl hM5 (fun y2 μ3 hq6 => ?_)
    replace k := k y2 μ3 hq6
    refine m2_istore_n hB (ls' := [.ref kE, .int x1, .int y2]) dX7_readJoint_56 rfl (by decide) rfl ?_
    refine m2_iload_n hB dX7_readJoint_57 rfl ?_
    refine m2_if_eq hB dX7_readJoint_58 (tgt := 78) (by decide) (fun q7 : y2 = 0 => ?_) (fun q7 : ¬ y2 = 0 => ?_)
    · replace k := k.1 q7
      refine m2_iconst hB dX7_readJoint_78 (v := 0) (by decide) ?_
      exact m2_zret h dX7_readJoint_79 (Or.inl rfl) k
    · replace k := k.2 q7
      refine m2_iload_n hB dX7_readJoint_61 rfl ?_
      refine m2_iconst hB dX7_readJoint_62 (v := 1) (by decide) ?_
      refine m2_icmp_ne hB dX7_readJoint_63 (tgt := 80) (by decide) (fun q8 : ¬ y2 = 1 => ?_) (fun q8 : y2 = 1 => ?_)
      · replace k := k.1 q8
        refine m2_iload_n hB dX7_readJoint_80 rfl ?_
        refine m2_iconst hB dX7_readJoint_81 (v := 1) (by decide) ?_
        refine m2_icmp_ne hB dX7_readJoint_82 (tgt := 95) (by decide) (fun q10 : ¬ y2 = 1 => ?_) (fun q10 : y2 = 1 => ?_)
        · replace k := k.1 q10
          refine m2_aload_n hB dX7_readJoint_95 rfl ?_
          refine m2_iload_n hB dX7_readJoint_96 rfl ?_
          obtain ⟨Q13, hM14, k⟩ := k
          refine m2_invv hB (as := [.int y2]) dX7_readJoint_97 mv_X7_66 rfl sh_kE rfl (Nat.le_of_ble_eq_true rfl) rfl hM14 (fun μ12 hq15 => ?_)
          replace k := k μ12 hq15
          refine m2_aload_n hB dX7_readJoint_100 rfl ?_
          refine m2_iload_n hB dX7_readJoint_101 rfl ?_
          obtain ⟨Q18, hM19, k⟩ := k
          refine m2_invv hB (as := [.int x1]) dX7_readJoint_102 mv_X7_99 rfl sh_kE rfl (Nat.le_of_ble_eq_true rfl) rfl hM19 (fun μ17 hq20 => ?_)
          replace k := k μ17 hq20
          refine m2_aload_n hB dX7_readJoint_105 rfl ?_
          refine m2_iconst hB dX7_readJoint_106 (v := 1) (by decide) ?_
          refine m2_putZ hB (Or.inr rfl) dX7_readJoint_107 fl_X7_55 sh_kE rfl ?_
          refine m2_aload_n hB dX7_readJoint_110 rfl ?_
          refine m2_dup hB dX7_readJoint_111 rfl ?_
          refine m2_getI hB dX7_readJoint_112 fl_X7_43 sh_kE rfl ?_
          refine m2_iconst hB dX7_readJoint_115 (v := 1) (by decide) ?_
          refine m2_iadd hB dX7_readJoint_116 ?_
          refine m2_putI hB dX7_readJoint_117 fl_X7_43 sh_kE rfl ?_
          refine m2_iconst hB dX7_readJoint_120 (v := 1) (by decide) ?_
          exact m2_zret h dX7_readJoint_121 (Or.inr rfl) k
        · replace k := k.2 q10
          refine m2_aload_n hB dX7_readJoint_85 rfl ?_
          refine m2_getR hB dX7_readJoint_86 fl_X7_19 sh_kE (c1 := kE_compared) rfl ?_
          refine m2_aload_n hB dX7_readJoint_89 rfl ?_
          refine m2_getI hB dX7_readJoint_90 fl_X7_52 sh_kE rfl ?_
          refine m2_iconst hB dX7_readJoint_93 (v := 1) (by decide) ?_
          obtain ⟨hi21, k⟩ := k
          refine m2_zast hB dX7_readJoint_94 sh_kE_compared hi21 ?_
          refine m2_aload_n hB dX7_readJoint_95 rfl ?_
          refine m2_iload_n hB dX7_readJoint_96 rfl ?_
          obtain ⟨Q24, hM25, k⟩ := k
          refine m2_invv hB (as := [.int y2]) dX7_readJoint_97 mv_X7_66 rfl sh_kE rfl (Nat.le_of_ble_eq_true rfl) rfl hM25 (fun μ23 hq26 => ?_)
          replace k := k μ23 hq26
          refine m2_aload_n hB dX7_readJoint_100 rfl ?_
          refine m2_iload_n hB dX7_readJoint_101 rfl ?_
          obtain ⟨Q29, hM30, k⟩ := k
          refine m2_invv hB (as := [.int x1]) dX7_readJoint_102 mv_X7_99 rfl sh_kE rfl (Nat.le_of_ble_eq_true rfl) rfl hM30 (fun μ28 hq31 => ?_)
          replace k := k μ28 hq31
          refine m2_aload_n hB dX7_readJoint_105 rfl ?_
          refine m2_iconst hB dX7_readJoint_106 (v := 1) (by decide) ?_
          refine m2_putZ hB (Or.inr rfl) dX7_readJoint_107 fl_X7_55 sh_kE rfl ?_
          refine m2_aload_n hB dX7_readJoint_110 rfl ?_
          refine m2_dup hB dX7_readJoint_111 rfl ?_
          refine m2_getI hB dX7_readJoint_112 fl_X7_43 sh_kE rfl ?_
          refine m2_iconst hB dX7_readJoint_115 (v := 1) (by decide) ?_
          refine m2_iadd hB dX7_readJoint_116 ?_
          refine m2_putI hB dX7_readJoint_117 fl_X7_43 sh_kE rfl ?_
          refine m2_iconst hB dX7_readJoint_120 (v := 1) (by decide) ?_
          exact m2_zret h dX7_readJoint_121 (Or.inr rfl) k
      · replace k := k.2 q8
        refine m2_aload_n hB dX7_readJoint_66 rfl ?_
        refine m2_getR hB dX7_readJoint_67 fl_X7_19 sh_kE (c1 := kE_compared) rfl ?_
        refine m2_aload_n hB dX7_readJoint_70 rfl ?_
        refine m2_getI hB dX7_readJoint_71 fl_X7_52 sh_kE rfl ?_
        obtain ⟨hi32, k⟩ := k
        refine m2_zald hB dX7_readJoint_74 sh_kE_compared hi32 ?_
        refine m2_if_eq hB dX7_readJoint_75 (tgt := 80) (by decide) (fun q33 : (μ3.1 kE_compared ((μ3.1 kE 9)).toNatClampNeg) = 0 => ?_) (fun q33 : ¬ (μ3.1 kE_compared ((μ3.1 kE 9)).toNatClampNeg) = 0 => ?_)
        · replace k := k.1 q33
          refine m2_iload_n hB dX7_readJoint_80 rfl ?_
          refine m2_iconst hB dX7_readJoint_81 (v := 1) (by decide) ?_
          refine m2_icmp_ne hB dX7_readJoint_82 (tgt := 95) (by decide) (fun q35 : ¬ y2 = 1 => ?_) (fun q35 : y2 = 1 => ?_)
          · replace k := k.1 q35
            refine m2_aload_n hB dX7_readJoint_95 rfl ?_
            refine m2_iload_n hB dX7_readJoint_96 rfl ?_
            obtain ⟨Q38, hM39, k⟩ := k
            refine m2_invv hB (as := [.int y2]) dX7_readJoint_97 mv_X7_66 rfl sh_kE rfl (Nat.le_of_ble_eq_true rfl) rfl hM39 (fun μ37 hq40 => ?_)
            replace k := k μ37 hq40
            refine m2_aload_n hB dX7_readJoint_100 rfl ?_
            refine m2_iload_n hB dX7_readJoint_101 rfl ?_
            obtain ⟨Q43, hM44, k⟩ := k
            refine m2_invv hB (as := [.int x1]) dX7_readJoint_102 mv_X7_99 rfl sh_kE rfl (Nat.le_of_ble_eq_true rfl) rfl hM44 (fun μ42 hq45 => ?_)
            replace k := k μ42 hq45
            refine m2_aload_n hB dX7_readJoint_105 rfl ?_
            refine m2_iconst hB dX7_readJoint_106 (v := 1) (by decide) ?_
            refine m2_putZ hB (Or.inr rfl) dX7_readJoint_107 fl_X7_55 sh_kE rfl ?_
            refine m2_aload_n hB dX7_readJoint_110 rfl ?_
            refine m2_dup hB dX7_readJoint_111 rfl ?_
            refine m2_getI hB dX7_readJoint_112 fl_X7_43 sh_kE rfl ?_
            refine m2_iconst hB dX7_readJoint_115 (v := 1) (by decide) ?_
            refine m2_iadd hB dX7_readJoint_116 ?_
            refine m2_putI hB dX7_readJoint_117 fl_X7_43 sh_kE rfl ?_
            refine m2_iconst hB dX7_readJoint_120 (v := 1) (by decide) ?_
            exact m2_zret h dX7_readJoint_121 (Or.inr rfl) k
          · replace k := k.2 q35
            refine m2_aload_n hB dX7_readJoint_85 rfl ?_
            refine m2_getR hB dX7_readJoint_86 fl_X7_19 sh_kE (c1 := kE_compared) rfl ?_
            refine m2_aload_n hB dX7_readJoint_89 rfl ?_
            refine m2_getI hB dX7_readJoint_90 fl_X7_52 sh_kE rfl ?_
            refine m2_iconst hB dX7_readJoint_93 (v := 1) (by decide) ?_
            have hi46 := hi32
            refine m2_zast hB dX7_readJoint_94 sh_kE_compared hi46 ?_
            refine m2_aload_n hB dX7_readJoint_95 rfl ?_
            refine m2_iload_n hB dX7_readJoint_96 rfl ?_
            obtain ⟨Q49, hM50, k⟩ := k
            refine m2_invv hB (as := [.int y2]) dX7_readJoint_97 mv_X7_66 rfl sh_kE rfl (Nat.le_of_ble_eq_true rfl) rfl hM50 (fun μ48 hq51 => ?_)
            replace k := k μ48 hq51
            refine m2_aload_n hB dX7_readJoint_100 rfl ?_
            refine m2_iload_n hB dX7_readJoint_101 rfl ?_
            obtain ⟨Q54, hM55, k⟩ := k
            refine m2_invv hB (as := [.int x1]) dX7_readJoint_102 mv_X7_99 rfl sh_kE rfl (Nat.le_of_ble_eq_true rfl) rfl hM55 (fun μ53 hq56 => ?_)
            replace k := k μ53 hq56
            refine m2_aload_n hB dX7_readJoint_105 rfl ?_
            refine m2_iconst hB dX7_readJoint_106 (v := 1) (by decide) ?_
            refine m2_putZ hB (Or.inr rfl) dX7_readJoint_107 fl_X7_55 sh_kE rfl ?_
            refine m2_aload_n hB dX7_readJoint_110 rfl ?_
            refine m2_dup hB dX7_readJoint_111 rfl ?_
            refine m2_getI hB dX7_readJoint_112 fl_X7_43 sh_kE rfl ?_
            refine m2_iconst hB dX7_readJoint_115 (v := 1) (by decide) ?_
            refine m2_iadd hB dX7_readJoint_116 ?_
            refine m2_putI hB dX7_readJoint_117 fl_X7_43 sh_kE rfl ?_
            refine m2_iconst hB dX7_readJoint_120 (v := 1) (by decide) ?_
            exact m2_zret h dX7_readJoint_121 (Or.inr rfl) k
        · replace k := k.2 q33
          refine m2_iconst hB dX7_readJoint_78 (v := 0) (by decide) ?_
          exact m2_zret h dX7_readJoint_79 (Or.inl rfl) k
  · replace k := k.2 q1
    refine m2_aload_n hB dX7_readJoint_6 rfl ?_
    refine m2_getI hB dX7_readJoint_7 fl_X7_52 sh_kE rfl ?_
    refine m2_if_ne hB dX7_readJoint_10 (tgt := 15) (by decide) (fun q57 : ¬ (μ.1 kE 9) = 0 => ?_) (fun q57 : (μ.1 kE 9) = 0 => ?_)
    · replace k := k.1 q57
      refine m2_aload_n hB dX7_readJoint_15 rfl ?_
      refine m2_iconst hB dX7_readJoint_16 (v := 1) (by decide) ?_
      obtain ⟨Q60, hM61, k⟩ := k
      refine m2_invv hB (as := [.int 1]) dX7_readJoint_17 mv_X7_66 rfl sh_kE rfl (Nat.le_of_ble_eq_true rfl) rfl hM61 (fun μ59 hq62 => ?_)
      replace k := k μ59 hq62
      refine m2_aload_n hB dX7_readJoint_20 rfl ?_
      refine m2_dup hB dX7_readJoint_21 rfl ?_
      refine m2_getI hB dX7_readJoint_22 fl_X7_49 sh_kE rfl ?_
      refine m2_iconst hB dX7_readJoint_25 (v := 1) (by decide) ?_
      refine m2_isub hB dX7_readJoint_26 ?_
      refine m2_putI hB dX7_readJoint_27 fl_X7_49 sh_kE rfl ?_
      refine m2_aload_n hB dX7_readJoint_30 rfl ?_
      refine m2_dup hB dX7_readJoint_31 rfl ?_
      refine m2_getI hB dX7_readJoint_32 fl_X7_52 sh_kE rfl ?_
      refine m2_iconst hB dX7_readJoint_35 (v := 1) (by decide) ?_
      refine m2_isub hB dX7_readJoint_36 ?_
      refine m2_putI hB dX7_readJoint_37 fl_X7_52 sh_kE rfl ?_
      refine m2_aload_n hB dX7_readJoint_40 rfl ?_
      refine m2_dup hB dX7_readJoint_41 rfl ?_
      refine m2_getI hB dX7_readJoint_42 fl_X7_43 sh_kE rfl ?_
      refine m2_iconst hB dX7_readJoint_45 (v := 1) (by decide) ?_
      refine m2_iadd hB dX7_readJoint_46 ?_
      refine m2_putI hB dX7_readJoint_47 fl_X7_43 sh_kE rfl ?_
      refine m2_iconst hB dX7_readJoint_50 (v := 1) (by decide) ?_
      exact m2_zret h dX7_readJoint_51 (Or.inr rfl) k
    · replace k := k.2 q57
      refine m2_iconst hB dX7_readJoint_13 (v := 0) (by decide) ?_
      exact m2_zret h dX7_readJoint_14 (Or.inl rfl) k
theorem dX7_rankOf_0 : decode cX7_rankOf 0 = .ok (.iload_n 0, 1) := by decide +kernel
theorem dX7_rankOf_1 : decode cX7_rankOf 1 = .ok (.lookupswitch 75 #[(42, 71), (43, 69), (45, 69), (60, 67), (61, 67), (62, 67), (256, 73)], 67) := by decide +kernel
theorem dX7_rankOf_68 : decode cX7_rankOf 68 = .ok (.iconst 1, 1) := by decide +kernel
theorem dX7_rankOf_69 : decode cX7_rankOf 69 = .ok (.ireturn, 1) := by decide +kernel
theorem dX7_rankOf_70 : decode cX7_rankOf 70 = .ok (.iconst 2, 1) := by decide +kernel
theorem dX7_rankOf_71 : decode cX7_rankOf 71 = .ok (.ireturn, 1) := by decide +kernel
theorem dX7_rankOf_72 : decode cX7_rankOf 72 = .ok (.iconst 3, 1) := by decide +kernel
theorem dX7_rankOf_73 : decode cX7_rankOf 73 = .ok (.ireturn, 1) := by decide +kernel
theorem dX7_rankOf_74 : decode cX7_rankOf 74 = .ok (.iconst 4, 1) := by decide +kernel
theorem dX7_rankOf_75 : decode cX7_rankOf 75 = .ok (.ireturn, 1) := by decide +kernel
theorem dX7_rankOf_76 : decode cX7_rankOf 76 = .ok (.iconst 0, 1) := by decide +kernel
theorem dX7_rankOf_77 : decode cX7_rankOf 77 = .ok (.ireturn, 1) := by decide +kernel
set_option maxRecDepth 100000 in
set_option maxHeartbeats 4000000 in
theorem B_X7_rankOf_0 {κ : Nat → List Value → List Value → m2M → Prop} {D : Nat} {Q : Option Value → m2M → Prop} (h : m2_RL κ cX7_rankOf RX7 1 D (some .int) Q) {x1 : Int32} {μ : m2M} (k : (x1 = 42 → Q (some (.int 3)) μ) ∧ (¬ x1 = 42 → (x1 = 43 → Q (some (.int 2)) μ) ∧ (¬ x1 = 43 → (x1 = 45 → Q (some (.int 2)) μ) ∧ (¬ x1 = 45 → (x1 = 60 → Q (some (.int 1)) μ) ∧ (¬ x1 = 60 → (x1 = 61 → Q (some (.int 1)) μ) ∧ (¬ x1 = 61 → (x1 = 62 → Q (some (.int 1)) μ) ∧ (¬ x1 = 62 → (x1 = 256 → Q (some (.int 4)) μ) ∧ (¬ x1 = 256 → Q (some (.int 0)) μ)))))))) : κ 0 [.int x1] [] μ := by
  have hB := h.b
  refine m2_iload_n hB dX7_rankOf_0 rfl ?_
  by_cases q1 : x1 = 42
  · replace k := k.1 q1
    refine m2_lookup hB dX7_rankOf_1 (off := 71) (tgt := 72) (by decide) (by rw [q1]; decide) (by decide) ?_
    refine m2_iconst hB dX7_rankOf_72 (v := 3) (by decide) ?_
    exact m2_iret h dX7_rankOf_73 k
  replace k := k.2 q1
  by_cases q2 : x1 = 43
  · replace k := k.1 q2
    refine m2_lookup hB dX7_rankOf_1 (off := 69) (tgt := 70) (by decide) (by rw [q2]; decide) (by decide) ?_
    refine m2_iconst hB dX7_rankOf_70 (v := 2) (by decide) ?_
    exact m2_iret h dX7_rankOf_71 k
  replace k := k.2 q2
  by_cases q3 : x1 = 45
  · replace k := k.1 q3
    refine m2_lookup hB dX7_rankOf_1 (off := 69) (tgt := 70) (by decide) (by rw [q3]; decide) (by decide) ?_
    refine m2_iconst hB dX7_rankOf_70 (v := 2) (by decide) ?_
    exact m2_iret h dX7_rankOf_71 k
  replace k := k.2 q3
  by_cases q4 : x1 = 60
  · replace k := k.1 q4
    refine m2_lookup hB dX7_rankOf_1 (off := 67) (tgt := 68) (by decide) (by rw [q4]; decide) (by decide) ?_
    refine m2_iconst hB dX7_rankOf_68 (v := 1) (by decide) ?_
    exact m2_iret h dX7_rankOf_69 k
  replace k := k.2 q4
  by_cases q5 : x1 = 61
  · replace k := k.1 q5
    refine m2_lookup hB dX7_rankOf_1 (off := 67) (tgt := 68) (by decide) (by rw [q5]; decide) (by decide) ?_
    refine m2_iconst hB dX7_rankOf_68 (v := 1) (by decide) ?_
    exact m2_iret h dX7_rankOf_69 k
  replace k := k.2 q5
  by_cases q6 : x1 = 62
  · replace k := k.1 q6
    refine m2_lookup hB dX7_rankOf_1 (off := 67) (tgt := 68) (by decide) (by rw [q6]; decide) (by decide) ?_
    refine m2_iconst hB dX7_rankOf_68 (v := 1) (by decide) ?_
    exact m2_iret h dX7_rankOf_69 k
  replace k := k.2 q6
  by_cases q7 : x1 = 256
  · replace k := k.1 q7
    refine m2_lookup hB dX7_rankOf_1 (off := 73) (tgt := 74) (by decide) (by rw [q7]; decide) (by decide) ?_
    refine m2_iconst hB dX7_rankOf_74 (v := 4) (by decide) ?_
    exact m2_iret h dX7_rankOf_75 k
  replace k := k.2 q7
  refine m2_lookup hB dX7_rankOf_1 (off := 75) (tgt := 76) (by decide) ((lv_osw q1 (show (42 : Int32).toInt = 42 by decide)).trans ((lv_osw q2 (show (43 : Int32).toInt = 43 by decide)).trans ((lv_osw q3 (show (45 : Int32).toInt = 45 by decide)).trans ((lv_osw q4 (show (60 : Int32).toInt = 60 by decide)).trans ((lv_osw q5 (show (61 : Int32).toInt = 61 by decide)).trans ((lv_osw q6 (show (62 : Int32).toInt = 62 by decide)).trans ((lv_osw q7 (show (256 : Int32).toInt = 256 by decide)).trans rfl))))))) (by decide) ?_
  refine m2_iconst hB dX7_rankOf_76 (v := 0) (by decide) ?_
  exact m2_iret h dX7_rankOf_77 k
theorem dX7_hold_0 : decode cX7_hold 0 = .ok (.aload_n 0, 1) := by decide +kernel
theorem dX7_hold_1 : decode cX7_hold 1 = .ok (.getfield 49, 3) := by decide +kernel
theorem dX7_hold_4 : decode cX7_hold 4 = .ok (.bipush 40, 2) := by decide +kernel
theorem dX7_hold_6 : decode cX7_hold 6 = .ok (.if_icmp .ge 23, 3) := by decide +kernel
theorem dX7_hold_9 : decode cX7_hold 9 = .ok (.aload_n 0, 1) := by decide +kernel
theorem dX7_hold_10 : decode cX7_hold 10 = .ok (.getfield 16, 3) := by decide +kernel
theorem dX7_hold_13 : decode cX7_hold 13 = .ok (.aload_n 0, 1) := by decide +kernel
theorem dX7_hold_14 : decode cX7_hold 14 = .ok (.getfield 49, 3) := by decide +kernel
theorem dX7_hold_17 : decode cX7_hold 17 = .ok (.iload_n 1, 1) := by decide +kernel
theorem dX7_hold_18 : decode cX7_hold 18 = .ok (.iastore, 1) := by decide +kernel
theorem dX7_hold_19 : decode cX7_hold 19 = .ok (.aload_n 0, 1) := by decide +kernel
theorem dX7_hold_20 : decode cX7_hold 20 = .ok (.dup, 1) := by decide +kernel
theorem dX7_hold_21 : decode cX7_hold 21 = .ok (.getfield 49, 3) := by decide +kernel
theorem dX7_hold_24 : decode cX7_hold 24 = .ok (.iconst 1, 1) := by decide +kernel
theorem dX7_hold_25 : decode cX7_hold 25 = .ok (.iadd, 1) := by decide +kernel
theorem dX7_hold_26 : decode cX7_hold 26 = .ok (.putfield 49, 3) := by decide +kernel
theorem dX7_hold_29 : decode cX7_hold 29 = .ok (.return_, 1) := by decide +kernel
set_option maxRecDepth 100000 in
set_option maxHeartbeats 4000000 in
theorem B_X7_hold_0 {κ : Nat → List Value → List Value → m2M → Prop} {D : Nat} {Q : Option Value → m2M → Prop} (h : m2_RL κ cX7_hold RX7 2 D none Q) {x1 : Int32} {μ : m2M} (k : (40 ≤ (μ.1 kE 7) → Q none μ) ∧ (¬ 40 ≤ (μ.1 kE 7) → (vp_in (μ.1 kE 7) 40) ∧ (Q none (m2_si (m2_si μ kE_waiting ((μ.1 kE 7)).toNatClampNeg x1) kE 7 ((μ.1 kE 7) + 1))))) : κ 0 [.ref kE, .int x1] [] μ := by
  have hB := h.b
  refine m2_aload_n hB dX7_hold_0 rfl ?_
  refine m2_getI hB dX7_hold_1 fl_X7_49 sh_kE rfl ?_
  refine m2_bipush hB dX7_hold_4 (v := 40) (by decide) ?_
  refine m2_icmp_ge hB dX7_hold_6 (tgt := 29) (by decide) (fun q2 : 40 ≤ (μ.1 kE 7) => ?_) (fun q2 : ¬ 40 ≤ (μ.1 kE 7) => ?_)
  · replace k := k.1 q2
    exact m2_vret h dX7_hold_29 k
  · replace k := k.2 q2
    refine m2_aload_n hB dX7_hold_9 rfl ?_
    refine m2_getR hB dX7_hold_10 fl_X7_16 sh_kE (c1 := kE_waiting) rfl ?_
    refine m2_aload_n hB dX7_hold_13 rfl ?_
    refine m2_getI hB dX7_hold_14 fl_X7_49 sh_kE rfl ?_
    refine m2_iload_n hB dX7_hold_17 rfl ?_
    obtain ⟨hi3, k⟩ := k
    refine m2_iast hB dX7_hold_18 sh_kE_waiting hi3 ?_
    refine m2_aload_n hB dX7_hold_19 rfl ?_
    refine m2_dup hB dX7_hold_20 rfl ?_
    refine m2_getI hB dX7_hold_21 fl_X7_49 sh_kE rfl ?_
    refine m2_iconst hB dX7_hold_24 (v := 1) (by decide) ?_
    refine m2_iadd hB dX7_hold_25 ?_
    refine m2_putI hB dX7_hold_26 fl_X7_49 sh_kE rfl ?_
    exact m2_vret h dX7_hold_29 k
theorem dX7_release_0 : decode cX7_release 0 = .ok (.aload_n 0, 1) := by decide +kernel
theorem dX7_release_1 : decode cX7_release 1 = .ok (.getfield 49, 3) := by decide +kernel
theorem dX7_release_4 : decode cX7_release 4 = .ok (.ifCond .le 48, 3) := by decide +kernel
theorem dX7_release_7 : decode cX7_release 7 = .ok (.aload_n 0, 1) := by decide +kernel
theorem dX7_release_8 : decode cX7_release 8 = .ok (.getfield 16, 3) := by decide +kernel
theorem dX7_release_11 : decode cX7_release 11 = .ok (.aload_n 0, 1) := by decide +kernel
theorem dX7_release_12 : decode cX7_release 12 = .ok (.getfield 49, 3) := by decide +kernel
theorem dX7_release_15 : decode cX7_release 15 = .ok (.iconst 1, 1) := by decide +kernel
theorem dX7_release_16 : decode cX7_release 16 = .ok (.isub, 1) := by decide +kernel
theorem dX7_release_17 : decode cX7_release 17 = .ok (.iaload, 1) := by decide +kernel
theorem dX7_release_18 : decode cX7_release 18 = .ok (.invokestatic 102, 3) := by decide +kernel
theorem dX7_release_21 : decode cX7_release 21 = .ok (.iload_n 1, 1) := by decide +kernel
theorem dX7_release_22 : decode cX7_release 22 = .ok (.if_icmp .lt 30, 3) := by decide +kernel
theorem dX7_release_25 : decode cX7_release 25 = .ok (.aload_n 0, 1) := by decide +kernel
theorem dX7_release_26 : decode cX7_release 26 = .ok (.dup, 1) := by decide +kernel
theorem dX7_release_27 : decode cX7_release 27 = .ok (.getfield 49, 3) := by decide +kernel
theorem dX7_release_30 : decode cX7_release 30 = .ok (.iconst 1, 1) := by decide +kernel
theorem dX7_release_31 : decode cX7_release 31 = .ok (.isub, 1) := by decide +kernel
theorem dX7_release_32 : decode cX7_release 32 = .ok (.putfield 49, 3) := by decide +kernel
theorem dX7_release_35 : decode cX7_release 35 = .ok (.aload_n 0, 1) := by decide +kernel
theorem dX7_release_36 : decode cX7_release 36 = .ok (.aload_n 0, 1) := by decide +kernel
theorem dX7_release_37 : decode cX7_release 37 = .ok (.getfield 16, 3) := by decide +kernel
theorem dX7_release_40 : decode cX7_release 40 = .ok (.aload_n 0, 1) := by decide +kernel
theorem dX7_release_41 : decode cX7_release 41 = .ok (.getfield 49, 3) := by decide +kernel
theorem dX7_release_44 : decode cX7_release 44 = .ok (.iaload, 1) := by decide +kernel
theorem dX7_release_45 : decode cX7_release 45 = .ok (.ineg, 1) := by decide +kernel
theorem dX7_release_46 : decode cX7_release 46 = .ok (.invokevirtual 88, 3) := by decide +kernel
theorem dX7_release_49 : decode cX7_release 49 = .ok (.goto (-49), 3) := by decide +kernel
theorem dX7_release_52 : decode cX7_release 52 = .ok (.return_, 1) := by decide +kernel
set_option maxRecDepth 100000 in
set_option maxHeartbeats 4000000 in
theorem B_X7_release_0 {κ : Nat → List Value → List Value → m2M → Prop} {D : Nat} {Q : Option Value → m2M → Prop} (h : m2_RL κ cX7_release RX7 2 (D + 1) none Q) {v1 : Int32} {μ : m2M} (k : ((μ.1 kE 7) ≤ 0 → Q none μ) ∧ (¬ (μ.1 kE 7) ≤ 0 → (vp_in ((μ.1 kE 7) - 1) 40) ∧ (∃ Q6 : Option Value → m2M → Prop, m2_MT D yX7_rankOf cX7_rankOf 1 (some .int) [.int (μ.1 kE_waiting (((μ.1 kE 7) - 1)).toNatClampNeg)] μ Q6 ∧ ∀ (y4 : Int32) (μ5 : m2M), Q6 (some (.int y4)) μ5 → ((y4 < v1 → Q none μ5) ∧ (¬ y4 < v1 → (vp_in ((μ5.1 kE 7) - 1) 40) ∧ (∃ Q13 : Option Value → m2M → Prop, m2_MT D yX7_emit cX7_emit 2 none [.ref kE, .int (-(μ5.1 kE_waiting (((μ5.1 kE 7) - 1)).toNatClampNeg))] (m2_si μ5 kE 7 ((μ5.1 kE 7) - 1)) Q13 ∧ ∀ (μ12 : m2M), Q13 none μ12 → (κ 0 [.ref kE, .int v1] [] μ12))))))) : κ 0 [.ref kE, .int v1] [] μ := by
  have hB := h.b
  refine m2_aload_n hB dX7_release_0 rfl ?_
  refine m2_getI hB dX7_release_1 fl_X7_49 sh_kE rfl ?_
  refine m2_if_le hB dX7_release_4 (tgt := 52) (by decide) (fun q2 : (μ.1 kE 7) ≤ 0 => ?_) (fun q2 : ¬ (μ.1 kE 7) ≤ 0 => ?_)
  · replace k := k.1 q2
    exact m2_vret h dX7_release_52 k
  · replace k := k.2 q2
    refine m2_aload_n hB dX7_release_7 rfl ?_
    refine m2_getR hB dX7_release_8 fl_X7_16 sh_kE (c1 := kE_waiting) rfl ?_
    refine m2_aload_n hB dX7_release_11 rfl ?_
    refine m2_getI hB dX7_release_12 fl_X7_49 sh_kE rfl ?_
    refine m2_iconst hB dX7_release_15 (v := 1) (by decide) ?_
    refine m2_isub hB dX7_release_16 ?_
    obtain ⟨hi3, k⟩ := k
    refine m2_iald hB dX7_release_17 sh_kE_waiting hi3 ?_
    obtain ⟨Q6, hM7, k⟩ := k
    refine m2_invSi hB (as := [.int (μ.1 kE_waiting (((μ.1 kE 7) - 1)).toNatClampNeg)]) dX7_release_18 ms_X7_102 rfl (Nat.le_of_ble_eq_true rfl) rfl hM7 (fun y4 μ5 hq8 => ?_)
    replace k := k y4 μ5 hq8
    refine m2_iload_n hB dX7_release_21 rfl ?_
    refine m2_icmp_lt hB dX7_release_22 (tgt := 52) (by decide) (fun q9 : y4 < v1 => ?_) (fun q9 : ¬ y4 < v1 => ?_)
    · replace k := k.1 q9
      exact m2_vret h dX7_release_52 k
    · replace k := k.2 q9
      refine m2_aload_n hB dX7_release_25 rfl ?_
      refine m2_dup hB dX7_release_26 rfl ?_
      refine m2_getI hB dX7_release_27 fl_X7_49 sh_kE rfl ?_
      refine m2_iconst hB dX7_release_30 (v := 1) (by decide) ?_
      refine m2_isub hB dX7_release_31 ?_
      refine m2_putI hB dX7_release_32 fl_X7_49 sh_kE rfl ?_
      refine m2_aload_n hB dX7_release_35 rfl ?_
      refine m2_aload_n hB dX7_release_36 rfl ?_
      refine m2_getR hB dX7_release_37 fl_X7_16 sh_kE (c1 := kE_waiting) rfl ?_
      refine m2_aload_n hB dX7_release_40 rfl ?_
      refine m2_getI hB dX7_release_41 fl_X7_49 sh_kE rfl ?_
      obtain ⟨hi10, k⟩ := k
      refine m2_iald hB dX7_release_44 sh_kE_waiting hi10 ?_
      refine m2_ineg hB dX7_release_45 ?_
      obtain ⟨Q13, hM14, k⟩ := k
      refine m2_invv hB (as := [.int (-(μ5.1 kE_waiting (((μ5.1 kE 7) - 1)).toNatClampNeg))]) dX7_release_46 mv_X7_88 rfl sh_kE rfl (Nat.le_of_ble_eq_true rfl) rfl hM14 (fun μ12 hq15 => ?_)
      replace k := k μ12 hq15
      refine m2_goto hB dX7_release_49 (tgt := 0) (by decide) ?_
      exact k
theorem dX7_emit_0 : decode cX7_emit 0 = .ok (.aload_n 0, 1) := by decide +kernel
theorem dX7_emit_1 : decode cX7_emit 1 = .ok (.getfield 46, 3) := by decide +kernel
theorem dX7_emit_4 : decode cX7_emit 4 = .ok (.bipush 40, 2) := by decide +kernel
theorem dX7_emit_6 : decode cX7_emit 6 = .ok (.if_icmp .ge 23, 3) := by decide +kernel
theorem dX7_emit_9 : decode cX7_emit 9 = .ok (.aload_n 0, 1) := by decide +kernel
theorem dX7_emit_10 : decode cX7_emit 10 = .ok (.getfield 13, 3) := by decide +kernel
theorem dX7_emit_13 : decode cX7_emit 13 = .ok (.aload_n 0, 1) := by decide +kernel
theorem dX7_emit_14 : decode cX7_emit 14 = .ok (.getfield 46, 3) := by decide +kernel
theorem dX7_emit_17 : decode cX7_emit 17 = .ok (.iload_n 1, 1) := by decide +kernel
theorem dX7_emit_18 : decode cX7_emit 18 = .ok (.iastore, 1) := by decide +kernel
theorem dX7_emit_19 : decode cX7_emit 19 = .ok (.aload_n 0, 1) := by decide +kernel
theorem dX7_emit_20 : decode cX7_emit 20 = .ok (.dup, 1) := by decide +kernel
theorem dX7_emit_21 : decode cX7_emit 21 = .ok (.getfield 46, 3) := by decide +kernel
theorem dX7_emit_24 : decode cX7_emit 24 = .ok (.iconst 1, 1) := by decide +kernel
theorem dX7_emit_25 : decode cX7_emit 25 = .ok (.iadd, 1) := by decide +kernel
theorem dX7_emit_26 : decode cX7_emit 26 = .ok (.putfield 46, 3) := by decide +kernel
theorem dX7_emit_29 : decode cX7_emit 29 = .ok (.return_, 1) := by decide +kernel
set_option maxRecDepth 100000 in
set_option maxHeartbeats 4000000 in
theorem B_X7_emit_0 {κ : Nat → List Value → List Value → m2M → Prop} {D : Nat} {Q : Option Value → m2M → Prop} (h : m2_RL κ cX7_emit RX7 2 D none Q) {x1 : Int32} {μ : m2M} (k : (40 ≤ (μ.1 kE 5) → Q none μ) ∧ (¬ 40 ≤ (μ.1 kE 5) → (vp_in (μ.1 kE 5) 40) ∧ (Q none (m2_si (m2_si μ kE_draft ((μ.1 kE 5)).toNatClampNeg x1) kE 5 ((μ.1 kE 5) + 1))))) : κ 0 [.ref kE, .int x1] [] μ := by
  have hB := h.b
  refine m2_aload_n hB dX7_emit_0 rfl ?_
  refine m2_getI hB dX7_emit_1 fl_X7_46 sh_kE rfl ?_
  refine m2_bipush hB dX7_emit_4 (v := 40) (by decide) ?_
  refine m2_icmp_ge hB dX7_emit_6 (tgt := 29) (by decide) (fun q2 : 40 ≤ (μ.1 kE 5) => ?_) (fun q2 : ¬ 40 ≤ (μ.1 kE 5) => ?_)
  · replace k := k.1 q2
    exact m2_vret h dX7_emit_29 k
  · replace k := k.2 q2
    refine m2_aload_n hB dX7_emit_9 rfl ?_
    refine m2_getR hB dX7_emit_10 fl_X7_13 sh_kE (c1 := kE_draft) rfl ?_
    refine m2_aload_n hB dX7_emit_13 rfl ?_
    refine m2_getI hB dX7_emit_14 fl_X7_46 sh_kE rfl ?_
    refine m2_iload_n hB dX7_emit_17 rfl ?_
    obtain ⟨hi3, k⟩ := k
    refine m2_iast hB dX7_emit_18 sh_kE_draft hi3 ?_
    refine m2_aload_n hB dX7_emit_19 rfl ?_
    refine m2_dup hB dX7_emit_20 rfl ?_
    refine m2_getI hB dX7_emit_21 fl_X7_46 sh_kE rfl ?_
    refine m2_iconst hB dX7_emit_24 (v := 1) (by decide) ?_
    refine m2_iadd hB dX7_emit_25 ?_
    refine m2_putI hB dX7_emit_26 fl_X7_46 sh_kE rfl ?_
    exact m2_vret h dX7_emit_29 k
theorem dX7_setDoor_0 : decode cX7_setDoor 0 = .ok (.aload_n 0, 1) := by decide +kernel
theorem dX7_setDoor_1 : decode cX7_setDoor 1 = .ok (.getfield 26, 3) := by decide +kernel
theorem dX7_setDoor_4 : decode cX7_setDoor 4 = .ok (.iconst 0, 1) := by decide +kernel
theorem dX7_setDoor_5 : decode cX7_setDoor 5 = .ok (.iload_n 1, 1) := by decide +kernel
theorem dX7_setDoor_6 : decode cX7_setDoor 6 = .ok (.iastore, 1) := by decide +kernel
theorem dX7_setDoor_7 : decode cX7_setDoor 7 = .ok (.aload_n 0, 1) := by decide +kernel
theorem dX7_setDoor_8 : decode cX7_setDoor 8 = .ok (.getfield 26, 3) := by decide +kernel
theorem dX7_setDoor_11 : decode cX7_setDoor 11 = .ok (.iconst 1, 1) := by decide +kernel
theorem dX7_setDoor_12 : decode cX7_setDoor 12 = .ok (.iload_n 2, 1) := by decide +kernel
theorem dX7_setDoor_13 : decode cX7_setDoor 13 = .ok (.iastore, 1) := by decide +kernel
theorem dX7_setDoor_14 : decode cX7_setDoor 14 = .ok (.aload_n 0, 1) := by decide +kernel
theorem dX7_setDoor_15 : decode cX7_setDoor 15 = .ok (.getfield 26, 3) := by decide +kernel
theorem dX7_setDoor_18 : decode cX7_setDoor 18 = .ok (.iconst 2, 1) := by decide +kernel
theorem dX7_setDoor_19 : decode cX7_setDoor 19 = .ok (.iload_n 3, 1) := by decide +kernel
theorem dX7_setDoor_20 : decode cX7_setDoor 20 = .ok (.ifCond .eq 7, 3) := by decide +kernel
theorem dX7_setDoor_23 : decode cX7_setDoor 23 = .ok (.iconst 1, 1) := by decide +kernel
theorem dX7_setDoor_24 : decode cX7_setDoor 24 = .ok (.goto 4, 3) := by decide +kernel
theorem dX7_setDoor_27 : decode cX7_setDoor 27 = .ok (.iconst 0, 1) := by decide +kernel
theorem dX7_setDoor_28 : decode cX7_setDoor 28 = .ok (.iastore, 1) := by decide +kernel
theorem dX7_setDoor_29 : decode cX7_setDoor 29 = .ok (.aload_n 0, 1) := by decide +kernel
theorem dX7_setDoor_30 : decode cX7_setDoor 30 = .ok (.getfield 26, 3) := by decide +kernel
theorem dX7_setDoor_33 : decode cX7_setDoor 33 = .ok (.iconst 5, 1) := by decide +kernel
theorem dX7_setDoor_34 : decode cX7_setDoor 34 = .ok (.iload 4, 2) := by decide +kernel
theorem dX7_setDoor_36 : decode cX7_setDoor 36 = .ok (.iastore, 1) := by decide +kernel
theorem dX7_setDoor_37 : decode cX7_setDoor 37 = .ok (.return_, 1) := by decide +kernel
set_option maxRecDepth 100000 in
set_option maxHeartbeats 4000000 in
theorem B_X7_setDoor_0 {κ : Nat → List Value → List Value → m2M → Prop} {D : Nat} {Q : Option Value → m2M → Prop} (h : m2_RL κ cX7_setDoor RX7 5 D none Q) {x1 : Int32} {x2 : Int32} {x3 : Int32} {x4 : Int32} {μ : m2M} (k : Q none (m2_si (m2_si (m2_si (m2_si μ kE_known ((0 : Int32)).toNatClampNeg x1) kE_known ((1 : Int32)).toNatClampNeg x2) kE_known ((2 : Int32)).toNatClampNeg (if x3 = 0 then 0 else 1 : Int32)) kE_known ((5 : Int32)).toNatClampNeg x4)) : κ 0 [.ref kE, .int x1, .int x2, .int x3, .int x4] [] μ := by
  have hB := h.b
  refine m2_aload_n hB dX7_setDoor_0 rfl ?_
  refine m2_getR hB dX7_setDoor_1 fl_X7_26 sh_kE (c1 := kE_known) rfl ?_
  refine m2_iconst hB dX7_setDoor_4 (v := 0) (by decide) ?_
  refine m2_iload_n hB dX7_setDoor_5 rfl ?_
  refine m2_iast hB dX7_setDoor_6 sh_kE_known (vp_in_iff.mpr ⟨by decide, by decide⟩) ?_
  refine m2_aload_n hB dX7_setDoor_7 rfl ?_
  refine m2_getR hB dX7_setDoor_8 fl_X7_26 sh_kE (c1 := kE_known) rfl ?_
  refine m2_iconst hB dX7_setDoor_11 (v := 1) (by decide) ?_
  refine m2_iload_n hB dX7_setDoor_12 rfl ?_
  refine m2_iast hB dX7_setDoor_13 sh_kE_known (vp_in_iff.mpr ⟨by decide, by decide⟩) ?_
  refine m2_aload_n hB dX7_setDoor_14 rfl ?_
  refine m2_getR hB dX7_setDoor_15 fl_X7_26 sh_kE (c1 := kE_known) rfl ?_
  refine m2_iconst hB dX7_setDoor_18 (v := 2) (by decide) ?_
  refine m2_iload_n hB dX7_setDoor_19 rfl ?_
  have G4 : κ 28 [.ref kE, .int x1, .int x2, .int x3, .int x4] [.int (if x3 = 0 then 0 else 1 : Int32), .int 2, .ref kE_known] (m2_si (m2_si μ kE_known ((0 : Int32)).toNatClampNeg x1) kE_known ((1 : Int32)).toNatClampNeg x2) := by
    refine m2_iast hB dX7_setDoor_28 sh_kE_known (vp_in_iff.mpr ⟨by decide, by decide⟩) ?_
    refine m2_aload_n hB dX7_setDoor_29 rfl ?_
    refine m2_getR hB dX7_setDoor_30 fl_X7_26 sh_kE (c1 := kE_known) rfl ?_
    refine m2_iconst hB dX7_setDoor_33 (v := 5) (by decide) ?_
    refine m2_iload hB dX7_setDoor_34 rfl ?_
    refine m2_iast hB dX7_setDoor_36 sh_kE_known (vp_in_iff.mpr ⟨by decide, by decide⟩) ?_
    exact m2_vret h dX7_setDoor_37 k
  refine m2_if_eq hB dX7_setDoor_20 (tgt := 27) (by decide) (fun q3 : x3 = 0 => ?_) (fun q3 : ¬ x3 = 0 => ?_)
  · rw [if_pos q3] at G4
    refine m2_iconst hB dX7_setDoor_27 (v := 0) (by decide) ?_
    exact G4
  · rw [if_neg q3] at G4
    refine m2_iconst hB dX7_setDoor_23 (v := 1) (by decide) ?_
    refine m2_goto hB dX7_setDoor_24 (tgt := 28) (by decide) ?_
    exact G4
theorem dX7_setGoer_0 : decode cX7_setGoer 0 = .ok (.aload_n 0, 1) := by decide +kernel
theorem dX7_setGoer_1 : decode cX7_setGoer 1 = .ok (.getfield 26, 3) := by decide +kernel
theorem dX7_setGoer_4 : decode cX7_setGoer 4 = .ok (.iconst 3, 1) := by decide +kernel
theorem dX7_setGoer_5 : decode cX7_setGoer 5 = .ok (.iload_n 1, 1) := by decide +kernel
theorem dX7_setGoer_6 : decode cX7_setGoer 6 = .ok (.iastore, 1) := by decide +kernel
theorem dX7_setGoer_7 : decode cX7_setGoer 7 = .ok (.aload_n 0, 1) := by decide +kernel
theorem dX7_setGoer_8 : decode cX7_setGoer 8 = .ok (.getfield 26, 3) := by decide +kernel
theorem dX7_setGoer_11 : decode cX7_setGoer 11 = .ok (.iconst 4, 1) := by decide +kernel
theorem dX7_setGoer_12 : decode cX7_setGoer 12 = .ok (.iload_n 2, 1) := by decide +kernel
theorem dX7_setGoer_13 : decode cX7_setGoer 13 = .ok (.iastore, 1) := by decide +kernel
theorem dX7_setGoer_14 : decode cX7_setGoer 14 = .ok (.return_, 1) := by decide +kernel
set_option maxRecDepth 100000 in
set_option maxHeartbeats 4000000 in
theorem B_X7_setGoer_0 {κ : Nat → List Value → List Value → m2M → Prop} {D : Nat} {Q : Option Value → m2M → Prop} (h : m2_RL κ cX7_setGoer RX7 3 D none Q) {x1 : Int32} {x2 : Int32} {μ : m2M} (k : Q none (m2_si (m2_si μ kE_known ((3 : Int32)).toNatClampNeg x1) kE_known ((4 : Int32)).toNatClampNeg x2)) : κ 0 [.ref kE, .int x1, .int x2] [] μ := by
  have hB := h.b
  refine m2_aload_n hB dX7_setGoer_0 rfl ?_
  refine m2_getR hB dX7_setGoer_1 fl_X7_26 sh_kE (c1 := kE_known) rfl ?_
  refine m2_iconst hB dX7_setGoer_4 (v := 3) (by decide) ?_
  refine m2_iload_n hB dX7_setGoer_5 rfl ?_
  refine m2_iast hB dX7_setGoer_6 sh_kE_known (vp_in_iff.mpr ⟨by decide, by decide⟩) ?_
  refine m2_aload_n hB dX7_setGoer_7 rfl ?_
  refine m2_getR hB dX7_setGoer_8 fl_X7_26 sh_kE (c1 := kE_known) rfl ?_
  refine m2_iconst hB dX7_setGoer_11 (v := 4) (by decide) ?_
  refine m2_iload_n hB dX7_setGoer_12 rfl ?_
  refine m2_iast hB dX7_setGoer_13 sh_kE_known (vp_in_iff.mpr ⟨by decide, by decide⟩) ?_
  exact m2_vret h dX7_setGoer_14 k
theorem dX7_workOut_0 : decode cX7_workOut 0 = .ok (.aload_n 0, 1) := by decide +kernel
theorem dX7_workOut_1 : decode cX7_workOut 1 = .ok (.getfield 76, 3) := by decide +kernel
theorem dX7_workOut_4 : decode cX7_workOut 4 = .ok (.ifCond .ne 5, 3) := by decide +kernel
theorem dX7_workOut_7 : decode cX7_workOut 7 = .ok (.iconst 1, 1) := by decide +kernel
theorem dX7_workOut_8 : decode cX7_workOut 8 = .ok (.ireturn, 1) := by decide +kernel
theorem dX7_workOut_9 : decode cX7_workOut 9 = .ok (.iconst 0, 1) := by decide +kernel
theorem dX7_workOut_10 : decode cX7_workOut 10 = .ok (.istore_n 1, 1) := by decide +kernel
theorem dX7_workOut_11 : decode cX7_workOut 11 = .ok (.iconst 0, 1) := by decide +kernel
theorem dX7_workOut_12 : decode cX7_workOut 12 = .ok (.istore_n 2, 1) := by decide +kernel
theorem dX7_workOut_13 : decode cX7_workOut 13 = .ok (.iload_n 2, 1) := by decide +kernel
theorem dX7_workOut_14 : decode cX7_workOut 14 = .ok (.aload_n 0, 1) := by decide +kernel
theorem dX7_workOut_15 : decode cX7_workOut 15 = .ok (.getfield 76, 3) := by decide +kernel
theorem dX7_workOut_18 : decode cX7_workOut 18 = .ok (.if_icmp .ge 116, 3) := by decide +kernel
theorem dX7_workOut_21 : decode cX7_workOut 21 = .ok (.aload_n 0, 1) := by decide +kernel
theorem dX7_workOut_22 : decode cX7_workOut 22 = .ok (.getfield 9, 3) := by decide +kernel
theorem dX7_workOut_25 : decode cX7_workOut 25 = .ok (.iload_n 2, 1) := by decide +kernel
theorem dX7_workOut_26 : decode cX7_workOut 26 = .ok (.iaload, 1) := by decide +kernel
theorem dX7_workOut_27 : decode cX7_workOut 27 = .ok (.istore_n 3, 1) := by decide +kernel
theorem dX7_workOut_28 : decode cX7_workOut 28 = .ok (.iload_n 3, 1) := by decide +kernel
theorem dX7_workOut_29 : decode cX7_workOut 29 = .ok (.bipush (-6), 2) := by decide +kernel
theorem dX7_workOut_31 : decode cX7_workOut 31 = .ok (.if_icmp .lt 31, 3) := by decide +kernel
theorem dX7_workOut_34 : decode cX7_workOut 34 = .ok (.aload_n 0, 1) := by decide +kernel
theorem dX7_workOut_35 : decode cX7_workOut 35 = .ok (.getfield 23, 3) := by decide +kernel
theorem dX7_workOut_38 : decode cX7_workOut 38 = .ok (.iload_n 1, 1) := by decide +kernel
theorem dX7_workOut_39 : decode cX7_workOut 39 = .ok (.iload_n 3, 1) := by decide +kernel
theorem dX7_workOut_40 : decode cX7_workOut 40 = .ok (.ifCond .lt 7, 3) := by decide +kernel
theorem dX7_workOut_43 : decode cX7_workOut 43 = .ok (.iload_n 3, 1) := by decide +kernel
theorem dX7_workOut_44 : decode cX7_workOut 44 = .ok (.goto 11, 3) := by decide +kernel
theorem dX7_workOut_47 : decode cX7_workOut 47 = .ok (.aload_n 0, 1) := by decide +kernel
theorem dX7_workOut_48 : decode cX7_workOut 48 = .ok (.getfield 26, 3) := by decide +kernel
theorem dX7_workOut_51 : decode cX7_workOut 51 = .ok (.iconst (-1), 1) := by decide +kernel
theorem dX7_workOut_52 : decode cX7_workOut 52 = .ok (.iload_n 3, 1) := by decide +kernel
theorem dX7_workOut_53 : decode cX7_workOut 53 = .ok (.isub, 1) := by decide +kernel
theorem dX7_workOut_54 : decode cX7_workOut 54 = .ok (.iaload, 1) := by decide +kernel
theorem dX7_workOut_55 : decode cX7_workOut 55 = .ok (.iastore, 1) := by decide +kernel
theorem dX7_workOut_56 : decode cX7_workOut 56 = .ok (.iinc 1 1, 3) := by decide +kernel
theorem dX7_workOut_59 : decode cX7_workOut 59 = .ok (.goto 69, 3) := by decide +kernel
theorem dX7_workOut_62 : decode cX7_workOut 62 = .ok (.iload_n 3, 1) := by decide +kernel
theorem dX7_workOut_63 : decode cX7_workOut 63 = .ok (.sipush (-256), 3) := by decide +kernel
theorem dX7_workOut_66 : decode cX7_workOut 66 = .ok (.if_icmp .ne 27, 3) := by decide +kernel
theorem dX7_workOut_69 : decode cX7_workOut 69 = .ok (.iload_n 1, 1) := by decide +kernel
theorem dX7_workOut_70 : decode cX7_workOut 70 = .ok (.ifCond .le 23, 3) := by decide +kernel
theorem dX7_workOut_73 : decode cX7_workOut 73 = .ok (.aload_n 0, 1) := by decide +kernel
theorem dX7_workOut_74 : decode cX7_workOut 74 = .ok (.getfield 23, 3) := by decide +kernel
theorem dX7_workOut_77 : decode cX7_workOut 77 = .ok (.iload_n 1, 1) := by decide +kernel
theorem dX7_workOut_78 : decode cX7_workOut 78 = .ok (.iconst 1, 1) := by decide +kernel
theorem dX7_workOut_79 : decode cX7_workOut 79 = .ok (.isub, 1) := by decide +kernel
theorem dX7_workOut_80 : decode cX7_workOut 80 = .ok (.aload_n 0, 1) := by decide +kernel
theorem dX7_workOut_81 : decode cX7_workOut 81 = .ok (.getfield 23, 3) := by decide +kernel
theorem dX7_workOut_84 : decode cX7_workOut 84 = .ok (.iload_n 1, 1) := by decide +kernel
theorem dX7_workOut_85 : decode cX7_workOut 85 = .ok (.iconst 1, 1) := by decide +kernel
theorem dX7_workOut_86 : decode cX7_workOut 86 = .ok (.isub, 1) := by decide +kernel
theorem dX7_workOut_87 : decode cX7_workOut 87 = .ok (.iaload, 1) := by decide +kernel
theorem dX7_workOut_88 : decode cX7_workOut 88 = .ok (.ineg, 1) := by decide +kernel
theorem dX7_workOut_89 : decode cX7_workOut 89 = .ok (.iastore, 1) := by decide +kernel
theorem dX7_workOut_90 : decode cX7_workOut 90 = .ok (.goto 38, 3) := by decide +kernel
theorem dX7_workOut_93 : decode cX7_workOut 93 = .ok (.iload_n 1, 1) := by decide +kernel
theorem dX7_workOut_94 : decode cX7_workOut 94 = .ok (.iconst 1, 1) := by decide +kernel
theorem dX7_workOut_95 : decode cX7_workOut 95 = .ok (.if_icmp .le 33, 3) := by decide +kernel
theorem dX7_workOut_98 : decode cX7_workOut 98 = .ok (.iinc 1 (-1), 3) := by decide +kernel
theorem dX7_workOut_101 : decode cX7_workOut 101 = .ok (.aload_n 0, 1) := by decide +kernel
theorem dX7_workOut_102 : decode cX7_workOut 102 = .ok (.getfield 23, 3) := by decide +kernel
theorem dX7_workOut_105 : decode cX7_workOut 105 = .ok (.iload_n 1, 1) := by decide +kernel
theorem dX7_workOut_106 : decode cX7_workOut 106 = .ok (.iconst 1, 1) := by decide +kernel
theorem dX7_workOut_107 : decode cX7_workOut 107 = .ok (.isub, 1) := by decide +kernel
theorem dX7_workOut_108 : decode cX7_workOut 108 = .ok (.iload_n 3, 1) := by decide +kernel
theorem dX7_workOut_109 : decode cX7_workOut 109 = .ok (.ineg, 1) := by decide +kernel
theorem dX7_workOut_110 : decode cX7_workOut 110 = .ok (.aload_n 0, 1) := by decide +kernel
theorem dX7_workOut_111 : decode cX7_workOut 111 = .ok (.getfield 23, 3) := by decide +kernel
theorem dX7_workOut_114 : decode cX7_workOut 114 = .ok (.iload_n 1, 1) := by decide +kernel
theorem dX7_workOut_115 : decode cX7_workOut 115 = .ok (.iconst 1, 1) := by decide +kernel
theorem dX7_workOut_116 : decode cX7_workOut 116 = .ok (.isub, 1) := by decide +kernel
theorem dX7_workOut_117 : decode cX7_workOut 117 = .ok (.iaload, 1) := by decide +kernel
theorem dX7_workOut_118 : decode cX7_workOut 118 = .ok (.aload_n 0, 1) := by decide +kernel
theorem dX7_workOut_119 : decode cX7_workOut 119 = .ok (.getfield 23, 3) := by decide +kernel
theorem dX7_workOut_122 : decode cX7_workOut 122 = .ok (.iload_n 1, 1) := by decide +kernel
theorem dX7_workOut_123 : decode cX7_workOut 123 = .ok (.iaload, 1) := by decide +kernel
theorem dX7_workOut_124 : decode cX7_workOut 124 = .ok (.invokestatic 105, 3) := by decide +kernel
theorem dX7_workOut_127 : decode cX7_workOut 127 = .ok (.iastore, 1) := by decide +kernel
theorem dX7_workOut_128 : decode cX7_workOut 128 = .ok (.iinc 2 1, 3) := by decide +kernel
theorem dX7_workOut_131 : decode cX7_workOut 131 = .ok (.goto (-118), 3) := by decide +kernel
theorem dX7_workOut_134 : decode cX7_workOut 134 = .ok (.iconst 1, 1) := by decide +kernel
theorem dX7_workOut_135 : decode cX7_workOut 135 = .ok (.sipush 9999, 3) := by decide +kernel
theorem dX7_workOut_138 : decode cX7_workOut 138 = .ok (.aload_n 0, 1) := by decide +kernel
theorem dX7_workOut_139 : decode cX7_workOut 139 = .ok (.getfield 23, 3) := by decide +kernel
theorem dX7_workOut_142 : decode cX7_workOut 142 = .ok (.iconst 0, 1) := by decide +kernel
theorem dX7_workOut_143 : decode cX7_workOut 143 = .ok (.iaload, 1) := by decide +kernel
theorem dX7_workOut_144 : decode cX7_workOut 144 = .ok (.invokestatic 33, 3) := by decide +kernel
theorem dX7_workOut_147 : decode cX7_workOut 147 = .ok (.invokestatic 109, 3) := by decide +kernel
theorem dX7_workOut_150 : decode cX7_workOut 150 = .ok (.ireturn, 1) := by decide +kernel
set_option maxRecDepth 100000 in
set_option maxHeartbeats 4000000 in
theorem B_X7_workOut_0 {κ : Nat → List Value → List Value → m2M → Prop} {D : Nat} {Q : Option Value → m2M → Prop} (h : m2_RL κ cX7_workOut RX7 4 D (some .int) Q)  {μ : m2M} (k : (¬ (μ.1 kE 2) = 0 → κ 13 [.ref kE, .int 0, .int 0, .null] [] μ) ∧ ((μ.1 kE 2) = 0 → Q (some (.int 1)) μ)) : κ 0 [.ref kE, .null, .null, .null] [] μ := by
  have hB := h.b
  refine m2_aload_n hB dX7_workOut_0 rfl ?_
  refine m2_getI hB dX7_workOut_1 fl_X7_76 sh_kE rfl ?_
  refine m2_if_ne hB dX7_workOut_4 (tgt := 9) (by decide) (fun q1 : ¬ (μ.1 kE 2) = 0 => ?_) (fun q1 : (μ.1 kE 2) = 0 => ?_)
  · replace k := k.1 q1
    refine m2_iconst hB dX7_workOut_9 (v := 0) (by decide) ?_
    refine m2_istore_n hB (ls' := [.ref kE, .int 0, .null, .null]) dX7_workOut_10 rfl (by decide) rfl ?_
    refine m2_iconst hB dX7_workOut_11 (v := 0) (by decide) ?_
    refine m2_istore_n hB (ls' := [.ref kE, .int 0, .int 0, .null]) dX7_workOut_12 rfl (by decide) rfl ?_
    exact k
  · replace k := k.2 q1
    refine m2_iconst hB dX7_workOut_7 (v := 1) (by decide) ?_
    exact m2_iret h dX7_workOut_8 k
set_option maxRecDepth 100000 in
set_option maxHeartbeats 4000000 in
theorem B_X7_workOut_13 {κ : Nat → List Value → List Value → m2M → Prop} {D : Nat} {Q : Option Value → m2M → Prop} (h : m2_RL κ cX7_workOut RX7 4 (D + 1) (some .int) Q) (hD : 0 ≤ D) {v1 : Int32} {v2 : Int32} {μ : m2M} (k : ((μ.1 kE 2) ≤ v2 → Q (some (.int (m2_max 1 (m2_min 9999 (μ.1 kE_stack ((0 : Int32)).toNatClampNeg))))) μ) ∧ (¬ (μ.1 kE 2) ≤ v2 → (vp_in v2 40) ∧ (((μ.1 kE_code (v2).toNatClampNeg) < (-6) → (¬ (μ.1 kE_code (v2).toNatClampNeg) = (-256) → (v1 ≤ 1 → κ 13 [.ref kE, .int v1, .int (v2 + 1), .null] [] μ) ∧ (¬ v1 ≤ 1 → (vp_in ((v1 + (-1)) - 1) 40) ∧ ((vp_in (v1 + (-1)) 40) ∧ (∃ Q15 : Option Value → m2M → Prop, m2_MT D yX7_joined cX7_joined 3 (some .int) [.int (-(μ.1 kE_code (v2).toNatClampNeg)), .int (μ.1 kE_stack (((v1 + (-1)) - 1)).toNatClampNeg), .int (μ.1 kE_stack ((v1 + (-1))).toNatClampNeg)] μ Q15 ∧ ∀ (y13 : Int32) (μ14 : m2M), Q15 (some (.int y13)) μ14 → (κ 13 [.ref kE, .int (v1 + (-1)), .int (v2 + 1), .null] [] (m2_si μ14 kE_stack (((v1 + (-1)) - 1)).toNatClampNeg y13)))))) ∧ ((μ.1 kE_code (v2).toNatClampNeg) = (-256) → (v1 ≤ 0 → (v1 ≤ 1 → κ 13 [.ref kE, .int v1, .int (v2 + 1), .null] [] μ) ∧ (¬ v1 ≤ 1 → (vp_in ((v1 + (-1)) - 1) 40) ∧ ((vp_in (v1 + (-1)) 40) ∧ (∃ Q27 : Option Value → m2M → Prop, m2_MT D yX7_joined cX7_joined 3 (some .int) [.int (-(μ.1 kE_code (v2).toNatClampNeg)), .int (μ.1 kE_stack (((v1 + (-1)) - 1)).toNatClampNeg), .int (μ.1 kE_stack ((v1 + (-1))).toNatClampNeg)] μ Q27 ∧ ∀ (y25 : Int32) (μ26 : m2M), Q27 (some (.int y25)) μ26 → (κ 13 [.ref kE, .int (v1 + (-1)), .int (v2 + 1), .null] [] (m2_si μ26 kE_stack (((v1 + (-1)) - 1)).toNatClampNeg y25)))))) ∧ (¬ v1 ≤ 0 → (vp_in (v1 - 1) 40) ∧ (κ 13 [.ref kE, .int v1, .int (v2 + 1), .null] [] (m2_si μ kE_stack ((v1 - 1)).toNatClampNeg (-(μ.1 kE_stack ((v1 - 1)).toNatClampNeg))))))) ∧ (¬ (μ.1 kE_code (v2).toNatClampNeg) < (-6) → ((μ.1 kE_code (v2).toNatClampNeg) < 0 → (vp_in (((-1) : Int32) - (μ.1 kE_code (v2).toNatClampNeg)) 6) ∧ ((vp_in v1 40) ∧ (κ 13 [.ref kE, .int (v1 + 1), .int (v2 + 1), .null] [] (m2_si μ kE_stack (v1).toNatClampNeg (μ.1 kE_known ((((-1) : Int32) - (μ.1 kE_code (v2).toNatClampNeg))).toNatClampNeg))))) ∧ (¬ (μ.1 kE_code (v2).toNatClampNeg) < 0 → (vp_in v1 40) ∧ (κ 13 [.ref kE, .int (v1 + 1), .int (v2 + 1), .null] [] (m2_si μ kE_stack (v1).toNatClampNeg (μ.1 kE_code (v2).toNatClampNeg)))))))) : κ 13 [.ref kE, .int v1, .int v2, .null] [] μ := by
  have hB := h.b
  refine m2_iload_n hB dX7_workOut_13 rfl ?_
  refine m2_aload_n hB dX7_workOut_14 rfl ?_
  refine m2_getI hB dX7_workOut_15 fl_X7_76 sh_kE rfl ?_
  refine m2_icmp_ge hB dX7_workOut_18 (tgt := 134) (by decide) (fun q2 : (μ.1 kE 2) ≤ v2 => ?_) (fun q2 : ¬ (μ.1 kE 2) ≤ v2 => ?_)
  · replace k := k.1 q2
    refine m2_iconst hB dX7_workOut_134 (v := 1) (by decide) ?_
    refine m2_sipush hB dX7_workOut_135 (v := 9999) (by decide) ?_
    refine m2_aload_n hB dX7_workOut_138 rfl ?_
    refine m2_getR hB dX7_workOut_139 fl_X7_23 sh_kE (c1 := kE_stack) rfl ?_
    refine m2_iconst hB dX7_workOut_142 (v := 0) (by decide) ?_
    refine m2_iald hB dX7_workOut_143 sh_kE_stack (vp_in_iff.mpr ⟨by decide, by decide⟩) ?_
    refine m2_mmin hB dX7_workOut_144 ms_X7_33 (Nat.le_of_ble_eq_true rfl) ?_
    refine m2_mmax hB dX7_workOut_147 ms_X7_109 (Nat.le_of_ble_eq_true rfl) ?_
    exact m2_iret h dX7_workOut_150 k
  · replace k := k.2 q2
    refine m2_aload_n hB dX7_workOut_21 rfl ?_
    refine m2_getR hB dX7_workOut_22 fl_X7_9 sh_kE (c1 := kE_code) rfl ?_
    refine m2_iload_n hB dX7_workOut_25 rfl ?_
    obtain ⟨hi4, k⟩ := k
    refine m2_iald hB dX7_workOut_26 sh_kE_code hi4 ?_
    refine m2_istore_n hB (ls' := [.ref kE, .int v1, .int v2, .int (μ.1 kE_code (v2).toNatClampNeg)]) dX7_workOut_27 rfl (by decide) rfl ?_
    refine m2_iload_n hB dX7_workOut_28 rfl ?_
    refine m2_bipush hB dX7_workOut_29 (v := (-6)) (by decide) ?_
    refine m2_icmp_lt hB dX7_workOut_31 (tgt := 62) (by decide) (fun q6 : (μ.1 kE_code (v2).toNatClampNeg) < (-6) => ?_) (fun q6 : ¬ (μ.1 kE_code (v2).toNatClampNeg) < (-6) => ?_)
    · replace k := k.1 q6
      refine m2_iload_n hB dX7_workOut_62 rfl ?_
      refine m2_sipush hB dX7_workOut_63 (v := (-256)) (by decide) ?_
      refine m2_icmp_ne hB dX7_workOut_66 (tgt := 93) (by decide) (fun q8 : ¬ (μ.1 kE_code (v2).toNatClampNeg) = (-256) => ?_) (fun q8 : (μ.1 kE_code (v2).toNatClampNeg) = (-256) => ?_)
      · replace k := k.1 q8
        refine m2_iload_n hB dX7_workOut_93 rfl ?_
        refine m2_iconst hB dX7_workOut_94 (v := 1) (by decide) ?_
        refine m2_icmp_le hB dX7_workOut_95 (tgt := 128) (by decide) (fun q10 : v1 ≤ 1 => ?_) (fun q10 : ¬ v1 ≤ 1 => ?_)
        · replace k := k.1 q10
          refine m2_iinc hB (ls' := [.ref kE, .int v1, .int (v2 + 1), .int (μ.1 kE_code (v2).toNatClampNeg)]) (v := (v2 + 1)) dX7_workOut_128 rfl (by decide) rfl rfl ?_
          refine m2_goto hB dX7_workOut_131 (tgt := 13) (by decide) ?_
          exact m2_weak (ls' := [.ref kE, .int v1, .int (v2 + 1), .null]) hB ⟨Or.inr rfl, Or.inr rfl, Or.inr rfl, Or.inl rfl, trivial⟩ k
        · replace k := k.2 q10
          refine m2_iinc hB (ls' := [.ref kE, .int (v1 + (-1)), .int v2, .int (μ.1 kE_code (v2).toNatClampNeg)]) (v := (v1 + (-1))) dX7_workOut_98 rfl (by decide) rfl rfl ?_
          refine m2_aload_n hB dX7_workOut_101 rfl ?_
          refine m2_getR hB dX7_workOut_102 fl_X7_23 sh_kE (c1 := kE_stack) rfl ?_
          refine m2_iload_n hB dX7_workOut_105 rfl ?_
          refine m2_iconst hB dX7_workOut_106 (v := 1) (by decide) ?_
          refine m2_isub hB dX7_workOut_107 ?_
          refine m2_iload_n hB dX7_workOut_108 rfl ?_
          refine m2_ineg hB dX7_workOut_109 ?_
          refine m2_aload_n hB dX7_workOut_110 rfl ?_
          refine m2_getR hB dX7_workOut_111 fl_X7_23 sh_kE (c1 := kE_stack) rfl ?_
          refine m2_iload_n hB dX7_workOut_114 rfl ?_
          refine m2_iconst hB dX7_workOut_115 (v := 1) (by decide) ?_
          refine m2_isub hB dX7_workOut_116 ?_
          obtain ⟨hi11, k⟩ := k
          refine m2_iald hB dX7_workOut_117 sh_kE_stack hi11 ?_
          refine m2_aload_n hB dX7_workOut_118 rfl ?_
          refine m2_getR hB dX7_workOut_119 fl_X7_23 sh_kE (c1 := kE_stack) rfl ?_
          refine m2_iload_n hB dX7_workOut_122 rfl ?_
          obtain ⟨hi12, k⟩ := k
          refine m2_iald hB dX7_workOut_123 sh_kE_stack hi12 ?_
          obtain ⟨Q15, hM16, k⟩ := k
          refine m2_invSi hB (as := [.int (-(μ.1 kE_code (v2).toNatClampNeg)), .int (μ.1 kE_stack (((v1 + (-1)) - 1)).toNatClampNeg), .int (μ.1 kE_stack ((v1 + (-1))).toNatClampNeg)]) dX7_workOut_124 ms_X7_105 rfl (Nat.le_of_ble_eq_true rfl) rfl hM16 (fun y13 μ14 hq17 => ?_)
          replace k := k y13 μ14 hq17
          have hi18 := hi11
          refine m2_iast hB dX7_workOut_127 sh_kE_stack hi18 ?_
          refine m2_iinc hB (ls' := [.ref kE, .int (v1 + (-1)), .int (v2 + 1), .int (μ.1 kE_code (v2).toNatClampNeg)]) (v := (v2 + 1)) dX7_workOut_128 rfl (by decide) rfl rfl ?_
          refine m2_goto hB dX7_workOut_131 (tgt := 13) (by decide) ?_
          exact m2_weak (ls' := [.ref kE, .int (v1 + (-1)), .int (v2 + 1), .null]) hB ⟨Or.inr rfl, Or.inr rfl, Or.inr rfl, Or.inl rfl, trivial⟩ k
      · replace k := k.2 q8
        refine m2_iload_n hB dX7_workOut_69 rfl ?_
        refine m2_if_le hB dX7_workOut_70 (tgt := 93) (by decide) (fun q20 : v1 ≤ 0 => ?_) (fun q20 : ¬ v1 ≤ 0 => ?_)
        · replace k := k.1 q20
          refine m2_iload_n hB dX7_workOut_93 rfl ?_
          refine m2_iconst hB dX7_workOut_94 (v := 1) (by decide) ?_
          refine m2_icmp_le hB dX7_workOut_95 (tgt := 128) (by decide) (fun q22 : v1 ≤ 1 => ?_) (fun q22 : ¬ v1 ≤ 1 => ?_)
          · replace k := k.1 q22
            refine m2_iinc hB (ls' := [.ref kE, .int v1, .int (v2 + 1), .int (μ.1 kE_code (v2).toNatClampNeg)]) (v := (v2 + 1)) dX7_workOut_128 rfl (by decide) rfl rfl ?_
            refine m2_goto hB dX7_workOut_131 (tgt := 13) (by decide) ?_
            exact m2_weak (ls' := [.ref kE, .int v1, .int (v2 + 1), .null]) hB ⟨Or.inr rfl, Or.inr rfl, Or.inr rfl, Or.inl rfl, trivial⟩ k
          · replace k := k.2 q22
            refine m2_iinc hB (ls' := [.ref kE, .int (v1 + (-1)), .int v2, .int (μ.1 kE_code (v2).toNatClampNeg)]) (v := (v1 + (-1))) dX7_workOut_98 rfl (by decide) rfl rfl ?_
            refine m2_aload_n hB dX7_workOut_101 rfl ?_
            refine m2_getR hB dX7_workOut_102 fl_X7_23 sh_kE (c1 := kE_stack) rfl ?_
            refine m2_iload_n hB dX7_workOut_105 rfl ?_
            refine m2_iconst hB dX7_workOut_106 (v := 1) (by decide) ?_
            refine m2_isub hB dX7_workOut_107 ?_
            refine m2_iload_n hB dX7_workOut_108 rfl ?_
            refine m2_ineg hB dX7_workOut_109 ?_
            refine m2_aload_n hB dX7_workOut_110 rfl ?_
            refine m2_getR hB dX7_workOut_111 fl_X7_23 sh_kE (c1 := kE_stack) rfl ?_
            refine m2_iload_n hB dX7_workOut_114 rfl ?_
            refine m2_iconst hB dX7_workOut_115 (v := 1) (by decide) ?_
            refine m2_isub hB dX7_workOut_116 ?_
            obtain ⟨hi23, k⟩ := k
            refine m2_iald hB dX7_workOut_117 sh_kE_stack hi23 ?_
            refine m2_aload_n hB dX7_workOut_118 rfl ?_
            refine m2_getR hB dX7_workOut_119 fl_X7_23 sh_kE (c1 := kE_stack) rfl ?_
            refine m2_iload_n hB dX7_workOut_122 rfl ?_
            obtain ⟨hi24, k⟩ := k
            refine m2_iald hB dX7_workOut_123 sh_kE_stack hi24 ?_
            obtain ⟨Q27, hM28, k⟩ := k
            refine m2_invSi hB (as := [.int (-(μ.1 kE_code (v2).toNatClampNeg)), .int (μ.1 kE_stack (((v1 + (-1)) - 1)).toNatClampNeg), .int (μ.1 kE_stack ((v1 + (-1))).toNatClampNeg)]) dX7_workOut_124 ms_X7_105 rfl (Nat.le_of_ble_eq_true rfl) rfl hM28 (fun y25 μ26 hq29 => ?_)
            replace k := k y25 μ26 hq29
            have hi30 := hi23
            refine m2_iast hB dX7_workOut_127 sh_kE_stack hi30 ?_
            refine m2_iinc hB (ls' := [.ref kE, .int (v1 + (-1)), .int (v2 + 1), .int (μ.1 kE_code (v2).toNatClampNeg)]) (v := (v2 + 1)) dX7_workOut_128 rfl (by decide) rfl rfl ?_
            refine m2_goto hB dX7_workOut_131 (tgt := 13) (by decide) ?_
            exact m2_weak (ls' := [.ref kE, .int (v1 + (-1)), .int (v2 + 1), .null]) hB ⟨Or.inr rfl, Or.inr rfl, Or.inr rfl, Or.inl rfl, trivial⟩ k
        · replace k := k.2 q20
          refine m2_aload_n hB dX7_workOut_73 rfl ?_
          refine m2_getR hB dX7_workOut_74 fl_X7_23 sh_kE (c1 := kE_stack) rfl ?_
          refine m2_iload_n hB dX7_workOut_77 rfl ?_
          refine m2_iconst hB dX7_workOut_78 (v := 1) (by decide) ?_
          refine m2_isub hB dX7_workOut_79 ?_
          refine m2_aload_n hB dX7_workOut_80 rfl ?_
          refine m2_getR hB dX7_workOut_81 fl_X7_23 sh_kE (c1 := kE_stack) rfl ?_
          refine m2_iload_n hB dX7_workOut_84 rfl ?_
          refine m2_iconst hB dX7_workOut_85 (v := 1) (by decide) ?_
          refine m2_isub hB dX7_workOut_86 ?_
          obtain ⟨hi31, k⟩ := k
          refine m2_iald hB dX7_workOut_87 sh_kE_stack hi31 ?_
          refine m2_ineg hB dX7_workOut_88 ?_
          have hi32 := hi31
          refine m2_iast hB dX7_workOut_89 sh_kE_stack hi32 ?_
          refine m2_goto hB dX7_workOut_90 (tgt := 128) (by decide) ?_
          refine m2_iinc hB (ls' := [.ref kE, .int v1, .int (v2 + 1), .int (μ.1 kE_code (v2).toNatClampNeg)]) (v := (v2 + 1)) dX7_workOut_128 rfl (by decide) rfl rfl ?_
          refine m2_goto hB dX7_workOut_131 (tgt := 13) (by decide) ?_
          exact m2_weak (ls' := [.ref kE, .int v1, .int (v2 + 1), .null]) hB ⟨Or.inr rfl, Or.inr rfl, Or.inr rfl, Or.inl rfl, trivial⟩ k
    · replace k := k.2 q6
      refine m2_aload_n hB dX7_workOut_34 rfl ?_
      refine m2_getR hB dX7_workOut_35 fl_X7_23 sh_kE (c1 := kE_stack) rfl ?_
      refine m2_iload_n hB dX7_workOut_38 rfl ?_
      refine m2_iload_n hB dX7_workOut_39 rfl ?_
      refine m2_if_lt hB dX7_workOut_40 (tgt := 47) (by decide) (fun q34 : (μ.1 kE_code (v2).toNatClampNeg) < 0 => ?_) (fun q34 : ¬ (μ.1 kE_code (v2).toNatClampNeg) < 0 => ?_)
      · replace k := k.1 q34
        refine m2_aload_n hB dX7_workOut_47 rfl ?_
        refine m2_getR hB dX7_workOut_48 fl_X7_26 sh_kE (c1 := kE_known) rfl ?_
        refine m2_iconst hB dX7_workOut_51 (v := (-1)) (by decide) ?_
        refine m2_iload_n hB dX7_workOut_52 rfl ?_
        refine m2_isub hB dX7_workOut_53 ?_
        obtain ⟨hi35, k⟩ := k
        refine m2_iald hB dX7_workOut_54 sh_kE_known hi35 ?_
        obtain ⟨hi36, k⟩ := k
        refine m2_iast hB dX7_workOut_55 sh_kE_stack hi36 ?_
        refine m2_iinc hB (ls' := [.ref kE, .int (v1 + 1), .int v2, .int (μ.1 kE_code (v2).toNatClampNeg)]) (v := (v1 + 1)) dX7_workOut_56 rfl (by decide) rfl rfl ?_
        refine m2_goto hB dX7_workOut_59 (tgt := 128) (by decide) ?_
        refine m2_iinc hB (ls' := [.ref kE, .int (v1 + 1), .int (v2 + 1), .int (μ.1 kE_code (v2).toNatClampNeg)]) (v := (v2 + 1)) dX7_workOut_128 rfl (by decide) rfl rfl ?_
        refine m2_goto hB dX7_workOut_131 (tgt := 13) (by decide) ?_
        exact m2_weak (ls' := [.ref kE, .int (v1 + 1), .int (v2 + 1), .null]) hB ⟨Or.inr rfl, Or.inr rfl, Or.inr rfl, Or.inl rfl, trivial⟩ k
      · replace k := k.2 q34
        refine m2_iload_n hB dX7_workOut_43 rfl ?_
        refine m2_goto hB dX7_workOut_44 (tgt := 55) (by decide) ?_
        obtain ⟨hi37, k⟩ := k
        refine m2_iast hB dX7_workOut_55 sh_kE_stack hi37 ?_
        refine m2_iinc hB (ls' := [.ref kE, .int (v1 + 1), .int v2, .int (μ.1 kE_code (v2).toNatClampNeg)]) (v := (v1 + 1)) dX7_workOut_56 rfl (by decide) rfl rfl ?_
        refine m2_goto hB dX7_workOut_59 (tgt := 128) (by decide) ?_
        refine m2_iinc hB (ls' := [.ref kE, .int (v1 + 1), .int (v2 + 1), .int (μ.1 kE_code (v2).toNatClampNeg)]) (v := (v2 + 1)) dX7_workOut_128 rfl (by decide) rfl rfl ?_
        refine m2_goto hB dX7_workOut_131 (tgt := 13) (by decide) ?_
        exact m2_weak (ls' := [.ref kE, .int (v1 + 1), .int (v2 + 1), .null]) hB ⟨Or.inr rfl, Or.inr rfl, Or.inr rfl, Or.inl rfl, trivial⟩ k
theorem dX7_joined_0 : decode cX7_joined 0 = .ok (.iload_n 0, 1) := by decide +kernel
theorem dX7_joined_1 : decode cX7_joined 1 = .ok (.lookupswitch 92 #[(43, 84), (45, 88), (60, 51), (61, 73), (62, 62)], 51) := by decide +kernel
theorem dX7_joined_52 : decode cX7_joined 52 = .ok (.iload_n 1, 1) := by decide +kernel
theorem dX7_joined_53 : decode cX7_joined 53 = .ok (.iload_n 2, 1) := by decide +kernel
theorem dX7_joined_54 : decode cX7_joined 54 = .ok (.if_icmp .ge 7, 3) := by decide +kernel
theorem dX7_joined_57 : decode cX7_joined 57 = .ok (.iconst 1, 1) := by decide +kernel
theorem dX7_joined_58 : decode cX7_joined 58 = .ok (.goto 4, 3) := by decide +kernel
theorem dX7_joined_61 : decode cX7_joined 61 = .ok (.iconst 0, 1) := by decide +kernel
theorem dX7_joined_62 : decode cX7_joined 62 = .ok (.ireturn, 1) := by decide +kernel
theorem dX7_joined_63 : decode cX7_joined 63 = .ok (.iload_n 1, 1) := by decide +kernel
theorem dX7_joined_64 : decode cX7_joined 64 = .ok (.iload_n 2, 1) := by decide +kernel
theorem dX7_joined_65 : decode cX7_joined 65 = .ok (.if_icmp .le 7, 3) := by decide +kernel
theorem dX7_joined_68 : decode cX7_joined 68 = .ok (.iconst 1, 1) := by decide +kernel
theorem dX7_joined_69 : decode cX7_joined 69 = .ok (.goto 4, 3) := by decide +kernel
theorem dX7_joined_72 : decode cX7_joined 72 = .ok (.iconst 0, 1) := by decide +kernel
theorem dX7_joined_73 : decode cX7_joined 73 = .ok (.ireturn, 1) := by decide +kernel
theorem dX7_joined_74 : decode cX7_joined 74 = .ok (.iload_n 1, 1) := by decide +kernel
theorem dX7_joined_75 : decode cX7_joined 75 = .ok (.iload_n 2, 1) := by decide +kernel
theorem dX7_joined_76 : decode cX7_joined 76 = .ok (.if_icmp .ne 7, 3) := by decide +kernel
theorem dX7_joined_79 : decode cX7_joined 79 = .ok (.iconst 1, 1) := by decide +kernel
theorem dX7_joined_80 : decode cX7_joined 80 = .ok (.goto 4, 3) := by decide +kernel
theorem dX7_joined_83 : decode cX7_joined 83 = .ok (.iconst 0, 1) := by decide +kernel
theorem dX7_joined_84 : decode cX7_joined 84 = .ok (.ireturn, 1) := by decide +kernel
theorem dX7_joined_85 : decode cX7_joined 85 = .ok (.iload_n 1, 1) := by decide +kernel
theorem dX7_joined_86 : decode cX7_joined 86 = .ok (.iload_n 2, 1) := by decide +kernel
theorem dX7_joined_87 : decode cX7_joined 87 = .ok (.iadd, 1) := by decide +kernel
theorem dX7_joined_88 : decode cX7_joined 88 = .ok (.ireturn, 1) := by decide +kernel
theorem dX7_joined_89 : decode cX7_joined 89 = .ok (.iload_n 1, 1) := by decide +kernel
theorem dX7_joined_90 : decode cX7_joined 90 = .ok (.iload_n 2, 1) := by decide +kernel
theorem dX7_joined_91 : decode cX7_joined 91 = .ok (.isub, 1) := by decide +kernel
theorem dX7_joined_92 : decode cX7_joined 92 = .ok (.ireturn, 1) := by decide +kernel
theorem dX7_joined_93 : decode cX7_joined 93 = .ok (.iload_n 1, 1) := by decide +kernel
theorem dX7_joined_94 : decode cX7_joined 94 = .ok (.iload_n 2, 1) := by decide +kernel
theorem dX7_joined_95 : decode cX7_joined 95 = .ok (.imul, 1) := by decide +kernel
theorem dX7_joined_96 : decode cX7_joined 96 = .ok (.ireturn, 1) := by decide +kernel
set_option maxRecDepth 100000 in
set_option maxHeartbeats 4000000 in
theorem B_X7_joined_0 {κ : Nat → List Value → List Value → m2M → Prop} {D : Nat} {Q : Option Value → m2M → Prop} (h : m2_RL κ cX7_joined RX7 3 D (some .int) Q) {x1 : Int32} {x2 : Int32} {x3 : Int32} {μ : m2M} (k : (x1 = 43 → Q (some (.int (x2 + x3))) μ) ∧ (¬ x1 = 43 → (x1 = 45 → Q (some (.int (x2 - x3))) μ) ∧ (¬ x1 = 45 → (x1 = 60 → Q (some (.int (if x3 ≤ x2 then 0 else 1 : Int32))) μ) ∧ (¬ x1 = 60 → (x1 = 61 → Q (some (.int (if x2 = x3 then 1 else 0 : Int32))) μ) ∧ (¬ x1 = 61 → (x1 = 62 → Q (some (.int (if x2 ≤ x3 then 0 else 1 : Int32))) μ) ∧ (¬ x1 = 62 → Q (some (.int (x2 * x3))) μ)))))) : κ 0 [.int x1, .int x2, .int x3] [] μ := by
  have hB := h.b
  refine m2_iload_n hB dX7_joined_0 rfl ?_
  by_cases q1 : x1 = 43
  · replace k := k.1 q1
    refine m2_lookup hB dX7_joined_1 (off := 84) (tgt := 85) (by decide) (by rw [q1]; decide) (by decide) ?_
    refine m2_iload_n hB dX7_joined_85 rfl ?_
    refine m2_iload_n hB dX7_joined_86 rfl ?_
    refine m2_iadd hB dX7_joined_87 ?_
    exact m2_iret h dX7_joined_88 k
  replace k := k.2 q1
  by_cases q2 : x1 = 45
  · replace k := k.1 q2
    refine m2_lookup hB dX7_joined_1 (off := 88) (tgt := 89) (by decide) (by rw [q2]; decide) (by decide) ?_
    refine m2_iload_n hB dX7_joined_89 rfl ?_
    refine m2_iload_n hB dX7_joined_90 rfl ?_
    refine m2_isub hB dX7_joined_91 ?_
    exact m2_iret h dX7_joined_92 k
  replace k := k.2 q2
  by_cases q3 : x1 = 60
  · replace k := k.1 q3
    refine m2_lookup hB dX7_joined_1 (off := 51) (tgt := 52) (by decide) (by rw [q3]; decide) (by decide) ?_
    refine m2_iload_n hB dX7_joined_52 rfl ?_
    refine m2_iload_n hB dX7_joined_53 rfl ?_
    have G5 : κ 62 [.int x1, .int x2, .int x3] [.int (if x3 ≤ x2 then 0 else 1 : Int32)] μ := by
      exact m2_iret h dX7_joined_62 k
    refine m2_icmp_ge hB dX7_joined_54 (tgt := 61) (by decide) (fun q4 : x3 ≤ x2 => ?_) (fun q4 : ¬ x3 ≤ x2 => ?_)
    · rw [if_pos q4] at G5
      refine m2_iconst hB dX7_joined_61 (v := 0) (by decide) ?_
      exact G5
    · rw [if_neg q4] at G5
      refine m2_iconst hB dX7_joined_57 (v := 1) (by decide) ?_
      refine m2_goto hB dX7_joined_58 (tgt := 62) (by decide) ?_
      exact G5
  replace k := k.2 q3
  by_cases q6 : x1 = 61
  · replace k := k.1 q6
    refine m2_lookup hB dX7_joined_1 (off := 73) (tgt := 74) (by decide) (by rw [q6]; decide) (by decide) ?_
    refine m2_iload_n hB dX7_joined_74 rfl ?_
    refine m2_iload_n hB dX7_joined_75 rfl ?_
    have G8 : κ 84 [.int x1, .int x2, .int x3] [.int (if x2 = x3 then 1 else 0 : Int32)] μ := by
      exact m2_iret h dX7_joined_84 k
    refine m2_icmp_ne hB dX7_joined_76 (tgt := 83) (by decide) (fun q7 : ¬ x2 = x3 => ?_) (fun q7 : x2 = x3 => ?_)
    · rw [if_neg q7] at G8
      refine m2_iconst hB dX7_joined_83 (v := 0) (by decide) ?_
      exact G8
    · rw [if_pos q7] at G8
      refine m2_iconst hB dX7_joined_79 (v := 1) (by decide) ?_
      refine m2_goto hB dX7_joined_80 (tgt := 84) (by decide) ?_
      exact G8
  replace k := k.2 q6
  by_cases q9 : x1 = 62
  · replace k := k.1 q9
    refine m2_lookup hB dX7_joined_1 (off := 62) (tgt := 63) (by decide) (by rw [q9]; decide) (by decide) ?_
    refine m2_iload_n hB dX7_joined_63 rfl ?_
    refine m2_iload_n hB dX7_joined_64 rfl ?_
    have G11 : κ 73 [.int x1, .int x2, .int x3] [.int (if x2 ≤ x3 then 0 else 1 : Int32)] μ := by
      exact m2_iret h dX7_joined_73 k
    refine m2_icmp_le hB dX7_joined_65 (tgt := 72) (by decide) (fun q10 : x2 ≤ x3 => ?_) (fun q10 : ¬ x2 ≤ x3 => ?_)
    · rw [if_pos q10] at G11
      refine m2_iconst hB dX7_joined_72 (v := 0) (by decide) ?_
      exact G11
    · rw [if_neg q10] at G11
      refine m2_iconst hB dX7_joined_68 (v := 1) (by decide) ?_
      refine m2_goto hB dX7_joined_69 (tgt := 73) (by decide) ?_
      exact G11
  replace k := k.2 q9
  refine m2_lookup hB dX7_joined_1 (off := 92) (tgt := 93) (by decide) ((lv_osw q1 (show (43 : Int32).toInt = 43 by decide)).trans ((lv_osw q2 (show (45 : Int32).toInt = 45 by decide)).trans ((lv_osw q3 (show (60 : Int32).toInt = 60 by decide)).trans ((lv_osw q6 (show (61 : Int32).toInt = 61 by decide)).trans ((lv_osw q9 (show (62 : Int32).toInt = 62 by decide)).trans rfl))))) (by decide) ?_
  refine m2_iload_n hB dX7_joined_93 rfl ?_
  refine m2_iload_n hB dX7_joined_94 rfl ?_
  refine m2_imul hB dX7_joined_95 ?_
  exact m2_iret h dX7_joined_96 k
