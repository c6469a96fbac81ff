theorem dX4_search_0 : decode cX4_search 0 = .ok (.aload_n 0, 1) := by decide +kernel
theorem dX4_search_1 : decode cX4_search 1 = .ok (.iload_n 1, 1) := by decide +kernel
theorem dX4_search_2 : decode cX4_search 2 = .ok (.invokevirtual 43, 3) := by decide +kernel
theorem dX4_search_5 : decode cX4_search 5 = .ok (.aload_n 0, 1) := by decide +kernel
theorem dX4_search_6 : decode cX4_search 6 = .ok (.iconst 0, 1) := by decide +kernel
theorem dX4_search_7 : decode cX4_search 7 = .ok (.iconst 0, 1) := by decide +kernel
theorem dX4_search_8 : decode cX4_search 8 = .ok (.invokevirtual 47, 3) := by decide +kernel
theorem dX4_search_11 : decode cX4_search 11 = .ok (.return_, 1) := by decide +kernel
set_option maxRecDepth 100000 in
set_option maxHeartbeats 4000000 in
theorem B_X4_search_0 {κ : Nat → List Value → List Value → m2M → Prop} {D : Nat} {Q : Option Value → m2M → Prop} (h : m2_RL κ cX4_search RX4 2 (D + 1) none Q) {x1 : Int32} {μ : m2M} (k : ∃ Q3 : Option Value → m2M → Prop, m2_MT D yX4_begin cX4_begin 3 none [.ref kO, .int x1] μ Q3 ∧ ∀ (μ2 : m2M), Q3 none μ2 → (∃ Q8 : Option Value → m2M → Prop, m2_MT D yX4_goOn cX4_goOn 8 none [.ref kO, .int 0, .int 0] μ2 Q8 ∧ ∀ (μ7 : m2M), Q8 none μ7 → (Q none μ7))) : κ 0 [.ref kO, .int x1] [] μ := by
  have hB := h.b
  refine m2_aload_n hB dX4_search_0 rfl ?_
  refine m2_iload_n hB dX4_search_1 rfl ?_
  obtain ⟨Q3, hM4, k⟩ := k
  refine m2_invv hB (as := [.int x1]) dX4_search_2 mv_X4_43 rfl sh_kO rfl (Nat.le_of_ble_eq_true rfl) rfl hM4 (fun μ2 hq5 => ?_)
  replace k := k μ2 hq5
  refine m2_aload_n hB dX4_search_5 rfl ?_
  refine m2_iconst hB dX4_search_6 (v := 0) (by decide) ?_
  refine m2_iconst hB dX4_search_7 (v := 0) (by decide) ?_
  obtain ⟨Q8, hM9, k⟩ := k
  refine m2_invv hB (as := [.int 0, .int 0]) dX4_search_8 mv_X4_47 rfl sh_kO rfl (Nat.le_of_ble_eq_true rfl) rfl hM9 (fun μ7 hq10 => ?_)
  replace k := k μ7 hq10
  exact m2_vret h dX4_search_11 k
theorem dX4_begin_0 : decode cX4_begin 0 = .ok (.aload_n 0, 1) := by decide +kernel
theorem dX4_begin_1 : decode cX4_begin 1 = .ok (.iload_n 1, 1) := by decide +kernel
theorem dX4_begin_2 : decode cX4_begin 2 = .ok (.putfield 51, 3) := by decide +kernel
theorem dX4_begin_5 : decode cX4_begin 5 = .ok (.aload_n 0, 1) := by decide +kernel
theorem dX4_begin_6 : decode cX4_begin 6 = .ok (.iconst 0, 1) := by decide +kernel
theorem dX4_begin_7 : decode cX4_begin 7 = .ok (.putfield 55, 3) := by decide +kernel
theorem dX4_begin_10 : decode cX4_begin 10 = .ok (.aload_n 0, 1) := by decide +kernel
theorem dX4_begin_11 : decode cX4_begin 11 = .ok (.aload_n 0, 1) := by decide +kernel
theorem dX4_begin_12 : decode cX4_begin 12 = .ok (.getfield 34, 3) := by decide +kernel
theorem dX4_begin_15 : decode cX4_begin 15 = .ok (.invokevirtual 58, 3) := by decide +kernel
theorem dX4_begin_18 : decode cX4_begin 18 = .ok (.putfield 64, 3) := by decide +kernel
theorem dX4_begin_21 : decode cX4_begin 21 = .ok (.aload_n 0, 1) := by decide +kernel
theorem dX4_begin_22 : decode cX4_begin 22 = .ok (.iconst 0, 1) := by decide +kernel
theorem dX4_begin_23 : decode cX4_begin 23 = .ok (.putfield 67, 3) := by decide +kernel
theorem dX4_begin_26 : decode cX4_begin 26 = .ok (.aload_n 0, 1) := by decide +kernel
theorem dX4_begin_27 : decode cX4_begin 27 = .ok (.iconst 0, 1) := by decide +kernel
theorem dX4_begin_28 : decode cX4_begin 28 = .ok (.putfield 70, 3) := by decide +kernel
theorem dX4_begin_31 : decode cX4_begin 31 = .ok (.aload_n 0, 1) := by decide +kernel
theorem dX4_begin_32 : decode cX4_begin 32 = .ok (.iconst (-1), 1) := by decide +kernel
theorem dX4_begin_33 : decode cX4_begin 33 = .ok (.putfield 73, 3) := by decide +kernel
theorem dX4_begin_36 : decode cX4_begin 36 = .ok (.aload_n 0, 1) := by decide +kernel
theorem dX4_begin_37 : decode cX4_begin 37 = .ok (.iconst 0, 1) := by decide +kernel
theorem dX4_begin_38 : decode cX4_begin 38 = .ok (.putfield 76, 3) := by decide +kernel
theorem dX4_begin_41 : decode cX4_begin 41 = .ok (.iconst 0, 1) := by decide +kernel
theorem dX4_begin_42 : decode cX4_begin 42 = .ok (.istore_n 2, 1) := by decide +kernel
theorem dX4_begin_43 : decode cX4_begin 43 = .ok (.iload_n 2, 1) := by decide +kernel
theorem dX4_begin_44 : decode cX4_begin 44 = .ok (.aload_n 0, 1) := by decide +kernel
theorem dX4_begin_45 : decode cX4_begin 45 = .ok (.getfield 34, 3) := by decide +kernel
theorem dX4_begin_48 : decode cX4_begin 48 = .ok (.getfield 79, 3) := by decide +kernel
theorem dX4_begin_51 : decode cX4_begin 51 = .ok (.if_icmp .ge 118, 3) := by decide +kernel
theorem dX4_begin_54 : decode cX4_begin 54 = .ok (.aload_n 0, 1) := by decide +kernel
theorem dX4_begin_55 : decode cX4_begin 55 = .ok (.getfield 55, 3) := by decide +kernel
theorem dX4_begin_58 : decode cX4_begin 58 = .ok (.bipush 6, 2) := by decide +kernel
theorem dX4_begin_60 : decode cX4_begin 60 = .ok (.if_icmp .ge 109, 3) := by decide +kernel
theorem dX4_begin_63 : decode cX4_begin 63 = .ok (.aload_n 0, 1) := by decide +kernel
theorem dX4_begin_64 : decode cX4_begin 64 = .ok (.getfield 34, 3) := by decide +kernel
theorem dX4_begin_67 : decode cX4_begin 67 = .ok (.iload_n 2, 1) := by decide +kernel
theorem dX4_begin_68 : decode cX4_begin 68 = .ok (.invokevirtual 80, 3) := by decide +kernel
theorem dX4_begin_71 : decode cX4_begin 71 = .ok (.ifCond .eq 92, 3) := by decide +kernel
theorem dX4_begin_74 : decode cX4_begin 74 = .ok (.aload_n 0, 1) := by decide +kernel
theorem dX4_begin_75 : decode cX4_begin 75 = .ok (.getfield 17, 3) := by decide +kernel
theorem dX4_begin_78 : decode cX4_begin 78 = .ok (.aload_n 0, 1) := by decide +kernel
theorem dX4_begin_79 : decode cX4_begin 79 = .ok (.getfield 55, 3) := by decide +kernel
theorem dX4_begin_82 : decode cX4_begin 82 = .ok (.iload_n 2, 1) := by decide +kernel
theorem dX4_begin_83 : decode cX4_begin 83 = .ok (.iastore, 1) := by decide +kernel
theorem dX4_begin_84 : decode cX4_begin 84 = .ok (.aload_n 0, 1) := by decide +kernel
theorem dX4_begin_85 : decode cX4_begin 85 = .ok (.getfield 27, 3) := by decide +kernel
theorem dX4_begin_88 : decode cX4_begin 88 = .ok (.aload_n 0, 1) := by decide +kernel
theorem dX4_begin_89 : decode cX4_begin 89 = .ok (.getfield 55, 3) := by decide +kernel
theorem dX4_begin_92 : decode cX4_begin 92 = .ok (.aload_n 0, 1) := by decide +kernel
theorem dX4_begin_93 : decode cX4_begin 93 = .ok (.getfield 34, 3) := by decide +kernel
theorem dX4_begin_96 : decode cX4_begin 96 = .ok (.getfield 84, 3) := by decide +kernel
theorem dX4_begin_99 : decode cX4_begin 99 = .ok (.iload_n 2, 1) := by decide +kernel
theorem dX4_begin_100 : decode cX4_begin 100 = .ok (.iaload, 1) := by decide +kernel
theorem dX4_begin_101 : decode cX4_begin 101 = .ok (.ifCond .le 14, 3) := by decide +kernel
theorem dX4_begin_104 : decode cX4_begin 104 = .ok (.aload_n 0, 1) := by decide +kernel
theorem dX4_begin_105 : decode cX4_begin 105 = .ok (.getfield 38, 3) := by decide +kernel
theorem dX4_begin_108 : decode cX4_begin 108 = .ok (.iload_n 2, 1) := by decide +kernel
theorem dX4_begin_109 : decode cX4_begin 109 = .ok (.invokevirtual 87, 3) := by decide +kernel
theorem dX4_begin_112 : decode cX4_begin 112 = .ok (.goto 4, 3) := by decide +kernel
theorem dX4_begin_115 : decode cX4_begin 115 = .ok (.iconst 0, 1) := by decide +kernel
theorem dX4_begin_116 : decode cX4_begin 116 = .ok (.iastore, 1) := by decide +kernel
theorem dX4_begin_117 : decode cX4_begin 117 = .ok (.aload_n 0, 1) := by decide +kernel
theorem dX4_begin_118 : decode cX4_begin 118 = .ok (.dup, 1) := by decide +kernel
theorem dX4_begin_119 : decode cX4_begin 119 = .ok (.getfield 70, 3) := by decide +kernel
theorem dX4_begin_122 : decode cX4_begin 122 = .ok (.aload_n 0, 1) := by decide +kernel
theorem dX4_begin_123 : decode cX4_begin 123 = .ok (.getfield 27, 3) := by decide +kernel
theorem dX4_begin_126 : decode cX4_begin 126 = .ok (.aload_n 0, 1) := by decide +kernel
theorem dX4_begin_127 : decode cX4_begin 127 = .ok (.getfield 55, 3) := by decide +kernel
theorem dX4_begin_130 : decode cX4_begin 130 = .ok (.iaload, 1) := by decide +kernel
theorem dX4_begin_131 : decode cX4_begin 131 = .ok (.iadd, 1) := by decide +kernel
theorem dX4_begin_132 : decode cX4_begin 132 = .ok (.putfield 70, 3) := by decide +kernel
theorem dX4_begin_135 : decode cX4_begin 135 = .ok (.aload_n 0, 1) := by decide +kernel
theorem dX4_begin_136 : decode cX4_begin 136 = .ok (.dup, 1) := by decide +kernel
theorem dX4_begin_137 : decode cX4_begin 137 = .ok (.getfield 64, 3) := by decide +kernel
theorem dX4_begin_140 : decode cX4_begin 140 = .ok (.aload_n 0, 1) := by decide +kernel
theorem dX4_begin_141 : decode cX4_begin 141 = .ok (.getfield 34, 3) := by decide +kernel
theorem dX4_begin_144 : decode cX4_begin 144 = .ok (.getfield 84, 3) := by decide +kernel
theorem dX4_begin_147 : decode cX4_begin 147 = .ok (.iload_n 2, 1) := by decide +kernel
theorem dX4_begin_148 : decode cX4_begin 148 = .ok (.iaload, 1) := by decide +kernel
theorem dX4_begin_149 : decode cX4_begin 149 = .ok (.iadd, 1) := by decide +kernel
theorem dX4_begin_150 : decode cX4_begin 150 = .ok (.putfield 64, 3) := by decide +kernel
theorem dX4_begin_153 : decode cX4_begin 153 = .ok (.aload_n 0, 1) := by decide +kernel
theorem dX4_begin_154 : decode cX4_begin 154 = .ok (.dup, 1) := by decide +kernel
theorem dX4_begin_155 : decode cX4_begin 155 = .ok (.getfield 55, 3) := by decide +kernel
theorem dX4_begin_158 : decode cX4_begin 158 = .ok (.iconst 1, 1) := by decide +kernel
theorem dX4_begin_159 : decode cX4_begin 159 = .ok (.iadd, 1) := by decide +kernel
theorem dX4_begin_160 : decode cX4_begin 160 = .ok (.putfield 55, 3) := by decide +kernel
theorem dX4_begin_163 : decode cX4_begin 163 = .ok (.iinc 2 1, 3) := by decide +kernel
theorem dX4_begin_166 : decode cX4_begin 166 = .ok (.goto (-123), 3) := by decide +kernel
theorem dX4_begin_169 : decode cX4_begin 169 = .ok (.return_, 1) := by decide +kernel
set_option maxRecDepth 100000 in
set_option maxHeartbeats 4000000 in
theorem B_X4_begin_0 {κ : Nat → List Value → List Value → m2M → Prop} {D : Nat} {Q : Option Value → m2M → Prop} (h : m2_RL κ cX4_begin RX4 3 (D + 1) none Q) {x1 : Int32} {μ : m2M} (k : ∃ Q3 : Option Value → m2M → Prop, m2_MT D yX6_worthDone cX6_worthDone 3 (some .int) [.ref kP] (m2_si (m2_si μ kO 10 x1) kO 7 0) Q3 ∧ ∀ (y1 : Int32) (μ2 : m2M), Q3 (some (.int y1)) μ2 → (κ 43 [.ref kO, .int x1, .int 0] [] (m2_si (m2_si (m2_si (m2_si (m2_si μ2 kO 11 y1) kO 12 0) kO 14 0) kO 8 (-1)) kO 9 0))) : κ 0 [.ref kO, .int x1, .null] [] μ := by
  have hB := h.b
  refine m2_aload_n hB dX4_begin_0 rfl ?_
  refine m2_iload_n hB dX4_begin_1 rfl ?_
  refine m2_putI hB dX4_begin_2 fl_X4_51 sh_kO rfl ?_
  refine m2_aload_n hB dX4_begin_5 rfl ?_
  refine m2_iconst hB dX4_begin_6 (v := 0) (by decide) ?_
  refine m2_putI hB dX4_begin_7 fl_X4_55 sh_kO rfl ?_
  refine m2_aload_n hB dX4_begin_10 rfl ?_
  refine m2_aload_n hB dX4_begin_11 rfl ?_
  refine m2_getR hB dX4_begin_12 fl_X4_34 sh_kO (c1 := kP) rfl ?_
  obtain ⟨Q3, hM4, k⟩ := k
  refine m2_invi hB (as := []) dX4_begin_15 mv_X4_58 rfl sh_kP rfl (Nat.le_of_ble_eq_true rfl) rfl hM4 (fun y1 μ2 hq5 => ?_)
  replace k := k y1 μ2 hq5
  refine m2_putI hB dX4_begin_18 fl_X4_64 sh_kO rfl ?_
  refine m2_aload_n hB dX4_begin_21 rfl ?_
  refine m2_iconst hB dX4_begin_22 (v := 0) (by decide) ?_
  refine m2_putI hB dX4_begin_23 fl_X4_67 sh_kO rfl ?_
  refine m2_aload_n hB dX4_begin_26 rfl ?_
  refine m2_iconst hB dX4_begin_27 (v := 0) (by decide) ?_
  refine m2_putI hB dX4_begin_28 fl_X4_70 sh_kO rfl ?_
  refine m2_aload_n hB dX4_begin_31 rfl ?_
  refine m2_iconst hB dX4_begin_32 (v := (-1)) (by decide) ?_
  refine m2_putI hB dX4_begin_33 fl_X4_73 sh_kO rfl ?_
  refine m2_aload_n hB dX4_begin_36 rfl ?_
  refine m2_iconst hB dX4_begin_37 (v := 0) (by decide) ?_
  refine m2_putI hB dX4_begin_38 fl_X4_76 sh_kO rfl ?_
  refine m2_iconst hB dX4_begin_41 (v := 0) (by decide) ?_
  refine m2_istore_n hB (ls' := [.ref kO, .int x1, .int 0]) dX4_begin_42 rfl (by decide) rfl ?_
  exact k
set_option maxRecDepth 100000 in
set_option maxHeartbeats 4000000 in
theorem B_X4_begin_43 {κ : Nat → List Value → List Value → m2M → Prop} {D : Nat} {Q : Option Value → m2M → Prop} (h : m2_RL κ cX4_begin RX4 3 (D + 1) none Q) (hD : 0 ≤ D) {v1 : Int32} {v2 : Int32} {μ : m2M} (k : ((μ.1 kP 8) ≤ v2 → Q none μ) ∧ (¬ (μ.1 kP 8) ≤ v2 → (6 ≤ (μ.1 kO 7) → Q none μ) ∧ (¬ 6 ≤ (μ.1 kO 7) → (vp_in v2 8) ∧ (((fX6_isBusy v2 μ) = 1 → (vp_in (μ.1 kO 7) 6) ∧ (((μ.1 kP_worth (v2).toNatClampNeg) ≤ 0 → κ 43 [.ref kO, .int v1, .int (v2 + 1)] [] (m2_si (m2_si (m2_si (m2_si (m2_si μ kO_goers ((μ.1 kO 7)).toNatClampNeg v2) kO_must ((μ.1 kO 7)).toNatClampNeg 0) kO 14 ((μ.1 kO 14) + (((m2_si (m2_si μ kO_goers ((μ.1 kO 7)).toNatClampNeg v2) kO_must ((μ.1 kO 7)).toNatClampNeg 0)).1 kO_must ((μ.1 kO 7)).toNatClampNeg))) kO 11 ((μ.1 kO 11) + (μ.1 kP_worth (v2).toNatClampNeg))) kO 7 ((μ.1 kO 7) + 1))) ∧ (¬ (μ.1 kP_worth (v2).toNatClampNeg) ≤ 0 → ∃ Q16 : Option Value → m2M → Prop, m2_MT D yX10_fewestDoors cX10_fewestDoors 4 (some .int) [.ref kW, .int v2] (m2_si μ kO_goers ((μ.1 kO 7)).toNatClampNeg v2) Q16 ∧ ∀ (y14 : Int32) (μ15 : m2M), Q16 (some (.int y14)) μ15 → ((vp_in (μ15.1 kO 7) 6) ∧ (κ 43 [.ref kO, .int v1, .int (v2 + 1)] [] (m2_si (m2_si (m2_si (m2_si μ15 kO_must ((μ.1 kO 7)).toNatClampNeg y14) kO 14 ((μ15.1 kO 14) + (((m2_si μ15 kO_must ((μ.1 kO 7)).toNatClampNeg y14)).1 kO_must ((μ15.1 kO 7)).toNatClampNeg))) kO 11 ((μ15.1 kO 11) + (μ15.1 kP_worth (v2).toNatClampNeg))) kO 7 ((μ15.1 kO 7) + 1))))))) ∧ (¬ (fX6_isBusy v2 μ) = 1 → κ 43 [.ref kO, .int v1, .int (v2 + 1)] [] μ))))) : κ 43 [.ref kO, .int v1, .int v2] [] μ := by
  have hB := h.b
  refine m2_iload_n hB dX4_begin_43 rfl ?_
  refine m2_aload_n hB dX4_begin_44 rfl ?_
  refine m2_getR hB dX4_begin_45 fl_X4_34 sh_kO (c1 := kP) rfl ?_
  refine m2_getI hB dX4_begin_48 fl_X4_79 sh_kP rfl ?_
  refine m2_icmp_ge hB dX4_begin_51 (tgt := 169) (by decide) (fun q1 : (μ.1 kP 8) ≤ v2 => ?_) (fun q1 : ¬ (μ.1 kP 8) ≤ v2 => ?_)
  · replace k := k.1 q1
    exact m2_vret h dX4_begin_169 k
  · replace k := k.2 q1
    refine m2_aload_n hB dX4_begin_54 rfl ?_
    refine m2_getI hB dX4_begin_55 fl_X4_55 sh_kO rfl ?_
    refine m2_bipush hB dX4_begin_58 (v := 6) (by decide) ?_
    refine m2_icmp_ge hB dX4_begin_60 (tgt := 169) (by decide) (fun q2 : 6 ≤ (μ.1 kO 7) => ?_) (fun q2 : ¬ 6 ≤ (μ.1 kO 7) => ?_)
    · replace k := k.1 q2
      exact m2_vret h dX4_begin_169 k
    · replace k := k.2 q2
      refine m2_aload_n hB dX4_begin_63 rfl ?_
      refine m2_getR hB dX4_begin_64 fl_X4_34 sh_kO (c1 := kP) rfl ?_
      refine m2_iload_n hB dX4_begin_67 rfl ?_
      obtain ⟨hs3, k⟩ := k
      refine m2_invz hB (as := [.int v2]) dX4_begin_68 mv_X4_80 rfl sh_kP rfl (Nat.le_of_ble_eq_true rfl) rfl (P_X6_isBusy (by omega) (v2) _ hs3) (fun y4 μ5 hq6 => ?_)
      obtain ⟨⟨⟩, hq6⟩ := hq6
      subst μ5
      show κ 71 [.ref kO, .int v1, .int v2] [.int (if (fX6_isBusy v2 μ) = 1 then 1 else 0 : Int32)] μ
      by_cases q7 : (fX6_isBusy v2 μ) = 1
      · rw [if_pos q7]
        replace k := k.1 q7
        refine m2_if_eq hB dX4_begin_71 (tgt := 163) (by decide) (fun q => absurd q (by decide)) (fun _ => ?_)
        refine m2_aload_n hB dX4_begin_74 rfl ?_
        refine m2_getR hB dX4_begin_75 fl_X4_17 sh_kO (c1 := kO_goers) rfl ?_
        refine m2_aload_n hB dX4_begin_78 rfl ?_
        refine m2_getI hB dX4_begin_79 fl_X4_55 sh_kO rfl ?_
        refine m2_iload_n hB dX4_begin_82 rfl ?_
        obtain ⟨hi8, k⟩ := k
        refine m2_iast hB dX4_begin_83 sh_kO_goers hi8 ?_
        refine m2_aload_n hB dX4_begin_84 rfl ?_
        refine m2_getR hB dX4_begin_85 fl_X4_27 sh_kO (c1 := kO_must) rfl ?_
        refine m2_aload_n hB dX4_begin_88 rfl ?_
        refine m2_getI hB dX4_begin_89 fl_X4_55 sh_kO rfl ?_
        refine m2_aload_n hB dX4_begin_92 rfl ?_
        refine m2_getR hB dX4_begin_93 fl_X4_34 sh_kO (c1 := kP) rfl ?_
        refine m2_getR hB dX4_begin_96 fl_X4_84 sh_kP (c1 := kP_worth) rfl ?_
        refine m2_iload_n hB dX4_begin_99 rfl ?_
        have hi9 := hs3
        refine m2_iald hB dX4_begin_100 sh_kP_worth hi9 ?_
        refine m2_if_le hB dX4_begin_101 (tgt := 115) (by decide) (fun q10 : (μ.1 kP_worth (v2).toNatClampNeg) ≤ 0 => ?_) (fun q10 : ¬ (μ.1 kP_worth (v2).toNatClampNeg) ≤ 0 => ?_)
        · replace k := k.1 q10
          refine m2_iconst hB dX4_begin_115 (v := 0) (by decide) ?_
          have hi11 := hi8
          refine m2_iast hB dX4_begin_116 sh_kO_must hi11 ?_
          refine m2_aload_n hB dX4_begin_117 rfl ?_
          refine m2_dup hB dX4_begin_118 rfl ?_
          refine m2_getI hB dX4_begin_119 fl_X4_70 sh_kO rfl ?_
          refine m2_aload_n hB dX4_begin_122 rfl ?_
          refine m2_getR hB dX4_begin_123 fl_X4_27 sh_kO (c1 := kO_must) rfl ?_
          refine m2_aload_n hB dX4_begin_126 rfl ?_
          refine m2_getI hB dX4_begin_127 fl_X4_55 sh_kO rfl ?_
          have hi12 := hi8
          refine m2_iald hB dX4_begin_130 sh_kO_must hi12 ?_
          refine m2_iadd hB dX4_begin_131 ?_
          refine m2_putI hB dX4_begin_132 fl_X4_70 sh_kO rfl ?_
          refine m2_aload_n hB dX4_begin_135 rfl ?_
          refine m2_dup hB dX4_begin_136 rfl ?_
          refine m2_getI hB dX4_begin_137 fl_X4_64 sh_kO rfl ?_
          refine m2_aload_n hB dX4_begin_140 rfl ?_
          refine m2_getR hB dX4_begin_141 fl_X4_34 sh_kO (c1 := kP) rfl ?_
          refine m2_getR hB dX4_begin_144 fl_X4_84 sh_kP (c1 := kP_worth) rfl ?_
          refine m2_iload_n hB dX4_begin_147 rfl ?_
          have hi13 := hs3
          refine m2_iald hB dX4_begin_148 sh_kP_worth hi13 ?_
          refine m2_iadd hB dX4_begin_149 ?_
          refine m2_putI hB dX4_begin_150 fl_X4_64 sh_kO rfl ?_
          refine m2_aload_n hB dX4_begin_153 rfl ?_
          refine m2_dup hB dX4_begin_154 rfl ?_
          refine m2_getI hB dX4_begin_155 fl_X4_55 sh_kO rfl ?_
          refine m2_iconst hB dX4_begin_158 (v := 1) (by decide) ?_
          refine m2_iadd hB dX4_begin_159 ?_
          refine m2_putI hB dX4_begin_160 fl_X4_55 sh_kO rfl ?_
          refine m2_iinc hB (ls' := [.ref kO, .int v1, .int (v2 + 1)]) (v := (v2 + 1)) dX4_begin_163 rfl (by decide) rfl rfl ?_
          refine m2_goto hB dX4_begin_166 (tgt := 43) (by decide) ?_
          exact k
        · replace k := k.2 q10
          refine m2_aload_n hB dX4_begin_104 rfl ?_
          refine m2_getR hB dX4_begin_105 fl_X4_38 sh_kO (c1 := kW) rfl ?_
          refine m2_iload_n hB dX4_begin_108 rfl ?_
          obtain ⟨Q16, hM17, k⟩ := k
          refine m2_invi hB (as := [.int v2]) dX4_begin_109 mv_X4_87 rfl sh_kW rfl (Nat.le_of_ble_eq_true rfl) rfl hM17 (fun y14 μ15 hq18 => ?_)
          replace k := k y14 μ15 hq18
          refine m2_goto hB dX4_begin_112 (tgt := 116) (by decide) ?_
          have hi19 := hi8
          refine m2_iast hB dX4_begin_116 sh_kO_must hi19 ?_
          refine m2_aload_n hB dX4_begin_117 rfl ?_
          refine m2_dup hB dX4_begin_118 rfl ?_
          refine m2_getI hB dX4_begin_119 fl_X4_70 sh_kO rfl ?_
          refine m2_aload_n hB dX4_begin_122 rfl ?_
          refine m2_getR hB dX4_begin_123 fl_X4_27 sh_kO (c1 := kO_must) rfl ?_
          refine m2_aload_n hB dX4_begin_126 rfl ?_
          refine m2_getI hB dX4_begin_127 fl_X4_55 sh_kO rfl ?_
          obtain ⟨hi20, k⟩ := k
          refine m2_iald hB dX4_begin_130 sh_kO_must hi20 ?_
          refine m2_iadd hB dX4_begin_131 ?_
          refine m2_putI hB dX4_begin_132 fl_X4_70 sh_kO rfl ?_
          refine m2_aload_n hB dX4_begin_135 rfl ?_
          refine m2_dup hB dX4_begin_136 rfl ?_
          refine m2_getI hB dX4_begin_137 fl_X4_64 sh_kO rfl ?_
          refine m2_aload_n hB dX4_begin_140 rfl ?_
          refine m2_getR hB dX4_begin_141 fl_X4_34 sh_kO (c1 := kP) rfl ?_
          refine m2_getR hB dX4_begin_144 fl_X4_84 sh_kP (c1 := kP_worth) rfl ?_
          refine m2_iload_n hB dX4_begin_147 rfl ?_
          have hi21 := hs3
          refine m2_iald hB dX4_begin_148 sh_kP_worth hi21 ?_
          refine m2_iadd hB dX4_begin_149 ?_
          refine m2_putI hB dX4_begin_150 fl_X4_64 sh_kO rfl ?_
          refine m2_aload_n hB dX4_begin_153 rfl ?_
          refine m2_dup hB dX4_begin_154 rfl ?_
          refine m2_getI hB dX4_begin_155 fl_X4_55 sh_kO rfl ?_
          refine m2_iconst hB dX4_begin_158 (v := 1) (by decide) ?_
          refine m2_iadd hB dX4_begin_159 ?_
          refine m2_putI hB dX4_begin_160 fl_X4_55 sh_kO rfl ?_
          refine m2_iinc hB (ls' := [.ref kO, .int v1, .int (v2 + 1)]) (v := (v2 + 1)) dX4_begin_163 rfl (by decide) rfl rfl ?_
          refine m2_goto hB dX4_begin_166 (tgt := 43) (by decide) ?_
          exact k
      · rw [if_neg q7]
        replace k := k.2 q7
        refine m2_if_eq hB dX4_begin_71 (tgt := 163) (by decide) (fun _ => ?_) (fun q => absurd q (by decide))
        refine m2_iinc hB (ls' := [.ref kO, .int v1, .int (v2 + 1)]) (v := (v2 + 1)) dX4_begin_163 rfl (by decide) rfl rfl ?_
        refine m2_goto hB dX4_begin_166 (tgt := 43) (by decide) ?_
        exact k
theorem dX4_goOn_0 : decode cX4_goOn 0 = .ok (.iload_n 1, 1) := by decide +kernel
theorem dX4_goOn_1 : decode cX4_goOn 1 = .ok (.aload_n 0, 1) := by decide +kernel
theorem dX4_goOn_2 : decode cX4_goOn 2 = .ok (.getfield 55, 3) := by decide +kernel
theorem dX4_goOn_5 : decode cX4_goOn 5 = .ok (.if_icmp .lt 8, 3) := by decide +kernel
theorem dX4_goOn_8 : decode cX4_goOn 8 = .ok (.aload_n 0, 1) := by decide +kernel
theorem dX4_goOn_9 : decode cX4_goOn 9 = .ok (.invokevirtual 93, 3) := by decide +kernel
theorem dX4_goOn_12 : decode cX4_goOn 12 = .ok (.return_, 1) := by decide +kernel
theorem dX4_goOn_13 : decode cX4_goOn 13 = .ok (.aload_n 0, 1) := by decide +kernel
theorem dX4_goOn_14 : decode cX4_goOn 14 = .ok (.getfield 64, 3) := by decide +kernel
theorem dX4_goOn_17 : decode cX4_goOn 17 = .ok (.istore_n 3, 1) := by decide +kernel
theorem dX4_goOn_18 : decode cX4_goOn 18 = .ok (.aload_n 0, 1) := by decide +kernel
theorem dX4_goOn_19 : decode cX4_goOn 19 = .ok (.getfield 67, 3) := by decide +kernel
theorem dX4_goOn_22 : decode cX4_goOn 22 = .ok (.istore 4, 2) := by decide +kernel
theorem dX4_goOn_24 : decode cX4_goOn 24 = .ok (.aload_n 0, 1) := by decide +kernel
theorem dX4_goOn_25 : decode cX4_goOn 25 = .ok (.getfield 70, 3) := by decide +kernel
theorem dX4_goOn_28 : decode cX4_goOn 28 = .ok (.istore 5, 2) := by decide +kernel
theorem dX4_goOn_30 : decode cX4_goOn 30 = .ok (.aload_n 0, 1) := by decide +kernel
theorem dX4_goOn_31 : decode cX4_goOn 31 = .ok (.getfield 13, 3) := by decide +kernel
theorem dX4_goOn_34 : decode cX4_goOn 34 = .ok (.iload_n 1, 1) := by decide +kernel
theorem dX4_goOn_35 : decode cX4_goOn 35 = .ok (.aaload, 1) := by decide +kernel
theorem dX4_goOn_36 : decode cX4_goOn 36 = .ok (.aload_n 0, 1) := by decide +kernel
theorem dX4_goOn_37 : decode cX4_goOn 37 = .ok (.getfield 30, 3) := by decide +kernel
theorem dX4_goOn_40 : decode cX4_goOn 40 = .ok (.aload_n 0, 1) := by decide +kernel
theorem dX4_goOn_41 : decode cX4_goOn 41 = .ok (.getfield 34, 3) := by decide +kernel
theorem dX4_goOn_44 : decode cX4_goOn 44 = .ok (.invokevirtual 96, 3) := by decide +kernel
theorem dX4_goOn_47 : decode cX4_goOn 47 = .ok (.iconst 0, 1) := by decide +kernel
theorem dX4_goOn_48 : decode cX4_goOn 48 = .ok (.istore 6, 2) := by decide +kernel
theorem dX4_goOn_50 : decode cX4_goOn 50 = .ok (.iload 6, 2) := by decide +kernel
theorem dX4_goOn_52 : decode cX4_goOn 52 = .ok (.aload_n 0, 1) := by decide +kernel
theorem dX4_goOn_53 : decode cX4_goOn 53 = .ok (.getfield 55, 3) := by decide +kernel
theorem dX4_goOn_56 : decode cX4_goOn 56 = .ok (.if_icmp .ge 166, 3) := by decide +kernel
theorem dX4_goOn_59 : decode cX4_goOn 59 = .ok (.iload_n 2, 1) := by decide +kernel
theorem dX4_goOn_60 : decode cX4_goOn 60 = .ok (.iload 6, 2) := by decide +kernel
theorem dX4_goOn_62 : decode cX4_goOn 62 = .ok (.invokestatic 100, 3) := by decide +kernel
theorem dX4_goOn_65 : decode cX4_goOn 65 = .ok (.ifCond .eq 6, 3) := by decide +kernel
theorem dX4_goOn_68 : decode cX4_goOn 68 = .ok (.goto 148, 3) := by decide +kernel
theorem dX4_goOn_71 : decode cX4_goOn 71 = .ok (.aload_n 0, 1) := by decide +kernel
theorem dX4_goOn_72 : decode cX4_goOn 72 = .ok (.getfield 17, 3) := by decide +kernel
theorem dX4_goOn_75 : decode cX4_goOn 75 = .ok (.iload 6, 2) := by decide +kernel
theorem dX4_goOn_77 : decode cX4_goOn 77 = .ok (.iaload, 1) := by decide +kernel
theorem dX4_goOn_78 : decode cX4_goOn 78 = .ok (.istore 7, 2) := by decide +kernel
theorem dX4_goOn_80 : decode cX4_goOn 80 = .ok (.aload_n 0, 1) := by decide +kernel
theorem dX4_goOn_81 : decode cX4_goOn 81 = .ok (.getfield 21, 3) := by decide +kernel
theorem dX4_goOn_84 : decode cX4_goOn 84 = .ok (.iload_n 1, 1) := by decide +kernel
theorem dX4_goOn_85 : decode cX4_goOn 85 = .ok (.iload 7, 2) := by decide +kernel
theorem dX4_goOn_87 : decode cX4_goOn 87 = .ok (.iastore, 1) := by decide +kernel
theorem dX4_goOn_88 : decode cX4_goOn 88 = .ok (.aload_n 0, 1) := by decide +kernel
theorem dX4_goOn_89 : decode cX4_goOn 89 = .ok (.dup, 1) := by decide +kernel
theorem dX4_goOn_90 : decode cX4_goOn 90 = .ok (.getfield 67, 3) := by decide +kernel
theorem dX4_goOn_93 : decode cX4_goOn 93 = .ok (.aload_n 0, 1) := by decide +kernel
theorem dX4_goOn_94 : decode cX4_goOn 94 = .ok (.getfield 38, 3) := by decide +kernel
theorem dX4_goOn_97 : decode cX4_goOn 97 = .ok (.iload 7, 2) := by decide +kernel
theorem dX4_goOn_99 : decode cX4_goOn 99 = .ok (.aload_n 0, 1) := by decide +kernel
theorem dX4_goOn_100 : decode cX4_goOn 100 = .ok (.getfield 51, 3) := by decide +kernel
theorem dX4_goOn_103 : decode cX4_goOn 103 = .ok (.invokevirtual 104, 3) := by decide +kernel
theorem dX4_goOn_106 : decode cX4_goOn 106 = .ok (.iadd, 1) := by decide +kernel
theorem dX4_goOn_107 : decode cX4_goOn 107 = .ok (.putfield 67, 3) := by decide +kernel
theorem dX4_goOn_110 : decode cX4_goOn 110 = .ok (.aload_n 0, 1) := by decide +kernel
theorem dX4_goOn_111 : decode cX4_goOn 111 = .ok (.dup, 1) := by decide +kernel
theorem dX4_goOn_112 : decode cX4_goOn 112 = .ok (.getfield 70, 3) := by decide +kernel
theorem dX4_goOn_115 : decode cX4_goOn 115 = .ok (.aload_n 0, 1) := by decide +kernel
theorem dX4_goOn_116 : decode cX4_goOn 116 = .ok (.getfield 27, 3) := by decide +kernel
theorem dX4_goOn_119 : decode cX4_goOn 119 = .ok (.iload 6, 2) := by decide +kernel
theorem dX4_goOn_121 : decode cX4_goOn 121 = .ok (.iaload, 1) := by decide +kernel
theorem dX4_goOn_122 : decode cX4_goOn 122 = .ok (.isub, 1) := by decide +kernel
theorem dX4_goOn_123 : decode cX4_goOn 123 = .ok (.putfield 70, 3) := by decide +kernel
theorem dX4_goOn_126 : decode cX4_goOn 126 = .ok (.aload_n 0, 1) := by decide +kernel
theorem dX4_goOn_127 : decode cX4_goOn 127 = .ok (.dup, 1) := by decide +kernel
theorem dX4_goOn_128 : decode cX4_goOn 128 = .ok (.getfield 64, 3) := by decide +kernel
theorem dX4_goOn_131 : decode cX4_goOn 131 = .ok (.aload_n 0, 1) := by decide +kernel
theorem dX4_goOn_132 : decode cX4_goOn 132 = .ok (.getfield 34, 3) := by decide +kernel
theorem dX4_goOn_135 : decode cX4_goOn 135 = .ok (.getfield 108, 3) := by decide +kernel
theorem dX4_goOn_138 : decode cX4_goOn 138 = .ok (.iload 7, 2) := by decide +kernel
theorem dX4_goOn_140 : decode cX4_goOn 140 = .ok (.baload, 1) := by decide +kernel
theorem dX4_goOn_141 : decode cX4_goOn 141 = .ok (.ifCond .eq 7, 3) := by decide +kernel
theorem dX4_goOn_144 : decode cX4_goOn 144 = .ok (.iconst 0, 1) := by decide +kernel
theorem dX4_goOn_145 : decode cX4_goOn 145 = .ok (.goto 13, 3) := by decide +kernel
theorem dX4_goOn_148 : decode cX4_goOn 148 = .ok (.aload_n 0, 1) := by decide +kernel
theorem dX4_goOn_149 : decode cX4_goOn 149 = .ok (.getfield 34, 3) := by decide +kernel
theorem dX4_goOn_152 : decode cX4_goOn 152 = .ok (.getfield 84, 3) := by decide +kernel
theorem dX4_goOn_155 : decode cX4_goOn 155 = .ok (.iload 7, 2) := by decide +kernel
theorem dX4_goOn_157 : decode cX4_goOn 157 = .ok (.iaload, 1) := by decide +kernel
theorem dX4_goOn_158 : decode cX4_goOn 158 = .ok (.isub, 1) := by decide +kernel
theorem dX4_goOn_159 : decode cX4_goOn 159 = .ok (.putfield 64, 3) := by decide +kernel
theorem dX4_goOn_162 : decode cX4_goOn 162 = .ok (.aload_n 0, 1) := by decide +kernel
theorem dX4_goOn_163 : decode cX4_goOn 163 = .ok (.invokevirtual 112, 3) := by decide +kernel
theorem dX4_goOn_166 : decode cX4_goOn 166 = .ok (.ifCond .eq 16, 3) := by decide +kernel
theorem dX4_goOn_169 : decode cX4_goOn 169 = .ok (.aload_n 0, 1) := by decide +kernel
theorem dX4_goOn_170 : decode cX4_goOn 170 = .ok (.iload_n 1, 1) := by decide +kernel
theorem dX4_goOn_171 : decode cX4_goOn 171 = .ok (.iconst 1, 1) := by decide +kernel
theorem dX4_goOn_172 : decode cX4_goOn 172 = .ok (.iadd, 1) := by decide +kernel
theorem dX4_goOn_173 : decode cX4_goOn 173 = .ok (.iload_n 2, 1) := by decide +kernel
theorem dX4_goOn_174 : decode cX4_goOn 174 = .ok (.iconst 1, 1) := by decide +kernel
theorem dX4_goOn_175 : decode cX4_goOn 175 = .ok (.iload 6, 2) := by decide +kernel
theorem dX4_goOn_177 : decode cX4_goOn 177 = .ok (.ishl, 1) := by decide +kernel
theorem dX4_goOn_178 : decode cX4_goOn 178 = .ok (.ior, 1) := by decide +kernel
theorem dX4_goOn_179 : decode cX4_goOn 179 = .ok (.invokevirtual 47, 3) := by decide +kernel
theorem dX4_goOn_182 : decode cX4_goOn 182 = .ok (.aload_n 0, 1) := by decide +kernel
theorem dX4_goOn_183 : decode cX4_goOn 183 = .ok (.iload_n 3, 1) := by decide +kernel
theorem dX4_goOn_184 : decode cX4_goOn 184 = .ok (.putfield 64, 3) := by decide +kernel
theorem dX4_goOn_187 : decode cX4_goOn 187 = .ok (.aload_n 0, 1) := by decide +kernel
theorem dX4_goOn_188 : decode cX4_goOn 188 = .ok (.iload 4, 2) := by decide +kernel
theorem dX4_goOn_190 : decode cX4_goOn 190 = .ok (.putfield 67, 3) := by decide +kernel
theorem dX4_goOn_193 : decode cX4_goOn 193 = .ok (.aload_n 0, 1) := by decide +kernel
theorem dX4_goOn_194 : decode cX4_goOn 194 = .ok (.iload 5, 2) := by decide +kernel
theorem dX4_goOn_196 : decode cX4_goOn 196 = .ok (.putfield 70, 3) := by decide +kernel
theorem dX4_goOn_199 : decode cX4_goOn 199 = .ok (.aload_n 0, 1) := by decide +kernel
theorem dX4_goOn_200 : decode cX4_goOn 200 = .ok (.getfield 13, 3) := by decide +kernel
theorem dX4_goOn_203 : decode cX4_goOn 203 = .ok (.iload_n 1, 1) := by decide +kernel
theorem dX4_goOn_204 : decode cX4_goOn 204 = .ok (.aaload, 1) := by decide +kernel
theorem dX4_goOn_205 : decode cX4_goOn 205 = .ok (.aload_n 0, 1) := by decide +kernel
theorem dX4_goOn_206 : decode cX4_goOn 206 = .ok (.getfield 30, 3) := by decide +kernel
theorem dX4_goOn_209 : decode cX4_goOn 209 = .ok (.aload_n 0, 1) := by decide +kernel
theorem dX4_goOn_210 : decode cX4_goOn 210 = .ok (.getfield 34, 3) := by decide +kernel
theorem dX4_goOn_213 : decode cX4_goOn 213 = .ok (.invokevirtual 116, 3) := by decide +kernel
theorem dX4_goOn_216 : decode cX4_goOn 216 = .ok (.iinc 6 1, 3) := by decide +kernel
theorem dX4_goOn_219 : decode cX4_goOn 219 = .ok (.goto (-169), 3) := by decide +kernel
theorem dX4_goOn_222 : decode cX4_goOn 222 = .ok (.return_, 1) := by decide +kernel
set_option maxRecDepth 100000 in
set_option maxHeartbeats 4000000 in
theorem B_X4_goOn_0 {κ : Nat → List Value → List Value → m2M → Prop} {D : Nat} {Q : Option Value → m2M → Prop} (h : m2_RL κ cX4_goOn RX4 8 (D + 1) none Q) {x1 : Int32} {x2 : Int32} {μ : m2M} (k : (x1 < (μ.1 kO 7) → ∃ j2 : Nat, x1 = nI (j2 - 4) ∧ (4 ≤ j2 ∧ j2 < 10) ∧ (∃ Q6 : Option Value → m2M → Prop, m2_MT D yX3_take cX3_take 4 none [.ref (kK j2), .ref kD, .ref kP] μ Q6 ∧ ∀ (μ5 : m2M), Q6 none μ5 → (κ 50 [.ref kO, .int x1, .int x2, .int (μ.1 kO 11), .int (μ.1 kO 12), .int (μ.1 kO 14), .int 0, .null] [] μ5))) ∧ (¬ x1 < (μ.1 kO 7) → ∃ Q11 : Option Value → m2M → Prop, m2_MT D yX4_adopt cX4_adopt 1 none [.ref kO] μ Q11 ∧ ∀ (μ10 : m2M), Q11 none μ10 → (Q none μ10))) : κ 0 [.ref kO, .int x1, .int x2, .null, .null, .null, .null, .null] [] μ := by
  have hB := h.b
  refine m2_iload_n hB dX4_goOn_0 rfl ?_
  refine m2_aload_n hB dX4_goOn_1 rfl ?_
  refine m2_getI hB dX4_goOn_2 fl_X4_55 sh_kO rfl ?_
  refine m2_icmp_lt hB dX4_goOn_5 (tgt := 13) (by decide) (fun q1 : x1 < (μ.1 kO 7) => ?_) (fun q1 : ¬ x1 < (μ.1 kO 7) => ?_)
  · replace k := k.1 q1
    refine m2_aload_n hB dX4_goOn_13 rfl ?_
    refine m2_getI hB dX4_goOn_14 fl_X4_64 sh_kO rfl ?_
    refine m2_istore_n hB (ls' := [.ref kO, .int x1, .int x2, .int (μ.1 kO 11), .null, .null, .null, .null]) dX4_goOn_17 rfl (by decide) rfl ?_
    refine m2_aload_n hB dX4_goOn_18 rfl ?_
    refine m2_getI hB dX4_goOn_19 fl_X4_67 sh_kO rfl ?_
    refine m2_istore hB (ls' := [.ref kO, .int x1, .int x2, .int (μ.1 kO 11), .int (μ.1 kO 12), .null, .null, .null]) dX4_goOn_22 (by decide) rfl ?_
    refine m2_aload_n hB dX4_goOn_24 rfl ?_
    refine m2_getI hB dX4_goOn_25 fl_X4_70 sh_kO rfl ?_
    refine m2_istore hB (ls' := [.ref kO, .int x1, .int x2, .int (μ.1 kO 11), .int (μ.1 kO 12), .int (μ.1 kO 14), .null, .null]) dX4_goOn_28 (by decide) rfl ?_
    refine m2_aload_n hB dX4_goOn_30 rfl ?_
    refine m2_getR hB dX4_goOn_31 fl_X4_13 sh_kO (c1 := kO_levels) rfl ?_
    refine m2_iload_n hB dX4_goOn_34 rfl ?_
    obtain ⟨j2, e3, h_j2, k⟩ := k
    refine m2_aald hB dX4_goOn_35 sh_kO_levels (Or.inl rfl) (ar_levels e3 h_j2).1 (ar_levels e3 h_j2).2 ?_
    have h_j2 : j2 < 10 := by omega
    refine m2_aload_n hB dX4_goOn_36 rfl ?_
    refine m2_getR hB dX4_goOn_37 fl_X4_30 sh_kO (c1 := kD) rfl ?_
    refine m2_aload_n hB dX4_goOn_40 rfl ?_
    refine m2_getR hB dX4_goOn_41 fl_X4_34 sh_kO (c1 := kP) rfl ?_
    obtain ⟨Q6, hM7, k⟩ := k
    refine m2_invv hB (as := [.ref kD, .ref kP]) dX4_goOn_44 mv_X4_96 rfl (sh_kK h_j2) rfl (Nat.le_of_ble_eq_true rfl) rfl hM7 (fun μ5 hq8 => ?_)
    replace k := k μ5 hq8
    refine m2_iconst hB dX4_goOn_47 (v := 0) (by decide) ?_
    refine m2_istore hB (ls' := [.ref kO, .int x1, .int x2, .int (μ.1 kO 11), .int (μ.1 kO 12), .int (μ.1 kO 14), .int 0, .null]) dX4_goOn_48 (by decide) rfl ?_
    exact k
  · replace k := k.2 q1
    refine m2_aload_n hB dX4_goOn_8 rfl ?_
    obtain ⟨Q11, hM12, k⟩ := k
    refine m2_invv hB (as := []) dX4_goOn_9 mv_X4_93 rfl sh_kO rfl (Nat.le_of_ble_eq_true rfl) rfl hM12 (fun μ10 hq13 => ?_)
    replace k := k μ10 hq13
    exact m2_vret h dX4_goOn_12 k
set_option maxRecDepth 100000 in
set_option maxHeartbeats 4000000 in
theorem B_X4_goOn_50 {κ : Nat → List Value → List Value → m2M → Prop} {D : Nat} {Q : Option Value → m2M → Prop} (h : m2_RL κ cX4_goOn RX4 8 (D + 1) none Q) (hD : 0 ≤ D) {v1 : Int32} {v2 : Int32} {v3 : Int32} {v4 : Int32} {v5 : Int32} {v6 : Int32} {μ : m2M} (k : ((μ.1 kO 7) ≤ v6 → Q none μ) ∧ (¬ (μ.1 kO 7) ≤ v6 → ((fX11_hasBit v2 v6) = 1 → κ 216 [.ref kO, .int v1, .int v2, .int v3, .int v4, .int v5, .int v6, .null] [] μ) ∧ (¬ (fX11_hasBit v2 v6) = 1 → (vp_in v6 6) ∧ ((vp_in v1 6) ∧ (∃ Q13 : Option Value → m2M → Prop, m2_MT D yX10_trip cX10_trip 6 (some .int) [.ref kW, .int (μ.1 kO_goers (v6).toNatClampNeg), .int (μ.1 kO 10)] (m2_si μ kO_tried (v1).toNatClampNeg (μ.1 kO_goers (v6).toNatClampNeg)) Q13 ∧ ∀ (y11 : Int32) (μ12 : m2M), Q13 (some (.int y11)) μ12 → ((vp_in (μ.1 kO_goers (v6).toNatClampNeg) 8) ∧ (((μ12.1 kP_done ((μ.1 kO_goers (v6).toNatClampNeg)).toNatClampNeg) = 0 → ((fX4_canBeBetter (m2_si (m2_si (m2_si μ12 kO 12 ((μ.1 kO 12) + y11)) kO 14 ((μ12.1 kO 14) - (μ12.1 kO_must (v6).toNatClampNeg))) kO 11 ((μ12.1 kO 11) - (μ12.1 kP_worth ((μ.1 kO_goers (v6).toNatClampNeg)).toNatClampNeg)))) = 1 → ∃ Q27 : Option Value → m2M → Prop, m2_MT D yX4_goOn cX4_goOn 8 none [.ref kO, .int (v1 + 1), .int (v2 ||| ((1 : Int32) <<< (v6 &&& 31)))] (m2_si (m2_si (m2_si μ12 kO 12 ((μ.1 kO 12) + y11)) kO 14 ((μ12.1 kO 14) - (μ12.1 kO_must (v6).toNatClampNeg))) kO 11 ((μ12.1 kO 11) - (μ12.1 kP_worth ((μ.1 kO_goers (v6).toNatClampNeg)).toNatClampNeg))) Q27 ∧ ∀ (μ26 : m2M), Q27 none μ26 → (κ 182 [.ref kO, .int v1, .int v2, .int v3, .int v4, .int v5, .int v6, .int (μ.1 kO_goers (v6).toNatClampNeg)] [] μ26)) ∧ (¬ (fX4_canBeBetter (m2_si (m2_si (m2_si μ12 kO 12 ((μ.1 kO 12) + y11)) kO 14 ((μ12.1 kO 14) - (μ12.1 kO_must (v6).toNatClampNeg))) kO 11 ((μ12.1 kO 11) - (μ12.1 kP_worth ((μ.1 kO_goers (v6).toNatClampNeg)).toNatClampNeg)))) = 1 → κ 182 [.ref kO, .int v1, .int v2, .int v3, .int v4, .int v5, .int v6, .int (μ.1 kO_goers (v6).toNatClampNeg)] [] (m2_si (m2_si (m2_si μ12 kO 12 ((μ.1 kO 12) + y11)) kO 14 ((μ12.1 kO 14) - (μ12.1 kO_must (v6).toNatClampNeg))) kO 11 ((μ12.1 kO 11) - (μ12.1 kP_worth ((μ.1 kO_goers (v6).toNatClampNeg)).toNatClampNeg))))) ∧ (¬ (μ12.1 kP_done ((μ.1 kO_goers (v6).toNatClampNeg)).toNatClampNeg) = 0 → ((fX4_canBeBetter (m2_si (m2_si (m2_si μ12 kO 12 ((μ.1 kO 12) + y11)) kO 14 ((μ12.1 kO 14) - (μ12.1 kO_must (v6).toNatClampNeg))) kO 11 ((μ12.1 kO 11) - 0))) = 1 → ∃ Q36 : Option Value → m2M → Prop, m2_MT D yX4_goOn cX4_goOn 8 none [.ref kO, .int (v1 + 1), .int (v2 ||| ((1 : Int32) <<< (v6 &&& 31)))] (m2_si (m2_si (m2_si μ12 kO 12 ((μ.1 kO 12) + y11)) kO 14 ((μ12.1 kO 14) - (μ12.1 kO_must (v6).toNatClampNeg))) kO 11 ((μ12.1 kO 11) - 0)) Q36 ∧ ∀ (μ35 : m2M), Q36 none μ35 → (κ 182 [.ref kO, .int v1, .int v2, .int v3, .int v4, .int v5, .int v6, .int (μ.1 kO_goers (v6).toNatClampNeg)] [] μ35)) ∧ (¬ (fX4_canBeBetter (m2_si (m2_si (m2_si μ12 kO 12 ((μ.1 kO 12) + y11)) kO 14 ((μ12.1 kO 14) - (μ12.1 kO_must (v6).toNatClampNeg))) kO 11 ((μ12.1 kO 11) - 0))) = 1 → κ 182 [.ref kO, .int v1, .int v2, .int v3, .int v4, .int v5, .int v6, .int (μ.1 kO_goers (v6).toNatClampNeg)] [] (m2_si (m2_si (m2_si μ12 kO 12 ((μ.1 kO 12) + y11)) kO 14 ((μ12.1 kO 14) - (μ12.1 kO_must (v6).toNatClampNeg))) kO 11 ((μ12.1 kO 11) - 0))))))))))) : κ 50 [.ref kO, .int v1, .int v2, .int v3, .int v4, .int v5, .int v6, .null] [] μ := by
  have hB := h.b
  refine m2_iload hB dX4_goOn_50 rfl ?_
  refine m2_aload_n hB dX4_goOn_52 rfl ?_
  refine m2_getI hB dX4_goOn_53 fl_X4_55 sh_kO rfl ?_
  refine m2_icmp_ge hB dX4_goOn_56 (tgt := 222) (by decide) (fun q4 : (μ.1 kO 7) ≤ v6 => ?_) (fun q4 : ¬ (μ.1 kO 7) ≤ v6 => ?_)
  · replace k := k.1 q4
    exact m2_vret h dX4_goOn_222 k
  · replace k := k.2 q4
    refine m2_iload_n hB dX4_goOn_59 rfl ?_
    refine m2_iload hB dX4_goOn_60 rfl ?_
    refine m2_invNz hB (as := [.int v2, .int v6]) dX4_goOn_62 mn_X4_100 rfl (Nat.le_of_ble_eq_true rfl) rfl (P_X11_hasBit (by omega) (v2) (v6) _ ) (fun y5 μ6 hq7 => ?_)
    obtain ⟨⟨⟩, hq7⟩ := hq7
    subst μ6
    show κ 65 [.ref kO, .int v1, .int v2, .int v3, .int v4, .int v5, .int v6, .null] [.int (if (fX11_hasBit v2 v6) = 1 then 1 else 0 : Int32)] μ
    by_cases q8 : (fX11_hasBit v2 v6) = 1
    · rw [if_pos q8]
      replace k := k.1 q8
      refine m2_if_eq hB dX4_goOn_65 (tgt := 71) (by decide) (fun q => absurd q (by decide)) (fun _ => ?_)
      refine m2_goto hB dX4_goOn_68 (tgt := 216) (by decide) ?_
      exact k
    · rw [if_neg q8]
      replace k := k.2 q8
      refine m2_if_eq hB dX4_goOn_65 (tgt := 71) (by decide) (fun _ => ?_) (fun q => absurd q (by decide))
      refine m2_aload_n hB dX4_goOn_71 rfl ?_
      refine m2_getR hB dX4_goOn_72 fl_X4_17 sh_kO (c1 := kO_goers) rfl ?_
      refine m2_iload hB dX4_goOn_75 rfl ?_
      obtain ⟨hi9, k⟩ := k
      refine m2_iald hB dX4_goOn_77 sh_kO_goers hi9 ?_
      refine m2_istore hB (ls' := [.ref kO, .int v1, .int v2, .int v3, .int v4, .int v5, .int v6, .int (μ.1 kO_goers (v6).toNatClampNeg)]) dX4_goOn_78 (by decide) rfl ?_
      refine m2_aload_n hB dX4_goOn_80 rfl ?_
      refine m2_getR hB dX4_goOn_81 fl_X4_21 sh_kO (c1 := kO_tried) rfl ?_
      refine m2_iload_n hB dX4_goOn_84 rfl ?_
      refine m2_iload hB dX4_goOn_85 rfl ?_
      obtain ⟨hi10, k⟩ := k
      refine m2_iast hB dX4_goOn_87 sh_kO_tried hi10 ?_
      refine m2_aload_n hB dX4_goOn_88 rfl ?_
      refine m2_dup hB dX4_goOn_89 rfl ?_
      refine m2_getI hB dX4_goOn_90 fl_X4_67 sh_kO rfl ?_
      refine m2_aload_n hB dX4_goOn_93 rfl ?_
      refine m2_getR hB dX4_goOn_94 fl_X4_38 sh_kO (c1 := kW) rfl ?_
      refine m2_iload hB dX4_goOn_97 rfl ?_
      refine m2_aload_n hB dX4_goOn_99 rfl ?_
      refine m2_getI hB dX4_goOn_100 fl_X4_51 sh_kO rfl ?_
      obtain ⟨Q13, hM14, k⟩ := k
      refine m2_invi hB (as := [.int (μ.1 kO_goers (v6).toNatClampNeg), .int (μ.1 kO 10)]) dX4_goOn_103 mv_X4_104 rfl sh_kW rfl (Nat.le_of_ble_eq_true rfl) rfl hM14 (fun y11 μ12 hq15 => ?_)
      replace k := k y11 μ12 hq15
      refine m2_iadd hB dX4_goOn_106 ?_
      refine m2_putI hB dX4_goOn_107 fl_X4_67 sh_kO rfl ?_
      refine m2_aload_n hB dX4_goOn_110 rfl ?_
      refine m2_dup hB dX4_goOn_111 rfl ?_
      refine m2_getI hB dX4_goOn_112 fl_X4_70 sh_kO rfl ?_
      refine m2_aload_n hB dX4_goOn_115 rfl ?_
      refine m2_getR hB dX4_goOn_116 fl_X4_27 sh_kO (c1 := kO_must) rfl ?_
      refine m2_iload hB dX4_goOn_119 rfl ?_
      have hi16 := hi9
      refine m2_iald hB dX4_goOn_121 sh_kO_must hi16 ?_
      refine m2_isub hB dX4_goOn_122 ?_
      refine m2_putI hB dX4_goOn_123 fl_X4_70 sh_kO rfl ?_
      refine m2_aload_n hB dX4_goOn_126 rfl ?_
      refine m2_dup hB dX4_goOn_127 rfl ?_
      refine m2_getI hB dX4_goOn_128 fl_X4_64 sh_kO rfl ?_
      refine m2_aload_n hB dX4_goOn_131 rfl ?_
      refine m2_getR hB dX4_goOn_132 fl_X4_34 sh_kO (c1 := kP) rfl ?_
      refine m2_getR hB dX4_goOn_135 fl_X4_108 sh_kP (c1 := kP_done) rfl ?_
      refine m2_iload hB dX4_goOn_138 rfl ?_
      obtain ⟨hi17, k⟩ := k
      refine m2_zald hB dX4_goOn_140 sh_kP_done hi17 ?_
      refine m2_if_eq hB dX4_goOn_141 (tgt := 148) (by decide) (fun q19 : (μ12.1 kP_done ((μ.1 kO_goers (v6).toNatClampNeg)).toNatClampNeg) = 0 => ?_) (fun q19 : ¬ (μ12.1 kP_done ((μ.1 kO_goers (v6).toNatClampNeg)).toNatClampNeg) = 0 => ?_)
      · replace k := k.1 q19
        refine m2_aload_n hB dX4_goOn_148 rfl ?_
        refine m2_getR hB dX4_goOn_149 fl_X4_34 sh_kO (c1 := kP) rfl ?_
        refine m2_getR hB dX4_goOn_152 fl_X4_84 sh_kP (c1 := kP_worth) rfl ?_
        refine m2_iload hB dX4_goOn_155 rfl ?_
        have hi20 := hi17
        refine m2_iald hB dX4_goOn_157 sh_kP_worth hi20 ?_
        refine m2_isub hB dX4_goOn_158 ?_
        refine m2_putI hB dX4_goOn_159 fl_X4_64 sh_kO rfl ?_
        refine m2_aload_n hB dX4_goOn_162 rfl ?_
        refine m2_invz hB (as := []) dX4_goOn_163 mv_X4_112 rfl sh_kO rfl (Nat.le_of_ble_eq_true rfl) rfl (P_X4_canBeBetter (by omega)  _ ) (fun y21 μ22 hq23 => ?_)
        obtain ⟨⟨⟩, hq23⟩ := hq23
        subst μ22
        show κ 166 [.ref kO, .int v1, .int v2, .int v3, .int v4, .int v5, .int v6, .int (μ.1 kO_goers (v6).toNatClampNeg)] [.int (if (fX4_canBeBetter (m2_si (m2_si (m2_si μ12 kO 12 ((μ.1 kO 12) + y11)) kO 14 ((μ12.1 kO 14) - (μ12.1 kO_must (v6).toNatClampNeg))) kO 11 ((μ12.1 kO 11) - (μ12.1 kP_worth ((μ.1 kO_goers (v6).toNatClampNeg)).toNatClampNeg)))) = 1 then 1 else 0 : Int32)] (m2_si (m2_si (m2_si μ12 kO 12 ((μ.1 kO 12) + y11)) kO 14 ((μ12.1 kO 14) - (μ12.1 kO_must (v6).toNatClampNeg))) kO 11 ((μ12.1 kO 11) - (μ12.1 kP_worth ((μ.1 kO_goers (v6).toNatClampNeg)).toNatClampNeg)))
        by_cases q24 : (fX4_canBeBetter (m2_si (m2_si (m2_si μ12 kO 12 ((μ.1 kO 12) + y11)) kO 14 ((μ12.1 kO 14) - (μ12.1 kO_must (v6).toNatClampNeg))) kO 11 ((μ12.1 kO 11) - (μ12.1 kP_worth ((μ.1 kO_goers (v6).toNatClampNeg)).toNatClampNeg)))) = 1
        · rw [if_pos q24]
          replace k := k.1 q24
          refine m2_if_eq hB dX4_goOn_166 (tgt := 182) (by decide) (fun q => absurd q (by decide)) (fun _ => ?_)
          refine m2_aload_n hB dX4_goOn_169 rfl ?_
          refine m2_iload_n hB dX4_goOn_170 rfl ?_
          refine m2_iconst hB dX4_goOn_171 (v := 1) (by decide) ?_
          refine m2_iadd hB dX4_goOn_172 ?_
          refine m2_iload_n hB dX4_goOn_173 rfl ?_
          refine m2_iconst hB dX4_goOn_174 (v := 1) (by decide) ?_
          refine m2_iload hB dX4_goOn_175 rfl ?_
          refine m2_ishl hB dX4_goOn_177 ?_
          refine m2_ior hB dX4_goOn_178 ?_
          obtain ⟨Q27, hM28, k⟩ := k
          refine m2_invv hB (as := [.int (v1 + 1), .int (v2 ||| ((1 : Int32) <<< (v6 &&& 31)))]) dX4_goOn_179 mv_X4_47 rfl sh_kO rfl (Nat.le_of_ble_eq_true rfl) rfl hM28 (fun μ26 hq29 => ?_)
          replace k := k μ26 hq29
          exact k
        · rw [if_neg q24]
          replace k := k.2 q24
          refine m2_if_eq hB dX4_goOn_166 (tgt := 182) (by decide) (fun _ => ?_) (fun q => absurd q (by decide))
          exact k
      · replace k := k.2 q19
        refine m2_iconst hB dX4_goOn_144 (v := 0) (by decide) ?_
        refine m2_goto hB dX4_goOn_145 (tgt := 158) (by decide) ?_
        refine m2_isub hB dX4_goOn_158 ?_
        refine m2_putI hB dX4_goOn_159 fl_X4_64 sh_kO rfl ?_
        refine m2_aload_n hB dX4_goOn_162 rfl ?_
        refine m2_invz hB (as := []) dX4_goOn_163 mv_X4_112 rfl sh_kO rfl (Nat.le_of_ble_eq_true rfl) rfl (P_X4_canBeBetter (by omega)  _ ) (fun y30 μ31 hq32 => ?_)
        obtain ⟨⟨⟩, hq32⟩ := hq32
        subst μ31
        show κ 166 [.ref kO, .int v1, .int v2, .int v3, .int v4, .int v5, .int v6, .int (μ.1 kO_goers (v6).toNatClampNeg)] [.int (if (fX4_canBeBetter (m2_si (m2_si (m2_si μ12 kO 12 ((μ.1 kO 12) + y11)) kO 14 ((μ12.1 kO 14) - (μ12.1 kO_must (v6).toNatClampNeg))) kO 11 ((μ12.1 kO 11) - 0))) = 1 then 1 else 0 : Int32)] (m2_si (m2_si (m2_si μ12 kO 12 ((μ.1 kO 12) + y11)) kO 14 ((μ12.1 kO 14) - (μ12.1 kO_must (v6).toNatClampNeg))) kO 11 ((μ12.1 kO 11) - 0))
        by_cases q33 : (fX4_canBeBetter (m2_si (m2_si (m2_si μ12 kO 12 ((μ.1 kO 12) + y11)) kO 14 ((μ12.1 kO 14) - (μ12.1 kO_must (v6).toNatClampNeg))) kO 11 ((μ12.1 kO 11) - 0))) = 1
        · rw [if_pos q33]
          replace k := k.1 q33
          refine m2_if_eq hB dX4_goOn_166 (tgt := 182) (by decide) (fun q => absurd q (by decide)) (fun _ => ?_)
          refine m2_aload_n hB dX4_goOn_169 rfl ?_
          refine m2_iload_n hB dX4_goOn_170 rfl ?_
          refine m2_iconst hB dX4_goOn_171 (v := 1) (by decide) ?_
          refine m2_iadd hB dX4_goOn_172 ?_
          refine m2_iload_n hB dX4_goOn_173 rfl ?_
          refine m2_iconst hB dX4_goOn_174 (v := 1) (by decide) ?_
          refine m2_iload hB dX4_goOn_175 rfl ?_
          refine m2_ishl hB dX4_goOn_177 ?_
          refine m2_ior hB dX4_goOn_178 ?_
          obtain ⟨Q36, hM37, k⟩ := k
          refine m2_invv hB (as := [.int (v1 + 1), .int (v2 ||| ((1 : Int32) <<< (v6 &&& 31)))]) dX4_goOn_179 mv_X4_47 rfl sh_kO rfl (Nat.le_of_ble_eq_true rfl) rfl hM37 (fun μ35 hq38 => ?_)
          replace k := k μ35 hq38
          exact k
        · rw [if_neg q33]
          replace k := k.2 q33
          refine m2_if_eq hB dX4_goOn_166 (tgt := 182) (by decide) (fun _ => ?_) (fun q => absurd q (by decide))
          exact k
set_option maxRecDepth 100000 in
set_option maxHeartbeats 4000000 in
theorem B_X4_goOn_182 {κ : Nat → List Value → List Value → m2M → Prop} {D : Nat} {Q : Option Value → m2M → Prop} (h : m2_RL κ cX4_goOn RX4 8 (D + 1) none Q) {v1 : Int32} {v2 : Int32} {v3 : Int32} {v4 : Int32} {v5 : Int32} {v6 : Int32} {v7 : Int32} {μ : m2M} (k : ∃ j1 : Nat, v1 = nI (j1 - 4) ∧ (4 ≤ j1 ∧ j1 < 10) ∧ (∃ Q5 : Option Value → m2M → Prop, m2_MT D yX3_giveBack cX3_giveBack 4 none [.ref (kK j1), .ref kD, .ref kP] (m2_si (m2_si (m2_si μ kO 11 v3) kO 12 v4) kO 14 v5) Q5 ∧ ∀ (μ4 : m2M), Q5 none μ4 → (κ 216 [.ref kO, .int v1, .int v2, .int v3, .int v4, .int v5, .int v6, .null] [] μ4))) : κ 182 [.ref kO, .int v1, .int v2, .int v3, .int v4, .int v5, .int v6, .int v7] [] μ := by
  have hB := h.b
  refine m2_aload_n hB dX4_goOn_182 rfl ?_
  refine m2_iload_n hB dX4_goOn_183 rfl ?_
  refine m2_putI hB dX4_goOn_184 fl_X4_64 sh_kO rfl ?_
  refine m2_aload_n hB dX4_goOn_187 rfl ?_
  refine m2_iload hB dX4_goOn_188 rfl ?_
  refine m2_putI hB dX4_goOn_190 fl_X4_67 sh_kO rfl ?_
  refine m2_aload_n hB dX4_goOn_193 rfl ?_
  refine m2_iload hB dX4_goOn_194 rfl ?_
  refine m2_putI hB dX4_goOn_196 fl_X4_70 sh_kO rfl ?_
  refine m2_aload_n hB dX4_goOn_199 rfl ?_
  refine m2_getR hB dX4_goOn_200 fl_X4_13 sh_kO (c1 := kO_levels) rfl ?_
  refine m2_iload_n hB dX4_goOn_203 rfl ?_
  obtain ⟨j1, e2, h_j1, k⟩ := k
  refine m2_aald hB dX4_goOn_204 sh_kO_levels (Or.inl rfl) (ar_levels e2 h_j1).1 (ar_levels e2 h_j1).2 ?_
  have h_j1 : j1 < 10 := by omega
  refine m2_aload_n hB dX4_goOn_205 rfl ?_
  refine m2_getR hB dX4_goOn_206 fl_X4_30 sh_kO (c1 := kD) rfl ?_
  refine m2_aload_n hB dX4_goOn_209 rfl ?_
  refine m2_getR hB dX4_goOn_210 fl_X4_34 sh_kO (c1 := kP) rfl ?_
  obtain ⟨Q5, hM6, k⟩ := k
  refine m2_invv hB (as := [.ref kD, .ref kP]) dX4_goOn_213 mv_X4_116 rfl (sh_kK h_j1) rfl (Nat.le_of_ble_eq_true rfl) rfl hM6 (fun μ4 hq7 => ?_)
  replace k := k μ4 hq7
  exact m2_weak (ls' := [.ref kO, .int v1, .int v2, .int v3, .int v4, .int v5, .int v6, .null]) hB ⟨Or.inr rfl, Or.inr rfl, Or.inr rfl, Or.inr rfl, Or.inr rfl, Or.inr rfl, Or.inr rfl, Or.inl rfl, trivial⟩ k
set_option maxRecDepth 100000 in
set_option maxHeartbeats 4000000 in
theorem B_X4_goOn_216 {κ : Nat → List Value → List Value → m2M → Prop} {D : Nat} {Q : Option Value → m2M → Prop} (h : m2_RL κ cX4_goOn RX4 8 D none Q) {v1 : Int32} {v2 : Int32} {v3 : Int32} {v4 : Int32} {v5 : Int32} {v6 : Int32} {μ : m2M} (k : κ 50 [.ref kO, .int v1, .int v2, .int v3, .int v4, .int v5, .int (v6 + 1), .null] [] μ) : κ 216 [.ref kO, .int v1, .int v2, .int v3, .int v4, .int v5, .int v6, .null] [] μ := by
  have hB := h.b
  refine m2_iinc hB (ls' := [.ref kO, .int v1, .int v2, .int v3, .int v4, .int v5, .int (v6 + 1), .null]) (v := (v6 + 1)) dX4_goOn_216 rfl (by decide) rfl rfl ?_
  refine m2_goto hB dX4_goOn_219 (tgt := 50) (by decide) ?_
  exact k
theorem dX4_adopt_0 : decode cX4_adopt 0 = .ok (.aload_n 0, 1) := by decide +kernel
theorem dX4_adopt_1 : decode cX4_adopt 1 = .ok (.aload_n 0, 1) := by decide +kernel
theorem dX4_adopt_2 : decode cX4_adopt 2 = .ok (.getfield 64, 3) := by decide +kernel
theorem dX4_adopt_5 : decode cX4_adopt 5 = .ok (.putfield 73, 3) := by decide +kernel
theorem dX4_adopt_8 : decode cX4_adopt 8 = .ok (.aload_n 0, 1) := by decide +kernel
theorem dX4_adopt_9 : decode cX4_adopt 9 = .ok (.aload_n 0, 1) := by decide +kernel
theorem dX4_adopt_10 : decode cX4_adopt 10 = .ok (.getfield 67, 3) := by decide +kernel
theorem dX4_adopt_13 : decode cX4_adopt 13 = .ok (.putfield 76, 3) := by decide +kernel
theorem dX4_adopt_16 : decode cX4_adopt 16 = .ok (.aload_n 0, 1) := by decide +kernel
theorem dX4_adopt_17 : decode cX4_adopt 17 = .ok (.getfield 21, 3) := by decide +kernel
theorem dX4_adopt_20 : decode cX4_adopt 20 = .ok (.iconst 0, 1) := by decide +kernel
theorem dX4_adopt_21 : decode cX4_adopt 21 = .ok (.aload_n 0, 1) := by decide +kernel
theorem dX4_adopt_22 : decode cX4_adopt 22 = .ok (.getfield 24, 3) := by decide +kernel
theorem dX4_adopt_25 : decode cX4_adopt 25 = .ok (.iconst 0, 1) := by decide +kernel
theorem dX4_adopt_26 : decode cX4_adopt 26 = .ok (.aload_n 0, 1) := by decide +kernel
theorem dX4_adopt_27 : decode cX4_adopt 27 = .ok (.getfield 55, 3) := by decide +kernel
theorem dX4_adopt_30 : decode cX4_adopt 30 = .ok (.invokestatic 119, 3) := by decide +kernel
theorem dX4_adopt_33 : decode cX4_adopt 33 = .ok (.return_, 1) := by decide +kernel
set_option maxRecDepth 100000 in
set_option maxHeartbeats 4000000 in
theorem B_X4_adopt_0 {κ : Nat → List Value → List Value → m2M → Prop} {D : Nat} {Q : Option Value → m2M → Prop} (h : m2_RL κ cX4_adopt RX4 1 (D + 1) none Q)  {μ : m2M} (k : (¬ (μ.1 kO 7) < 0) ∧ ((((0 : Int32)).toNatClampNeg + ((μ.1 kO 7)).toNatClampNeg ≤ 6) ∧ (Q none (m2_sr (m2_si (m2_si μ kO 8 (μ.1 kO 11)) kO 9 (μ.1 kO 12)) kO_best (va_cpy (((m2_si (m2_si μ kO 8 (μ.1 kO 11)) kO 9 (μ.1 kO 12))).1 kO_tried) (((m2_si (m2_si μ kO 8 (μ.1 kO 11)) kO 9 (μ.1 kO 12))).1 kO_best) ((0 : Int32)).toNatClampNeg ((0 : Int32)).toNatClampNeg ((μ.1 kO 7)).toNatClampNeg))))) : κ 0 [.ref kO] [] μ := by
  have hB := h.b
  refine m2_aload_n hB dX4_adopt_0 rfl ?_
  refine m2_aload_n hB dX4_adopt_1 rfl ?_
  refine m2_getI hB dX4_adopt_2 fl_X4_64 sh_kO rfl ?_
  refine m2_putI hB dX4_adopt_5 fl_X4_73 sh_kO rfl ?_
  refine m2_aload_n hB dX4_adopt_8 rfl ?_
  refine m2_aload_n hB dX4_adopt_9 rfl ?_
  refine m2_getI hB dX4_adopt_10 fl_X4_67 sh_kO rfl ?_
  refine m2_putI hB dX4_adopt_13 fl_X4_76 sh_kO rfl ?_
  refine m2_aload_n hB dX4_adopt_16 rfl ?_
  refine m2_getR hB dX4_adopt_17 fl_X4_21 sh_kO (c1 := kO_tried) rfl ?_
  refine m2_iconst hB dX4_adopt_20 (v := 0) (by decide) ?_
  refine m2_aload_n hB dX4_adopt_21 rfl ?_
  refine m2_getR hB dX4_adopt_22 fl_X4_24 sh_kO (c1 := kO_best) rfl ?_
  refine m2_iconst hB dX4_adopt_25 (v := 0) (by decide) ?_
  refine m2_aload_n hB dX4_adopt_26 rfl ?_
  refine m2_getI hB dX4_adopt_27 fl_X4_55 sh_kO rfl ?_
  obtain ⟨hc3, k⟩ := k
  obtain ⟨hc4, k⟩ := k
  have hc5 := hc4
  refine m2_copyi hB dX4_adopt_30 ac_X4_119 ac_nat ac_stat ac_ini (Nat.le_of_ble_eq_true rfl) sh_kO_tried sh_kO_best (by decide) (by decide) hc3 hc4 hc5 ?_
  exact m2_vret h dX4_adopt_33 k
theorem dX10_goThrough_0 : decode cX10_goThrough 0 = .ok (.aload_n 0, 1) := by decide +kernel
theorem dX10_goThrough_1 : decode cX10_goThrough 1 = .ok (.getfield 22, 3) := by decide +kernel
theorem dX10_goThrough_4 : decode cX10_goThrough 4 = .ok (.iload_n 2, 1) := by decide +kernel
theorem dX10_goThrough_5 : decode cX10_goThrough 5 = .ok (.aload_n 0, 1) := by decide +kernel
theorem dX10_goThrough_6 : decode cX10_goThrough 6 = .ok (.getfield 26, 3) := by decide +kernel
theorem dX10_goThrough_9 : decode cX10_goThrough 9 = .ok (.getfield 38, 3) := by decide +kernel
theorem dX10_goThrough_12 : decode cX10_goThrough 12 = .ok (.iload_n 1, 1) := by decide +kernel
theorem dX10_goThrough_13 : decode cX10_goThrough 13 = .ok (.iaload, 1) := by decide +kernel
theorem dX10_goThrough_14 : decode cX10_goThrough 14 = .ok (.invokevirtual 43, 3) := by decide +kernel
theorem dX10_goThrough_17 : decode cX10_goThrough 17 = .ok (.istore_n 3, 1) := by decide +kernel
theorem dX10_goThrough_18 : decode cX10_goThrough 18 = .ok (.iload_n 3, 1) := by decide +kernel
theorem dX10_goThrough_19 : decode cX10_goThrough 19 = .ok (.iconst (-1), 1) := by decide +kernel
theorem dX10_goThrough_20 : decode cX10_goThrough 20 = .ok (.if_icmp .eq 18, 3) := by decide +kernel
theorem dX10_goThrough_23 : decode cX10_goThrough 23 = .ok (.aload_n 0, 1) := by decide +kernel
theorem dX10_goThrough_24 : decode cX10_goThrough 24 = .ok (.iload_n 1, 1) := by decide +kernel
theorem dX10_goThrough_25 : decode cX10_goThrough 25 = .ok (.iload_n 2, 1) := by decide +kernel
theorem dX10_goThrough_26 : decode cX10_goThrough 26 = .ok (.invokevirtual 49, 3) := by decide +kernel
theorem dX10_goThrough_29 : decode cX10_goThrough 29 = .ok (.aload_n 0, 1) := by decide +kernel
theorem dX10_goThrough_30 : decode cX10_goThrough 30 = .ok (.getfield 26, 3) := by decide +kernel
theorem dX10_goThrough_33 : decode cX10_goThrough 33 = .ok (.iload_n 1, 1) := by decide +kernel
theorem dX10_goThrough_34 : decode cX10_goThrough 34 = .ok (.iload_n 3, 1) := by decide +kernel
theorem dX10_goThrough_35 : decode cX10_goThrough 35 = .ok (.invokevirtual 53, 3) := by decide +kernel
theorem dX10_goThrough_38 : decode cX10_goThrough 38 = .ok (.return_, 1) := by decide +kernel
set_option maxRecDepth 100000 in
set_option maxHeartbeats 4000000 in
theorem B_X10_goThrough_0 {κ : Nat → List Value → List Value → m2M → Prop} {D : Nat} {Q : Option Value → m2M → Prop} (h : m2_RL κ cX10_goThrough RX10 4 (D + 1) none Q) (hD : 0 ≤ D) {x1 : Int32} {x2 : Int32} {μ : m2M} (k : (vp_in x1 8) ∧ ((vp_in x2 20) ∧ (((fX0_beyond x2 (μ.1 kP_where (x1).toNatClampNeg) μ) = (-1) → Q none μ) ∧ (¬ (fX0_beyond x2 (μ.1 kP_where (x1).toNatClampNeg) μ) = (-1) → ∃ Q9 : Option Value → m2M → Prop, m2_MT D yX10_spend cX10_spend 3 none [.ref kW, .int x1, .int x2] μ Q9 ∧ ∀ (μ8 : m2M), Q9 none μ8 → (∃ Q14 : Option Value → m2M → Prop, m2_MT D yX6_come cX6_come 3 none [.ref kP, .int x1, .int (fX0_beyond x2 (μ.1 kP_where (x1).toNatClampNeg) μ)] μ8 Q14 ∧ ∀ (μ13 : m2M), Q14 none μ13 → (Q none μ13)))))) : κ 0 [.ref kW, .int x1, .int x2, .null] [] μ := by
  have hB := h.b
  refine m2_aload_n hB dX10_goThrough_0 rfl ?_
  refine m2_getR hB dX10_goThrough_1 fl_X10_22 sh_kW (c1 := kD) rfl ?_
  refine m2_iload_n hB dX10_goThrough_4 rfl ?_
  refine m2_aload_n hB dX10_goThrough_5 rfl ?_
  refine m2_getR hB dX10_goThrough_6 fl_X10_26 sh_kW (c1 := kP) rfl ?_
  refine m2_getR hB dX10_goThrough_9 fl_X10_38 sh_kP (c1 := kP_where) rfl ?_
  refine m2_iload_n hB dX10_goThrough_12 rfl ?_
  obtain ⟨hi1, k⟩ := k
  refine m2_iald hB dX10_goThrough_13 sh_kP_where hi1 ?_
  obtain ⟨hs2, k⟩ := k
  refine m2_invi hB (as := [.int x2, .int (μ.1 kP_where (x1).toNatClampNeg)]) dX10_goThrough_14 mv_X10_43 rfl sh_kD rfl (Nat.le_of_ble_eq_true rfl) rfl (P_X0_beyond (by omega) (x2) ((μ.1 kP_where (x1).toNatClampNeg)) _ hs2) (fun y3 μ4 hq5 => ?_)
  obtain ⟨⟨⟩, hq5⟩ := hq5
  subst μ4
  refine m2_istore_n hB (ls' := [.ref kW, .int x1, .int x2, .int (fX0_beyond x2 (μ.1 kP_where (x1).toNatClampNeg) μ)]) dX10_goThrough_17 rfl (by decide) rfl ?_
  refine m2_iload_n hB dX10_goThrough_18 rfl ?_
  refine m2_iconst hB dX10_goThrough_19 (v := (-1)) (by decide) ?_
  refine m2_icmp_eq hB dX10_goThrough_20 (tgt := 38) (by decide) (fun q6 : (fX0_beyond x2 (μ.1 kP_where (x1).toNatClampNeg) μ) = (-1) => ?_) (fun q6 : ¬ (fX0_beyond x2 (μ.1 kP_where (x1).toNatClampNeg) μ) = (-1) => ?_)
  · replace k := k.1 q6
    exact m2_vret h dX10_goThrough_38 k
  · replace k := k.2 q6
    refine m2_aload_n hB dX10_goThrough_23 rfl ?_
    refine m2_iload_n hB dX10_goThrough_24 rfl ?_
    refine m2_iload_n hB dX10_goThrough_25 rfl ?_
    obtain ⟨Q9, hM10, k⟩ := k
    refine m2_invv hB (as := [.int x1, .int x2]) dX10_goThrough_26 mv_X10_49 rfl sh_kW rfl (Nat.le_of_ble_eq_true rfl) rfl hM10 (fun μ8 hq11 => ?_)
    replace k := k μ8 hq11
    refine m2_aload_n hB dX10_goThrough_29 rfl ?_
    refine m2_getR hB dX10_goThrough_30 fl_X10_26 sh_kW (c1 := kP) rfl ?_
    refine m2_iload_n hB dX10_goThrough_33 rfl ?_
    refine m2_iload_n hB dX10_goThrough_34 rfl ?_
    obtain ⟨Q14, hM15, k⟩ := k
    refine m2_invv hB (as := [.int x1, .int (fX0_beyond x2 (μ.1 kP_where (x1).toNatClampNeg) μ)]) dX10_goThrough_35 mv_X10_53 rfl sh_kP rfl (Nat.le_of_ble_eq_true rfl) rfl hM15 (fun μ13 hq16 => ?_)
    replace k := k μ13 hq16
    exact m2_vret h dX10_goThrough_38 k
theorem dX10_spend_0 : decode cX10_spend 0 = .ok (.aload_n 0, 1) := by decide +kernel
theorem dX10_spend_1 : decode cX10_spend 1 = .ok (.getfield 26, 3) := by decide +kernel
theorem dX10_spend_4 : decode cX10_spend 4 = .ok (.getfield 56, 3) := by decide +kernel
theorem dX10_spend_7 : decode cX10_spend 7 = .ok (.iload_n 1, 1) := by decide +kernel
theorem dX10_spend_8 : decode cX10_spend 8 = .ok (.baload, 1) := by decide +kernel
theorem dX10_spend_9 : decode cX10_spend 9 = .ok (.ifCond .ne 16, 3) := by decide +kernel
theorem dX10_spend_12 : decode cX10_spend 12 = .ok (.aload_n 0, 1) := by decide +kernel
theorem dX10_spend_13 : decode cX10_spend 13 = .ok (.getfield 22, 3) := by decide +kernel
theorem dX10_spend_16 : decode cX10_spend 16 = .ok (.getfield 60, 3) := by decide +kernel
theorem dX10_spend_19 : decode cX10_spend 19 = .ok (.iload_n 2, 1) := by decide +kernel
theorem dX10_spend_20 : decode cX10_spend 20 = .ok (.dup2, 1) := by decide +kernel
theorem dX10_spend_21 : decode cX10_spend 21 = .ok (.iaload, 1) := by decide +kernel
theorem dX10_spend_22 : decode cX10_spend 22 = .ok (.iconst 1, 1) := by decide +kernel
theorem dX10_spend_23 : decode cX10_spend 23 = .ok (.isub, 1) := by decide +kernel
theorem dX10_spend_24 : decode cX10_spend 24 = .ok (.iastore, 1) := by decide +kernel
theorem dX10_spend_25 : decode cX10_spend 25 = .ok (.return_, 1) := by decide +kernel
set_option maxRecDepth 100000 in
set_option maxHeartbeats 4000000 in
theorem B_X10_spend_0 {κ : Nat → List Value → List Value → m2M → Prop} {D : Nat} {Q : Option Value → m2M → Prop} (h : m2_RL κ cX10_spend RX10 3 D none Q) {x1 : Int32} {x2 : Int32} {μ : m2M} (k : (vp_in x1 8) ∧ ((¬ (μ.1 kP_stranger (x1).toNatClampNeg) = 0 → Q none μ) ∧ ((μ.1 kP_stranger (x1).toNatClampNeg) = 0 → (vp_in x2 20) ∧ (Q none (m2_si μ kD_left (x2).toNatClampNeg ((μ.1 kD_left (x2).toNatClampNeg) - 1)))))) : κ 0 [.ref kW, .int x1, .int x2] [] μ := by
  have hB := h.b
  refine m2_aload_n hB dX10_spend_0 rfl ?_
  refine m2_getR hB dX10_spend_1 fl_X10_26 sh_kW (c1 := kP) rfl ?_
  refine m2_getR hB dX10_spend_4 fl_X10_56 sh_kP (c1 := kP_stranger) rfl ?_
  refine m2_iload_n hB dX10_spend_7 rfl ?_
  obtain ⟨hi1, k⟩ := k
  refine m2_zald hB dX10_spend_8 sh_kP_stranger hi1 ?_
  refine m2_if_ne hB dX10_spend_9 (tgt := 25) (by decide) (fun q3 : ¬ (μ.1 kP_stranger (x1).toNatClampNeg) = 0 => ?_) (fun q3 : (μ.1 kP_stranger (x1).toNatClampNeg) = 0 => ?_)
  · replace k := k.1 q3
    exact m2_vret h dX10_spend_25 k
  · replace k := k.2 q3
    refine m2_aload_n hB dX10_spend_12 rfl ?_
    refine m2_getR hB dX10_spend_13 fl_X10_22 sh_kW (c1 := kD) rfl ?_
    refine m2_getR hB dX10_spend_16 fl_X10_60 sh_kD (c1 := kD_left) rfl ?_
    refine m2_iload_n hB dX10_spend_19 rfl ?_
    refine m2_dup2 hB dX10_spend_20 rfl rfl ?_
    obtain ⟨hi4, k⟩ := k
    refine m2_iald hB dX10_spend_21 sh_kD_left hi4 ?_
    refine m2_iconst hB dX10_spend_22 (v := 1) (by decide) ?_
    refine m2_isub hB dX10_spend_23 ?_
    have hi5 := hi4
    refine m2_iast hB dX10_spend_24 sh_kD_left hi5 ?_
    exact m2_vret h dX10_spend_25 k
theorem dX10_run_0 : decode cX10_run 0 = .ok (.iconst 0, 1) := by decide +kernel
theorem dX10_run_1 : decode cX10_run 1 = .ok (.istore_n 3, 1) := by decide +kernel
theorem dX10_run_2 : decode cX10_run 2 = .ok (.iconst 0, 1) := by decide +kernel
theorem dX10_run_3 : decode cX10_run 3 = .ok (.istore 4, 2) := by decide +kernel
theorem dX10_run_5 : decode cX10_run 5 = .ok (.iload 4, 2) := by decide +kernel
theorem dX10_run_7 : decode cX10_run 7 = .ok (.aload_n 0, 1) := by decide +kernel
theorem dX10_run_8 : decode cX10_run 8 = .ok (.getfield 26, 3) := by decide +kernel
theorem dX10_run_11 : decode cX10_run 11 = .ok (.getfield 63, 3) := by decide +kernel
theorem dX10_run_14 : decode cX10_run 14 = .ok (.if_icmp .ge 25, 3) := by decide +kernel
theorem dX10_run_17 : decode cX10_run 17 = .ok (.iload 4, 2) := by decide +kernel
theorem dX10_run_19 : decode cX10_run 19 = .ok (.iload_n 2, 1) := by decide +kernel
theorem dX10_run_20 : decode cX10_run 20 = .ok (.if_icmp .eq 13, 3) := by decide +kernel
theorem dX10_run_23 : decode cX10_run 23 = .ok (.iload_n 3, 1) := by decide +kernel
theorem dX10_run_24 : decode cX10_run 24 = .ok (.aload_n 0, 1) := by decide +kernel
theorem dX10_run_25 : decode cX10_run 25 = .ok (.iload 4, 2) := by decide +kernel
theorem dX10_run_27 : decode cX10_run 27 = .ok (.iload_n 1, 1) := by decide +kernel
theorem dX10_run_28 : decode cX10_run 28 = .ok (.invokevirtual 66, 3) := by decide +kernel
theorem dX10_run_31 : decode cX10_run 31 = .ok (.iadd, 1) := by decide +kernel
theorem dX10_run_32 : decode cX10_run 32 = .ok (.istore_n 3, 1) := by decide +kernel
theorem dX10_run_33 : decode cX10_run 33 = .ok (.iinc 4 1, 3) := by decide +kernel
theorem dX10_run_36 : decode cX10_run 36 = .ok (.goto (-31), 3) := by decide +kernel
theorem dX10_run_39 : decode cX10_run 39 = .ok (.aload_n 0, 1) := by decide +kernel
theorem dX10_run_40 : decode cX10_run 40 = .ok (.iload_n 3, 1) := by decide +kernel
theorem dX10_run_41 : decode cX10_run 41 = .ok (.putfield 69, 3) := by decide +kernel
theorem dX10_run_44 : decode cX10_run 44 = .ok (.return_, 1) := by decide +kernel
set_option maxRecDepth 100000 in
set_option maxHeartbeats 4000000 in
theorem B_X10_run_0 {κ : Nat → List Value → List Value → m2M → Prop} {D : Nat} {Q : Option Value → m2M → Prop} (h : m2_RL κ cX10_run RX10 5 D none Q) {x1 : Int32} {x2 : Int32} {μ : m2M} (k : κ 5 [.ref kW, .int x1, .int x2, .int 0, .int 0] [] μ) : κ 0 [.ref kW, .int x1, .int x2, .null, .null] [] μ := by
  have hB := h.b
  refine m2_iconst hB dX10_run_0 (v := 0) (by decide) ?_
  refine m2_istore_n hB (ls' := [.ref kW, .int x1, .int x2, .int 0, .null]) dX10_run_1 rfl (by decide) rfl ?_
  refine m2_iconst hB dX10_run_2 (v := 0) (by decide) ?_
  refine m2_istore hB (ls' := [.ref kW, .int x1, .int x2, .int 0, .int 0]) dX10_run_3 (by decide) rfl ?_
  exact k
set_option maxRecDepth 100000 in
set_option maxHeartbeats 4000000 in
theorem B_X10_run_5 {κ : Nat → List Value → List Value → m2M → Prop} {D : Nat} {Q : Option Value → m2M → Prop} (h : m2_RL κ cX10_run RX10 5 (D + 1) none Q) {v1 : Int32} {v2 : Int32} {v3 : Int32} {v4 : Int32} {μ : m2M} (k : ((μ.1 kP 8) ≤ v4 → Q none (m2_si μ kW 7 v3)) ∧ (¬ (μ.1 kP 8) ≤ v4 → (v4 = v2 → κ 5 [.ref kW, .int v1, .int v2, .int v3, .int (v4 + 1)] [] μ) ∧ (¬ v4 = v2 → ∃ Q5 : Option Value → m2M → Prop, m2_MT D yX10_trip cX10_trip 6 (some .int) [.ref kW, .int v4, .int v1] μ Q5 ∧ ∀ (y3 : Int32) (μ4 : m2M), Q5 (some (.int y3)) μ4 → (κ 5 [.ref kW, .int v1, .int v2, .int (v3 + y3), .int (v4 + 1)] [] μ4)))) : κ 5 [.ref kW, .int v1, .int v2, .int v3, .int v4] [] μ := by
  have hB := h.b
  refine m2_iload hB dX10_run_5 rfl ?_
  refine m2_aload_n hB dX10_run_7 rfl ?_
  refine m2_getR hB dX10_run_8 fl_X10_26 sh_kW (c1 := kP) rfl ?_
  refine m2_getI hB dX10_run_11 fl_X10_63 sh_kP rfl ?_
  refine m2_icmp_ge hB dX10_run_14 (tgt := 39) (by decide) (fun q1 : (μ.1 kP 8) ≤ v4 => ?_) (fun q1 : ¬ (μ.1 kP 8) ≤ v4 => ?_)
  · replace k := k.1 q1
    refine m2_aload_n hB dX10_run_39 rfl ?_
    refine m2_iload_n hB dX10_run_40 rfl ?_
    refine m2_putI hB dX10_run_41 fl_X10_69 sh_kW rfl ?_
    exact m2_vret h dX10_run_44 k
  · replace k := k.2 q1
    refine m2_iload hB dX10_run_17 rfl ?_
    refine m2_iload_n hB dX10_run_19 rfl ?_
    refine m2_icmp_eq hB dX10_run_20 (tgt := 33) (by decide) (fun q2 : v4 = v2 => ?_) (fun q2 : ¬ v4 = v2 => ?_)
    · replace k := k.1 q2
      refine m2_iinc hB (ls' := [.ref kW, .int v1, .int v2, .int v3, .int (v4 + 1)]) (v := (v4 + 1)) dX10_run_33 rfl (by decide) rfl rfl ?_
      refine m2_goto hB dX10_run_36 (tgt := 5) (by decide) ?_
      exact k
    · replace k := k.2 q2
      refine m2_iload_n hB dX10_run_23 rfl ?_
      refine m2_aload_n hB dX10_run_24 rfl ?_
      refine m2_iload hB dX10_run_25 rfl ?_
      refine m2_iload_n hB dX10_run_27 rfl ?_
      obtain ⟨Q5, hM6, k⟩ := k
      refine m2_invi hB (as := [.int v4, .int v1]) dX10_run_28 mv_X10_66 rfl sh_kW rfl (Nat.le_of_ble_eq_true rfl) rfl hM6 (fun y3 μ4 hq7 => ?_)
      replace k := k y3 μ4 hq7
      refine m2_iadd hB dX10_run_31 ?_
      refine m2_istore_n hB (ls' := [.ref kW, .int v1, .int v2, .int (v3 + y3), .int v4]) dX10_run_32 rfl (by decide) rfl ?_
      refine m2_iinc hB (ls' := [.ref kW, .int v1, .int v2, .int (v3 + y3), .int (v4 + 1)]) (v := (v4 + 1)) dX10_run_33 rfl (by decide) rfl rfl ?_
      refine m2_goto hB dX10_run_36 (tgt := 5) (by decide) ?_
      exact k
theorem dX10_trip_0 : decode cX10_trip 0 = .ok (.iconst 0, 1) := by decide +kernel
theorem dX10_trip_1 : decode cX10_trip 1 = .ok (.istore_n 3, 1) := by decide +kernel
theorem dX10_trip_2 : decode cX10_trip 2 = .ok (.iconst 0, 1) := by decide +kernel
theorem dX10_trip_3 : decode cX10_trip 3 = .ok (.istore 4, 2) := by decide +kernel
theorem dX10_trip_5 : decode cX10_trip 5 = .ok (.iload 4, 2) := by decide +kernel
theorem dX10_trip_7 : decode cX10_trip 7 = .ok (.iconst 2, 1) := by decide +kernel
theorem dX10_trip_8 : decode cX10_trip 8 = .ok (.if_icmp .ge 42, 3) := by decide +kernel
theorem dX10_trip_11 : decode cX10_trip 11 = .ok (.aload_n 0, 1) := by decide +kernel
theorem dX10_trip_12 : decode cX10_trip 12 = .ok (.getfield 26, 3) := by decide +kernel
theorem dX10_trip_15 : decode cX10_trip 15 = .ok (.iload_n 1, 1) := by decide +kernel
theorem dX10_trip_16 : decode cX10_trip 16 = .ok (.invokevirtual 72, 3) := by decide +kernel
theorem dX10_trip_19 : decode cX10_trip 19 = .ok (.ifCond .eq 31, 3) := by decide +kernel
theorem dX10_trip_22 : decode cX10_trip 22 = .ok (.aload_n 0, 1) := by decide +kernel
theorem dX10_trip_23 : decode cX10_trip 23 = .ok (.iload_n 1, 1) := by decide +kernel
theorem dX10_trip_24 : decode cX10_trip 24 = .ok (.iload_n 2, 1) := by decide +kernel
theorem dX10_trip_25 : decode cX10_trip 25 = .ok (.invokevirtual 76, 3) := by decide +kernel
theorem dX10_trip_28 : decode cX10_trip 28 = .ok (.istore 5, 2) := by decide +kernel
theorem dX10_trip_30 : decode cX10_trip 30 = .ok (.iload 5, 2) := by decide +kernel
theorem dX10_trip_32 : decode cX10_trip 32 = .ok (.iconst (-1), 1) := by decide +kernel
theorem dX10_trip_33 : decode cX10_trip 33 = .ok (.if_icmp .ne 6, 3) := by decide +kernel
theorem dX10_trip_36 : decode cX10_trip 36 = .ok (.goto 14, 3) := by decide +kernel
theorem dX10_trip_39 : decode cX10_trip 39 = .ok (.iload_n 3, 1) := by decide +kernel
theorem dX10_trip_40 : decode cX10_trip 40 = .ok (.iload 5, 2) := by decide +kernel
theorem dX10_trip_42 : decode cX10_trip 42 = .ok (.iadd, 1) := by decide +kernel
theorem dX10_trip_43 : decode cX10_trip 43 = .ok (.istore_n 3, 1) := by decide +kernel
theorem dX10_trip_44 : decode cX10_trip 44 = .ok (.iinc 4 1, 3) := by decide +kernel
theorem dX10_trip_47 : decode cX10_trip 47 = .ok (.goto (-42), 3) := by decide +kernel
theorem dX10_trip_50 : decode cX10_trip 50 = .ok (.iload_n 3, 1) := by decide +kernel
theorem dX10_trip_51 : decode cX10_trip 51 = .ok (.ireturn, 1) := by decide +kernel
set_option maxRecDepth 100000 in
set_option maxHeartbeats 4000000 in
theorem B_X10_trip_0 {κ : Nat → List Value → List Value → m2M → Prop} {D : Nat} {Q : Option Value → m2M → Prop} (h : m2_RL κ cX10_trip RX10 6 D (some .int) Q) {x1 : Int32} {x2 : Int32} {μ : m2M} (k : κ 5 [.ref kW, .int x1, .int x2, .int 0, .int 0, .null] [] μ) : κ 0 [.ref kW, .int x1, .int x2, .null, .null, .null] [] μ := by
  have hB := h.b
  refine m2_iconst hB dX10_trip_0 (v := 0) (by decide) ?_
  refine m2_istore_n hB (ls' := [.ref kW, .int x1, .int x2, .int 0, .null, .null]) dX10_trip_1 rfl (by decide) rfl ?_
  refine m2_iconst hB dX10_trip_2 (v := 0) (by decide) ?_
  refine m2_istore hB (ls' := [.ref kW, .int x1, .int x2, .int 0, .int 0, .null]) dX10_trip_3 (by decide) rfl ?_
  exact k
set_option maxRecDepth 100000 in
set_option maxHeartbeats 4000000 in
theorem B_X10_trip_5 {κ : Nat → List Value → List Value → m2M → Prop} {D : Nat} {Q : Option Value → m2M → Prop} (h : m2_RL κ cX10_trip RX10 6 (D + 1) (some .int) Q) (hD : 0 ≤ D) {v1 : Int32} {v2 : Int32} {v3 : Int32} {v4 : Int32} {μ : m2M} (k : (2 ≤ v4 → Q (some (.int v3)) μ) ∧ (¬ 2 ≤ v4 → (vp_in v1 8) ∧ (((fX6_isBusy v1 μ) = 1 → ∃ Q9 : Option Value → m2M → Prop, m2_MT D yX10_leg cX10_leg 6 (some .int) [.ref kW, .int v1, .int v2] μ Q9 ∧ ∀ (y7 : Int32) (μ8 : m2M), Q9 (some (.int y7)) μ8 → ((¬ y7 = (-1) → κ 5 [.ref kW, .int v1, .int v2, .int (v3 + y7), .int (v4 + 1), .null] [] μ8) ∧ (y7 = (-1) → Q (some (.int v3)) μ8))) ∧ (¬ (fX6_isBusy v1 μ) = 1 → Q (some (.int v3)) μ)))) : κ 5 [.ref kW, .int v1, .int v2, .int v3, .int v4, .null] [] μ := by
  have hB := h.b
  refine m2_iload hB dX10_trip_5 rfl ?_
  refine m2_iconst hB dX10_trip_7 (v := 2) (by decide) ?_
  refine m2_icmp_ge hB dX10_trip_8 (tgt := 50) (by decide) (fun q1 : 2 ≤ v4 => ?_) (fun q1 : ¬ 2 ≤ v4 => ?_)
  · replace k := k.1 q1
    refine m2_iload_n hB dX10_trip_50 rfl ?_
    exact m2_iret h dX10_trip_51 k
  · replace k := k.2 q1
    refine m2_aload_n hB dX10_trip_11 rfl ?_
    refine m2_getR hB dX10_trip_12 fl_X10_26 sh_kW (c1 := kP) rfl ?_
    refine m2_iload_n hB dX10_trip_15 rfl ?_
    obtain ⟨hs2, k⟩ := k
    refine m2_invz hB (as := [.int v1]) dX10_trip_16 mv_X10_72 rfl sh_kP rfl (Nat.le_of_ble_eq_true rfl) rfl (P_X6_isBusy (by omega) (v1) _ hs2) (fun y3 μ4 hq5 => ?_)
    obtain ⟨⟨⟩, hq5⟩ := hq5
    subst μ4
    show κ 19 [.ref kW, .int v1, .int v2, .int v3, .int v4, .null] [.int (if (fX6_isBusy v1 μ) = 1 then 1 else 0 : Int32)] μ
    by_cases q6 : (fX6_isBusy v1 μ) = 1
    · rw [if_pos q6]
      replace k := k.1 q6
      refine m2_if_eq hB dX10_trip_19 (tgt := 50) (by decide) (fun q => absurd q (by decide)) (fun _ => ?_)
      refine m2_aload_n hB dX10_trip_22 rfl ?_
      refine m2_iload_n hB dX10_trip_23 rfl ?_
      refine m2_iload_n hB dX10_trip_24 rfl ?_
      obtain ⟨Q9, hM10, k⟩ := k
      refine m2_invi hB (as := [.int v1, .int v2]) dX10_trip_25 mv_X10_76 rfl sh_kW rfl (Nat.le_of_ble_eq_true rfl) rfl hM10 (fun y7 μ8 hq11 => ?_)
      replace k := k y7 μ8 hq11
      refine m2_istore hB (ls' := [.ref kW, .int v1, .int v2, .int v3, .int v4, .int y7]) dX10_trip_28 (by decide) rfl ?_
      refine m2_iload hB dX10_trip_30 rfl ?_
      refine m2_iconst hB dX10_trip_32 (v := (-1)) (by decide) ?_
      refine m2_icmp_ne hB dX10_trip_33 (tgt := 39) (by decide) (fun q12 : ¬ y7 = (-1) => ?_) (fun q12 : y7 = (-1) => ?_)
      · replace k := k.1 q12
        refine m2_iload_n hB dX10_trip_39 rfl ?_
        refine m2_iload hB dX10_trip_40 rfl ?_
        refine m2_iadd hB dX10_trip_42 ?_
        refine m2_istore_n hB (ls' := [.ref kW, .int v1, .int v2, .int (v3 + y7), .int v4, .int y7]) dX10_trip_43 rfl (by decide) rfl ?_
        refine m2_iinc hB (ls' := [.ref kW, .int v1, .int v2, .int (v3 + y7), .int (v4 + 1), .int y7]) (v := (v4 + 1)) dX10_trip_44 rfl (by decide) rfl rfl ?_
        refine m2_goto hB dX10_trip_47 (tgt := 5) (by decide) ?_
        exact m2_weak (ls' := [.ref kW, .int v1, .int v2, .int (v3 + y7), .int (v4 + 1), .null]) hB ⟨Or.inr rfl, Or.inr rfl, Or.inr rfl, Or.inr rfl, Or.inr rfl, Or.inl rfl, trivial⟩ k
      · replace k := k.2 q12
        refine m2_goto hB dX10_trip_36 (tgt := 50) (by decide) ?_
        refine m2_iload_n hB dX10_trip_50 rfl ?_
        exact m2_iret h dX10_trip_51 k
    · rw [if_neg q6]
      replace k := k.2 q6
      refine m2_if_eq hB dX10_trip_19 (tgt := 50) (by decide) (fun _ => ?_) (fun q => absurd q (by decide))
      refine m2_iload_n hB dX10_trip_50 rfl ?_
      exact m2_iret h dX10_trip_51 k
theorem dX10_leg_0 : decode cX10_leg 0 = .ok (.aload_n 0, 1) := by decide +kernel
theorem dX10_leg_1 : decode cX10_leg 1 = .ok (.getfield 26, 3) := by decide +kernel
theorem dX10_leg_4 : decode cX10_leg 4 = .ok (.iload_n 1, 1) := by decide +kernel
theorem dX10_leg_5 : decode cX10_leg 5 = .ok (.invokevirtual 79, 3) := by decide +kernel
theorem dX10_leg_8 : decode cX10_leg 8 = .ok (.istore_n 3, 1) := by decide +kernel
theorem dX10_leg_9 : decode cX10_leg 9 = .ok (.iload_n 3, 1) := by decide +kernel
theorem dX10_leg_10 : decode cX10_leg 10 = .ok (.iconst (-1), 1) := by decide +kernel
theorem dX10_leg_11 : decode cX10_leg 11 = .ok (.if_icmp .ne 5, 3) := by decide +kernel
theorem dX10_leg_14 : decode cX10_leg 14 = .ok (.iconst (-1), 1) := by decide +kernel
theorem dX10_leg_15 : decode cX10_leg 15 = .ok (.ireturn, 1) := by decide +kernel
theorem dX10_leg_16 : decode cX10_leg 16 = .ok (.iload_n 2, 1) := by decide +kernel
theorem dX10_leg_17 : decode cX10_leg 17 = .ok (.iconst 3, 1) := by decide +kernel
theorem dX10_leg_18 : decode cX10_leg 18 = .ok (.if_icmp .ne 18, 3) := by decide +kernel
theorem dX10_leg_21 : decode cX10_leg 21 = .ok (.aload_n 0, 1) := by decide +kernel
theorem dX10_leg_22 : decode cX10_leg 22 = .ok (.getfield 34, 3) := by decide +kernel
theorem dX10_leg_25 : decode cX10_leg 25 = .ok (.getfield 83, 3) := by decide +kernel
theorem dX10_leg_28 : decode cX10_leg 28 = .ok (.ifCond .eq 8, 3) := by decide +kernel
theorem dX10_leg_31 : decode cX10_leg 31 = .ok (.aload_n 0, 1) := by decide +kernel
theorem dX10_leg_32 : decode cX10_leg 32 = .ok (.iload_n 1, 1) := by decide +kernel
theorem dX10_leg_33 : decode cX10_leg 33 = .ok (.invokevirtual 89, 3) := by decide +kernel
theorem dX10_leg_36 : decode cX10_leg 36 = .ok (.aload_n 0, 1) := by decide +kernel
theorem dX10_leg_37 : decode cX10_leg 37 = .ok (.iload_n 1, 1) := by decide +kernel
theorem dX10_leg_38 : decode cX10_leg 38 = .ok (.iload_n 2, 1) := by decide +kernel
theorem dX10_leg_39 : decode cX10_leg 39 = .ok (.invokevirtual 93, 3) := by decide +kernel
theorem dX10_leg_42 : decode cX10_leg 42 = .ok (.aload_n 0, 1) := by decide +kernel
theorem dX10_leg_43 : decode cX10_leg 43 = .ok (.getfield 30, 3) := by decide +kernel
theorem dX10_leg_46 : decode cX10_leg 46 = .ok (.aload_n 0, 1) := by decide +kernel
theorem dX10_leg_47 : decode cX10_leg 47 = .ok (.getfield 26, 3) := by decide +kernel
theorem dX10_leg_50 : decode cX10_leg 50 = .ok (.getfield 38, 3) := by decide +kernel
theorem dX10_leg_53 : decode cX10_leg 53 = .ok (.iload_n 1, 1) := by decide +kernel
theorem dX10_leg_54 : decode cX10_leg 54 = .ok (.iaload, 1) := by decide +kernel
theorem dX10_leg_55 : decode cX10_leg 55 = .ok (.iload_n 3, 1) := by decide +kernel
theorem dX10_leg_56 : decode cX10_leg 56 = .ok (.invokevirtual 96, 3) := by decide +kernel
theorem dX10_leg_59 : decode cX10_leg 59 = .ok (.istore 4, 2) := by decide +kernel
theorem dX10_leg_61 : decode cX10_leg 61 = .ok (.iconst 0, 1) := by decide +kernel
theorem dX10_leg_62 : decode cX10_leg 62 = .ok (.istore 5, 2) := by decide +kernel
theorem dX10_leg_64 : decode cX10_leg 64 = .ok (.iload 5, 2) := by decide +kernel
theorem dX10_leg_66 : decode cX10_leg 66 = .ok (.iload 4, 2) := by decide +kernel
theorem dX10_leg_68 : decode cX10_leg 68 = .ok (.if_icmp .ge 24, 3) := by decide +kernel
theorem dX10_leg_71 : decode cX10_leg 71 = .ok (.aload_n 0, 1) := by decide +kernel
theorem dX10_leg_72 : decode cX10_leg 72 = .ok (.iload_n 1, 1) := by decide +kernel
theorem dX10_leg_73 : decode cX10_leg 73 = .ok (.aload_n 0, 1) := by decide +kernel
theorem dX10_leg_74 : decode cX10_leg 74 = .ok (.getfield 30, 3) := by decide +kernel
theorem dX10_leg_77 : decode cX10_leg 77 = .ok (.getfield 101, 3) := by decide +kernel
theorem dX10_leg_80 : decode cX10_leg 80 = .ok (.iload 5, 2) := by decide +kernel
theorem dX10_leg_82 : decode cX10_leg 82 = .ok (.iaload, 1) := by decide +kernel
theorem dX10_leg_83 : decode cX10_leg 83 = .ok (.invokevirtual 104, 3) := by decide +kernel
theorem dX10_leg_86 : decode cX10_leg 86 = .ok (.iinc 5 1, 3) := by decide +kernel
theorem dX10_leg_89 : decode cX10_leg 89 = .ok (.goto (-25), 3) := by decide +kernel
theorem dX10_leg_92 : decode cX10_leg 92 = .ok (.iload 4, 2) := by decide +kernel
theorem dX10_leg_94 : decode cX10_leg 94 = .ok (.ireturn, 1) := by decide +kernel
set_option maxRecDepth 100000 in
set_option maxHeartbeats 4000000 in
theorem B_X10_leg_0 {κ : Nat → List Value → List Value → m2M → Prop} {D : Nat} {Q : Option Value → m2M → Prop} (h : m2_RL κ cX10_leg RX10 6 (D + 1) (some .int) Q) (hD : 1 ≤ D) {x1 : Int32} {x2 : Int32} {μ : m2M} (k : (vp_in x1 8) ∧ ((¬ (fX6_goal x1 μ) = (-1) → (¬ x2 = 3 → ∃ Q9 : Option Value → m2M → Prop, m2_MT D yX10_setCosts cX10_setCosts 5 none [.ref kW, .int x1, .int x2] μ Q9 ∧ ∀ (μ8 : m2M), Q9 none μ8 → (∃ Q15 : Option Value → m2M → Prop, m2_MT D yX8_find cX8_find 3 (some .int) [.ref kR, .int (μ8.1 kP_where (x1).toNatClampNeg), .int (fX6_goal x1 μ)] μ8 Q15 ∧ ∀ (y13 : Int32) (μ14 : m2M), Q15 (some (.int y13)) μ14 → (κ 64 [.ref kW, .int x1, .int x2, .int (fX6_goal x1 μ), .int y13, .int 0] [] μ14))) ∧ (x2 = 3 → ((μ.1 kE 3) = 0 → ∃ Q21 : Option Value → m2M → Prop, m2_MT D yX10_setCosts cX10_setCosts 5 none [.ref kW, .int x1, .int x2] μ Q21 ∧ ∀ (μ20 : m2M), Q21 none μ20 → (∃ Q27 : Option Value → m2M → Prop, m2_MT D yX8_find cX8_find 3 (some .int) [.ref kR, .int (μ20.1 kP_where (x1).toNatClampNeg), .int (fX6_goal x1 μ)] μ20 Q27 ∧ ∀ (y25 : Int32) (μ26 : m2M), Q27 (some (.int y25)) μ26 → (κ 64 [.ref kW, .int x1, .int x2, .int (fX6_goal x1 μ), .int y25, .int 0] [] μ26))) ∧ (¬ (μ.1 kE 3) = 0 → ∃ Q32 : Option Value → m2M → Prop, m2_MT D yX10_countWays cX10_countWays 6 none [.ref kW, .int x1] μ Q32 ∧ ∀ (μ31 : m2M), Q32 none μ31 → (∃ Q37 : Option Value → m2M → Prop, m2_MT D yX10_setCosts cX10_setCosts 5 none [.ref kW, .int x1, .int x2] μ31 Q37 ∧ ∀ (μ36 : m2M), Q37 none μ36 → (∃ Q43 : Option Value → m2M → Prop, m2_MT D yX8_find cX8_find 3 (some .int) [.ref kR, .int (μ36.1 kP_where (x1).toNatClampNeg), .int (fX6_goal x1 μ)] μ36 Q43 ∧ ∀ (y41 : Int32) (μ42 : m2M), Q43 (some (.int y41)) μ42 → (κ 64 [.ref kW, .int x1, .int x2, .int (fX6_goal x1 μ), .int y41, .int 0] [] μ42)))))) ∧ ((fX6_goal x1 μ) = (-1) → Q (some (.int (-1))) μ))) : κ 0 [.ref kW, .int x1, .int x2, .null, .null, .null] [] μ := by
  have hB := h.b
  refine m2_aload_n hB dX10_leg_0 rfl ?_
  refine m2_getR hB dX10_leg_1 fl_X10_26 sh_kW (c1 := kP) rfl ?_
  refine m2_iload_n hB dX10_leg_4 rfl ?_
  obtain ⟨hs1, k⟩ := k
  refine m2_invi hB (as := [.int x1]) dX10_leg_5 mv_X10_79 rfl sh_kP rfl (Nat.le_of_ble_eq_true rfl) rfl (P_X6_goal (by omega) (x1) _ hs1) (fun y2 μ3 hq4 => ?_)
  obtain ⟨⟨⟩, hq4⟩ := hq4
  subst μ3
  refine m2_istore_n hB (ls' := [.ref kW, .int x1, .int x2, .int (fX6_goal x1 μ), .null, .null]) dX10_leg_8 rfl (by decide) rfl ?_
  refine m2_iload_n hB dX10_leg_9 rfl ?_
  refine m2_iconst hB dX10_leg_10 (v := (-1)) (by decide) ?_
  refine m2_icmp_ne hB dX10_leg_11 (tgt := 16) (by decide) (fun q5 : ¬ (fX6_goal x1 μ) = (-1) => ?_) (fun q5 : (fX6_goal x1 μ) = (-1) => ?_)
  · replace k := k.1 q5
    refine m2_iload_n hB dX10_leg_16 rfl ?_
    refine m2_iconst hB dX10_leg_17 (v := 3) (by decide) ?_
    refine m2_icmp_ne hB dX10_leg_18 (tgt := 36) (by decide) (fun q6 : ¬ x2 = 3 => ?_) (fun q6 : x2 = 3 => ?_)
    · replace k := k.1 q6
      refine m2_aload_n hB dX10_leg_36 rfl ?_
      refine m2_iload_n hB dX10_leg_37 rfl ?_
      refine m2_iload_n hB dX10_leg_38 rfl ?_
      obtain ⟨Q9, hM10, k⟩ := k
      refine m2_invv hB (as := [.int x1, .int x2]) dX10_leg_39 mv_X10_93 rfl sh_kW rfl (Nat.le_of_ble_eq_true rfl) rfl hM10 (fun μ8 hq11 => ?_)
      replace k := k μ8 hq11
      refine m2_aload_n hB dX10_leg_42 rfl ?_
      refine m2_getR hB dX10_leg_43 fl_X10_30 sh_kW (c1 := kR) rfl ?_
      refine m2_aload_n hB dX10_leg_46 rfl ?_
      refine m2_getR hB dX10_leg_47 fl_X10_26 sh_kW (c1 := kP) rfl ?_
      refine m2_getR hB dX10_leg_50 fl_X10_38 sh_kP (c1 := kP_where) rfl ?_
      refine m2_iload_n hB dX10_leg_53 rfl ?_
      have hi12 := hs1
      refine m2_iald hB dX10_leg_54 sh_kP_where hi12 ?_
      refine m2_iload_n hB dX10_leg_55 rfl ?_
      obtain ⟨Q15, hM16, k⟩ := k
      refine m2_invi hB (as := [.int (μ8.1 kP_where (x1).toNatClampNeg), .int (fX6_goal x1 μ)]) dX10_leg_56 mv_X10_96 rfl sh_kR rfl (Nat.le_of_ble_eq_true rfl) rfl hM16 (fun y13 μ14 hq17 => ?_)
      replace k := k y13 μ14 hq17
      refine m2_istore hB (ls' := [.ref kW, .int x1, .int x2, .int (fX6_goal x1 μ), .int y13, .null]) dX10_leg_59 (by decide) rfl ?_
      refine m2_iconst hB dX10_leg_61 (v := 0) (by decide) ?_
      refine m2_istore hB (ls' := [.ref kW, .int x1, .int x2, .int (fX6_goal x1 μ), .int y13, .int 0]) dX10_leg_62 (by decide) rfl ?_
      exact k
    · replace k := k.2 q6
      refine m2_aload_n hB dX10_leg_21 rfl ?_
      refine m2_getR hB dX10_leg_22 fl_X10_34 sh_kW (c1 := kE) rfl ?_
      refine m2_getI hB dX10_leg_25 fl_X10_83 sh_kE rfl ?_
      refine m2_if_eq hB dX10_leg_28 (tgt := 36) (by decide) (fun q18 : (μ.1 kE 3) = 0 => ?_) (fun q18 : ¬ (μ.1 kE 3) = 0 => ?_)
      · replace k := k.1 q18
        refine m2_aload_n hB dX10_leg_36 rfl ?_
        refine m2_iload_n hB dX10_leg_37 rfl ?_
        refine m2_iload_n hB dX10_leg_38 rfl ?_
        obtain ⟨Q21, hM22, k⟩ := k
        refine m2_invv hB (as := [.int x1, .int x2]) dX10_leg_39 mv_X10_93 rfl sh_kW rfl (Nat.le_of_ble_eq_true rfl) rfl hM22 (fun μ20 hq23 => ?_)
        replace k := k μ20 hq23
        refine m2_aload_n hB dX10_leg_42 rfl ?_
        refine m2_getR hB dX10_leg_43 fl_X10_30 sh_kW (c1 := kR) rfl ?_
        refine m2_aload_n hB dX10_leg_46 rfl ?_
        refine m2_getR hB dX10_leg_47 fl_X10_26 sh_kW (c1 := kP) rfl ?_
        refine m2_getR hB dX10_leg_50 fl_X10_38 sh_kP (c1 := kP_where) rfl ?_
        refine m2_iload_n hB dX10_leg_53 rfl ?_
        have hi24 := hs1
        refine m2_iald hB dX10_leg_54 sh_kP_where hi24 ?_
        refine m2_iload_n hB dX10_leg_55 rfl ?_
        obtain ⟨Q27, hM28, k⟩ := k
        refine m2_invi hB (as := [.int (μ20.1 kP_where (x1).toNatClampNeg), .int (fX6_goal x1 μ)]) dX10_leg_56 mv_X10_96 rfl sh_kR rfl (Nat.le_of_ble_eq_true rfl) rfl hM28 (fun y25 μ26 hq29 => ?_)
        replace k := k y25 μ26 hq29
        refine m2_istore hB (ls' := [.ref kW, .int x1, .int x2, .int (fX6_goal x1 μ), .int y25, .null]) dX10_leg_59 (by decide) rfl ?_
        refine m2_iconst hB dX10_leg_61 (v := 0) (by decide) ?_
        refine m2_istore hB (ls' := [.ref kW, .int x1, .int x2, .int (fX6_goal x1 μ), .int y25, .int 0]) dX10_leg_62 (by decide) rfl ?_
        exact k
      · replace k := k.2 q18
        refine m2_aload_n hB dX10_leg_31 rfl ?_
        refine m2_iload_n hB dX10_leg_32 rfl ?_
        obtain ⟨Q32, hM33, k⟩ := k
        refine m2_invv hB (as := [.int x1]) dX10_leg_33 mv_X10_89 rfl sh_kW rfl (Nat.le_of_ble_eq_true rfl) rfl hM33 (fun μ31 hq34 => ?_)
        replace k := k μ31 hq34
        refine m2_aload_n hB dX10_leg_36 rfl ?_
        refine m2_iload_n hB dX10_leg_37 rfl ?_
        refine m2_iload_n hB dX10_leg_38 rfl ?_
        obtain ⟨Q37, hM38, k⟩ := k
        refine m2_invv hB (as := [.int x1, .int x2]) dX10_leg_39 mv_X10_93 rfl sh_kW rfl (Nat.le_of_ble_eq_true rfl) rfl hM38 (fun μ36 hq39 => ?_)
        replace k := k μ36 hq39
        refine m2_aload_n hB dX10_leg_42 rfl ?_
        refine m2_getR hB dX10_leg_43 fl_X10_30 sh_kW (c1 := kR) rfl ?_
        refine m2_aload_n hB dX10_leg_46 rfl ?_
        refine m2_getR hB dX10_leg_47 fl_X10_26 sh_kW (c1 := kP) rfl ?_
        refine m2_getR hB dX10_leg_50 fl_X10_38 sh_kP (c1 := kP_where) rfl ?_
        refine m2_iload_n hB dX10_leg_53 rfl ?_
        have hi40 := hs1
        refine m2_iald hB dX10_leg_54 sh_kP_where hi40 ?_
        refine m2_iload_n hB dX10_leg_55 rfl ?_
        obtain ⟨Q43, hM44, k⟩ := k
        refine m2_invi hB (as := [.int (μ36.1 kP_where (x1).toNatClampNeg), .int (fX6_goal x1 μ)]) dX10_leg_56 mv_X10_96 rfl sh_kR rfl (Nat.le_of_ble_eq_true rfl) rfl hM44 (fun y41 μ42 hq45 => ?_)
        replace k := k y41 μ42 hq45
        refine m2_istore hB (ls' := [.ref kW, .int x1, .int x2, .int (fX6_goal x1 μ), .int y41, .null]) dX10_leg_59 (by decide) rfl ?_
        refine m2_iconst hB dX10_leg_61 (v := 0) (by decide) ?_
        refine m2_istore hB (ls' := [.ref kW, .int x1, .int x2, .int (fX6_goal x1 μ), .int y41, .int 0]) dX10_leg_62 (by decide) rfl ?_
        exact k
  · replace k := k.2 q5
    refine m2_iconst hB dX10_leg_14 (v := (-1)) (by decide) ?_
    exact m2_iret h dX10_leg_15 k
set_option maxRecDepth 100000 in
set_option maxHeartbeats 4000000 in
theorem B_X10_leg_64 {κ : Nat → List Value → List Value → m2M → Prop} {D : Nat} {Q : Option Value → m2M → Prop} (h : m2_RL κ cX10_leg RX10 6 (D + 1) (some .int) Q) {v1 : Int32} {v2 : Int32} {v3 : Int32} {v4 : Int32} {v5 : Int32} {μ : m2M} (k : (v4 ≤ v5 → Q (some (.int v4)) μ) ∧ (¬ v4 ≤ v5 → (vp_in v5 12) ∧ (∃ Q6 : Option Value → m2M → Prop, m2_MT D yX10_goThrough cX10_goThrough 4 none [.ref kW, .int v1, .int (μ.1 kR_found (v5).toNatClampNeg)] μ Q6 ∧ ∀ (μ5 : m2M), Q6 none μ5 → (κ 64 [.ref kW, .int v1, .int v2, .int v3, .int v4, .int (v5 + 1)] [] μ5)))) : κ 64 [.ref kW, .int v1, .int v2, .int v3, .int v4, .int v5] [] μ := by
  have hB := h.b
  refine m2_iload hB dX10_leg_64 rfl ?_
  refine m2_iload hB dX10_leg_66 rfl ?_
  refine m2_icmp_ge hB dX10_leg_68 (tgt := 92) (by decide) (fun q2 : v4 ≤ v5 => ?_) (fun q2 : ¬ v4 ≤ v5 => ?_)
  · replace k := k.1 q2
    refine m2_iload hB dX10_leg_92 rfl ?_
    exact m2_iret h dX10_leg_94 k
  · replace k := k.2 q2
    refine m2_aload_n hB dX10_leg_71 rfl ?_
    refine m2_iload_n hB dX10_leg_72 rfl ?_
    refine m2_aload_n hB dX10_leg_73 rfl ?_
    refine m2_getR hB dX10_leg_74 fl_X10_30 sh_kW (c1 := kR) rfl ?_
    refine m2_getR hB dX10_leg_77 fl_X10_101 sh_kR (c1 := kR_found) rfl ?_
    refine m2_iload hB dX10_leg_80 rfl ?_
    obtain ⟨hi3, k⟩ := k
    refine m2_iald hB dX10_leg_82 sh_kR_found hi3 ?_
    obtain ⟨Q6, hM7, k⟩ := k
    refine m2_invv hB (as := [.int v1, .int (μ.1 kR_found (v5).toNatClampNeg)]) dX10_leg_83 mv_X10_104 rfl sh_kW rfl (Nat.le_of_ble_eq_true rfl) rfl hM7 (fun μ5 hq8 => ?_)
    replace k := k μ5 hq8
    refine m2_iinc hB (ls' := [.ref kW, .int v1, .int v2, .int v3, .int v4, .int (v5 + 1)]) (v := (v5 + 1)) dX10_leg_86 rfl (by decide) rfl rfl ?_
    refine m2_goto hB dX10_leg_89 (tgt := 64) (by decide) ?_
    exact k
theorem dX10_fewestDoors_0 : decode cX10_fewestDoors 0 = .ok (.aload_n 0, 1) := by decide +kernel
theorem dX10_fewestDoors_1 : decode cX10_fewestDoors 1 = .ok (.getfield 26, 3) := by decide +kernel
theorem dX10_fewestDoors_4 : decode cX10_fewestDoors 4 = .ok (.iload_n 1, 1) := by decide +kernel
theorem dX10_fewestDoors_5 : decode cX10_fewestDoors 5 = .ok (.invokevirtual 79, 3) := by decide +kernel
theorem dX10_fewestDoors_8 : decode cX10_fewestDoors 8 = .ok (.istore_n 2, 1) := by decide +kernel
theorem dX10_fewestDoors_9 : decode cX10_fewestDoors 9 = .ok (.iload_n 2, 1) := by decide +kernel
theorem dX10_fewestDoors_10 : decode cX10_fewestDoors 10 = .ok (.iconst (-1), 1) := by decide +kernel
theorem dX10_fewestDoors_11 : decode cX10_fewestDoors 11 = .ok (.if_icmp .ne 5, 3) := by decide +kernel
theorem dX10_fewestDoors_14 : decode cX10_fewestDoors 14 = .ok (.iconst 0, 1) := by decide +kernel
theorem dX10_fewestDoors_15 : decode cX10_fewestDoors 15 = .ok (.ireturn, 1) := by decide +kernel
theorem dX10_fewestDoors_16 : decode cX10_fewestDoors 16 = .ok (.aload_n 0, 1) := by decide +kernel
theorem dX10_fewestDoors_17 : decode cX10_fewestDoors 17 = .ok (.getfield 30, 3) := by decide +kernel
theorem dX10_fewestDoors_20 : decode cX10_fewestDoors 20 = .ok (.iconst 0, 1) := by decide +kernel
theorem dX10_fewestDoors_21 : decode cX10_fewestDoors 21 = .ok (.invokevirtual 107, 3) := by decide +kernel
theorem dX10_fewestDoors_24 : decode cX10_fewestDoors 24 = .ok (.aload_n 0, 1) := by decide +kernel
theorem dX10_fewestDoors_25 : decode cX10_fewestDoors 25 = .ok (.getfield 30, 3) := by decide +kernel
theorem dX10_fewestDoors_28 : decode cX10_fewestDoors 28 = .ok (.iload_n 2, 1) := by decide +kernel
theorem dX10_fewestDoors_29 : decode cX10_fewestDoors 29 = .ok (.invokevirtual 110, 3) := by decide +kernel
theorem dX10_fewestDoors_32 : decode cX10_fewestDoors 32 = .ok (.aload_n 0, 1) := by decide +kernel
theorem dX10_fewestDoors_33 : decode cX10_fewestDoors 33 = .ok (.getfield 30, 3) := by decide +kernel
theorem dX10_fewestDoors_36 : decode cX10_fewestDoors 36 = .ok (.getfield 113, 3) := by decide +kernel
theorem dX10_fewestDoors_39 : decode cX10_fewestDoors 39 = .ok (.aload_n 0, 1) := by decide +kernel
theorem dX10_fewestDoors_40 : decode cX10_fewestDoors 40 = .ok (.getfield 26, 3) := by decide +kernel
theorem dX10_fewestDoors_43 : decode cX10_fewestDoors 43 = .ok (.getfield 38, 3) := by decide +kernel
theorem dX10_fewestDoors_46 : decode cX10_fewestDoors 46 = .ok (.iload_n 1, 1) := by decide +kernel
theorem dX10_fewestDoors_47 : decode cX10_fewestDoors 47 = .ok (.iaload, 1) := by decide +kernel
theorem dX10_fewestDoors_48 : decode cX10_fewestDoors 48 = .ok (.iaload, 1) := by decide +kernel
theorem dX10_fewestDoors_49 : decode cX10_fewestDoors 49 = .ok (.istore_n 3, 1) := by decide +kernel
theorem dX10_fewestDoors_50 : decode cX10_fewestDoors 50 = .ok (.aload_n 0, 1) := by decide +kernel
theorem dX10_fewestDoors_51 : decode cX10_fewestDoors 51 = .ok (.getfield 26, 3) := by decide +kernel
theorem dX10_fewestDoors_54 : decode cX10_fewestDoors 54 = .ok (.getfield 116, 3) := by decide +kernel
theorem dX10_fewestDoors_57 : decode cX10_fewestDoors 57 = .ok (.iload_n 1, 1) := by decide +kernel
theorem dX10_fewestDoors_58 : decode cX10_fewestDoors 58 = .ok (.baload, 1) := by decide +kernel
theorem dX10_fewestDoors_59 : decode cX10_fewestDoors 59 = .ok (.ifCond .eq 43, 3) := by decide +kernel
theorem dX10_fewestDoors_62 : decode cX10_fewestDoors 62 = .ok (.aload_n 0, 1) := by decide +kernel
theorem dX10_fewestDoors_63 : decode cX10_fewestDoors 63 = .ok (.getfield 26, 3) := by decide +kernel
theorem dX10_fewestDoors_66 : decode cX10_fewestDoors 66 = .ok (.getfield 119, 3) := by decide +kernel
theorem dX10_fewestDoors_69 : decode cX10_fewestDoors 69 = .ok (.iload_n 1, 1) := by decide +kernel
theorem dX10_fewestDoors_70 : decode cX10_fewestDoors 70 = .ok (.baload, 1) := by decide +kernel
theorem dX10_fewestDoors_71 : decode cX10_fewestDoors 71 = .ok (.ifCond .ne 31, 3) := by decide +kernel
theorem dX10_fewestDoors_74 : decode cX10_fewestDoors 74 = .ok (.aload_n 0, 1) := by decide +kernel
theorem dX10_fewestDoors_75 : decode cX10_fewestDoors 75 = .ok (.getfield 30, 3) := by decide +kernel
theorem dX10_fewestDoors_78 : decode cX10_fewestDoors 78 = .ok (.aload_n 0, 1) := by decide +kernel
theorem dX10_fewestDoors_79 : decode cX10_fewestDoors 79 = .ok (.getfield 26, 3) := by decide +kernel
theorem dX10_fewestDoors_82 : decode cX10_fewestDoors 82 = .ok (.getfield 122, 3) := by decide +kernel
theorem dX10_fewestDoors_85 : decode cX10_fewestDoors 85 = .ok (.iload_n 1, 1) := by decide +kernel
theorem dX10_fewestDoors_86 : decode cX10_fewestDoors 86 = .ok (.iaload, 1) := by decide +kernel
theorem dX10_fewestDoors_87 : decode cX10_fewestDoors 87 = .ok (.invokevirtual 110, 3) := by decide +kernel
theorem dX10_fewestDoors_90 : decode cX10_fewestDoors 90 = .ok (.iload_n 3, 1) := by decide +kernel
theorem dX10_fewestDoors_91 : decode cX10_fewestDoors 91 = .ok (.aload_n 0, 1) := by decide +kernel
theorem dX10_fewestDoors_92 : decode cX10_fewestDoors 92 = .ok (.getfield 30, 3) := by decide +kernel
theorem dX10_fewestDoors_95 : decode cX10_fewestDoors 95 = .ok (.getfield 113, 3) := by decide +kernel
theorem dX10_fewestDoors_98 : decode cX10_fewestDoors 98 = .ok (.iload_n 2, 1) := by decide +kernel
theorem dX10_fewestDoors_99 : decode cX10_fewestDoors 99 = .ok (.iaload, 1) := by decide +kernel
theorem dX10_fewestDoors_100 : decode cX10_fewestDoors 100 = .ok (.iadd, 1) := by decide +kernel
theorem dX10_fewestDoors_101 : decode cX10_fewestDoors 101 = .ok (.istore_n 3, 1) := by decide +kernel
theorem dX10_fewestDoors_102 : decode cX10_fewestDoors 102 = .ok (.iload_n 3, 1) := by decide +kernel
theorem dX10_fewestDoors_103 : decode cX10_fewestDoors 103 = .ok (.ldc 125, 2) := by decide +kernel
theorem dX10_fewestDoors_105 : decode cX10_fewestDoors 105 = .ok (.if_icmp .ge 7, 3) := by decide +kernel
theorem dX10_fewestDoors_108 : decode cX10_fewestDoors 108 = .ok (.iload_n 3, 1) := by decide +kernel
theorem dX10_fewestDoors_109 : decode cX10_fewestDoors 109 = .ok (.goto 4, 3) := by decide +kernel
theorem dX10_fewestDoors_112 : decode cX10_fewestDoors 112 = .ok (.iconst 0, 1) := by decide +kernel
theorem dX10_fewestDoors_113 : decode cX10_fewestDoors 113 = .ok (.ireturn, 1) := by decide +kernel
set_option maxRecDepth 100000 in
set_option maxHeartbeats 4000000 in
theorem B_X10_fewestDoors_0 {κ : Nat → List Value → List Value → m2M → Prop} {D : Nat} {Q : Option Value → m2M → Prop} (h : m2_RL κ cX10_fewestDoors RX10 4 (D + 1) (some .int) Q) (hD : 1 ≤ D) {x1 : Int32} {μ : m2M} (k : (vp_in x1 8) ∧ ((¬ (fX6_goal x1 μ) = (-1) → ∃ Q8 : Option Value → m2M → Prop, m2_MT D yX8_useAbove cX8_useAbove 3 none [.ref kR, .int 0] μ Q8 ∧ ∀ (μ7 : m2M), Q8 none μ7 → (∃ Q13 : Option Value → m2M → Prop, m2_MT D yX8_measure cX8_measure 7 none [.ref kR, .int (fX6_goal x1 μ)] μ7 Q13 ∧ ∀ (μ12 : m2M), Q13 none μ12 → ((vp_in (μ12.1 kP_where (x1).toNatClampNeg) 12) ∧ (((μ12.1 kP_back (x1).toNatClampNeg) = 0 → Q (some (.int (if 268435456 ≤ (μ12.1 kR_dist ((μ12.1 kP_where (x1).toNatClampNeg)).toNatClampNeg) then 0 else (μ12.1 kR_dist ((μ12.1 kP_where (x1).toNatClampNeg)).toNatClampNeg) : Int32))) μ12) ∧ (¬ (μ12.1 kP_back (x1).toNatClampNeg) = 0 → (¬ (μ12.1 kP_reached (x1).toNatClampNeg) = 0 → Q (some (.int (if 268435456 ≤ (μ12.1 kR_dist ((μ12.1 kP_where (x1).toNatClampNeg)).toNatClampNeg) then 0 else (μ12.1 kR_dist ((μ12.1 kP_where (x1).toNatClampNeg)).toNatClampNeg) : Int32))) μ12) ∧ ((μ12.1 kP_reached (x1).toNatClampNeg) = 0 → ∃ Q31 : Option Value → m2M → Prop, m2_MT D yX8_measure cX8_measure 7 none [.ref kR, .int (μ12.1 kP_first (x1).toNatClampNeg)] μ12 Q31 ∧ ∀ (μ30 : m2M), Q31 none μ30 → ((vp_in (fX6_goal x1 μ) 12) ∧ (Q (some (.int (if 268435456 ≤ ((μ12.1 kR_dist ((μ12.1 kP_where (x1).toNatClampNeg)).toNatClampNeg) + (μ30.1 kR_dist ((fX6_goal x1 μ)).toNatClampNeg)) then 0 else ((μ12.1 kR_dist ((μ12.1 kP_where (x1).toNatClampNeg)).toNatClampNeg) + (μ30.1 kR_dist ((fX6_goal x1 μ)).toNatClampNeg)) : Int32))) μ30)))))))) ∧ ((fX6_goal x1 μ) = (-1) → Q (some (.int 0)) μ))) : κ 0 [.ref kW, .int x1, .null, .null] [] μ := by
  have hB := h.b
  refine m2_aload_n hB dX10_fewestDoors_0 rfl ?_
  refine m2_getR hB dX10_fewestDoors_1 fl_X10_26 sh_kW (c1 := kP) rfl ?_
  refine m2_iload_n hB dX10_fewestDoors_4 rfl ?_
  obtain ⟨hs1, k⟩ := k
  refine m2_invi hB (as := [.int x1]) dX10_fewestDoors_5 mv_X10_79 rfl sh_kP rfl (Nat.le_of_ble_eq_true rfl) rfl (P_X6_goal (by omega) (x1) _ hs1) (fun y2 μ3 hq4 => ?_)
  obtain ⟨⟨⟩, hq4⟩ := hq4
  subst μ3
  refine m2_istore_n hB (ls' := [.ref kW, .int x1, .int (fX6_goal x1 μ), .null]) dX10_fewestDoors_8 rfl (by decide) rfl ?_
  refine m2_iload_n hB dX10_fewestDoors_9 rfl ?_
  refine m2_iconst hB dX10_fewestDoors_10 (v := (-1)) (by decide) ?_
  refine m2_icmp_ne hB dX10_fewestDoors_11 (tgt := 16) (by decide) (fun q5 : ¬ (fX6_goal x1 μ) = (-1) => ?_) (fun q5 : (fX6_goal x1 μ) = (-1) => ?_)
  · replace k := k.1 q5
    refine m2_aload_n hB dX10_fewestDoors_16 rfl ?_
    refine m2_getR hB dX10_fewestDoors_17 fl_X10_30 sh_kW (c1 := kR) rfl ?_
    refine m2_iconst hB dX10_fewestDoors_20 (v := 0) (by decide) ?_
    obtain ⟨Q8, hM9, k⟩ := k
    refine m2_invv hB (as := [.int 0]) dX10_fewestDoors_21 mv_X10_107 rfl sh_kR rfl (Nat.le_of_ble_eq_true rfl) rfl hM9 (fun μ7 hq10 => ?_)
    replace k := k μ7 hq10
    refine m2_aload_n hB dX10_fewestDoors_24 rfl ?_
    refine m2_getR hB dX10_fewestDoors_25 fl_X10_30 sh_kW (c1 := kR) rfl ?_
    refine m2_iload_n hB dX10_fewestDoors_28 rfl ?_
    obtain ⟨Q13, hM14, k⟩ := k
    refine m2_invv hB (as := [.int (fX6_goal x1 μ)]) dX10_fewestDoors_29 mv_X10_110 rfl sh_kR rfl (Nat.le_of_ble_eq_true rfl) rfl hM14 (fun μ12 hq15 => ?_)
    replace k := k μ12 hq15
    refine m2_aload_n hB dX10_fewestDoors_32 rfl ?_
    refine m2_getR hB dX10_fewestDoors_33 fl_X10_30 sh_kW (c1 := kR) rfl ?_
    refine m2_getR hB dX10_fewestDoors_36 fl_X10_113 sh_kR (c1 := kR_dist) rfl ?_
    refine m2_aload_n hB dX10_fewestDoors_39 rfl ?_
    refine m2_getR hB dX10_fewestDoors_40 fl_X10_26 sh_kW (c1 := kP) rfl ?_
    refine m2_getR hB dX10_fewestDoors_43 fl_X10_38 sh_kP (c1 := kP_where) rfl ?_
    refine m2_iload_n hB dX10_fewestDoors_46 rfl ?_
    have hi16 := hs1
    refine m2_iald hB dX10_fewestDoors_47 sh_kP_where hi16 ?_
    obtain ⟨hi17, k⟩ := k
    refine m2_iald hB dX10_fewestDoors_48 sh_kR_dist hi17 ?_
    refine m2_istore_n hB (ls' := [.ref kW, .int x1, .int (fX6_goal x1 μ), .int (μ12.1 kR_dist ((μ12.1 kP_where (x1).toNatClampNeg)).toNatClampNeg)]) dX10_fewestDoors_49 rfl (by decide) rfl ?_
    refine m2_aload_n hB dX10_fewestDoors_50 rfl ?_
    refine m2_getR hB dX10_fewestDoors_51 fl_X10_26 sh_kW (c1 := kP) rfl ?_
    refine m2_getR hB dX10_fewestDoors_54 fl_X10_116 sh_kP (c1 := kP_back) rfl ?_
    refine m2_iload_n hB dX10_fewestDoors_57 rfl ?_
    have hi18 := hs1
    refine m2_zald hB dX10_fewestDoors_58 sh_kP_back hi18 ?_
    refine m2_if_eq hB dX10_fewestDoors_59 (tgt := 102) (by decide) (fun q20 : (μ12.1 kP_back (x1).toNatClampNeg) = 0 => ?_) (fun q20 : ¬ (μ12.1 kP_back (x1).toNatClampNeg) = 0 => ?_)
    · replace k := k.1 q20
      refine m2_iload_n hB dX10_fewestDoors_102 rfl ?_
      refine m2_ldc hB kc_X10_125 dX10_fewestDoors_103 ?_
      have G22 : κ 113 [.ref kW, .int x1, .int (fX6_goal x1 μ), .int (μ12.1 kR_dist ((μ12.1 kP_where (x1).toNatClampNeg)).toNatClampNeg)] [.int (if 268435456 ≤ (μ12.1 kR_dist ((μ12.1 kP_where (x1).toNatClampNeg)).toNatClampNeg) then 0 else (μ12.1 kR_dist ((μ12.1 kP_where (x1).toNatClampNeg)).toNatClampNeg) : Int32)] μ12 := by
        exact m2_iret h dX10_fewestDoors_113 k
      refine m2_icmp_ge hB dX10_fewestDoors_105 (tgt := 112) (by decide) (fun q21 : 268435456 ≤ (μ12.1 kR_dist ((μ12.1 kP_where (x1).toNatClampNeg)).toNatClampNeg) => ?_) (fun q21 : ¬ 268435456 ≤ (μ12.1 kR_dist ((μ12.1 kP_where (x1).toNatClampNeg)).toNatClampNeg) => ?_)
      · rw [if_pos q21] at G22
        refine m2_iconst hB dX10_fewestDoors_112 (v := 0) (by decide) ?_
        exact G22
      · rw [if_neg q21] at G22
        refine m2_iload_n hB dX10_fewestDoors_108 rfl ?_
        refine m2_goto hB dX10_fewestDoors_109 (tgt := 113) (by decide) ?_
        exact G22
    · replace k := k.2 q20
      refine m2_aload_n hB dX10_fewestDoors_62 rfl ?_
      refine m2_getR hB dX10_fewestDoors_63 fl_X10_26 sh_kW (c1 := kP) rfl ?_
      refine m2_getR hB dX10_fewestDoors_66 fl_X10_119 sh_kP (c1 := kP_reached) rfl ?_
      refine m2_iload_n hB dX10_fewestDoors_69 rfl ?_
      have hi23 := hs1
      refine m2_zald hB dX10_fewestDoors_70 sh_kP_reached hi23 ?_
      refine m2_if_ne hB dX10_fewestDoors_71 (tgt := 102) (by decide) (fun q25 : ¬ (μ12.1 kP_reached (x1).toNatClampNeg) = 0 => ?_) (fun q25 : (μ12.1 kP_reached (x1).toNatClampNeg) = 0 => ?_)
      · replace k := k.1 q25
        refine m2_iload_n hB dX10_fewestDoors_102 rfl ?_
        refine m2_ldc hB kc_X10_125 dX10_fewestDoors_103 ?_
        have G27 : κ 113 [.ref kW, .int x1, .int (fX6_goal x1 μ), .int (μ12.1 kR_dist ((μ12.1 kP_where (x1).toNatClampNeg)).toNatClampNeg)] [.int (if 268435456 ≤ (μ12.1 kR_dist ((μ12.1 kP_where (x1).toNatClampNeg)).toNatClampNeg) then 0 else (μ12.1 kR_dist ((μ12.1 kP_where (x1).toNatClampNeg)).toNatClampNeg) : Int32)] μ12 := by
          exact m2_iret h dX10_fewestDoors_113 k
        refine m2_icmp_ge hB dX10_fewestDoors_105 (tgt := 112) (by decide) (fun q26 : 268435456 ≤ (μ12.1 kR_dist ((μ12.1 kP_where (x1).toNatClampNeg)).toNatClampNeg) => ?_) (fun q26 : ¬ 268435456 ≤ (μ12.1 kR_dist ((μ12.1 kP_where (x1).toNatClampNeg)).toNatClampNeg) => ?_)
        · rw [if_pos q26] at G27
          refine m2_iconst hB dX10_fewestDoors_112 (v := 0) (by decide) ?_
          exact G27
        · rw [if_neg q26] at G27
          refine m2_iload_n hB dX10_fewestDoors_108 rfl ?_
          refine m2_goto hB dX10_fewestDoors_109 (tgt := 113) (by decide) ?_
          exact G27
      · replace k := k.2 q25
        refine m2_aload_n hB dX10_fewestDoors_74 rfl ?_
        refine m2_getR hB dX10_fewestDoors_75 fl_X10_30 sh_kW (c1 := kR) rfl ?_
        refine m2_aload_n hB dX10_fewestDoors_78 rfl ?_
        refine m2_getR hB dX10_fewestDoors_79 fl_X10_26 sh_kW (c1 := kP) rfl ?_
        refine m2_getR hB dX10_fewestDoors_82 fl_X10_122 sh_kP (c1 := kP_first) rfl ?_
        refine m2_iload_n hB dX10_fewestDoors_85 rfl ?_
        have hi28 := hs1
        refine m2_iald hB dX10_fewestDoors_86 sh_kP_first hi28 ?_
        obtain ⟨Q31, hM32, k⟩ := k
        refine m2_invv hB (as := [.int (μ12.1 kP_first (x1).toNatClampNeg)]) dX10_fewestDoors_87 mv_X10_110 rfl sh_kR rfl (Nat.le_of_ble_eq_true rfl) rfl hM32 (fun μ30 hq33 => ?_)
        replace k := k μ30 hq33
        refine m2_iload_n hB dX10_fewestDoors_90 rfl ?_
        refine m2_aload_n hB dX10_fewestDoors_91 rfl ?_
        refine m2_getR hB dX10_fewestDoors_92 fl_X10_30 sh_kW (c1 := kR) rfl ?_
        refine m2_getR hB dX10_fewestDoors_95 fl_X10_113 sh_kR (c1 := kR_dist) rfl ?_
        refine m2_iload_n hB dX10_fewestDoors_98 rfl ?_
        obtain ⟨hi34, k⟩ := k
        refine m2_iald hB dX10_fewestDoors_99 sh_kR_dist hi34 ?_
        refine m2_iadd hB dX10_fewestDoors_100 ?_
        refine m2_istore_n hB (ls' := [.ref kW, .int x1, .int (fX6_goal x1 μ), .int ((μ12.1 kR_dist ((μ12.1 kP_where (x1).toNatClampNeg)).toNatClampNeg) + (μ30.1 kR_dist ((fX6_goal x1 μ)).toNatClampNeg))]) dX10_fewestDoors_101 rfl (by decide) rfl ?_
        refine m2_iload_n hB dX10_fewestDoors_102 rfl ?_
        refine m2_ldc hB kc_X10_125 dX10_fewestDoors_103 ?_
        have G36 : κ 113 [.ref kW, .int x1, .int (fX6_goal x1 μ), .int ((μ12.1 kR_dist ((μ12.1 kP_where (x1).toNatClampNeg)).toNatClampNeg) + (μ30.1 kR_dist ((fX6_goal x1 μ)).toNatClampNeg))] [.int (if 268435456 ≤ ((μ12.1 kR_dist ((μ12.1 kP_where (x1).toNatClampNeg)).toNatClampNeg) + (μ30.1 kR_dist ((fX6_goal x1 μ)).toNatClampNeg)) then 0 else ((μ12.1 kR_dist ((μ12.1 kP_where (x1).toNatClampNeg)).toNatClampNeg) + (μ30.1 kR_dist ((fX6_goal x1 μ)).toNatClampNeg)) : Int32)] μ30 := by
          exact m2_iret h dX10_fewestDoors_113 k
        refine m2_icmp_ge hB dX10_fewestDoors_105 (tgt := 112) (by decide) (fun q35 : 268435456 ≤ ((μ12.1 kR_dist ((μ12.1 kP_where (x1).toNatClampNeg)).toNatClampNeg) + (μ30.1 kR_dist ((fX6_goal x1 μ)).toNatClampNeg)) => ?_) (fun q35 : ¬ 268435456 ≤ ((μ12.1 kR_dist ((μ12.1 kP_where (x1).toNatClampNeg)).toNatClampNeg) + (μ30.1 kR_dist ((fX6_goal x1 μ)).toNatClampNeg)) => ?_)
        · rw [if_pos q35] at G36
          refine m2_iconst hB dX10_fewestDoors_112 (v := 0) (by decide) ?_
          exact G36
        · rw [if_neg q35] at G36
          refine m2_iload_n hB dX10_fewestDoors_108 rfl ?_
          refine m2_goto hB dX10_fewestDoors_109 (tgt := 113) (by decide) ?_
          exact G36
  · replace k := k.2 q5
    refine m2_iconst hB dX10_fewestDoors_14 (v := 0) (by decide) ?_
    exact m2_iret h dX10_fewestDoors_15 k
theorem dX10_setCosts_0 : decode cX10_setCosts 0 = .ok (.iload_n 2, 1) := by decide +kernel
theorem dX10_setCosts_1 : decode cX10_setCosts 1 = .ok (.ifCond .eq 8, 3) := by decide +kernel
theorem dX10_setCosts_4 : decode cX10_setCosts 4 = .ok (.iload_n 2, 1) := by decide +kernel
theorem dX10_setCosts_5 : decode cX10_setCosts 5 = .ok (.iconst 2, 1) := by decide +kernel
theorem dX10_setCosts_6 : decode cX10_setCosts 6 = .ok (.if_icmp .ne 24, 3) := by decide +kernel
theorem dX10_setCosts_9 : decode cX10_setCosts 9 = .ok (.aload_n 0, 1) := by decide +kernel
theorem dX10_setCosts_10 : decode cX10_setCosts 10 = .ok (.getfield 30, 3) := by decide +kernel
theorem dX10_setCosts_13 : decode cX10_setCosts 13 = .ok (.iload_n 2, 1) := by decide +kernel
theorem dX10_setCosts_14 : decode cX10_setCosts 14 = .ok (.iconst 2, 1) := by decide +kernel
theorem dX10_setCosts_15 : decode cX10_setCosts 15 = .ok (.if_icmp .ne 10, 3) := by decide +kernel
theorem dX10_setCosts_18 : decode cX10_setCosts 18 = .ok (.aload_n 0, 1) := by decide +kernel
theorem dX10_setCosts_19 : decode cX10_setCosts 19 = .ok (.getfield 18, 3) := by decide +kernel
theorem dX10_setCosts_22 : decode cX10_setCosts 22 = .ok (.goto 4, 3) := by decide +kernel
theorem dX10_setCosts_25 : decode cX10_setCosts 25 = .ok (.iconst 0, 1) := by decide +kernel
theorem dX10_setCosts_26 : decode cX10_setCosts 26 = .ok (.invokevirtual 107, 3) := by decide +kernel
theorem dX10_setCosts_29 : decode cX10_setCosts 29 = .ok (.return_, 1) := by decide +kernel
theorem dX10_setCosts_30 : decode cX10_setCosts 30 = .ok (.iconst 0, 1) := by decide +kernel
theorem dX10_setCosts_31 : decode cX10_setCosts 31 = .ok (.istore_n 3, 1) := by decide +kernel
theorem dX10_setCosts_32 : decode cX10_setCosts 32 = .ok (.iload_n 3, 1) := by decide +kernel
theorem dX10_setCosts_33 : decode cX10_setCosts 33 = .ok (.aload_n 0, 1) := by decide +kernel
theorem dX10_setCosts_34 : decode cX10_setCosts 34 = .ok (.getfield 22, 3) := by decide +kernel
theorem dX10_setCosts_37 : decode cX10_setCosts 37 = .ok (.getfield 126, 3) := by decide +kernel
theorem dX10_setCosts_40 : decode cX10_setCosts 40 = .ok (.if_icmp .ge 82, 3) := by decide +kernel
theorem dX10_setCosts_43 : decode cX10_setCosts 43 = .ok (.aload_n 0, 1) := by decide +kernel
theorem dX10_setCosts_44 : decode cX10_setCosts 44 = .ok (.getfield 30, 3) := by decide +kernel
theorem dX10_setCosts_47 : decode cX10_setCosts 47 = .ok (.getfield 127, 3) := by decide +kernel
theorem dX10_setCosts_50 : decode cX10_setCosts 50 = .ok (.iload_n 3, 1) := by decide +kernel
theorem dX10_setCosts_51 : decode cX10_setCosts 51 = .ok (.iconst 0, 1) := by decide +kernel
theorem dX10_setCosts_52 : decode cX10_setCosts 52 = .ok (.iastore, 1) := by decide +kernel
theorem dX10_setCosts_53 : decode cX10_setCosts 53 = .ok (.aload_n 0, 1) := by decide +kernel
theorem dX10_setCosts_54 : decode cX10_setCosts 54 = .ok (.getfield 22, 3) := by decide +kernel
theorem dX10_setCosts_57 : decode cX10_setCosts 57 = .ok (.getfield 60, 3) := by decide +kernel
theorem dX10_setCosts_60 : decode cX10_setCosts 60 = .ok (.iload_n 3, 1) := by decide +kernel
theorem dX10_setCosts_61 : decode cX10_setCosts 61 = .ok (.iaload, 1) := by decide +kernel
theorem dX10_setCosts_62 : decode cX10_setCosts 62 = .ok (.ifCond .le 54, 3) := by decide +kernel
theorem dX10_setCosts_65 : decode cX10_setCosts 65 = .ok (.aload_n 0, 1) := by decide +kernel
theorem dX10_setCosts_66 : decode cX10_setCosts 66 = .ok (.iload_n 1, 1) := by decide +kernel
theorem dX10_setCosts_67 : decode cX10_setCosts 67 = .ok (.iload_n 3, 1) := by decide +kernel
theorem dX10_setCosts_68 : decode cX10_setCosts 68 = .ok (.invokevirtual 130, 3) := by decide +kernel
theorem dX10_setCosts_71 : decode cX10_setCosts 71 = .ok (.iload_n 2, 1) := by decide +kernel
theorem dX10_setCosts_72 : decode cX10_setCosts 72 = .ok (.iconst 1, 1) := by decide +kernel
theorem dX10_setCosts_73 : decode cX10_setCosts 73 = .ok (.if_icmp .ne 18, 3) := by decide +kernel
theorem dX10_setCosts_76 : decode cX10_setCosts 76 = .ok (.bipush 61, 2) := by decide +kernel
theorem dX10_setCosts_78 : decode cX10_setCosts 78 = .ok (.aload_n 0, 1) := by decide +kernel
theorem dX10_setCosts_79 : decode cX10_setCosts 79 = .ok (.getfield 22, 3) := by decide +kernel
theorem dX10_setCosts_82 : decode cX10_setCosts 82 = .ok (.getfield 60, 3) := by decide +kernel
theorem dX10_setCosts_85 : decode cX10_setCosts 85 = .ok (.iload_n 3, 1) := by decide +kernel
theorem dX10_setCosts_86 : decode cX10_setCosts 86 = .ok (.iaload, 1) := by decide +kernel
theorem dX10_setCosts_87 : decode cX10_setCosts 87 = .ok (.isub, 1) := by decide +kernel
theorem dX10_setCosts_88 : decode cX10_setCosts 88 = .ok (.goto 10, 3) := by decide +kernel
theorem dX10_setCosts_91 : decode cX10_setCosts 91 = .ok (.aload_n 0, 1) := by decide +kernel
theorem dX10_setCosts_92 : decode cX10_setCosts 92 = .ok (.getfield 34, 3) := by decide +kernel
theorem dX10_setCosts_95 : decode cX10_setCosts 95 = .ok (.invokevirtual 133, 3) := by decide +kernel
theorem dX10_setCosts_98 : decode cX10_setCosts 98 = .ok (.istore 4, 2) := by decide +kernel
theorem dX10_setCosts_100 : decode cX10_setCosts 100 = .ok (.aload_n 0, 1) := by decide +kernel
theorem dX10_setCosts_101 : decode cX10_setCosts 101 = .ok (.getfield 30, 3) := by decide +kernel
theorem dX10_setCosts_104 : decode cX10_setCosts 104 = .ok (.getfield 127, 3) := by decide +kernel
theorem dX10_setCosts_107 : decode cX10_setCosts 107 = .ok (.iload_n 3, 1) := by decide +kernel
theorem dX10_setCosts_108 : decode cX10_setCosts 108 = .ok (.iload 4, 2) := by decide +kernel
theorem dX10_setCosts_110 : decode cX10_setCosts 110 = .ok (.bipush 16, 2) := by decide +kernel
theorem dX10_setCosts_112 : decode cX10_setCosts 112 = .ok (.imul, 1) := by decide +kernel
theorem dX10_setCosts_113 : decode cX10_setCosts 113 = .ok (.iconst 1, 1) := by decide +kernel
theorem dX10_setCosts_114 : decode cX10_setCosts 114 = .ok (.iadd, 1) := by decide +kernel
theorem dX10_setCosts_115 : decode cX10_setCosts 115 = .ok (.iastore, 1) := by decide +kernel
theorem dX10_setCosts_116 : decode cX10_setCosts 116 = .ok (.iinc 3 1, 3) := by decide +kernel
theorem dX10_setCosts_119 : decode cX10_setCosts 119 = .ok (.goto (-87), 3) := by decide +kernel
theorem dX10_setCosts_122 : decode cX10_setCosts 122 = .ok (.return_, 1) := by decide +kernel
set_option maxRecDepth 100000 in
set_option maxHeartbeats 4000000 in
theorem B_X10_setCosts_0 {κ : Nat → List Value → List Value → m2M → Prop} {D : Nat} {Q : Option Value → m2M → Prop} (h : m2_RL κ cX10_setCosts RX10 5 (D + 1) none Q) {x1 : Int32} {x2 : Int32} {μ : m2M} (k : (x2 = 0 → ∃ Q6 : Option Value → m2M → Prop, m2_MT D yX8_useAbove cX8_useAbove 3 none [.ref kR, .int (if x2 = 2 then (μ.1 kW 6) else 0 : Int32)] μ Q6 ∧ ∀ (μ5 : m2M), Q6 none μ5 → (Q none μ5)) ∧ (¬ x2 = 0 → (¬ x2 = 2 → κ 32 [.ref kW, .int x1, .int x2, .int 0, .null] [] μ) ∧ (x2 = 2 → ∃ Q14 : Option Value → m2M → Prop, m2_MT D yX8_useAbove cX8_useAbove 3 none [.ref kR, .int (if x2 = 2 then (μ.1 kW 6) else 0 : Int32)] μ Q14 ∧ ∀ (μ13 : m2M), Q14 none μ13 → (Q none μ13)))) : κ 0 [.ref kW, .int x1, .int x2, .null, .null] [] μ := by
  have hB := h.b
  refine m2_iload_n hB dX10_setCosts_0 rfl ?_
  refine m2_if_eq hB dX10_setCosts_1 (tgt := 9) (by decide) (fun q1 : x2 = 0 => ?_) (fun q1 : ¬ x2 = 0 => ?_)
  · replace k := k.1 q1
    refine m2_aload_n hB dX10_setCosts_9 rfl ?_
    refine m2_getR hB dX10_setCosts_10 fl_X10_30 sh_kW (c1 := kR) rfl ?_
    refine m2_iload_n hB dX10_setCosts_13 rfl ?_
    refine m2_iconst hB dX10_setCosts_14 (v := 2) (by decide) ?_
    have G3 : κ 26 [.ref kW, .int x1, .int x2, .null, .null] [.int (if x2 = 2 then (μ.1 kW 6) else 0 : Int32), .ref kR] μ := by
      obtain ⟨Q6, hM7, k⟩ := k
      refine m2_invv hB (as := [.int (if x2 = 2 then (μ.1 kW 6) else 0 : Int32)]) dX10_setCosts_26 mv_X10_107 rfl sh_kR rfl (Nat.le_of_ble_eq_true rfl) rfl hM7 (fun μ5 hq8 => ?_)
      replace k := k μ5 hq8
      exact m2_vret h dX10_setCosts_29 k
    refine m2_icmp_ne hB dX10_setCosts_15 (tgt := 25) (by decide) (fun q2 : ¬ x2 = 2 => ?_) (fun q2 : x2 = 2 => ?_)
    · rw [if_neg q2] at G3
      refine m2_iconst hB dX10_setCosts_25 (v := 0) (by decide) ?_
      exact G3
    · rw [if_pos q2] at G3
      refine m2_aload_n hB dX10_setCosts_18 rfl ?_
      refine m2_getI hB dX10_setCosts_19 fl_X10_18 sh_kW rfl ?_
      refine m2_goto hB dX10_setCosts_22 (tgt := 26) (by decide) ?_
      exact G3
  · replace k := k.2 q1
    refine m2_iload_n hB dX10_setCosts_4 rfl ?_
    refine m2_iconst hB dX10_setCosts_5 (v := 2) (by decide) ?_
    refine m2_icmp_ne hB dX10_setCosts_6 (tgt := 30) (by decide) (fun q9 : ¬ x2 = 2 => ?_) (fun q9 : x2 = 2 => ?_)
    · replace k := k.1 q9
      refine m2_iconst hB dX10_setCosts_30 (v := 0) (by decide) ?_
      refine m2_istore_n hB (ls' := [.ref kW, .int x1, .int x2, .int 0, .null]) dX10_setCosts_31 rfl (by decide) rfl ?_
      exact k
    · replace k := k.2 q9
      refine m2_aload_n hB dX10_setCosts_9 rfl ?_
      refine m2_getR hB dX10_setCosts_10 fl_X10_30 sh_kW (c1 := kR) rfl ?_
      refine m2_iload_n hB dX10_setCosts_13 rfl ?_
      refine m2_iconst hB dX10_setCosts_14 (v := 2) (by decide) ?_
      have G11 : κ 26 [.ref kW, .int x1, .int x2, .null, .null] [.int (if x2 = 2 then (μ.1 kW 6) else 0 : Int32), .ref kR] μ := by
        obtain ⟨Q14, hM15, k⟩ := k
        refine m2_invv hB (as := [.int (if x2 = 2 then (μ.1 kW 6) else 0 : Int32)]) dX10_setCosts_26 mv_X10_107 rfl sh_kR rfl (Nat.le_of_ble_eq_true rfl) rfl hM15 (fun μ13 hq16 => ?_)
        replace k := k μ13 hq16
        exact m2_vret h dX10_setCosts_29 k
      refine m2_icmp_ne hB dX10_setCosts_15 (tgt := 25) (by decide) (fun q10 : ¬ x2 = 2 => ?_) (fun q10 : x2 = 2 => ?_)
      · rw [if_neg q10] at G11
        refine m2_iconst hB dX10_setCosts_25 (v := 0) (by decide) ?_
        exact G11
      · rw [if_pos q10] at G11
        refine m2_aload_n hB dX10_setCosts_18 rfl ?_
        refine m2_getI hB dX10_setCosts_19 fl_X10_18 sh_kW rfl ?_
        refine m2_goto hB dX10_setCosts_22 (tgt := 26) (by decide) ?_
        exact G11
set_option maxRecDepth 100000 in
set_option maxHeartbeats 4000000 in
theorem B_X10_setCosts_32 {κ : Nat → List Value → List Value → m2M → Prop} {D : Nat} {Q : Option Value → m2M → Prop} (h : m2_RL κ cX10_setCosts RX10 5 (D + 1) none Q) {v1 : Int32} {v2 : Int32} {v3 : Int32} {μ : m2M} (k : ((μ.1 kD 6) ≤ v3 → Q none μ) ∧ (¬ (μ.1 kD 6) ≤ v3 → (vp_in v3 20) ∧ (((μ.1 kD_left (v3).toNatClampNeg) ≤ 0 → κ 32 [.ref kW, .int v1, .int v2, .int (v3 + 1), .null] [] (m2_si μ kR_cost (v3).toNatClampNeg 0)) ∧ (¬ (μ.1 kD_left (v3).toNatClampNeg) ≤ 0 → ∃ Q8 : Option Value → m2M → Prop, m2_MT D yX10_setPrice cX10_setPrice 3 none [.ref kW, .int v1, .int v3] (m2_si μ kR_cost (v3).toNatClampNeg 0) Q8 ∧ ∀ (μ7 : m2M), Q8 none μ7 → ((¬ v2 = 1 → ∃ Q14 : Option Value → m2M → Prop, m2_MT D yX7_workOut cX7_workOut 4 (some .int) [.ref kE] μ7 Q14 ∧ ∀ (y12 : Int32) (μ13 : m2M), Q14 (some (.int y12)) μ13 → (κ 32 [.ref kW, .int v1, .int v2, .int (v3 + 1), .null] [] (m2_si μ13 kR_cost (v3).toNatClampNeg ((y12 * (16 : Int32)) + 1)))) ∧ (v2 = 1 → κ 32 [.ref kW, .int v1, .int v2, .int (v3 + 1), .null] [] (m2_si μ7 kR_cost (v3).toNatClampNeg ((((61 : Int32) - (μ7.1 kD_left (v3).toNatClampNeg)) * (16 : Int32)) + 1)))))))) : κ 32 [.ref kW, .int v1, .int v2, .int v3, .null] [] μ := by
  have hB := h.b
  refine m2_iload_n hB dX10_setCosts_32 rfl ?_
  refine m2_aload_n hB dX10_setCosts_33 rfl ?_
  refine m2_getR hB dX10_setCosts_34 fl_X10_22 sh_kW (c1 := kD) rfl ?_
  refine m2_getI hB dX10_setCosts_37 fl_X10_126 sh_kD rfl ?_
  refine m2_icmp_ge hB dX10_setCosts_40 (tgt := 122) (by decide) (fun q2 : (μ.1 kD 6) ≤ v3 => ?_) (fun q2 : ¬ (μ.1 kD 6) ≤ v3 => ?_)
  · replace k := k.1 q2
    exact m2_vret h dX10_setCosts_122 k
  · replace k := k.2 q2
    refine m2_aload_n hB dX10_setCosts_43 rfl ?_
    refine m2_getR hB dX10_setCosts_44 fl_X10_30 sh_kW (c1 := kR) rfl ?_
    refine m2_getR hB dX10_setCosts_47 fl_X10_127 sh_kR (c1 := kR_cost) rfl ?_
    refine m2_iload_n hB dX10_setCosts_50 rfl ?_
    refine m2_iconst hB dX10_setCosts_51 (v := 0) (by decide) ?_
    obtain ⟨hi3, k⟩ := k
    refine m2_iast hB dX10_setCosts_52 sh_kR_cost hi3 ?_
    refine m2_aload_n hB dX10_setCosts_53 rfl ?_
    refine m2_getR hB dX10_setCosts_54 fl_X10_22 sh_kW (c1 := kD) rfl ?_
    refine m2_getR hB dX10_setCosts_57 fl_X10_60 sh_kD (c1 := kD_left) rfl ?_
    refine m2_iload_n hB dX10_setCosts_60 rfl ?_
    have hi4 := hi3
    refine m2_iald hB dX10_setCosts_61 sh_kD_left hi4 ?_
    refine m2_if_le hB dX10_setCosts_62 (tgt := 116) (by decide) (fun q5 : (μ.1 kD_left (v3).toNatClampNeg) ≤ 0 => ?_) (fun q5 : ¬ (μ.1 kD_left (v3).toNatClampNeg) ≤ 0 => ?_)
    · replace k := k.1 q5
      refine m2_iinc hB (ls' := [.ref kW, .int v1, .int v2, .int (v3 + 1), .null]) (v := (v3 + 1)) dX10_setCosts_116 rfl (by decide) rfl rfl ?_
      refine m2_goto hB dX10_setCosts_119 (tgt := 32) (by decide) ?_
      exact k
    · replace k := k.2 q5
      refine m2_aload_n hB dX10_setCosts_65 rfl ?_
      refine m2_iload_n hB dX10_setCosts_66 rfl ?_
      refine m2_iload_n hB dX10_setCosts_67 rfl ?_
      obtain ⟨Q8, hM9, k⟩ := k
      refine m2_invv hB (as := [.int v1, .int v3]) dX10_setCosts_68 mv_X10_130 rfl sh_kW rfl (Nat.le_of_ble_eq_true rfl) rfl hM9 (fun μ7 hq10 => ?_)
      replace k := k μ7 hq10
      refine m2_iload_n hB dX10_setCosts_71 rfl ?_
      refine m2_iconst hB dX10_setCosts_72 (v := 1) (by decide) ?_
      refine m2_icmp_ne hB dX10_setCosts_73 (tgt := 91) (by decide) (fun q11 : ¬ v2 = 1 => ?_) (fun q11 : v2 = 1 => ?_)
      · replace k := k.1 q11
        refine m2_aload_n hB dX10_setCosts_91 rfl ?_
        refine m2_getR hB dX10_setCosts_92 fl_X10_34 sh_kW (c1 := kE) rfl ?_
        obtain ⟨Q14, hM15, k⟩ := k
        refine m2_invi hB (as := []) dX10_setCosts_95 mv_X10_133 rfl sh_kE rfl (Nat.le_of_ble_eq_true rfl) rfl hM15 (fun y12 μ13 hq16 => ?_)
        replace k := k y12 μ13 hq16
        refine m2_istore hB (ls' := [.ref kW, .int v1, .int v2, .int v3, .int y12]) dX10_setCosts_98 (by decide) rfl ?_
        refine m2_aload_n hB dX10_setCosts_100 rfl ?_
        refine m2_getR hB dX10_setCosts_101 fl_X10_30 sh_kW (c1 := kR) rfl ?_
        refine m2_getR hB dX10_setCosts_104 fl_X10_127 sh_kR (c1 := kR_cost) rfl ?_
        refine m2_iload_n hB dX10_setCosts_107 rfl ?_
        refine m2_iload hB dX10_setCosts_108 rfl ?_
        refine m2_bipush hB dX10_setCosts_110 (v := 16) (by decide) ?_
        refine m2_imul hB dX10_setCosts_112 ?_
        refine m2_iconst hB dX10_setCosts_113 (v := 1) (by decide) ?_
        refine m2_iadd hB dX10_setCosts_114 ?_
        have hi17 := hi3
        refine m2_iast hB dX10_setCosts_115 sh_kR_cost hi17 ?_
        refine m2_iinc hB (ls' := [.ref kW, .int v1, .int v2, .int (v3 + 1), .int y12]) (v := (v3 + 1)) dX10_setCosts_116 rfl (by decide) rfl rfl ?_
        refine m2_goto hB dX10_setCosts_119 (tgt := 32) (by decide) ?_
        exact m2_weak (ls' := [.ref kW, .int v1, .int v2, .int (v3 + 1), .null]) hB ⟨Or.inr rfl, Or.inr rfl, Or.inr rfl, Or.inr rfl, Or.inl rfl, trivial⟩ k
      · replace k := k.2 q11
        refine m2_bipush hB dX10_setCosts_76 (v := 61) (by decide) ?_
        refine m2_aload_n hB dX10_setCosts_78 rfl ?_
        refine m2_getR hB dX10_setCosts_79 fl_X10_22 sh_kW (c1 := kD) rfl ?_
        refine m2_getR hB dX10_setCosts_82 fl_X10_60 sh_kD (c1 := kD_left) rfl ?_
        refine m2_iload_n hB dX10_setCosts_85 rfl ?_
        have hi18 := hi3
        refine m2_iald hB dX10_setCosts_86 sh_kD_left hi18 ?_
        refine m2_isub hB dX10_setCosts_87 ?_
        refine m2_goto hB dX10_setCosts_88 (tgt := 98) (by decide) ?_
        refine m2_istore hB (ls' := [.ref kW, .int v1, .int v2, .int v3, .int ((61 : Int32) - (μ7.1 kD_left (v3).toNatClampNeg))]) dX10_setCosts_98 (by decide) rfl ?_
        refine m2_aload_n hB dX10_setCosts_100 rfl ?_
        refine m2_getR hB dX10_setCosts_101 fl_X10_30 sh_kW (c1 := kR) rfl ?_
        refine m2_getR hB dX10_setCosts_104 fl_X10_127 sh_kR (c1 := kR_cost) rfl ?_
        refine m2_iload_n hB dX10_setCosts_107 rfl ?_
        refine m2_iload hB dX10_setCosts_108 rfl ?_
        refine m2_bipush hB dX10_setCosts_110 (v := 16) (by decide) ?_
        refine m2_imul hB dX10_setCosts_112 ?_
        refine m2_iconst hB dX10_setCosts_113 (v := 1) (by decide) ?_
        refine m2_iadd hB dX10_setCosts_114 ?_
        have hi19 := hi3
        refine m2_iast hB dX10_setCosts_115 sh_kR_cost hi19 ?_
        refine m2_iinc hB (ls' := [.ref kW, .int v1, .int v2, .int (v3 + 1), .int ((61 : Int32) - (μ7.1 kD_left (v3).toNatClampNeg))]) (v := (v3 + 1)) dX10_setCosts_116 rfl (by decide) rfl rfl ?_
        refine m2_goto hB dX10_setCosts_119 (tgt := 32) (by decide) ?_
        exact m2_weak (ls' := [.ref kW, .int v1, .int v2, .int (v3 + 1), .null]) hB ⟨Or.inr rfl, Or.inr rfl, Or.inr rfl, Or.inr rfl, Or.inl rfl, trivial⟩ k
theorem dX10_setPrice_0 : decode cX10_setPrice 0 = .ok (.aload_n 0, 1) := by decide +kernel
theorem dX10_setPrice_1 : decode cX10_setPrice 1 = .ok (.getfield 34, 3) := by decide +kernel
theorem dX10_setPrice_4 : decode cX10_setPrice 4 = .ok (.aload_n 0, 1) := by decide +kernel
theorem dX10_setPrice_5 : decode cX10_setPrice 5 = .ok (.getfield 22, 3) := by decide +kernel
theorem dX10_setPrice_8 : decode cX10_setPrice 8 = .ok (.getfield 137, 3) := by decide +kernel
theorem dX10_setPrice_11 : decode cX10_setPrice 11 = .ok (.aload_n 0, 1) := by decide +kernel
theorem dX10_setPrice_12 : decode cX10_setPrice 12 = .ok (.getfield 26, 3) := by decide +kernel
theorem dX10_setPrice_15 : decode cX10_setPrice 15 = .ok (.getfield 140, 3) := by decide +kernel
theorem dX10_setPrice_18 : decode cX10_setPrice 18 = .ok (.iload_n 1, 1) := by decide +kernel
theorem dX10_setPrice_19 : decode cX10_setPrice 19 = .ok (.iaload, 1) := by decide +kernel
theorem dX10_setPrice_20 : decode cX10_setPrice 20 = .ok (.invokevirtual 143, 3) := by decide +kernel
theorem dX10_setPrice_23 : decode cX10_setPrice 23 = .ok (.aload_n 0, 1) := by decide +kernel
theorem dX10_setPrice_24 : decode cX10_setPrice 24 = .ok (.getfield 34, 3) := by decide +kernel
theorem dX10_setPrice_27 : decode cX10_setPrice 27 = .ok (.aload_n 0, 1) := by decide +kernel
theorem dX10_setPrice_28 : decode cX10_setPrice 28 = .ok (.getfield 22, 3) := by decide +kernel
theorem dX10_setPrice_31 : decode cX10_setPrice 31 = .ok (.getfield 60, 3) := by decide +kernel
theorem dX10_setPrice_34 : decode cX10_setPrice 34 = .ok (.iload_n 2, 1) := by decide +kernel
theorem dX10_setPrice_35 : decode cX10_setPrice 35 = .ok (.iaload, 1) := by decide +kernel
theorem dX10_setPrice_36 : decode cX10_setPrice 36 = .ok (.aload_n 0, 1) := by decide +kernel
theorem dX10_setPrice_37 : decode cX10_setPrice 37 = .ok (.getfield 22, 3) := by decide +kernel
theorem dX10_setPrice_40 : decode cX10_setPrice 40 = .ok (.getfield 146, 3) := by decide +kernel
theorem dX10_setPrice_43 : decode cX10_setPrice 43 = .ok (.iload_n 2, 1) := by decide +kernel
theorem dX10_setPrice_44 : decode cX10_setPrice 44 = .ok (.iaload, 1) := by decide +kernel
theorem dX10_setPrice_45 : decode cX10_setPrice 45 = .ok (.aload_n 0, 1) := by decide +kernel
theorem dX10_setPrice_46 : decode cX10_setPrice 46 = .ok (.getfield 22, 3) := by decide +kernel
theorem dX10_setPrice_49 : decode cX10_setPrice 49 = .ok (.getfield 149, 3) := by decide +kernel
theorem dX10_setPrice_52 : decode cX10_setPrice 52 = .ok (.iload_n 2, 1) := by decide +kernel
theorem dX10_setPrice_53 : decode cX10_setPrice 53 = .ok (.baload, 1) := by decide +kernel
theorem dX10_setPrice_54 : decode cX10_setPrice 54 = .ok (.aload_n 0, 1) := by decide +kernel
theorem dX10_setPrice_55 : decode cX10_setPrice 55 = .ok (.getfield 9, 3) := by decide +kernel
theorem dX10_setPrice_58 : decode cX10_setPrice 58 = .ok (.iload_n 2, 1) := by decide +kernel
theorem dX10_setPrice_59 : decode cX10_setPrice 59 = .ok (.iaload, 1) := by decide +kernel
theorem dX10_setPrice_60 : decode cX10_setPrice 60 = .ok (.invokevirtual 152, 3) := by decide +kernel
theorem dX10_setPrice_63 : decode cX10_setPrice 63 = .ok (.return_, 1) := by decide +kernel
set_option maxRecDepth 100000 in
set_option maxHeartbeats 4000000 in
theorem B_X10_setPrice_0 {κ : Nat → List Value → List Value → m2M → Prop} {D : Nat} {Q : Option Value → m2M → Prop} (h : m2_RL κ cX10_setPrice RX10 3 (D + 1) none Q) {x1 : Int32} {x2 : Int32} {μ : m2M} (k : (vp_in x1 8) ∧ (∃ Q4 : Option Value → m2M → Prop, m2_MT D yX7_setGoer cX7_setGoer 3 none [.ref kE, .int (μ.1 kD 7), .int (μ.1 kP_worth (x1).toNatClampNeg)] μ Q4 ∧ ∀ (μ3 : m2M), Q4 none μ3 → ((vp_in x2 20) ∧ (∃ Q13 : Option Value → m2M → Prop, m2_MT D yX7_setDoor cX7_setDoor 5 none [.ref kE, .int (μ3.1 kD_left (x2).toNatClampNeg), .int (μ3.1 kD_lets (x2).toNatClampNeg), .int (μ3.1 kD_oneWay (x2).toNatClampNeg), .int (μ3.1 kW_onWay (x2).toNatClampNeg)] μ3 Q13 ∧ ∀ (μ12 : m2M), Q13 none μ12 → (Q none μ12))))) : κ 0 [.ref kW, .int x1, .int x2] [] μ := by
  have hB := h.b
  refine m2_aload_n hB dX10_setPrice_0 rfl ?_
  refine m2_getR hB dX10_setPrice_1 fl_X10_34 sh_kW (c1 := kE) rfl ?_
  refine m2_aload_n hB dX10_setPrice_4 rfl ?_
  refine m2_getR hB dX10_setPrice_5 fl_X10_22 sh_kW (c1 := kD) rfl ?_
  refine m2_getI hB dX10_setPrice_8 fl_X10_137 sh_kD rfl ?_
  refine m2_aload_n hB dX10_setPrice_11 rfl ?_
  refine m2_getR hB dX10_setPrice_12 fl_X10_26 sh_kW (c1 := kP) rfl ?_
  refine m2_getR hB dX10_setPrice_15 fl_X10_140 sh_kP (c1 := kP_worth) rfl ?_
  refine m2_iload_n hB dX10_setPrice_18 rfl ?_
  obtain ⟨hi1, k⟩ := k
  refine m2_iald hB dX10_setPrice_19 sh_kP_worth hi1 ?_
  obtain ⟨Q4, hM5, k⟩ := k
  refine m2_invv hB (as := [.int (μ.1 kD 7), .int (μ.1 kP_worth (x1).toNatClampNeg)]) dX10_setPrice_20 mv_X10_143 rfl sh_kE rfl (Nat.le_of_ble_eq_true rfl) rfl hM5 (fun μ3 hq6 => ?_)
  replace k := k μ3 hq6
  refine m2_aload_n hB dX10_setPrice_23 rfl ?_
  refine m2_getR hB dX10_setPrice_24 fl_X10_34 sh_kW (c1 := kE) rfl ?_
  refine m2_aload_n hB dX10_setPrice_27 rfl ?_
  refine m2_getR hB dX10_setPrice_28 fl_X10_22 sh_kW (c1 := kD) rfl ?_
  refine m2_getR hB dX10_setPrice_31 fl_X10_60 sh_kD (c1 := kD_left) rfl ?_
  refine m2_iload_n hB dX10_setPrice_34 rfl ?_
  obtain ⟨hi7, k⟩ := k
  refine m2_iald hB dX10_setPrice_35 sh_kD_left hi7 ?_
  refine m2_aload_n hB dX10_setPrice_36 rfl ?_
  refine m2_getR hB dX10_setPrice_37 fl_X10_22 sh_kW (c1 := kD) rfl ?_
  refine m2_getR hB dX10_setPrice_40 fl_X10_146 sh_kD (c1 := kD_lets) rfl ?_
  refine m2_iload_n hB dX10_setPrice_43 rfl ?_
  have hi8 := hi7
  refine m2_iald hB dX10_setPrice_44 sh_kD_lets hi8 ?_
  refine m2_aload_n hB dX10_setPrice_45 rfl ?_
  refine m2_getR hB dX10_setPrice_46 fl_X10_22 sh_kW (c1 := kD) rfl ?_
  refine m2_getR hB dX10_setPrice_49 fl_X10_149 sh_kD (c1 := kD_oneWay) rfl ?_
  refine m2_iload_n hB dX10_setPrice_52 rfl ?_
  have hi9 := hi7
  refine m2_zald hB dX10_setPrice_53 sh_kD_oneWay hi9 ?_
  refine m2_aload_n hB dX10_setPrice_54 rfl ?_
  refine m2_getR hB dX10_setPrice_55 fl_X10_9 sh_kW (c1 := kW_onWay) rfl ?_
  refine m2_iload_n hB dX10_setPrice_58 rfl ?_
  have hi10 := hi7
  refine m2_iald hB dX10_setPrice_59 sh_kW_onWay hi10 ?_
  obtain ⟨Q13, hM14, k⟩ := k
  refine m2_invv hB (as := [.int (μ3.1 kD_left (x2).toNatClampNeg), .int (μ3.1 kD_lets (x2).toNatClampNeg), .int (μ3.1 kD_oneWay (x2).toNatClampNeg), .int (μ3.1 kW_onWay (x2).toNatClampNeg)]) dX10_setPrice_60 mv_X10_152 rfl sh_kE rfl (Nat.le_of_ble_eq_true rfl) rfl hM14 (fun μ12 hq15 => ?_)
  replace k := k μ12 hq15
  exact m2_vret h dX10_setPrice_63 k
theorem dX10_countWays_0 : decode cX10_countWays 0 = .ok (.aload_n 0, 1) := by decide +kernel
theorem dX10_countWays_1 : decode cX10_countWays 1 = .ok (.getfield 9, 3) := by decide +kernel
theorem dX10_countWays_4 : decode cX10_countWays 4 = .ok (.iconst 0, 1) := by decide +kernel
theorem dX10_countWays_5 : decode cX10_countWays 5 = .ok (.invokestatic 156, 3) := by decide +kernel
theorem dX10_countWays_8 : decode cX10_countWays 8 = .ok (.aload_n 0, 1) := by decide +kernel
theorem dX10_countWays_9 : decode cX10_countWays 9 = .ok (.getfield 15, 3) := by decide +kernel
theorem dX10_countWays_12 : decode cX10_countWays 12 = .ok (.iconst 0, 1) := by decide +kernel
theorem dX10_countWays_13 : decode cX10_countWays 13 = .ok (.invokestatic 156, 3) := by decide +kernel
theorem dX10_countWays_16 : decode cX10_countWays 16 = .ok (.aload_n 0, 1) := by decide +kernel
theorem dX10_countWays_17 : decode cX10_countWays 17 = .ok (.getfield 30, 3) := by decide +kernel
theorem dX10_countWays_20 : decode cX10_countWays 20 = .ok (.iconst 0, 1) := by decide +kernel
theorem dX10_countWays_21 : decode cX10_countWays 21 = .ok (.invokevirtual 107, 3) := by decide +kernel
theorem dX10_countWays_24 : decode cX10_countWays 24 = .ok (.iconst 0, 1) := by decide +kernel
theorem dX10_countWays_25 : decode cX10_countWays 25 = .ok (.istore_n 2, 1) := by decide +kernel
theorem dX10_countWays_26 : decode cX10_countWays 26 = .ok (.iload_n 2, 1) := by decide +kernel
theorem dX10_countWays_27 : decode cX10_countWays 27 = .ok (.aload_n 0, 1) := by decide +kernel
theorem dX10_countWays_28 : decode cX10_countWays 28 = .ok (.getfield 26, 3) := by decide +kernel
theorem dX10_countWays_31 : decode cX10_countWays 31 = .ok (.getfield 63, 3) := by decide +kernel
theorem dX10_countWays_34 : decode cX10_countWays 34 = .ok (.if_icmp .ge 115, 3) := by decide +kernel
theorem dX10_countWays_37 : decode cX10_countWays 37 = .ok (.aload_n 0, 1) := by decide +kernel
theorem dX10_countWays_38 : decode cX10_countWays 38 = .ok (.getfield 26, 3) := by decide +kernel
theorem dX10_countWays_41 : decode cX10_countWays 41 = .ok (.iload_n 2, 1) := by decide +kernel
theorem dX10_countWays_42 : decode cX10_countWays 42 = .ok (.invokevirtual 79, 3) := by decide +kernel
theorem dX10_countWays_45 : decode cX10_countWays 45 = .ok (.istore_n 3, 1) := by decide +kernel
theorem dX10_countWays_46 : decode cX10_countWays 46 = .ok (.iload_n 2, 1) := by decide +kernel
theorem dX10_countWays_47 : decode cX10_countWays 47 = .ok (.iload_n 1, 1) := by decide +kernel
theorem dX10_countWays_48 : decode cX10_countWays 48 = .ok (.if_icmp .eq 95, 3) := by decide +kernel
theorem dX10_countWays_51 : decode cX10_countWays 51 = .ok (.iload_n 3, 1) := by decide +kernel
theorem dX10_countWays_52 : decode cX10_countWays 52 = .ok (.iconst (-1), 1) := by decide +kernel
theorem dX10_countWays_53 : decode cX10_countWays 53 = .ok (.if_icmp .ne 6, 3) := by decide +kernel
theorem dX10_countWays_56 : decode cX10_countWays 56 = .ok (.goto 87, 3) := by decide +kernel
theorem dX10_countWays_59 : decode cX10_countWays 59 = .ok (.aload_n 0, 1) := by decide +kernel
theorem dX10_countWays_60 : decode cX10_countWays 60 = .ok (.getfield 30, 3) := by decide +kernel
theorem dX10_countWays_63 : decode cX10_countWays 63 = .ok (.aload_n 0, 1) := by decide +kernel
theorem dX10_countWays_64 : decode cX10_countWays 64 = .ok (.getfield 26, 3) := by decide +kernel
theorem dX10_countWays_67 : decode cX10_countWays 67 = .ok (.getfield 38, 3) := by decide +kernel
theorem dX10_countWays_70 : decode cX10_countWays 70 = .ok (.iload_n 2, 1) := by decide +kernel
theorem dX10_countWays_71 : decode cX10_countWays 71 = .ok (.iaload, 1) := by decide +kernel
theorem dX10_countWays_72 : decode cX10_countWays 72 = .ok (.iload_n 3, 1) := by decide +kernel
theorem dX10_countWays_73 : decode cX10_countWays 73 = .ok (.invokevirtual 96, 3) := by decide +kernel
theorem dX10_countWays_76 : decode cX10_countWays 76 = .ok (.istore 4, 2) := by decide +kernel
theorem dX10_countWays_78 : decode cX10_countWays 78 = .ok (.iconst 0, 1) := by decide +kernel
theorem dX10_countWays_79 : decode cX10_countWays 79 = .ok (.istore 5, 2) := by decide +kernel
theorem dX10_countWays_81 : decode cX10_countWays 81 = .ok (.iload 5, 2) := by decide +kernel
theorem dX10_countWays_83 : decode cX10_countWays 83 = .ok (.iload 4, 2) := by decide +kernel
theorem dX10_countWays_85 : decode cX10_countWays 85 = .ok (.if_icmp .ge 58, 3) := by decide +kernel
theorem dX10_countWays_88 : decode cX10_countWays 88 = .ok (.aload_n 0, 1) := by decide +kernel
theorem dX10_countWays_89 : decode cX10_countWays 89 = .ok (.getfield 9, 3) := by decide +kernel
theorem dX10_countWays_92 : decode cX10_countWays 92 = .ok (.aload_n 0, 1) := by decide +kernel
theorem dX10_countWays_93 : decode cX10_countWays 93 = .ok (.getfield 30, 3) := by decide +kernel
theorem dX10_countWays_96 : decode cX10_countWays 96 = .ok (.getfield 101, 3) := by decide +kernel
theorem dX10_countWays_99 : decode cX10_countWays 99 = .ok (.iload 5, 2) := by decide +kernel
theorem dX10_countWays_101 : decode cX10_countWays 101 = .ok (.iaload, 1) := by decide +kernel
theorem dX10_countWays_102 : decode cX10_countWays 102 = .ok (.dup2, 1) := by decide +kernel
theorem dX10_countWays_103 : decode cX10_countWays 103 = .ok (.iaload, 1) := by decide +kernel
theorem dX10_countWays_104 : decode cX10_countWays 104 = .ok (.iconst 1, 1) := by decide +kernel
theorem dX10_countWays_105 : decode cX10_countWays 105 = .ok (.iadd, 1) := by decide +kernel
theorem dX10_countWays_106 : decode cX10_countWays 106 = .ok (.iastore, 1) := by decide +kernel
theorem dX10_countWays_107 : decode cX10_countWays 107 = .ok (.aload_n 0, 1) := by decide +kernel
theorem dX10_countWays_108 : decode cX10_countWays 108 = .ok (.getfield 15, 3) := by decide +kernel
theorem dX10_countWays_111 : decode cX10_countWays 111 = .ok (.aload_n 0, 1) := by decide +kernel
theorem dX10_countWays_112 : decode cX10_countWays 112 = .ok (.getfield 30, 3) := by decide +kernel
theorem dX10_countWays_115 : decode cX10_countWays 115 = .ok (.getfield 101, 3) := by decide +kernel
theorem dX10_countWays_118 : decode cX10_countWays 118 = .ok (.iload 5, 2) := by decide +kernel
theorem dX10_countWays_120 : decode cX10_countWays 120 = .ok (.iaload, 1) := by decide +kernel
theorem dX10_countWays_121 : decode cX10_countWays 121 = .ok (.dup2, 1) := by decide +kernel
theorem dX10_countWays_122 : decode cX10_countWays 122 = .ok (.iaload, 1) := by decide +kernel
theorem dX10_countWays_123 : decode cX10_countWays 123 = .ok (.aload_n 0, 1) := by decide +kernel
theorem dX10_countWays_124 : decode cX10_countWays 124 = .ok (.getfield 26, 3) := by decide +kernel
theorem dX10_countWays_127 : decode cX10_countWays 127 = .ok (.getfield 56, 3) := by decide +kernel
theorem dX10_countWays_130 : decode cX10_countWays 130 = .ok (.iload_n 2, 1) := by decide +kernel
theorem dX10_countWays_131 : decode cX10_countWays 131 = .ok (.baload, 1) := by decide +kernel
theorem dX10_countWays_132 : decode cX10_countWays 132 = .ok (.invokestatic 162, 3) := by decide +kernel
theorem dX10_countWays_135 : decode cX10_countWays 135 = .ok (.iadd, 1) := by decide +kernel
theorem dX10_countWays_136 : decode cX10_countWays 136 = .ok (.iastore, 1) := by decide +kernel
theorem dX10_countWays_137 : decode cX10_countWays 137 = .ok (.iinc 5 1, 3) := by decide +kernel
theorem dX10_countWays_140 : decode cX10_countWays 140 = .ok (.goto (-59), 3) := by decide +kernel
theorem dX10_countWays_143 : decode cX10_countWays 143 = .ok (.iinc 2 1, 3) := by decide +kernel
theorem dX10_countWays_146 : decode cX10_countWays 146 = .ok (.goto (-120), 3) := by decide +kernel
theorem dX10_countWays_149 : decode cX10_countWays 149 = .ok (.return_, 1) := by decide +kernel
set_option maxRecDepth 100000 in
set_option maxHeartbeats 4000000 in
theorem B_X10_countWays_0 {κ : Nat → List Value → List Value → m2M → Prop} {D : Nat} {Q : Option Value → m2M → Prop} (h : m2_RL κ cX10_countWays RX10 6 (D + 1) none Q) {x1 : Int32} {μ : m2M} (k : ∃ Q3 : Option Value → m2M → Prop, m2_MT D yJ7_fill_53178 cJ7_fill_53178 4 none [.ref kW_onWay, .int 0] μ Q3 ∧ ∀ (μ2 : m2M), Q3 none μ2 → (∃ Q8 : Option Value → m2M → Prop, m2_MT D yJ7_fill_53178 cJ7_fill_53178 4 none [.ref kW_strangersOnWay, .int 0] μ2 Q8 ∧ ∀ (μ7 : m2M), Q8 none μ7 → (∃ Q13 : Option Value → m2M → Prop, m2_MT D yX8_useAbove cX8_useAbove 3 none [.ref kR, .int 0] μ7 Q13 ∧ ∀ (μ12 : m2M), Q13 none μ12 → (κ 26 [.ref kW, .int x1, .int 0, .null, .null, .null] [] μ12)))) : κ 0 [.ref kW, .int x1, .null, .null, .null, .null] [] μ := by
  have hB := h.b
  refine m2_aload_n hB dX10_countWays_0 rfl ?_
  refine m2_getR hB dX10_countWays_1 fl_X10_9 sh_kW (c1 := kW_onWay) rfl ?_
  refine m2_iconst hB dX10_countWays_4 (v := 0) (by decide) ?_
  obtain ⟨Q3, hM4, k⟩ := k
  refine m2_invSv hB (as := [.ref kW_onWay, .int 0]) dX10_countWays_5 ms_X10_156 rfl (Nat.le_of_ble_eq_true rfl) rfl hM4 (fun μ2 hq5 => ?_)
  replace k := k μ2 hq5
  refine m2_aload_n hB dX10_countWays_8 rfl ?_
  refine m2_getR hB dX10_countWays_9 fl_X10_15 sh_kW (c1 := kW_strangersOnWay) rfl ?_
  refine m2_iconst hB dX10_countWays_12 (v := 0) (by decide) ?_
  obtain ⟨Q8, hM9, k⟩ := k
  refine m2_invSv hB (as := [.ref kW_strangersOnWay, .int 0]) dX10_countWays_13 ms_X10_156 rfl (Nat.le_of_ble_eq_true rfl) rfl hM9 (fun μ7 hq10 => ?_)
  replace k := k μ7 hq10
  refine m2_aload_n hB dX10_countWays_16 rfl ?_
  refine m2_getR hB dX10_countWays_17 fl_X10_30 sh_kW (c1 := kR) rfl ?_
  refine m2_iconst hB dX10_countWays_20 (v := 0) (by decide) ?_
  obtain ⟨Q13, hM14, k⟩ := k
  refine m2_invv hB (as := [.int 0]) dX10_countWays_21 mv_X10_107 rfl sh_kR rfl (Nat.le_of_ble_eq_true rfl) rfl hM14 (fun μ12 hq15 => ?_)
  replace k := k μ12 hq15
  refine m2_iconst hB dX10_countWays_24 (v := 0) (by decide) ?_
  refine m2_istore_n hB (ls' := [.ref kW, .int x1, .int 0, .null, .null, .null]) dX10_countWays_25 rfl (by decide) rfl ?_
  exact k
set_option maxRecDepth 100000 in
set_option maxHeartbeats 4000000 in
theorem B_X10_countWays_26 {κ : Nat → List Value → List Value → m2M → Prop} {D : Nat} {Q : Option Value → m2M → Prop} (h : m2_RL κ cX10_countWays RX10 6 (D + 1) none Q) (hD : 1 ≤ D) {v1 : Int32} {v2 : Int32} {μ : m2M} (k : ((μ.1 kP 8) ≤ v2 → Q none μ) ∧ (¬ (μ.1 kP 8) ≤ v2 → (vp_in v2 8) ∧ ((v2 = v1 → κ 26 [.ref kW, .int v1, .int (v2 + 1), .null, .null, .null] [] μ) ∧ (¬ v2 = v1 → (¬ (fX6_goal v2 μ) = (-1) → ∃ Q13 : Option Value → m2M → Prop, m2_MT D yX8_find cX8_find 3 (some .int) [.ref kR, .int (μ.1 kP_where (v2).toNatClampNeg), .int (fX6_goal v2 μ)] μ Q13 ∧ ∀ (y11 : Int32) (μ12 : m2M), Q13 (some (.int y11)) μ12 → (κ 81 [.ref kW, .int v1, .int v2, .int (fX6_goal v2 μ), .int y11, .int 0] [] μ12)) ∧ ((fX6_goal v2 μ) = (-1) → κ 26 [.ref kW, .int v1, .int (v2 + 1), .null, .null, .null] [] μ))))) : κ 26 [.ref kW, .int v1, .int v2, .null, .null, .null] [] μ := by
  have hB := h.b
  refine m2_iload_n hB dX10_countWays_26 rfl ?_
  refine m2_aload_n hB dX10_countWays_27 rfl ?_
  refine m2_getR hB dX10_countWays_28 fl_X10_26 sh_kW (c1 := kP) rfl ?_
  refine m2_getI hB dX10_countWays_31 fl_X10_63 sh_kP rfl ?_
  refine m2_icmp_ge hB dX10_countWays_34 (tgt := 149) (by decide) (fun q1 : (μ.1 kP 8) ≤ v2 => ?_) (fun q1 : ¬ (μ.1 kP 8) ≤ v2 => ?_)
  · replace k := k.1 q1
    exact m2_vret h dX10_countWays_149 k
  · replace k := k.2 q1
    refine m2_aload_n hB dX10_countWays_37 rfl ?_
    refine m2_getR hB dX10_countWays_38 fl_X10_26 sh_kW (c1 := kP) rfl ?_
    refine m2_iload_n hB dX10_countWays_41 rfl ?_
    obtain ⟨hs2, k⟩ := k
    refine m2_invi hB (as := [.int v2]) dX10_countWays_42 mv_X10_79 rfl sh_kP rfl (Nat.le_of_ble_eq_true rfl) rfl (P_X6_goal (by omega) (v2) _ hs2) (fun y3 μ4 hq5 => ?_)
    obtain ⟨⟨⟩, hq5⟩ := hq5
    subst μ4
    refine m2_istore_n hB (ls' := [.ref kW, .int v1, .int v2, .int (fX6_goal v2 μ), .null, .null]) dX10_countWays_45 rfl (by decide) rfl ?_
    refine m2_iload_n hB dX10_countWays_46 rfl ?_
    refine m2_iload_n hB dX10_countWays_47 rfl ?_
    refine m2_icmp_eq hB dX10_countWays_48 (tgt := 143) (by decide) (fun q7 : v2 = v1 => ?_) (fun q7 : ¬ v2 = v1 => ?_)
    · replace k := k.1 q7
      refine m2_iinc hB (ls' := [.ref kW, .int v1, .int (v2 + 1), .int (fX6_goal v2 μ), .null, .null]) (v := (v2 + 1)) dX10_countWays_143 rfl (by decide) rfl rfl ?_
      refine m2_goto hB dX10_countWays_146 (tgt := 26) (by decide) ?_
      exact m2_weak (ls' := [.ref kW, .int v1, .int (v2 + 1), .null, .null, .null]) hB ⟨Or.inr rfl, Or.inr rfl, Or.inr rfl, Or.inl rfl, Or.inl rfl, Or.inl rfl, trivial⟩ k
    · replace k := k.2 q7
      refine m2_iload_n hB dX10_countWays_51 rfl ?_
      refine m2_iconst hB dX10_countWays_52 (v := (-1)) (by decide) ?_
      refine m2_icmp_ne hB dX10_countWays_53 (tgt := 59) (by decide) (fun q9 : ¬ (fX6_goal v2 μ) = (-1) => ?_) (fun q9 : (fX6_goal v2 μ) = (-1) => ?_)
      · replace k := k.1 q9
        refine m2_aload_n hB dX10_countWays_59 rfl ?_
        refine m2_getR hB dX10_countWays_60 fl_X10_30 sh_kW (c1 := kR) rfl ?_
        refine m2_aload_n hB dX10_countWays_63 rfl ?_
        refine m2_getR hB dX10_countWays_64 fl_X10_26 sh_kW (c1 := kP) rfl ?_
        refine m2_getR hB dX10_countWays_67 fl_X10_38 sh_kP (c1 := kP_where) rfl ?_
        refine m2_iload_n hB dX10_countWays_70 rfl ?_
        have hi10 := hs2
        refine m2_iald hB dX10_countWays_71 sh_kP_where hi10 ?_
        refine m2_iload_n hB dX10_countWays_72 rfl ?_
        obtain ⟨Q13, hM14, k⟩ := k
        refine m2_invi hB (as := [.int (μ.1 kP_where (v2).toNatClampNeg), .int (fX6_goal v2 μ)]) dX10_countWays_73 mv_X10_96 rfl sh_kR rfl (Nat.le_of_ble_eq_true rfl) rfl hM14 (fun y11 μ12 hq15 => ?_)
        replace k := k y11 μ12 hq15
        refine m2_istore hB (ls' := [.ref kW, .int v1, .int v2, .int (fX6_goal v2 μ), .int y11, .null]) dX10_countWays_76 (by decide) rfl ?_
        refine m2_iconst hB dX10_countWays_78 (v := 0) (by decide) ?_
        refine m2_istore hB (ls' := [.ref kW, .int v1, .int v2, .int (fX6_goal v2 μ), .int y11, .int 0]) dX10_countWays_79 (by decide) rfl ?_
        exact k
      · replace k := k.2 q9
        refine m2_goto hB dX10_countWays_56 (tgt := 143) (by decide) ?_
        refine m2_iinc hB (ls' := [.ref kW, .int v1, .int (v2 + 1), .int (fX6_goal v2 μ), .null, .null]) (v := (v2 + 1)) dX10_countWays_143 rfl (by decide) rfl rfl ?_
        refine m2_goto hB dX10_countWays_146 (tgt := 26) (by decide) ?_
        exact m2_weak (ls' := [.ref kW, .int v1, .int (v2 + 1), .null, .null, .null]) hB ⟨Or.inr rfl, Or.inr rfl, Or.inr rfl, Or.inl rfl, Or.inl rfl, Or.inl rfl, trivial⟩ k
set_option maxRecDepth 100000 in
set_option maxHeartbeats 4000000 in
theorem B_X10_countWays_81 {κ : Nat → List Value → List Value → m2M → Prop} {D : Nat} {Q : Option Value → m2M → Prop} (h : m2_RL κ cX10_countWays RX10 6 (D + 1) none Q) (hD : 0 ≤ D) {v1 : Int32} {v2 : Int32} {v3 : Int32} {v4 : Int32} {v5 : Int32} {μ : m2M} (k : (v4 ≤ v5 → κ 26 [.ref kW, .int v1, .int (v2 + 1), .null, .null, .null] [] μ) ∧ (¬ v4 ≤ v5 → (vp_in v5 12) ∧ ((vp_in (μ.1 kR_found (v5).toNatClampNeg) 20) ∧ ((vp_in v2 8) ∧ (κ 81 [.ref kW, .int v1, .int v2, .int v3, .int v4, .int (v5 + 1)] [] (m2_si (m2_si μ kW_onWay ((μ.1 kR_found (v5).toNatClampNeg)).toNatClampNeg ((μ.1 kW_onWay ((μ.1 kR_found (v5).toNatClampNeg)).toNatClampNeg) + 1)) kW_strangersOnWay ((μ.1 kR_found (v5).toNatClampNeg)).toNatClampNeg ((μ.1 kW_strangersOnWay ((μ.1 kR_found (v5).toNatClampNeg)).toNatClampNeg) + (if (μ.1 kP_stranger (v2).toNatClampNeg) = 0 then 0 else 1 : Int32)))))))) : κ 81 [.ref kW, .int v1, .int v2, .int v3, .int v4, .int v5] [] μ := by
  have hB := h.b
  refine m2_iload hB dX10_countWays_81 rfl ?_
  refine m2_iload hB dX10_countWays_83 rfl ?_
  refine m2_icmp_ge hB dX10_countWays_85 (tgt := 143) (by decide) (fun q2 : v4 ≤ v5 => ?_) (fun q2 : ¬ v4 ≤ v5 => ?_)
  · replace k := k.1 q2
    refine m2_iinc hB (ls' := [.ref kW, .int v1, .int (v2 + 1), .int v3, .int v4, .int v5]) (v := (v2 + 1)) dX10_countWays_143 rfl (by decide) rfl rfl ?_
    refine m2_goto hB dX10_countWays_146 (tgt := 26) (by decide) ?_
    exact m2_weak (ls' := [.ref kW, .int v1, .int (v2 + 1), .null, .null, .null]) hB ⟨Or.inr rfl, Or.inr rfl, Or.inr rfl, Or.inl rfl, Or.inl rfl, Or.inl rfl, trivial⟩ k
  · replace k := k.2 q2
    refine m2_aload_n hB dX10_countWays_88 rfl ?_
    refine m2_getR hB dX10_countWays_89 fl_X10_9 sh_kW (c1 := kW_onWay) rfl ?_
    refine m2_aload_n hB dX10_countWays_92 rfl ?_
    refine m2_getR hB dX10_countWays_93 fl_X10_30 sh_kW (c1 := kR) rfl ?_
    refine m2_getR hB dX10_countWays_96 fl_X10_101 sh_kR (c1 := kR_found) rfl ?_
    refine m2_iload hB dX10_countWays_99 rfl ?_
    obtain ⟨hi3, k⟩ := k
    refine m2_iald hB dX10_countWays_101 sh_kR_found hi3 ?_
    refine m2_dup2 hB dX10_countWays_102 rfl rfl ?_
    obtain ⟨hi4, k⟩ := k
    refine m2_iald hB dX10_countWays_103 sh_kW_onWay hi4 ?_
    refine m2_iconst hB dX10_countWays_104 (v := 1) (by decide) ?_
    refine m2_iadd hB dX10_countWays_105 ?_
    have hi5 := hi4
    refine m2_iast hB dX10_countWays_106 sh_kW_onWay hi5 ?_
    refine m2_aload_n hB dX10_countWays_107 rfl ?_
    refine m2_getR hB dX10_countWays_108 fl_X10_15 sh_kW (c1 := kW_strangersOnWay) rfl ?_
    refine m2_aload_n hB dX10_countWays_111 rfl ?_
    refine m2_getR hB dX10_countWays_112 fl_X10_30 sh_kW (c1 := kR) rfl ?_
    refine m2_getR hB dX10_countWays_115 fl_X10_101 sh_kR (c1 := kR_found) rfl ?_
    refine m2_iload hB dX10_countWays_118 rfl ?_
    have hi6 := hi3
    refine m2_iald hB dX10_countWays_120 sh_kR_found hi6 ?_
    refine m2_dup2 hB dX10_countWays_121 rfl rfl ?_
    have hi7 := hi4
    refine m2_iald hB dX10_countWays_122 sh_kW_strangersOnWay hi7 ?_
    refine m2_aload_n hB dX10_countWays_123 rfl ?_
    refine m2_getR hB dX10_countWays_124 fl_X10_26 sh_kW (c1 := kP) rfl ?_
    refine m2_getR hB dX10_countWays_127 fl_X10_56 sh_kP (c1 := kP_stranger) rfl ?_
    refine m2_iload_n hB dX10_countWays_130 rfl ?_
    obtain ⟨hi8, k⟩ := k
    refine m2_zald hB dX10_countWays_131 sh_kP_stranger hi8 ?_
    refine m2_invNi hB (as := [.int (μ.1 kP_stranger (v2).toNatClampNeg)]) dX10_countWays_132 mn_X10_162 rfl (Nat.le_of_ble_eq_true rfl) rfl (P_X11_asNumber (by omega) ((μ.1 kP_stranger (v2).toNatClampNeg)) _ ) (fun y9 μ10 hq11 => ?_)
    obtain ⟨⟨⟩, hq11⟩ := hq11
    subst μ10
    refine m2_iadd hB dX10_countWays_135 ?_
    have hi12 := hi4
    refine m2_iast hB dX10_countWays_136 sh_kW_strangersOnWay hi12 ?_
    refine m2_iinc hB (ls' := [.ref kW, .int v1, .int v2, .int v3, .int v4, .int (v5 + 1)]) (v := (v5 + 1)) dX10_countWays_137 rfl (by decide) rfl rfl ?_
    refine m2_goto hB dX10_countWays_140 (tgt := 81) (by decide) ?_
    exact k
theorem dX10_toAndFro_0 : decode cX10_toAndFro 0 = .ok (.aload_n 0, 1) := by decide +kernel
theorem dX10_toAndFro_1 : decode cX10_toAndFro 1 = .ok (.getfield 26, 3) := by decide +kernel
theorem dX10_toAndFro_4 : decode cX10_toAndFro 4 = .ok (.getfield 38, 3) := by decide +kernel
theorem dX10_toAndFro_7 : decode cX10_toAndFro 7 = .ok (.iload_n 1, 1) := by decide +kernel
theorem dX10_toAndFro_8 : decode cX10_toAndFro 8 = .ok (.iaload, 1) := by decide +kernel
theorem dX10_toAndFro_9 : decode cX10_toAndFro 9 = .ok (.istore_n 3, 1) := by decide +kernel
theorem dX10_toAndFro_10 : decode cX10_toAndFro 10 = .ok (.aload_n 0, 1) := by decide +kernel
theorem dX10_toAndFro_11 : decode cX10_toAndFro 11 = .ok (.iconst 0, 1) := by decide +kernel
theorem dX10_toAndFro_12 : decode cX10_toAndFro 12 = .ok (.putfield 69, 3) := by decide +kernel
theorem dX10_toAndFro_15 : decode cX10_toAndFro 15 = .ok (.aload_n 0, 1) := by decide +kernel
theorem dX10_toAndFro_16 : decode cX10_toAndFro 16 = .ok (.iconst 0, 1) := by decide +kernel
theorem dX10_toAndFro_17 : decode cX10_toAndFro 17 = .ok (.putfield 166, 3) := by decide +kernel
theorem dX10_toAndFro_20 : decode cX10_toAndFro 20 = .ok (.iconst 0, 1) := by decide +kernel
theorem dX10_toAndFro_21 : decode cX10_toAndFro 21 = .ok (.istore 4, 2) := by decide +kernel
theorem dX10_toAndFro_23 : decode cX10_toAndFro 23 = .ok (.iload 4, 2) := by decide +kernel
theorem dX10_toAndFro_25 : decode cX10_toAndFro 25 = .ok (.bipush 99, 2) := by decide +kernel
theorem dX10_toAndFro_27 : decode cX10_toAndFro 27 = .ok (.if_icmp .ge 40, 3) := by decide +kernel
theorem dX10_toAndFro_30 : decode cX10_toAndFro 30 = .ok (.aload_n 0, 1) := by decide +kernel
theorem dX10_toAndFro_31 : decode cX10_toAndFro 31 = .ok (.iload_n 1, 1) := by decide +kernel
theorem dX10_toAndFro_32 : decode cX10_toAndFro 32 = .ok (.iload_n 3, 1) := by decide +kernel
theorem dX10_toAndFro_33 : decode cX10_toAndFro 33 = .ok (.iload_n 2, 1) := by decide +kernel
theorem dX10_toAndFro_34 : decode cX10_toAndFro 34 = .ok (.invokevirtual 169, 3) := by decide +kernel
theorem dX10_toAndFro_37 : decode cX10_toAndFro 37 = .ok (.ifCond .ne 6, 3) := by decide +kernel
theorem dX10_toAndFro_40 : decode cX10_toAndFro 40 = .ok (.iload 4, 2) := by decide +kernel
theorem dX10_toAndFro_42 : decode cX10_toAndFro 42 = .ok (.ireturn, 1) := by decide +kernel
theorem dX10_toAndFro_43 : decode cX10_toAndFro 43 = .ok (.aload_n 0, 1) := by decide +kernel
theorem dX10_toAndFro_44 : decode cX10_toAndFro 44 = .ok (.iload_n 1, 1) := by decide +kernel
theorem dX10_toAndFro_45 : decode cX10_toAndFro 45 = .ok (.iload_n 2, 1) := by decide +kernel
theorem dX10_toAndFro_46 : decode cX10_toAndFro 46 = .ok (.iload_n 3, 1) := by decide +kernel
theorem dX10_toAndFro_47 : decode cX10_toAndFro 47 = .ok (.invokevirtual 169, 3) := by decide +kernel
theorem dX10_toAndFro_50 : decode cX10_toAndFro 50 = .ok (.ifCond .ne 11, 3) := by decide +kernel
theorem dX10_toAndFro_53 : decode cX10_toAndFro 53 = .ok (.aload_n 0, 1) := by decide +kernel
theorem dX10_toAndFro_54 : decode cX10_toAndFro 54 = .ok (.iconst 1, 1) := by decide +kernel
theorem dX10_toAndFro_55 : decode cX10_toAndFro 55 = .ok (.putfield 166, 3) := by decide +kernel
theorem dX10_toAndFro_58 : decode cX10_toAndFro 58 = .ok (.iload 4, 2) := by decide +kernel
theorem dX10_toAndFro_60 : decode cX10_toAndFro 60 = .ok (.ireturn, 1) := by decide +kernel
theorem dX10_toAndFro_61 : decode cX10_toAndFro 61 = .ok (.iinc 4 1, 3) := by decide +kernel
theorem dX10_toAndFro_64 : decode cX10_toAndFro 64 = .ok (.goto (-41), 3) := by decide +kernel
theorem dX10_toAndFro_67 : decode cX10_toAndFro 67 = .ok (.bipush 99, 2) := by decide +kernel
theorem dX10_toAndFro_69 : decode cX10_toAndFro 69 = .ok (.ireturn, 1) := by decide +kernel
set_option maxRecDepth 100000 in
set_option maxHeartbeats 4000000 in
theorem B_X10_toAndFro_0 {κ : Nat → List Value → List Value → m2M → Prop} {D : Nat} {Q : Option Value → m2M → Prop} (h : m2_RL κ cX10_toAndFro RX10 5 D (some .int) Q) {x1 : Int32} {x2 : Int32} {μ : m2M} (k : (vp_in x1 8) ∧ (κ 23 [.ref kW, .int x1, .int x2, .int (μ.1 kP_where (x1).toNatClampNeg), .int 0] [] (m2_si (m2_si μ kW 7 0) kW 8 0))) : κ 0 [.ref kW, .int x1, .int x2, .null, .null] [] μ := by
  have hB := h.b
  refine m2_aload_n hB dX10_toAndFro_0 rfl ?_
  refine m2_getR hB dX10_toAndFro_1 fl_X10_26 sh_kW (c1 := kP) rfl ?_
  refine m2_getR hB dX10_toAndFro_4 fl_X10_38 sh_kP (c1 := kP_where) rfl ?_
  refine m2_iload_n hB dX10_toAndFro_7 rfl ?_
  obtain ⟨hi1, k⟩ := k
  refine m2_iald hB dX10_toAndFro_8 sh_kP_where hi1 ?_
  refine m2_istore_n hB (ls' := [.ref kW, .int x1, .int x2, .int (μ.1 kP_where (x1).toNatClampNeg), .null]) dX10_toAndFro_9 rfl (by decide) rfl ?_
  refine m2_aload_n hB dX10_toAndFro_10 rfl ?_
  refine m2_iconst hB dX10_toAndFro_11 (v := 0) (by decide) ?_
  refine m2_putI hB dX10_toAndFro_12 fl_X10_69 sh_kW rfl ?_
  refine m2_aload_n hB dX10_toAndFro_15 rfl ?_
  refine m2_iconst hB dX10_toAndFro_16 (v := 0) (by decide) ?_
  refine m2_putZ hB (Or.inl rfl) dX10_toAndFro_17 fl_X10_166 sh_kW rfl ?_
  refine m2_iconst hB dX10_toAndFro_20 (v := 0) (by decide) ?_
  refine m2_istore hB (ls' := [.ref kW, .int x1, .int x2, .int (μ.1 kP_where (x1).toNatClampNeg), .int 0]) dX10_toAndFro_21 (by decide) rfl ?_
  exact k
set_option maxRecDepth 100000 in
set_option maxHeartbeats 4000000 in
theorem B_X10_toAndFro_23 {κ : Nat → List Value → List Value → m2M → Prop} {D : Nat} {Q : Option Value → m2M → Prop} (h : m2_RL κ cX10_toAndFro RX10 5 (D + 1) (some .int) Q) {v1 : Int32} {v2 : Int32} {v3 : Int32} {v4 : Int32} {μ : m2M} (k : (99 ≤ v4 → Q (some (.int 99)) μ) ∧ (¬ 99 ≤ v4 → ∃ Q4 : Option Value → m2M → Prop, m2_MT D yX10_crosses cX10_crosses 6 (some .boolean) [.ref kW, .int v1, .int v3, .int v2] μ Q4 ∧ ∀ (y2 : Int32) (μ3 : m2M), Q4 (some (.int y2)) μ3 → ((¬ y2 = 0 → ∃ Q10 : Option Value → m2M → Prop, m2_MT D yX10_crosses cX10_crosses 6 (some .boolean) [.ref kW, .int v1, .int v2, .int v3] μ3 Q10 ∧ ∀ (y8 : Int32) (μ9 : m2M), Q10 (some (.int y8)) μ9 → ((¬ y8 = 0 → κ 23 [.ref kW, .int v1, .int v2, .int v3, .int (v4 + 1)] [] μ9) ∧ (y8 = 0 → Q (some (.int v4)) (m2_si μ9 kW 8 1)))) ∧ (y2 = 0 → Q (some (.int v4)) μ3)))) : κ 23 [.ref kW, .int v1, .int v2, .int v3, .int v4] [] μ := by
  have hB := h.b
  refine m2_iload hB dX10_toAndFro_23 rfl ?_
  refine m2_bipush hB dX10_toAndFro_25 (v := 99) (by decide) ?_
  refine m2_icmp_ge hB dX10_toAndFro_27 (tgt := 67) (by decide) (fun q1 : 99 ≤ v4 => ?_) (fun q1 : ¬ 99 ≤ v4 => ?_)
  · replace k := k.1 q1
    refine m2_bipush hB dX10_toAndFro_67 (v := 99) (by decide) ?_
    exact m2_iret h dX10_toAndFro_69 k
  · replace k := k.2 q1
    refine m2_aload_n hB dX10_toAndFro_30 rfl ?_
    refine m2_iload_n hB dX10_toAndFro_31 rfl ?_
    refine m2_iload_n hB dX10_toAndFro_32 rfl ?_
    refine m2_iload_n hB dX10_toAndFro_33 rfl ?_
    obtain ⟨Q4, hM5, k⟩ := k
    refine m2_invz hB (as := [.int v1, .int v3, .int v2]) dX10_toAndFro_34 mv_X10_169 rfl sh_kW rfl (Nat.le_of_ble_eq_true rfl) rfl hM5 (fun y2 μ3 hq6 => ?_)
    replace k := k y2 μ3 hq6
    refine m2_if_ne hB dX10_toAndFro_37 (tgt := 43) (by decide) (fun q7 : ¬ y2 = 0 => ?_) (fun q7 : y2 = 0 => ?_)
    · replace k := k.1 q7
      refine m2_aload_n hB dX10_toAndFro_43 rfl ?_
      refine m2_iload_n hB dX10_toAndFro_44 rfl ?_
      refine m2_iload_n hB dX10_toAndFro_45 rfl ?_
      refine m2_iload_n hB dX10_toAndFro_46 rfl ?_
      obtain ⟨Q10, hM11, k⟩ := k
      refine m2_invz hB (as := [.int v1, .int v2, .int v3]) dX10_toAndFro_47 mv_X10_169 rfl sh_kW rfl (Nat.le_of_ble_eq_true rfl) rfl hM11 (fun y8 μ9 hq12 => ?_)
      replace k := k y8 μ9 hq12
      refine m2_if_ne hB dX10_toAndFro_50 (tgt := 61) (by decide) (fun q13 : ¬ y8 = 0 => ?_) (fun q13 : y8 = 0 => ?_)
      · replace k := k.1 q13
        refine m2_iinc hB (ls' := [.ref kW, .int v1, .int v2, .int v3, .int (v4 + 1)]) (v := (v4 + 1)) dX10_toAndFro_61 rfl (by decide) rfl rfl ?_
        refine m2_goto hB dX10_toAndFro_64 (tgt := 23) (by decide) ?_
        exact k
      · replace k := k.2 q13
        refine m2_aload_n hB dX10_toAndFro_53 rfl ?_
        refine m2_iconst hB dX10_toAndFro_54 (v := 1) (by decide) ?_
        refine m2_putZ hB (Or.inr rfl) dX10_toAndFro_55 fl_X10_166 sh_kW rfl ?_
        refine m2_iload hB dX10_toAndFro_58 rfl ?_
        exact m2_iret h dX10_toAndFro_60 k
    · replace k := k.2 q7
      refine m2_iload hB dX10_toAndFro_40 rfl ?_
      exact m2_iret h dX10_toAndFro_42 k
theorem dX10_crosses_0 : decode cX10_crosses 0 = .ok (.aload_n 0, 1) := by decide +kernel
theorem dX10_crosses_1 : decode cX10_crosses 1 = .ok (.getfield 30, 3) := by decide +kernel
theorem dX10_crosses_4 : decode cX10_crosses 4 = .ok (.iconst 0, 1) := by decide +kernel
theorem dX10_crosses_5 : decode cX10_crosses 5 = .ok (.invokevirtual 107, 3) := by decide +kernel
theorem dX10_crosses_8 : decode cX10_crosses 8 = .ok (.aload_n 0, 1) := by decide +kernel
theorem dX10_crosses_9 : decode cX10_crosses 9 = .ok (.getfield 30, 3) := by decide +kernel
theorem dX10_crosses_12 : decode cX10_crosses 12 = .ok (.iload_n 2, 1) := by decide +kernel
theorem dX10_crosses_13 : decode cX10_crosses 13 = .ok (.iload_n 3, 1) := by decide +kernel
theorem dX10_crosses_14 : decode cX10_crosses 14 = .ok (.invokevirtual 96, 3) := by decide +kernel
theorem dX10_crosses_17 : decode cX10_crosses 17 = .ok (.istore 4, 2) := by decide +kernel
theorem dX10_crosses_19 : decode cX10_crosses 19 = .ok (.iload 4, 2) := by decide +kernel
theorem dX10_crosses_21 : decode cX10_crosses 21 = .ok (.iconst (-1), 1) := by decide +kernel
theorem dX10_crosses_22 : decode cX10_crosses 22 = .ok (.if_icmp .ne 5, 3) := by decide +kernel
theorem dX10_crosses_25 : decode cX10_crosses 25 = .ok (.iconst 0, 1) := by decide +kernel
theorem dX10_crosses_26 : decode cX10_crosses 26 = .ok (.ireturn, 1) := by decide +kernel
theorem dX10_crosses_27 : decode cX10_crosses 27 = .ok (.iconst 0, 1) := by decide +kernel
theorem dX10_crosses_28 : decode cX10_crosses 28 = .ok (.istore 5, 2) := by decide +kernel
theorem dX10_crosses_30 : decode cX10_crosses 30 = .ok (.iload 5, 2) := by decide +kernel
theorem dX10_crosses_32 : decode cX10_crosses 32 = .ok (.iload 4, 2) := by decide +kernel
theorem dX10_crosses_34 : decode cX10_crosses 34 = .ok (.if_icmp .ge 24, 3) := by decide +kernel
theorem dX10_crosses_37 : decode cX10_crosses 37 = .ok (.aload_n 0, 1) := by decide +kernel
theorem dX10_crosses_38 : decode cX10_crosses 38 = .ok (.iload_n 1, 1) := by decide +kernel
theorem dX10_crosses_39 : decode cX10_crosses 39 = .ok (.aload_n 0, 1) := by decide +kernel
theorem dX10_crosses_40 : decode cX10_crosses 40 = .ok (.getfield 30, 3) := by decide +kernel
theorem dX10_crosses_43 : decode cX10_crosses 43 = .ok (.getfield 101, 3) := by decide +kernel
theorem dX10_crosses_46 : decode cX10_crosses 46 = .ok (.iload 5, 2) := by decide +kernel
theorem dX10_crosses_48 : decode cX10_crosses 48 = .ok (.iaload, 1) := by decide +kernel
theorem dX10_crosses_49 : decode cX10_crosses 49 = .ok (.invokevirtual 49, 3) := by decide +kernel
theorem dX10_crosses_52 : decode cX10_crosses 52 = .ok (.iinc 5 1, 3) := by decide +kernel
theorem dX10_crosses_55 : decode cX10_crosses 55 = .ok (.goto (-25), 3) := by decide +kernel
theorem dX10_crosses_58 : decode cX10_crosses 58 = .ok (.aload_n 0, 1) := by decide +kernel
theorem dX10_crosses_59 : decode cX10_crosses 59 = .ok (.dup, 1) := by decide +kernel
theorem dX10_crosses_60 : decode cX10_crosses 60 = .ok (.getfield 69, 3) := by decide +kernel
theorem dX10_crosses_63 : decode cX10_crosses 63 = .ok (.iload 4, 2) := by decide +kernel
theorem dX10_crosses_65 : decode cX10_crosses 65 = .ok (.iadd, 1) := by decide +kernel
theorem dX10_crosses_66 : decode cX10_crosses 66 = .ok (.putfield 69, 3) := by decide +kernel
theorem dX10_crosses_69 : decode cX10_crosses 69 = .ok (.iconst 1, 1) := by decide +kernel
theorem dX10_crosses_70 : decode cX10_crosses 70 = .ok (.ireturn, 1) := by decide +kernel
set_option maxRecDepth 100000 in
set_option maxHeartbeats 4000000 in
theorem B_X10_crosses_0 {κ : Nat → List Value → List Value → m2M → Prop} {D : Nat} {Q : Option Value → m2M → Prop} (h : m2_RL κ cX10_crosses RX10 6 (D + 1) (some .boolean) Q) {x1 : Int32} {x2 : Int32} {x3 : Int32} {μ : m2M} (k : ∃ Q3 : Option Value → m2M → Prop, m2_MT D yX8_useAbove cX8_useAbove 3 none [.ref kR, .int 0] μ Q3 ∧ ∀ (μ2 : m2M), Q3 none μ2 → (∃ Q8 : Option Value → m2M → Prop, m2_MT D yX8_find cX8_find 3 (some .int) [.ref kR, .int x2, .int x3] μ2 Q8 ∧ ∀ (y6 : Int32) (μ7 : m2M), Q8 (some (.int y6)) μ7 → ((¬ y6 = (-1) → κ 30 [.ref kW, .int x1, .int x2, .int x3, .int y6, .int 0] [] μ7) ∧ (y6 = (-1) → Q (some (.int 0)) μ7)))) : κ 0 [.ref kW, .int x1, .int x2, .int x3, .null, .null] [] μ := by
  have hB := h.b
  refine m2_aload_n hB dX10_crosses_0 rfl ?_
  refine m2_getR hB dX10_crosses_1 fl_X10_30 sh_kW (c1 := kR) rfl ?_
  refine m2_iconst hB dX10_crosses_4 (v := 0) (by decide) ?_
  obtain ⟨Q3, hM4, k⟩ := k
  refine m2_invv hB (as := [.int 0]) dX10_crosses_5 mv_X10_107 rfl sh_kR rfl (Nat.le_of_ble_eq_true rfl) rfl hM4 (fun μ2 hq5 => ?_)
  replace k := k μ2 hq5
  refine m2_aload_n hB dX10_crosses_8 rfl ?_
  refine m2_getR hB dX10_crosses_9 fl_X10_30 sh_kW (c1 := kR) rfl ?_
  refine m2_iload_n hB dX10_crosses_12 rfl ?_
  refine m2_iload_n hB dX10_crosses_13 rfl ?_
  obtain ⟨Q8, hM9, k⟩ := k
  refine m2_invi hB (as := [.int x2, .int x3]) dX10_crosses_14 mv_X10_96 rfl sh_kR rfl (Nat.le_of_ble_eq_true rfl) rfl hM9 (fun y6 μ7 hq10 => ?_)
  replace k := k y6 μ7 hq10
  refine m2_istore hB (ls' := [.ref kW, .int x1, .int x2, .int x3, .int y6, .null]) dX10_crosses_17 (by decide) rfl ?_
  refine m2_iload hB dX10_crosses_19 rfl ?_
  refine m2_iconst hB dX10_crosses_21 (v := (-1)) (by decide) ?_
  refine m2_icmp_ne hB dX10_crosses_22 (tgt := 27) (by decide) (fun q11 : ¬ y6 = (-1) => ?_) (fun q11 : y6 = (-1) => ?_)
  · replace k := k.1 q11
    refine m2_iconst hB dX10_crosses_27 (v := 0) (by decide) ?_
    refine m2_istore hB (ls' := [.ref kW, .int x1, .int x2, .int x3, .int y6, .int 0]) dX10_crosses_28 (by decide) rfl ?_
    exact k
  · replace k := k.2 q11
    refine m2_iconst hB dX10_crosses_25 (v := 0) (by decide) ?_
    exact m2_zret h dX10_crosses_26 (Or.inl rfl) k
set_option maxRecDepth 100000 in
set_option maxHeartbeats 4000000 in
theorem B_X10_crosses_30 {κ : Nat → List Value → List Value → m2M → Prop} {D : Nat} {Q : Option Value → m2M → Prop} (h : m2_RL κ cX10_crosses RX10 6 (D + 1) (some .boolean) Q) {v1 : Int32} {v2 : Int32} {v3 : Int32} {v4 : Int32} {v5 : Int32} {μ : m2M} (k : (v4 ≤ v5 → Q (some (.int 1)) (m2_si μ kW 7 ((μ.1 kW 7) + v4))) ∧ (¬ v4 ≤ v5 → (vp_in v5 12) ∧ (∃ Q6 : Option Value → m2M → Prop, m2_MT D yX10_spend cX10_spend 3 none [.ref kW, .int v1, .int (μ.1 kR_found (v5).toNatClampNeg)] μ Q6 ∧ ∀ (μ5 : m2M), Q6 none μ5 → (κ 30 [.ref kW, .int v1, .int v2, .int v3, .int v4, .int (v5 + 1)] [] μ5)))) : κ 30 [.ref kW, .int v1, .int v2, .int v3, .int v4, .int v5] [] μ := by
  have hB := h.b
  refine m2_iload hB dX10_crosses_30 rfl ?_
  refine m2_iload hB dX10_crosses_32 rfl ?_
  refine m2_icmp_ge hB dX10_crosses_34 (tgt := 58) (by decide) (fun q2 : v4 ≤ v5 => ?_) (fun q2 : ¬ v4 ≤ v5 => ?_)
  · replace k := k.1 q2
    refine m2_aload_n hB dX10_crosses_58 rfl ?_
    refine m2_dup hB dX10_crosses_59 rfl ?_
    refine m2_getI hB dX10_crosses_60 fl_X10_69 sh_kW rfl ?_
    refine m2_iload hB dX10_crosses_63 rfl ?_
    refine m2_iadd hB dX10_crosses_65 ?_
    refine m2_putI hB dX10_crosses_66 fl_X10_69 sh_kW rfl ?_
    refine m2_iconst hB dX10_crosses_69 (v := 1) (by decide) ?_
    exact m2_zret h dX10_crosses_70 (Or.inr rfl) k
  · replace k := k.2 q2
    refine m2_aload_n hB dX10_crosses_37 rfl ?_
    refine m2_iload_n hB dX10_crosses_38 rfl ?_
    refine m2_aload_n hB dX10_crosses_39 rfl ?_
    refine m2_getR hB dX10_crosses_40 fl_X10_30 sh_kW (c1 := kR) rfl ?_
    refine m2_getR hB dX10_crosses_43 fl_X10_101 sh_kR (c1 := kR_found) rfl ?_
    refine m2_iload hB dX10_crosses_46 rfl ?_
    obtain ⟨hi3, k⟩ := k
    refine m2_iald hB dX10_crosses_48 sh_kR_found hi3 ?_
    obtain ⟨Q6, hM7, k⟩ := k
    refine m2_invv hB (as := [.int v1, .int (μ.1 kR_found (v5).toNatClampNeg)]) dX10_crosses_49 mv_X10_49 rfl sh_kW rfl (Nat.le_of_ble_eq_true rfl) rfl hM7 (fun μ5 hq8 => ?_)
    replace k := k μ5 hq8
    refine m2_iinc hB (ls' := [.ref kW, .int v1, .int v2, .int v3, .int v4, .int (v5 + 1)]) (v := (v5 + 1)) dX10_crosses_52 rfl (by decide) rfl rfl ?_
    refine m2_goto hB dX10_crosses_55 (tgt := 30) (by decide) ?_
    exact k
theorem dX10_shutOut_0 : decode cX10_shutOut 0 = .ok (.aload_n 0, 1) := by decide +kernel
theorem dX10_shutOut_1 : decode cX10_shutOut 1 = .ok (.iload_n 1, 1) := by decide +kernel
theorem dX10_shutOut_2 : decode cX10_shutOut 2 = .ok (.invokevirtual 173, 3) := by decide +kernel
theorem dX10_shutOut_5 : decode cX10_shutOut 5 = .ok (.istore_n 2, 1) := by decide +kernel
theorem dX10_shutOut_6 : decode cX10_shutOut 6 = .ok (.iconst 0, 1) := by decide +kernel
theorem dX10_shutOut_7 : decode cX10_shutOut 7 = .ok (.istore_n 3, 1) := by decide +kernel
theorem dX10_shutOut_8 : decode cX10_shutOut 8 = .ok (.iconst 0, 1) := by decide +kernel
theorem dX10_shutOut_9 : decode cX10_shutOut 9 = .ok (.istore 4, 2) := by decide +kernel
theorem dX10_shutOut_11 : decode cX10_shutOut 11 = .ok (.iload 4, 2) := by decide +kernel
theorem dX10_shutOut_13 : decode cX10_shutOut 13 = .ok (.aload_n 0, 1) := by decide +kernel
theorem dX10_shutOut_14 : decode cX10_shutOut 14 = .ok (.getfield 26, 3) := by decide +kernel
theorem dX10_shutOut_17 : decode cX10_shutOut 17 = .ok (.getfield 63, 3) := by decide +kernel
theorem dX10_shutOut_20 : decode cX10_shutOut 20 = .ok (.if_icmp .ge 52, 3) := by decide +kernel
theorem dX10_shutOut_23 : decode cX10_shutOut 23 = .ok (.iload_n 2, 1) := by decide +kernel
theorem dX10_shutOut_24 : decode cX10_shutOut 24 = .ok (.iload 4, 2) := by decide +kernel
theorem dX10_shutOut_26 : decode cX10_shutOut 26 = .ok (.invokestatic 176, 3) := by decide +kernel
theorem dX10_shutOut_29 : decode cX10_shutOut 29 = .ok (.ifCond .eq 37, 3) := by decide +kernel
theorem dX10_shutOut_32 : decode cX10_shutOut 32 = .ok (.aload_n 0, 1) := by decide +kernel
theorem dX10_shutOut_33 : decode cX10_shutOut 33 = .ok (.getfield 26, 3) := by decide +kernel
theorem dX10_shutOut_36 : decode cX10_shutOut 36 = .ok (.getfield 56, 3) := by decide +kernel
theorem dX10_shutOut_39 : decode cX10_shutOut 39 = .ok (.iload 4, 2) := by decide +kernel
theorem dX10_shutOut_41 : decode cX10_shutOut 41 = .ok (.baload, 1) := by decide +kernel
theorem dX10_shutOut_42 : decode cX10_shutOut 42 = .ok (.ifCond .ne 24, 3) := by decide +kernel
theorem dX10_shutOut_45 : decode cX10_shutOut 45 = .ok (.iload_n 3, 1) := by decide +kernel
theorem dX10_shutOut_46 : decode cX10_shutOut 46 = .ok (.iload_n 2, 1) := by decide +kernel
theorem dX10_shutOut_47 : decode cX10_shutOut 47 = .ok (.iconst 1, 1) := by decide +kernel
theorem dX10_shutOut_48 : decode cX10_shutOut 48 = .ok (.iload 4, 2) := by decide +kernel
theorem dX10_shutOut_50 : decode cX10_shutOut 50 = .ok (.ishl, 1) := by decide +kernel
theorem dX10_shutOut_51 : decode cX10_shutOut 51 = .ok (.iconst (-1), 1) := by decide +kernel
theorem dX10_shutOut_52 : decode cX10_shutOut 52 = .ok (.ixor, 1) := by decide +kernel
theorem dX10_shutOut_53 : decode cX10_shutOut 53 = .ok (.iand, 1) := by decide +kernel
theorem dX10_shutOut_54 : decode cX10_shutOut 54 = .ok (.aload_n 0, 1) := by decide +kernel
theorem dX10_shutOut_55 : decode cX10_shutOut 55 = .ok (.iload 4, 2) := by decide +kernel
theorem dX10_shutOut_57 : decode cX10_shutOut 57 = .ok (.iload_n 1, 1) := by decide +kernel
theorem dX10_shutOut_58 : decode cX10_shutOut 58 = .ok (.invokevirtual 180, 3) := by decide +kernel
theorem dX10_shutOut_61 : decode cX10_shutOut 61 = .ok (.iconst (-1), 1) := by decide +kernel
theorem dX10_shutOut_62 : decode cX10_shutOut 62 = .ok (.ixor, 1) := by decide +kernel
theorem dX10_shutOut_63 : decode cX10_shutOut 63 = .ok (.iand, 1) := by decide +kernel
theorem dX10_shutOut_64 : decode cX10_shutOut 64 = .ok (.ior, 1) := by decide +kernel
theorem dX10_shutOut_65 : decode cX10_shutOut 65 = .ok (.istore_n 3, 1) := by decide +kernel
theorem dX10_shutOut_66 : decode cX10_shutOut 66 = .ok (.iinc 4 1, 3) := by decide +kernel
theorem dX10_shutOut_69 : decode cX10_shutOut 69 = .ok (.goto (-58), 3) := by decide +kernel
theorem dX10_shutOut_72 : decode cX10_shutOut 72 = .ok (.iload_n 3, 1) := by decide +kernel
theorem dX10_shutOut_73 : decode cX10_shutOut 73 = .ok (.ireturn, 1) := by decide +kernel
set_option maxRecDepth 100000 in
set_option maxHeartbeats 4000000 in
theorem B_X10_shutOut_0 {κ : Nat → List Value → List Value → m2M → Prop} {D : Nat} {Q : Option Value → m2M → Prop} (h : m2_RL κ cX10_shutOut RX10 5 (D + 1) (some .int) Q) {x1 : Int32} {μ : m2M} (k : ∃ Q3 : Option Value → m2M → Prop, m2_MT D yX10_canCome cX10_canCome 4 (some .int) [.ref kW, .int x1] μ Q3 ∧ ∀ (y1 : Int32) (μ2 : m2M), Q3 (some (.int y1)) μ2 → (κ 11 [.ref kW, .int x1, .int y1, .int 0, .int 0] [] μ2)) : κ 0 [.ref kW, .int x1, .null, .null, .null] [] μ := by
  have hB := h.b
  refine m2_aload_n hB dX10_shutOut_0 rfl ?_
  refine m2_iload_n hB dX10_shutOut_1 rfl ?_
  obtain ⟨Q3, hM4, k⟩ := k
  refine m2_invi hB (as := [.int x1]) dX10_shutOut_2 mv_X10_173 rfl sh_kW rfl (Nat.le_of_ble_eq_true rfl) rfl hM4 (fun y1 μ2 hq5 => ?_)
  replace k := k y1 μ2 hq5
  refine m2_istore_n hB (ls' := [.ref kW, .int x1, .int y1, .null, .null]) dX10_shutOut_5 rfl (by decide) rfl ?_
  refine m2_iconst hB dX10_shutOut_6 (v := 0) (by decide) ?_
  refine m2_istore_n hB (ls' := [.ref kW, .int x1, .int y1, .int 0, .null]) dX10_shutOut_7 rfl (by decide) rfl ?_
  refine m2_iconst hB dX10_shutOut_8 (v := 0) (by decide) ?_
  refine m2_istore hB (ls' := [.ref kW, .int x1, .int y1, .int 0, .int 0]) dX10_shutOut_9 (by decide) rfl ?_
  exact k
set_option maxRecDepth 100000 in
set_option maxHeartbeats 4000000 in
theorem B_X10_shutOut_11 {κ : Nat → List Value → List Value → m2M → Prop} {D : Nat} {Q : Option Value → m2M → Prop} (h : m2_RL κ cX10_shutOut RX10 5 (D + 1) (some .int) Q) (hD : 0 ≤ D) {v1 : Int32} {v2 : Int32} {v3 : Int32} {v4 : Int32} {μ : m2M} (k : ((μ.1 kP 8) ≤ v4 → Q (some (.int v3)) μ) ∧ (¬ (μ.1 kP 8) ≤ v4 → ((fX11_hasBit v2 v4) = 1 → (vp_in v4 8) ∧ ((¬ (μ.1 kP_stranger (v4).toNatClampNeg) = 0 → κ 11 [.ref kW, .int v1, .int v2, .int v3, .int (v4 + 1)] [] μ) ∧ ((μ.1 kP_stranger (v4).toNatClampNeg) = 0 → ∃ Q13 : Option Value → m2M → Prop, m2_MT D yX10_canComeBehind cX10_canComeBehind 6 (some .int) [.ref kW, .int v4, .int v1] μ Q13 ∧ ∀ (y11 : Int32) (μ12 : m2M), Q13 (some (.int y11)) μ12 → (κ 11 [.ref kW, .int v1, .int v2, .int (v3 ||| ((v2 &&& (((1 : Int32) <<< (v4 &&& 31)) ^^^ ((-1) : Int32))) &&& (y11 ^^^ ((-1) : Int32)))), .int (v4 + 1)] [] μ12)))) ∧ (¬ (fX11_hasBit v2 v4) = 1 → κ 11 [.ref kW, .int v1, .int v2, .int v3, .int (v4 + 1)] [] μ))) : κ 11 [.ref kW, .int v1, .int v2, .int v3, .int v4] [] μ := by
  have hB := h.b
  refine m2_iload hB dX10_shutOut_11 rfl ?_
  refine m2_aload_n hB dX10_shutOut_13 rfl ?_
  refine m2_getR hB dX10_shutOut_14 fl_X10_26 sh_kW (c1 := kP) rfl ?_
  refine m2_getI hB dX10_shutOut_17 fl_X10_63 sh_kP rfl ?_
  refine m2_icmp_ge hB dX10_shutOut_20 (tgt := 72) (by decide) (fun q4 : (μ.1 kP 8) ≤ v4 => ?_) (fun q4 : ¬ (μ.1 kP 8) ≤ v4 => ?_)
  · replace k := k.1 q4
    refine m2_iload_n hB dX10_shutOut_72 rfl ?_
    exact m2_iret h dX10_shutOut_73 k
  · replace k := k.2 q4
    refine m2_iload_n hB dX10_shutOut_23 rfl ?_
    refine m2_iload hB dX10_shutOut_24 rfl ?_
    refine m2_invNz hB (as := [.int v2, .int v4]) dX10_shutOut_26 mn_X10_176 rfl (Nat.le_of_ble_eq_true rfl) rfl (P_X11_hasBit (by omega) (v2) (v4) _ ) (fun y5 μ6 hq7 => ?_)
    obtain ⟨⟨⟩, hq7⟩ := hq7
    subst μ6
    show κ 29 [.ref kW, .int v1, .int v2, .int v3, .int v4] [.int (if (fX11_hasBit v2 v4) = 1 then 1 else 0 : Int32)] μ
    by_cases q8 : (fX11_hasBit v2 v4) = 1
    · rw [if_pos q8]
      replace k := k.1 q8
      refine m2_if_eq hB dX10_shutOut_29 (tgt := 66) (by decide) (fun q => absurd q (by decide)) (fun _ => ?_)
      refine m2_aload_n hB dX10_shutOut_32 rfl ?_
      refine m2_getR hB dX10_shutOut_33 fl_X10_26 sh_kW (c1 := kP) rfl ?_
      refine m2_getR hB dX10_shutOut_36 fl_X10_56 sh_kP (c1 := kP_stranger) rfl ?_
      refine m2_iload hB dX10_shutOut_39 rfl ?_
      obtain ⟨hi9, k⟩ := k
      refine m2_zald hB dX10_shutOut_41 sh_kP_stranger hi9 ?_
      refine m2_if_ne hB dX10_shutOut_42 (tgt := 66) (by decide) (fun q10 : ¬ (μ.1 kP_stranger (v4).toNatClampNeg) = 0 => ?_) (fun q10 : (μ.1 kP_stranger (v4).toNatClampNeg) = 0 => ?_)
      · replace k := k.1 q10
        refine m2_iinc hB (ls' := [.ref kW, .int v1, .int v2, .int v3, .int (v4 + 1)]) (v := (v4 + 1)) dX10_shutOut_66 rfl (by decide) rfl rfl ?_
        refine m2_goto hB dX10_shutOut_69 (tgt := 11) (by decide) ?_
        exact k
      · replace k := k.2 q10
        refine m2_iload_n hB dX10_shutOut_45 rfl ?_
        refine m2_iload_n hB dX10_shutOut_46 rfl ?_
        refine m2_iconst hB dX10_shutOut_47 (v := 1) (by decide) ?_
        refine m2_iload hB dX10_shutOut_48 rfl ?_
        refine m2_ishl hB dX10_shutOut_50 ?_
        refine m2_iconst hB dX10_shutOut_51 (v := (-1)) (by decide) ?_
        refine m2_ixor hB dX10_shutOut_52 ?_
        refine m2_iand hB dX10_shutOut_53 ?_
        refine m2_aload_n hB dX10_shutOut_54 rfl ?_
        refine m2_iload hB dX10_shutOut_55 rfl ?_
        refine m2_iload_n hB dX10_shutOut_57 rfl ?_
        obtain ⟨Q13, hM14, k⟩ := k
        refine m2_invi hB (as := [.int v4, .int v1]) dX10_shutOut_58 mv_X10_180 rfl sh_kW rfl (Nat.le_of_ble_eq_true rfl) rfl hM14 (fun y11 μ12 hq15 => ?_)
        replace k := k y11 μ12 hq15
        refine m2_iconst hB dX10_shutOut_61 (v := (-1)) (by decide) ?_
        refine m2_ixor hB dX10_shutOut_62 ?_
        refine m2_iand hB dX10_shutOut_63 ?_
        refine m2_ior hB dX10_shutOut_64 ?_
        refine m2_istore_n hB (ls' := [.ref kW, .int v1, .int v2, .int (v3 ||| ((v2 &&& (((1 : Int32) <<< (v4 &&& 31)) ^^^ ((-1) : Int32))) &&& (y11 ^^^ ((-1) : Int32)))), .int v4]) dX10_shutOut_65 rfl (by decide) rfl ?_
        refine m2_iinc hB (ls' := [.ref kW, .int v1, .int v2, .int (v3 ||| ((v2 &&& (((1 : Int32) <<< (v4 &&& 31)) ^^^ ((-1) : Int32))) &&& (y11 ^^^ ((-1) : Int32)))), .int (v4 + 1)]) (v := (v4 + 1)) dX10_shutOut_66 rfl (by decide) rfl rfl ?_
        refine m2_goto hB dX10_shutOut_69 (tgt := 11) (by decide) ?_
        exact k
    · rw [if_neg q8]
      replace k := k.2 q8
      refine m2_if_eq hB dX10_shutOut_29 (tgt := 66) (by decide) (fun _ => ?_) (fun q => absurd q (by decide))
      refine m2_iinc hB (ls' := [.ref kW, .int v1, .int v2, .int v3, .int (v4 + 1)]) (v := (v4 + 1)) dX10_shutOut_66 rfl (by decide) rfl rfl ?_
      refine m2_goto hB dX10_shutOut_69 (tgt := 11) (by decide) ?_
      exact k
theorem dX10_canComeBehind_0 : decode cX10_canComeBehind 0 = .ok (.aload_n 0, 1) := by decide +kernel
theorem dX10_canComeBehind_1 : decode cX10_canComeBehind 1 = .ok (.getfield 30, 3) := by decide +kernel
theorem dX10_canComeBehind_4 : decode cX10_canComeBehind 4 = .ok (.iconst 0, 1) := by decide +kernel
theorem dX10_canComeBehind_5 : decode cX10_canComeBehind 5 = .ok (.invokevirtual 107, 3) := by decide +kernel
theorem dX10_canComeBehind_8 : decode cX10_canComeBehind 8 = .ok (.aload_n 0, 1) := by decide +kernel
theorem dX10_canComeBehind_9 : decode cX10_canComeBehind 9 = .ok (.getfield 30, 3) := by decide +kernel
theorem dX10_canComeBehind_12 : decode cX10_canComeBehind 12 = .ok (.aload_n 0, 1) := by decide +kernel
theorem dX10_canComeBehind_13 : decode cX10_canComeBehind 13 = .ok (.getfield 26, 3) := by decide +kernel
theorem dX10_canComeBehind_16 : decode cX10_canComeBehind 16 = .ok (.getfield 38, 3) := by decide +kernel
theorem dX10_canComeBehind_19 : decode cX10_canComeBehind 19 = .ok (.iload_n 1, 1) := by decide +kernel
theorem dX10_canComeBehind_20 : decode cX10_canComeBehind 20 = .ok (.iaload, 1) := by decide +kernel
theorem dX10_canComeBehind_21 : decode cX10_canComeBehind 21 = .ok (.iload_n 2, 1) := by decide +kernel
theorem dX10_canComeBehind_22 : decode cX10_canComeBehind 22 = .ok (.invokevirtual 96, 3) := by decide +kernel
theorem dX10_canComeBehind_25 : decode cX10_canComeBehind 25 = .ok (.istore_n 3, 1) := by decide +kernel
theorem dX10_canComeBehind_26 : decode cX10_canComeBehind 26 = .ok (.iconst 0, 1) := by decide +kernel
theorem dX10_canComeBehind_27 : decode cX10_canComeBehind 27 = .ok (.istore 4, 2) := by decide +kernel
theorem dX10_canComeBehind_29 : decode cX10_canComeBehind 29 = .ok (.iload 4, 2) := by decide +kernel
theorem dX10_canComeBehind_31 : decode cX10_canComeBehind 31 = .ok (.iload_n 3, 1) := by decide +kernel
theorem dX10_canComeBehind_32 : decode cX10_canComeBehind 32 = .ok (.if_icmp .ge 31, 3) := by decide +kernel
theorem dX10_canComeBehind_35 : decode cX10_canComeBehind 35 = .ok (.aload_n 0, 1) := by decide +kernel
theorem dX10_canComeBehind_36 : decode cX10_canComeBehind 36 = .ok (.getfield 22, 3) := by decide +kernel
theorem dX10_canComeBehind_39 : decode cX10_canComeBehind 39 = .ok (.getfield 60, 3) := by decide +kernel
theorem dX10_canComeBehind_42 : decode cX10_canComeBehind 42 = .ok (.aload_n 0, 1) := by decide +kernel
theorem dX10_canComeBehind_43 : decode cX10_canComeBehind 43 = .ok (.getfield 30, 3) := by decide +kernel
theorem dX10_canComeBehind_46 : decode cX10_canComeBehind 46 = .ok (.getfield 101, 3) := by decide +kernel
theorem dX10_canComeBehind_49 : decode cX10_canComeBehind 49 = .ok (.iload 4, 2) := by decide +kernel
theorem dX10_canComeBehind_51 : decode cX10_canComeBehind 51 = .ok (.iaload, 1) := by decide +kernel
theorem dX10_canComeBehind_52 : decode cX10_canComeBehind 52 = .ok (.dup2, 1) := by decide +kernel
theorem dX10_canComeBehind_53 : decode cX10_canComeBehind 53 = .ok (.iaload, 1) := by decide +kernel
theorem dX10_canComeBehind_54 : decode cX10_canComeBehind 54 = .ok (.iconst 1, 1) := by decide +kernel
theorem dX10_canComeBehind_55 : decode cX10_canComeBehind 55 = .ok (.isub, 1) := by decide +kernel
theorem dX10_canComeBehind_56 : decode cX10_canComeBehind 56 = .ok (.iastore, 1) := by decide +kernel
theorem dX10_canComeBehind_57 : decode cX10_canComeBehind 57 = .ok (.iinc 4 1, 3) := by decide +kernel
theorem dX10_canComeBehind_60 : decode cX10_canComeBehind 60 = .ok (.goto (-31), 3) := by decide +kernel
theorem dX10_canComeBehind_63 : decode cX10_canComeBehind 63 = .ok (.aload_n 0, 1) := by decide +kernel
theorem dX10_canComeBehind_64 : decode cX10_canComeBehind 64 = .ok (.iload_n 2, 1) := by decide +kernel
theorem dX10_canComeBehind_65 : decode cX10_canComeBehind 65 = .ok (.invokevirtual 173, 3) := by decide +kernel
theorem dX10_canComeBehind_68 : decode cX10_canComeBehind 68 = .ok (.istore 4, 2) := by decide +kernel
theorem dX10_canComeBehind_70 : decode cX10_canComeBehind 70 = .ok (.iconst 0, 1) := by decide +kernel
theorem dX10_canComeBehind_71 : decode cX10_canComeBehind 71 = .ok (.istore 5, 2) := by decide +kernel
theorem dX10_canComeBehind_73 : decode cX10_canComeBehind 73 = .ok (.iload 5, 2) := by decide +kernel
theorem dX10_canComeBehind_75 : decode cX10_canComeBehind 75 = .ok (.iload_n 3, 1) := by decide +kernel
theorem dX10_canComeBehind_76 : decode cX10_canComeBehind 76 = .ok (.if_icmp .ge 31, 3) := by decide +kernel
theorem dX10_canComeBehind_79 : decode cX10_canComeBehind 79 = .ok (.aload_n 0, 1) := by decide +kernel
theorem dX10_canComeBehind_80 : decode cX10_canComeBehind 80 = .ok (.getfield 22, 3) := by decide +kernel
theorem dX10_canComeBehind_83 : decode cX10_canComeBehind 83 = .ok (.getfield 60, 3) := by decide +kernel
theorem dX10_canComeBehind_86 : decode cX10_canComeBehind 86 = .ok (.aload_n 0, 1) := by decide +kernel
theorem dX10_canComeBehind_87 : decode cX10_canComeBehind 87 = .ok (.getfield 30, 3) := by decide +kernel
theorem dX10_canComeBehind_90 : decode cX10_canComeBehind 90 = .ok (.getfield 101, 3) := by decide +kernel
theorem dX10_canComeBehind_93 : decode cX10_canComeBehind 93 = .ok (.iload 5, 2) := by decide +kernel
theorem dX10_canComeBehind_95 : decode cX10_canComeBehind 95 = .ok (.iaload, 1) := by decide +kernel
theorem dX10_canComeBehind_96 : decode cX10_canComeBehind 96 = .ok (.dup2, 1) := by decide +kernel
theorem dX10_canComeBehind_97 : decode cX10_canComeBehind 97 = .ok (.iaload, 1) := by decide +kernel
theorem dX10_canComeBehind_98 : decode cX10_canComeBehind 98 = .ok (.iconst 1, 1) := by decide +kernel
theorem dX10_canComeBehind_99 : decode cX10_canComeBehind 99 = .ok (.iadd, 1) := by decide +kernel
theorem dX10_canComeBehind_100 : decode cX10_canComeBehind 100 = .ok (.iastore, 1) := by decide +kernel
theorem dX10_canComeBehind_101 : decode cX10_canComeBehind 101 = .ok (.iinc 5 1, 3) := by decide +kernel
theorem dX10_canComeBehind_104 : decode cX10_canComeBehind 104 = .ok (.goto (-31), 3) := by decide +kernel
theorem dX10_canComeBehind_107 : decode cX10_canComeBehind 107 = .ok (.iload 4, 2) := by decide +kernel
theorem dX10_canComeBehind_109 : decode cX10_canComeBehind 109 = .ok (.ireturn, 1) := by decide +kernel
set_option maxRecDepth 100000 in
set_option maxHeartbeats 4000000 in
theorem B_X10_canComeBehind_0 {κ : Nat → List Value → List Value → m2M → Prop} {D : Nat} {Q : Option Value → m2M → Prop} (h : m2_RL κ cX10_canComeBehind RX10 6 (D + 1) (some .int) Q) {x1 : Int32} {x2 : Int32} {μ : m2M} (k : ∃ Q3 : Option Value → m2M → Prop, m2_MT D yX8_useAbove cX8_useAbove 3 none [.ref kR, .int 0] μ Q3 ∧ ∀ (μ2 : m2M), Q3 none μ2 → ((vp_in x1 8) ∧ (∃ Q9 : Option Value → m2M → Prop, m2_MT D yX8_find cX8_find 3 (some .int) [.ref kR, .int (μ2.1 kP_where (x1).toNatClampNeg), .int x2] μ2 Q9 ∧ ∀ (y7 : Int32) (μ8 : m2M), Q9 (some (.int y7)) μ8 → (κ 29 [.ref kW, .int x1, .int x2, .int y7, .int 0, .null] [] μ8)))) : κ 0 [.ref kW, .int x1, .int x2, .null, .null, .null] [] μ := by
  have hB := h.b
  refine m2_aload_n hB dX10_canComeBehind_0 rfl ?_
  refine m2_getR hB dX10_canComeBehind_1 fl_X10_30 sh_kW (c1 := kR) rfl ?_
  refine m2_iconst hB dX10_canComeBehind_4 (v := 0) (by decide) ?_
  obtain ⟨Q3, hM4, k⟩ := k
  refine m2_invv hB (as := [.int 0]) dX10_canComeBehind_5 mv_X10_107 rfl sh_kR rfl (Nat.le_of_ble_eq_true rfl) rfl hM4 (fun μ2 hq5 => ?_)
  replace k := k μ2 hq5
  refine m2_aload_n hB dX10_canComeBehind_8 rfl ?_
  refine m2_getR hB dX10_canComeBehind_9 fl_X10_30 sh_kW (c1 := kR) rfl ?_
  refine m2_aload_n hB dX10_canComeBehind_12 rfl ?_
  refine m2_getR hB dX10_canComeBehind_13 fl_X10_26 sh_kW (c1 := kP) rfl ?_
  refine m2_getR hB dX10_canComeBehind_16 fl_X10_38 sh_kP (c1 := kP_where) rfl ?_
  refine m2_iload_n hB dX10_canComeBehind_19 rfl ?_
  obtain ⟨hi6, k⟩ := k
  refine m2_iald hB dX10_canComeBehind_20 sh_kP_where hi6 ?_
  refine m2_iload_n hB dX10_canComeBehind_21 rfl ?_
  obtain ⟨Q9, hM10, k⟩ := k
  refine m2_invi hB (as := [.int (μ2.1 kP_where (x1).toNatClampNeg), .int x2]) dX10_canComeBehind_22 mv_X10_96 rfl sh_kR rfl (Nat.le_of_ble_eq_true rfl) rfl hM10 (fun y7 μ8 hq11 => ?_)
  replace k := k y7 μ8 hq11
  refine m2_istore_n hB (ls' := [.ref kW, .int x1, .int x2, .int y7, .null, .null]) dX10_canComeBehind_25 rfl (by decide) rfl ?_
  refine m2_iconst hB dX10_canComeBehind_26 (v := 0) (by decide) ?_
  refine m2_istore hB (ls' := [.ref kW, .int x1, .int x2, .int y7, .int 0, .null]) dX10_canComeBehind_27 (by decide) rfl ?_
  exact k
set_option maxRecDepth 100000 in
set_option maxHeartbeats 4000000 in
theorem B_X10_canComeBehind_29 {κ : Nat → List Value → List Value → m2M → Prop} {D : Nat} {Q : Option Value → m2M → Prop} (h : m2_RL κ cX10_canComeBehind RX10 6 (D + 1) (some .int) Q) {v1 : Int32} {v2 : Int32} {v3 : Int32} {v4 : Int32} {μ : m2M} (k : (v3 ≤ v4 → ∃ Q5 : Option Value → m2M → Prop, m2_MT D yX10_canCome cX10_canCome 4 (some .int) [.ref kW, .int v2] μ Q5 ∧ ∀ (y3 : Int32) (μ4 : m2M), Q5 (some (.int y3)) μ4 → (κ 73 [.ref kW, .int v1, .int v2, .int v3, .int y3, .int 0] [] μ4)) ∧ (¬ v3 ≤ v4 → (vp_in v4 12) ∧ ((vp_in (μ.1 kR_found (v4).toNatClampNeg) 20) ∧ (κ 29 [.ref kW, .int v1, .int v2, .int v3, .int (v4 + 1), .null] [] (m2_si μ kD_left ((μ.1 kR_found (v4).toNatClampNeg)).toNatClampNeg ((μ.1 kD_left ((μ.1 kR_found (v4).toNatClampNeg)).toNatClampNeg) - 1)))))) : κ 29 [.ref kW, .int v1, .int v2, .int v3, .int v4, .null] [] μ := by
  have hB := h.b
  refine m2_iload hB dX10_canComeBehind_29 rfl ?_
  refine m2_iload_n hB dX10_canComeBehind_31 rfl ?_
  refine m2_icmp_ge hB dX10_canComeBehind_32 (tgt := 63) (by decide) (fun q2 : v3 ≤ v4 => ?_) (fun q2 : ¬ v3 ≤ v4 => ?_)
  · replace k := k.1 q2
    refine m2_aload_n hB dX10_canComeBehind_63 rfl ?_
    refine m2_iload_n hB dX10_canComeBehind_64 rfl ?_
    obtain ⟨Q5, hM6, k⟩ := k
    refine m2_invi hB (as := [.int v2]) dX10_canComeBehind_65 mv_X10_173 rfl sh_kW rfl (Nat.le_of_ble_eq_true rfl) rfl hM6 (fun y3 μ4 hq7 => ?_)
    replace k := k y3 μ4 hq7
    refine m2_istore hB (ls' := [.ref kW, .int v1, .int v2, .int v3, .int y3, .null]) dX10_canComeBehind_68 (by decide) rfl ?_
    refine m2_iconst hB dX10_canComeBehind_70 (v := 0) (by decide) ?_
    refine m2_istore hB (ls' := [.ref kW, .int v1, .int v2, .int v3, .int y3, .int 0]) dX10_canComeBehind_71 (by decide) rfl ?_
    exact k
  · replace k := k.2 q2
    refine m2_aload_n hB dX10_canComeBehind_35 rfl ?_
    refine m2_getR hB dX10_canComeBehind_36 fl_X10_22 sh_kW (c1 := kD) rfl ?_
    refine m2_getR hB dX10_canComeBehind_39 fl_X10_60 sh_kD (c1 := kD_left) rfl ?_
    refine m2_aload_n hB dX10_canComeBehind_42 rfl ?_
    refine m2_getR hB dX10_canComeBehind_43 fl_X10_30 sh_kW (c1 := kR) rfl ?_
    refine m2_getR hB dX10_canComeBehind_46 fl_X10_101 sh_kR (c1 := kR_found) rfl ?_
    refine m2_iload hB dX10_canComeBehind_49 rfl ?_
    obtain ⟨hi8, k⟩ := k
    refine m2_iald hB dX10_canComeBehind_51 sh_kR_found hi8 ?_
    refine m2_dup2 hB dX10_canComeBehind_52 rfl rfl ?_
    obtain ⟨hi9, k⟩ := k
    refine m2_iald hB dX10_canComeBehind_53 sh_kD_left hi9 ?_
    refine m2_iconst hB dX10_canComeBehind_54 (v := 1) (by decide) ?_
    refine m2_isub hB dX10_canComeBehind_55 ?_
    have hi10 := hi9
    refine m2_iast hB dX10_canComeBehind_56 sh_kD_left hi10 ?_
    refine m2_iinc hB (ls' := [.ref kW, .int v1, .int v2, .int v3, .int (v4 + 1), .null]) (v := (v4 + 1)) dX10_canComeBehind_57 rfl (by decide) rfl rfl ?_
    refine m2_goto hB dX10_canComeBehind_60 (tgt := 29) (by decide) ?_
    exact k
set_option maxRecDepth 100000 in
set_option maxHeartbeats 4000000 in
theorem B_X10_canComeBehind_73 {κ : Nat → List Value → List Value → m2M → Prop} {D : Nat} {Q : Option Value → m2M → Prop} (h : m2_RL κ cX10_canComeBehind RX10 6 D (some .int) Q) {v1 : Int32} {v2 : Int32} {v3 : Int32} {v4 : Int32} {v5 : Int32} {μ : m2M} (k : (v3 ≤ v5 → Q (some (.int v4)) μ) ∧ (¬ v3 ≤ v5 → (vp_in v5 12) ∧ ((vp_in (μ.1 kR_found (v5).toNatClampNeg) 20) ∧ (κ 73 [.ref kW, .int v1, .int v2, .int v3, .int v4, .int (v5 + 1)] [] (m2_si μ kD_left ((μ.1 kR_found (v5).toNatClampNeg)).toNatClampNeg ((μ.1 kD_left ((μ.1 kR_found (v5).toNatClampNeg)).toNatClampNeg) + 1)))))) : κ 73 [.ref kW, .int v1, .int v2, .int v3, .int v4, .int v5] [] μ := by
  have hB := h.b
  refine m2_iload hB dX10_canComeBehind_73 rfl ?_
  refine m2_iload_n hB dX10_canComeBehind_75 rfl ?_
  refine m2_icmp_ge hB dX10_canComeBehind_76 (tgt := 107) (by decide) (fun q2 : v3 ≤ v5 => ?_) (fun q2 : ¬ v3 ≤ v5 => ?_)
  · replace k := k.1 q2
    refine m2_iload hB dX10_canComeBehind_107 rfl ?_
    exact m2_iret h dX10_canComeBehind_109 k
  · replace k := k.2 q2
    refine m2_aload_n hB dX10_canComeBehind_79 rfl ?_
    refine m2_getR hB dX10_canComeBehind_80 fl_X10_22 sh_kW (c1 := kD) rfl ?_
    refine m2_getR hB dX10_canComeBehind_83 fl_X10_60 sh_kD (c1 := kD_left) rfl ?_
    refine m2_aload_n hB dX10_canComeBehind_86 rfl ?_
    refine m2_getR hB dX10_canComeBehind_87 fl_X10_30 sh_kW (c1 := kR) rfl ?_
    refine m2_getR hB dX10_canComeBehind_90 fl_X10_101 sh_kR (c1 := kR_found) rfl ?_
    refine m2_iload hB dX10_canComeBehind_93 rfl ?_
    obtain ⟨hi3, k⟩ := k
    refine m2_iald hB dX10_canComeBehind_95 sh_kR_found hi3 ?_
    refine m2_dup2 hB dX10_canComeBehind_96 rfl rfl ?_
    obtain ⟨hi4, k⟩ := k
    refine m2_iald hB dX10_canComeBehind_97 sh_kD_left hi4 ?_
    refine m2_iconst hB dX10_canComeBehind_98 (v := 1) (by decide) ?_
    refine m2_iadd hB dX10_canComeBehind_99 ?_
    have hi5 := hi4
    refine m2_iast hB dX10_canComeBehind_100 sh_kD_left hi5 ?_
    refine m2_iinc hB (ls' := [.ref kW, .int v1, .int v2, .int v3, .int v4, .int (v5 + 1)]) (v := (v5 + 1)) dX10_canComeBehind_101 rfl (by decide) rfl rfl ?_
    refine m2_goto hB dX10_canComeBehind_104 (tgt := 73) (by decide) ?_
    exact k
theorem dX10_canCome_0 : decode cX10_canCome 0 = .ok (.aload_n 0, 1) := by decide +kernel
theorem dX10_canCome_1 : decode cX10_canCome 1 = .ok (.getfield 30, 3) := by decide +kernel
theorem dX10_canCome_4 : decode cX10_canCome 4 = .ok (.iconst 0, 1) := by decide +kernel
theorem dX10_canCome_5 : decode cX10_canCome 5 = .ok (.invokevirtual 107, 3) := by decide +kernel
theorem dX10_canCome_8 : decode cX10_canCome 8 = .ok (.aload_n 0, 1) := by decide +kernel
theorem dX10_canCome_9 : decode cX10_canCome 9 = .ok (.getfield 30, 3) := by decide +kernel
theorem dX10_canCome_12 : decode cX10_canCome 12 = .ok (.iload_n 1, 1) := by decide +kernel
theorem dX10_canCome_13 : decode cX10_canCome 13 = .ok (.invokevirtual 110, 3) := by decide +kernel
theorem dX10_canCome_16 : decode cX10_canCome 16 = .ok (.iconst 0, 1) := by decide +kernel
theorem dX10_canCome_17 : decode cX10_canCome 17 = .ok (.istore_n 2, 1) := by decide +kernel
theorem dX10_canCome_18 : decode cX10_canCome 18 = .ok (.iconst 0, 1) := by decide +kernel
theorem dX10_canCome_19 : decode cX10_canCome 19 = .ok (.istore_n 3, 1) := by decide +kernel
theorem dX10_canCome_20 : decode cX10_canCome 20 = .ok (.iload_n 3, 1) := by decide +kernel
theorem dX10_canCome_21 : decode cX10_canCome 21 = .ok (.aload_n 0, 1) := by decide +kernel
theorem dX10_canCome_22 : decode cX10_canCome 22 = .ok (.getfield 26, 3) := by decide +kernel
theorem dX10_canCome_25 : decode cX10_canCome 25 = .ok (.getfield 63, 3) := by decide +kernel
theorem dX10_canCome_28 : decode cX10_canCome 28 = .ok (.if_icmp .ge 44, 3) := by decide +kernel
theorem dX10_canCome_31 : decode cX10_canCome 31 = .ok (.iload_n 2, 1) := by decide +kernel
theorem dX10_canCome_32 : decode cX10_canCome 32 = .ok (.aload_n 0, 1) := by decide +kernel
theorem dX10_canCome_33 : decode cX10_canCome 33 = .ok (.getfield 30, 3) := by decide +kernel
theorem dX10_canCome_36 : decode cX10_canCome 36 = .ok (.getfield 113, 3) := by decide +kernel
theorem dX10_canCome_39 : decode cX10_canCome 39 = .ok (.aload_n 0, 1) := by decide +kernel
theorem dX10_canCome_40 : decode cX10_canCome 40 = .ok (.getfield 26, 3) := by decide +kernel
theorem dX10_canCome_43 : decode cX10_canCome 43 = .ok (.getfield 38, 3) := by decide +kernel
theorem dX10_canCome_46 : decode cX10_canCome 46 = .ok (.iload_n 3, 1) := by decide +kernel
theorem dX10_canCome_47 : decode cX10_canCome 47 = .ok (.iaload, 1) := by decide +kernel
theorem dX10_canCome_48 : decode cX10_canCome 48 = .ok (.iaload, 1) := by decide +kernel
theorem dX10_canCome_49 : decode cX10_canCome 49 = .ok (.ldc 125, 2) := by decide +kernel
theorem dX10_canCome_51 : decode cX10_canCome 51 = .ok (.if_icmp .ge 7, 3) := by decide +kernel
theorem dX10_canCome_54 : decode cX10_canCome 54 = .ok (.iconst 1, 1) := by decide +kernel
theorem dX10_canCome_55 : decode cX10_canCome 55 = .ok (.goto 4, 3) := by decide +kernel
theorem dX10_canCome_58 : decode cX10_canCome 58 = .ok (.iconst 0, 1) := by decide +kernel
theorem dX10_canCome_59 : decode cX10_canCome 59 = .ok (.invokestatic 162, 3) := by decide +kernel
theorem dX10_canCome_62 : decode cX10_canCome 62 = .ok (.iload_n 3, 1) := by decide +kernel
theorem dX10_canCome_63 : decode cX10_canCome 63 = .ok (.ishl, 1) := by decide +kernel
theorem dX10_canCome_64 : decode cX10_canCome 64 = .ok (.ior, 1) := by decide +kernel
theorem dX10_canCome_65 : decode cX10_canCome 65 = .ok (.istore_n 2, 1) := by decide +kernel
theorem dX10_canCome_66 : decode cX10_canCome 66 = .ok (.iinc 3 1, 3) := by decide +kernel
theorem dX10_canCome_69 : decode cX10_canCome 69 = .ok (.goto (-49), 3) := by decide +kernel
theorem dX10_canCome_72 : decode cX10_canCome 72 = .ok (.iload_n 2, 1) := by decide +kernel
theorem dX10_canCome_73 : decode cX10_canCome 73 = .ok (.ireturn, 1) := by decide +kernel
set_option maxRecDepth 100000 in
set_option maxHeartbeats 4000000 in
theorem B_X10_canCome_0 {κ : Nat → List Value → List Value → m2M → Prop} {D : Nat} {Q : Option Value → m2M → Prop} (h : m2_RL κ cX10_canCome RX10 4 (D + 1) (some .int) Q) {x1 : Int32} {μ : m2M} (k : ∃ Q3 : Option Value → m2M → Prop, m2_MT D yX8_useAbove cX8_useAbove 3 none [.ref kR, .int 0] μ Q3 ∧ ∀ (μ2 : m2M), Q3 none μ2 → (∃ Q8 : Option Value → m2M → Prop, m2_MT D yX8_measure cX8_measure 7 none [.ref kR, .int x1] μ2 Q8 ∧ ∀ (μ7 : m2M), Q8 none μ7 → (κ 20 [.ref kW, .int x1, .int 0, .int 0] [] μ7))) : κ 0 [.ref kW, .int x1, .null, .null] [] μ := by
  have hB := h.b
  refine m2_aload_n hB dX10_canCome_0 rfl ?_
  refine m2_getR hB dX10_canCome_1 fl_X10_30 sh_kW (c1 := kR) rfl ?_
  refine m2_iconst hB dX10_canCome_4 (v := 0) (by decide) ?_
  obtain ⟨Q3, hM4, k⟩ := k
  refine m2_invv hB (as := [.int 0]) dX10_canCome_5 mv_X10_107 rfl sh_kR rfl (Nat.le_of_ble_eq_true rfl) rfl hM4 (fun μ2 hq5 => ?_)
  replace k := k μ2 hq5
  refine m2_aload_n hB dX10_canCome_8 rfl ?_
  refine m2_getR hB dX10_canCome_9 fl_X10_30 sh_kW (c1 := kR) rfl ?_
  refine m2_iload_n hB dX10_canCome_12 rfl ?_
  obtain ⟨Q8, hM9, k⟩ := k
  refine m2_invv hB (as := [.int x1]) dX10_canCome_13 mv_X10_110 rfl sh_kR rfl (Nat.le_of_ble_eq_true rfl) rfl hM9 (fun μ7 hq10 => ?_)
  replace k := k μ7 hq10
  refine m2_iconst hB dX10_canCome_16 (v := 0) (by decide) ?_
  refine m2_istore_n hB (ls' := [.ref kW, .int x1, .int 0, .null]) dX10_canCome_17 rfl (by decide) rfl ?_
  refine m2_iconst hB dX10_canCome_18 (v := 0) (by decide) ?_
  refine m2_istore_n hB (ls' := [.ref kW, .int x1, .int 0, .int 0]) dX10_canCome_19 rfl (by decide) rfl ?_
  exact k
set_option maxRecDepth 100000 in
set_option maxHeartbeats 4000000 in
theorem B_X10_canCome_20 {κ : Nat → List Value → List Value → m2M → Prop} {D : Nat} {Q : Option Value → m2M → Prop} (h : m2_RL κ cX10_canCome RX10 4 (D + 1) (some .int) Q) (hD : 0 ≤ D) {v1 : Int32} {v2 : Int32} {v3 : Int32} {μ : m2M} (k : ((μ.1 kP 8) ≤ v3 → Q (some (.int v2)) μ) ∧ (¬ (μ.1 kP 8) ≤ v3 → (vp_in v3 8) ∧ ((vp_in (μ.1 kP_where (v3).toNatClampNeg) 12) ∧ (κ 20 [.ref kW, .int v1, .int (v2 ||| ((if 268435456 ≤ (μ.1 kR_dist ((μ.1 kP_where (v3).toNatClampNeg)).toNatClampNeg) then 0 else 1 : Int32) <<< (v3 &&& 31))), .int (v3 + 1)] [] μ)))) : κ 20 [.ref kW, .int v1, .int v2, .int v3] [] μ := by
  have hB := h.b
  refine m2_iload_n hB dX10_canCome_20 rfl ?_
  refine m2_aload_n hB dX10_canCome_21 rfl ?_
  refine m2_getR hB dX10_canCome_22 fl_X10_26 sh_kW (c1 := kP) rfl ?_
  refine m2_getI hB dX10_canCome_25 fl_X10_63 sh_kP rfl ?_
  refine m2_icmp_ge hB dX10_canCome_28 (tgt := 72) (by decide) (fun q2 : (μ.1 kP 8) ≤ v3 => ?_) (fun q2 : ¬ (μ.1 kP 8) ≤ v3 => ?_)
  · replace k := k.1 q2
    refine m2_iload_n hB dX10_canCome_72 rfl ?_
    exact m2_iret h dX10_canCome_73 k
  · replace k := k.2 q2
    refine m2_iload_n hB dX10_canCome_31 rfl ?_
    refine m2_aload_n hB dX10_canCome_32 rfl ?_
    refine m2_getR hB dX10_canCome_33 fl_X10_30 sh_kW (c1 := kR) rfl ?_
    refine m2_getR hB dX10_canCome_36 fl_X10_113 sh_kR (c1 := kR_dist) rfl ?_
    refine m2_aload_n hB dX10_canCome_39 rfl ?_
    refine m2_getR hB dX10_canCome_40 fl_X10_26 sh_kW (c1 := kP) rfl ?_
    refine m2_getR hB dX10_canCome_43 fl_X10_38 sh_kP (c1 := kP_where) rfl ?_
    refine m2_iload_n hB dX10_canCome_46 rfl ?_
    obtain ⟨hi3, k⟩ := k
    refine m2_iald hB dX10_canCome_47 sh_kP_where hi3 ?_
    obtain ⟨hi4, k⟩ := k
    refine m2_iald hB dX10_canCome_48 sh_kR_dist hi4 ?_
    refine m2_ldc hB kc_X10_125 dX10_canCome_49 ?_
    have G6 : κ 59 [.ref kW, .int v1, .int v2, .int v3] [.int (if 268435456 ≤ (μ.1 kR_dist ((μ.1 kP_where (v3).toNatClampNeg)).toNatClampNeg) then 0 else 1 : Int32), .int v2] μ := by
      refine m2_invNi hB (as := [.int (if 268435456 ≤ (μ.1 kR_dist ((μ.1 kP_where (v3).toNatClampNeg)).toNatClampNeg) then 0 else 1 : Int32)]) dX10_canCome_59 mn_X10_162 rfl (Nat.le_of_ble_eq_true rfl) rfl (P_X11_asNumber (by omega) ((if 268435456 ≤ (μ.1 kR_dist ((μ.1 kP_where (v3).toNatClampNeg)).toNatClampNeg) then 0 else 1 : Int32)) _ ) (fun y7 μ8 hq9 => ?_)
      obtain ⟨⟨⟩, hq9⟩ := hq9
      subst μ8
      rw [show (if (if 268435456 ≤ (μ.1 kR_dist ((μ.1 kP_where (v3).toNatClampNeg)).toNatClampNeg) then 0 else 1 : Int32) = 0 then 0 else 1 : Int32) = (if 268435456 ≤ (μ.1 kR_dist ((μ.1 kP_where (v3).toNatClampNeg)).toNatClampNeg) then 0 else 1 : Int32) from by by_cases zz : 268435456 ≤ (μ.1 kR_dist ((μ.1 kP_where (v3).toNatClampNeg)).toNatClampNeg) <;> simp [zz]]
      refine m2_iload_n hB dX10_canCome_62 rfl ?_
      refine m2_ishl hB dX10_canCome_63 ?_
      refine m2_ior hB dX10_canCome_64 ?_
      refine m2_istore_n hB (ls' := [.ref kW, .int v1, .int (v2 ||| ((if 268435456 ≤ (μ.1 kR_dist ((μ.1 kP_where (v3).toNatClampNeg)).toNatClampNeg) then 0 else 1 : Int32) <<< (v3 &&& 31))), .int v3]) dX10_canCome_65 rfl (by decide) rfl ?_
      refine m2_iinc hB (ls' := [.ref kW, .int v1, .int (v2 ||| ((if 268435456 ≤ (μ.1 kR_dist ((μ.1 kP_where (v3).toNatClampNeg)).toNatClampNeg) then 0 else 1 : Int32) <<< (v3 &&& 31))), .int (v3 + 1)]) (v := (v3 + 1)) dX10_canCome_66 rfl (by decide) rfl rfl ?_
      refine m2_goto hB dX10_canCome_69 (tgt := 20) (by decide) ?_
      exact k
    refine m2_icmp_ge hB dX10_canCome_51 (tgt := 58) (by decide) (fun q5 : 268435456 ≤ (μ.1 kR_dist ((μ.1 kP_where (v3).toNatClampNeg)).toNatClampNeg) => ?_) (fun q5 : ¬ 268435456 ≤ (μ.1 kR_dist ((μ.1 kP_where (v3).toNatClampNeg)).toNatClampNeg) => ?_)
    · rw [if_pos q5] at G6
      refine m2_iconst hB dX10_canCome_58 (v := 0) (by decide) ?_
      exact G6
    · rw [if_neg q5] at G6
      refine m2_iconst hB dX10_canCome_54 (v := 1) (by decide) ?_
      refine m2_goto hB dX10_canCome_55 (tgt := 59) (by decide) ?_
      exact G6
