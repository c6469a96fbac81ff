theorem dX11_door_0 : decode cX11_door 0 = .ok (.aload_n 0, 1) := by decide +kernel
theorem dX11_door_1 : decode cX11_door 1 = .ok (.getfield 39, 3) := by decide +kernel
theorem dX11_door_4 : decode cX11_door 4 = .ok (.iload_n 1, 1) := by decide +kernel
theorem dX11_door_5 : decode cX11_door 5 = .ok (.invokevirtual 130, 3) := by decide +kernel
theorem dX11_door_8 : decode cX11_door 8 = .ok (.ifCond .eq 12, 3) := by decide +kernel
theorem dX11_door_11 : decode cX11_door 11 = .ok (.iload_n 2, 1) := by decide +kernel
theorem dX11_door_12 : decode cX11_door 12 = .ok (.ifCond .lt 8, 3) := by decide +kernel
theorem dX11_door_15 : decode cX11_door 15 = .ok (.iload_n 2, 1) := by decide +kernel
theorem dX11_door_16 : decode cX11_door 16 = .ok (.iconst 5, 1) := by decide +kernel
theorem dX11_door_17 : decode cX11_door 17 = .ok (.if_icmp .le 13, 3) := by decide +kernel
theorem dX11_door_20 : decode cX11_door 20 = .ok (.new 134, 3) := by decide +kernel
theorem dX11_door_23 : decode cX11_door 23 = .ok (.dup, 1) := by decide +kernel
theorem dX11_door_24 : decode cX11_door 24 = .ok (.ldc 136, 2) := by decide +kernel
theorem dX11_door_26 : decode cX11_door 26 = .ok (.invokespecial 138, 3) := by decide +kernel
theorem dX11_door_29 : decode cX11_door 29 = .ok (.athrow, 1) := by decide +kernel
theorem dX11_door_30 : decode cX11_door 30 = .ok (.iload_n 2, 1) := by decide +kernel
theorem dX11_door_31 : decode cX11_door 31 = .ok (.tableswitch 86 0 4 #[33, 43, 53, 66, 76], 33) := by decide +kernel
theorem dX11_door_64 : decode cX11_door 64 = .ok (.aload_n 0, 1) := by decide +kernel
theorem dX11_door_65 : decode cX11_door 65 = .ok (.getfield 39, 3) := by decide +kernel
theorem dX11_door_68 : decode cX11_door 68 = .ok (.getfield 141, 3) := by decide +kernel
theorem dX11_door_71 : decode cX11_door 71 = .ok (.iload_n 1, 1) := by decide +kernel
theorem dX11_door_72 : decode cX11_door 72 = .ok (.iaload, 1) := by decide +kernel
theorem dX11_door_73 : decode cX11_door 73 = .ok (.ireturn, 1) := by decide +kernel
theorem dX11_door_74 : decode cX11_door 74 = .ok (.aload_n 0, 1) := by decide +kernel
theorem dX11_door_75 : decode cX11_door 75 = .ok (.getfield 39, 3) := by decide +kernel
theorem dX11_door_78 : decode cX11_door 78 = .ok (.getfield 144, 3) := by decide +kernel
theorem dX11_door_81 : decode cX11_door 81 = .ok (.iload_n 1, 1) := by decide +kernel
theorem dX11_door_82 : decode cX11_door 82 = .ok (.iaload, 1) := by decide +kernel
theorem dX11_door_83 : decode cX11_door 83 = .ok (.ireturn, 1) := by decide +kernel
theorem dX11_door_84 : decode cX11_door 84 = .ok (.aload_n 0, 1) := by decide +kernel
theorem dX11_door_85 : decode cX11_door 85 = .ok (.getfield 39, 3) := by decide +kernel
theorem dX11_door_88 : decode cX11_door 88 = .ok (.getfield 147, 3) := by decide +kernel
theorem dX11_door_91 : decode cX11_door 91 = .ok (.iload_n 1, 1) := by decide +kernel
theorem dX11_door_92 : decode cX11_door 92 = .ok (.baload, 1) := by decide +kernel
theorem dX11_door_93 : decode cX11_door 93 = .ok (.invokestatic 151, 3) := by decide +kernel
theorem dX11_door_96 : decode cX11_door 96 = .ok (.ireturn, 1) := by decide +kernel
theorem dX11_door_97 : decode cX11_door 97 = .ok (.aload_n 0, 1) := by decide +kernel
theorem dX11_door_98 : decode cX11_door 98 = .ok (.getfield 39, 3) := by decide +kernel
theorem dX11_door_101 : decode cX11_door 101 = .ok (.getfield 155, 3) := by decide +kernel
theorem dX11_door_104 : decode cX11_door 104 = .ok (.iload_n 1, 1) := by decide +kernel
theorem dX11_door_105 : decode cX11_door 105 = .ok (.iaload, 1) := by decide +kernel
theorem dX11_door_106 : decode cX11_door 106 = .ok (.ireturn, 1) := by decide +kernel
theorem dX11_door_107 : decode cX11_door 107 = .ok (.aload_n 0, 1) := by decide +kernel
theorem dX11_door_108 : decode cX11_door 108 = .ok (.getfield 39, 3) := by decide +kernel
theorem dX11_door_111 : decode cX11_door 111 = .ok (.getfield 158, 3) := by decide +kernel
theorem dX11_door_114 : decode cX11_door 114 = .ok (.iload_n 1, 1) := by decide +kernel
theorem dX11_door_115 : decode cX11_door 115 = .ok (.iaload, 1) := by decide +kernel
theorem dX11_door_116 : decode cX11_door 116 = .ok (.ireturn, 1) := by decide +kernel
theorem dX11_door_117 : decode cX11_door 117 = .ok (.aload_n 0, 1) := by decide +kernel
theorem dX11_door_118 : decode cX11_door 118 = .ok (.getfield 39, 3) := by decide +kernel
theorem dX11_door_121 : decode cX11_door 121 = .ok (.getfield 161, 3) := by decide +kernel
theorem dX11_door_124 : decode cX11_door 124 = .ok (.iload_n 1, 1) := by decide +kernel
theorem dX11_door_125 : decode cX11_door 125 = .ok (.iaload, 1) := by decide +kernel
theorem dX11_door_126 : decode cX11_door 126 = .ok (.ireturn, 1) := by decide +kernel
set_option maxRecDepth 100000 in
set_option maxHeartbeats 4000000 in
theorem B_X11_door_0 {κ : Nat → List Value → List Value → m2M → Prop} {D : Nat} {Q : Option Value → m2M → Prop} {X : m2M → Prop} (h : m2_RX κ cX11_door RX11 3 (D + 1) (some .int) Q X) (hD6 : 6 ≤ D + 1) (hD : 0 ≤ D) {x1 : Int32} {x2 : Int32} {μ : m2M} (k : ((fX0_has x1 μ) = 1 → (x2 < 0 → X μ) ∧ (¬ x2 < 0 → (x2 ≤ 5 → (x2 = 0 → (vp_in x1 20) ∧ (Q (some (.int (μ.1 kD_a (x1).toNatClampNeg))) μ)) ∧ (¬ x2 = 0 → (x2 = 1 → (vp_in x1 20) ∧ (Q (some (.int (μ.1 kD_b (x1).toNatClampNeg))) μ)) ∧ (¬ x2 = 1 → (x2 = 2 → (vp_in x1 20) ∧ (Q (some (.int (if (μ.1 kD_oneWay (x1).toNatClampNeg) = 0 then 0 else 1 : Int32))) μ)) ∧ (¬ x2 = 2 → (x2 = 3 → (vp_in x1 20) ∧ (Q (some (.int (μ.1 kD_lets (x1).toNatClampNeg))) μ)) ∧ (¬ x2 = 3 → (x2 = 4 → (vp_in x1 20) ∧ (Q (some (.int (μ.1 kD_left (x1).toNatClampNeg))) μ)) ∧ (¬ x2 = 4 → (vp_in x1 20) ∧ (Q (some (.int (μ.1 kD_noon (x1).toNatClampNeg))) μ))))))) ∧ (¬ x2 ≤ 5 → X μ))) ∧ (¬ (fX0_has x1 μ) = 1 → X μ)) : κ 0 [.ref kC, .int x1, .int x2] [] μ := by
  have hB := h.b
  refine m2_aload_n hB dX11_door_0 rfl ?_
  refine m2_getR hB dX11_door_1 fl_X11_39 sh_kC (c1 := kD) rfl ?_
  refine m2_iload_n hB dX11_door_4 rfl ?_
  refine m2_invz hB (as := [.int x1]) dX11_door_5 mv_X11_130 rfl sh_kD rfl (Nat.le_of_ble_eq_true rfl) rfl (P_X0_has (by omega) (x1) _ ) (fun y1 μ2 hq3 => ?_)
  obtain ⟨⟨⟩, hq3⟩ := hq3
  subst μ2
  show κ 8 [.ref kC, .int x1, .int x2] [.int (if (fX0_has x1 μ) = 1 then 1 else 0 : Int32)] μ
  by_cases q4 : (fX0_has x1 μ) = 1
  · rw [if_pos q4]
    replace k := k.1 q4
    refine m2_if_eq hB dX11_door_8 (tgt := 20) (by decide) (fun q => absurd q (by decide)) (fun _ => ?_)
    refine m2_iload_n hB dX11_door_11 rfl ?_
    refine m2_if_lt hB dX11_door_12 (tgt := 20) (by decide) (fun q5 : x2 < 0 => ?_) (fun q5 : ¬ x2 < 0 => ?_)
    · replace k := k.1 q5
      exact m2_xthrow h (w := 2) (i := 136) (by decide) dX11_door_20 dX11_door_23 (Or.inl ⟨rfl, dX11_door_24⟩) dX11_door_26 dX11_door_29 hD6 (by decide) k
    · replace k := k.2 q5
      refine m2_iload_n hB dX11_door_15 rfl ?_
      refine m2_iconst hB dX11_door_16 (v := 5) (by decide) ?_
      refine m2_icmp_le hB dX11_door_17 (tgt := 30) (by decide) (fun q6 : x2 ≤ 5 => ?_) (fun q6 : ¬ x2 ≤ 5 => ?_)
      · replace k := k.1 q6
        refine m2_iload_n hB dX11_door_30 rfl ?_
        by_cases q7 : x2 = 0
        · replace k := k.1 q7
          refine m2_tableIn hB dX11_door_31 (off := 33) (tgt := 64) (by rw [q7]; decide) (by rw [q7]; decide) (by rw [q7]; decide) (by decide) ?_
          refine m2_aload_n hB dX11_door_64 rfl ?_
          refine m2_getR hB dX11_door_65 fl_X11_39 sh_kC (c1 := kD) rfl ?_
          refine m2_getR hB dX11_door_68 fl_X11_141 sh_kD (c1 := kD_a) rfl ?_
          refine m2_iload_n hB dX11_door_71 rfl ?_
          obtain ⟨hi8, k⟩ := k
          refine m2_iald hB dX11_door_72 sh_kD_a hi8 ?_
          exact m2_xiret h dX11_door_73 k
        replace k := k.2 q7
        by_cases q9 : x2 = 1
        · replace k := k.1 q9
          refine m2_tableIn hB dX11_door_31 (off := 43) (tgt := 74) (by rw [q9]; decide) (by rw [q9]; decide) (by rw [q9]; decide) (by decide) ?_
          refine m2_aload_n hB dX11_door_74 rfl ?_
          refine m2_getR hB dX11_door_75 fl_X11_39 sh_kC (c1 := kD) rfl ?_
          refine m2_getR hB dX11_door_78 fl_X11_144 sh_kD (c1 := kD_b) rfl ?_
          refine m2_iload_n hB dX11_door_81 rfl ?_
          obtain ⟨hi10, k⟩ := k
          refine m2_iald hB dX11_door_82 sh_kD_b hi10 ?_
          exact m2_xiret h dX11_door_83 k
        replace k := k.2 q9
        by_cases q11 : x2 = 2
        · replace k := k.1 q11
          refine m2_tableIn hB dX11_door_31 (off := 53) (tgt := 84) (by rw [q11]; decide) (by rw [q11]; decide) (by rw [q11]; decide) (by decide) ?_
          refine m2_aload_n hB dX11_door_84 rfl ?_
          refine m2_getR hB dX11_door_85 fl_X11_39 sh_kC (c1 := kD) rfl ?_
          refine m2_getR hB dX11_door_88 fl_X11_147 sh_kD (c1 := kD_oneWay) rfl ?_
          refine m2_iload_n hB dX11_door_91 rfl ?_
          obtain ⟨hi12, k⟩ := k
          refine m2_zald hB dX11_door_92 sh_kD_oneWay hi12 ?_
          refine m2_invSi hB (as := [.int (μ.1 kD_oneWay (x1).toNatClampNeg)]) dX11_door_93 ms_X11_151 rfl (Nat.le_of_ble_eq_true rfl) rfl (P_X11_asNumber (by omega) ((μ.1 kD_oneWay (x1).toNatClampNeg)) _ ) (fun y13 μ14 hq15 => ?_)
          obtain ⟨⟨⟩, hq15⟩ := hq15
          subst μ14
          exact m2_xiret h dX11_door_96 k
        replace k := k.2 q11
        by_cases q16 : x2 = 3
        · replace k := k.1 q16
          refine m2_tableIn hB dX11_door_31 (off := 66) (tgt := 97) (by rw [q16]; decide) (by rw [q16]; decide) (by rw [q16]; decide) (by decide) ?_
          refine m2_aload_n hB dX11_door_97 rfl ?_
          refine m2_getR hB dX11_door_98 fl_X11_39 sh_kC (c1 := kD) rfl ?_
          refine m2_getR hB dX11_door_101 fl_X11_155 sh_kD (c1 := kD_lets) rfl ?_
          refine m2_iload_n hB dX11_door_104 rfl ?_
          obtain ⟨hi17, k⟩ := k
          refine m2_iald hB dX11_door_105 sh_kD_lets hi17 ?_
          exact m2_xiret h dX11_door_106 k
        replace k := k.2 q16
        by_cases q18 : x2 = 4
        · replace k := k.1 q18
          refine m2_tableIn hB dX11_door_31 (off := 76) (tgt := 107) (by rw [q18]; decide) (by rw [q18]; decide) (by rw [q18]; decide) (by decide) ?_
          refine m2_aload_n hB dX11_door_107 rfl ?_
          refine m2_getR hB dX11_door_108 fl_X11_39 sh_kC (c1 := kD) rfl ?_
          refine m2_getR hB dX11_door_111 fl_X11_158 sh_kD (c1 := kD_left) rfl ?_
          refine m2_iload_n hB dX11_door_114 rfl ?_
          obtain ⟨hi19, k⟩ := k
          refine m2_iald hB dX11_door_115 sh_kD_left hi19 ?_
          exact m2_xiret h dX11_door_116 k
        replace k := k.2 q18
        refine m2_tableOut hB dX11_door_31 (tgt := 117) (by have z0 := lv_neT q7 (show (0 : Int32).toInt = 0 by decide); have z1 := lv_neT q9 (show (1 : Int32).toInt = 1 by decide); have z2 := lv_neT q11 (show (2 : Int32).toInt = 2 by decide); have z3 := lv_neT q16 (show (3 : Int32).toInt = 3 by decide); have z4 := lv_neT q18 (show (4 : Int32).toInt = 4 by decide); omega) (by decide) ?_
        refine m2_aload_n hB dX11_door_117 rfl ?_
        refine m2_getR hB dX11_door_118 fl_X11_39 sh_kC (c1 := kD) rfl ?_
        refine m2_getR hB dX11_door_121 fl_X11_161 sh_kD (c1 := kD_noon) rfl ?_
        refine m2_iload_n hB dX11_door_124 rfl ?_
        obtain ⟨hi20, k⟩ := k
        refine m2_iald hB dX11_door_125 sh_kD_noon hi20 ?_
        exact m2_xiret h dX11_door_126 k
      · replace k := k.2 q6
        exact m2_xthrow h (w := 2) (i := 136) (by decide) dX11_door_20 dX11_door_23 (Or.inl ⟨rfl, dX11_door_24⟩) dX11_door_26 dX11_door_29 hD6 (by decide) k
  · rw [if_neg q4]
    replace k := k.2 q4
    refine m2_if_eq hB dX11_door_8 (tgt := 20) (by decide) (fun _ => ?_) (fun q => absurd q (by decide))
    exact m2_xthrow h (w := 2) (i := 136) (by decide) dX11_door_20 dX11_door_23 (Or.inl ⟨rfl, dX11_door_24⟩) dX11_door_26 dX11_door_29 hD6 (by decide) k
theorem dX11_of_0 : decode cX11_of 0 = .ok (.aload_n 0, 1) := by decide +kernel
theorem dX11_of_1 : decode cX11_of 1 = .ok (.getfield 46, 3) := by decide +kernel
theorem dX11_of_4 : decode cX11_of 4 = .ok (.iload_n 1, 1) := by decide +kernel
theorem dX11_of_5 : decode cX11_of 5 = .ok (.invokevirtual 164, 3) := by decide +kernel
theorem dX11_of_8 : decode cX11_of 8 = .ok (.ifCond .eq 13, 3) := by decide +kernel
theorem dX11_of_11 : decode cX11_of 11 = .ok (.iload_n 2, 1) := by decide +kernel
theorem dX11_of_12 : decode cX11_of 12 = .ok (.ifCond .lt 9, 3) := by decide +kernel
theorem dX11_of_15 : decode cX11_of 15 = .ok (.iload_n 2, 1) := by decide +kernel
theorem dX11_of_16 : decode cX11_of 16 = .ok (.bipush 7, 2) := by decide +kernel
theorem dX11_of_18 : decode cX11_of 18 = .ok (.if_icmp .le 13, 3) := by decide +kernel
theorem dX11_of_21 : decode cX11_of 21 = .ok (.new 134, 3) := by decide +kernel
theorem dX11_of_24 : decode cX11_of 24 = .ok (.dup, 1) := by decide +kernel
theorem dX11_of_25 : decode cX11_of 25 = .ok (.ldc 165, 2) := by decide +kernel
theorem dX11_of_27 : decode cX11_of 27 = .ok (.invokespecial 138, 3) := by decide +kernel
theorem dX11_of_30 : decode cX11_of 30 = .ok (.athrow, 1) := by decide +kernel
theorem dX11_of_31 : decode cX11_of 31 = .ok (.iload_n 2, 1) := by decide +kernel
theorem dX11_of_32 : decode cX11_of 32 = .ok (.tableswitch 122 0 6 #[44, 54, 67, 77, 87, 100, 113], 44) := by decide +kernel
theorem dX11_of_76 : decode cX11_of 76 = .ok (.aload_n 0, 1) := by decide +kernel
theorem dX11_of_77 : decode cX11_of 77 = .ok (.getfield 46, 3) := by decide +kernel
theorem dX11_of_80 : decode cX11_of 80 = .ok (.getfield 167, 3) := by decide +kernel
theorem dX11_of_83 : decode cX11_of 83 = .ok (.iload_n 1, 1) := by decide +kernel
theorem dX11_of_84 : decode cX11_of 84 = .ok (.iaload, 1) := by decide +kernel
theorem dX11_of_85 : decode cX11_of 85 = .ok (.ireturn, 1) := by decide +kernel
theorem dX11_of_86 : decode cX11_of 86 = .ok (.aload_n 0, 1) := by decide +kernel
theorem dX11_of_87 : decode cX11_of 87 = .ok (.getfield 46, 3) := by decide +kernel
theorem dX11_of_90 : decode cX11_of 90 = .ok (.getfield 170, 3) := by decide +kernel
theorem dX11_of_93 : decode cX11_of 93 = .ok (.iload_n 1, 1) := by decide +kernel
theorem dX11_of_94 : decode cX11_of 94 = .ok (.baload, 1) := by decide +kernel
theorem dX11_of_95 : decode cX11_of 95 = .ok (.invokestatic 151, 3) := by decide +kernel
theorem dX11_of_98 : decode cX11_of 98 = .ok (.ireturn, 1) := by decide +kernel
theorem dX11_of_99 : decode cX11_of 99 = .ok (.aload_n 0, 1) := by decide +kernel
theorem dX11_of_100 : decode cX11_of 100 = .ok (.getfield 46, 3) := by decide +kernel
theorem dX11_of_103 : decode cX11_of 103 = .ok (.getfield 173, 3) := by decide +kernel
theorem dX11_of_106 : decode cX11_of 106 = .ok (.iload_n 1, 1) := by decide +kernel
theorem dX11_of_107 : decode cX11_of 107 = .ok (.iaload, 1) := by decide +kernel
theorem dX11_of_108 : decode cX11_of 108 = .ok (.ireturn, 1) := by decide +kernel
theorem dX11_of_109 : decode cX11_of 109 = .ok (.aload_n 0, 1) := by decide +kernel
theorem dX11_of_110 : decode cX11_of 110 = .ok (.getfield 46, 3) := by decide +kernel
theorem dX11_of_113 : decode cX11_of 113 = .ok (.getfield 176, 3) := by decide +kernel
theorem dX11_of_116 : decode cX11_of 116 = .ok (.iload_n 1, 1) := by decide +kernel
theorem dX11_of_117 : decode cX11_of 117 = .ok (.iaload, 1) := by decide +kernel
theorem dX11_of_118 : decode cX11_of 118 = .ok (.ireturn, 1) := by decide +kernel
theorem dX11_of_119 : decode cX11_of 119 = .ok (.aload_n 0, 1) := by decide +kernel
theorem dX11_of_120 : decode cX11_of 120 = .ok (.getfield 46, 3) := by decide +kernel
theorem dX11_of_123 : decode cX11_of 123 = .ok (.getfield 179, 3) := by decide +kernel
theorem dX11_of_126 : decode cX11_of 126 = .ok (.iload_n 1, 1) := by decide +kernel
theorem dX11_of_127 : decode cX11_of 127 = .ok (.baload, 1) := by decide +kernel
theorem dX11_of_128 : decode cX11_of 128 = .ok (.invokestatic 151, 3) := by decide +kernel
theorem dX11_of_131 : decode cX11_of 131 = .ok (.ireturn, 1) := by decide +kernel
theorem dX11_of_132 : decode cX11_of 132 = .ok (.aload_n 0, 1) := by decide +kernel
theorem dX11_of_133 : decode cX11_of 133 = .ok (.getfield 46, 3) := by decide +kernel
theorem dX11_of_136 : decode cX11_of 136 = .ok (.getfield 182, 3) := by decide +kernel
theorem dX11_of_139 : decode cX11_of 139 = .ok (.iload_n 1, 1) := by decide +kernel
theorem dX11_of_140 : decode cX11_of 140 = .ok (.baload, 1) := by decide +kernel
theorem dX11_of_141 : decode cX11_of 141 = .ok (.invokestatic 151, 3) := by decide +kernel
theorem dX11_of_144 : decode cX11_of 144 = .ok (.ireturn, 1) := by decide +kernel
theorem dX11_of_145 : decode cX11_of 145 = .ok (.aload_n 0, 1) := by decide +kernel
theorem dX11_of_146 : decode cX11_of 146 = .ok (.getfield 46, 3) := by decide +kernel
theorem dX11_of_149 : decode cX11_of 149 = .ok (.iload_n 1, 1) := by decide +kernel
theorem dX11_of_150 : decode cX11_of 150 = .ok (.invokevirtual 185, 3) := by decide +kernel
theorem dX11_of_153 : decode cX11_of 153 = .ok (.ireturn, 1) := by decide +kernel
theorem dX11_of_154 : decode cX11_of 154 = .ok (.aload_n 0, 1) := by decide +kernel
theorem dX11_of_155 : decode cX11_of 155 = .ok (.getfield 46, 3) := by decide +kernel
theorem dX11_of_158 : decode cX11_of 158 = .ok (.getfield 188, 3) := by decide +kernel
theorem dX11_of_161 : decode cX11_of 161 = .ok (.iload_n 1, 1) := by decide +kernel
theorem dX11_of_162 : decode cX11_of 162 = .ok (.iaload, 1) := by decide +kernel
theorem dX11_of_163 : decode cX11_of 163 = .ok (.ireturn, 1) := by decide +kernel
set_option maxRecDepth 100000 in
set_option maxHeartbeats 4000000 in
theorem B_X11_of_0 {κ : Nat → List Value → List Value → m2M → Prop} {D : Nat} {Q : Option Value → m2M → Prop} {X : m2M → Prop} (h : m2_RX κ cX11_of RX11 3 (D + 1) (some .int) Q X) (hD6 : 6 ≤ D + 1) (hD : 1 ≤ D) {x1 : Int32} {x2 : Int32} {μ : m2M} (k : ((fX6_has x1 μ) = 1 → (x2 < 0 → X μ) ∧ (¬ x2 < 0 → (x2 ≤ 7 → (x2 = 0 → (vp_in x1 8) ∧ (Q (some (.int (μ.1 kP_where (x1).toNatClampNeg))) μ)) ∧ (¬ x2 = 0 → (x2 = 1 → (vp_in x1 8) ∧ (Q (some (.int (if (μ.1 kP_stranger (x1).toNatClampNeg) = 0 then 0 else 1 : Int32))) μ)) ∧ (¬ x2 = 1 → (x2 = 2 → (vp_in x1 8) ∧ (Q (some (.int (μ.1 kP_worth (x1).toNatClampNeg))) μ)) ∧ (¬ x2 = 2 → (x2 = 3 → (vp_in x1 8) ∧ (Q (some (.int (μ.1 kP_errand (x1).toNatClampNeg))) μ)) ∧ (¬ x2 = 3 → (x2 = 4 → (vp_in x1 8) ∧ (Q (some (.int (if (μ.1 kP_back (x1).toNatClampNeg) = 0 then 0 else 1 : Int32))) μ)) ∧ (¬ x2 = 4 → (x2 = 5 → (vp_in x1 8) ∧ (Q (some (.int (if (μ.1 kP_done (x1).toNatClampNeg) = 0 then 0 else 1 : Int32))) μ)) ∧ (¬ x2 = 5 → (x2 = 6 → (vp_in x1 8) ∧ (Q (some (.int (fX6_goal x1 μ))) μ)) ∧ (¬ x2 = 6 → (vp_in x1 8) ∧ (Q (some (.int (μ.1 kP_first (x1).toNatClampNeg))) μ))))))))) ∧ (¬ x2 ≤ 7 → X μ))) ∧ (¬ (fX6_has x1 μ) = 1 → X μ)) : κ 0 [.ref kC, .int x1, .int x2] [] μ := by
  have hB := h.b
  refine m2_aload_n hB dX11_of_0 rfl ?_
  refine m2_getR hB dX11_of_1 fl_X11_46 sh_kC (c1 := kP) rfl ?_
  refine m2_iload_n hB dX11_of_4 rfl ?_
  refine m2_invz hB (as := [.int x1]) dX11_of_5 mv_X11_164 rfl sh_kP rfl (Nat.le_of_ble_eq_true rfl) rfl (P_X6_has (by omega) (x1) _ ) (fun y1 μ2 hq3 => ?_)
  obtain ⟨⟨⟩, hq3⟩ := hq3
  subst μ2
  show κ 8 [.ref kC, .int x1, .int x2] [.int (if (fX6_has x1 μ) = 1 then 1 else 0 : Int32)] μ
  by_cases q4 : (fX6_has x1 μ) = 1
  · rw [if_pos q4]
    replace k := k.1 q4
    refine m2_if_eq hB dX11_of_8 (tgt := 21) (by decide) (fun q => absurd q (by decide)) (fun _ => ?_)
    refine m2_iload_n hB dX11_of_11 rfl ?_
    refine m2_if_lt hB dX11_of_12 (tgt := 21) (by decide) (fun q5 : x2 < 0 => ?_) (fun q5 : ¬ x2 < 0 => ?_)
    · replace k := k.1 q5
      exact m2_xthrow h (w := 2) (i := 165) (by decide) dX11_of_21 dX11_of_24 (Or.inl ⟨rfl, dX11_of_25⟩) dX11_of_27 dX11_of_30 hD6 (by decide) k
    · replace k := k.2 q5
      refine m2_iload_n hB dX11_of_15 rfl ?_
      refine m2_bipush hB dX11_of_16 (v := 7) (by decide) ?_
      refine m2_icmp_le hB dX11_of_18 (tgt := 31) (by decide) (fun q6 : x2 ≤ 7 => ?_) (fun q6 : ¬ x2 ≤ 7 => ?_)
      · replace k := k.1 q6
        refine m2_iload_n hB dX11_of_31 rfl ?_
        by_cases q7 : x2 = 0
        · replace k := k.1 q7
          refine m2_tableIn hB dX11_of_32 (off := 44) (tgt := 76) (by rw [q7]; decide) (by rw [q7]; decide) (by rw [q7]; decide) (by decide) ?_
          refine m2_aload_n hB dX11_of_76 rfl ?_
          refine m2_getR hB dX11_of_77 fl_X11_46 sh_kC (c1 := kP) rfl ?_
          refine m2_getR hB dX11_of_80 fl_X11_167 sh_kP (c1 := kP_where) rfl ?_
          refine m2_iload_n hB dX11_of_83 rfl ?_
          obtain ⟨hi8, k⟩ := k
          refine m2_iald hB dX11_of_84 sh_kP_where hi8 ?_
          exact m2_xiret h dX11_of_85 k
        replace k := k.2 q7
        by_cases q9 : x2 = 1
        · replace k := k.1 q9
          refine m2_tableIn hB dX11_of_32 (off := 54) (tgt := 86) (by rw [q9]; decide) (by rw [q9]; decide) (by rw [q9]; decide) (by decide) ?_
          refine m2_aload_n hB dX11_of_86 rfl ?_
          refine m2_getR hB dX11_of_87 fl_X11_46 sh_kC (c1 := kP) rfl ?_
          refine m2_getR hB dX11_of_90 fl_X11_170 sh_kP (c1 := kP_stranger) rfl ?_
          refine m2_iload_n hB dX11_of_93 rfl ?_
          obtain ⟨hi10, k⟩ := k
          refine m2_zald hB dX11_of_94 sh_kP_stranger hi10 ?_
          refine m2_invSi hB (as := [.int (μ.1 kP_stranger (x1).toNatClampNeg)]) dX11_of_95 ms_X11_151 rfl (Nat.le_of_ble_eq_true rfl) rfl (P_X11_asNumber (by omega) ((μ.1 kP_stranger (x1).toNatClampNeg)) _ ) (fun y11 μ12 hq13 => ?_)
          obtain ⟨⟨⟩, hq13⟩ := hq13
          subst μ12
          exact m2_xiret h dX11_of_98 k
        replace k := k.2 q9
        by_cases q14 : x2 = 2
        · replace k := k.1 q14
          refine m2_tableIn hB dX11_of_32 (off := 67) (tgt := 99) (by rw [q14]; decide) (by rw [q14]; decide) (by rw [q14]; decide) (by decide) ?_
          refine m2_aload_n hB dX11_of_99 rfl ?_
          refine m2_getR hB dX11_of_100 fl_X11_46 sh_kC (c1 := kP) rfl ?_
          refine m2_getR hB dX11_of_103 fl_X11_173 sh_kP (c1 := kP_worth) rfl ?_
          refine m2_iload_n hB dX11_of_106 rfl ?_
          obtain ⟨hi15, k⟩ := k
          refine m2_iald hB dX11_of_107 sh_kP_worth hi15 ?_
          exact m2_xiret h dX11_of_108 k
        replace k := k.2 q14
        by_cases q16 : x2 = 3
        · replace k := k.1 q16
          refine m2_tableIn hB dX11_of_32 (off := 77) (tgt := 109) (by rw [q16]; decide) (by rw [q16]; decide) (by rw [q16]; decide) (by decide) ?_
          refine m2_aload_n hB dX11_of_109 rfl ?_
          refine m2_getR hB dX11_of_110 fl_X11_46 sh_kC (c1 := kP) rfl ?_
          refine m2_getR hB dX11_of_113 fl_X11_176 sh_kP (c1 := kP_errand) rfl ?_
          refine m2_iload_n hB dX11_of_116 rfl ?_
          obtain ⟨hi17, k⟩ := k
          refine m2_iald hB dX11_of_117 sh_kP_errand hi17 ?_
          exact m2_xiret h dX11_of_118 k
        replace k := k.2 q16
        by_cases q18 : x2 = 4
        · replace k := k.1 q18
          refine m2_tableIn hB dX11_of_32 (off := 87) (tgt := 119) (by rw [q18]; decide) (by rw [q18]; decide) (by rw [q18]; decide) (by decide) ?_
          refine m2_aload_n hB dX11_of_119 rfl ?_
          refine m2_getR hB dX11_of_120 fl_X11_46 sh_kC (c1 := kP) rfl ?_
          refine m2_getR hB dX11_of_123 fl_X11_179 sh_kP (c1 := kP_back) rfl ?_
          refine m2_iload_n hB dX11_of_126 rfl ?_
          obtain ⟨hi19, k⟩ := k
          refine m2_zald hB dX11_of_127 sh_kP_back hi19 ?_
          refine m2_invSi hB (as := [.int (μ.1 kP_back (x1).toNatClampNeg)]) dX11_of_128 ms_X11_151 rfl (Nat.le_of_ble_eq_true rfl) rfl (P_X11_asNumber (by omega) ((μ.1 kP_back (x1).toNatClampNeg)) _ ) (fun y20 μ21 hq22 => ?_)
          obtain ⟨⟨⟩, hq22⟩ := hq22
          subst μ21
          exact m2_xiret h dX11_of_131 k
        replace k := k.2 q18
        by_cases q23 : x2 = 5
        · replace k := k.1 q23
          refine m2_tableIn hB dX11_of_32 (off := 100) (tgt := 132) (by rw [q23]; decide) (by rw [q23]; decide) (by rw [q23]; decide) (by decide) ?_
          refine m2_aload_n hB dX11_of_132 rfl ?_
          refine m2_getR hB dX11_of_133 fl_X11_46 sh_kC (c1 := kP) rfl ?_
          refine m2_getR hB dX11_of_136 fl_X11_182 sh_kP (c1 := kP_done) rfl ?_
          refine m2_iload_n hB dX11_of_139 rfl ?_
          obtain ⟨hi24, k⟩ := k
          refine m2_zald hB dX11_of_140 sh_kP_done hi24 ?_
          refine m2_invSi hB (as := [.int (μ.1 kP_done (x1).toNatClampNeg)]) dX11_of_141 ms_X11_151 rfl (Nat.le_of_ble_eq_true rfl) rfl (P_X11_asNumber (by omega) ((μ.1 kP_done (x1).toNatClampNeg)) _ ) (fun y25 μ26 hq27 => ?_)
          obtain ⟨⟨⟩, hq27⟩ := hq27
          subst μ26
          exact m2_xiret h dX11_of_144 k
        replace k := k.2 q23
        by_cases q28 : x2 = 6
        · replace k := k.1 q28
          refine m2_tableIn hB dX11_of_32 (off := 113) (tgt := 145) (by rw [q28]; decide) (by rw [q28]; decide) (by rw [q28]; decide) (by decide) ?_
          refine m2_aload_n hB dX11_of_145 rfl ?_
          refine m2_getR hB dX11_of_146 fl_X11_46 sh_kC (c1 := kP) rfl ?_
          refine m2_iload_n hB dX11_of_149 rfl ?_
          obtain ⟨hs29, k⟩ := k
          refine m2_invi hB (as := [.int x1]) dX11_of_150 mv_X11_185 rfl sh_kP rfl (Nat.le_of_ble_eq_true rfl) rfl (P_X6_goal (by omega) (x1) _ hs29) (fun y30 μ31 hq32 => ?_)
          obtain ⟨⟨⟩, hq32⟩ := hq32
          subst μ31
          exact m2_xiret h dX11_of_153 k
        replace k := k.2 q28
        refine m2_tableOut hB dX11_of_32 (tgt := 154) (by have z0 := lv_neT q7 (show (0 : Int32).toInt = 0 by decide); have z1 := lv_neT q9 (show (1 : Int32).toInt = 1 by decide); have z2 := lv_neT q14 (show (2 : Int32).toInt = 2 by decide); have z3 := lv_neT q16 (show (3 : Int32).toInt = 3 by decide); have z4 := lv_neT q18 (show (4 : Int32).toInt = 4 by decide); have z5 := lv_neT q23 (show (5 : Int32).toInt = 5 by decide); have z6 := lv_neT q28 (show (6 : Int32).toInt = 6 by decide); omega) (by decide) ?_
        refine m2_aload_n hB dX11_of_154 rfl ?_
        refine m2_getR hB dX11_of_155 fl_X11_46 sh_kC (c1 := kP) rfl ?_
        refine m2_getR hB dX11_of_158 fl_X11_188 sh_kP (c1 := kP_first) rfl ?_
        refine m2_iload_n hB dX11_of_161 rfl ?_
        obtain ⟨hi33, k⟩ := k
        refine m2_iald hB dX11_of_162 sh_kP_first hi33 ?_
        exact m2_xiret h dX11_of_163 k
      · replace k := k.2 q6
        exact m2_xthrow h (w := 2) (i := 165) (by decide) dX11_of_21 dX11_of_24 (Or.inl ⟨rfl, dX11_of_25⟩) dX11_of_27 dX11_of_30 hD6 (by decide) k
  · rw [if_neg q4]
    replace k := k.2 q4
    refine m2_if_eq hB dX11_of_8 (tgt := 21) (by decide) (fun _ => ?_) (fun q => absurd q (by decide))
    exact m2_xthrow h (w := 2) (i := 165) (by decide) dX11_of_21 dX11_of_24 (Or.inl ⟨rfl, dX11_of_25⟩) dX11_of_27 dX11_of_30 hD6 (by decide) k
theorem dX11_row_0 : decode cX11_row 0 = .ok (.iload_n 1, 1) := by decide +kernel
theorem dX11_row_1 : decode cX11_row 1 = .ok (.ifCond .lt 11, 3) := by decide +kernel
theorem dX11_row_4 : decode cX11_row 4 = .ok (.iload_n 1, 1) := by decide +kernel
theorem dX11_row_5 : decode cX11_row 5 = .ok (.aload_n 0, 1) := by decide +kernel
theorem dX11_row_6 : decode cX11_row 6 = .ok (.getfield 240, 3) := by decide +kernel
theorem dX11_row_9 : decode cX11_row 9 = .ok (.if_icmp .lt 14, 3) := by decide +kernel
theorem dX11_row_12 : decode cX11_row 12 = .ok (.new 134, 3) := by decide +kernel
theorem dX11_row_15 : decode cX11_row 15 = .ok (.dup, 1) := by decide +kernel
theorem dX11_row_16 : decode cX11_row 16 = .ok (.ldc_w 419, 3) := by decide +kernel
theorem dX11_row_19 : decode cX11_row 19 = .ok (.invokespecial 138, 3) := by decide +kernel
theorem dX11_row_22 : decode cX11_row 22 = .ok (.athrow, 1) := by decide +kernel
theorem dX11_row_23 : decode cX11_row 23 = .ok (.aload_n 0, 1) := by decide +kernel
theorem dX11_row_24 : decode cX11_row 24 = .ok (.getfield 13, 3) := by decide +kernel
theorem dX11_row_27 : decode cX11_row 27 = .ok (.iload_n 1, 1) := by decide +kernel
theorem dX11_row_28 : decode cX11_row 28 = .ok (.laload, 1) := by decide +kernel
theorem dX11_row_29 : decode cX11_row 29 = .ok (.lreturn, 1) := by decide +kernel
set_option maxRecDepth 100000 in
set_option maxHeartbeats 4000000 in
theorem B_X11_row_0 {κ : Nat → List Value → List Value → m2M → Prop} {D : Nat} {Q : Option Value → m2M → Prop} {X : m2M → Prop} (h : m2_RX κ cX11_row RX11 2 D (some .long) Q X) (hD6 : 6 ≤ D) {x1 : Int32} {μ : m2M} (k : (x1 < 0 → X μ) ∧ (¬ x1 < 0 → (x1 < (μ.1 kC 3) → (vp_in x1 16) ∧ (Q (some (.long ((μ).2 kC_row (x1).toNatClampNeg))) μ)) ∧ (¬ x1 < (μ.1 kC 3) → X μ))) : κ 0 [.ref kC, .int x1] [] μ := by
  have hB := h.b
  refine m2_iload_n hB dX11_row_0 rfl ?_
  refine m2_if_lt hB dX11_row_1 (tgt := 12) (by decide) (fun q1 : x1 < 0 => ?_) (fun q1 : ¬ x1 < 0 => ?_)
  · replace k := k.1 q1
    exact m2_xthrow h (w := 3) (i := 419) (by decide) dX11_row_12 dX11_row_15 (Or.inr ⟨rfl, dX11_row_16⟩) dX11_row_19 dX11_row_22 hD6 (by decide) k
  · replace k := k.2 q1
    refine m2_iload_n hB dX11_row_4 rfl ?_
    refine m2_aload_n hB dX11_row_5 rfl ?_
    refine m2_getI hB dX11_row_6 fl_X11_240 sh_kC rfl ?_
    refine m2_icmp_lt hB dX11_row_9 (tgt := 23) (by decide) (fun q2 : x1 < (μ.1 kC 3) => ?_) (fun q2 : ¬ x1 < (μ.1 kC 3) => ?_)
    · replace k := k.1 q2
      refine m2_aload_n hB dX11_row_23 rfl ?_
      refine m2_getR hB dX11_row_24 fl_X11_13 sh_kC (c1 := kC_row) rfl ?_
      refine m2_iload_n hB dX11_row_27 rfl ?_
      obtain ⟨hi3, k⟩ := k
      refine m2_lald hB dX11_row_28 sh_kC_row hi3 ?_
      exact m2_xlret h dX11_row_29 k
    · replace k := k.2 q2
      exact m2_xthrow h (w := 3) (i := 419) (by decide) dX11_row_12 dX11_row_15 (Or.inr ⟨rfl, dX11_row_16⟩) dX11_row_19 dX11_row_22 hD6 (by decide) k
