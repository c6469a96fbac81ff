theorem dX5_search_0 : decode cX5_search 0 = .ok (.aload_n 0, 1) := by decide +kernel
theorem dX5_search_1 : decode cX5_search 1 = .ok (.iload_n 2, 1) := by decide +kernel
theorem dX5_search_2 : decode cX5_search 2 = .ok (.putfield 32, 3) := by decide +kernel
theorem dX5_search_5 : decode cX5_search 5 = .ok (.aload_n 0, 1) := by decide +kernel
theorem dX5_search_6 : decode cX5_search 6 = .ok (.iload_n 3, 1) := by decide +kernel
theorem dX5_search_7 : decode cX5_search 7 = .ok (.putfield 36, 3) := by decide +kernel
theorem dX5_search_10 : decode cX5_search 10 = .ok (.aload_n 0, 1) := by decide +kernel
theorem dX5_search_11 : decode cX5_search 11 = .ok (.iload 4, 2) := by decide +kernel
theorem dX5_search_13 : decode cX5_search 13 = .ok (.putfield 39, 3) := by decide +kernel
theorem dX5_search_16 : decode cX5_search 16 = .ok (.aload_n 0, 1) := by decide +kernel
theorem dX5_search_17 : decode cX5_search 17 = .ok (.iload 5, 2) := by decide +kernel
theorem dX5_search_19 : decode cX5_search 19 = .ok (.putfield 42, 3) := by decide +kernel
theorem dX5_search_22 : decode cX5_search 22 = .ok (.aload_n 0, 1) := by decide +kernel
theorem dX5_search_23 : decode cX5_search 23 = .ok (.bipush 11, 2) := by decide +kernel
theorem dX5_search_25 : decode cX5_search 25 = .ok (.putfield 46, 3) := by decide +kernel
theorem dX5_search_28 : decode cX5_search 28 = .ok (.aload_n 0, 1) := by decide +kernel
theorem dX5_search_29 : decode cX5_search 29 = .ok (.getfield 28, 3) := by decide +kernel
theorem dX5_search_32 : decode cX5_search 32 = .ok (.iconst 0, 1) := by decide +kernel
theorem dX5_search_33 : decode cX5_search 33 = .ok (.invokevirtual 49, 3) := by decide +kernel
theorem dX5_search_36 : decode cX5_search 36 = .ok (.aload_n 0, 1) := by decide +kernel
theorem dX5_search_37 : decode cX5_search 37 = .ok (.getfield 28, 3) := by decide +kernel
theorem dX5_search_40 : decode cX5_search 40 = .ok (.aload_n 0, 1) := by decide +kernel
theorem dX5_search_41 : decode cX5_search 41 = .ok (.getfield 39, 3) := by decide +kernel
theorem dX5_search_44 : decode cX5_search 44 = .ok (.invokevirtual 55, 3) := by decide +kernel
theorem dX5_search_47 : decode cX5_search 47 = .ok (.aload_n 0, 1) := by decide +kernel
theorem dX5_search_48 : decode cX5_search 48 = .ok (.aload_n 0, 1) := by decide +kernel
theorem dX5_search_49 : decode cX5_search 49 = .ok (.getfield 28, 3) := by decide +kernel
theorem dX5_search_52 : decode cX5_search 52 = .ok (.getfield 58, 3) := by decide +kernel
theorem dX5_search_55 : decode cX5_search 55 = .ok (.aload_n 0, 1) := by decide +kernel
theorem dX5_search_56 : decode cX5_search 56 = .ok (.getfield 36, 3) := by decide +kernel
theorem dX5_search_59 : decode cX5_search 59 = .ok (.iaload, 1) := by decide +kernel
theorem dX5_search_60 : decode cX5_search 60 = .ok (.putfield 61, 3) := by decide +kernel
theorem dX5_search_63 : decode cX5_search 63 = .ok (.aload_n 0, 1) := by decide +kernel
theorem dX5_search_64 : decode cX5_search 64 = .ok (.getfield 28, 3) := by decide +kernel
theorem dX5_search_67 : decode cX5_search 67 = .ok (.aload_n 0, 1) := by decide +kernel
theorem dX5_search_68 : decode cX5_search 68 = .ok (.getfield 32, 3) := by decide +kernel
theorem dX5_search_71 : decode cX5_search 71 = .ok (.invokevirtual 55, 3) := by decide +kernel
theorem dX5_search_74 : decode cX5_search 74 = .ok (.aload_n 0, 1) := by decide +kernel
theorem dX5_search_75 : decode cX5_search 75 = .ok (.getfield 28, 3) := by decide +kernel
theorem dX5_search_78 : decode cX5_search 78 = .ok (.getfield 58, 3) := by decide +kernel
theorem dX5_search_81 : decode cX5_search 81 = .ok (.iconst 0, 1) := by decide +kernel
theorem dX5_search_82 : decode cX5_search 82 = .ok (.aload_n 0, 1) := by decide +kernel
theorem dX5_search_83 : decode cX5_search 83 = .ok (.getfield 9, 3) := by decide +kernel
theorem dX5_search_86 : decode cX5_search 86 = .ok (.iconst 0, 1) := by decide +kernel
theorem dX5_search_87 : decode cX5_search 87 = .ok (.bipush 12, 2) := by decide +kernel
theorem dX5_search_89 : decode cX5_search 89 = .ok (.invokestatic 64, 3) := by decide +kernel
theorem dX5_search_92 : decode cX5_search 92 = .ok (.aload_n 0, 1) := by decide +kernel
theorem dX5_search_93 : decode cX5_search 93 = .ok (.iconst 0, 1) := by decide +kernel
theorem dX5_search_94 : decode cX5_search 94 = .ok (.iload_n 1, 1) := by decide +kernel
theorem dX5_search_95 : decode cX5_search 95 = .ok (.iconst 1, 1) := by decide +kernel
theorem dX5_search_96 : decode cX5_search 96 = .ok (.iload_n 1, 1) := by decide +kernel
theorem dX5_search_97 : decode cX5_search 97 = .ok (.ishl, 1) := by decide +kernel
theorem dX5_search_98 : decode cX5_search 98 = .ok (.invokevirtual 70, 3) := by decide +kernel
theorem dX5_search_101 : decode cX5_search 101 = .ok (.aload_n 0, 1) := by decide +kernel
theorem dX5_search_102 : decode cX5_search 102 = .ok (.getfield 46, 3) := by decide +kernel
theorem dX5_search_105 : decode cX5_search 105 = .ok (.bipush 11, 2) := by decide +kernel
theorem dX5_search_107 : decode cX5_search 107 = .ok (.if_icmp .ge 10, 3) := by decide +kernel
theorem dX5_search_110 : decode cX5_search 110 = .ok (.aload_n 0, 1) := by decide +kernel
theorem dX5_search_111 : decode cX5_search 111 = .ok (.getfield 46, 3) := by decide +kernel
theorem dX5_search_114 : decode cX5_search 114 = .ok (.goto 4, 3) := by decide +kernel
theorem dX5_search_117 : decode cX5_search 117 = .ok (.iconst (-1), 1) := by decide +kernel
theorem dX5_search_118 : decode cX5_search 118 = .ok (.ireturn, 1) := by decide +kernel
set_option maxRecDepth 100000 in
set_option maxHeartbeats 4000000 in
theorem B_X5_search_0 {κ : Nat → List Value → List Value → m2M → Prop} {D : Nat} {Q : Option Value → m2M → Prop} (h : m2_RL κ cX5_search RX5 6 (D + 1) (some .int) Q) {x1 : Int32} {x2 : Int32} {x3 : Int32} {x4 : Int32} {x5 : Int32} {μ : m2M} (k : ((x5 = 0 ∨ x5 = 1)) ∧ (∃ Q4 : Option Value → m2M → Prop, m2_MT D yX8_useAbove cX8_useAbove 3 none [.ref kR, .int 0] (m2_si (m2_si (m2_si (m2_si (m2_si μ kA 9 x2) kA 10 x3) kA 11 x4) kA 13 x5) kA 8 11) Q4 ∧ ∀ (μ3 : m2M), Q4 none μ3 → (∃ Q9 : Option Value → m2M → Prop, m2_MT D yX8_measure cX8_measure 7 none [.ref kR, .int (μ3.1 kA 11)] μ3 Q9 ∧ ∀ (μ8 : m2M), Q9 none μ8 → ((vp_in (μ8.1 kA 10) 12) ∧ (∃ Q15 : Option Value → m2M → Prop, m2_MT D yX8_measure cX8_measure 7 none [.ref kR, .int (μ8.1 kA 9)] (m2_si μ8 kA 12 (μ8.1 kR_dist ((μ8.1 kA 10)).toNatClampNeg)) Q15 ∧ ∀ (μ14 : m2M), Q15 none μ14 → (∃ Q25 : Option Value → m2M → Prop, m2_MT D yX5_goOn cX5_goOn 7 none [.ref kA, .int 0, .int x1, .int ((1 : Int32) <<< (x1 &&& 31))] (m2_sr μ14 kA_toGoal (va_cpy ((μ14).1 kR_dist) ((μ14).1 kA_toGoal) ((0 : Int32)).toNatClampNeg ((0 : Int32)).toNatClampNeg ((12 : Int32)).toNatClampNeg)) Q25 ∧ ∀ (μ24 : m2M), Q25 none μ24 → (Q (some (.int (if 11 ≤ (μ24.1 kA 8) then (-1) else (μ24.1 kA 8) : Int32))) μ24))))))) : κ 0 [.ref kA, .int x1, .int x2, .int x3, .int x4, .int x5] [] μ := by
  have hB := h.b
  refine m2_aload_n hB dX5_search_0 rfl ?_
  refine m2_iload_n hB dX5_search_1 rfl ?_
  refine m2_putI hB dX5_search_2 fl_X5_32 sh_kA rfl ?_
  refine m2_aload_n hB dX5_search_5 rfl ?_
  refine m2_iload_n hB dX5_search_6 rfl ?_
  refine m2_putI hB dX5_search_7 fl_X5_36 sh_kA rfl ?_
  refine m2_aload_n hB dX5_search_10 rfl ?_
  refine m2_iload hB dX5_search_11 rfl ?_
  refine m2_putI hB dX5_search_13 fl_X5_39 sh_kA rfl ?_
  refine m2_aload_n hB dX5_search_16 rfl ?_
  refine m2_iload hB dX5_search_17 rfl ?_
  obtain ⟨hz1, k⟩ := k
  refine m2_putZ hB hz1 dX5_search_19 fl_X5_42 sh_kA rfl ?_
  refine m2_aload_n hB dX5_search_22 rfl ?_
  refine m2_bipush hB dX5_search_23 (v := 11) (by decide) ?_
  refine m2_putI hB dX5_search_25 fl_X5_46 sh_kA rfl ?_
  refine m2_aload_n hB dX5_search_28 rfl ?_
  refine m2_getR hB dX5_search_29 fl_X5_28 sh_kA (c1 := kR) rfl ?_
  refine m2_iconst hB dX5_search_32 (v := 0) (by decide) ?_
  obtain ⟨Q4, hM5, k⟩ := k
  refine m2_invv hB (as := [.int 0]) dX5_search_33 mv_X5_49 rfl sh_kR rfl (Nat.le_of_ble_eq_true rfl) rfl hM5 (fun μ3 hq6 => ?_)
  replace k := k μ3 hq6
  refine m2_aload_n hB dX5_search_36 rfl ?_
  refine m2_getR hB dX5_search_37 fl_X5_28 sh_kA (c1 := kR) rfl ?_
  refine m2_aload_n hB dX5_search_40 rfl ?_
  refine m2_getI hB dX5_search_41 fl_X5_39 sh_kA rfl ?_
  obtain ⟨Q9, hM10, k⟩ := k
  refine m2_invv hB (as := [.int (μ3.1 kA 11)]) dX5_search_44 mv_X5_55 rfl sh_kR rfl (Nat.le_of_ble_eq_true rfl) rfl hM10 (fun μ8 hq11 => ?_)
  replace k := k μ8 hq11
  refine m2_aload_n hB dX5_search_47 rfl ?_
  refine m2_aload_n hB dX5_search_48 rfl ?_
  refine m2_getR hB dX5_search_49 fl_X5_28 sh_kA (c1 := kR) rfl ?_
  refine m2_getR hB dX5_search_52 fl_X5_58 sh_kR (c1 := kR_dist) rfl ?_
  refine m2_aload_n hB dX5_search_55 rfl ?_
  refine m2_getI hB dX5_search_56 fl_X5_36 sh_kA rfl ?_
  obtain ⟨hi12, k⟩ := k
  refine m2_iald hB dX5_search_59 sh_kR_dist hi12 ?_
  refine m2_putI hB dX5_search_60 fl_X5_61 sh_kA rfl ?_
  refine m2_aload_n hB dX5_search_63 rfl ?_
  refine m2_getR hB dX5_search_64 fl_X5_28 sh_kA (c1 := kR) rfl ?_
  refine m2_aload_n hB dX5_search_67 rfl ?_
  refine m2_getI hB dX5_search_68 fl_X5_32 sh_kA rfl ?_
  obtain ⟨Q15, hM16, k⟩ := k
  refine m2_invv hB (as := [.int (μ8.1 kA 9)]) dX5_search_71 mv_X5_55 rfl sh_kR rfl (Nat.le_of_ble_eq_true rfl) rfl hM16 (fun μ14 hq17 => ?_)
  replace k := k μ14 hq17
  refine m2_aload_n hB dX5_search_74 rfl ?_
  refine m2_getR hB dX5_search_75 fl_X5_28 sh_kA (c1 := kR) rfl ?_
  refine m2_getR hB dX5_search_78 fl_X5_58 sh_kR (c1 := kR_dist) rfl ?_
  refine m2_iconst hB dX5_search_81 (v := 0) (by decide) ?_
  refine m2_aload_n hB dX5_search_82 rfl ?_
  refine m2_getR hB dX5_search_83 fl_X5_9 sh_kA (c1 := kA_toGoal) rfl ?_
  refine m2_iconst hB dX5_search_86 (v := 0) (by decide) ?_
  refine m2_bipush hB dX5_search_87 (v := 12) (by decide) ?_
  refine m2_copyi hB dX5_search_89 ac_X5_64 ac_nat ac_stat ac_ini (Nat.le_of_ble_eq_true rfl) sh_kR_dist sh_kA_toGoal (by decide) (by decide) (by decide) (by decide) (by decide) ?_
  refine m2_aload_n hB dX5_search_92 rfl ?_
  refine m2_iconst hB dX5_search_93 (v := 0) (by decide) ?_
  refine m2_iload_n hB dX5_search_94 rfl ?_
  refine m2_iconst hB dX5_search_95 (v := 1) (by decide) ?_
  refine m2_iload_n hB dX5_search_96 rfl ?_
  refine m2_ishl hB dX5_search_97 ?_
  obtain ⟨Q25, hM26, k⟩ := k
  refine m2_invv hB (as := [.int 0, .int x1, .int ((1 : Int32) <<< (x1 &&& 31))]) dX5_search_98 mv_X5_70 rfl sh_kA rfl (Nat.le_of_ble_eq_true rfl) rfl hM26 (fun μ24 hq27 => ?_)
  replace k := k μ24 hq27
  refine m2_aload_n hB dX5_search_101 rfl ?_
  refine m2_getI hB dX5_search_102 fl_X5_46 sh_kA rfl ?_
  refine m2_bipush hB dX5_search_105 (v := 11) (by decide) ?_
  have G29 : κ 118 [.ref kA, .int x1, .int x2, .int x3, .int x4, .int x5] [.int (if 11 ≤ (μ24.1 kA 8) then (-1) else (μ24.1 kA 8) : Int32)] μ24 := by
    exact m2_iret h dX5_search_118 k
  refine m2_icmp_ge hB dX5_search_107 (tgt := 117) (by decide) (fun q28 : 11 ≤ (μ24.1 kA 8) => ?_) (fun q28 : ¬ 11 ≤ (μ24.1 kA 8) => ?_)
  · rw [if_pos q28] at G29
    refine m2_iconst hB dX5_search_117 (v := (-1)) (by decide) ?_
    exact G29
  · rw [if_neg q28] at G29
    refine m2_aload_n hB dX5_search_110 rfl ?_
    refine m2_getI hB dX5_search_111 fl_X5_46 sh_kA rfl ?_
    refine m2_goto hB dX5_search_114 (tgt := 118) (by decide) ?_
    exact G29
theorem dX5_goOn_0 : decode cX5_goOn 0 = .ok (.iload_n 2, 1) := by decide +kernel
theorem dX5_goOn_1 : decode cX5_goOn 1 = .ok (.aload_n 0, 1) := by decide +kernel
theorem dX5_goOn_2 : decode cX5_goOn 2 = .ok (.getfield 32, 3) := by decide +kernel
theorem dX5_goOn_5 : decode cX5_goOn 5 = .ok (.if_icmp .ne 9, 3) := by decide +kernel
theorem dX5_goOn_8 : decode cX5_goOn 8 = .ok (.aload_n 0, 1) := by decide +kernel
theorem dX5_goOn_9 : decode cX5_goOn 9 = .ok (.iload_n 1, 1) := by decide +kernel
theorem dX5_goOn_10 : decode cX5_goOn 10 = .ok (.invokevirtual 74, 3) := by decide +kernel
theorem dX5_goOn_13 : decode cX5_goOn 13 = .ok (.return_, 1) := by decide +kernel
theorem dX5_goOn_14 : decode cX5_goOn 14 = .ok (.iload_n 1, 1) := by decide +kernel
theorem dX5_goOn_15 : decode cX5_goOn 15 = .ok (.iconst 5, 1) := by decide +kernel
theorem dX5_goOn_16 : decode cX5_goOn 16 = .ok (.if_icmp .lt 4, 3) := by decide +kernel
theorem dX5_goOn_19 : decode cX5_goOn 19 = .ok (.return_, 1) := by decide +kernel
theorem dX5_goOn_20 : decode cX5_goOn 20 = .ok (.iconst 0, 1) := by decide +kernel
theorem dX5_goOn_21 : decode cX5_goOn 21 = .ok (.istore 4, 2) := by decide +kernel
theorem dX5_goOn_23 : decode cX5_goOn 23 = .ok (.iload 4, 2) := by decide +kernel
theorem dX5_goOn_25 : decode cX5_goOn 25 = .ok (.aload_n 0, 1) := by decide +kernel
theorem dX5_goOn_26 : decode cX5_goOn 26 = .ok (.getfield 24, 3) := by decide +kernel
theorem dX5_goOn_29 : decode cX5_goOn 29 = .ok (.getfield 77, 3) := by decide +kernel
theorem dX5_goOn_32 : decode cX5_goOn 32 = .ok (.if_icmp .ge 112, 3) := by decide +kernel
theorem dX5_goOn_35 : decode cX5_goOn 35 = .ok (.aload_n 0, 1) := by decide +kernel
theorem dX5_goOn_36 : decode cX5_goOn 36 = .ok (.getfield 24, 3) := by decide +kernel
theorem dX5_goOn_39 : decode cX5_goOn 39 = .ok (.getfield 82, 3) := by decide +kernel
theorem dX5_goOn_42 : decode cX5_goOn 42 = .ok (.iload 4, 2) := by decide +kernel
theorem dX5_goOn_44 : decode cX5_goOn 44 = .ok (.iaload, 1) := by decide +kernel
theorem dX5_goOn_45 : decode cX5_goOn 45 = .ok (.ifCond .le 16, 3) := by decide +kernel
theorem dX5_goOn_48 : decode cX5_goOn 48 = .ok (.aload_n 0, 1) := by decide +kernel
theorem dX5_goOn_49 : decode cX5_goOn 49 = .ok (.getfield 24, 3) := by decide +kernel
theorem dX5_goOn_52 : decode cX5_goOn 52 = .ok (.iload 4, 2) := by decide +kernel
theorem dX5_goOn_54 : decode cX5_goOn 54 = .ok (.iload_n 2, 1) := by decide +kernel
theorem dX5_goOn_55 : decode cX5_goOn 55 = .ok (.invokevirtual 85, 3) := by decide +kernel
theorem dX5_goOn_58 : decode cX5_goOn 58 = .ok (.goto 4, 3) := by decide +kernel
theorem dX5_goOn_61 : decode cX5_goOn 61 = .ok (.iconst (-1), 1) := by decide +kernel
theorem dX5_goOn_62 : decode cX5_goOn 62 = .ok (.istore 5, 2) := by decide +kernel
theorem dX5_goOn_64 : decode cX5_goOn 64 = .ok (.iload 5, 2) := by decide +kernel
theorem dX5_goOn_66 : decode cX5_goOn 66 = .ok (.iconst (-1), 1) := by decide +kernel
theorem dX5_goOn_67 : decode cX5_goOn 67 = .ok (.if_icmp .eq 71, 3) := by decide +kernel
theorem dX5_goOn_70 : decode cX5_goOn 70 = .ok (.iload_n 3, 1) := by decide +kernel
theorem dX5_goOn_71 : decode cX5_goOn 71 = .ok (.iload 5, 2) := by decide +kernel
theorem dX5_goOn_73 : decode cX5_goOn 73 = .ok (.invokestatic 89, 3) := by decide +kernel
theorem dX5_goOn_76 : decode cX5_goOn 76 = .ok (.ifCond .eq 6, 3) := by decide +kernel
theorem dX5_goOn_79 : decode cX5_goOn 79 = .ok (.goto 59, 3) := by decide +kernel
theorem dX5_goOn_82 : decode cX5_goOn 82 = .ok (.iload_n 1, 1) := by decide +kernel
theorem dX5_goOn_83 : decode cX5_goOn 83 = .ok (.iconst 1, 1) := by decide +kernel
theorem dX5_goOn_84 : decode cX5_goOn 84 = .ok (.iadd, 1) := by decide +kernel
theorem dX5_goOn_85 : decode cX5_goOn 85 = .ok (.aload_n 0, 1) := by decide +kernel
theorem dX5_goOn_86 : decode cX5_goOn 86 = .ok (.getfield 9, 3) := by decide +kernel
theorem dX5_goOn_89 : decode cX5_goOn 89 = .ok (.iload 5, 2) := by decide +kernel
theorem dX5_goOn_91 : decode cX5_goOn 91 = .ok (.iaload, 1) := by decide +kernel
theorem dX5_goOn_92 : decode cX5_goOn 92 = .ok (.iadd, 1) := by decide +kernel
theorem dX5_goOn_93 : decode cX5_goOn 93 = .ok (.istore 6, 2) := by decide +kernel
theorem dX5_goOn_95 : decode cX5_goOn 95 = .ok (.iload 6, 2) := by decide +kernel
theorem dX5_goOn_97 : decode cX5_goOn 97 = .ok (.iconst 5, 1) := by decide +kernel
theorem dX5_goOn_98 : decode cX5_goOn 98 = .ok (.if_icmp .gt 40, 3) := by decide +kernel
theorem dX5_goOn_101 : decode cX5_goOn 101 = .ok (.iload 6, 2) := by decide +kernel
theorem dX5_goOn_103 : decode cX5_goOn 103 = .ok (.aload_n 0, 1) := by decide +kernel
theorem dX5_goOn_104 : decode cX5_goOn 104 = .ok (.getfield 61, 3) := by decide +kernel
theorem dX5_goOn_107 : decode cX5_goOn 107 = .ok (.iadd, 1) := by decide +kernel
theorem dX5_goOn_108 : decode cX5_goOn 108 = .ok (.aload_n 0, 1) := by decide +kernel
theorem dX5_goOn_109 : decode cX5_goOn 109 = .ok (.getfield 46, 3) := by decide +kernel
theorem dX5_goOn_112 : decode cX5_goOn 112 = .ok (.if_icmp .ge 26, 3) := by decide +kernel
theorem dX5_goOn_115 : decode cX5_goOn 115 = .ok (.aload_n 0, 1) := by decide +kernel
theorem dX5_goOn_116 : decode cX5_goOn 116 = .ok (.getfield 15, 3) := by decide +kernel
theorem dX5_goOn_119 : decode cX5_goOn 119 = .ok (.iload_n 1, 1) := by decide +kernel
theorem dX5_goOn_120 : decode cX5_goOn 120 = .ok (.iload 4, 2) := by decide +kernel
theorem dX5_goOn_122 : decode cX5_goOn 122 = .ok (.iastore, 1) := by decide +kernel
theorem dX5_goOn_123 : decode cX5_goOn 123 = .ok (.aload_n 0, 1) := by decide +kernel
theorem dX5_goOn_124 : decode cX5_goOn 124 = .ok (.iload_n 1, 1) := by decide +kernel
theorem dX5_goOn_125 : decode cX5_goOn 125 = .ok (.iconst 1, 1) := by decide +kernel
theorem dX5_goOn_126 : decode cX5_goOn 126 = .ok (.iadd, 1) := by decide +kernel
theorem dX5_goOn_127 : decode cX5_goOn 127 = .ok (.iload 5, 2) := by decide +kernel
theorem dX5_goOn_129 : decode cX5_goOn 129 = .ok (.iload_n 3, 1) := by decide +kernel
theorem dX5_goOn_130 : decode cX5_goOn 130 = .ok (.iconst 1, 1) := by decide +kernel
theorem dX5_goOn_131 : decode cX5_goOn 131 = .ok (.iload 5, 2) := by decide +kernel
theorem dX5_goOn_133 : decode cX5_goOn 133 = .ok (.ishl, 1) := by decide +kernel
theorem dX5_goOn_134 : decode cX5_goOn 134 = .ok (.ior, 1) := by decide +kernel
theorem dX5_goOn_135 : decode cX5_goOn 135 = .ok (.invokevirtual 70, 3) := by decide +kernel
theorem dX5_goOn_138 : decode cX5_goOn 138 = .ok (.iinc 4 1, 3) := by decide +kernel
theorem dX5_goOn_141 : decode cX5_goOn 141 = .ok (.goto (-118), 3) := by decide +kernel
theorem dX5_goOn_144 : decode cX5_goOn 144 = .ok (.return_, 1) := by decide +kernel
set_option maxRecDepth 100000 in
set_option maxHeartbeats 4000000 in
theorem B_X5_goOn_0 {κ : Nat → List Value → List Value → m2M → Prop} {D : Nat} {Q : Option Value → m2M → Prop} (h : m2_RL κ cX5_goOn RX5 7 (D + 1) none Q) {x1 : Int32} {x2 : Int32} {x3 : Int32} {μ : m2M} (k : (¬ x2 = (μ.1 kA 9) → (x1 < 5 → κ 23 [.ref kA, .int x1, .int x2, .int x3, .int 0, .null, .null] [] μ) ∧ (¬ x1 < 5 → Q none μ)) ∧ (x2 = (μ.1 kA 9) → ∃ Q5 : Option Value → m2M → Prop, m2_MT D yX5_tryOther cX5_tryOther 3 none [.ref kA, .int x1] μ Q5 ∧ ∀ (μ4 : m2M), Q5 none μ4 → (Q none μ4))) : κ 0 [.ref kA, .int x1, .int x2, .int x3, .null, .null, .null] [] μ := by
  have hB := h.b
  refine m2_iload_n hB dX5_goOn_0 rfl ?_
  refine m2_aload_n hB dX5_goOn_1 rfl ?_
  refine m2_getI hB dX5_goOn_2 fl_X5_32 sh_kA rfl ?_
  refine m2_icmp_ne hB dX5_goOn_5 (tgt := 14) (by decide) (fun q1 : ¬ x2 = (μ.1 kA 9) => ?_) (fun q1 : x2 = (μ.1 kA 9) => ?_)
  · replace k := k.1 q1
    refine m2_iload_n hB dX5_goOn_14 rfl ?_
    refine m2_iconst hB dX5_goOn_15 (v := 5) (by decide) ?_
    refine m2_icmp_lt hB dX5_goOn_16 (tgt := 20) (by decide) (fun q2 : x1 < 5 => ?_) (fun q2 : ¬ x1 < 5 => ?_)
    · replace k := k.1 q2
      refine m2_iconst hB dX5_goOn_20 (v := 0) (by decide) ?_
      refine m2_istore hB (ls' := [.ref kA, .int x1, .int x2, .int x3, .int 0, .null, .null]) dX5_goOn_21 (by decide) rfl ?_
      exact k
    · replace k := k.2 q2
      exact m2_vret h dX5_goOn_19 k
  · replace k := k.2 q1
    refine m2_aload_n hB dX5_goOn_8 rfl ?_
    refine m2_iload_n hB dX5_goOn_9 rfl ?_
    obtain ⟨Q5, hM6, k⟩ := k
    refine m2_invv hB (as := [.int x1]) dX5_goOn_10 mv_X5_74 rfl sh_kA rfl (Nat.le_of_ble_eq_true rfl) rfl hM6 (fun μ4 hq7 => ?_)
    replace k := k μ4 hq7
    exact m2_vret h dX5_goOn_13 k
set_option maxRecDepth 100000 in
set_option maxHeartbeats 4000000 in
theorem B_X5_goOn_23 {κ : Nat → List Value → List Value → m2M → Prop} {D : Nat} {Q : Option Value → m2M → Prop} (h : m2_RL κ cX5_goOn RX5 7 (D + 1) none Q) (hD : 0 ≤ D) {v1 : Int32} {v2 : Int32} {v3 : Int32} {v4 : Int32} {μ : m2M} (k : ((μ.1 kD 6) ≤ v4 → Q none μ) ∧ (¬ (μ.1 kD 6) ≤ v4 → (vp_in v4 20) ∧ (((μ.1 kD_left (v4).toNatClampNeg) ≤ 0 → κ 23 [.ref kA, .int v1, .int v2, .int v3, .int (v4 + 1), .null, .null] [] μ) ∧ (¬ (μ.1 kD_left (v4).toNatClampNeg) ≤ 0 → ((fX0_beyond v4 v2 μ) = (-1) → κ 23 [.ref kA, .int v1, .int v2, .int v3, .int (v4 + 1), .null, .null] [] μ) ∧ (¬ (fX0_beyond v4 v2 μ) = (-1) → ((fX11_hasBit v3 (fX0_beyond v4 v2 μ)) = 1 → κ 23 [.ref kA, .int v1, .int v2, .int v3, .int (v4 + 1), .null, .null] [] μ) ∧ (¬ (fX11_hasBit v3 (fX0_beyond v4 v2 μ)) = 1 → (vp_in (fX0_beyond v4 v2 μ) 12) ∧ ((5 < ((v1 + 1) + (μ.1 kA_toGoal ((fX0_beyond v4 v2 μ)).toNatClampNeg)) → κ 23 [.ref kA, .int v1, .int v2, .int v3, .int (v4 + 1), .null, .null] [] μ) ∧ (¬ 5 < ((v1 + 1) + (μ.1 kA_toGoal ((fX0_beyond v4 v2 μ)).toNatClampNeg)) → ((μ.1 kA 8) ≤ (((v1 + 1) + (μ.1 kA_toGoal ((fX0_beyond v4 v2 μ)).toNatClampNeg)) + (μ.1 kA 12)) → κ 23 [.ref kA, .int v1, .int v2, .int v3, .int (v4 + 1), .null, .null] [] μ) ∧ (¬ (μ.1 kA 8) ≤ (((v1 + 1) + (μ.1 kA_toGoal ((fX0_beyond v4 v2 μ)).toNatClampNeg)) + (μ.1 kA 12)) → (vp_in v1 5) ∧ (∃ Q25 : Option Value → m2M → Prop, m2_MT D yX5_goOn cX5_goOn 7 none [.ref kA, .int (v1 + 1), .int (fX0_beyond v4 v2 μ), .int (v3 ||| ((1 : Int32) <<< ((fX0_beyond v4 v2 μ) &&& 31)))] (m2_si μ kA_tried (v1).toNatClampNeg v4) Q25 ∧ ∀ (μ24 : m2M), Q25 none μ24 → (κ 23 [.ref kA, .int v1, .int v2, .int v3, .int (v4 + 1), .null, .null] [] μ24))))))))))) : κ 23 [.ref kA, .int v1, .int v2, .int v3, .int v4, .null, .null] [] μ := by
  have hB := h.b
  refine m2_iload hB dX5_goOn_23 rfl ?_
  refine m2_aload_n hB dX5_goOn_25 rfl ?_
  refine m2_getR hB dX5_goOn_26 fl_X5_24 sh_kA (c1 := kD) rfl ?_
  refine m2_getI hB dX5_goOn_29 fl_X5_77 sh_kD rfl ?_
  refine m2_icmp_ge hB dX5_goOn_32 (tgt := 144) (by decide) (fun q2 : (μ.1 kD 6) ≤ v4 => ?_) (fun q2 : ¬ (μ.1 kD 6) ≤ v4 => ?_)
  · replace k := k.1 q2
    exact m2_vret h dX5_goOn_144 k
  · replace k := k.2 q2
    refine m2_aload_n hB dX5_goOn_35 rfl ?_
    refine m2_getR hB dX5_goOn_36 fl_X5_24 sh_kA (c1 := kD) rfl ?_
    refine m2_getR hB dX5_goOn_39 fl_X5_82 sh_kD (c1 := kD_left) rfl ?_
    refine m2_iload hB dX5_goOn_42 rfl ?_
    obtain ⟨hi3, k⟩ := k
    refine m2_iald hB dX5_goOn_44 sh_kD_left hi3 ?_
    refine m2_if_le hB dX5_goOn_45 (tgt := 61) (by decide) (fun q4 : (μ.1 kD_left (v4).toNatClampNeg) ≤ 0 => ?_) (fun q4 : ¬ (μ.1 kD_left (v4).toNatClampNeg) ≤ 0 => ?_)
    · replace k := k.1 q4
      refine m2_iconst hB dX5_goOn_61 (v := (-1)) (by decide) ?_
      refine m2_istore hB (ls' := [.ref kA, .int v1, .int v2, .int v3, .int v4, .int (-1), .null]) dX5_goOn_62 (by decide) rfl ?_
      refine m2_iload hB dX5_goOn_64 rfl ?_
      refine m2_iconst hB dX5_goOn_66 (v := (-1)) (by decide) ?_
      refine m2_icmp_eq hB dX5_goOn_67 (tgt := 138) (by decide) (fun _ => ?_) (fun q => absurd q (by decide))
      refine m2_iinc hB (ls' := [.ref kA, .int v1, .int v2, .int v3, .int (v4 + 1), .int (-1), .null]) (v := (v4 + 1)) dX5_goOn_138 rfl (by decide) rfl rfl ?_
      refine m2_goto hB dX5_goOn_141 (tgt := 23) (by decide) ?_
      exact m2_weak (ls' := [.ref kA, .int v1, .int v2, .int v3, .int (v4 + 1), .null, .null]) hB ⟨Or.inr rfl, Or.inr rfl, Or.inr rfl, Or.inr rfl, Or.inr rfl, Or.inl rfl, Or.inl rfl, trivial⟩ k
    · replace k := k.2 q4
      refine m2_aload_n hB dX5_goOn_48 rfl ?_
      refine m2_getR hB dX5_goOn_49 fl_X5_24 sh_kA (c1 := kD) rfl ?_
      refine m2_iload hB dX5_goOn_52 rfl ?_
      refine m2_iload_n hB dX5_goOn_54 rfl ?_
      have hs5 := hi3
      refine m2_invi hB (as := [.int v4, .int v2]) dX5_goOn_55 mv_X5_85 rfl sh_kD rfl (Nat.le_of_ble_eq_true rfl) rfl (P_X0_beyond (by omega) (v4) (v2) _ hs5) (fun y6 μ7 hq8 => ?_)
      obtain ⟨⟨⟩, hq8⟩ := hq8
      subst μ7
      refine m2_goto hB dX5_goOn_58 (tgt := 62) (by decide) ?_
      refine m2_istore hB (ls' := [.ref kA, .int v1, .int v2, .int v3, .int v4, .int (fX0_beyond v4 v2 μ), .null]) dX5_goOn_62 (by decide) rfl ?_
      refine m2_iload hB dX5_goOn_64 rfl ?_
      refine m2_iconst hB dX5_goOn_66 (v := (-1)) (by decide) ?_
      refine m2_icmp_eq hB dX5_goOn_67 (tgt := 138) (by decide) (fun q12 : (fX0_beyond v4 v2 μ) = (-1) => ?_) (fun q12 : ¬ (fX0_beyond v4 v2 μ) = (-1) => ?_)
      · replace k := k.1 q12
        refine m2_iinc hB (ls' := [.ref kA, .int v1, .int v2, .int v3, .int (v4 + 1), .int (fX0_beyond v4 v2 μ), .null]) (v := (v4 + 1)) dX5_goOn_138 rfl (by decide) rfl rfl ?_
        refine m2_goto hB dX5_goOn_141 (tgt := 23) (by decide) ?_
        exact m2_weak (ls' := [.ref kA, .int v1, .int v2, .int v3, .int (v4 + 1), .null, .null]) hB ⟨Or.inr rfl, Or.inr rfl, Or.inr rfl, Or.inr rfl, Or.inr rfl, Or.inl rfl, Or.inl rfl, trivial⟩ k
      · replace k := k.2 q12
        refine m2_iload_n hB dX5_goOn_70 rfl ?_
        refine m2_iload hB dX5_goOn_71 rfl ?_
        refine m2_invNz hB (as := [.int v3, .int (fX0_beyond v4 v2 μ)]) dX5_goOn_73 mn_X5_89 rfl (Nat.le_of_ble_eq_true rfl) rfl (P_X11_hasBit (by omega) (v3) ((fX0_beyond v4 v2 μ)) _ ) (fun y13 μ14 hq15 => ?_)
        obtain ⟨⟨⟩, hq15⟩ := hq15
        subst μ14
        show κ 76 [.ref kA, .int v1, .int v2, .int v3, .int v4, .int (fX0_beyond v4 v2 μ), .null] [.int (if (fX11_hasBit v3 (fX0_beyond v4 v2 μ)) = 1 then 1 else 0 : Int32)] μ
        by_cases q16 : (fX11_hasBit v3 (fX0_beyond v4 v2 μ)) = 1
        · rw [if_pos q16]
          replace k := k.1 q16
          refine m2_if_eq hB dX5_goOn_76 (tgt := 82) (by decide) (fun q => absurd q (by decide)) (fun _ => ?_)
          refine m2_goto hB dX5_goOn_79 (tgt := 138) (by decide) ?_
          refine m2_iinc hB (ls' := [.ref kA, .int v1, .int v2, .int v3, .int (v4 + 1), .int (fX0_beyond v4 v2 μ), .null]) (v := (v4 + 1)) dX5_goOn_138 rfl (by decide) rfl rfl ?_
          refine m2_goto hB dX5_goOn_141 (tgt := 23) (by decide) ?_
          exact m2_weak (ls' := [.ref kA, .int v1, .int v2, .int v3, .int (v4 + 1), .null, .null]) hB ⟨Or.inr rfl, Or.inr rfl, Or.inr rfl, Or.inr rfl, Or.inr rfl, Or.inl rfl, Or.inl rfl, trivial⟩ k
        · rw [if_neg q16]
          replace k := k.2 q16
          refine m2_if_eq hB dX5_goOn_76 (tgt := 82) (by decide) (fun _ => ?_) (fun q => absurd q (by decide))
          refine m2_iload_n hB dX5_goOn_82 rfl ?_
          refine m2_iconst hB dX5_goOn_83 (v := 1) (by decide) ?_
          refine m2_iadd hB dX5_goOn_84 ?_
          refine m2_aload_n hB dX5_goOn_85 rfl ?_
          refine m2_getR hB dX5_goOn_86 fl_X5_9 sh_kA (c1 := kA_toGoal) rfl ?_
          refine m2_iload hB dX5_goOn_89 rfl ?_
          obtain ⟨hi17, k⟩ := k
          refine m2_iald hB dX5_goOn_91 sh_kA_toGoal hi17 ?_
          refine m2_iadd hB dX5_goOn_92 ?_
          refine m2_istore hB (ls' := [.ref kA, .int v1, .int v2, .int v3, .int v4, .int (fX0_beyond v4 v2 μ), .int ((v1 + 1) + (μ.1 kA_toGoal ((fX0_beyond v4 v2 μ)).toNatClampNeg))]) dX5_goOn_93 (by decide) rfl ?_
          refine m2_iload hB dX5_goOn_95 rfl ?_
          refine m2_iconst hB dX5_goOn_97 (v := 5) (by decide) ?_
          refine m2_icmp_gt hB dX5_goOn_98 (tgt := 138) (by decide) (fun q19 : 5 < ((v1 + 1) + (μ.1 kA_toGoal ((fX0_beyond v4 v2 μ)).toNatClampNeg)) => ?_) (fun q19 : ¬ 5 < ((v1 + 1) + (μ.1 kA_toGoal ((fX0_beyond v4 v2 μ)).toNatClampNeg)) => ?_)
          · replace k := k.1 q19
            refine m2_iinc hB (ls' := [.ref kA, .int v1, .int v2, .int v3, .int (v4 + 1), .int (fX0_beyond v4 v2 μ), .int ((v1 + 1) + (μ.1 kA_toGoal ((fX0_beyond v4 v2 μ)).toNatClampNeg))]) (v := (v4 + 1)) dX5_goOn_138 rfl (by decide) rfl rfl ?_
            refine m2_goto hB dX5_goOn_141 (tgt := 23) (by decide) ?_
            exact m2_weak (ls' := [.ref kA, .int v1, .int v2, .int v3, .int (v4 + 1), .null, .null]) hB ⟨Or.inr rfl, Or.inr rfl, Or.inr rfl, Or.inr rfl, Or.inr rfl, Or.inl rfl, Or.inl rfl, trivial⟩ k
          · replace k := k.2 q19
            refine m2_iload hB dX5_goOn_101 rfl ?_
            refine m2_aload_n hB dX5_goOn_103 rfl ?_
            refine m2_getI hB dX5_goOn_104 fl_X5_61 sh_kA rfl ?_
            refine m2_iadd hB dX5_goOn_107 ?_
            refine m2_aload_n hB dX5_goOn_108 rfl ?_
            refine m2_getI hB dX5_goOn_109 fl_X5_46 sh_kA rfl ?_
            refine m2_icmp_ge hB dX5_goOn_112 (tgt := 138) (by decide) (fun q21 : (μ.1 kA 8) ≤ (((v1 + 1) + (μ.1 kA_toGoal ((fX0_beyond v4 v2 μ)).toNatClampNeg)) + (μ.1 kA 12)) => ?_) (fun q21 : ¬ (μ.1 kA 8) ≤ (((v1 + 1) + (μ.1 kA_toGoal ((fX0_beyond v4 v2 μ)).toNatClampNeg)) + (μ.1 kA 12)) => ?_)
            · replace k := k.1 q21
              refine m2_iinc hB (ls' := [.ref kA, .int v1, .int v2, .int v3, .int (v4 + 1), .int (fX0_beyond v4 v2 μ), .int ((v1 + 1) + (μ.1 kA_toGoal ((fX0_beyond v4 v2 μ)).toNatClampNeg))]) (v := (v4 + 1)) dX5_goOn_138 rfl (by decide) rfl rfl ?_
              refine m2_goto hB dX5_goOn_141 (tgt := 23) (by decide) ?_
              exact m2_weak (ls' := [.ref kA, .int v1, .int v2, .int v3, .int (v4 + 1), .null, .null]) hB ⟨Or.inr rfl, Or.inr rfl, Or.inr rfl, Or.inr rfl, Or.inr rfl, Or.inl rfl, Or.inl rfl, trivial⟩ k
            · replace k := k.2 q21
              refine m2_aload_n hB dX5_goOn_115 rfl ?_
              refine m2_getR hB dX5_goOn_116 fl_X5_15 sh_kA (c1 := kA_tried) rfl ?_
              refine m2_iload_n hB dX5_goOn_119 rfl ?_
              refine m2_iload hB dX5_goOn_120 rfl ?_
              obtain ⟨hi22, k⟩ := k
              refine m2_iast hB dX5_goOn_122 sh_kA_tried hi22 ?_
              refine m2_aload_n hB dX5_goOn_123 rfl ?_
              refine m2_iload_n hB dX5_goOn_124 rfl ?_
              refine m2_iconst hB dX5_goOn_125 (v := 1) (by decide) ?_
              refine m2_iadd hB dX5_goOn_126 ?_
              refine m2_iload hB dX5_goOn_127 rfl ?_
              refine m2_iload_n hB dX5_goOn_129 rfl ?_
              refine m2_iconst hB dX5_goOn_130 (v := 1) (by decide) ?_
              refine m2_iload hB dX5_goOn_131 rfl ?_
              refine m2_ishl hB dX5_goOn_133 ?_
              refine m2_ior hB dX5_goOn_134 ?_
              obtain ⟨Q25, hM26, k⟩ := k
              refine m2_invv hB (as := [.int (v1 + 1), .int (fX0_beyond v4 v2 μ), .int (v3 ||| ((1 : Int32) <<< ((fX0_beyond v4 v2 μ) &&& 31)))]) dX5_goOn_135 mv_X5_70 rfl sh_kA rfl (Nat.le_of_ble_eq_true rfl) rfl hM26 (fun μ24 hq27 => ?_)
              replace k := k μ24 hq27
              refine m2_iinc hB (ls' := [.ref kA, .int v1, .int v2, .int v3, .int (v4 + 1), .int (fX0_beyond v4 v2 μ), .int ((v1 + 1) + (μ.1 kA_toGoal ((fX0_beyond v4 v2 μ)).toNatClampNeg))]) (v := (v4 + 1)) dX5_goOn_138 rfl (by decide) rfl rfl ?_
              refine m2_goto hB dX5_goOn_141 (tgt := 23) (by decide) ?_
              exact m2_weak (ls' := [.ref kA, .int v1, .int v2, .int v3, .int (v4 + 1), .null, .null]) hB ⟨Or.inr rfl, Or.inr rfl, Or.inr rfl, Or.inr rfl, Or.inr rfl, Or.inl rfl, Or.inl rfl, trivial⟩ k
theorem dX5_tryOther_0 : decode cX5_tryOther 0 = .ok (.aload_n 0, 1) := by decide +kernel
theorem dX5_tryOther_1 : decode cX5_tryOther 1 = .ok (.getfield 28, 3) := by decide +kernel
theorem dX5_tryOther_4 : decode cX5_tryOther 4 = .ok (.iconst 0, 1) := by decide +kernel
theorem dX5_tryOther_5 : decode cX5_tryOther 5 = .ok (.invokevirtual 49, 3) := by decide +kernel
theorem dX5_tryOther_8 : decode cX5_tryOther 8 = .ok (.iconst 0, 1) := by decide +kernel
theorem dX5_tryOther_9 : decode cX5_tryOther 9 = .ok (.istore_n 2, 1) := by decide +kernel
theorem dX5_tryOther_10 : decode cX5_tryOther 10 = .ok (.iload_n 2, 1) := by decide +kernel
theorem dX5_tryOther_11 : decode cX5_tryOther 11 = .ok (.iload_n 1, 1) := by decide +kernel
theorem dX5_tryOther_12 : decode cX5_tryOther 12 = .ok (.if_icmp .ge 49, 3) := by decide +kernel
theorem dX5_tryOther_15 : decode cX5_tryOther 15 = .ok (.aload_n 0, 1) := by decide +kernel
theorem dX5_tryOther_16 : decode cX5_tryOther 16 = .ok (.getfield 42, 3) := by decide +kernel
theorem dX5_tryOther_19 : decode cX5_tryOther 19 = .ok (.ifCond .eq 42, 3) := by decide +kernel
theorem dX5_tryOther_22 : decode cX5_tryOther 22 = .ok (.aload_n 0, 1) := by decide +kernel
theorem dX5_tryOther_23 : decode cX5_tryOther 23 = .ok (.getfield 24, 3) := by decide +kernel
theorem dX5_tryOther_26 : decode cX5_tryOther 26 = .ok (.getfield 82, 3) := by decide +kernel
theorem dX5_tryOther_29 : decode cX5_tryOther 29 = .ok (.aload_n 0, 1) := by decide +kernel
theorem dX5_tryOther_30 : decode cX5_tryOther 30 = .ok (.getfield 15, 3) := by decide +kernel
theorem dX5_tryOther_33 : decode cX5_tryOther 33 = .ok (.iload_n 2, 1) := by decide +kernel
theorem dX5_tryOther_34 : decode cX5_tryOther 34 = .ok (.iaload, 1) := by decide +kernel
theorem dX5_tryOther_35 : decode cX5_tryOther 35 = .ok (.iaload, 1) := by decide +kernel
theorem dX5_tryOther_36 : decode cX5_tryOther 36 = .ok (.iconst 2, 1) := by decide +kernel
theorem dX5_tryOther_37 : decode cX5_tryOther 37 = .ok (.if_icmp .ge 18, 3) := by decide +kernel
theorem dX5_tryOther_40 : decode cX5_tryOther 40 = .ok (.aload_n 0, 1) := by decide +kernel
theorem dX5_tryOther_41 : decode cX5_tryOther 41 = .ok (.getfield 28, 3) := by decide +kernel
theorem dX5_tryOther_44 : decode cX5_tryOther 44 = .ok (.getfield 93, 3) := by decide +kernel
theorem dX5_tryOther_47 : decode cX5_tryOther 47 = .ok (.aload_n 0, 1) := by decide +kernel
theorem dX5_tryOther_48 : decode cX5_tryOther 48 = .ok (.getfield 15, 3) := by decide +kernel
theorem dX5_tryOther_51 : decode cX5_tryOther 51 = .ok (.iload_n 2, 1) := by decide +kernel
theorem dX5_tryOther_52 : decode cX5_tryOther 52 = .ok (.iaload, 1) := by decide +kernel
theorem dX5_tryOther_53 : decode cX5_tryOther 53 = .ok (.iconst 0, 1) := by decide +kernel
theorem dX5_tryOther_54 : decode cX5_tryOther 54 = .ok (.iastore, 1) := by decide +kernel
theorem dX5_tryOther_55 : decode cX5_tryOther 55 = .ok (.iinc 2 1, 3) := by decide +kernel
theorem dX5_tryOther_58 : decode cX5_tryOther 58 = .ok (.goto (-48), 3) := by decide +kernel
theorem dX5_tryOther_61 : decode cX5_tryOther 61 = .ok (.aload_n 0, 1) := by decide +kernel
theorem dX5_tryOther_62 : decode cX5_tryOther 62 = .ok (.getfield 28, 3) := by decide +kernel
theorem dX5_tryOther_65 : decode cX5_tryOther 65 = .ok (.aload_n 0, 1) := by decide +kernel
theorem dX5_tryOther_66 : decode cX5_tryOther 66 = .ok (.getfield 36, 3) := by decide +kernel
theorem dX5_tryOther_69 : decode cX5_tryOther 69 = .ok (.aload_n 0, 1) := by decide +kernel
theorem dX5_tryOther_70 : decode cX5_tryOther 70 = .ok (.getfield 39, 3) := by decide +kernel
theorem dX5_tryOther_73 : decode cX5_tryOther 73 = .ok (.invokevirtual 96, 3) := by decide +kernel
theorem dX5_tryOther_76 : decode cX5_tryOther 76 = .ok (.istore_n 2, 1) := by decide +kernel
theorem dX5_tryOther_77 : decode cX5_tryOther 77 = .ok (.iload_n 2, 1) := by decide +kernel
theorem dX5_tryOther_78 : decode cX5_tryOther 78 = .ok (.iconst (-1), 1) := by decide +kernel
theorem dX5_tryOther_79 : decode cX5_tryOther 79 = .ok (.if_icmp .eq 18, 3) := by decide +kernel
theorem dX5_tryOther_82 : decode cX5_tryOther 82 = .ok (.iload_n 2, 1) := by decide +kernel
theorem dX5_tryOther_83 : decode cX5_tryOther 83 = .ok (.iconst 5, 1) := by decide +kernel
theorem dX5_tryOther_84 : decode cX5_tryOther 84 = .ok (.if_icmp .gt 13, 3) := by decide +kernel
theorem dX5_tryOther_87 : decode cX5_tryOther 87 = .ok (.iload_n 1, 1) := by decide +kernel
theorem dX5_tryOther_88 : decode cX5_tryOther 88 = .ok (.iload_n 2, 1) := by decide +kernel
theorem dX5_tryOther_89 : decode cX5_tryOther 89 = .ok (.iadd, 1) := by decide +kernel
theorem dX5_tryOther_90 : decode cX5_tryOther 90 = .ok (.aload_n 0, 1) := by decide +kernel
theorem dX5_tryOther_91 : decode cX5_tryOther 91 = .ok (.getfield 46, 3) := by decide +kernel
theorem dX5_tryOther_94 : decode cX5_tryOther 94 = .ok (.if_icmp .lt 4, 3) := by decide +kernel
theorem dX5_tryOther_97 : decode cX5_tryOther 97 = .ok (.return_, 1) := by decide +kernel
theorem dX5_tryOther_98 : decode cX5_tryOther 98 = .ok (.aload_n 0, 1) := by decide +kernel
theorem dX5_tryOther_99 : decode cX5_tryOther 99 = .ok (.iload_n 1, 1) := by decide +kernel
theorem dX5_tryOther_100 : decode cX5_tryOther 100 = .ok (.iload_n 2, 1) := by decide +kernel
theorem dX5_tryOther_101 : decode cX5_tryOther 101 = .ok (.iadd, 1) := by decide +kernel
theorem dX5_tryOther_102 : decode cX5_tryOther 102 = .ok (.putfield 46, 3) := by decide +kernel
theorem dX5_tryOther_105 : decode cX5_tryOther 105 = .ok (.aload_n 0, 1) := by decide +kernel
theorem dX5_tryOther_106 : decode cX5_tryOther 106 = .ok (.iload_n 1, 1) := by decide +kernel
theorem dX5_tryOther_107 : decode cX5_tryOther 107 = .ok (.putfield 99, 3) := by decide +kernel
theorem dX5_tryOther_110 : decode cX5_tryOther 110 = .ok (.aload_n 0, 1) := by decide +kernel
theorem dX5_tryOther_111 : decode cX5_tryOther 111 = .ok (.iload_n 2, 1) := by decide +kernel
theorem dX5_tryOther_112 : decode cX5_tryOther 112 = .ok (.putfield 102, 3) := by decide +kernel
theorem dX5_tryOther_115 : decode cX5_tryOther 115 = .ok (.aload_n 0, 1) := by decide +kernel
theorem dX5_tryOther_116 : decode cX5_tryOther 116 = .ok (.getfield 15, 3) := by decide +kernel
theorem dX5_tryOther_119 : decode cX5_tryOther 119 = .ok (.iconst 0, 1) := by decide +kernel
theorem dX5_tryOther_120 : decode cX5_tryOther 120 = .ok (.aload_n 0, 1) := by decide +kernel
theorem dX5_tryOther_121 : decode cX5_tryOther 121 = .ok (.getfield 18, 3) := by decide +kernel
theorem dX5_tryOther_124 : decode cX5_tryOther 124 = .ok (.iconst 0, 1) := by decide +kernel
theorem dX5_tryOther_125 : decode cX5_tryOther 125 = .ok (.iload_n 1, 1) := by decide +kernel
theorem dX5_tryOther_126 : decode cX5_tryOther 126 = .ok (.invokestatic 64, 3) := by decide +kernel
theorem dX5_tryOther_129 : decode cX5_tryOther 129 = .ok (.aload_n 0, 1) := by decide +kernel
theorem dX5_tryOther_130 : decode cX5_tryOther 130 = .ok (.getfield 28, 3) := by decide +kernel
theorem dX5_tryOther_133 : decode cX5_tryOther 133 = .ok (.getfield 105, 3) := by decide +kernel
theorem dX5_tryOther_136 : decode cX5_tryOther 136 = .ok (.iconst 0, 1) := by decide +kernel
theorem dX5_tryOther_137 : decode cX5_tryOther 137 = .ok (.aload_n 0, 1) := by decide +kernel
theorem dX5_tryOther_138 : decode cX5_tryOther 138 = .ok (.getfield 21, 3) := by decide +kernel
theorem dX5_tryOther_141 : decode cX5_tryOther 141 = .ok (.iconst 0, 1) := by decide +kernel
theorem dX5_tryOther_142 : decode cX5_tryOther 142 = .ok (.iload_n 2, 1) := by decide +kernel
theorem dX5_tryOther_143 : decode cX5_tryOther 143 = .ok (.invokestatic 64, 3) := by decide +kernel
theorem dX5_tryOther_146 : decode cX5_tryOther 146 = .ok (.return_, 1) := by decide +kernel
set_option maxRecDepth 100000 in
set_option maxHeartbeats 4000000 in
theorem B_X5_tryOther_0 {κ : Nat → List Value → List Value → m2M → Prop} {D : Nat} {Q : Option Value → m2M → Prop} (h : m2_RL κ cX5_tryOther RX5 3 (D + 1) none Q) {x1 : Int32} {μ : m2M} (k : ∃ Q3 : Option Value → m2M → Prop, m2_MT D yX8_useAbove cX8_useAbove 3 none [.ref kR, .int 0] μ Q3 ∧ ∀ (μ2 : m2M), Q3 none μ2 → (κ 10 [.ref kA, .int x1, .int 0] [] μ2)) : κ 0 [.ref kA, .int x1, .null] [] μ := by
  have hB := h.b
  refine m2_aload_n hB dX5_tryOther_0 rfl ?_
  refine m2_getR hB dX5_tryOther_1 fl_X5_28 sh_kA (c1 := kR) rfl ?_
  refine m2_iconst hB dX5_tryOther_4 (v := 0) (by decide) ?_
  obtain ⟨Q3, hM4, k⟩ := k
  refine m2_invv hB (as := [.int 0]) dX5_tryOther_5 mv_X5_49 rfl sh_kR rfl (Nat.le_of_ble_eq_true rfl) rfl hM4 (fun μ2 hq5 => ?_)
  replace k := k μ2 hq5
  refine m2_iconst hB dX5_tryOther_8 (v := 0) (by decide) ?_
  refine m2_istore_n hB (ls' := [.ref kA, .int x1, .int 0]) dX5_tryOther_9 rfl (by decide) rfl ?_
  exact k
set_option maxRecDepth 100000 in
set_option maxHeartbeats 4000000 in
theorem B_X5_tryOther_10 {κ : Nat → List Value → List Value → m2M → Prop} {D : Nat} {Q : Option Value → m2M → Prop} (h : m2_RL κ cX5_tryOther RX5 3 D none Q) {v1 : Int32} {v2 : Int32} {μ : m2M} (k : (v1 ≤ v2 → κ 61 [.ref kA, .int v1, .int v2] [] μ) ∧ (¬ v1 ≤ v2 → ((μ.1 kA 13) = 0 → κ 61 [.ref kA, .int v1, .int v2] [] μ) ∧ (¬ (μ.1 kA 13) = 0 → (vp_in v2 5) ∧ ((vp_in (μ.1 kA_tried (v2).toNatClampNeg) 20) ∧ ((2 ≤ (μ.1 kD_left ((μ.1 kA_tried (v2).toNatClampNeg)).toNatClampNeg) → κ 55 [.ref kA, .int v1, .int v2] [] μ) ∧ (¬ 2 ≤ (μ.1 kD_left ((μ.1 kA_tried (v2).toNatClampNeg)).toNatClampNeg) → κ 55 [.ref kA, .int v1, .int v2] [] (m2_si μ kR_cost ((μ.1 kA_tried (v2).toNatClampNeg)).toNatClampNeg 0))))))) : κ 10 [.ref kA, .int v1, .int v2] [] μ := by
  have hB := h.b
  refine m2_iload_n hB dX5_tryOther_10 rfl ?_
  refine m2_iload_n hB dX5_tryOther_11 rfl ?_
  refine m2_icmp_ge hB dX5_tryOther_12 (tgt := 61) (by decide) (fun q2 : v1 ≤ v2 => ?_) (fun q2 : ¬ v1 ≤ v2 => ?_)
  · replace k := k.1 q2
    exact k
  · replace k := k.2 q2
    refine m2_aload_n hB dX5_tryOther_15 rfl ?_
    refine m2_getI hB dX5_tryOther_16 fl_X5_42 sh_kA rfl ?_
    refine m2_if_eq hB dX5_tryOther_19 (tgt := 61) (by decide) (fun q4 : (μ.1 kA 13) = 0 => ?_) (fun q4 : ¬ (μ.1 kA 13) = 0 => ?_)
    · replace k := k.1 q4
      exact k
    · replace k := k.2 q4
      refine m2_aload_n hB dX5_tryOther_22 rfl ?_
      refine m2_getR hB dX5_tryOther_23 fl_X5_24 sh_kA (c1 := kD) rfl ?_
      refine m2_getR hB dX5_tryOther_26 fl_X5_82 sh_kD (c1 := kD_left) rfl ?_
      refine m2_aload_n hB dX5_tryOther_29 rfl ?_
      refine m2_getR hB dX5_tryOther_30 fl_X5_15 sh_kA (c1 := kA_tried) rfl ?_
      refine m2_iload_n hB dX5_tryOther_33 rfl ?_
      obtain ⟨hi5, k⟩ := k
      refine m2_iald hB dX5_tryOther_34 sh_kA_tried hi5 ?_
      obtain ⟨hi6, k⟩ := k
      refine m2_iald hB dX5_tryOther_35 sh_kD_left hi6 ?_
      refine m2_iconst hB dX5_tryOther_36 (v := 2) (by decide) ?_
      refine m2_icmp_ge hB dX5_tryOther_37 (tgt := 55) (by decide) (fun q8 : 2 ≤ (μ.1 kD_left ((μ.1 kA_tried (v2).toNatClampNeg)).toNatClampNeg) => ?_) (fun q8 : ¬ 2 ≤ (μ.1 kD_left ((μ.1 kA_tried (v2).toNatClampNeg)).toNatClampNeg) => ?_)
      · replace k := k.1 q8
        exact k
      · replace k := k.2 q8
        refine m2_aload_n hB dX5_tryOther_40 rfl ?_
        refine m2_getR hB dX5_tryOther_41 fl_X5_28 sh_kA (c1 := kR) rfl ?_
        refine m2_getR hB dX5_tryOther_44 fl_X5_93 sh_kR (c1 := kR_cost) rfl ?_
        refine m2_aload_n hB dX5_tryOther_47 rfl ?_
        refine m2_getR hB dX5_tryOther_48 fl_X5_15 sh_kA (c1 := kA_tried) rfl ?_
        refine m2_iload_n hB dX5_tryOther_51 rfl ?_
        have hi9 := hi5
        refine m2_iald hB dX5_tryOther_52 sh_kA_tried hi9 ?_
        refine m2_iconst hB dX5_tryOther_53 (v := 0) (by decide) ?_
        have hi10 := hi6
        refine m2_iast hB dX5_tryOther_54 sh_kR_cost hi10 ?_
        exact k
set_option maxRecDepth 100000 in
set_option maxHeartbeats 4000000 in
theorem B_X5_tryOther_55 {κ : Nat → List Value → List Value → m2M → Prop} {D : Nat} {Q : Option Value → m2M → Prop} (h : m2_RL κ cX5_tryOther RX5 3 D none Q) {v1 : Int32} {v2 : Int32} {μ : m2M} (k : κ 10 [.ref kA, .int v1, .int (v2 + 1)] [] μ) : κ 55 [.ref kA, .int v1, .int v2] [] μ := by
  have hB := h.b
  refine m2_iinc hB (ls' := [.ref kA, .int v1, .int (v2 + 1)]) (v := (v2 + 1)) dX5_tryOther_55 rfl (by decide) rfl rfl ?_
  refine m2_goto hB dX5_tryOther_58 (tgt := 10) (by decide) ?_
  exact k
set_option maxRecDepth 100000 in
set_option maxHeartbeats 4000000 in
theorem B_X5_tryOther_61 {κ : Nat → List Value → List Value → m2M → Prop} {D : Nat} {Q : Option Value → m2M → Prop} (h : m2_RL κ cX5_tryOther RX5 3 (D + 1) none Q) {v1 : Int32} {v2 : Int32} {μ : m2M} (k : ∃ Q3 : Option Value → m2M → Prop, m2_MT D yX8_find cX8_find 3 (some .int) [.ref kR, .int (μ.1 kA 10), .int (μ.1 kA 11)] μ Q3 ∧ ∀ (y1 : Int32) (μ2 : m2M), Q3 (some (.int y1)) μ2 → ((y1 = (-1) → κ 97 [.ref kA, .int v1, .int y1] [] μ2) ∧ (¬ y1 = (-1) → (5 < y1 → κ 97 [.ref kA, .int v1, .int y1] [] μ2) ∧ (¬ 5 < y1 → ((v1 + y1) < (μ2.1 kA 8) → (¬ v1 < 0) ∧ ((((0 : Int32)).toNatClampNeg + (v1).toNatClampNeg ≤ 5) ∧ ((¬ y1 < 0) ∧ ((((0 : Int32)).toNatClampNeg + (y1).toNatClampNeg ≤ 12) ∧ ((((0 : Int32)).toNatClampNeg + (y1).toNatClampNeg ≤ 5) ∧ (Q none (m2_sr (m2_sr (m2_si (m2_si (m2_si μ2 kA 8 (v1 + y1)) kA 5 v1) kA 7 y1) kA_first (va_cpy (((m2_si (m2_si (m2_si μ2 kA 8 (v1 + y1)) kA 5 v1) kA 7 y1)).1 kA_tried) (((m2_si (m2_si (m2_si μ2 kA 8 (v1 + y1)) kA 5 v1) kA 7 y1)).1 kA_first) ((0 : Int32)).toNatClampNeg ((0 : Int32)).toNatClampNeg (v1).toNatClampNeg)) kA_second (va_cpy (((m2_sr (m2_si (m2_si (m2_si μ2 kA 8 (v1 + y1)) kA 5 v1) kA 7 y1) kA_first (va_cpy (((m2_si (m2_si (m2_si μ2 kA 8 (v1 + y1)) kA 5 v1) kA 7 y1)).1 kA_tried) (((m2_si (m2_si (m2_si μ2 kA 8 (v1 + y1)) kA 5 v1) kA 7 y1)).1 kA_first) ((0 : Int32)).toNatClampNeg ((0 : Int32)).toNatClampNeg (v1).toNatClampNeg))).1 kR_found) (((m2_sr (m2_si (m2_si (m2_si μ2 kA 8 (v1 + y1)) kA 5 v1) kA 7 y1) kA_first (va_cpy (((m2_si (m2_si (m2_si μ2 kA 8 (v1 + y1)) kA 5 v1) kA 7 y1)).1 kA_tried) (((m2_si (m2_si (m2_si μ2 kA 8 (v1 + y1)) kA 5 v1) kA 7 y1)).1 kA_first) ((0 : Int32)).toNatClampNeg ((0 : Int32)).toNatClampNeg (v1).toNatClampNeg))).1 kA_second) ((0 : Int32)).toNatClampNeg ((0 : Int32)).toNatClampNeg (y1).toNatClampNeg)))))))) ∧ (¬ (v1 + y1) < (μ2.1 kA 8) → κ 97 [.ref kA, .int v1, .int y1] [] μ2))))) : κ 61 [.ref kA, .int v1, .int v2] [] μ := by
  have hB := h.b
  refine m2_aload_n hB dX5_tryOther_61 rfl ?_
  refine m2_getR hB dX5_tryOther_62 fl_X5_28 sh_kA (c1 := kR) rfl ?_
  refine m2_aload_n hB dX5_tryOther_65 rfl ?_
  refine m2_getI hB dX5_tryOther_66 fl_X5_36 sh_kA rfl ?_
  refine m2_aload_n hB dX5_tryOther_69 rfl ?_
  refine m2_getI hB dX5_tryOther_70 fl_X5_39 sh_kA rfl ?_
  obtain ⟨Q3, hM4, k⟩ := k
  refine m2_invi hB (as := [.int (μ.1 kA 10), .int (μ.1 kA 11)]) dX5_tryOther_73 mv_X5_96 rfl sh_kR rfl (Nat.le_of_ble_eq_true rfl) rfl hM4 (fun y1 μ2 hq5 => ?_)
  replace k := k y1 μ2 hq5
  refine m2_istore_n hB (ls' := [.ref kA, .int v1, .int y1]) dX5_tryOther_76 rfl (by decide) rfl ?_
  refine m2_iload_n hB dX5_tryOther_77 rfl ?_
  refine m2_iconst hB dX5_tryOther_78 (v := (-1)) (by decide) ?_
  refine m2_icmp_eq hB dX5_tryOther_79 (tgt := 97) (by decide) (fun q6 : y1 = (-1) => ?_) (fun q6 : ¬ y1 = (-1) => ?_)
  · replace k := k.1 q6
    exact k
  · replace k := k.2 q6
    refine m2_iload_n hB dX5_tryOther_82 rfl ?_
    refine m2_iconst hB dX5_tryOther_83 (v := 5) (by decide) ?_
    refine m2_icmp_gt hB dX5_tryOther_84 (tgt := 97) (by decide) (fun q7 : 5 < y1 => ?_) (fun q7 : ¬ 5 < y1 => ?_)
    · replace k := k.1 q7
      exact k
    · replace k := k.2 q7
      refine m2_iload_n hB dX5_tryOther_87 rfl ?_
      refine m2_iload_n hB dX5_tryOther_88 rfl ?_
      refine m2_iadd hB dX5_tryOther_89 ?_
      refine m2_aload_n hB dX5_tryOther_90 rfl ?_
      refine m2_getI hB dX5_tryOther_91 fl_X5_46 sh_kA rfl ?_
      refine m2_icmp_lt hB dX5_tryOther_94 (tgt := 98) (by decide) (fun q8 : (v1 + y1) < (μ2.1 kA 8) => ?_) (fun q8 : ¬ (v1 + y1) < (μ2.1 kA 8) => ?_)
      · replace k := k.1 q8
        refine m2_aload_n hB dX5_tryOther_98 rfl ?_
        refine m2_iload_n hB dX5_tryOther_99 rfl ?_
        refine m2_iload_n hB dX5_tryOther_100 rfl ?_
        refine m2_iadd hB dX5_tryOther_101 ?_
        refine m2_putI hB dX5_tryOther_102 fl_X5_46 sh_kA rfl ?_
        refine m2_aload_n hB dX5_tryOther_105 rfl ?_
        refine m2_iload_n hB dX5_tryOther_106 rfl ?_
        refine m2_putI hB dX5_tryOther_107 fl_X5_99 sh_kA rfl ?_
        refine m2_aload_n hB dX5_tryOther_110 rfl ?_
        refine m2_iload_n hB dX5_tryOther_111 rfl ?_
        refine m2_putI hB dX5_tryOther_112 fl_X5_102 sh_kA rfl ?_
        refine m2_aload_n hB dX5_tryOther_115 rfl ?_
        refine m2_getR hB dX5_tryOther_116 fl_X5_15 sh_kA (c1 := kA_tried) rfl ?_
        refine m2_iconst hB dX5_tryOther_119 (v := 0) (by decide) ?_
        refine m2_aload_n hB dX5_tryOther_120 rfl ?_
        refine m2_getR hB dX5_tryOther_121 fl_X5_18 sh_kA (c1 := kA_first) rfl ?_
        refine m2_iconst hB dX5_tryOther_124 (v := 0) (by decide) ?_
        refine m2_iload_n hB dX5_tryOther_125 rfl ?_
        obtain ⟨hc11, k⟩ := k
        obtain ⟨hc12, k⟩ := k
        have hc13 := hc12
        refine m2_copyi hB dX5_tryOther_126 ac_X5_64 ac_nat ac_stat ac_ini (Nat.le_of_ble_eq_true rfl) sh_kA_tried sh_kA_first (by decide) (by decide) hc11 hc12 hc13 ?_
        refine m2_aload_n hB dX5_tryOther_129 rfl ?_
        refine m2_getR hB dX5_tryOther_130 fl_X5_28 sh_kA (c1 := kR) rfl ?_
        refine m2_getR hB dX5_tryOther_133 fl_X5_105 sh_kR (c1 := kR_found) rfl ?_
        refine m2_iconst hB dX5_tryOther_136 (v := 0) (by decide) ?_
        refine m2_aload_n hB dX5_tryOther_137 rfl ?_
        refine m2_getR hB dX5_tryOther_138 fl_X5_21 sh_kA (c1 := kA_second) rfl ?_
        refine m2_iconst hB dX5_tryOther_141 (v := 0) (by decide) ?_
        refine m2_iload_n hB dX5_tryOther_142 rfl ?_
        obtain ⟨hc16, k⟩ := k
        obtain ⟨hc17, k⟩ := k
        obtain ⟨hc18, k⟩ := k
        refine m2_copyi hB dX5_tryOther_143 ac_X5_64 ac_nat ac_stat ac_ini (Nat.le_of_ble_eq_true rfl) sh_kR_found sh_kA_second (by decide) (by decide) hc16 hc17 hc18 ?_
        exact m2_vret h dX5_tryOther_146 k
      · replace k := k.2 q8
        exact k
set_option maxRecDepth 100000 in
set_option maxHeartbeats 4000000 in
theorem B_X5_tryOther_97 {κ : Nat → List Value → List Value → m2M → Prop} {D : Nat} {Q : Option Value → m2M → Prop} (h : m2_RL κ cX5_tryOther RX5 3 D none Q) {v1 : Int32} {v2 : Int32} {μ : m2M} (k : Q none μ) : κ 97 [.ref kA, .int v1, .int v2] [] μ := by
  have hB := h.b
  exact m2_vret h dX5_tryOther_97 k
theorem dX8_useAbove_0 : decode cX8_useAbove 0 = .ok (.iconst 0, 1) := by decide +kernel
theorem dX8_useAbove_1 : decode cX8_useAbove 1 = .ok (.istore_n 2, 1) := by decide +kernel
theorem dX8_useAbove_2 : decode cX8_useAbove 2 = .ok (.iload_n 2, 1) := by decide +kernel
theorem dX8_useAbove_3 : decode cX8_useAbove 3 = .ok (.aload_n 0, 1) := by decide +kernel
theorem dX8_useAbove_4 : decode cX8_useAbove 4 = .ok (.getfield 24, 3) := by decide +kernel
theorem dX8_useAbove_7 : decode cX8_useAbove 7 = .ok (.getfield 28, 3) := by decide +kernel
theorem dX8_useAbove_10 : decode cX8_useAbove 10 = .ok (.if_icmp .ge 36, 3) := by decide +kernel
theorem dX8_useAbove_13 : decode cX8_useAbove 13 = .ok (.aload_n 0, 1) := by decide +kernel
theorem dX8_useAbove_14 : decode cX8_useAbove 14 = .ok (.getfield 9, 3) := by decide +kernel
theorem dX8_useAbove_17 : decode cX8_useAbove 17 = .ok (.iload_n 2, 1) := by decide +kernel
theorem dX8_useAbove_18 : decode cX8_useAbove 18 = .ok (.aload_n 0, 1) := by decide +kernel
theorem dX8_useAbove_19 : decode cX8_useAbove 19 = .ok (.getfield 24, 3) := by decide +kernel
theorem dX8_useAbove_22 : decode cX8_useAbove 22 = .ok (.getfield 34, 3) := by decide +kernel
theorem dX8_useAbove_25 : decode cX8_useAbove 25 = .ok (.iload_n 2, 1) := by decide +kernel
theorem dX8_useAbove_26 : decode cX8_useAbove 26 = .ok (.iaload, 1) := by decide +kernel
theorem dX8_useAbove_27 : decode cX8_useAbove 27 = .ok (.iload_n 1, 1) := by decide +kernel
theorem dX8_useAbove_28 : decode cX8_useAbove 28 = .ok (.if_icmp .le 7, 3) := by decide +kernel
theorem dX8_useAbove_31 : decode cX8_useAbove 31 = .ok (.iconst 1, 1) := by decide +kernel
theorem dX8_useAbove_32 : decode cX8_useAbove 32 = .ok (.goto 4, 3) := by decide +kernel
theorem dX8_useAbove_35 : decode cX8_useAbove 35 = .ok (.iconst 0, 1) := by decide +kernel
theorem dX8_useAbove_36 : decode cX8_useAbove 36 = .ok (.invokestatic 37, 3) := by decide +kernel
theorem dX8_useAbove_39 : decode cX8_useAbove 39 = .ok (.iastore, 1) := by decide +kernel
theorem dX8_useAbove_40 : decode cX8_useAbove 40 = .ok (.iinc 2 1, 3) := by decide +kernel
theorem dX8_useAbove_43 : decode cX8_useAbove 43 = .ok (.goto (-41), 3) := by decide +kernel
theorem dX8_useAbove_46 : decode cX8_useAbove 46 = .ok (.return_, 1) := by decide +kernel
set_option maxRecDepth 100000 in
set_option maxHeartbeats 4000000 in
theorem B_X8_useAbove_0 {κ : Nat → List Value → List Value → m2M → Prop} {D : Nat} {Q : Option Value → m2M → Prop} (h : m2_RL κ cX8_useAbove RX8 3 D none Q) {x1 : Int32} {μ : m2M} (k : κ 2 [.ref kR, .int x1, .int 0] [] μ) : κ 0 [.ref kR, .int x1, .null] [] μ := by
  have hB := h.b
  refine m2_iconst hB dX8_useAbove_0 (v := 0) (by decide) ?_
  refine m2_istore_n hB (ls' := [.ref kR, .int x1, .int 0]) dX8_useAbove_1 rfl (by decide) rfl ?_
  exact k
set_option maxRecDepth 100000 in
set_option maxHeartbeats 4000000 in
theorem B_X8_useAbove_2 {κ : Nat → List Value → List Value → m2M → Prop} {D : Nat} {Q : Option Value → m2M → Prop} (h : m2_RL κ cX8_useAbove RX8 3 (D + 1) none Q) (hD : 0 ≤ D) {v1 : Int32} {v2 : Int32} {μ : m2M} (k : ((μ.1 kD 6) ≤ v2 → Q none μ) ∧ (¬ (μ.1 kD 6) ≤ v2 → (vp_in v2 20) ∧ (κ 2 [.ref kR, .int v1, .int (v2 + 1)] [] (m2_si μ kR_cost (v2).toNatClampNeg (if (μ.1 kD_left (v2).toNatClampNeg) ≤ v1 then 0 else 1 : Int32))))) : κ 2 [.ref kR, .int v1, .int v2] [] μ := by
  have hB := h.b
  refine m2_iload_n hB dX8_useAbove_2 rfl ?_
  refine m2_aload_n hB dX8_useAbove_3 rfl ?_
  refine m2_getR hB dX8_useAbove_4 fl_X8_24 sh_kR (c1 := kD) rfl ?_
  refine m2_getI hB dX8_useAbove_7 fl_X8_28 sh_kD rfl ?_
  refine m2_icmp_ge hB dX8_useAbove_10 (tgt := 46) (by decide) (fun q2 : (μ.1 kD 6) ≤ v2 => ?_) (fun q2 : ¬ (μ.1 kD 6) ≤ v2 => ?_)
  · replace k := k.1 q2
    exact m2_vret h dX8_useAbove_46 k
  · replace k := k.2 q2
    refine m2_aload_n hB dX8_useAbove_13 rfl ?_
    refine m2_getR hB dX8_useAbove_14 fl_X8_9 sh_kR (c1 := kR_cost) rfl ?_
    refine m2_iload_n hB dX8_useAbove_17 rfl ?_
    refine m2_aload_n hB dX8_useAbove_18 rfl ?_
    refine m2_getR hB dX8_useAbove_19 fl_X8_24 sh_kR (c1 := kD) rfl ?_
    refine m2_getR hB dX8_useAbove_22 fl_X8_34 sh_kD (c1 := kD_left) rfl ?_
    refine m2_iload_n hB dX8_useAbove_25 rfl ?_
    obtain ⟨hi3, k⟩ := k
    refine m2_iald hB dX8_useAbove_26 sh_kD_left hi3 ?_
    refine m2_iload_n hB dX8_useAbove_27 rfl ?_
    have G5 : κ 36 [.ref kR, .int v1, .int v2] [.int (if (μ.1 kD_left (v2).toNatClampNeg) ≤ v1 then 0 else 1 : Int32), .int v2, .ref kR_cost] μ := by
      refine m2_invNi hB (as := [.int (if (μ.1 kD_left (v2).toNatClampNeg) ≤ v1 then 0 else 1 : Int32)]) dX8_useAbove_36 mn_X8_37 rfl (Nat.le_of_ble_eq_true rfl) rfl (P_X11_asNumber (by omega) ((if (μ.1 kD_left (v2).toNatClampNeg) ≤ v1 then 0 else 1 : Int32)) _ ) (fun y6 μ7 hq8 => ?_)
      obtain ⟨⟨⟩, hq8⟩ := hq8
      subst μ7
      rw [show (if (if (μ.1 kD_left (v2).toNatClampNeg) ≤ v1 then 0 else 1 : Int32) = 0 then 0 else 1 : Int32) = (if (μ.1 kD_left (v2).toNatClampNeg) ≤ v1 then 0 else 1 : Int32) from by by_cases zz : (μ.1 kD_left (v2).toNatClampNeg) ≤ v1 <;> simp [zz]]
      have hi9 := hi3
      refine m2_iast hB dX8_useAbove_39 sh_kR_cost hi9 ?_
      refine m2_iinc hB (ls' := [.ref kR, .int v1, .int (v2 + 1)]) (v := (v2 + 1)) dX8_useAbove_40 rfl (by decide) rfl rfl ?_
      refine m2_goto hB dX8_useAbove_43 (tgt := 2) (by decide) ?_
      exact k
    refine m2_icmp_le hB dX8_useAbove_28 (tgt := 35) (by decide) (fun q4 : (μ.1 kD_left (v2).toNatClampNeg) ≤ v1 => ?_) (fun q4 : ¬ (μ.1 kD_left (v2).toNatClampNeg) ≤ v1 => ?_)
    · rw [if_pos q4] at G5
      refine m2_iconst hB dX8_useAbove_35 (v := 0) (by decide) ?_
      exact G5
    · rw [if_neg q4] at G5
      refine m2_iconst hB dX8_useAbove_31 (v := 1) (by decide) ?_
      refine m2_goto hB dX8_useAbove_32 (tgt := 36) (by decide) ?_
      exact G5
theorem dX8_useNone_0 : decode cX8_useNone 0 = .ok (.aload_n 0, 1) := by decide +kernel
theorem dX8_useNone_1 : decode cX8_useNone 1 = .ok (.getfield 9, 3) := by decide +kernel
theorem dX8_useNone_4 : decode cX8_useNone 4 = .ok (.iconst 0, 1) := by decide +kernel
theorem dX8_useNone_5 : decode cX8_useNone 5 = .ok (.invokestatic 41, 3) := by decide +kernel
theorem dX8_useNone_8 : decode cX8_useNone 8 = .ok (.return_, 1) := by decide +kernel
set_option maxRecDepth 100000 in
set_option maxHeartbeats 4000000 in
theorem B_X8_useNone_0 {κ : Nat → List Value → List Value → m2M → Prop} {D : Nat} {Q : Option Value → m2M → Prop} (h : m2_RL κ cX8_useNone RX8 1 (D + 1) none Q)  {μ : m2M} (k : ∃ Q3 : Option Value → m2M → Prop, m2_MT D yJ7_fill_53178 cJ7_fill_53178 4 none [.ref kR_cost, .int 0] μ Q3 ∧ ∀ (μ2 : m2M), Q3 none μ2 → (Q none μ2)) : κ 0 [.ref kR] [] μ := by
  have hB := h.b
  refine m2_aload_n hB dX8_useNone_0 rfl ?_
  refine m2_getR hB dX8_useNone_1 fl_X8_9 sh_kR (c1 := kR_cost) rfl ?_
  refine m2_iconst hB dX8_useNone_4 (v := 0) (by decide) ?_
  obtain ⟨Q3, hM4, k⟩ := k
  refine m2_invSv hB (as := [.ref kR_cost, .int 0]) dX8_useNone_5 ms_X8_41 rfl (Nat.le_of_ble_eq_true rfl) rfl hM4 (fun μ2 hq5 => ?_)
  replace k := k μ2 hq5
  exact m2_vret h dX8_useNone_8 k
theorem dX8_find_0 : decode cX8_find 0 = .ok (.aload_n 0, 1) := by decide +kernel
theorem dX8_find_1 : decode cX8_find 1 = .ok (.iload_n 2, 1) := by decide +kernel
theorem dX8_find_2 : decode cX8_find 2 = .ok (.invokevirtual 47, 3) := by decide +kernel
theorem dX8_find_5 : decode cX8_find 5 = .ok (.aload_n 0, 1) := by decide +kernel
theorem dX8_find_6 : decode cX8_find 6 = .ok (.invokevirtual 51, 3) := by decide +kernel
theorem dX8_find_9 : decode cX8_find 9 = .ok (.aload_n 0, 1) := by decide +kernel
theorem dX8_find_10 : decode cX8_find 10 = .ok (.iload_n 1, 1) := by decide +kernel
theorem dX8_find_11 : decode cX8_find 11 = .ok (.iload_n 2, 1) := by decide +kernel
theorem dX8_find_12 : decode cX8_find 12 = .ok (.invokevirtual 54, 3) := by decide +kernel
theorem dX8_find_15 : decode cX8_find 15 = .ok (.ireturn, 1) := by decide +kernel
set_option maxRecDepth 100000 in
set_option maxHeartbeats 4000000 in
theorem B_X8_find_0 {κ : Nat → List Value → List Value → m2M → Prop} {D : Nat} {Q : Option Value → m2M → Prop} (h : m2_RL κ cX8_find RX8 3 (D + 1) (some .int) Q) {x1 : Int32} {x2 : Int32} {μ : m2M} (k : ∃ Q3 : Option Value → m2M → Prop, m2_MT D yX8_measure cX8_measure 7 none [.ref kR, .int x2] μ Q3 ∧ ∀ (μ2 : m2M), Q3 none μ2 → (∃ Q8 : Option Value → m2M → Prop, m2_MT D yX8_setSteps cX8_setSteps 4 none [.ref kR] μ2 Q8 ∧ ∀ (μ7 : m2M), Q8 none μ7 → (∃ Q13 : Option Value → m2M → Prop, m2_MT D yX8_trace cX8_trace 7 (some .int) [.ref kR, .int x1, .int x2] μ7 Q13 ∧ ∀ (y11 : Int32) (μ12 : m2M), Q13 (some (.int y11)) μ12 → (Q (some (.int y11)) μ12)))) : κ 0 [.ref kR, .int x1, .int x2] [] μ := by
  have hB := h.b
  refine m2_aload_n hB dX8_find_0 rfl ?_
  refine m2_iload_n hB dX8_find_1 rfl ?_
  obtain ⟨Q3, hM4, k⟩ := k
  refine m2_invv hB (as := [.int x2]) dX8_find_2 mv_X8_47 rfl sh_kR rfl (Nat.le_of_ble_eq_true rfl) rfl hM4 (fun μ2 hq5 => ?_)
  replace k := k μ2 hq5
  refine m2_aload_n hB dX8_find_5 rfl ?_
  obtain ⟨Q8, hM9, k⟩ := k
  refine m2_invv hB (as := []) dX8_find_6 mv_X8_51 rfl sh_kR rfl (Nat.le_of_ble_eq_true rfl) rfl hM9 (fun μ7 hq10 => ?_)
  replace k := k μ7 hq10
  refine m2_aload_n hB dX8_find_9 rfl ?_
  refine m2_iload_n hB dX8_find_10 rfl ?_
  refine m2_iload_n hB dX8_find_11 rfl ?_
  obtain ⟨Q13, hM14, k⟩ := k
  refine m2_invi hB (as := [.int x1, .int x2]) dX8_find_12 mv_X8_54 rfl sh_kR rfl (Nat.le_of_ble_eq_true rfl) rfl hM14 (fun y11 μ12 hq15 => ?_)
  replace k := k y11 μ12 hq15
  exact m2_iret h dX8_find_15 k
theorem dX8_measure_0 : decode cX8_measure 0 = .ok (.aload_n 0, 1) := by decide +kernel
theorem dX8_measure_1 : decode cX8_measure 1 = .ok (.getfield 15, 3) := by decide +kernel
theorem dX8_measure_4 : decode cX8_measure 4 = .ok (.ldc 58, 2) := by decide +kernel
theorem dX8_measure_6 : decode cX8_measure 6 = .ok (.invokestatic 41, 3) := by decide +kernel
theorem dX8_measure_9 : decode cX8_measure 9 = .ok (.aload_n 0, 1) := by decide +kernel
theorem dX8_measure_10 : decode cX8_measure 10 = .ok (.getfield 15, 3) := by decide +kernel
theorem dX8_measure_13 : decode cX8_measure 13 = .ok (.iload_n 1, 1) := by decide +kernel
theorem dX8_measure_14 : decode cX8_measure 14 = .ok (.iconst 0, 1) := by decide +kernel
theorem dX8_measure_15 : decode cX8_measure 15 = .ok (.iastore, 1) := by decide +kernel
theorem dX8_measure_16 : decode cX8_measure 16 = .ok (.iconst 1, 1) := by decide +kernel
theorem dX8_measure_17 : decode cX8_measure 17 = .ok (.istore_n 2, 1) := by decide +kernel
theorem dX8_measure_18 : decode cX8_measure 18 = .ok (.iconst 0, 1) := by decide +kernel
theorem dX8_measure_19 : decode cX8_measure 19 = .ok (.istore_n 3, 1) := by decide +kernel
theorem dX8_measure_20 : decode cX8_measure 20 = .ok (.iload_n 3, 1) := by decide +kernel
theorem dX8_measure_21 : decode cX8_measure 21 = .ok (.bipush 12, 2) := by decide +kernel
theorem dX8_measure_23 : decode cX8_measure 23 = .ok (.if_icmp .ge 187, 3) := by decide +kernel
theorem dX8_measure_26 : decode cX8_measure 26 = .ok (.iload_n 2, 1) := by decide +kernel
theorem dX8_measure_27 : decode cX8_measure 27 = .ok (.ifCond .eq 183, 3) := by decide +kernel
theorem dX8_measure_30 : decode cX8_measure 30 = .ok (.iconst 0, 1) := by decide +kernel
theorem dX8_measure_31 : decode cX8_measure 31 = .ok (.istore_n 2, 1) := by decide +kernel
theorem dX8_measure_32 : decode cX8_measure 32 = .ok (.iconst 0, 1) := by decide +kernel
theorem dX8_measure_33 : decode cX8_measure 33 = .ok (.istore 4, 2) := by decide +kernel
theorem dX8_measure_35 : decode cX8_measure 35 = .ok (.iload 4, 2) := by decide +kernel
theorem dX8_measure_37 : decode cX8_measure 37 = .ok (.aload_n 0, 1) := by decide +kernel
theorem dX8_measure_38 : decode cX8_measure 38 = .ok (.getfield 24, 3) := by decide +kernel
theorem dX8_measure_41 : decode cX8_measure 41 = .ok (.getfield 28, 3) := by decide +kernel
theorem dX8_measure_44 : decode cX8_measure 44 = .ok (.if_icmp .ge 160, 3) := by decide +kernel
theorem dX8_measure_47 : decode cX8_measure 47 = .ok (.aload_n 0, 1) := by decide +kernel
theorem dX8_measure_48 : decode cX8_measure 48 = .ok (.getfield 24, 3) := by decide +kernel
theorem dX8_measure_51 : decode cX8_measure 51 = .ok (.getfield 59, 3) := by decide +kernel
theorem dX8_measure_54 : decode cX8_measure 54 = .ok (.iload 4, 2) := by decide +kernel
theorem dX8_measure_56 : decode cX8_measure 56 = .ok (.iaload, 1) := by decide +kernel
theorem dX8_measure_57 : decode cX8_measure 57 = .ok (.istore 5, 2) := by decide +kernel
theorem dX8_measure_59 : decode cX8_measure 59 = .ok (.aload_n 0, 1) := by decide +kernel
theorem dX8_measure_60 : decode cX8_measure 60 = .ok (.getfield 24, 3) := by decide +kernel
theorem dX8_measure_63 : decode cX8_measure 63 = .ok (.getfield 62, 3) := by decide +kernel
theorem dX8_measure_66 : decode cX8_measure 66 = .ok (.iload 4, 2) := by decide +kernel
theorem dX8_measure_68 : decode cX8_measure 68 = .ok (.iaload, 1) := by decide +kernel
theorem dX8_measure_69 : decode cX8_measure 69 = .ok (.istore 6, 2) := by decide +kernel
theorem dX8_measure_71 : decode cX8_measure 71 = .ok (.aload_n 0, 1) := by decide +kernel
theorem dX8_measure_72 : decode cX8_measure 72 = .ok (.getfield 9, 3) := by decide +kernel
theorem dX8_measure_75 : decode cX8_measure 75 = .ok (.iload 4, 2) := by decide +kernel
theorem dX8_measure_77 : decode cX8_measure 77 = .ok (.iaload, 1) := by decide +kernel
theorem dX8_measure_78 : decode cX8_measure 78 = .ok (.ifCond .ne 6, 3) := by decide +kernel
theorem dX8_measure_81 : decode cX8_measure 81 = .ok (.goto 117, 3) := by decide +kernel
theorem dX8_measure_84 : decode cX8_measure 84 = .ok (.aload_n 0, 1) := by decide +kernel
theorem dX8_measure_85 : decode cX8_measure 85 = .ok (.getfield 15, 3) := by decide +kernel
theorem dX8_measure_88 : decode cX8_measure 88 = .ok (.iload 6, 2) := by decide +kernel
theorem dX8_measure_90 : decode cX8_measure 90 = .ok (.iaload, 1) := by decide +kernel
theorem dX8_measure_91 : decode cX8_measure 91 = .ok (.aload_n 0, 1) := by decide +kernel
theorem dX8_measure_92 : decode cX8_measure 92 = .ok (.getfield 9, 3) := by decide +kernel
theorem dX8_measure_95 : decode cX8_measure 95 = .ok (.iload 4, 2) := by decide +kernel
theorem dX8_measure_97 : decode cX8_measure 97 = .ok (.iaload, 1) := by decide +kernel
theorem dX8_measure_98 : decode cX8_measure 98 = .ok (.iadd, 1) := by decide +kernel
theorem dX8_measure_99 : decode cX8_measure 99 = .ok (.aload_n 0, 1) := by decide +kernel
theorem dX8_measure_100 : decode cX8_measure 100 = .ok (.getfield 15, 3) := by decide +kernel
theorem dX8_measure_103 : decode cX8_measure 103 = .ok (.iload 5, 2) := by decide +kernel
theorem dX8_measure_105 : decode cX8_measure 105 = .ok (.iaload, 1) := by decide +kernel
theorem dX8_measure_106 : decode cX8_measure 106 = .ok (.if_icmp .ge 30, 3) := by decide +kernel
theorem dX8_measure_109 : decode cX8_measure 109 = .ok (.aload_n 0, 1) := by decide +kernel
theorem dX8_measure_110 : decode cX8_measure 110 = .ok (.getfield 15, 3) := by decide +kernel
theorem dX8_measure_113 : decode cX8_measure 113 = .ok (.iload 5, 2) := by decide +kernel
theorem dX8_measure_115 : decode cX8_measure 115 = .ok (.aload_n 0, 1) := by decide +kernel
theorem dX8_measure_116 : decode cX8_measure 116 = .ok (.getfield 15, 3) := by decide +kernel
theorem dX8_measure_119 : decode cX8_measure 119 = .ok (.iload 6, 2) := by decide +kernel
theorem dX8_measure_121 : decode cX8_measure 121 = .ok (.iaload, 1) := by decide +kernel
theorem dX8_measure_122 : decode cX8_measure 122 = .ok (.aload_n 0, 1) := by decide +kernel
theorem dX8_measure_123 : decode cX8_measure 123 = .ok (.getfield 9, 3) := by decide +kernel
theorem dX8_measure_126 : decode cX8_measure 126 = .ok (.iload 4, 2) := by decide +kernel
theorem dX8_measure_128 : decode cX8_measure 128 = .ok (.iaload, 1) := by decide +kernel
theorem dX8_measure_129 : decode cX8_measure 129 = .ok (.iadd, 1) := by decide +kernel
theorem dX8_measure_130 : decode cX8_measure 130 = .ok (.iastore, 1) := by decide +kernel
theorem dX8_measure_131 : decode cX8_measure 131 = .ok (.iconst 1, 1) := by decide +kernel
theorem dX8_measure_132 : decode cX8_measure 132 = .ok (.istore_n 2, 1) := by decide +kernel
theorem dX8_measure_133 : decode cX8_measure 133 = .ok (.goto 65, 3) := by decide +kernel
theorem dX8_measure_136 : decode cX8_measure 136 = .ok (.aload_n 0, 1) := by decide +kernel
theorem dX8_measure_137 : decode cX8_measure 137 = .ok (.getfield 24, 3) := by decide +kernel
theorem dX8_measure_140 : decode cX8_measure 140 = .ok (.getfield 65, 3) := by decide +kernel
theorem dX8_measure_143 : decode cX8_measure 143 = .ok (.iload 4, 2) := by decide +kernel
theorem dX8_measure_145 : decode cX8_measure 145 = .ok (.baload, 1) := by decide +kernel
theorem dX8_measure_146 : decode cX8_measure 146 = .ok (.ifCond .ne 52, 3) := by decide +kernel
theorem dX8_measure_149 : decode cX8_measure 149 = .ok (.aload_n 0, 1) := by decide +kernel
theorem dX8_measure_150 : decode cX8_measure 150 = .ok (.getfield 15, 3) := by decide +kernel
theorem dX8_measure_153 : decode cX8_measure 153 = .ok (.iload 5, 2) := by decide +kernel
theorem dX8_measure_155 : decode cX8_measure 155 = .ok (.iaload, 1) := by decide +kernel
theorem dX8_measure_156 : decode cX8_measure 156 = .ok (.aload_n 0, 1) := by decide +kernel
theorem dX8_measure_157 : decode cX8_measure 157 = .ok (.getfield 9, 3) := by decide +kernel
theorem dX8_measure_160 : decode cX8_measure 160 = .ok (.iload 4, 2) := by decide +kernel
theorem dX8_measure_162 : decode cX8_measure 162 = .ok (.iaload, 1) := by decide +kernel
theorem dX8_measure_163 : decode cX8_measure 163 = .ok (.iadd, 1) := by decide +kernel
theorem dX8_measure_164 : decode cX8_measure 164 = .ok (.aload_n 0, 1) := by decide +kernel
theorem dX8_measure_165 : decode cX8_measure 165 = .ok (.getfield 15, 3) := by decide +kernel
theorem dX8_measure_168 : decode cX8_measure 168 = .ok (.iload 6, 2) := by decide +kernel
theorem dX8_measure_170 : decode cX8_measure 170 = .ok (.iaload, 1) := by decide +kernel
theorem dX8_measure_171 : decode cX8_measure 171 = .ok (.if_icmp .ge 27, 3) := by decide +kernel
theorem dX8_measure_174 : decode cX8_measure 174 = .ok (.aload_n 0, 1) := by decide +kernel
theorem dX8_measure_175 : decode cX8_measure 175 = .ok (.getfield 15, 3) := by decide +kernel
theorem dX8_measure_178 : decode cX8_measure 178 = .ok (.iload 6, 2) := by decide +kernel
theorem dX8_measure_180 : decode cX8_measure 180 = .ok (.aload_n 0, 1) := by decide +kernel
theorem dX8_measure_181 : decode cX8_measure 181 = .ok (.getfield 15, 3) := by decide +kernel
theorem dX8_measure_184 : decode cX8_measure 184 = .ok (.iload 5, 2) := by decide +kernel
theorem dX8_measure_186 : decode cX8_measure 186 = .ok (.iaload, 1) := by decide +kernel
theorem dX8_measure_187 : decode cX8_measure 187 = .ok (.aload_n 0, 1) := by decide +kernel
theorem dX8_measure_188 : decode cX8_measure 188 = .ok (.getfield 9, 3) := by decide +kernel
theorem dX8_measure_191 : decode cX8_measure 191 = .ok (.iload 4, 2) := by decide +kernel
theorem dX8_measure_193 : decode cX8_measure 193 = .ok (.iaload, 1) := by decide +kernel
theorem dX8_measure_194 : decode cX8_measure 194 = .ok (.iadd, 1) := by decide +kernel
theorem dX8_measure_195 : decode cX8_measure 195 = .ok (.iastore, 1) := by decide +kernel
theorem dX8_measure_196 : decode cX8_measure 196 = .ok (.iconst 1, 1) := by decide +kernel
theorem dX8_measure_197 : decode cX8_measure 197 = .ok (.istore_n 2, 1) := by decide +kernel
theorem dX8_measure_198 : decode cX8_measure 198 = .ok (.iinc 4 1, 3) := by decide +kernel
theorem dX8_measure_201 : decode cX8_measure 201 = .ok (.goto (-166), 3) := by decide +kernel
theorem dX8_measure_204 : decode cX8_measure 204 = .ok (.iinc 3 1, 3) := by decide +kernel
theorem dX8_measure_207 : decode cX8_measure 207 = .ok (.goto (-187), 3) := by decide +kernel
theorem dX8_measure_210 : decode cX8_measure 210 = .ok (.return_, 1) := by decide +kernel
set_option maxRecDepth 100000 in
set_option maxHeartbeats 4000000 in
theorem B_X8_measure_0 {κ : Nat → List Value → List Value → m2M → Prop} {D : Nat} {Q : Option Value → m2M → Prop} (h : m2_RL κ cX8_measure RX8 7 (D + 1) none Q) {x1 : Int32} {μ : m2M} (k : ∃ Q3 : Option Value → m2M → Prop, m2_MT D yJ7_fill_53178 cJ7_fill_53178 4 none [.ref kR_dist, .int 268435456] μ Q3 ∧ ∀ (μ2 : m2M), Q3 none μ2 → ((vp_in x1 12) ∧ (κ 20 [.ref kR, .int x1, .int 1, .int 0, .null, .null, .null] [] (m2_si μ2 kR_dist (x1).toNatClampNeg 0)))) : κ 0 [.ref kR, .int x1, .null, .null, .null, .null, .null] [] μ := by
  have hB := h.b
  refine m2_aload_n hB dX8_measure_0 rfl ?_
  refine m2_getR hB dX8_measure_1 fl_X8_15 sh_kR (c1 := kR_dist) rfl ?_
  refine m2_ldc hB kc_X8_58 dX8_measure_4 ?_
  obtain ⟨Q3, hM4, k⟩ := k
  refine m2_invSv hB (as := [.ref kR_dist, .int 268435456]) dX8_measure_6 ms_X8_41 rfl (Nat.le_of_ble_eq_true rfl) rfl hM4 (fun μ2 hq5 => ?_)
  replace k := k μ2 hq5
  refine m2_aload_n hB dX8_measure_9 rfl ?_
  refine m2_getR hB dX8_measure_10 fl_X8_15 sh_kR (c1 := kR_dist) rfl ?_
  refine m2_iload_n hB dX8_measure_13 rfl ?_
  refine m2_iconst hB dX8_measure_14 (v := 0) (by decide) ?_
  obtain ⟨hi6, k⟩ := k
  refine m2_iast hB dX8_measure_15 sh_kR_dist hi6 ?_
  refine m2_iconst hB dX8_measure_16 (v := 1) (by decide) ?_
  refine m2_istore_n hB (ls' := [.ref kR, .int x1, .int 1, .null, .null, .null, .null]) dX8_measure_17 rfl (by decide) rfl ?_
  refine m2_iconst hB dX8_measure_18 (v := 0) (by decide) ?_
  refine m2_istore_n hB (ls' := [.ref kR, .int x1, .int 1, .int 0, .null, .null, .null]) dX8_measure_19 rfl (by decide) rfl ?_
  exact k
set_option maxRecDepth 100000 in
set_option maxHeartbeats 4000000 in
theorem B_X8_measure_20 {κ : Nat → List Value → List Value → m2M → Prop} {D : Nat} {Q : Option Value → m2M → Prop} (h : m2_RL κ cX8_measure RX8 7 D none Q) {v1 : Int32} {v2 : Int32} {v3 : Int32} {μ : m2M} (k : (12 ≤ v3 → Q none μ) ∧ (¬ 12 ≤ v3 → (v2 = 0 → Q none μ) ∧ (¬ v2 = 0 → κ 35 [.ref kR, .int v1, .int 0, .int v3, .int 0, .null, .null] [] μ))) : κ 20 [.ref kR, .int v1, .int v2, .int v3, .null, .null, .null] [] μ := by
  have hB := h.b
  refine m2_iload_n hB dX8_measure_20 rfl ?_
  refine m2_bipush hB dX8_measure_21 (v := 12) (by decide) ?_
  refine m2_icmp_ge hB dX8_measure_23 (tgt := 210) (by decide) (fun q1 : 12 ≤ v3 => ?_) (fun q1 : ¬ 12 ≤ v3 => ?_)
  · replace k := k.1 q1
    exact m2_vret h dX8_measure_210 k
  · replace k := k.2 q1
    refine m2_iload_n hB dX8_measure_26 rfl ?_
    refine m2_if_eq hB dX8_measure_27 (tgt := 210) (by decide) (fun q2 : v2 = 0 => ?_) (fun q2 : ¬ v2 = 0 => ?_)
    · replace k := k.1 q2
      exact m2_vret h dX8_measure_210 k
    · replace k := k.2 q2
      refine m2_iconst hB dX8_measure_30 (v := 0) (by decide) ?_
      refine m2_istore_n hB (ls' := [.ref kR, .int v1, .int 0, .int v3, .null, .null, .null]) dX8_measure_31 rfl (by decide) rfl ?_
      refine m2_iconst hB dX8_measure_32 (v := 0) (by decide) ?_
      refine m2_istore hB (ls' := [.ref kR, .int v1, .int 0, .int v3, .int 0, .null, .null]) dX8_measure_33 (by decide) rfl ?_
      exact k
set_option maxRecDepth 100000 in
set_option maxHeartbeats 4000000 in
theorem B_X8_measure_35 {κ : Nat → List Value → List Value → m2M → Prop} {D : Nat} {Q : Option Value → m2M → Prop} (h : m2_RL κ cX8_measure RX8 7 D none Q) {v1 : Int32} {v2 : Int32} {v3 : Int32} {v4 : Int32} {μ : m2M} (k : ((μ.1 kD 6) ≤ v4 → κ 20 [.ref kR, .int v1, .int v2, .int (v3 + 1), .null, .null, .null] [] μ) ∧ (¬ (μ.1 kD 6) ≤ v4 → (vp_in v4 20) ∧ ((¬ (μ.1 kR_cost (v4).toNatClampNeg) = 0 → (vp_in (μ.1 kD_b (v4).toNatClampNeg) 12) ∧ ((vp_in (μ.1 kD_a (v4).toNatClampNeg) 12) ∧ (((μ.1 kR_dist ((μ.1 kD_a (v4).toNatClampNeg)).toNatClampNeg) ≤ ((μ.1 kR_dist ((μ.1 kD_b (v4).toNatClampNeg)).toNatClampNeg) + (μ.1 kR_cost (v4).toNatClampNeg)) → (¬ (μ.1 kD_oneWay (v4).toNatClampNeg) = 0 → κ 35 [.ref kR, .int v1, .int v2, .int v3, .int (v4 + 1), .null, .null] [] μ) ∧ ((μ.1 kD_oneWay (v4).toNatClampNeg) = 0 → ((μ.1 kR_dist ((μ.1 kD_b (v4).toNatClampNeg)).toNatClampNeg) ≤ ((μ.1 kR_dist ((μ.1 kD_a (v4).toNatClampNeg)).toNatClampNeg) + (μ.1 kR_cost (v4).toNatClampNeg)) → κ 35 [.ref kR, .int v1, .int v2, .int v3, .int (v4 + 1), .null, .null] [] μ) ∧ (¬ (μ.1 kR_dist ((μ.1 kD_b (v4).toNatClampNeg)).toNatClampNeg) ≤ ((μ.1 kR_dist ((μ.1 kD_a (v4).toNatClampNeg)).toNatClampNeg) + (μ.1 kR_cost (v4).toNatClampNeg)) → κ 35 [.ref kR, .int v1, .int 1, .int v3, .int (v4 + 1), .null, .null] [] (m2_si μ kR_dist ((μ.1 kD_b (v4).toNatClampNeg)).toNatClampNeg ((μ.1 kR_dist ((μ.1 kD_a (v4).toNatClampNeg)).toNatClampNeg) + (μ.1 kR_cost (v4).toNatClampNeg)))))) ∧ (¬ (μ.1 kR_dist ((μ.1 kD_a (v4).toNatClampNeg)).toNatClampNeg) ≤ ((μ.1 kR_dist ((μ.1 kD_b (v4).toNatClampNeg)).toNatClampNeg) + (μ.1 kR_cost (v4).toNatClampNeg)) → κ 35 [.ref kR, .int v1, .int 1, .int v3, .int (v4 + 1), .null, .null] [] (m2_si μ kR_dist ((μ.1 kD_a (v4).toNatClampNeg)).toNatClampNeg ((μ.1 kR_dist ((μ.1 kD_b (v4).toNatClampNeg)).toNatClampNeg) + (μ.1 kR_cost (v4).toNatClampNeg))))))) ∧ ((μ.1 kR_cost (v4).toNatClampNeg) = 0 → κ 35 [.ref kR, .int v1, .int v2, .int v3, .int (v4 + 1), .null, .null] [] μ)))) : κ 35 [.ref kR, .int v1, .int v2, .int v3, .int v4, .null, .null] [] μ := by
  have hB := h.b
  refine m2_iload hB dX8_measure_35 rfl ?_
  refine m2_aload_n hB dX8_measure_37 rfl ?_
  refine m2_getR hB dX8_measure_38 fl_X8_24 sh_kR (c1 := kD) rfl ?_
  refine m2_getI hB dX8_measure_41 fl_X8_28 sh_kD rfl ?_
  refine m2_icmp_ge hB dX8_measure_44 (tgt := 204) (by decide) (fun q2 : (μ.1 kD 6) ≤ v4 => ?_) (fun q2 : ¬ (μ.1 kD 6) ≤ v4 => ?_)
  · replace k := k.1 q2
    refine m2_iinc hB (ls' := [.ref kR, .int v1, .int v2, .int (v3 + 1), .int v4, .null, .null]) (v := (v3 + 1)) dX8_measure_204 rfl (by decide) rfl rfl ?_
    refine m2_goto hB dX8_measure_207 (tgt := 20) (by decide) ?_
    exact m2_weak (ls' := [.ref kR, .int v1, .int v2, .int (v3 + 1), .null, .null, .null]) hB ⟨Or.inr rfl, Or.inr rfl, Or.inr rfl, Or.inr rfl, Or.inl rfl, Or.inl rfl, Or.inl rfl, trivial⟩ k
  · replace k := k.2 q2
    refine m2_aload_n hB dX8_measure_47 rfl ?_
    refine m2_getR hB dX8_measure_48 fl_X8_24 sh_kR (c1 := kD) rfl ?_
    refine m2_getR hB dX8_measure_51 fl_X8_59 sh_kD (c1 := kD_a) rfl ?_
    refine m2_iload hB dX8_measure_54 rfl ?_
    obtain ⟨hi3, k⟩ := k
    refine m2_iald hB dX8_measure_56 sh_kD_a hi3 ?_
    refine m2_istore hB (ls' := [.ref kR, .int v1, .int v2, .int v3, .int v4, .int (μ.1 kD_a (v4).toNatClampNeg), .null]) dX8_measure_57 (by decide) rfl ?_
    refine m2_aload_n hB dX8_measure_59 rfl ?_
    refine m2_getR hB dX8_measure_60 fl_X8_24 sh_kR (c1 := kD) rfl ?_
    refine m2_getR hB dX8_measure_63 fl_X8_62 sh_kD (c1 := kD_b) rfl ?_
    refine m2_iload hB dX8_measure_66 rfl ?_
    have hi4 := hi3
    refine m2_iald hB dX8_measure_68 sh_kD_b hi4 ?_
    refine m2_istore hB (ls' := [.ref kR, .int v1, .int v2, .int v3, .int v4, .int (μ.1 kD_a (v4).toNatClampNeg), .int (μ.1 kD_b (v4).toNatClampNeg)]) dX8_measure_69 (by decide) rfl ?_
    refine m2_aload_n hB dX8_measure_71 rfl ?_
    refine m2_getR hB dX8_measure_72 fl_X8_9 sh_kR (c1 := kR_cost) rfl ?_
    refine m2_iload hB dX8_measure_75 rfl ?_
    have hi5 := hi3
    refine m2_iald hB dX8_measure_77 sh_kR_cost hi5 ?_
    refine m2_if_ne hB dX8_measure_78 (tgt := 84) (by decide) (fun q7 : ¬ (μ.1 kR_cost (v4).toNatClampNeg) = 0 => ?_) (fun q7 : (μ.1 kR_cost (v4).toNatClampNeg) = 0 => ?_)
    · replace k := k.1 q7
      refine m2_aload_n hB dX8_measure_84 rfl ?_
      refine m2_getR hB dX8_measure_85 fl_X8_15 sh_kR (c1 := kR_dist) rfl ?_
      refine m2_iload hB dX8_measure_88 rfl ?_
      obtain ⟨hi8, k⟩ := k
      refine m2_iald hB dX8_measure_90 sh_kR_dist hi8 ?_
      refine m2_aload_n hB dX8_measure_91 rfl ?_
      refine m2_getR hB dX8_measure_92 fl_X8_9 sh_kR (c1 := kR_cost) rfl ?_
      refine m2_iload hB dX8_measure_95 rfl ?_
      have hi9 := hi3
      refine m2_iald hB dX8_measure_97 sh_kR_cost hi9 ?_
      refine m2_iadd hB dX8_measure_98 ?_
      refine m2_aload_n hB dX8_measure_99 rfl ?_
      refine m2_getR hB dX8_measure_100 fl_X8_15 sh_kR (c1 := kR_dist) rfl ?_
      refine m2_iload hB dX8_measure_103 rfl ?_
      obtain ⟨hi10, k⟩ := k
      refine m2_iald hB dX8_measure_105 sh_kR_dist hi10 ?_
      refine m2_icmp_ge hB dX8_measure_106 (tgt := 136) (by decide) (fun q12 : (μ.1 kR_dist ((μ.1 kD_a (v4).toNatClampNeg)).toNatClampNeg) ≤ ((μ.1 kR_dist ((μ.1 kD_b (v4).toNatClampNeg)).toNatClampNeg) + (μ.1 kR_cost (v4).toNatClampNeg)) => ?_) (fun q12 : ¬ (μ.1 kR_dist ((μ.1 kD_a (v4).toNatClampNeg)).toNatClampNeg) ≤ ((μ.1 kR_dist ((μ.1 kD_b (v4).toNatClampNeg)).toNatClampNeg) + (μ.1 kR_cost (v4).toNatClampNeg)) => ?_)
      · replace k := k.1 q12
        refine m2_aload_n hB dX8_measure_136 rfl ?_
        refine m2_getR hB dX8_measure_137 fl_X8_24 sh_kR (c1 := kD) rfl ?_
        refine m2_getR hB dX8_measure_140 fl_X8_65 sh_kD (c1 := kD_oneWay) rfl ?_
        refine m2_iload hB dX8_measure_143 rfl ?_
        have hi13 := hi3
        refine m2_zald hB dX8_measure_145 sh_kD_oneWay hi13 ?_
        refine m2_if_ne hB dX8_measure_146 (tgt := 198) (by decide) (fun q15 : ¬ (μ.1 kD_oneWay (v4).toNatClampNeg) = 0 => ?_) (fun q15 : (μ.1 kD_oneWay (v4).toNatClampNeg) = 0 => ?_)
        · replace k := k.1 q15
          refine m2_iinc hB (ls' := [.ref kR, .int v1, .int v2, .int v3, .int (v4 + 1), .int (μ.1 kD_a (v4).toNatClampNeg), .int (μ.1 kD_b (v4).toNatClampNeg)]) (v := (v4 + 1)) dX8_measure_198 rfl (by decide) rfl rfl ?_
          refine m2_goto hB dX8_measure_201 (tgt := 35) (by decide) ?_
          exact m2_weak (ls' := [.ref kR, .int v1, .int v2, .int v3, .int (v4 + 1), .null, .null]) hB ⟨Or.inr rfl, Or.inr rfl, Or.inr rfl, Or.inr rfl, Or.inr rfl, Or.inl rfl, Or.inl rfl, trivial⟩ k
        · replace k := k.2 q15
          refine m2_aload_n hB dX8_measure_149 rfl ?_
          refine m2_getR hB dX8_measure_150 fl_X8_15 sh_kR (c1 := kR_dist) rfl ?_
          refine m2_iload hB dX8_measure_153 rfl ?_
          have hi16 := hi10
          refine m2_iald hB dX8_measure_155 sh_kR_dist hi16 ?_
          refine m2_aload_n hB dX8_measure_156 rfl ?_
          refine m2_getR hB dX8_measure_157 fl_X8_9 sh_kR (c1 := kR_cost) rfl ?_
          refine m2_iload hB dX8_measure_160 rfl ?_
          have hi17 := hi3
          refine m2_iald hB dX8_measure_162 sh_kR_cost hi17 ?_
          refine m2_iadd hB dX8_measure_163 ?_
          refine m2_aload_n hB dX8_measure_164 rfl ?_
          refine m2_getR hB dX8_measure_165 fl_X8_15 sh_kR (c1 := kR_dist) rfl ?_
          refine m2_iload hB dX8_measure_168 rfl ?_
          have hi18 := hi8
          refine m2_iald hB dX8_measure_170 sh_kR_dist hi18 ?_
          refine m2_icmp_ge hB dX8_measure_171 (tgt := 198) (by decide) (fun q20 : (μ.1 kR_dist ((μ.1 kD_b (v4).toNatClampNeg)).toNatClampNeg) ≤ ((μ.1 kR_dist ((μ.1 kD_a (v4).toNatClampNeg)).toNatClampNeg) + (μ.1 kR_cost (v4).toNatClampNeg)) => ?_) (fun q20 : ¬ (μ.1 kR_dist ((μ.1 kD_b (v4).toNatClampNeg)).toNatClampNeg) ≤ ((μ.1 kR_dist ((μ.1 kD_a (v4).toNatClampNeg)).toNatClampNeg) + (μ.1 kR_cost (v4).toNatClampNeg)) => ?_)
          · replace k := k.1 q20
            refine m2_iinc hB (ls' := [.ref kR, .int v1, .int v2, .int v3, .int (v4 + 1), .int (μ.1 kD_a (v4).toNatClampNeg), .int (μ.1 kD_b (v4).toNatClampNeg)]) (v := (v4 + 1)) dX8_measure_198 rfl (by decide) rfl rfl ?_
            refine m2_goto hB dX8_measure_201 (tgt := 35) (by decide) ?_
            exact m2_weak (ls' := [.ref kR, .int v1, .int v2, .int v3, .int (v4 + 1), .null, .null]) hB ⟨Or.inr rfl, Or.inr rfl, Or.inr rfl, Or.inr rfl, Or.inr rfl, Or.inl rfl, Or.inl rfl, trivial⟩ k
          · replace k := k.2 q20
            refine m2_aload_n hB dX8_measure_174 rfl ?_
            refine m2_getR hB dX8_measure_175 fl_X8_15 sh_kR (c1 := kR_dist) rfl ?_
            refine m2_iload hB dX8_measure_178 rfl ?_
            refine m2_aload_n hB dX8_measure_180 rfl ?_
            refine m2_getR hB dX8_measure_181 fl_X8_15 sh_kR (c1 := kR_dist) rfl ?_
            refine m2_iload hB dX8_measure_184 rfl ?_
            have hi21 := hi10
            refine m2_iald hB dX8_measure_186 sh_kR_dist hi21 ?_
            refine m2_aload_n hB dX8_measure_187 rfl ?_
            refine m2_getR hB dX8_measure_188 fl_X8_9 sh_kR (c1 := kR_cost) rfl ?_
            refine m2_iload hB dX8_measure_191 rfl ?_
            have hi22 := hi3
            refine m2_iald hB dX8_measure_193 sh_kR_cost hi22 ?_
            refine m2_iadd hB dX8_measure_194 ?_
            have hi23 := hi8
            refine m2_iast hB dX8_measure_195 sh_kR_dist hi23 ?_
            refine m2_iconst hB dX8_measure_196 (v := 1) (by decide) ?_
            refine m2_istore_n hB (ls' := [.ref kR, .int v1, .int 1, .int v3, .int v4, .int (μ.1 kD_a (v4).toNatClampNeg), .int (μ.1 kD_b (v4).toNatClampNeg)]) dX8_measure_197 rfl (by decide) rfl ?_
            refine m2_iinc hB (ls' := [.ref kR, .int v1, .int 1, .int v3, .int (v4 + 1), .int (μ.1 kD_a (v4).toNatClampNeg), .int (μ.1 kD_b (v4).toNatClampNeg)]) (v := (v4 + 1)) dX8_measure_198 rfl (by decide) rfl rfl ?_
            refine m2_goto hB dX8_measure_201 (tgt := 35) (by decide) ?_
            exact m2_weak (ls' := [.ref kR, .int v1, .int 1, .int v3, .int (v4 + 1), .null, .null]) hB ⟨Or.inr rfl, Or.inr rfl, Or.inr rfl, Or.inr rfl, Or.inr rfl, Or.inl rfl, Or.inl rfl, trivial⟩ k
      · replace k := k.2 q12
        refine m2_aload_n hB dX8_measure_109 rfl ?_
        refine m2_getR hB dX8_measure_110 fl_X8_15 sh_kR (c1 := kR_dist) rfl ?_
        refine m2_iload hB dX8_measure_113 rfl ?_
        refine m2_aload_n hB dX8_measure_115 rfl ?_
        refine m2_getR hB dX8_measure_116 fl_X8_15 sh_kR (c1 := kR_dist) rfl ?_
        refine m2_iload hB dX8_measure_119 rfl ?_
        have hi24 := hi8
        refine m2_iald hB dX8_measure_121 sh_kR_dist hi24 ?_
        refine m2_aload_n hB dX8_measure_122 rfl ?_
        refine m2_getR hB dX8_measure_123 fl_X8_9 sh_kR (c1 := kR_cost) rfl ?_
        refine m2_iload hB dX8_measure_126 rfl ?_
        have hi25 := hi3
        refine m2_iald hB dX8_measure_128 sh_kR_cost hi25 ?_
        refine m2_iadd hB dX8_measure_129 ?_
        have hi26 := hi10
        refine m2_iast hB dX8_measure_130 sh_kR_dist hi26 ?_
        refine m2_iconst hB dX8_measure_131 (v := 1) (by decide) ?_
        refine m2_istore_n hB (ls' := [.ref kR, .int v1, .int 1, .int v3, .int v4, .int (μ.1 kD_a (v4).toNatClampNeg), .int (μ.1 kD_b (v4).toNatClampNeg)]) dX8_measure_132 rfl (by decide) rfl ?_
        refine m2_goto hB dX8_measure_133 (tgt := 198) (by decide) ?_
        refine m2_iinc hB (ls' := [.ref kR, .int v1, .int 1, .int v3, .int (v4 + 1), .int (μ.1 kD_a (v4).toNatClampNeg), .int (μ.1 kD_b (v4).toNatClampNeg)]) (v := (v4 + 1)) dX8_measure_198 rfl (by decide) rfl rfl ?_
        refine m2_goto hB dX8_measure_201 (tgt := 35) (by decide) ?_
        exact m2_weak (ls' := [.ref kR, .int v1, .int 1, .int v3, .int (v4 + 1), .null, .null]) hB ⟨Or.inr rfl, Or.inr rfl, Or.inr rfl, Or.inr rfl, Or.inr rfl, Or.inl rfl, Or.inl rfl, trivial⟩ k
    · replace k := k.2 q7
      refine m2_goto hB dX8_measure_81 (tgt := 198) (by decide) ?_
      refine m2_iinc hB (ls' := [.ref kR, .int v1, .int v2, .int v3, .int (v4 + 1), .int (μ.1 kD_a (v4).toNatClampNeg), .int (μ.1 kD_b (v4).toNatClampNeg)]) (v := (v4 + 1)) dX8_measure_198 rfl (by decide) rfl rfl ?_
      refine m2_goto hB dX8_measure_201 (tgt := 35) (by decide) ?_
      exact m2_weak (ls' := [.ref kR, .int v1, .int v2, .int v3, .int (v4 + 1), .null, .null]) hB ⟨Or.inr rfl, Or.inr rfl, Or.inr rfl, Or.inr rfl, Or.inr rfl, Or.inl rfl, Or.inl rfl, trivial⟩ k
theorem dX8_setSteps_0 : decode cX8_setSteps 0 = .ok (.aload_n 0, 1) := by decide +kernel
theorem dX8_setSteps_1 : decode cX8_setSteps 1 = .ok (.getfield 24, 3) := by decide +kernel
theorem dX8_setSteps_4 : decode cX8_setSteps 4 = .ok (.getfield 28, 3) := by decide +kernel
theorem dX8_setSteps_7 : decode cX8_setSteps 7 = .ok (.iconst 1, 1) := by decide +kernel
theorem dX8_setSteps_8 : decode cX8_setSteps 8 = .ok (.isub, 1) := by decide +kernel
theorem dX8_setSteps_9 : decode cX8_setSteps 9 = .ok (.istore_n 1, 1) := by decide +kernel
theorem dX8_setSteps_10 : decode cX8_setSteps 10 = .ok (.iload_n 1, 1) := by decide +kernel
theorem dX8_setSteps_11 : decode cX8_setSteps 11 = .ok (.ifCond .lt 111, 3) := by decide +kernel
theorem dX8_setSteps_14 : decode cX8_setSteps 14 = .ok (.aload_n 0, 1) := by decide +kernel
theorem dX8_setSteps_15 : decode cX8_setSteps 15 = .ok (.getfield 24, 3) := by decide +kernel
theorem dX8_setSteps_18 : decode cX8_setSteps 18 = .ok (.getfield 59, 3) := by decide +kernel
theorem dX8_setSteps_21 : decode cX8_setSteps 21 = .ok (.iload_n 1, 1) := by decide +kernel
theorem dX8_setSteps_22 : decode cX8_setSteps 22 = .ok (.iaload, 1) := by decide +kernel
theorem dX8_setSteps_23 : decode cX8_setSteps 23 = .ok (.istore_n 2, 1) := by decide +kernel
theorem dX8_setSteps_24 : decode cX8_setSteps 24 = .ok (.aload_n 0, 1) := by decide +kernel
theorem dX8_setSteps_25 : decode cX8_setSteps 25 = .ok (.getfield 24, 3) := by decide +kernel
theorem dX8_setSteps_28 : decode cX8_setSteps 28 = .ok (.getfield 62, 3) := by decide +kernel
theorem dX8_setSteps_31 : decode cX8_setSteps 31 = .ok (.iload_n 1, 1) := by decide +kernel
theorem dX8_setSteps_32 : decode cX8_setSteps 32 = .ok (.iaload, 1) := by decide +kernel
theorem dX8_setSteps_33 : decode cX8_setSteps 33 = .ok (.istore_n 3, 1) := by decide +kernel
theorem dX8_setSteps_34 : decode cX8_setSteps 34 = .ok (.aload_n 0, 1) := by decide +kernel
theorem dX8_setSteps_35 : decode cX8_setSteps 35 = .ok (.getfield 9, 3) := by decide +kernel
theorem dX8_setSteps_38 : decode cX8_setSteps 38 = .ok (.iload_n 1, 1) := by decide +kernel
theorem dX8_setSteps_39 : decode cX8_setSteps 39 = .ok (.iaload, 1) := by decide +kernel
theorem dX8_setSteps_40 : decode cX8_setSteps 40 = .ok (.ifCond .ne 6, 3) := by decide +kernel
theorem dX8_setSteps_43 : decode cX8_setSteps 43 = .ok (.goto 73, 3) := by decide +kernel
theorem dX8_setSteps_46 : decode cX8_setSteps 46 = .ok (.aload_n 0, 1) := by decide +kernel
theorem dX8_setSteps_47 : decode cX8_setSteps 47 = .ok (.getfield 15, 3) := by decide +kernel
theorem dX8_setSteps_50 : decode cX8_setSteps 50 = .ok (.iload_n 2, 1) := by decide +kernel
theorem dX8_setSteps_51 : decode cX8_setSteps 51 = .ok (.iaload, 1) := by decide +kernel
theorem dX8_setSteps_52 : decode cX8_setSteps 52 = .ok (.aload_n 0, 1) := by decide +kernel
theorem dX8_setSteps_53 : decode cX8_setSteps 53 = .ok (.getfield 15, 3) := by decide +kernel
theorem dX8_setSteps_56 : decode cX8_setSteps 56 = .ok (.iload_n 3, 1) := by decide +kernel
theorem dX8_setSteps_57 : decode cX8_setSteps 57 = .ok (.iaload, 1) := by decide +kernel
theorem dX8_setSteps_58 : decode cX8_setSteps 58 = .ok (.aload_n 0, 1) := by decide +kernel
theorem dX8_setSteps_59 : decode cX8_setSteps 59 = .ok (.getfield 9, 3) := by decide +kernel
theorem dX8_setSteps_62 : decode cX8_setSteps 62 = .ok (.iload_n 1, 1) := by decide +kernel
theorem dX8_setSteps_63 : decode cX8_setSteps 63 = .ok (.iaload, 1) := by decide +kernel
theorem dX8_setSteps_64 : decode cX8_setSteps 64 = .ok (.iadd, 1) := by decide +kernel
theorem dX8_setSteps_65 : decode cX8_setSteps 65 = .ok (.if_icmp .ne 10, 3) := by decide +kernel
theorem dX8_setSteps_68 : decode cX8_setSteps 68 = .ok (.aload_n 0, 1) := by decide +kernel
theorem dX8_setSteps_69 : decode cX8_setSteps 69 = .ok (.getfield 18, 3) := by decide +kernel
theorem dX8_setSteps_72 : decode cX8_setSteps 72 = .ok (.iload_n 2, 1) := by decide +kernel
theorem dX8_setSteps_73 : decode cX8_setSteps 73 = .ok (.iload_n 1, 1) := by decide +kernel
theorem dX8_setSteps_74 : decode cX8_setSteps 74 = .ok (.iastore, 1) := by decide +kernel
theorem dX8_setSteps_75 : decode cX8_setSteps 75 = .ok (.aload_n 0, 1) := by decide +kernel
theorem dX8_setSteps_76 : decode cX8_setSteps 76 = .ok (.getfield 24, 3) := by decide +kernel
theorem dX8_setSteps_79 : decode cX8_setSteps 79 = .ok (.getfield 65, 3) := by decide +kernel
theorem dX8_setSteps_82 : decode cX8_setSteps 82 = .ok (.iload_n 1, 1) := by decide +kernel
theorem dX8_setSteps_83 : decode cX8_setSteps 83 = .ok (.baload, 1) := by decide +kernel
theorem dX8_setSteps_84 : decode cX8_setSteps 84 = .ok (.ifCond .ne 32, 3) := by decide +kernel
theorem dX8_setSteps_87 : decode cX8_setSteps 87 = .ok (.aload_n 0, 1) := by decide +kernel
theorem dX8_setSteps_88 : decode cX8_setSteps 88 = .ok (.getfield 15, 3) := by decide +kernel
theorem dX8_setSteps_91 : decode cX8_setSteps 91 = .ok (.iload_n 3, 1) := by decide +kernel
theorem dX8_setSteps_92 : decode cX8_setSteps 92 = .ok (.iaload, 1) := by decide +kernel
theorem dX8_setSteps_93 : decode cX8_setSteps 93 = .ok (.aload_n 0, 1) := by decide +kernel
theorem dX8_setSteps_94 : decode cX8_setSteps 94 = .ok (.getfield 15, 3) := by decide +kernel
theorem dX8_setSteps_97 : decode cX8_setSteps 97 = .ok (.iload_n 2, 1) := by decide +kernel
theorem dX8_setSteps_98 : decode cX8_setSteps 98 = .ok (.iaload, 1) := by decide +kernel
theorem dX8_setSteps_99 : decode cX8_setSteps 99 = .ok (.aload_n 0, 1) := by decide +kernel
theorem dX8_setSteps_100 : decode cX8_setSteps 100 = .ok (.getfield 9, 3) := by decide +kernel
theorem dX8_setSteps_103 : decode cX8_setSteps 103 = .ok (.iload_n 1, 1) := by decide +kernel
theorem dX8_setSteps_104 : decode cX8_setSteps 104 = .ok (.iaload, 1) := by decide +kernel
theorem dX8_setSteps_105 : decode cX8_setSteps 105 = .ok (.iadd, 1) := by decide +kernel
theorem dX8_setSteps_106 : decode cX8_setSteps 106 = .ok (.if_icmp .ne 10, 3) := by decide +kernel
theorem dX8_setSteps_109 : decode cX8_setSteps 109 = .ok (.aload_n 0, 1) := by decide +kernel
theorem dX8_setSteps_110 : decode cX8_setSteps 110 = .ok (.getfield 18, 3) := by decide +kernel
theorem dX8_setSteps_113 : decode cX8_setSteps 113 = .ok (.iload_n 3, 1) := by decide +kernel
theorem dX8_setSteps_114 : decode cX8_setSteps 114 = .ok (.iload_n 1, 1) := by decide +kernel
theorem dX8_setSteps_115 : decode cX8_setSteps 115 = .ok (.iastore, 1) := by decide +kernel
theorem dX8_setSteps_116 : decode cX8_setSteps 116 = .ok (.iinc 1 (-1), 3) := by decide +kernel
theorem dX8_setSteps_119 : decode cX8_setSteps 119 = .ok (.goto (-109), 3) := by decide +kernel
theorem dX8_setSteps_122 : decode cX8_setSteps 122 = .ok (.return_, 1) := by decide +kernel
set_option maxRecDepth 100000 in
set_option maxHeartbeats 4000000 in
theorem B_X8_setSteps_0 {κ : Nat → List Value → List Value → m2M → Prop} {D : Nat} {Q : Option Value → m2M → Prop} (h : m2_RL κ cX8_setSteps RX8 4 D none Q)  {μ : m2M} (k : κ 10 [.ref kR, .int ((μ.1 kD 6) - 1), .null, .null] [] μ) : κ 0 [.ref kR, .null, .null, .null] [] μ := by
  have hB := h.b
  refine m2_aload_n hB dX8_setSteps_0 rfl ?_
  refine m2_getR hB dX8_setSteps_1 fl_X8_24 sh_kR (c1 := kD) rfl ?_
  refine m2_getI hB dX8_setSteps_4 fl_X8_28 sh_kD rfl ?_
  refine m2_iconst hB dX8_setSteps_7 (v := 1) (by decide) ?_
  refine m2_isub hB dX8_setSteps_8 ?_
  refine m2_istore_n hB (ls' := [.ref kR, .int ((μ.1 kD 6) - 1), .null, .null]) dX8_setSteps_9 rfl (by decide) rfl ?_
  exact k
set_option maxRecDepth 100000 in
set_option maxHeartbeats 4000000 in
theorem B_X8_setSteps_10 {κ : Nat → List Value → List Value → m2M → Prop} {D : Nat} {Q : Option Value → m2M → Prop} (h : m2_RL κ cX8_setSteps RX8 4 D none Q) {v1 : Int32} {μ : m2M} (k : (v1 < 0 → Q none μ) ∧ (¬ v1 < 0 → (vp_in v1 20) ∧ ((¬ (μ.1 kR_cost (v1).toNatClampNeg) = 0 → (vp_in (μ.1 kD_a (v1).toNatClampNeg) 12) ∧ ((vp_in (μ.1 kD_b (v1).toNatClampNeg) 12) ∧ ((¬ (μ.1 kR_dist ((μ.1 kD_a (v1).toNatClampNeg)).toNatClampNeg) = ((μ.1 kR_dist ((μ.1 kD_b (v1).toNatClampNeg)).toNatClampNeg) + (μ.1 kR_cost (v1).toNatClampNeg)) → (¬ (μ.1 kD_oneWay (v1).toNatClampNeg) = 0 → κ 10 [.ref kR, .int (v1 + (-1)), .null, .null] [] μ) ∧ ((μ.1 kD_oneWay (v1).toNatClampNeg) = 0 → (¬ (μ.1 kR_dist ((μ.1 kD_b (v1).toNatClampNeg)).toNatClampNeg) = ((μ.1 kR_dist ((μ.1 kD_a (v1).toNatClampNeg)).toNatClampNeg) + (μ.1 kR_cost (v1).toNatClampNeg)) → κ 10 [.ref kR, .int (v1 + (-1)), .null, .null] [] μ) ∧ ((μ.1 kR_dist ((μ.1 kD_b (v1).toNatClampNeg)).toNatClampNeg) = ((μ.1 kR_dist ((μ.1 kD_a (v1).toNatClampNeg)).toNatClampNeg) + (μ.1 kR_cost (v1).toNatClampNeg)) → κ 10 [.ref kR, .int (v1 + (-1)), .null, .null] [] (m2_si μ kR_step ((μ.1 kD_b (v1).toNatClampNeg)).toNatClampNeg v1)))) ∧ ((μ.1 kR_dist ((μ.1 kD_a (v1).toNatClampNeg)).toNatClampNeg) = ((μ.1 kR_dist ((μ.1 kD_b (v1).toNatClampNeg)).toNatClampNeg) + (μ.1 kR_cost (v1).toNatClampNeg)) → (¬ (μ.1 kD_oneWay (v1).toNatClampNeg) = 0 → κ 10 [.ref kR, .int (v1 + (-1)), .null, .null] [] (m2_si μ kR_step ((μ.1 kD_a (v1).toNatClampNeg)).toNatClampNeg v1)) ∧ ((μ.1 kD_oneWay (v1).toNatClampNeg) = 0 → (¬ (μ.1 kR_dist ((μ.1 kD_b (v1).toNatClampNeg)).toNatClampNeg) = ((μ.1 kR_dist ((μ.1 kD_a (v1).toNatClampNeg)).toNatClampNeg) + (μ.1 kR_cost (v1).toNatClampNeg)) → κ 10 [.ref kR, .int (v1 + (-1)), .null, .null] [] (m2_si μ kR_step ((μ.1 kD_a (v1).toNatClampNeg)).toNatClampNeg v1)) ∧ ((μ.1 kR_dist ((μ.1 kD_b (v1).toNatClampNeg)).toNatClampNeg) = ((μ.1 kR_dist ((μ.1 kD_a (v1).toNatClampNeg)).toNatClampNeg) + (μ.1 kR_cost (v1).toNatClampNeg)) → κ 10 [.ref kR, .int (v1 + (-1)), .null, .null] [] (m2_si (m2_si μ kR_step ((μ.1 kD_a (v1).toNatClampNeg)).toNatClampNeg v1) kR_step ((μ.1 kD_b (v1).toNatClampNeg)).toNatClampNeg v1))))))) ∧ ((μ.1 kR_cost (v1).toNatClampNeg) = 0 → κ 10 [.ref kR, .int (v1 + (-1)), .null, .null] [] μ)))) : κ 10 [.ref kR, .int v1, .null, .null] [] μ := by
  have hB := h.b
  refine m2_iload_n hB dX8_setSteps_10 rfl ?_
  refine m2_if_lt hB dX8_setSteps_11 (tgt := 122) (by decide) (fun q2 : v1 < 0 => ?_) (fun q2 : ¬ v1 < 0 => ?_)
  · replace k := k.1 q2
    exact m2_vret h dX8_setSteps_122 k
  · replace k := k.2 q2
    refine m2_aload_n hB dX8_setSteps_14 rfl ?_
    refine m2_getR hB dX8_setSteps_15 fl_X8_24 sh_kR (c1 := kD) rfl ?_
    refine m2_getR hB dX8_setSteps_18 fl_X8_59 sh_kD (c1 := kD_a) rfl ?_
    refine m2_iload_n hB dX8_setSteps_21 rfl ?_
    obtain ⟨hi3, k⟩ := k
    refine m2_iald hB dX8_setSteps_22 sh_kD_a hi3 ?_
    refine m2_istore_n hB (ls' := [.ref kR, .int v1, .int (μ.1 kD_a (v1).toNatClampNeg), .null]) dX8_setSteps_23 rfl (by decide) rfl ?_
    refine m2_aload_n hB dX8_setSteps_24 rfl ?_
    refine m2_getR hB dX8_setSteps_25 fl_X8_24 sh_kR (c1 := kD) rfl ?_
    refine m2_getR hB dX8_setSteps_28 fl_X8_62 sh_kD (c1 := kD_b) rfl ?_
    refine m2_iload_n hB dX8_setSteps_31 rfl ?_
    have hi4 := hi3
    refine m2_iald hB dX8_setSteps_32 sh_kD_b hi4 ?_
    refine m2_istore_n hB (ls' := [.ref kR, .int v1, .int (μ.1 kD_a (v1).toNatClampNeg), .int (μ.1 kD_b (v1).toNatClampNeg)]) dX8_setSteps_33 rfl (by decide) rfl ?_
    refine m2_aload_n hB dX8_setSteps_34 rfl ?_
    refine m2_getR hB dX8_setSteps_35 fl_X8_9 sh_kR (c1 := kR_cost) rfl ?_
    refine m2_iload_n hB dX8_setSteps_38 rfl ?_
    have hi5 := hi3
    refine m2_iald hB dX8_setSteps_39 sh_kR_cost hi5 ?_
    refine m2_if_ne hB dX8_setSteps_40 (tgt := 46) (by decide) (fun q7 : ¬ (μ.1 kR_cost (v1).toNatClampNeg) = 0 => ?_) (fun q7 : (μ.1 kR_cost (v1).toNatClampNeg) = 0 => ?_)
    · replace k := k.1 q7
      refine m2_aload_n hB dX8_setSteps_46 rfl ?_
      refine m2_getR hB dX8_setSteps_47 fl_X8_15 sh_kR (c1 := kR_dist) rfl ?_
      refine m2_iload_n hB dX8_setSteps_50 rfl ?_
      obtain ⟨hi8, k⟩ := k
      refine m2_iald hB dX8_setSteps_51 sh_kR_dist hi8 ?_
      refine m2_aload_n hB dX8_setSteps_52 rfl ?_
      refine m2_getR hB dX8_setSteps_53 fl_X8_15 sh_kR (c1 := kR_dist) rfl ?_
      refine m2_iload_n hB dX8_setSteps_56 rfl ?_
      obtain ⟨hi9, k⟩ := k
      refine m2_iald hB dX8_setSteps_57 sh_kR_dist hi9 ?_
      refine m2_aload_n hB dX8_setSteps_58 rfl ?_
      refine m2_getR hB dX8_setSteps_59 fl_X8_9 sh_kR (c1 := kR_cost) rfl ?_
      refine m2_iload_n hB dX8_setSteps_62 rfl ?_
      have hi10 := hi3
      refine m2_iald hB dX8_setSteps_63 sh_kR_cost hi10 ?_
      refine m2_iadd hB dX8_setSteps_64 ?_
      refine m2_icmp_ne hB dX8_setSteps_65 (tgt := 75) (by decide) (fun q12 : ¬ (μ.1 kR_dist ((μ.1 kD_a (v1).toNatClampNeg)).toNatClampNeg) = ((μ.1 kR_dist ((μ.1 kD_b (v1).toNatClampNeg)).toNatClampNeg) + (μ.1 kR_cost (v1).toNatClampNeg)) => ?_) (fun q12 : (μ.1 kR_dist ((μ.1 kD_a (v1).toNatClampNeg)).toNatClampNeg) = ((μ.1 kR_dist ((μ.1 kD_b (v1).toNatClampNeg)).toNatClampNeg) + (μ.1 kR_cost (v1).toNatClampNeg)) => ?_)
      · replace k := k.1 q12
        refine m2_aload_n hB dX8_setSteps_75 rfl ?_
        refine m2_getR hB dX8_setSteps_76 fl_X8_24 sh_kR (c1 := kD) rfl ?_
        refine m2_getR hB dX8_setSteps_79 fl_X8_65 sh_kD (c1 := kD_oneWay) rfl ?_
        refine m2_iload_n hB dX8_setSteps_82 rfl ?_
        have hi13 := hi3
        refine m2_zald hB dX8_setSteps_83 sh_kD_oneWay hi13 ?_
        refine m2_if_ne hB dX8_setSteps_84 (tgt := 116) (by decide) (fun q15 : ¬ (μ.1 kD_oneWay (v1).toNatClampNeg) = 0 => ?_) (fun q15 : (μ.1 kD_oneWay (v1).toNatClampNeg) = 0 => ?_)
        · replace k := k.1 q15
          refine m2_iinc hB (ls' := [.ref kR, .int (v1 + (-1)), .int (μ.1 kD_a (v1).toNatClampNeg), .int (μ.1 kD_b (v1).toNatClampNeg)]) (v := (v1 + (-1))) dX8_setSteps_116 rfl (by decide) rfl rfl ?_
          refine m2_goto hB dX8_setSteps_119 (tgt := 10) (by decide) ?_
          exact m2_weak (ls' := [.ref kR, .int (v1 + (-1)), .null, .null]) hB ⟨Or.inr rfl, Or.inr rfl, Or.inl rfl, Or.inl rfl, trivial⟩ k
        · replace k := k.2 q15
          refine m2_aload_n hB dX8_setSteps_87 rfl ?_
          refine m2_getR hB dX8_setSteps_88 fl_X8_15 sh_kR (c1 := kR_dist) rfl ?_
          refine m2_iload_n hB dX8_setSteps_91 rfl ?_
          have hi16 := hi9
          refine m2_iald hB dX8_setSteps_92 sh_kR_dist hi16 ?_
          refine m2_aload_n hB dX8_setSteps_93 rfl ?_
          refine m2_getR hB dX8_setSteps_94 fl_X8_15 sh_kR (c1 := kR_dist) rfl ?_
          refine m2_iload_n hB dX8_setSteps_97 rfl ?_
          have hi17 := hi8
          refine m2_iald hB dX8_setSteps_98 sh_kR_dist hi17 ?_
          refine m2_aload_n hB dX8_setSteps_99 rfl ?_
          refine m2_getR hB dX8_setSteps_100 fl_X8_9 sh_kR (c1 := kR_cost) rfl ?_
          refine m2_iload_n hB dX8_setSteps_103 rfl ?_
          have hi18 := hi3
          refine m2_iald hB dX8_setSteps_104 sh_kR_cost hi18 ?_
          refine m2_iadd hB dX8_setSteps_105 ?_
          refine m2_icmp_ne hB dX8_setSteps_106 (tgt := 116) (by decide) (fun q20 : ¬ (μ.1 kR_dist ((μ.1 kD_b (v1).toNatClampNeg)).toNatClampNeg) = ((μ.1 kR_dist ((μ.1 kD_a (v1).toNatClampNeg)).toNatClampNeg) + (μ.1 kR_cost (v1).toNatClampNeg)) => ?_) (fun q20 : (μ.1 kR_dist ((μ.1 kD_b (v1).toNatClampNeg)).toNatClampNeg) = ((μ.1 kR_dist ((μ.1 kD_a (v1).toNatClampNeg)).toNatClampNeg) + (μ.1 kR_cost (v1).toNatClampNeg)) => ?_)
          · replace k := k.1 q20
            refine m2_iinc hB (ls' := [.ref kR, .int (v1 + (-1)), .int (μ.1 kD_a (v1).toNatClampNeg), .int (μ.1 kD_b (v1).toNatClampNeg)]) (v := (v1 + (-1))) dX8_setSteps_116 rfl (by decide) rfl rfl ?_
            refine m2_goto hB dX8_setSteps_119 (tgt := 10) (by decide) ?_
            exact m2_weak (ls' := [.ref kR, .int (v1 + (-1)), .null, .null]) hB ⟨Or.inr rfl, Or.inr rfl, Or.inl rfl, Or.inl rfl, trivial⟩ k
          · replace k := k.2 q20
            refine m2_aload_n hB dX8_setSteps_109 rfl ?_
            refine m2_getR hB dX8_setSteps_110 fl_X8_18 sh_kR (c1 := kR_step) rfl ?_
            refine m2_iload_n hB dX8_setSteps_113 rfl ?_
            refine m2_iload_n hB dX8_setSteps_114 rfl ?_
            have hi21 := hi9
            refine m2_iast hB dX8_setSteps_115 sh_kR_step hi21 ?_
            refine m2_iinc hB (ls' := [.ref kR, .int (v1 + (-1)), .int (μ.1 kD_a (v1).toNatClampNeg), .int (μ.1 kD_b (v1).toNatClampNeg)]) (v := (v1 + (-1))) dX8_setSteps_116 rfl (by decide) rfl rfl ?_
            refine m2_goto hB dX8_setSteps_119 (tgt := 10) (by decide) ?_
            exact m2_weak (ls' := [.ref kR, .int (v1 + (-1)), .null, .null]) hB ⟨Or.inr rfl, Or.inr rfl, Or.inl rfl, Or.inl rfl, trivial⟩ k
      · replace k := k.2 q12
        refine m2_aload_n hB dX8_setSteps_68 rfl ?_
        refine m2_getR hB dX8_setSteps_69 fl_X8_18 sh_kR (c1 := kR_step) rfl ?_
        refine m2_iload_n hB dX8_setSteps_72 rfl ?_
        refine m2_iload_n hB dX8_setSteps_73 rfl ?_
        have hi22 := hi8
        refine m2_iast hB dX8_setSteps_74 sh_kR_step hi22 ?_
        refine m2_aload_n hB dX8_setSteps_75 rfl ?_
        refine m2_getR hB dX8_setSteps_76 fl_X8_24 sh_kR (c1 := kD) rfl ?_
        refine m2_getR hB dX8_setSteps_79 fl_X8_65 sh_kD (c1 := kD_oneWay) rfl ?_
        refine m2_iload_n hB dX8_setSteps_82 rfl ?_
        have hi23 := hi3
        refine m2_zald hB dX8_setSteps_83 sh_kD_oneWay hi23 ?_
        refine m2_if_ne hB dX8_setSteps_84 (tgt := 116) (by decide) (fun q25 : ¬ (μ.1 kD_oneWay (v1).toNatClampNeg) = 0 => ?_) (fun q25 : (μ.1 kD_oneWay (v1).toNatClampNeg) = 0 => ?_)
        · replace k := k.1 q25
          refine m2_iinc hB (ls' := [.ref kR, .int (v1 + (-1)), .int (μ.1 kD_a (v1).toNatClampNeg), .int (μ.1 kD_b (v1).toNatClampNeg)]) (v := (v1 + (-1))) dX8_setSteps_116 rfl (by decide) rfl rfl ?_
          refine m2_goto hB dX8_setSteps_119 (tgt := 10) (by decide) ?_
          exact m2_weak (ls' := [.ref kR, .int (v1 + (-1)), .null, .null]) hB ⟨Or.inr rfl, Or.inr rfl, Or.inl rfl, Or.inl rfl, trivial⟩ k
        · replace k := k.2 q25
          refine m2_aload_n hB dX8_setSteps_87 rfl ?_
          refine m2_getR hB dX8_setSteps_88 fl_X8_15 sh_kR (c1 := kR_dist) rfl ?_
          refine m2_iload_n hB dX8_setSteps_91 rfl ?_
          have hi26 := hi9
          refine m2_iald hB dX8_setSteps_92 sh_kR_dist hi26 ?_
          refine m2_aload_n hB dX8_setSteps_93 rfl ?_
          refine m2_getR hB dX8_setSteps_94 fl_X8_15 sh_kR (c1 := kR_dist) rfl ?_
          refine m2_iload_n hB dX8_setSteps_97 rfl ?_
          have hi27 := hi8
          refine m2_iald hB dX8_setSteps_98 sh_kR_dist hi27 ?_
          refine m2_aload_n hB dX8_setSteps_99 rfl ?_
          refine m2_getR hB dX8_setSteps_100 fl_X8_9 sh_kR (c1 := kR_cost) rfl ?_
          refine m2_iload_n hB dX8_setSteps_103 rfl ?_
          have hi28 := hi3
          refine m2_iald hB dX8_setSteps_104 sh_kR_cost hi28 ?_
          refine m2_iadd hB dX8_setSteps_105 ?_
          refine m2_icmp_ne hB dX8_setSteps_106 (tgt := 116) (by decide) (fun q30 : ¬ (μ.1 kR_dist ((μ.1 kD_b (v1).toNatClampNeg)).toNatClampNeg) = ((μ.1 kR_dist ((μ.1 kD_a (v1).toNatClampNeg)).toNatClampNeg) + (μ.1 kR_cost (v1).toNatClampNeg)) => ?_) (fun q30 : (μ.1 kR_dist ((μ.1 kD_b (v1).toNatClampNeg)).toNatClampNeg) = ((μ.1 kR_dist ((μ.1 kD_a (v1).toNatClampNeg)).toNatClampNeg) + (μ.1 kR_cost (v1).toNatClampNeg)) => ?_)
          · replace k := k.1 q30
            refine m2_iinc hB (ls' := [.ref kR, .int (v1 + (-1)), .int (μ.1 kD_a (v1).toNatClampNeg), .int (μ.1 kD_b (v1).toNatClampNeg)]) (v := (v1 + (-1))) dX8_setSteps_116 rfl (by decide) rfl rfl ?_
            refine m2_goto hB dX8_setSteps_119 (tgt := 10) (by decide) ?_
            exact m2_weak (ls' := [.ref kR, .int (v1 + (-1)), .null, .null]) hB ⟨Or.inr rfl, Or.inr rfl, Or.inl rfl, Or.inl rfl, trivial⟩ k
          · replace k := k.2 q30
            refine m2_aload_n hB dX8_setSteps_109 rfl ?_
            refine m2_getR hB dX8_setSteps_110 fl_X8_18 sh_kR (c1 := kR_step) rfl ?_
            refine m2_iload_n hB dX8_setSteps_113 rfl ?_
            refine m2_iload_n hB dX8_setSteps_114 rfl ?_
            have hi31 := hi9
            refine m2_iast hB dX8_setSteps_115 sh_kR_step hi31 ?_
            refine m2_iinc hB (ls' := [.ref kR, .int (v1 + (-1)), .int (μ.1 kD_a (v1).toNatClampNeg), .int (μ.1 kD_b (v1).toNatClampNeg)]) (v := (v1 + (-1))) dX8_setSteps_116 rfl (by decide) rfl rfl ?_
            refine m2_goto hB dX8_setSteps_119 (tgt := 10) (by decide) ?_
            exact m2_weak (ls' := [.ref kR, .int (v1 + (-1)), .null, .null]) hB ⟨Or.inr rfl, Or.inr rfl, Or.inl rfl, Or.inl rfl, trivial⟩ k
    · replace k := k.2 q7
      refine m2_goto hB dX8_setSteps_43 (tgt := 116) (by decide) ?_
      refine m2_iinc hB (ls' := [.ref kR, .int (v1 + (-1)), .int (μ.1 kD_a (v1).toNatClampNeg), .int (μ.1 kD_b (v1).toNatClampNeg)]) (v := (v1 + (-1))) dX8_setSteps_116 rfl (by decide) rfl rfl ?_
      refine m2_goto hB dX8_setSteps_119 (tgt := 10) (by decide) ?_
      exact m2_weak (ls' := [.ref kR, .int (v1 + (-1)), .null, .null]) hB ⟨Or.inr rfl, Or.inr rfl, Or.inl rfl, Or.inl rfl, trivial⟩ k
theorem dX8_trace_0 : decode cX8_trace 0 = .ok (.aload_n 0, 1) := by decide +kernel
theorem dX8_trace_1 : decode cX8_trace 1 = .ok (.getfield 15, 3) := by decide +kernel
theorem dX8_trace_4 : decode cX8_trace 4 = .ok (.iload_n 1, 1) := by decide +kernel
theorem dX8_trace_5 : decode cX8_trace 5 = .ok (.iaload, 1) := by decide +kernel
theorem dX8_trace_6 : decode cX8_trace 6 = .ok (.ldc 58, 2) := by decide +kernel
theorem dX8_trace_8 : decode cX8_trace 8 = .ok (.if_icmp .lt 5, 3) := by decide +kernel
theorem dX8_trace_11 : decode cX8_trace 11 = .ok (.iconst (-1), 1) := by decide +kernel
theorem dX8_trace_12 : decode cX8_trace 12 = .ok (.ireturn, 1) := by decide +kernel
theorem dX8_trace_13 : decode cX8_trace 13 = .ok (.iconst 0, 1) := by decide +kernel
theorem dX8_trace_14 : decode cX8_trace 14 = .ok (.istore_n 3, 1) := by decide +kernel
theorem dX8_trace_15 : decode cX8_trace 15 = .ok (.iload_n 1, 1) := by decide +kernel
theorem dX8_trace_16 : decode cX8_trace 16 = .ok (.istore 4, 2) := by decide +kernel
theorem dX8_trace_18 : decode cX8_trace 18 = .ok (.iconst 0, 1) := by decide +kernel
theorem dX8_trace_19 : decode cX8_trace 19 = .ok (.istore 5, 2) := by decide +kernel
theorem dX8_trace_21 : decode cX8_trace 21 = .ok (.iload 5, 2) := by decide +kernel
theorem dX8_trace_23 : decode cX8_trace 23 = .ok (.bipush 12, 2) := by decide +kernel
theorem dX8_trace_25 : decode cX8_trace 25 = .ok (.if_icmp .ge 75, 3) := by decide +kernel
theorem dX8_trace_28 : decode cX8_trace 28 = .ok (.iload 4, 2) := by decide +kernel
theorem dX8_trace_30 : decode cX8_trace 30 = .ok (.iload_n 2, 1) := by decide +kernel
theorem dX8_trace_31 : decode cX8_trace 31 = .ok (.if_icmp .eq 69, 3) := by decide +kernel
theorem dX8_trace_34 : decode cX8_trace 34 = .ok (.aload_n 0, 1) := by decide +kernel
theorem dX8_trace_35 : decode cX8_trace 35 = .ok (.getfield 18, 3) := by decide +kernel
theorem dX8_trace_38 : decode cX8_trace 38 = .ok (.iload 4, 2) := by decide +kernel
theorem dX8_trace_40 : decode cX8_trace 40 = .ok (.iaload, 1) := by decide +kernel
theorem dX8_trace_41 : decode cX8_trace 41 = .ok (.istore 6, 2) := by decide +kernel
theorem dX8_trace_43 : decode cX8_trace 43 = .ok (.aload_n 0, 1) := by decide +kernel
theorem dX8_trace_44 : decode cX8_trace 44 = .ok (.getfield 21, 3) := by decide +kernel
theorem dX8_trace_47 : decode cX8_trace 47 = .ok (.iload_n 3, 1) := by decide +kernel
theorem dX8_trace_48 : decode cX8_trace 48 = .ok (.iload 6, 2) := by decide +kernel
theorem dX8_trace_50 : decode cX8_trace 50 = .ok (.iastore, 1) := by decide +kernel
theorem dX8_trace_51 : decode cX8_trace 51 = .ok (.iinc 3 1, 3) := by decide +kernel
theorem dX8_trace_54 : decode cX8_trace 54 = .ok (.aload_n 0, 1) := by decide +kernel
theorem dX8_trace_55 : decode cX8_trace 55 = .ok (.getfield 24, 3) := by decide +kernel
theorem dX8_trace_58 : decode cX8_trace 58 = .ok (.getfield 59, 3) := by decide +kernel
theorem dX8_trace_61 : decode cX8_trace 61 = .ok (.iload 6, 2) := by decide +kernel
theorem dX8_trace_63 : decode cX8_trace 63 = .ok (.iaload, 1) := by decide +kernel
theorem dX8_trace_64 : decode cX8_trace 64 = .ok (.iload 4, 2) := by decide +kernel
theorem dX8_trace_66 : decode cX8_trace 66 = .ok (.if_icmp .ne 16, 3) := by decide +kernel
theorem dX8_trace_69 : decode cX8_trace 69 = .ok (.aload_n 0, 1) := by decide +kernel
theorem dX8_trace_70 : decode cX8_trace 70 = .ok (.getfield 24, 3) := by decide +kernel
theorem dX8_trace_73 : decode cX8_trace 73 = .ok (.getfield 62, 3) := by decide +kernel
theorem dX8_trace_76 : decode cX8_trace 76 = .ok (.iload 6, 2) := by decide +kernel
theorem dX8_trace_78 : decode cX8_trace 78 = .ok (.iaload, 1) := by decide +kernel
theorem dX8_trace_79 : decode cX8_trace 79 = .ok (.goto 13, 3) := by decide +kernel
theorem dX8_trace_82 : decode cX8_trace 82 = .ok (.aload_n 0, 1) := by decide +kernel
theorem dX8_trace_83 : decode cX8_trace 83 = .ok (.getfield 24, 3) := by decide +kernel
theorem dX8_trace_86 : decode cX8_trace 86 = .ok (.getfield 59, 3) := by decide +kernel
theorem dX8_trace_89 : decode cX8_trace 89 = .ok (.iload 6, 2) := by decide +kernel
theorem dX8_trace_91 : decode cX8_trace 91 = .ok (.iaload, 1) := by decide +kernel
theorem dX8_trace_92 : decode cX8_trace 92 = .ok (.istore 4, 2) := by decide +kernel
theorem dX8_trace_94 : decode cX8_trace 94 = .ok (.iinc 5 1, 3) := by decide +kernel
theorem dX8_trace_97 : decode cX8_trace 97 = .ok (.goto (-76), 3) := by decide +kernel
theorem dX8_trace_100 : decode cX8_trace 100 = .ok (.iload_n 3, 1) := by decide +kernel
theorem dX8_trace_101 : decode cX8_trace 101 = .ok (.ireturn, 1) := by decide +kernel
set_option maxRecDepth 100000 in
set_option maxHeartbeats 4000000 in
theorem B_X8_trace_0 {κ : Nat → List Value → List Value → m2M → Prop} {D : Nat} {Q : Option Value → m2M → Prop} (h : m2_RL κ cX8_trace RX8 7 D (some .int) Q) {x1 : Int32} {x2 : Int32} {μ : m2M} (k : (vp_in x1 12) ∧ (((μ.1 kR_dist (x1).toNatClampNeg) < 268435456 → κ 21 [.ref kR, .int x1, .int x2, .int 0, .int x1, .int 0, .null] [] μ) ∧ (¬ (μ.1 kR_dist (x1).toNatClampNeg) < 268435456 → Q (some (.int (-1))) μ))) : κ 0 [.ref kR, .int x1, .int x2, .null, .null, .null, .null] [] μ := by
  have hB := h.b
  refine m2_aload_n hB dX8_trace_0 rfl ?_
  refine m2_getR hB dX8_trace_1 fl_X8_15 sh_kR (c1 := kR_dist) rfl ?_
  refine m2_iload_n hB dX8_trace_4 rfl ?_
  obtain ⟨hi1, k⟩ := k
  refine m2_iald hB dX8_trace_5 sh_kR_dist hi1 ?_
  refine m2_ldc hB kc_X8_58 dX8_trace_6 ?_
  refine m2_icmp_lt hB dX8_trace_8 (tgt := 13) (by decide) (fun q2 : (μ.1 kR_dist (x1).toNatClampNeg) < 268435456 => ?_) (fun q2 : ¬ (μ.1 kR_dist (x1).toNatClampNeg) < 268435456 => ?_)
  · replace k := k.1 q2
    refine m2_iconst hB dX8_trace_13 (v := 0) (by decide) ?_
    refine m2_istore_n hB (ls' := [.ref kR, .int x1, .int x2, .int 0, .null, .null, .null]) dX8_trace_14 rfl (by decide) rfl ?_
    refine m2_iload_n hB dX8_trace_15 rfl ?_
    refine m2_istore hB (ls' := [.ref kR, .int x1, .int x2, .int 0, .int x1, .null, .null]) dX8_trace_16 (by decide) rfl ?_
    refine m2_iconst hB dX8_trace_18 (v := 0) (by decide) ?_
    refine m2_istore hB (ls' := [.ref kR, .int x1, .int x2, .int 0, .int x1, .int 0, .null]) dX8_trace_19 (by decide) rfl ?_
    exact k
  · replace k := k.2 q2
    refine m2_iconst hB dX8_trace_11 (v := (-1)) (by decide) ?_
    exact m2_iret h dX8_trace_12 k
set_option maxRecDepth 100000 in
set_option maxHeartbeats 4000000 in
theorem B_X8_trace_21 {κ : Nat → List Value → List Value → m2M → Prop} {D : Nat} {Q : Option Value → m2M → Prop} (h : m2_RL κ cX8_trace RX8 7 D (some .int) Q) {v1 : Int32} {v2 : Int32} {v3 : Int32} {v4 : Int32} {v5 : Int32} {μ : m2M} (k : (12 ≤ v5 → Q (some (.int v3)) μ) ∧ (¬ 12 ≤ v5 → (v4 = v2 → Q (some (.int v3)) μ) ∧ (¬ v4 = v2 → (vp_in v4 12) ∧ ((vp_in v3 12) ∧ ((vp_in (μ.1 kR_step (v4).toNatClampNeg) 20) ∧ ((¬ (μ.1 kD_a ((μ.1 kR_step (v4).toNatClampNeg)).toNatClampNeg) = v4 → κ 21 [.ref kR, .int v1, .int v2, .int (v3 + 1), .int (μ.1 kD_a ((μ.1 kR_step (v4).toNatClampNeg)).toNatClampNeg), .int (v5 + 1), .null] [] (m2_si μ kR_found (v3).toNatClampNeg (μ.1 kR_step (v4).toNatClampNeg))) ∧ ((μ.1 kD_a ((μ.1 kR_step (v4).toNatClampNeg)).toNatClampNeg) = v4 → κ 21 [.ref kR, .int v1, .int v2, .int (v3 + 1), .int (μ.1 kD_b ((μ.1 kR_step (v4).toNatClampNeg)).toNatClampNeg), .int (v5 + 1), .null] [] (m2_si μ kR_found (v3).toNatClampNeg (μ.1 kR_step (v4).toNatClampNeg))))))))) : κ 21 [.ref kR, .int v1, .int v2, .int v3, .int v4, .int v5, .null] [] μ := by
  have hB := h.b
  refine m2_iload hB dX8_trace_21 rfl ?_
  refine m2_bipush hB dX8_trace_23 (v := 12) (by decide) ?_
  refine m2_icmp_ge hB dX8_trace_25 (tgt := 100) (by decide) (fun q2 : 12 ≤ v5 => ?_) (fun q2 : ¬ 12 ≤ v5 => ?_)
  · replace k := k.1 q2
    refine m2_iload_n hB dX8_trace_100 rfl ?_
    exact m2_iret h dX8_trace_101 k
  · replace k := k.2 q2
    refine m2_iload hB dX8_trace_28 rfl ?_
    refine m2_iload_n hB dX8_trace_30 rfl ?_
    refine m2_icmp_eq hB dX8_trace_31 (tgt := 100) (by decide) (fun q4 : v4 = v2 => ?_) (fun q4 : ¬ v4 = v2 => ?_)
    · replace k := k.1 q4
      refine m2_iload_n hB dX8_trace_100 rfl ?_
      exact m2_iret h dX8_trace_101 k
    · replace k := k.2 q4
      refine m2_aload_n hB dX8_trace_34 rfl ?_
      refine m2_getR hB dX8_trace_35 fl_X8_18 sh_kR (c1 := kR_step) rfl ?_
      refine m2_iload hB dX8_trace_38 rfl ?_
      obtain ⟨hi5, k⟩ := k
      refine m2_iald hB dX8_trace_40 sh_kR_step hi5 ?_
      refine m2_istore hB (ls' := [.ref kR, .int v1, .int v2, .int v3, .int v4, .int v5, .int (μ.1 kR_step (v4).toNatClampNeg)]) dX8_trace_41 (by decide) rfl ?_
      refine m2_aload_n hB dX8_trace_43 rfl ?_
      refine m2_getR hB dX8_trace_44 fl_X8_21 sh_kR (c1 := kR_found) rfl ?_
      refine m2_iload_n hB dX8_trace_47 rfl ?_
      refine m2_iload hB dX8_trace_48 rfl ?_
      obtain ⟨hi6, k⟩ := k
      refine m2_iast hB dX8_trace_50 sh_kR_found hi6 ?_
      refine m2_iinc hB (ls' := [.ref kR, .int v1, .int v2, .int (v3 + 1), .int v4, .int v5, .int (μ.1 kR_step (v4).toNatClampNeg)]) (v := (v3 + 1)) dX8_trace_51 rfl (by decide) rfl rfl ?_
      refine m2_aload_n hB dX8_trace_54 rfl ?_
      refine m2_getR hB dX8_trace_55 fl_X8_24 sh_kR (c1 := kD) rfl ?_
      refine m2_getR hB dX8_trace_58 fl_X8_59 sh_kD (c1 := kD_a) rfl ?_
      refine m2_iload hB dX8_trace_61 rfl ?_
      obtain ⟨hi7, k⟩ := k
      refine m2_iald hB dX8_trace_63 sh_kD_a hi7 ?_
      refine m2_iload hB dX8_trace_64 rfl ?_
      refine m2_icmp_ne hB dX8_trace_66 (tgt := 82) (by decide) (fun q9 : ¬ (μ.1 kD_a ((μ.1 kR_step (v4).toNatClampNeg)).toNatClampNeg) = v4 => ?_) (fun q9 : (μ.1 kD_a ((μ.1 kR_step (v4).toNatClampNeg)).toNatClampNeg) = v4 => ?_)
      · replace k := k.1 q9
        refine m2_aload_n hB dX8_trace_82 rfl ?_
        refine m2_getR hB dX8_trace_83 fl_X8_24 sh_kR (c1 := kD) rfl ?_
        refine m2_getR hB dX8_trace_86 fl_X8_59 sh_kD (c1 := kD_a) rfl ?_
        refine m2_iload hB dX8_trace_89 rfl ?_
        have hi10 := hi7
        refine m2_iald hB dX8_trace_91 sh_kD_a hi10 ?_
        refine m2_istore hB (ls' := [.ref kR, .int v1, .int v2, .int (v3 + 1), .int (μ.1 kD_a ((μ.1 kR_step (v4).toNatClampNeg)).toNatClampNeg), .int v5, .int (μ.1 kR_step (v4).toNatClampNeg)]) dX8_trace_92 (by decide) rfl ?_
        refine m2_iinc hB (ls' := [.ref kR, .int v1, .int v2, .int (v3 + 1), .int (μ.1 kD_a ((μ.1 kR_step (v4).toNatClampNeg)).toNatClampNeg), .int (v5 + 1), .int (μ.1 kR_step (v4).toNatClampNeg)]) (v := (v5 + 1)) dX8_trace_94 rfl (by decide) rfl rfl ?_
        refine m2_goto hB dX8_trace_97 (tgt := 21) (by decide) ?_
        exact m2_weak (ls' := [.ref kR, .int v1, .int v2, .int (v3 + 1), .int (μ.1 kD_a ((μ.1 kR_step (v4).toNatClampNeg)).toNatClampNeg), .int (v5 + 1), .null]) hB ⟨Or.inr rfl, Or.inr rfl, Or.inr rfl, Or.inr rfl, Or.inr rfl, Or.inr rfl, Or.inl rfl, trivial⟩ k
      · replace k := k.2 q9
        refine m2_aload_n hB dX8_trace_69 rfl ?_
        refine m2_getR hB dX8_trace_70 fl_X8_24 sh_kR (c1 := kD) rfl ?_
        refine m2_getR hB dX8_trace_73 fl_X8_62 sh_kD (c1 := kD_b) rfl ?_
        refine m2_iload hB dX8_trace_76 rfl ?_
        have hi11 := hi7
        refine m2_iald hB dX8_trace_78 sh_kD_b hi11 ?_
        refine m2_goto hB dX8_trace_79 (tgt := 92) (by decide) ?_
        refine m2_istore hB (ls' := [.ref kR, .int v1, .int v2, .int (v3 + 1), .int (μ.1 kD_b ((μ.1 kR_step (v4).toNatClampNeg)).toNatClampNeg), .int v5, .int (μ.1 kR_step (v4).toNatClampNeg)]) dX8_trace_92 (by decide) rfl ?_
        refine m2_iinc hB (ls' := [.ref kR, .int v1, .int v2, .int (v3 + 1), .int (μ.1 kD_b ((μ.1 kR_step (v4).toNatClampNeg)).toNatClampNeg), .int (v5 + 1), .int (μ.1 kR_step (v4).toNatClampNeg)]) (v := (v5 + 1)) dX8_trace_94 rfl (by decide) rfl rfl ?_
        refine m2_goto hB dX8_trace_97 (tgt := 21) (by decide) ?_
        exact m2_weak (ls' := [.ref kR, .int v1, .int v2, .int (v3 + 1), .int (μ.1 kD_b ((μ.1 kR_step (v4).toNatClampNeg)).toNatClampNeg), .int (v5 + 1), .null]) hB ⟨Or.inr rfl, Or.inr rfl, Or.inr rfl, Or.inr rfl, Or.inr rfl, Or.inr rfl, Or.inl rfl, trivial⟩ k
theorem dX8_reach_0 : decode cX8_reach 0 = .ok (.iconst 1, 1) := by decide +kernel
theorem dX8_reach_1 : decode cX8_reach 1 = .ok (.iload_n 1, 1) := by decide +kernel
theorem dX8_reach_2 : decode cX8_reach 2 = .ok (.ishl, 1) := by decide +kernel
theorem dX8_reach_3 : decode cX8_reach 3 = .ok (.istore_n 2, 1) := by decide +kernel
theorem dX8_reach_4 : decode cX8_reach 4 = .ok (.iconst 0, 1) := by decide +kernel
theorem dX8_reach_5 : decode cX8_reach 5 = .ok (.istore_n 3, 1) := by decide +kernel
theorem dX8_reach_6 : decode cX8_reach 6 = .ok (.iconst 0, 1) := by decide +kernel
theorem dX8_reach_7 : decode cX8_reach 7 = .ok (.istore 4, 2) := by decide +kernel
theorem dX8_reach_9 : decode cX8_reach 9 = .ok (.iload 4, 2) := by decide +kernel
theorem dX8_reach_11 : decode cX8_reach 11 = .ok (.bipush 12, 2) := by decide +kernel
theorem dX8_reach_13 : decode cX8_reach 13 = .ok (.if_icmp .ge 140, 3) := by decide +kernel
theorem dX8_reach_16 : decode cX8_reach 16 = .ok (.iload_n 2, 1) := by decide +kernel
theorem dX8_reach_17 : decode cX8_reach 17 = .ok (.iload_n 3, 1) := by decide +kernel
theorem dX8_reach_18 : decode cX8_reach 18 = .ok (.if_icmp .eq 135, 3) := by decide +kernel
theorem dX8_reach_21 : decode cX8_reach 21 = .ok (.iload_n 2, 1) := by decide +kernel
theorem dX8_reach_22 : decode cX8_reach 22 = .ok (.istore_n 3, 1) := by decide +kernel
theorem dX8_reach_23 : decode cX8_reach 23 = .ok (.iconst 0, 1) := by decide +kernel
theorem dX8_reach_24 : decode cX8_reach 24 = .ok (.istore 5, 2) := by decide +kernel
theorem dX8_reach_26 : decode cX8_reach 26 = .ok (.iload 5, 2) := by decide +kernel
theorem dX8_reach_28 : decode cX8_reach 28 = .ok (.aload_n 0, 1) := by decide +kernel
theorem dX8_reach_29 : decode cX8_reach 29 = .ok (.getfield 24, 3) := by decide +kernel
theorem dX8_reach_32 : decode cX8_reach 32 = .ok (.getfield 28, 3) := by decide +kernel
theorem dX8_reach_35 : decode cX8_reach 35 = .ok (.if_icmp .ge 112, 3) := by decide +kernel
theorem dX8_reach_38 : decode cX8_reach 38 = .ok (.aload_n 0, 1) := by decide +kernel
theorem dX8_reach_39 : decode cX8_reach 39 = .ok (.getfield 24, 3) := by decide +kernel
theorem dX8_reach_42 : decode cX8_reach 42 = .ok (.getfield 34, 3) := by decide +kernel
theorem dX8_reach_45 : decode cX8_reach 45 = .ok (.iload 5, 2) := by decide +kernel
theorem dX8_reach_47 : decode cX8_reach 47 = .ok (.iaload, 1) := by decide +kernel
theorem dX8_reach_48 : decode cX8_reach 48 = .ok (.ifCond .le 35, 3) := by decide +kernel
theorem dX8_reach_51 : decode cX8_reach 51 = .ok (.iload_n 2, 1) := by decide +kernel
theorem dX8_reach_52 : decode cX8_reach 52 = .ok (.aload_n 0, 1) := by decide +kernel
theorem dX8_reach_53 : decode cX8_reach 53 = .ok (.getfield 24, 3) := by decide +kernel
theorem dX8_reach_56 : decode cX8_reach 56 = .ok (.getfield 59, 3) := by decide +kernel
theorem dX8_reach_59 : decode cX8_reach 59 = .ok (.iload 5, 2) := by decide +kernel
theorem dX8_reach_61 : decode cX8_reach 61 = .ok (.iaload, 1) := by decide +kernel
theorem dX8_reach_62 : decode cX8_reach 62 = .ok (.invokestatic 69, 3) := by decide +kernel
theorem dX8_reach_65 : decode cX8_reach 65 = .ok (.ifCond .eq 18, 3) := by decide +kernel
theorem dX8_reach_68 : decode cX8_reach 68 = .ok (.iload_n 2, 1) := by decide +kernel
theorem dX8_reach_69 : decode cX8_reach 69 = .ok (.iconst 1, 1) := by decide +kernel
theorem dX8_reach_70 : decode cX8_reach 70 = .ok (.aload_n 0, 1) := by decide +kernel
theorem dX8_reach_71 : decode cX8_reach 71 = .ok (.getfield 24, 3) := by decide +kernel
theorem dX8_reach_74 : decode cX8_reach 74 = .ok (.getfield 62, 3) := by decide +kernel
theorem dX8_reach_77 : decode cX8_reach 77 = .ok (.iload 5, 2) := by decide +kernel
theorem dX8_reach_79 : decode cX8_reach 79 = .ok (.iaload, 1) := by decide +kernel
theorem dX8_reach_80 : decode cX8_reach 80 = .ok (.ishl, 1) := by decide +kernel
theorem dX8_reach_81 : decode cX8_reach 81 = .ok (.ior, 1) := by decide +kernel
theorem dX8_reach_82 : decode cX8_reach 82 = .ok (.istore_n 2, 1) := by decide +kernel
theorem dX8_reach_83 : decode cX8_reach 83 = .ok (.aload_n 0, 1) := by decide +kernel
theorem dX8_reach_84 : decode cX8_reach 84 = .ok (.getfield 24, 3) := by decide +kernel
theorem dX8_reach_87 : decode cX8_reach 87 = .ok (.getfield 34, 3) := by decide +kernel
theorem dX8_reach_90 : decode cX8_reach 90 = .ok (.iload 5, 2) := by decide +kernel
theorem dX8_reach_92 : decode cX8_reach 92 = .ok (.iaload, 1) := by decide +kernel
theorem dX8_reach_93 : decode cX8_reach 93 = .ok (.ifCond .le 48, 3) := by decide +kernel
theorem dX8_reach_96 : decode cX8_reach 96 = .ok (.aload_n 0, 1) := by decide +kernel
theorem dX8_reach_97 : decode cX8_reach 97 = .ok (.getfield 24, 3) := by decide +kernel
theorem dX8_reach_100 : decode cX8_reach 100 = .ok (.getfield 65, 3) := by decide +kernel
theorem dX8_reach_103 : decode cX8_reach 103 = .ok (.iload 5, 2) := by decide +kernel
theorem dX8_reach_105 : decode cX8_reach 105 = .ok (.baload, 1) := by decide +kernel
theorem dX8_reach_106 : decode cX8_reach 106 = .ok (.ifCond .ne 35, 3) := by decide +kernel
theorem dX8_reach_109 : decode cX8_reach 109 = .ok (.iload_n 2, 1) := by decide +kernel
theorem dX8_reach_110 : decode cX8_reach 110 = .ok (.aload_n 0, 1) := by decide +kernel
theorem dX8_reach_111 : decode cX8_reach 111 = .ok (.getfield 24, 3) := by decide +kernel
theorem dX8_reach_114 : decode cX8_reach 114 = .ok (.getfield 62, 3) := by decide +kernel
theorem dX8_reach_117 : decode cX8_reach 117 = .ok (.iload 5, 2) := by decide +kernel
theorem dX8_reach_119 : decode cX8_reach 119 = .ok (.iaload, 1) := by decide +kernel
theorem dX8_reach_120 : decode cX8_reach 120 = .ok (.invokestatic 69, 3) := by decide +kernel
theorem dX8_reach_123 : decode cX8_reach 123 = .ok (.ifCond .eq 18, 3) := by decide +kernel
theorem dX8_reach_126 : decode cX8_reach 126 = .ok (.iload_n 2, 1) := by decide +kernel
theorem dX8_reach_127 : decode cX8_reach 127 = .ok (.iconst 1, 1) := by decide +kernel
theorem dX8_reach_128 : decode cX8_reach 128 = .ok (.aload_n 0, 1) := by decide +kernel
theorem dX8_reach_129 : decode cX8_reach 129 = .ok (.getfield 24, 3) := by decide +kernel
theorem dX8_reach_132 : decode cX8_reach 132 = .ok (.getfield 59, 3) := by decide +kernel
theorem dX8_reach_135 : decode cX8_reach 135 = .ok (.iload 5, 2) := by decide +kernel
theorem dX8_reach_137 : decode cX8_reach 137 = .ok (.iaload, 1) := by decide +kernel
theorem dX8_reach_138 : decode cX8_reach 138 = .ok (.ishl, 1) := by decide +kernel
theorem dX8_reach_139 : decode cX8_reach 139 = .ok (.ior, 1) := by decide +kernel
theorem dX8_reach_140 : decode cX8_reach 140 = .ok (.istore_n 2, 1) := by decide +kernel
theorem dX8_reach_141 : decode cX8_reach 141 = .ok (.iinc 5 1, 3) := by decide +kernel
theorem dX8_reach_144 : decode cX8_reach 144 = .ok (.goto (-118), 3) := by decide +kernel
theorem dX8_reach_147 : decode cX8_reach 147 = .ok (.iinc 4 1, 3) := by decide +kernel
theorem dX8_reach_150 : decode cX8_reach 150 = .ok (.goto (-141), 3) := by decide +kernel
theorem dX8_reach_153 : decode cX8_reach 153 = .ok (.iload_n 2, 1) := by decide +kernel
theorem dX8_reach_154 : decode cX8_reach 154 = .ok (.ireturn, 1) := by decide +kernel
set_option maxRecDepth 100000 in
set_option maxHeartbeats 4000000 in
theorem B_X8_reach_0 {κ : Nat → List Value → List Value → m2M → Prop} {D : Nat} {Q : Option Value → m2M → Prop} (h : m2_RL κ cX8_reach RX8 6 D (some .int) Q) {x1 : Int32} {μ : m2M} (k : κ 9 [.ref kR, .int x1, .int ((1 : Int32) <<< (x1 &&& 31)), .int 0, .int 0, .null] [] μ) : κ 0 [.ref kR, .int x1, .null, .null, .null, .null] [] μ := by
  have hB := h.b
  refine m2_iconst hB dX8_reach_0 (v := 1) (by decide) ?_
  refine m2_iload_n hB dX8_reach_1 rfl ?_
  refine m2_ishl hB dX8_reach_2 ?_
  refine m2_istore_n hB (ls' := [.ref kR, .int x1, .int ((1 : Int32) <<< (x1 &&& 31)), .null, .null, .null]) dX8_reach_3 rfl (by decide) rfl ?_
  refine m2_iconst hB dX8_reach_4 (v := 0) (by decide) ?_
  refine m2_istore_n hB (ls' := [.ref kR, .int x1, .int ((1 : Int32) <<< (x1 &&& 31)), .int 0, .null, .null]) dX8_reach_5 rfl (by decide) rfl ?_
  refine m2_iconst hB dX8_reach_6 (v := 0) (by decide) ?_
  refine m2_istore hB (ls' := [.ref kR, .int x1, .int ((1 : Int32) <<< (x1 &&& 31)), .int 0, .int 0, .null]) dX8_reach_7 (by decide) rfl ?_
  exact k
set_option maxRecDepth 100000 in
set_option maxHeartbeats 4000000 in
theorem B_X8_reach_9 {κ : Nat → List Value → List Value → m2M → Prop} {D : Nat} {Q : Option Value → m2M → Prop} (h : m2_RL κ cX8_reach RX8 6 D (some .int) Q) {v1 : Int32} {v2 : Int32} {v3 : Int32} {v4 : Int32} {μ : m2M} (k : (12 ≤ v4 → κ 153 [.ref kR, .int v1, .int v2, .int v3, .int v4, .null] [] μ) ∧ (¬ 12 ≤ v4 → (v2 = v3 → κ 153 [.ref kR, .int v1, .int v2, .int v3, .int v4, .null] [] μ) ∧ (¬ v2 = v3 → κ 26 [.ref kR, .int v1, .int v2, .int v2, .int v4, .int 0] [] μ))) : κ 9 [.ref kR, .int v1, .int v2, .int v3, .int v4, .null] [] μ := by
  have hB := h.b
  refine m2_iload hB dX8_reach_9 rfl ?_
  refine m2_bipush hB dX8_reach_11 (v := 12) (by decide) ?_
  refine m2_icmp_ge hB dX8_reach_13 (tgt := 153) (by decide) (fun q1 : 12 ≤ v4 => ?_) (fun q1 : ¬ 12 ≤ v4 => ?_)
  · replace k := k.1 q1
    exact k
  · replace k := k.2 q1
    refine m2_iload_n hB dX8_reach_16 rfl ?_
    refine m2_iload_n hB dX8_reach_17 rfl ?_
    refine m2_icmp_eq hB dX8_reach_18 (tgt := 153) (by decide) (fun q2 : v2 = v3 => ?_) (fun q2 : ¬ v2 = v3 => ?_)
    · replace k := k.1 q2
      exact k
    · replace k := k.2 q2
      refine m2_iload_n hB dX8_reach_21 rfl ?_
      refine m2_istore_n hB (ls' := [.ref kR, .int v1, .int v2, .int v2, .int v4, .null]) dX8_reach_22 rfl (by decide) rfl ?_
      refine m2_iconst hB dX8_reach_23 (v := 0) (by decide) ?_
      refine m2_istore hB (ls' := [.ref kR, .int v1, .int v2, .int v2, .int v4, .int 0]) dX8_reach_24 (by decide) rfl ?_
      exact k
set_option maxRecDepth 100000 in
set_option maxHeartbeats 4000000 in
theorem B_X8_reach_26 {κ : Nat → List Value → List Value → m2M → Prop} {D : Nat} {Q : Option Value → m2M → Prop} (h : m2_RL κ cX8_reach RX8 6 (D + 1) (some .int) Q) (hD : 0 ≤ D) {v1 : Int32} {v2 : Int32} {v3 : Int32} {v4 : Int32} {v5 : Int32} {μ : m2M} (k : ((μ.1 kD 6) ≤ v5 → κ 9 [.ref kR, .int v1, .int v2, .int v3, .int (v4 + 1), .null] [] μ) ∧ (¬ (μ.1 kD 6) ≤ v5 → (vp_in v5 20) ∧ (((μ.1 kD_left (v5).toNatClampNeg) ≤ 0 → κ 83 [.ref kR, .int v1, .int v2, .int v3, .int v4, .int v5] [] μ) ∧ (¬ (μ.1 kD_left (v5).toNatClampNeg) ≤ 0 → ((fX11_hasBit v2 (μ.1 kD_a (v5).toNatClampNeg)) = 1 → κ 83 [.ref kR, .int v1, .int (v2 ||| ((1 : Int32) <<< ((μ.1 kD_b (v5).toNatClampNeg) &&& 31))), .int v3, .int v4, .int v5] [] μ) ∧ (¬ (fX11_hasBit v2 (μ.1 kD_a (v5).toNatClampNeg)) = 1 → κ 83 [.ref kR, .int v1, .int v2, .int v3, .int v4, .int v5] [] μ))))) : κ 26 [.ref kR, .int v1, .int v2, .int v3, .int v4, .int v5] [] μ := by
  have hB := h.b
  refine m2_iload hB dX8_reach_26 rfl ?_
  refine m2_aload_n hB dX8_reach_28 rfl ?_
  refine m2_getR hB dX8_reach_29 fl_X8_24 sh_kR (c1 := kD) rfl ?_
  refine m2_getI hB dX8_reach_32 fl_X8_28 sh_kD rfl ?_
  refine m2_icmp_ge hB dX8_reach_35 (tgt := 147) (by decide) (fun q2 : (μ.1 kD 6) ≤ v5 => ?_) (fun q2 : ¬ (μ.1 kD 6) ≤ v5 => ?_)
  · replace k := k.1 q2
    refine m2_iinc hB (ls' := [.ref kR, .int v1, .int v2, .int v3, .int (v4 + 1), .int v5]) (v := (v4 + 1)) dX8_reach_147 rfl (by decide) rfl rfl ?_
    refine m2_goto hB dX8_reach_150 (tgt := 9) (by decide) ?_
    exact m2_weak (ls' := [.ref kR, .int v1, .int v2, .int v3, .int (v4 + 1), .null]) hB ⟨Or.inr rfl, Or.inr rfl, Or.inr rfl, Or.inr rfl, Or.inr rfl, Or.inl rfl, trivial⟩ k
  · replace k := k.2 q2
    refine m2_aload_n hB dX8_reach_38 rfl ?_
    refine m2_getR hB dX8_reach_39 fl_X8_24 sh_kR (c1 := kD) rfl ?_
    refine m2_getR hB dX8_reach_42 fl_X8_34 sh_kD (c1 := kD_left) rfl ?_
    refine m2_iload hB dX8_reach_45 rfl ?_
    obtain ⟨hi3, k⟩ := k
    refine m2_iald hB dX8_reach_47 sh_kD_left hi3 ?_
    refine m2_if_le hB dX8_reach_48 (tgt := 83) (by decide) (fun q5 : (μ.1 kD_left (v5).toNatClampNeg) ≤ 0 => ?_) (fun q5 : ¬ (μ.1 kD_left (v5).toNatClampNeg) ≤ 0 => ?_)
    · replace k := k.1 q5
      exact k
    · replace k := k.2 q5
      refine m2_iload_n hB dX8_reach_51 rfl ?_
      refine m2_aload_n hB dX8_reach_52 rfl ?_
      refine m2_getR hB dX8_reach_53 fl_X8_24 sh_kR (c1 := kD) rfl ?_
      refine m2_getR hB dX8_reach_56 fl_X8_59 sh_kD (c1 := kD_a) rfl ?_
      refine m2_iload hB dX8_reach_59 rfl ?_
      have hi6 := hi3
      refine m2_iald hB dX8_reach_61 sh_kD_a hi6 ?_
      refine m2_invNz hB (as := [.int v2, .int (μ.1 kD_a (v5).toNatClampNeg)]) dX8_reach_62 mn_X8_69 rfl (Nat.le_of_ble_eq_true rfl) rfl (P_X11_hasBit (by omega) (v2) ((μ.1 kD_a (v5).toNatClampNeg)) _ ) (fun y7 μ8 hq9 => ?_)
      obtain ⟨⟨⟩, hq9⟩ := hq9
      subst μ8
      show κ 65 [.ref kR, .int v1, .int v2, .int v3, .int v4, .int v5] [.int (if (fX11_hasBit v2 (μ.1 kD_a (v5).toNatClampNeg)) = 1 then 1 else 0 : Int32)] μ
      by_cases q10 : (fX11_hasBit v2 (μ.1 kD_a (v5).toNatClampNeg)) = 1
      · rw [if_pos q10]
        replace k := k.1 q10
        refine m2_if_eq hB dX8_reach_65 (tgt := 83) (by decide) (fun q => absurd q (by decide)) (fun _ => ?_)
        refine m2_iload_n hB dX8_reach_68 rfl ?_
        refine m2_iconst hB dX8_reach_69 (v := 1) (by decide) ?_
        refine m2_aload_n hB dX8_reach_70 rfl ?_
        refine m2_getR hB dX8_reach_71 fl_X8_24 sh_kR (c1 := kD) rfl ?_
        refine m2_getR hB dX8_reach_74 fl_X8_62 sh_kD (c1 := kD_b) rfl ?_
        refine m2_iload hB dX8_reach_77 rfl ?_
        have hi11 := hi3
        refine m2_iald hB dX8_reach_79 sh_kD_b hi11 ?_
        refine m2_ishl hB dX8_reach_80 ?_
        refine m2_ior hB dX8_reach_81 ?_
        refine m2_istore_n hB (ls' := [.ref kR, .int v1, .int (v2 ||| ((1 : Int32) <<< ((μ.1 kD_b (v5).toNatClampNeg) &&& 31))), .int v3, .int v4, .int v5]) dX8_reach_82 rfl (by decide) rfl ?_
        exact k
      · rw [if_neg q10]
        replace k := k.2 q10
        refine m2_if_eq hB dX8_reach_65 (tgt := 83) (by decide) (fun _ => ?_) (fun q => absurd q (by decide))
        exact k
set_option maxRecDepth 100000 in
set_option maxHeartbeats 4000000 in
theorem B_X8_reach_83 {κ : Nat → List Value → List Value → m2M → Prop} {D : Nat} {Q : Option Value → m2M → Prop} (h : m2_RL κ cX8_reach RX8 6 (D + 1) (some .int) Q) (hD : 0 ≤ D) {v1 : Int32} {v2 : Int32} {v3 : Int32} {v4 : Int32} {v5 : Int32} {μ : m2M} (k : (vp_in v5 20) ∧ (((μ.1 kD_left (v5).toNatClampNeg) ≤ 0 → κ 141 [.ref kR, .int v1, .int v2, .int v3, .int v4, .int v5] [] μ) ∧ (¬ (μ.1 kD_left (v5).toNatClampNeg) ≤ 0 → (¬ (μ.1 kD_oneWay (v5).toNatClampNeg) = 0 → κ 141 [.ref kR, .int v1, .int v2, .int v3, .int v4, .int v5] [] μ) ∧ ((μ.1 kD_oneWay (v5).toNatClampNeg) = 0 → ((fX11_hasBit v2 (μ.1 kD_b (v5).toNatClampNeg)) = 1 → κ 141 [.ref kR, .int v1, .int (v2 ||| ((1 : Int32) <<< ((μ.1 kD_a (v5).toNatClampNeg) &&& 31))), .int v3, .int v4, .int v5] [] μ) ∧ (¬ (fX11_hasBit v2 (μ.1 kD_b (v5).toNatClampNeg)) = 1 → κ 141 [.ref kR, .int v1, .int v2, .int v3, .int v4, .int v5] [] μ))))) : κ 83 [.ref kR, .int v1, .int v2, .int v3, .int v4, .int v5] [] μ := by
  have hB := h.b
  refine m2_aload_n hB dX8_reach_83 rfl ?_
  refine m2_getR hB dX8_reach_84 fl_X8_24 sh_kR (c1 := kD) rfl ?_
  refine m2_getR hB dX8_reach_87 fl_X8_34 sh_kD (c1 := kD_left) rfl ?_
  refine m2_iload hB dX8_reach_90 rfl ?_
  obtain ⟨hi1, k⟩ := k
  refine m2_iald hB dX8_reach_92 sh_kD_left hi1 ?_
  refine m2_if_le hB dX8_reach_93 (tgt := 141) (by decide) (fun q3 : (μ.1 kD_left (v5).toNatClampNeg) ≤ 0 => ?_) (fun q3 : ¬ (μ.1 kD_left (v5).toNatClampNeg) ≤ 0 => ?_)
  · replace k := k.1 q3
    exact k
  · replace k := k.2 q3
    refine m2_aload_n hB dX8_reach_96 rfl ?_
    refine m2_getR hB dX8_reach_97 fl_X8_24 sh_kR (c1 := kD) rfl ?_
    refine m2_getR hB dX8_reach_100 fl_X8_65 sh_kD (c1 := kD_oneWay) rfl ?_
    refine m2_iload hB dX8_reach_103 rfl ?_
    have hi4 := hi1
    refine m2_zald hB dX8_reach_105 sh_kD_oneWay hi4 ?_
    refine m2_if_ne hB dX8_reach_106 (tgt := 141) (by decide) (fun q6 : ¬ (μ.1 kD_oneWay (v5).toNatClampNeg) = 0 => ?_) (fun q6 : (μ.1 kD_oneWay (v5).toNatClampNeg) = 0 => ?_)
    · replace k := k.1 q6
      exact k
    · replace k := k.2 q6
      refine m2_iload_n hB dX8_reach_109 rfl ?_
      refine m2_aload_n hB dX8_reach_110 rfl ?_
      refine m2_getR hB dX8_reach_111 fl_X8_24 sh_kR (c1 := kD) rfl ?_
      refine m2_getR hB dX8_reach_114 fl_X8_62 sh_kD (c1 := kD_b) rfl ?_
      refine m2_iload hB dX8_reach_117 rfl ?_
      have hi7 := hi1
      refine m2_iald hB dX8_reach_119 sh_kD_b hi7 ?_
      refine m2_invNz hB (as := [.int v2, .int (μ.1 kD_b (v5).toNatClampNeg)]) dX8_reach_120 mn_X8_69 rfl (Nat.le_of_ble_eq_true rfl) rfl (P_X11_hasBit (by omega) (v2) ((μ.1 kD_b (v5).toNatClampNeg)) _ ) (fun y8 μ9 hq10 => ?_)
      obtain ⟨⟨⟩, hq10⟩ := hq10
      subst μ9
      show κ 123 [.ref kR, .int v1, .int v2, .int v3, .int v4, .int v5] [.int (if (fX11_hasBit v2 (μ.1 kD_b (v5).toNatClampNeg)) = 1 then 1 else 0 : Int32)] μ
      by_cases q11 : (fX11_hasBit v2 (μ.1 kD_b (v5).toNatClampNeg)) = 1
      · rw [if_pos q11]
        replace k := k.1 q11
        refine m2_if_eq hB dX8_reach_123 (tgt := 141) (by decide) (fun q => absurd q (by decide)) (fun _ => ?_)
        refine m2_iload_n hB dX8_reach_126 rfl ?_
        refine m2_iconst hB dX8_reach_127 (v := 1) (by decide) ?_
        refine m2_aload_n hB dX8_reach_128 rfl ?_
        refine m2_getR hB dX8_reach_129 fl_X8_24 sh_kR (c1 := kD) rfl ?_
        refine m2_getR hB dX8_reach_132 fl_X8_59 sh_kD (c1 := kD_a) rfl ?_
        refine m2_iload hB dX8_reach_135 rfl ?_
        have hi12 := hi1
        refine m2_iald hB dX8_reach_137 sh_kD_a hi12 ?_
        refine m2_ishl hB dX8_reach_138 ?_
        refine m2_ior hB dX8_reach_139 ?_
        refine m2_istore_n hB (ls' := [.ref kR, .int v1, .int (v2 ||| ((1 : Int32) <<< ((μ.1 kD_a (v5).toNatClampNeg) &&& 31))), .int v3, .int v4, .int v5]) dX8_reach_140 rfl (by decide) rfl ?_
        exact k
      · rw [if_neg q11]
        replace k := k.2 q11
        refine m2_if_eq hB dX8_reach_123 (tgt := 141) (by decide) (fun _ => ?_) (fun q => absurd q (by decide))
        exact k
set_option maxRecDepth 100000 in
set_option maxHeartbeats 4000000 in
theorem B_X8_reach_141 {κ : Nat → List Value → List Value → m2M → Prop} {D : Nat} {Q : Option Value → m2M → Prop} (h : m2_RL κ cX8_reach RX8 6 D (some .int) Q) {v1 : Int32} {v2 : Int32} {v3 : Int32} {v4 : Int32} {v5 : Int32} {μ : m2M} (k : κ 26 [.ref kR, .int v1, .int v2, .int v3, .int v4, .int (v5 + 1)] [] μ) : κ 141 [.ref kR, .int v1, .int v2, .int v3, .int v4, .int v5] [] μ := by
  have hB := h.b
  refine m2_iinc hB (ls' := [.ref kR, .int v1, .int v2, .int v3, .int v4, .int (v5 + 1)]) (v := (v5 + 1)) dX8_reach_141 rfl (by decide) rfl rfl ?_
  refine m2_goto hB dX8_reach_144 (tgt := 26) (by decide) ?_
  exact k
set_option maxRecDepth 100000 in
set_option maxHeartbeats 4000000 in
theorem B_X8_reach_153 {κ : Nat → List Value → List Value → m2M → Prop} {D : Nat} {Q : Option Value → m2M → Prop} (h : m2_RL κ cX8_reach RX8 6 D (some .int) Q) {v1 : Int32} {v2 : Int32} {v3 : Int32} {v4 : Int32} {μ : m2M} (k : Q (some (.int v2)) μ) : κ 153 [.ref kR, .int v1, .int v2, .int v3, .int v4, .null] [] μ := by
  have hB := h.b
  refine m2_iload_n hB dX8_reach_153 rfl ?_
  exact m2_iret h dX8_reach_154 k
theorem dX9_prepare_0 : decode cX9_prepare 0 = .ok (.aload_n 0, 1) := by decide +kernel
theorem dX9_prepare_1 : decode cX9_prepare 1 = .ok (.iconst 0, 1) := by decide +kernel
theorem dX9_prepare_2 : decode cX9_prepare 2 = .ok (.putfield 36, 3) := by decide +kernel
theorem dX9_prepare_5 : decode cX9_prepare 5 = .ok (.aload_n 0, 1) := by decide +kernel
theorem dX9_prepare_6 : decode cX9_prepare 6 = .ok (.getfield 26, 3) := by decide +kernel
theorem dX9_prepare_9 : decode cX9_prepare 9 = .ok (.iconst 0, 1) := by decide +kernel
theorem dX9_prepare_10 : decode cX9_prepare 10 = .ok (.invokevirtual 40, 3) := by decide +kernel
theorem dX9_prepare_13 : decode cX9_prepare 13 = .ok (.iconst 0, 1) := by decide +kernel
theorem dX9_prepare_14 : decode cX9_prepare 14 = .ok (.istore_n 2, 1) := by decide +kernel
theorem dX9_prepare_15 : decode cX9_prepare 15 = .ok (.iload_n 2, 1) := by decide +kernel
theorem dX9_prepare_16 : decode cX9_prepare 16 = .ok (.bipush 12, 2) := by decide +kernel
theorem dX9_prepare_18 : decode cX9_prepare 18 = .ok (.if_icmp .ge 77, 3) := by decide +kernel
theorem dX9_prepare_21 : decode cX9_prepare 21 = .ok (.aload_n 0, 1) := by decide +kernel
theorem dX9_prepare_22 : decode cX9_prepare 22 = .ok (.getfield 36, 3) := by decide +kernel
theorem dX9_prepare_25 : decode cX9_prepare 25 = .ok (.bipush 6, 2) := by decide +kernel
theorem dX9_prepare_27 : decode cX9_prepare 27 = .ok (.if_icmp .ge 68, 3) := by decide +kernel
theorem dX9_prepare_30 : decode cX9_prepare 30 = .ok (.iload_n 1, 1) := by decide +kernel
theorem dX9_prepare_31 : decode cX9_prepare 31 = .ok (.iload_n 2, 1) := by decide +kernel
theorem dX9_prepare_32 : decode cX9_prepare 32 = .ok (.invokestatic 46, 3) := by decide +kernel
theorem dX9_prepare_35 : decode cX9_prepare 35 = .ok (.ifCond .eq 54, 3) := by decide +kernel
theorem dX9_prepare_38 : decode cX9_prepare 38 = .ok (.aload_n 0, 1) := by decide +kernel
theorem dX9_prepare_39 : decode cX9_prepare 39 = .ok (.getfield 26, 3) := by decide +kernel
theorem dX9_prepare_42 : decode cX9_prepare 42 = .ok (.iload_n 2, 1) := by decide +kernel
theorem dX9_prepare_43 : decode cX9_prepare 43 = .ok (.invokevirtual 50, 3) := by decide +kernel
theorem dX9_prepare_46 : decode cX9_prepare 46 = .ok (.aload_n 0, 1) := by decide +kernel
theorem dX9_prepare_47 : decode cX9_prepare 47 = .ok (.getfield 26, 3) := by decide +kernel
theorem dX9_prepare_50 : decode cX9_prepare 50 = .ok (.getfield 53, 3) := by decide +kernel
theorem dX9_prepare_53 : decode cX9_prepare 53 = .ok (.iconst 0, 1) := by decide +kernel
theorem dX9_prepare_54 : decode cX9_prepare 54 = .ok (.aload_n 0, 1) := by decide +kernel
theorem dX9_prepare_55 : decode cX9_prepare 55 = .ok (.getfield 17, 3) := by decide +kernel
theorem dX9_prepare_58 : decode cX9_prepare 58 = .ok (.aload_n 0, 1) := by decide +kernel
theorem dX9_prepare_59 : decode cX9_prepare 59 = .ok (.getfield 36, 3) := by decide +kernel
theorem dX9_prepare_62 : decode cX9_prepare 62 = .ok (.aaload, 1) := by decide +kernel
theorem dX9_prepare_63 : decode cX9_prepare 63 = .ok (.iconst 0, 1) := by decide +kernel
theorem dX9_prepare_64 : decode cX9_prepare 64 = .ok (.bipush 12, 2) := by decide +kernel
theorem dX9_prepare_66 : decode cX9_prepare 66 = .ok (.invokestatic 56, 3) := by decide +kernel
theorem dX9_prepare_69 : decode cX9_prepare 69 = .ok (.aload_n 0, 1) := by decide +kernel
theorem dX9_prepare_70 : decode cX9_prepare 70 = .ok (.getfield 11, 3) := by decide +kernel
theorem dX9_prepare_73 : decode cX9_prepare 73 = .ok (.aload_n 0, 1) := by decide +kernel
theorem dX9_prepare_74 : decode cX9_prepare 74 = .ok (.getfield 36, 3) := by decide +kernel
theorem dX9_prepare_77 : decode cX9_prepare 77 = .ok (.iload_n 2, 1) := by decide +kernel
theorem dX9_prepare_78 : decode cX9_prepare 78 = .ok (.iastore, 1) := by decide +kernel
theorem dX9_prepare_79 : decode cX9_prepare 79 = .ok (.aload_n 0, 1) := by decide +kernel
theorem dX9_prepare_80 : decode cX9_prepare 80 = .ok (.dup, 1) := by decide +kernel
theorem dX9_prepare_81 : decode cX9_prepare 81 = .ok (.getfield 36, 3) := by decide +kernel
theorem dX9_prepare_84 : decode cX9_prepare 84 = .ok (.iconst 1, 1) := by decide +kernel
theorem dX9_prepare_85 : decode cX9_prepare 85 = .ok (.iadd, 1) := by decide +kernel
theorem dX9_prepare_86 : decode cX9_prepare 86 = .ok (.putfield 36, 3) := by decide +kernel
theorem dX9_prepare_89 : decode cX9_prepare 89 = .ok (.iinc 2 1, 3) := by decide +kernel
theorem dX9_prepare_92 : decode cX9_prepare 92 = .ok (.goto (-77), 3) := by decide +kernel
theorem dX9_prepare_95 : decode cX9_prepare 95 = .ok (.iconst 0, 1) := by decide +kernel
theorem dX9_prepare_96 : decode cX9_prepare 96 = .ok (.istore_n 2, 1) := by decide +kernel
theorem dX9_prepare_97 : decode cX9_prepare 97 = .ok (.iload_n 2, 1) := by decide +kernel
theorem dX9_prepare_98 : decode cX9_prepare 98 = .ok (.iconst 1, 1) := by decide +kernel
theorem dX9_prepare_99 : decode cX9_prepare 99 = .ok (.aload_n 0, 1) := by decide +kernel
theorem dX9_prepare_100 : decode cX9_prepare 100 = .ok (.getfield 36, 3) := by decide +kernel
theorem dX9_prepare_103 : decode cX9_prepare 103 = .ok (.ishl, 1) := by decide +kernel
theorem dX9_prepare_104 : decode cX9_prepare 104 = .ok (.if_icmp .ge 44, 3) := by decide +kernel
theorem dX9_prepare_107 : decode cX9_prepare 107 = .ok (.iconst 0, 1) := by decide +kernel
theorem dX9_prepare_108 : decode cX9_prepare 108 = .ok (.istore_n 3, 1) := by decide +kernel
theorem dX9_prepare_109 : decode cX9_prepare 109 = .ok (.iload_n 3, 1) := by decide +kernel
theorem dX9_prepare_110 : decode cX9_prepare 110 = .ok (.aload_n 0, 1) := by decide +kernel
theorem dX9_prepare_111 : decode cX9_prepare 111 = .ok (.getfield 36, 3) := by decide +kernel
theorem dX9_prepare_114 : decode cX9_prepare 114 = .ok (.if_icmp .ge 28, 3) := by decide +kernel
theorem dX9_prepare_117 : decode cX9_prepare 117 = .ok (.aload_n 0, 1) := by decide +kernel
theorem dX9_prepare_118 : decode cX9_prepare 118 = .ok (.getfield 20, 3) := by decide +kernel
theorem dX9_prepare_121 : decode cX9_prepare 121 = .ok (.iload_n 2, 1) := by decide +kernel
theorem dX9_prepare_122 : decode cX9_prepare 122 = .ok (.aaload, 1) := by decide +kernel
theorem dX9_prepare_123 : decode cX9_prepare 123 = .ok (.iload_n 3, 1) := by decide +kernel
theorem dX9_prepare_124 : decode cX9_prepare 124 = .ok (.aload_n 0, 1) := by decide +kernel
theorem dX9_prepare_125 : decode cX9_prepare 125 = .ok (.aload_n 0, 1) := by decide +kernel
theorem dX9_prepare_126 : decode cX9_prepare 126 = .ok (.getfield 11, 3) := by decide +kernel
theorem dX9_prepare_129 : decode cX9_prepare 129 = .ok (.iload_n 3, 1) := by decide +kernel
theorem dX9_prepare_130 : decode cX9_prepare 130 = .ok (.iaload, 1) := by decide +kernel
theorem dX9_prepare_131 : decode cX9_prepare 131 = .ok (.iload_n 2, 1) := by decide +kernel
theorem dX9_prepare_132 : decode cX9_prepare 132 = .ok (.invokevirtual 62, 3) := by decide +kernel
theorem dX9_prepare_135 : decode cX9_prepare 135 = .ok (.iastore, 1) := by decide +kernel
theorem dX9_prepare_136 : decode cX9_prepare 136 = .ok (.iinc 3 1, 3) := by decide +kernel
theorem dX9_prepare_139 : decode cX9_prepare 139 = .ok (.goto (-30), 3) := by decide +kernel
theorem dX9_prepare_142 : decode cX9_prepare 142 = .ok (.iinc 2 1, 3) := by decide +kernel
theorem dX9_prepare_145 : decode cX9_prepare 145 = .ok (.goto (-48), 3) := by decide +kernel
theorem dX9_prepare_148 : decode cX9_prepare 148 = .ok (.return_, 1) := by decide +kernel
set_option maxRecDepth 100000 in
set_option maxHeartbeats 4000000 in
theorem B_X9_prepare_0 {κ : Nat → List Value → List Value → m2M → Prop} {D : Nat} {Q : Option Value → m2M → Prop} (h : m2_RL κ cX9_prepare RX9 4 (D + 1) none Q) {x1 : Int32} {μ : m2M} (k : ∃ Q3 : Option Value → m2M → Prop, m2_MT D yX8_useAbove cX8_useAbove 3 none [.ref kR, .int 0] (m2_si μ kT 5 0) Q3 ∧ ∀ (μ2 : m2M), Q3 none μ2 → (κ 15 [.ref kT, .int x1, .int 0, .null] [] μ2)) : κ 0 [.ref kT, .int x1, .null, .null] [] μ := by
  have hB := h.b
  refine m2_aload_n hB dX9_prepare_0 rfl ?_
  refine m2_iconst hB dX9_prepare_1 (v := 0) (by decide) ?_
  refine m2_putI hB dX9_prepare_2 fl_X9_36 sh_kT rfl ?_
  refine m2_aload_n hB dX9_prepare_5 rfl ?_
  refine m2_getR hB dX9_prepare_6 fl_X9_26 sh_kT (c1 := kR) rfl ?_
  refine m2_iconst hB dX9_prepare_9 (v := 0) (by decide) ?_
  obtain ⟨Q3, hM4, k⟩ := k
  refine m2_invv hB (as := [.int 0]) dX9_prepare_10 mv_X9_40 rfl sh_kR rfl (Nat.le_of_ble_eq_true rfl) rfl hM4 (fun μ2 hq5 => ?_)
  replace k := k μ2 hq5
  refine m2_iconst hB dX9_prepare_13 (v := 0) (by decide) ?_
  refine m2_istore_n hB (ls' := [.ref kT, .int x1, .int 0, .null]) dX9_prepare_14 rfl (by decide) rfl ?_
  exact k
set_option maxRecDepth 100000 in
set_option maxHeartbeats 4000000 in
theorem B_X9_prepare_15 {κ : Nat → List Value → List Value → m2M → Prop} {D : Nat} {Q : Option Value → m2M → Prop} (h : m2_RL κ cX9_prepare RX9 4 (D + 1) none Q) (hD : 0 ≤ D) {v1 : Int32} {v2 : Int32} {μ : m2M} (k : (12 ≤ v2 → κ 97 [.ref kT, .int v1, .int 0, .null] [] μ) ∧ (¬ 12 ≤ v2 → (6 ≤ (μ.1 kT 5) → κ 97 [.ref kT, .int v1, .int 0, .null] [] μ) ∧ (¬ 6 ≤ (μ.1 kT 5) → ((fX11_hasBit v1 v2) = 1 → ∃ Q15 : Option Value → m2M → Prop, m2_MT D yX8_measure cX8_measure 7 none [.ref kR, .int v2] μ Q15 ∧ ∀ (μ14 : m2M), Q15 none μ14 → (∃ j18 : Nat, (μ14.1 kT 5) = nI j18 ∧ j18 < 6 ∧ ((vp_in (((m2_sr μ14 (kFar j18) (va_cpy ((μ14).1 kR_dist) ((μ14).1 (kFar j18)) ((0 : Int32)).toNatClampNeg ((0 : Int32)).toNatClampNeg ((12 : Int32)).toNatClampNeg))).1 kT 5) 6) ∧ (κ 15 [.ref kT, .int v1, .int (v2 + 1), .null] [] (m2_si (m2_si (m2_sr μ14 (kFar j18) (va_cpy ((μ14).1 kR_dist) ((μ14).1 (kFar j18)) ((0 : Int32)).toNatClampNeg ((0 : Int32)).toNatClampNeg ((12 : Int32)).toNatClampNeg)) kT_rooms ((((m2_sr μ14 (kFar j18) (va_cpy ((μ14).1 kR_dist) ((μ14).1 (kFar j18)) ((0 : Int32)).toNatClampNeg ((0 : Int32)).toNatClampNeg ((12 : Int32)).toNatClampNeg))).1 kT 5)).toNatClampNeg v2) kT 5 ((((m2_sr μ14 (kFar j18) (va_cpy ((μ14).1 kR_dist) ((μ14).1 (kFar j18)) ((0 : Int32)).toNatClampNeg ((0 : Int32)).toNatClampNeg ((12 : Int32)).toNatClampNeg))).1 kT 5) + 1)))))) ∧ (¬ (fX11_hasBit v1 v2) = 1 → κ 15 [.ref kT, .int v1, .int (v2 + 1), .null] [] μ)))) : κ 15 [.ref kT, .int v1, .int v2, .null] [] μ := by
  have hB := h.b
  refine m2_iload_n hB dX9_prepare_15 rfl ?_
  refine m2_bipush hB dX9_prepare_16 (v := 12) (by decide) ?_
  refine m2_icmp_ge hB dX9_prepare_18 (tgt := 95) (by decide) (fun q4 : 12 ≤ v2 => ?_) (fun q4 : ¬ 12 ≤ v2 => ?_)
  · replace k := k.1 q4
    refine m2_iconst hB dX9_prepare_95 (v := 0) (by decide) ?_
    refine m2_istore_n hB (ls' := [.ref kT, .int v1, .int 0, .null]) dX9_prepare_96 rfl (by decide) rfl ?_
    exact k
  · replace k := k.2 q4
    refine m2_aload_n hB dX9_prepare_21 rfl ?_
    refine m2_getI hB dX9_prepare_22 fl_X9_36 sh_kT rfl ?_
    refine m2_bipush hB dX9_prepare_25 (v := 6) (by decide) ?_
    refine m2_icmp_ge hB dX9_prepare_27 (tgt := 95) (by decide) (fun q8 : 6 ≤ (μ.1 kT 5) => ?_) (fun q8 : ¬ 6 ≤ (μ.1 kT 5) => ?_)
    · replace k := k.1 q8
      refine m2_iconst hB dX9_prepare_95 (v := 0) (by decide) ?_
      refine m2_istore_n hB (ls' := [.ref kT, .int v1, .int 0, .null]) dX9_prepare_96 rfl (by decide) rfl ?_
      exact k
    · replace k := k.2 q8
      refine m2_iload_n hB dX9_prepare_30 rfl ?_
      refine m2_iload_n hB dX9_prepare_31 rfl ?_
      refine m2_invNz hB (as := [.int v1, .int v2]) dX9_prepare_32 mn_X9_46 rfl (Nat.le_of_ble_eq_true rfl) rfl (P_X11_hasBit (by omega) (v1) (v2) _ ) (fun y9 μ10 hq11 => ?_)
      obtain ⟨⟨⟩, hq11⟩ := hq11
      subst μ10
      show κ 35 [.ref kT, .int v1, .int v2, .null] [.int (if (fX11_hasBit v1 v2) = 1 then 1 else 0 : Int32)] μ
      by_cases q12 : (fX11_hasBit v1 v2) = 1
      · rw [if_pos q12]
        replace k := k.1 q12
        refine m2_if_eq hB dX9_prepare_35 (tgt := 89) (by decide) (fun q => absurd q (by decide)) (fun _ => ?_)
        refine m2_aload_n hB dX9_prepare_38 rfl ?_
        refine m2_getR hB dX9_prepare_39 fl_X9_26 sh_kT (c1 := kR) rfl ?_
        refine m2_iload_n hB dX9_prepare_42 rfl ?_
        obtain ⟨Q15, hM16, k⟩ := k
        refine m2_invv hB (as := [.int v2]) dX9_prepare_43 mv_X9_50 rfl sh_kR rfl (Nat.le_of_ble_eq_true rfl) rfl hM16 (fun μ14 hq17 => ?_)
        replace k := k μ14 hq17
        refine m2_aload_n hB dX9_prepare_46 rfl ?_
        refine m2_getR hB dX9_prepare_47 fl_X9_26 sh_kT (c1 := kR) rfl ?_
        refine m2_getR hB dX9_prepare_50 fl_X9_53 sh_kR (c1 := kR_dist) rfl ?_
        refine m2_iconst hB dX9_prepare_53 (v := 0) (by decide) ?_
        refine m2_aload_n hB dX9_prepare_54 rfl ?_
        refine m2_getR hB dX9_prepare_55 fl_X9_17 sh_kT (c1 := kT_far) rfl ?_
        refine m2_aload_n hB dX9_prepare_58 rfl ?_
        refine m2_getI hB dX9_prepare_59 fl_X9_36 sh_kT rfl ?_
        obtain ⟨j18, e19, h_j18, k⟩ := k
        refine m2_aald hB dX9_prepare_62 sh_kT_far (Or.inr rfl) (ar_far e19 h_j18).1 (ar_far e19 h_j18).2 ?_
        refine m2_iconst hB dX9_prepare_63 (v := 0) (by decide) ?_
        refine m2_bipush hB dX9_prepare_64 (v := 12) (by decide) ?_
        refine m2_copyi hB dX9_prepare_66 ac_X9_56 ac_nat ac_stat ac_ini (Nat.le_of_ble_eq_true rfl) sh_kR_dist (sh_kFar h_j18) (by decide) (by decide) (by decide) (by decide) (by decide) ?_
        refine m2_aload_n hB dX9_prepare_69 rfl ?_
        refine m2_getR hB dX9_prepare_70 fl_X9_11 sh_kT (c1 := kT_rooms) rfl ?_
        refine m2_aload_n hB dX9_prepare_73 rfl ?_
        refine m2_getI hB dX9_prepare_74 fl_X9_36 sh_kT rfl ?_
        refine m2_iload_n hB dX9_prepare_77 rfl ?_
        obtain ⟨hi25, k⟩ := k
        refine m2_iast hB dX9_prepare_78 sh_kT_rooms hi25 ?_
        refine m2_aload_n hB dX9_prepare_79 rfl ?_
        refine m2_dup hB dX9_prepare_80 rfl ?_
        refine m2_getI hB dX9_prepare_81 fl_X9_36 sh_kT rfl ?_
        refine m2_iconst hB dX9_prepare_84 (v := 1) (by decide) ?_
        refine m2_iadd hB dX9_prepare_85 ?_
        refine m2_putI hB dX9_prepare_86 fl_X9_36 sh_kT rfl ?_
        refine m2_iinc hB (ls' := [.ref kT, .int v1, .int (v2 + 1), .null]) (v := (v2 + 1)) dX9_prepare_89 rfl (by decide) rfl rfl ?_
        refine m2_goto hB dX9_prepare_92 (tgt := 15) (by decide) ?_
        exact k
      · rw [if_neg q12]
        replace k := k.2 q12
        refine m2_if_eq hB dX9_prepare_35 (tgt := 89) (by decide) (fun _ => ?_) (fun q => absurd q (by decide))
        refine m2_iinc hB (ls' := [.ref kT, .int v1, .int (v2 + 1), .null]) (v := (v2 + 1)) dX9_prepare_89 rfl (by decide) rfl rfl ?_
        refine m2_goto hB dX9_prepare_92 (tgt := 15) (by decide) ?_
        exact k
set_option maxRecDepth 100000 in
set_option maxHeartbeats 4000000 in
theorem B_X9_prepare_97 {κ : Nat → List Value → List Value → m2M → Prop} {D : Nat} {Q : Option Value → m2M → Prop} (h : m2_RL κ cX9_prepare RX9 4 D none Q) {v1 : Int32} {v2 : Int32} {μ : m2M} (k : (((1 : Int32) <<< ((μ.1 kT 5) &&& 31)) ≤ v2 → Q none μ) ∧ (¬ ((1 : Int32) <<< ((μ.1 kT 5) &&& 31)) ≤ v2 → κ 109 [.ref kT, .int v1, .int v2, .int 0] [] μ)) : κ 97 [.ref kT, .int v1, .int v2, .null] [] μ := by
  have hB := h.b
  refine m2_iload_n hB dX9_prepare_97 rfl ?_
  refine m2_iconst hB dX9_prepare_98 (v := 1) (by decide) ?_
  refine m2_aload_n hB dX9_prepare_99 rfl ?_
  refine m2_getI hB dX9_prepare_100 fl_X9_36 sh_kT rfl ?_
  refine m2_ishl hB dX9_prepare_103 ?_
  refine m2_icmp_ge hB dX9_prepare_104 (tgt := 148) (by decide) (fun q1 : ((1 : Int32) <<< ((μ.1 kT 5) &&& 31)) ≤ v2 => ?_) (fun q1 : ¬ ((1 : Int32) <<< ((μ.1 kT 5) &&& 31)) ≤ v2 => ?_)
  · replace k := k.1 q1
    exact m2_vret h dX9_prepare_148 k
  · replace k := k.2 q1
    refine m2_iconst hB dX9_prepare_107 (v := 0) (by decide) ?_
    refine m2_istore_n hB (ls' := [.ref kT, .int v1, .int v2, .int 0]) dX9_prepare_108 rfl (by decide) rfl ?_
    exact k
set_option maxRecDepth 100000 in
set_option maxHeartbeats 4000000 in
theorem B_X9_prepare_109 {κ : Nat → List Value → List Value → m2M → Prop} {D : Nat} {Q : Option Value → m2M → Prop} (h : m2_RL κ cX9_prepare RX9 4 (D + 1) none Q) {v1 : Int32} {v2 : Int32} {v3 : Int32} {μ : m2M} (k : ((μ.1 kT 5) ≤ v3 → κ 97 [.ref kT, .int v1, .int (v2 + 1), .null] [] μ) ∧ (¬ (μ.1 kT 5) ≤ v3 → ∃ j2 : Nat, v2 = nI j2 ∧ j2 < 64 ∧ ((vp_in v3 6) ∧ (∃ Q7 : Option Value → m2M → Prop, m2_MT D yX9_farFrom cX9_farFrom 5 (some .int) [.ref kT, .int (μ.1 kT_rooms (v3).toNatClampNeg), .int v2] μ Q7 ∧ ∀ (y5 : Int32) (μ6 : m2M), Q7 (some (.int y5)) μ6 → (κ 109 [.ref kT, .int v1, .int v2, .int (v3 + 1)] [] (m2_si μ6 (kRest j2) (v3).toNatClampNeg y5)))))) : κ 109 [.ref kT, .int v1, .int v2, .int v3] [] μ := by
  have hB := h.b
  refine m2_iload_n hB dX9_prepare_109 rfl ?_
  refine m2_aload_n hB dX9_prepare_110 rfl ?_
  refine m2_getI hB dX9_prepare_111 fl_X9_36 sh_kT rfl ?_
  refine m2_icmp_ge hB dX9_prepare_114 (tgt := 142) (by decide) (fun q1 : (μ.1 kT 5) ≤ v3 => ?_) (fun q1 : ¬ (μ.1 kT 5) ≤ v3 => ?_)
  · replace k := k.1 q1
    refine m2_iinc hB (ls' := [.ref kT, .int v1, .int (v2 + 1), .int v3]) (v := (v2 + 1)) dX9_prepare_142 rfl (by decide) rfl rfl ?_
    refine m2_goto hB dX9_prepare_145 (tgt := 97) (by decide) ?_
    exact m2_weak (ls' := [.ref kT, .int v1, .int (v2 + 1), .null]) hB ⟨Or.inr rfl, Or.inr rfl, Or.inr rfl, Or.inl rfl, trivial⟩ k
  · replace k := k.2 q1
    refine m2_aload_n hB dX9_prepare_117 rfl ?_
    refine m2_getR hB dX9_prepare_118 fl_X9_20 sh_kT (c1 := kT_rest) rfl ?_
    refine m2_iload_n hB dX9_prepare_121 rfl ?_
    obtain ⟨j2, e3, h_j2, k⟩ := k
    refine m2_aald hB dX9_prepare_122 sh_kT_rest (Or.inr rfl) (ar_rest e3 h_j2).1 (ar_rest e3 h_j2).2 ?_
    refine m2_iload_n hB dX9_prepare_123 rfl ?_
    refine m2_aload_n hB dX9_prepare_124 rfl ?_
    refine m2_aload_n hB dX9_prepare_125 rfl ?_
    refine m2_getR hB dX9_prepare_126 fl_X9_11 sh_kT (c1 := kT_rooms) rfl ?_
    refine m2_iload_n hB dX9_prepare_129 rfl ?_
    obtain ⟨hi4, k⟩ := k
    refine m2_iald hB dX9_prepare_130 sh_kT_rooms hi4 ?_
    refine m2_iload_n hB dX9_prepare_131 rfl ?_
    obtain ⟨Q7, hM8, k⟩ := k
    refine m2_invi hB (as := [.int (μ.1 kT_rooms (v3).toNatClampNeg), .int v2]) dX9_prepare_132 mv_X9_62 rfl sh_kT rfl (Nat.le_of_ble_eq_true rfl) rfl hM8 (fun y5 μ6 hq9 => ?_)
    replace k := k y5 μ6 hq9
    have hi10 := hi4
    refine m2_iast hB dX9_prepare_135 (sh_kRest h_j2) hi10 ?_
    refine m2_iinc hB (ls' := [.ref kT, .int v1, .int v2, .int (v3 + 1)]) (v := (v3 + 1)) dX9_prepare_136 rfl (by decide) rfl rfl ?_
    refine m2_goto hB dX9_prepare_139 (tgt := 109) (by decide) ?_
    exact k
theorem dX9_farFrom_0 : decode cX9_farFrom 0 = .ok (.iload_n 2, 1) := by decide +kernel
theorem dX9_farFrom_1 : decode cX9_farFrom 1 = .ok (.ifCond .ne 7, 3) := by decide +kernel
theorem dX9_farFrom_4 : decode cX9_farFrom 4 = .ok (.iconst 0, 1) := by decide +kernel
theorem dX9_farFrom_5 : decode cX9_farFrom 5 = .ok (.goto 5, 3) := by decide +kernel
theorem dX9_farFrom_8 : decode cX9_farFrom 8 = .ok (.ldc 66, 2) := by decide +kernel
theorem dX9_farFrom_10 : decode cX9_farFrom 10 = .ok (.istore_n 3, 1) := by decide +kernel
theorem dX9_farFrom_11 : decode cX9_farFrom 11 = .ok (.iconst 0, 1) := by decide +kernel
theorem dX9_farFrom_12 : decode cX9_farFrom 12 = .ok (.istore 4, 2) := by decide +kernel
theorem dX9_farFrom_14 : decode cX9_farFrom 14 = .ok (.iload 4, 2) := by decide +kernel
theorem dX9_farFrom_16 : decode cX9_farFrom 16 = .ok (.aload_n 0, 1) := by decide +kernel
theorem dX9_farFrom_17 : decode cX9_farFrom 17 = .ok (.getfield 36, 3) := by decide +kernel
theorem dX9_farFrom_20 : decode cX9_farFrom 20 = .ok (.if_icmp .ge 49, 3) := by decide +kernel
theorem dX9_farFrom_23 : decode cX9_farFrom 23 = .ok (.iload_n 2, 1) := by decide +kernel
theorem dX9_farFrom_24 : decode cX9_farFrom 24 = .ok (.iload 4, 2) := by decide +kernel
theorem dX9_farFrom_26 : decode cX9_farFrom 26 = .ok (.invokestatic 46, 3) := by decide +kernel
theorem dX9_farFrom_29 : decode cX9_farFrom 29 = .ok (.ifCond .eq 34, 3) := by decide +kernel
theorem dX9_farFrom_32 : decode cX9_farFrom 32 = .ok (.iload_n 3, 1) := by decide +kernel
theorem dX9_farFrom_33 : decode cX9_farFrom 33 = .ok (.aload_n 0, 1) := by decide +kernel
theorem dX9_farFrom_34 : decode cX9_farFrom 34 = .ok (.getfield 17, 3) := by decide +kernel
theorem dX9_farFrom_37 : decode cX9_farFrom 37 = .ok (.iload 4, 2) := by decide +kernel
theorem dX9_farFrom_39 : decode cX9_farFrom 39 = .ok (.aaload, 1) := by decide +kernel
theorem dX9_farFrom_40 : decode cX9_farFrom 40 = .ok (.iload_n 1, 1) := by decide +kernel
theorem dX9_farFrom_41 : decode cX9_farFrom 41 = .ok (.iaload, 1) := by decide +kernel
theorem dX9_farFrom_42 : decode cX9_farFrom 42 = .ok (.aload_n 0, 1) := by decide +kernel
theorem dX9_farFrom_43 : decode cX9_farFrom 43 = .ok (.getfield 20, 3) := by decide +kernel
theorem dX9_farFrom_46 : decode cX9_farFrom 46 = .ok (.iload_n 2, 1) := by decide +kernel
theorem dX9_farFrom_47 : decode cX9_farFrom 47 = .ok (.iconst 1, 1) := by decide +kernel
theorem dX9_farFrom_48 : decode cX9_farFrom 48 = .ok (.iload 4, 2) := by decide +kernel
theorem dX9_farFrom_50 : decode cX9_farFrom 50 = .ok (.ishl, 1) := by decide +kernel
theorem dX9_farFrom_51 : decode cX9_farFrom 51 = .ok (.iconst (-1), 1) := by decide +kernel
theorem dX9_farFrom_52 : decode cX9_farFrom 52 = .ok (.ixor, 1) := by decide +kernel
theorem dX9_farFrom_53 : decode cX9_farFrom 53 = .ok (.iand, 1) := by decide +kernel
theorem dX9_farFrom_54 : decode cX9_farFrom 54 = .ok (.aaload, 1) := by decide +kernel
theorem dX9_farFrom_55 : decode cX9_farFrom 55 = .ok (.iload 4, 2) := by decide +kernel
theorem dX9_farFrom_57 : decode cX9_farFrom 57 = .ok (.iaload, 1) := by decide +kernel
theorem dX9_farFrom_58 : decode cX9_farFrom 58 = .ok (.iadd, 1) := by decide +kernel
theorem dX9_farFrom_59 : decode cX9_farFrom 59 = .ok (.invokestatic 67, 3) := by decide +kernel
theorem dX9_farFrom_62 : decode cX9_farFrom 62 = .ok (.istore_n 3, 1) := by decide +kernel
theorem dX9_farFrom_63 : decode cX9_farFrom 63 = .ok (.iinc 4 1, 3) := by decide +kernel
theorem dX9_farFrom_66 : decode cX9_farFrom 66 = .ok (.goto (-52), 3) := by decide +kernel
theorem dX9_farFrom_69 : decode cX9_farFrom 69 = .ok (.iload_n 3, 1) := by decide +kernel
theorem dX9_farFrom_70 : decode cX9_farFrom 70 = .ok (.ireturn, 1) := by decide +kernel
set_option maxRecDepth 100000 in
set_option maxHeartbeats 4000000 in
theorem B_X9_farFrom_0 {κ : Nat → List Value → List Value → m2M → Prop} {D : Nat} {Q : Option Value → m2M → Prop} (h : m2_RL κ cX9_farFrom RX9 5 D (some .int) Q) {x1 : Int32} {x2 : Int32} {μ : m2M} (k : κ 14 [.ref kT, .int x1, .int x2, .int (if x2 = 0 then 0 else 268435456 : Int32), .int 0] [] μ) : κ 0 [.ref kT, .int x1, .int x2, .null, .null] [] μ := by
  have hB := h.b
  refine m2_iload_n hB dX9_farFrom_0 rfl ?_
  have G2 : κ 10 [.ref kT, .int x1, .int x2, .null, .null] [.int (if x2 = 0 then 0 else 268435456 : Int32)] μ := by
    refine m2_istore_n hB (ls' := [.ref kT, .int x1, .int x2, .int (if x2 = 0 then 0 else 268435456 : Int32), .null]) dX9_farFrom_10 rfl (by decide) rfl ?_
    refine m2_iconst hB dX9_farFrom_11 (v := 0) (by decide) ?_
    refine m2_istore hB (ls' := [.ref kT, .int x1, .int x2, .int (if x2 = 0 then 0 else 268435456 : Int32), .int 0]) dX9_farFrom_12 (by decide) rfl ?_
    exact k
  refine m2_if_ne hB dX9_farFrom_1 (tgt := 8) (by decide) (fun q1 : ¬ x2 = 0 => ?_) (fun q1 : x2 = 0 => ?_)
  · rw [if_neg q1] at G2
    refine m2_ldc hB kc_X9_66 dX9_farFrom_8 ?_
    exact G2
  · rw [if_pos q1] at G2
    refine m2_iconst hB dX9_farFrom_4 (v := 0) (by decide) ?_
    refine m2_goto hB dX9_farFrom_5 (tgt := 10) (by decide) ?_
    exact G2
set_option maxRecDepth 100000 in
set_option maxHeartbeats 4000000 in
theorem B_X9_farFrom_14 {κ : Nat → List Value → List Value → m2M → Prop} {D : Nat} {Q : Option Value → m2M → Prop} (h : m2_RL κ cX9_farFrom RX9 5 (D + 1) (some .int) Q) (hD : 0 ≤ D) {v1 : Int32} {v2 : Int32} {v3 : Int32} {v4 : Int32} {μ : m2M} (k : ((μ.1 kT 5) ≤ v4 → Q (some (.int v3)) μ) ∧ (¬ (μ.1 kT 5) ≤ v4 → ((fX11_hasBit v2 v4) = 1 → ∃ j9 : Nat, v4 = nI j9 ∧ j9 < 6 ∧ ((vp_in v1 12) ∧ (∃ j12 : Nat, (v2 &&& (((1 : Int32) <<< (v4 &&& 31)) ^^^ ((-1) : Int32))) = nI j12 ∧ j12 < 64 ∧ ((vp_in v4 6) ∧ (κ 14 [.ref kT, .int v1, .int v2, .int (m2_min v3 ((μ.1 (kFar j9) (v1).toNatClampNeg) + (μ.1 (kRest j12) (v4).toNatClampNeg))), .int (v4 + 1)] [] μ))))) ∧ (¬ (fX11_hasBit v2 v4) = 1 → κ 14 [.ref kT, .int v1, .int v2, .int v3, .int (v4 + 1)] [] μ))) : κ 14 [.ref kT, .int v1, .int v2, .int v3, .int v4] [] μ := by
  have hB := h.b
  refine m2_iload hB dX9_farFrom_14 rfl ?_
  refine m2_aload_n hB dX9_farFrom_16 rfl ?_
  refine m2_getI hB dX9_farFrom_17 fl_X9_36 sh_kT rfl ?_
  refine m2_icmp_ge hB dX9_farFrom_20 (tgt := 69) (by decide) (fun q4 : (μ.1 kT 5) ≤ v4 => ?_) (fun q4 : ¬ (μ.1 kT 5) ≤ v4 => ?_)
  · replace k := k.1 q4
    refine m2_iload_n hB dX9_farFrom_69 rfl ?_
    exact m2_iret h dX9_farFrom_70 k
  · replace k := k.2 q4
    refine m2_iload_n hB dX9_farFrom_23 rfl ?_
    refine m2_iload hB dX9_farFrom_24 rfl ?_
    refine m2_invNz hB (as := [.int v2, .int v4]) dX9_farFrom_26 mn_X9_46 rfl (Nat.le_of_ble_eq_true rfl) rfl (P_X11_hasBit (by omega) (v2) (v4) _ ) (fun y5 μ6 hq7 => ?_)
    obtain ⟨⟨⟩, hq7⟩ := hq7
    subst μ6
    show κ 29 [.ref kT, .int v1, .int v2, .int v3, .int v4] [.int (if (fX11_hasBit v2 v4) = 1 then 1 else 0 : Int32)] μ
    by_cases q8 : (fX11_hasBit v2 v4) = 1
    · rw [if_pos q8]
      replace k := k.1 q8
      refine m2_if_eq hB dX9_farFrom_29 (tgt := 63) (by decide) (fun q => absurd q (by decide)) (fun _ => ?_)
      refine m2_iload_n hB dX9_farFrom_32 rfl ?_
      refine m2_aload_n hB dX9_farFrom_33 rfl ?_
      refine m2_getR hB dX9_farFrom_34 fl_X9_17 sh_kT (c1 := kT_far) rfl ?_
      refine m2_iload hB dX9_farFrom_37 rfl ?_
      obtain ⟨j9, e10, h_j9, k⟩ := k
      refine m2_aald hB dX9_farFrom_39 sh_kT_far (Or.inr rfl) (ar_far e10 h_j9).1 (ar_far e10 h_j9).2 ?_
      refine m2_iload_n hB dX9_farFrom_40 rfl ?_
      obtain ⟨hi11, k⟩ := k
      refine m2_iald hB dX9_farFrom_41 (sh_kFar h_j9) hi11 ?_
      refine m2_aload_n hB dX9_farFrom_42 rfl ?_
      refine m2_getR hB dX9_farFrom_43 fl_X9_20 sh_kT (c1 := kT_rest) rfl ?_
      refine m2_iload_n hB dX9_farFrom_46 rfl ?_
      refine m2_iconst hB dX9_farFrom_47 (v := 1) (by decide) ?_
      refine m2_iload hB dX9_farFrom_48 rfl ?_
      refine m2_ishl hB dX9_farFrom_50 ?_
      refine m2_iconst hB dX9_farFrom_51 (v := (-1)) (by decide) ?_
      refine m2_ixor hB dX9_farFrom_52 ?_
      refine m2_iand hB dX9_farFrom_53 ?_
      obtain ⟨j12, e13, h_j12, k⟩ := k
      refine m2_aald hB dX9_farFrom_54 sh_kT_rest (Or.inr rfl) (ar_rest e13 h_j12).1 (ar_rest e13 h_j12).2 ?_
      refine m2_iload hB dX9_farFrom_55 rfl ?_
      obtain ⟨hi14, k⟩ := k
      refine m2_iald hB dX9_farFrom_57 (sh_kRest h_j12) hi14 ?_
      refine m2_iadd hB dX9_farFrom_58 ?_
      refine m2_mmin hB dX9_farFrom_59 ms_X9_67 (Nat.le_of_ble_eq_true rfl) ?_
      refine m2_istore_n hB (ls' := [.ref kT, .int v1, .int v2, .int (m2_min v3 ((μ.1 (kFar j9) (v1).toNatClampNeg) + (μ.1 (kRest j12) (v4).toNatClampNeg))), .int v4]) dX9_farFrom_62 rfl (by decide) rfl ?_
      refine m2_iinc hB (ls' := [.ref kT, .int v1, .int v2, .int (m2_min v3 ((μ.1 (kFar j9) (v1).toNatClampNeg) + (μ.1 (kRest j12) (v4).toNatClampNeg))), .int (v4 + 1)]) (v := (v4 + 1)) dX9_farFrom_63 rfl (by decide) rfl rfl ?_
      refine m2_goto hB dX9_farFrom_66 (tgt := 14) (by decide) ?_
      exact k
    · rw [if_neg q8]
      replace k := k.2 q8
      refine m2_if_eq hB dX9_farFrom_29 (tgt := 63) (by decide) (fun _ => ?_) (fun q => absurd q (by decide))
      refine m2_iinc hB (ls' := [.ref kT, .int v1, .int v2, .int v3, .int (v4 + 1)]) (v := (v4 + 1)) dX9_farFrom_63 rfl (by decide) rfl rfl ?_
      refine m2_goto hB dX9_farFrom_66 (tgt := 14) (by decide) ?_
      exact k
theorem dX9_fewestFrom_0 : decode cX9_fewestFrom 0 = .ok (.aload_n 0, 1) := by decide +kernel
theorem dX9_fewestFrom_1 : decode cX9_fewestFrom 1 = .ok (.iload_n 1, 1) := by decide +kernel
theorem dX9_fewestFrom_2 : decode cX9_fewestFrom 2 = .ok (.iconst 1, 1) := by decide +kernel
theorem dX9_fewestFrom_3 : decode cX9_fewestFrom 3 = .ok (.aload_n 0, 1) := by decide +kernel
theorem dX9_fewestFrom_4 : decode cX9_fewestFrom 4 = .ok (.getfield 36, 3) := by decide +kernel
theorem dX9_fewestFrom_7 : decode cX9_fewestFrom 7 = .ok (.ishl, 1) := by decide +kernel
theorem dX9_fewestFrom_8 : decode cX9_fewestFrom 8 = .ok (.iconst 1, 1) := by decide +kernel
theorem dX9_fewestFrom_9 : decode cX9_fewestFrom 9 = .ok (.isub, 1) := by decide +kernel
theorem dX9_fewestFrom_10 : decode cX9_fewestFrom 10 = .ok (.invokevirtual 62, 3) := by decide +kernel
theorem dX9_fewestFrom_13 : decode cX9_fewestFrom 13 = .ok (.istore_n 2, 1) := by decide +kernel
theorem dX9_fewestFrom_14 : decode cX9_fewestFrom 14 = .ok (.iload_n 2, 1) := by decide +kernel
theorem dX9_fewestFrom_15 : decode cX9_fewestFrom 15 = .ok (.ldc 66, 2) := by decide +kernel
theorem dX9_fewestFrom_17 : decode cX9_fewestFrom 17 = .ok (.if_icmp .ge 7, 3) := by decide +kernel
theorem dX9_fewestFrom_20 : decode cX9_fewestFrom 20 = .ok (.iload_n 2, 1) := by decide +kernel
theorem dX9_fewestFrom_21 : decode cX9_fewestFrom 21 = .ok (.goto 4, 3) := by decide +kernel
theorem dX9_fewestFrom_24 : decode cX9_fewestFrom 24 = .ok (.iconst (-1), 1) := by decide +kernel
theorem dX9_fewestFrom_25 : decode cX9_fewestFrom 25 = .ok (.ireturn, 1) := by decide +kernel
set_option maxRecDepth 100000 in
set_option maxHeartbeats 4000000 in
theorem B_X9_fewestFrom_0 {κ : Nat → List Value → List Value → m2M → Prop} {D : Nat} {Q : Option Value → m2M → Prop} (h : m2_RL κ cX9_fewestFrom RX9 3 (D + 1) (some .int) Q) {x1 : Int32} {μ : m2M} (k : ∃ Q3 : Option Value → m2M → Prop, m2_MT D yX9_farFrom cX9_farFrom 5 (some .int) [.ref kT, .int x1, .int (((1 : Int32) <<< ((μ.1 kT 5) &&& 31)) - 1)] μ Q3 ∧ ∀ (y1 : Int32) (μ2 : m2M), Q3 (some (.int y1)) μ2 → (Q (some (.int (if 268435456 ≤ y1 then (-1) else y1 : Int32))) μ2)) : κ 0 [.ref kT, .int x1, .null] [] μ := by
  have hB := h.b
  refine m2_aload_n hB dX9_fewestFrom_0 rfl ?_
  refine m2_iload_n hB dX9_fewestFrom_1 rfl ?_
  refine m2_iconst hB dX9_fewestFrom_2 (v := 1) (by decide) ?_
  refine m2_aload_n hB dX9_fewestFrom_3 rfl ?_
  refine m2_getI hB dX9_fewestFrom_4 fl_X9_36 sh_kT rfl ?_
  refine m2_ishl hB dX9_fewestFrom_7 ?_
  refine m2_iconst hB dX9_fewestFrom_8 (v := 1) (by decide) ?_
  refine m2_isub hB dX9_fewestFrom_9 ?_
  obtain ⟨Q3, hM4, k⟩ := k
  refine m2_invi hB (as := [.int x1, .int (((1 : Int32) <<< ((μ.1 kT 5) &&& 31)) - 1)]) dX9_fewestFrom_10 mv_X9_62 rfl sh_kT rfl (Nat.le_of_ble_eq_true rfl) rfl hM4 (fun y1 μ2 hq5 => ?_)
  replace k := k y1 μ2 hq5
  refine m2_istore_n hB (ls' := [.ref kT, .int x1, .int y1]) dX9_fewestFrom_13 rfl (by decide) rfl ?_
  refine m2_iload_n hB dX9_fewestFrom_14 rfl ?_
  refine m2_ldc hB kc_X9_66 dX9_fewestFrom_15 ?_
  have G7 : κ 25 [.ref kT, .int x1, .int y1] [.int (if 268435456 ≤ y1 then (-1) else y1 : Int32)] μ2 := by
    exact m2_iret h dX9_fewestFrom_25 k
  refine m2_icmp_ge hB dX9_fewestFrom_17 (tgt := 24) (by decide) (fun q6 : 268435456 ≤ y1 => ?_) (fun q6 : ¬ 268435456 ≤ y1 => ?_)
  · rw [if_pos q6] at G7
    refine m2_iconst hB dX9_fewestFrom_24 (v := (-1)) (by decide) ?_
    exact G7
  · rw [if_neg q6] at G7
    refine m2_iload_n hB dX9_fewestFrom_20 rfl ?_
    refine m2_goto hB dX9_fewestFrom_21 (tgt := 25) (by decide) ?_
    exact G7
theorem dX9_arrange_0 : decode cX9_arrange 0 = .ok (.iconst 1, 1) := by decide +kernel
theorem dX9_arrange_1 : decode cX9_arrange 1 = .ok (.aload_n 0, 1) := by decide +kernel
theorem dX9_arrange_2 : decode cX9_arrange 2 = .ok (.getfield 36, 3) := by decide +kernel
theorem dX9_arrange_5 : decode cX9_arrange 5 = .ok (.ishl, 1) := by decide +kernel
theorem dX9_arrange_6 : decode cX9_arrange 6 = .ok (.iconst 1, 1) := by decide +kernel
theorem dX9_arrange_7 : decode cX9_arrange 7 = .ok (.isub, 1) := by decide +kernel
theorem dX9_arrange_8 : decode cX9_arrange 8 = .ok (.istore_n 2, 1) := by decide +kernel
theorem dX9_arrange_9 : decode cX9_arrange 9 = .ok (.iload_n 1, 1) := by decide +kernel
theorem dX9_arrange_10 : decode cX9_arrange 10 = .ok (.istore_n 3, 1) := by decide +kernel
theorem dX9_arrange_11 : decode cX9_arrange 11 = .ok (.iconst 0, 1) := by decide +kernel
theorem dX9_arrange_12 : decode cX9_arrange 12 = .ok (.istore 4, 2) := by decide +kernel
theorem dX9_arrange_14 : decode cX9_arrange 14 = .ok (.iload 4, 2) := by decide +kernel
theorem dX9_arrange_16 : decode cX9_arrange 16 = .ok (.aload_n 0, 1) := by decide +kernel
theorem dX9_arrange_17 : decode cX9_arrange 17 = .ok (.getfield 36, 3) := by decide +kernel
theorem dX9_arrange_20 : decode cX9_arrange 20 = .ok (.if_icmp .ge 49, 3) := by decide +kernel
theorem dX9_arrange_23 : decode cX9_arrange 23 = .ok (.aload_n 0, 1) := by decide +kernel
theorem dX9_arrange_24 : decode cX9_arrange 24 = .ok (.iload_n 3, 1) := by decide +kernel
theorem dX9_arrange_25 : decode cX9_arrange 25 = .ok (.iload_n 2, 1) := by decide +kernel
theorem dX9_arrange_26 : decode cX9_arrange 26 = .ok (.invokevirtual 72, 3) := by decide +kernel
theorem dX9_arrange_29 : decode cX9_arrange 29 = .ok (.istore 5, 2) := by decide +kernel
theorem dX9_arrange_31 : decode cX9_arrange 31 = .ok (.iload 5, 2) := by decide +kernel
theorem dX9_arrange_33 : decode cX9_arrange 33 = .ok (.iconst (-1), 1) := by decide +kernel
theorem dX9_arrange_34 : decode cX9_arrange 34 = .ok (.if_icmp .ne 4, 3) := by decide +kernel
theorem dX9_arrange_37 : decode cX9_arrange 37 = .ok (.return_, 1) := by decide +kernel
theorem dX9_arrange_38 : decode cX9_arrange 38 = .ok (.iload_n 2, 1) := by decide +kernel
theorem dX9_arrange_39 : decode cX9_arrange 39 = .ok (.iconst 1, 1) := by decide +kernel
theorem dX9_arrange_40 : decode cX9_arrange 40 = .ok (.iload 5, 2) := by decide +kernel
theorem dX9_arrange_42 : decode cX9_arrange 42 = .ok (.ishl, 1) := by decide +kernel
theorem dX9_arrange_43 : decode cX9_arrange 43 = .ok (.iconst (-1), 1) := by decide +kernel
theorem dX9_arrange_44 : decode cX9_arrange 44 = .ok (.ixor, 1) := by decide +kernel
theorem dX9_arrange_45 : decode cX9_arrange 45 = .ok (.iand, 1) := by decide +kernel
theorem dX9_arrange_46 : decode cX9_arrange 46 = .ok (.istore_n 2, 1) := by decide +kernel
theorem dX9_arrange_47 : decode cX9_arrange 47 = .ok (.aload_n 0, 1) := by decide +kernel
theorem dX9_arrange_48 : decode cX9_arrange 48 = .ok (.getfield 11, 3) := by decide +kernel
theorem dX9_arrange_51 : decode cX9_arrange 51 = .ok (.iload 5, 2) := by decide +kernel
theorem dX9_arrange_53 : decode cX9_arrange 53 = .ok (.iaload, 1) := by decide +kernel
theorem dX9_arrange_54 : decode cX9_arrange 54 = .ok (.istore_n 3, 1) := by decide +kernel
theorem dX9_arrange_55 : decode cX9_arrange 55 = .ok (.aload_n 0, 1) := by decide +kernel
theorem dX9_arrange_56 : decode cX9_arrange 56 = .ok (.getfield 23, 3) := by decide +kernel
theorem dX9_arrange_59 : decode cX9_arrange 59 = .ok (.iload 4, 2) := by decide +kernel
theorem dX9_arrange_61 : decode cX9_arrange 61 = .ok (.iload_n 3, 1) := by decide +kernel
theorem dX9_arrange_62 : decode cX9_arrange 62 = .ok (.iastore, 1) := by decide +kernel
theorem dX9_arrange_63 : decode cX9_arrange 63 = .ok (.iinc 4 1, 3) := by decide +kernel
theorem dX9_arrange_66 : decode cX9_arrange 66 = .ok (.goto (-52), 3) := by decide +kernel
theorem dX9_arrange_69 : decode cX9_arrange 69 = .ok (.return_, 1) := by decide +kernel
set_option maxRecDepth 100000 in
set_option maxHeartbeats 4000000 in
theorem B_X9_arrange_0 {κ : Nat → List Value → List Value → m2M → Prop} {D : Nat} {Q : Option Value → m2M → Prop} (h : m2_RL κ cX9_arrange RX9 6 D none Q) {x1 : Int32} {μ : m2M} (k : κ 14 [.ref kT, .int x1, .int (((1 : Int32) <<< ((μ.1 kT 5) &&& 31)) - 1), .int x1, .int 0, .null] [] μ) : κ 0 [.ref kT, .int x1, .null, .null, .null, .null] [] μ := by
  have hB := h.b
  refine m2_iconst hB dX9_arrange_0 (v := 1) (by decide) ?_
  refine m2_aload_n hB dX9_arrange_1 rfl ?_
  refine m2_getI hB dX9_arrange_2 fl_X9_36 sh_kT rfl ?_
  refine m2_ishl hB dX9_arrange_5 ?_
  refine m2_iconst hB dX9_arrange_6 (v := 1) (by decide) ?_
  refine m2_isub hB dX9_arrange_7 ?_
  refine m2_istore_n hB (ls' := [.ref kT, .int x1, .int (((1 : Int32) <<< ((μ.1 kT 5) &&& 31)) - 1), .null, .null, .null]) dX9_arrange_8 rfl (by decide) rfl ?_
  refine m2_iload_n hB dX9_arrange_9 rfl ?_
  refine m2_istore_n hB (ls' := [.ref kT, .int x1, .int (((1 : Int32) <<< ((μ.1 kT 5) &&& 31)) - 1), .int x1, .null, .null]) dX9_arrange_10 rfl (by decide) rfl ?_
  refine m2_iconst hB dX9_arrange_11 (v := 0) (by decide) ?_
  refine m2_istore hB (ls' := [.ref kT, .int x1, .int (((1 : Int32) <<< ((μ.1 kT 5) &&& 31)) - 1), .int x1, .int 0, .null]) dX9_arrange_12 (by decide) rfl ?_
  exact k
set_option maxRecDepth 100000 in
set_option maxHeartbeats 4000000 in
theorem B_X9_arrange_14 {κ : Nat → List Value → List Value → m2M → Prop} {D : Nat} {Q : Option Value → m2M → Prop} (h : m2_RL κ cX9_arrange RX9 6 (D + 1) none Q) {v1 : Int32} {v2 : Int32} {v3 : Int32} {v4 : Int32} {μ : m2M} (k : ((μ.1 kT 5) ≤ v4 → Q none μ) ∧ (¬ (μ.1 kT 5) ≤ v4 → ∃ Q4 : Option Value → m2M → Prop, m2_MT D yX9_nextOf cX9_nextOf 5 (some .int) [.ref kT, .int v3, .int v2] μ Q4 ∧ ∀ (y2 : Int32) (μ3 : m2M), Q4 (some (.int y2)) μ3 → ((¬ y2 = (-1) → (vp_in y2 6) ∧ ((vp_in v4 6) ∧ (κ 14 [.ref kT, .int v1, .int (v2 &&& (((1 : Int32) <<< (y2 &&& 31)) ^^^ ((-1) : Int32))), .int (μ3.1 kT_rooms (y2).toNatClampNeg), .int (v4 + 1), .null] [] (m2_si μ3 kT_arranged (v4).toNatClampNeg (μ3.1 kT_rooms (y2).toNatClampNeg))))) ∧ (y2 = (-1) → Q none μ3)))) : κ 14 [.ref kT, .int v1, .int v2, .int v3, .int v4, .null] [] μ := by
  have hB := h.b
  refine m2_iload hB dX9_arrange_14 rfl ?_
  refine m2_aload_n hB dX9_arrange_16 rfl ?_
  refine m2_getI hB dX9_arrange_17 fl_X9_36 sh_kT rfl ?_
  refine m2_icmp_ge hB dX9_arrange_20 (tgt := 69) (by decide) (fun q1 : (μ.1 kT 5) ≤ v4 => ?_) (fun q1 : ¬ (μ.1 kT 5) ≤ v4 => ?_)
  · replace k := k.1 q1
    exact m2_vret h dX9_arrange_69 k
  · replace k := k.2 q1
    refine m2_aload_n hB dX9_arrange_23 rfl ?_
    refine m2_iload_n hB dX9_arrange_24 rfl ?_
    refine m2_iload_n hB dX9_arrange_25 rfl ?_
    obtain ⟨Q4, hM5, k⟩ := k
    refine m2_invi hB (as := [.int v3, .int v2]) dX9_arrange_26 mv_X9_72 rfl sh_kT rfl (Nat.le_of_ble_eq_true rfl) rfl hM5 (fun y2 μ3 hq6 => ?_)
    replace k := k y2 μ3 hq6
    refine m2_istore hB (ls' := [.ref kT, .int v1, .int v2, .int v3, .int v4, .int y2]) dX9_arrange_29 (by decide) rfl ?_
    refine m2_iload hB dX9_arrange_31 rfl ?_
    refine m2_iconst hB dX9_arrange_33 (v := (-1)) (by decide) ?_
    refine m2_icmp_ne hB dX9_arrange_34 (tgt := 38) (by decide) (fun q7 : ¬ y2 = (-1) => ?_) (fun q7 : y2 = (-1) => ?_)
    · replace k := k.1 q7
      refine m2_iload_n hB dX9_arrange_38 rfl ?_
      refine m2_iconst hB dX9_arrange_39 (v := 1) (by decide) ?_
      refine m2_iload hB dX9_arrange_40 rfl ?_
      refine m2_ishl hB dX9_arrange_42 ?_
      refine m2_iconst hB dX9_arrange_43 (v := (-1)) (by decide) ?_
      refine m2_ixor hB dX9_arrange_44 ?_
      refine m2_iand hB dX9_arrange_45 ?_
      refine m2_istore_n hB (ls' := [.ref kT, .int v1, .int (v2 &&& (((1 : Int32) <<< (y2 &&& 31)) ^^^ ((-1) : Int32))), .int v3, .int v4, .int y2]) dX9_arrange_46 rfl (by decide) rfl ?_
      refine m2_aload_n hB dX9_arrange_47 rfl ?_
      refine m2_getR hB dX9_arrange_48 fl_X9_11 sh_kT (c1 := kT_rooms) rfl ?_
      refine m2_iload hB dX9_arrange_51 rfl ?_
      obtain ⟨hi8, k⟩ := k
      refine m2_iald hB dX9_arrange_53 sh_kT_rooms hi8 ?_
      refine m2_istore_n hB (ls' := [.ref kT, .int v1, .int (v2 &&& (((1 : Int32) <<< (y2 &&& 31)) ^^^ ((-1) : Int32))), .int (μ3.1 kT_rooms (y2).toNatClampNeg), .int v4, .int y2]) dX9_arrange_54 rfl (by decide) rfl ?_
      refine m2_aload_n hB dX9_arrange_55 rfl ?_
      refine m2_getR hB dX9_arrange_56 fl_X9_23 sh_kT (c1 := kT_arranged) rfl ?_
      refine m2_iload hB dX9_arrange_59 rfl ?_
      refine m2_iload_n hB dX9_arrange_61 rfl ?_
      obtain ⟨hi9, k⟩ := k
      refine m2_iast hB dX9_arrange_62 sh_kT_arranged hi9 ?_
      refine m2_iinc hB (ls' := [.ref kT, .int v1, .int (v2 &&& (((1 : Int32) <<< (y2 &&& 31)) ^^^ ((-1) : Int32))), .int (μ3.1 kT_rooms (y2).toNatClampNeg), .int (v4 + 1), .int y2]) (v := (v4 + 1)) dX9_arrange_63 rfl (by decide) rfl rfl ?_
      refine m2_goto hB dX9_arrange_66 (tgt := 14) (by decide) ?_
      exact m2_weak (ls' := [.ref kT, .int v1, .int (v2 &&& (((1 : Int32) <<< (y2 &&& 31)) ^^^ ((-1) : Int32))), .int (μ3.1 kT_rooms (y2).toNatClampNeg), .int (v4 + 1), .null]) hB ⟨Or.inr rfl, Or.inr rfl, Or.inr rfl, Or.inr rfl, Or.inr rfl, Or.inl rfl, trivial⟩ k
    · replace k := k.2 q7
      exact m2_vret h dX9_arrange_37 k
theorem dX9_nextOf_0 : decode cX9_nextOf 0 = .ok (.aload_n 0, 1) := by decide +kernel
theorem dX9_nextOf_1 : decode cX9_nextOf 1 = .ok (.iload_n 1, 1) := by decide +kernel
theorem dX9_nextOf_2 : decode cX9_nextOf 2 = .ok (.iload_n 2, 1) := by decide +kernel
theorem dX9_nextOf_3 : decode cX9_nextOf 3 = .ok (.invokevirtual 62, 3) := by decide +kernel
theorem dX9_nextOf_6 : decode cX9_nextOf 6 = .ok (.istore_n 3, 1) := by decide +kernel
theorem dX9_nextOf_7 : decode cX9_nextOf 7 = .ok (.iconst 0, 1) := by decide +kernel
theorem dX9_nextOf_8 : decode cX9_nextOf 8 = .ok (.istore 4, 2) := by decide +kernel
theorem dX9_nextOf_10 : decode cX9_nextOf 10 = .ok (.iload 4, 2) := by decide +kernel
theorem dX9_nextOf_12 : decode cX9_nextOf 12 = .ok (.aload_n 0, 1) := by decide +kernel
theorem dX9_nextOf_13 : decode cX9_nextOf 13 = .ok (.getfield 36, 3) := by decide +kernel
theorem dX9_nextOf_16 : decode cX9_nextOf 16 = .ok (.if_icmp .ge 51, 3) := by decide +kernel
theorem dX9_nextOf_19 : decode cX9_nextOf 19 = .ok (.iload_n 2, 1) := by decide +kernel
theorem dX9_nextOf_20 : decode cX9_nextOf 20 = .ok (.iload 4, 2) := by decide +kernel
theorem dX9_nextOf_22 : decode cX9_nextOf 22 = .ok (.invokestatic 46, 3) := by decide +kernel
theorem dX9_nextOf_25 : decode cX9_nextOf 25 = .ok (.ifCond .eq 36, 3) := by decide +kernel
theorem dX9_nextOf_28 : decode cX9_nextOf 28 = .ok (.aload_n 0, 1) := by decide +kernel
theorem dX9_nextOf_29 : decode cX9_nextOf 29 = .ok (.getfield 17, 3) := by decide +kernel
theorem dX9_nextOf_32 : decode cX9_nextOf 32 = .ok (.iload 4, 2) := by decide +kernel
theorem dX9_nextOf_34 : decode cX9_nextOf 34 = .ok (.aaload, 1) := by decide +kernel
theorem dX9_nextOf_35 : decode cX9_nextOf 35 = .ok (.iload_n 1, 1) := by decide +kernel
theorem dX9_nextOf_36 : decode cX9_nextOf 36 = .ok (.iaload, 1) := by decide +kernel
theorem dX9_nextOf_37 : decode cX9_nextOf 37 = .ok (.aload_n 0, 1) := by decide +kernel
theorem dX9_nextOf_38 : decode cX9_nextOf 38 = .ok (.getfield 20, 3) := by decide +kernel
theorem dX9_nextOf_41 : decode cX9_nextOf 41 = .ok (.iload_n 2, 1) := by decide +kernel
theorem dX9_nextOf_42 : decode cX9_nextOf 42 = .ok (.iconst 1, 1) := by decide +kernel
theorem dX9_nextOf_43 : decode cX9_nextOf 43 = .ok (.iload 4, 2) := by decide +kernel
theorem dX9_nextOf_45 : decode cX9_nextOf 45 = .ok (.ishl, 1) := by decide +kernel
theorem dX9_nextOf_46 : decode cX9_nextOf 46 = .ok (.iconst (-1), 1) := by decide +kernel
theorem dX9_nextOf_47 : decode cX9_nextOf 47 = .ok (.ixor, 1) := by decide +kernel
theorem dX9_nextOf_48 : decode cX9_nextOf 48 = .ok (.iand, 1) := by decide +kernel
theorem dX9_nextOf_49 : decode cX9_nextOf 49 = .ok (.aaload, 1) := by decide +kernel
theorem dX9_nextOf_50 : decode cX9_nextOf 50 = .ok (.iload 4, 2) := by decide +kernel
theorem dX9_nextOf_52 : decode cX9_nextOf 52 = .ok (.iaload, 1) := by decide +kernel
theorem dX9_nextOf_53 : decode cX9_nextOf 53 = .ok (.iadd, 1) := by decide +kernel
theorem dX9_nextOf_54 : decode cX9_nextOf 54 = .ok (.iload_n 3, 1) := by decide +kernel
theorem dX9_nextOf_55 : decode cX9_nextOf 55 = .ok (.if_icmp .ne 6, 3) := by decide +kernel
theorem dX9_nextOf_58 : decode cX9_nextOf 58 = .ok (.iload 4, 2) := by decide +kernel
theorem dX9_nextOf_60 : decode cX9_nextOf 60 = .ok (.ireturn, 1) := by decide +kernel
theorem dX9_nextOf_61 : decode cX9_nextOf 61 = .ok (.iinc 4 1, 3) := by decide +kernel
theorem dX9_nextOf_64 : decode cX9_nextOf 64 = .ok (.goto (-54), 3) := by decide +kernel
theorem dX9_nextOf_67 : decode cX9_nextOf 67 = .ok (.iconst (-1), 1) := by decide +kernel
theorem dX9_nextOf_68 : decode cX9_nextOf 68 = .ok (.ireturn, 1) := by decide +kernel
set_option maxRecDepth 100000 in
set_option maxHeartbeats 4000000 in
theorem B_X9_nextOf_0 {κ : Nat → List Value → List Value → m2M → Prop} {D : Nat} {Q : Option Value → m2M → Prop} (h : m2_RL κ cX9_nextOf RX9 5 (D + 1) (some .int) Q) {x1 : Int32} {x2 : Int32} {μ : m2M} (k : ∃ Q3 : Option Value → m2M → Prop, m2_MT D yX9_farFrom cX9_farFrom 5 (some .int) [.ref kT, .int x1, .int x2] μ Q3 ∧ ∀ (y1 : Int32) (μ2 : m2M), Q3 (some (.int y1)) μ2 → (κ 10 [.ref kT, .int x1, .int x2, .int y1, .int 0] [] μ2)) : κ 0 [.ref kT, .int x1, .int x2, .null, .null] [] μ := by
  have hB := h.b
  refine m2_aload_n hB dX9_nextOf_0 rfl ?_
  refine m2_iload_n hB dX9_nextOf_1 rfl ?_
  refine m2_iload_n hB dX9_nextOf_2 rfl ?_
  obtain ⟨Q3, hM4, k⟩ := k
  refine m2_invi hB (as := [.int x1, .int x2]) dX9_nextOf_3 mv_X9_62 rfl sh_kT rfl (Nat.le_of_ble_eq_true rfl) rfl hM4 (fun y1 μ2 hq5 => ?_)
  replace k := k y1 μ2 hq5
  refine m2_istore_n hB (ls' := [.ref kT, .int x1, .int x2, .int y1, .null]) dX9_nextOf_6 rfl (by decide) rfl ?_
  refine m2_iconst hB dX9_nextOf_7 (v := 0) (by decide) ?_
  refine m2_istore hB (ls' := [.ref kT, .int x1, .int x2, .int y1, .int 0]) dX9_nextOf_8 (by decide) rfl ?_
  exact k
set_option maxRecDepth 100000 in
set_option maxHeartbeats 4000000 in
theorem B_X9_nextOf_10 {κ : Nat → List Value → List Value → m2M → Prop} {D : Nat} {Q : Option Value → m2M → Prop} (h : m2_RL κ cX9_nextOf RX9 5 (D + 1) (some .int) Q) (hD : 0 ≤ D) {v1 : Int32} {v2 : Int32} {v3 : Int32} {v4 : Int32} {μ : m2M} (k : ((μ.1 kT 5) ≤ v4 → Q (some (.int (-1))) μ) ∧ (¬ (μ.1 kT 5) ≤ v4 → ((fX11_hasBit v2 v4) = 1 → ∃ j6 : Nat, v4 = nI j6 ∧ j6 < 6 ∧ ((vp_in v1 12) ∧ (∃ j9 : Nat, (v2 &&& (((1 : Int32) <<< (v4 &&& 31)) ^^^ ((-1) : Int32))) = nI j9 ∧ j9 < 64 ∧ ((vp_in v4 6) ∧ ((¬ ((μ.1 (kFar j6) (v1).toNatClampNeg) + (μ.1 (kRest j9) (v4).toNatClampNeg)) = v3 → κ 10 [.ref kT, .int v1, .int v2, .int v3, .int (v4 + 1)] [] μ) ∧ (((μ.1 (kFar j6) (v1).toNatClampNeg) + (μ.1 (kRest j9) (v4).toNatClampNeg)) = v3 → Q (some (.int v4)) μ)))))) ∧ (¬ (fX11_hasBit v2 v4) = 1 → κ 10 [.ref kT, .int v1, .int v2, .int v3, .int (v4 + 1)] [] μ))) : κ 10 [.ref kT, .int v1, .int v2, .int v3, .int v4] [] μ := by
  have hB := h.b
  refine m2_iload hB dX9_nextOf_10 rfl ?_
  refine m2_aload_n hB dX9_nextOf_12 rfl ?_
  refine m2_getI hB dX9_nextOf_13 fl_X9_36 sh_kT rfl ?_
  refine m2_icmp_ge hB dX9_nextOf_16 (tgt := 67) (by decide) (fun q1 : (μ.1 kT 5) ≤ v4 => ?_) (fun q1 : ¬ (μ.1 kT 5) ≤ v4 => ?_)
  · replace k := k.1 q1
    refine m2_iconst hB dX9_nextOf_67 (v := (-1)) (by decide) ?_
    exact m2_iret h dX9_nextOf_68 k
  · replace k := k.2 q1
    refine m2_iload_n hB dX9_nextOf_19 rfl ?_
    refine m2_iload hB dX9_nextOf_20 rfl ?_
    refine m2_invNz hB (as := [.int v2, .int v4]) dX9_nextOf_22 mn_X9_46 rfl (Nat.le_of_ble_eq_true rfl) rfl (P_X11_hasBit (by omega) (v2) (v4) _ ) (fun y2 μ3 hq4 => ?_)
    obtain ⟨⟨⟩, hq4⟩ := hq4
    subst μ3
    show κ 25 [.ref kT, .int v1, .int v2, .int v3, .int v4] [.int (if (fX11_hasBit v2 v4) = 1 then 1 else 0 : Int32)] μ
    by_cases q5 : (fX11_hasBit v2 v4) = 1
    · rw [if_pos q5]
      replace k := k.1 q5
      refine m2_if_eq hB dX9_nextOf_25 (tgt := 61) (by decide) (fun q => absurd q (by decide)) (fun _ => ?_)
      refine m2_aload_n hB dX9_nextOf_28 rfl ?_
      refine m2_getR hB dX9_nextOf_29 fl_X9_17 sh_kT (c1 := kT_far) rfl ?_
      refine m2_iload hB dX9_nextOf_32 rfl ?_
      obtain ⟨j6, e7, h_j6, k⟩ := k
      refine m2_aald hB dX9_nextOf_34 sh_kT_far (Or.inr rfl) (ar_far e7 h_j6).1 (ar_far e7 h_j6).2 ?_
      refine m2_iload_n hB dX9_nextOf_35 rfl ?_
      obtain ⟨hi8, k⟩ := k
      refine m2_iald hB dX9_nextOf_36 (sh_kFar h_j6) hi8 ?_
      refine m2_aload_n hB dX9_nextOf_37 rfl ?_
      refine m2_getR hB dX9_nextOf_38 fl_X9_20 sh_kT (c1 := kT_rest) rfl ?_
      refine m2_iload_n hB dX9_nextOf_41 rfl ?_
      refine m2_iconst hB dX9_nextOf_42 (v := 1) (by decide) ?_
      refine m2_iload hB dX9_nextOf_43 rfl ?_
      refine m2_ishl hB dX9_nextOf_45 ?_
      refine m2_iconst hB dX9_nextOf_46 (v := (-1)) (by decide) ?_
      refine m2_ixor hB dX9_nextOf_47 ?_
      refine m2_iand hB dX9_nextOf_48 ?_
      obtain ⟨j9, e10, h_j9, k⟩ := k
      refine m2_aald hB dX9_nextOf_49 sh_kT_rest (Or.inr rfl) (ar_rest e10 h_j9).1 (ar_rest e10 h_j9).2 ?_
      refine m2_iload hB dX9_nextOf_50 rfl ?_
      obtain ⟨hi11, k⟩ := k
      refine m2_iald hB dX9_nextOf_52 (sh_kRest h_j9) hi11 ?_
      refine m2_iadd hB dX9_nextOf_53 ?_
      refine m2_iload_n hB dX9_nextOf_54 rfl ?_
      refine m2_icmp_ne hB dX9_nextOf_55 (tgt := 61) (by decide) (fun q12 : ¬ ((μ.1 (kFar j6) (v1).toNatClampNeg) + (μ.1 (kRest j9) (v4).toNatClampNeg)) = v3 => ?_) (fun q12 : ((μ.1 (kFar j6) (v1).toNatClampNeg) + (μ.1 (kRest j9) (v4).toNatClampNeg)) = v3 => ?_)
      · replace k := k.1 q12
        refine m2_iinc hB (ls' := [.ref kT, .int v1, .int v2, .int v3, .int (v4 + 1)]) (v := (v4 + 1)) dX9_nextOf_61 rfl (by decide) rfl rfl ?_
        refine m2_goto hB dX9_nextOf_64 (tgt := 10) (by decide) ?_
        exact k
      · replace k := k.2 q12
        refine m2_iload hB dX9_nextOf_58 rfl ?_
        exact m2_iret h dX9_nextOf_60 k
    · rw [if_neg q5]
      replace k := k.2 q5
      refine m2_if_eq hB dX9_nextOf_25 (tgt := 61) (by decide) (fun _ => ?_) (fun q => absurd q (by decide))
      refine m2_iinc hB (ls' := [.ref kT, .int v1, .int v2, .int v3, .int (v4 + 1)]) (v := (v4 + 1)) dX9_nextOf_61 rfl (by decide) rfl rfl ?_
      refine m2_goto hB dX9_nextOf_64 (tgt := 10) (by decide) ?_
      exact k
