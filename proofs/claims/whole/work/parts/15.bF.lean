theorem dX1_load_0 : decode cX1_load 0 = .ok (.aload_n 0, 1) := by decide +kernel
theorem dX1_load_1 : decode cX1_load 1 = .ok (.aload_n 1, 1) := by decide +kernel
theorem dX1_load_2 : decode cX1_load 2 = .ok (.getfield 37, 3) := by decide +kernel
theorem dX1_load_5 : decode cX1_load 5 = .ok (.putfield 43, 3) := by decide +kernel
theorem dX1_load_8 : decode cX1_load 8 = .ok (.aload_n 0, 1) := by decide +kernel
theorem dX1_load_9 : decode cX1_load 9 = .ok (.aload_n 0, 1) := by decide +kernel
theorem dX1_load_10 : decode cX1_load 10 = .ok (.getfield 43, 3) := by decide +kernel
theorem dX1_load_13 : decode cX1_load 13 = .ok (.putfield 46, 3) := by decide +kernel
theorem dX1_load_16 : decode cX1_load 16 = .ok (.iconst 0, 1) := by decide +kernel
theorem dX1_load_17 : decode cX1_load 17 = .ok (.istore_n 2, 1) := by decide +kernel
theorem dX1_load_18 : decode cX1_load 18 = .ok (.iload_n 2, 1) := by decide +kernel
theorem dX1_load_19 : decode cX1_load 19 = .ok (.aload_n 0, 1) := by decide +kernel
theorem dX1_load_20 : decode cX1_load 20 = .ok (.getfield 46, 3) := by decide +kernel
theorem dX1_load_23 : decode cX1_load 23 = .ok (.if_icmp .ge 57, 3) := by decide +kernel
theorem dX1_load_26 : decode cX1_load 26 = .ok (.aload_n 0, 1) := by decide +kernel
theorem dX1_load_27 : decode cX1_load 27 = .ok (.getfield 9, 3) := by decide +kernel
theorem dX1_load_30 : decode cX1_load 30 = .ok (.iload_n 2, 1) := by decide +kernel
theorem dX1_load_31 : decode cX1_load 31 = .ok (.aload_n 1, 1) := by decide +kernel
theorem dX1_load_32 : decode cX1_load 32 = .ok (.getfield 47, 3) := by decide +kernel
theorem dX1_load_35 : decode cX1_load 35 = .ok (.iload_n 2, 1) := by decide +kernel
theorem dX1_load_36 : decode cX1_load 36 = .ok (.iaload, 1) := by decide +kernel
theorem dX1_load_37 : decode cX1_load 37 = .ok (.iastore, 1) := by decide +kernel
theorem dX1_load_38 : decode cX1_load 38 = .ok (.aload_n 0, 1) := by decide +kernel
theorem dX1_load_39 : decode cX1_load 39 = .ok (.getfield 15, 3) := by decide +kernel
theorem dX1_load_42 : decode cX1_load 42 = .ok (.iload_n 2, 1) := by decide +kernel
theorem dX1_load_43 : decode cX1_load 43 = .ok (.aload_n 1, 1) := by decide +kernel
theorem dX1_load_44 : decode cX1_load 44 = .ok (.getfield 48, 3) := by decide +kernel
theorem dX1_load_47 : decode cX1_load 47 = .ok (.iload_n 2, 1) := by decide +kernel
theorem dX1_load_48 : decode cX1_load 48 = .ok (.iaload, 1) := by decide +kernel
theorem dX1_load_49 : decode cX1_load 49 = .ok (.iastore, 1) := by decide +kernel
theorem dX1_load_50 : decode cX1_load 50 = .ok (.aload_n 0, 1) := by decide +kernel
theorem dX1_load_51 : decode cX1_load 51 = .ok (.getfield 18, 3) := by decide +kernel
theorem dX1_load_54 : decode cX1_load 54 = .ok (.iload_n 2, 1) := by decide +kernel
theorem dX1_load_55 : decode cX1_load 55 = .ok (.aload_n 1, 1) := by decide +kernel
theorem dX1_load_56 : decode cX1_load 56 = .ok (.getfield 49, 3) := by decide +kernel
theorem dX1_load_59 : decode cX1_load 59 = .ok (.iload_n 2, 1) := by decide +kernel
theorem dX1_load_60 : decode cX1_load 60 = .ok (.baload, 1) := by decide +kernel
theorem dX1_load_61 : decode cX1_load 61 = .ok (.bastore, 1) := by decide +kernel
theorem dX1_load_62 : decode cX1_load 62 = .ok (.aload_n 0, 1) := by decide +kernel
theorem dX1_load_63 : decode cX1_load 63 = .ok (.getfield 22, 3) := by decide +kernel
theorem dX1_load_66 : decode cX1_load 66 = .ok (.iload_n 2, 1) := by decide +kernel
theorem dX1_load_67 : decode cX1_load 67 = .ok (.aload_n 1, 1) := by decide +kernel
theorem dX1_load_68 : decode cX1_load 68 = .ok (.getfield 50, 3) := by decide +kernel
theorem dX1_load_71 : decode cX1_load 71 = .ok (.iload_n 2, 1) := by decide +kernel
theorem dX1_load_72 : decode cX1_load 72 = .ok (.iaload, 1) := by decide +kernel
theorem dX1_load_73 : decode cX1_load 73 = .ok (.iastore, 1) := by decide +kernel
theorem dX1_load_74 : decode cX1_load 74 = .ok (.iinc 2 1, 3) := by decide +kernel
theorem dX1_load_77 : decode cX1_load 77 = .ok (.goto (-59), 3) := by decide +kernel
theorem dX1_load_80 : decode cX1_load 80 = .ok (.aload_n 0, 1) := by decide +kernel
theorem dX1_load_81 : decode cX1_load 81 = .ok (.getfield 25, 3) := by decide +kernel
theorem dX1_load_84 : decode cX1_load 84 = .ok (.iconst 0, 1) := by decide +kernel
theorem dX1_load_85 : decode cX1_load 85 = .ok (.invokestatic 53, 3) := by decide +kernel
theorem dX1_load_88 : decode cX1_load 88 = .ok (.return_, 1) := by decide +kernel
set_option maxRecDepth 100000 in
set_option maxHeartbeats 4000000 in
theorem B_X1_load_0 {κ : Nat → List Value → List Value → m2M → Prop} {D : Nat} {Q : Option Value → m2M → Prop} (h : m2_RL κ cX1_load RX1 3 D none Q)  {μ : m2M} (k : κ 18 [.ref kF, .ref kD, .int 0] [] (m2_si (m2_si μ kF 6 (μ.1 kD 6)) kF 7 (μ.1 kD 6))) : κ 0 [.ref kF, .ref kD, .null] [] μ := by
  have hB := h.b
  refine m2_aload_n hB dX1_load_0 rfl ?_
  refine m2_aload_n hB dX1_load_1 rfl ?_
  refine m2_getI hB dX1_load_2 fl_X1_37 sh_kD rfl ?_
  refine m2_putI hB dX1_load_5 fl_X1_43 sh_kF rfl ?_
  refine m2_aload_n hB dX1_load_8 rfl ?_
  refine m2_aload_n hB dX1_load_9 rfl ?_
  refine m2_getI hB dX1_load_10 fl_X1_43 sh_kF rfl ?_
  refine m2_putI hB dX1_load_13 fl_X1_46 sh_kF rfl ?_
  refine m2_iconst hB dX1_load_16 (v := 0) (by decide) ?_
  refine m2_istore_n hB (ls' := [.ref kF, .ref kD, .int 0]) dX1_load_17 rfl (by decide) rfl ?_
  exact k
set_option maxRecDepth 100000 in
set_option maxHeartbeats 4000000 in
theorem B_X1_load_18 {κ : Nat → List Value → List Value → m2M → Prop} {D : Nat} {Q : Option Value → m2M → Prop} (h : m2_RL κ cX1_load RX1 3 (D + 1) none Q) {v2 : Int32} {μ : m2M} (k : ((μ.1 kF 7) ≤ v2 → ∃ Q5 : Option Value → m2M → Prop, m2_MT D yJ7_fill_53178 cJ7_fill_53178 4 none [.ref kF_net, .int 0] μ Q5 ∧ ∀ (μ4 : m2M), Q5 none μ4 → (Q none μ4)) ∧ (¬ (μ.1 kF 7) ≤ v2 → (vp_in v2 20) ∧ ((vp_in v2 21) ∧ (κ 18 [.ref kF, .ref kD, .int (v2 + 1)] [] (m2_si (m2_si (m2_si (m2_si μ kF_a (v2).toNatClampNeg (μ.1 kD_a (v2).toNatClampNeg)) kF_b (v2).toNatClampNeg (μ.1 kD_b (v2).toNatClampNeg)) kF_oneWay (v2).toNatClampNeg (vp_nar .boolean (μ.1 kD_oneWay (v2).toNatClampNeg))) kF_lets (v2).toNatClampNeg (μ.1 kD_left (v2).toNatClampNeg)))))) : κ 18 [.ref kF, .ref kD, .int v2] [] μ := by
  have hB := h.b
  refine m2_iload_n hB dX1_load_18 rfl ?_
  refine m2_aload_n hB dX1_load_19 rfl ?_
  refine m2_getI hB dX1_load_20 fl_X1_46 sh_kF rfl ?_
  refine m2_icmp_ge hB dX1_load_23 (tgt := 80) (by decide) (fun q2 : (μ.1 kF 7) ≤ v2 => ?_) (fun q2 : ¬ (μ.1 kF 7) ≤ v2 => ?_)
  · replace k := k.1 q2
    refine m2_aload_n hB dX1_load_80 rfl ?_
    refine m2_getR hB dX1_load_81 fl_X1_25 sh_kF (c1 := kF_net) rfl ?_
    refine m2_iconst hB dX1_load_84 (v := 0) (by decide) ?_
    obtain ⟨Q5, hM6, k⟩ := k
    refine m2_invSv hB (as := [.ref kF_net, .int 0]) dX1_load_85 ms_X1_53 rfl (Nat.le_of_ble_eq_true rfl) rfl hM6 (fun μ4 hq7 => ?_)
    replace k := k μ4 hq7
    exact m2_vret h dX1_load_88 k
  · replace k := k.2 q2
    refine m2_aload_n hB dX1_load_26 rfl ?_
    refine m2_getR hB dX1_load_27 fl_X1_9 sh_kF (c1 := kF_a) rfl ?_
    refine m2_iload_n hB dX1_load_30 rfl ?_
    refine m2_aload_n hB dX1_load_31 rfl ?_
    refine m2_getR hB dX1_load_32 fl_X1_47 sh_kD (c1 := kD_a) rfl ?_
    refine m2_iload_n hB dX1_load_35 rfl ?_
    obtain ⟨hi8, k⟩ := k
    refine m2_iald hB dX1_load_36 sh_kD_a hi8 ?_
    obtain ⟨hi9, k⟩ := k
    refine m2_iast hB dX1_load_37 sh_kF_a hi9 ?_
    refine m2_aload_n hB dX1_load_38 rfl ?_
    refine m2_getR hB dX1_load_39 fl_X1_15 sh_kF (c1 := kF_b) rfl ?_
    refine m2_iload_n hB dX1_load_42 rfl ?_
    refine m2_aload_n hB dX1_load_43 rfl ?_
    refine m2_getR hB dX1_load_44 fl_X1_48 sh_kD (c1 := kD_b) rfl ?_
    refine m2_iload_n hB dX1_load_47 rfl ?_
    have hi10 := hi8
    refine m2_iald hB dX1_load_48 sh_kD_b hi10 ?_
    have hi11 := hi9
    refine m2_iast hB dX1_load_49 sh_kF_b hi11 ?_
    refine m2_aload_n hB dX1_load_50 rfl ?_
    refine m2_getR hB dX1_load_51 fl_X1_18 sh_kF (c1 := kF_oneWay) rfl ?_
    refine m2_iload_n hB dX1_load_54 rfl ?_
    refine m2_aload_n hB dX1_load_55 rfl ?_
    refine m2_getR hB dX1_load_56 fl_X1_49 sh_kD (c1 := kD_oneWay) rfl ?_
    refine m2_iload_n hB dX1_load_59 rfl ?_
    have hi12 := hi8
    refine m2_zald hB dX1_load_60 sh_kD_oneWay hi12 ?_
    have hi13 := hi9
    refine m2_zast hB dX1_load_61 sh_kF_oneWay hi13 ?_
    refine m2_aload_n hB dX1_load_62 rfl ?_
    refine m2_getR hB dX1_load_63 fl_X1_22 sh_kF (c1 := kF_lets) rfl ?_
    refine m2_iload_n hB dX1_load_66 rfl ?_
    refine m2_aload_n hB dX1_load_67 rfl ?_
    refine m2_getR hB dX1_load_68 fl_X1_50 sh_kD (c1 := kD_left) rfl ?_
    refine m2_iload_n hB dX1_load_71 rfl ?_
    have hi14 := hi8
    refine m2_iald hB dX1_load_72 sh_kD_left hi14 ?_
    have hi15 := hi9
    refine m2_iast hB dX1_load_73 sh_kF_lets hi15 ?_
    refine m2_iinc hB (ls' := [.ref kF, .ref kD, .int (v2 + 1)]) (v := (v2 + 1)) dX1_load_74 rfl (by decide) rfl rfl ?_
    refine m2_goto hB dX1_load_77 (tgt := 18) (by decide) ?_
    exact k
theorem dX1_lay_0 : decode cX1_lay 0 = .ok (.aload_n 0, 1) := by decide +kernel
theorem dX1_lay_1 : decode cX1_lay 1 = .ok (.getfield 9, 3) := by decide +kernel
theorem dX1_lay_4 : decode cX1_lay 4 = .ok (.aload_n 0, 1) := by decide +kernel
theorem dX1_lay_5 : decode cX1_lay 5 = .ok (.getfield 43, 3) := by decide +kernel
theorem dX1_lay_8 : decode cX1_lay 8 = .ok (.iload_n 1, 1) := by decide +kernel
theorem dX1_lay_9 : decode cX1_lay 9 = .ok (.iastore, 1) := by decide +kernel
theorem dX1_lay_10 : decode cX1_lay 10 = .ok (.aload_n 0, 1) := by decide +kernel
theorem dX1_lay_11 : decode cX1_lay 11 = .ok (.getfield 15, 3) := by decide +kernel
theorem dX1_lay_14 : decode cX1_lay 14 = .ok (.aload_n 0, 1) := by decide +kernel
theorem dX1_lay_15 : decode cX1_lay 15 = .ok (.getfield 43, 3) := by decide +kernel
theorem dX1_lay_18 : decode cX1_lay 18 = .ok (.iload_n 2, 1) := by decide +kernel
theorem dX1_lay_19 : decode cX1_lay 19 = .ok (.iastore, 1) := by decide +kernel
theorem dX1_lay_20 : decode cX1_lay 20 = .ok (.aload_n 0, 1) := by decide +kernel
theorem dX1_lay_21 : decode cX1_lay 21 = .ok (.getfield 18, 3) := by decide +kernel
theorem dX1_lay_24 : decode cX1_lay 24 = .ok (.aload_n 0, 1) := by decide +kernel
theorem dX1_lay_25 : decode cX1_lay 25 = .ok (.getfield 43, 3) := by decide +kernel
theorem dX1_lay_28 : decode cX1_lay 28 = .ok (.iconst 0, 1) := by decide +kernel
theorem dX1_lay_29 : decode cX1_lay 29 = .ok (.bastore, 1) := by decide +kernel
theorem dX1_lay_30 : decode cX1_lay 30 = .ok (.aload_n 0, 1) := by decide +kernel
theorem dX1_lay_31 : decode cX1_lay 31 = .ok (.getfield 22, 3) := by decide +kernel
theorem dX1_lay_34 : decode cX1_lay 34 = .ok (.aload_n 0, 1) := by decide +kernel
theorem dX1_lay_35 : decode cX1_lay 35 = .ok (.getfield 43, 3) := by decide +kernel
theorem dX1_lay_38 : decode cX1_lay 38 = .ok (.iload_n 3, 1) := by decide +kernel
theorem dX1_lay_39 : decode cX1_lay 39 = .ok (.iastore, 1) := by decide +kernel
theorem dX1_lay_40 : decode cX1_lay 40 = .ok (.aload_n 0, 1) := by decide +kernel
theorem dX1_lay_41 : decode cX1_lay 41 = .ok (.aload_n 0, 1) := by decide +kernel
theorem dX1_lay_42 : decode cX1_lay 42 = .ok (.getfield 43, 3) := by decide +kernel
theorem dX1_lay_45 : decode cX1_lay 45 = .ok (.iconst 1, 1) := by decide +kernel
theorem dX1_lay_46 : decode cX1_lay 46 = .ok (.iadd, 1) := by decide +kernel
theorem dX1_lay_47 : decode cX1_lay 47 = .ok (.putfield 46, 3) := by decide +kernel
theorem dX1_lay_50 : decode cX1_lay 50 = .ok (.return_, 1) := by decide +kernel
set_option maxRecDepth 100000 in
set_option maxHeartbeats 4000000 in
theorem B_X1_lay_0 {κ : Nat → List Value → List Value → m2M → Prop} {D : Nat} {Q : Option Value → m2M → Prop} (h : m2_RL κ cX1_lay RX1 4 D none Q) {x1 : Int32} {x2 : Int32} {x3 : Int32} {μ : m2M} (k : (vp_in (μ.1 kF 6) 21) ∧ (Q none (m2_si (m2_si (m2_si (m2_si (m2_si μ kF_a ((μ.1 kF 6)).toNatClampNeg x1) kF_b ((μ.1 kF 6)).toNatClampNeg x2) kF_oneWay ((μ.1 kF 6)).toNatClampNeg (vp_nar .boolean 0)) kF_lets ((μ.1 kF 6)).toNatClampNeg x3) kF 7 ((μ.1 kF 6) + 1)))) : κ 0 [.ref kF, .int x1, .int x2, .int x3] [] μ := by
  have hB := h.b
  refine m2_aload_n hB dX1_lay_0 rfl ?_
  refine m2_getR hB dX1_lay_1 fl_X1_9 sh_kF (c1 := kF_a) rfl ?_
  refine m2_aload_n hB dX1_lay_4 rfl ?_
  refine m2_getI hB dX1_lay_5 fl_X1_43 sh_kF rfl ?_
  refine m2_iload_n hB dX1_lay_8 rfl ?_
  obtain ⟨hi1, k⟩ := k
  refine m2_iast hB dX1_lay_9 sh_kF_a hi1 ?_
  refine m2_aload_n hB dX1_lay_10 rfl ?_
  refine m2_getR hB dX1_lay_11 fl_X1_15 sh_kF (c1 := kF_b) rfl ?_
  refine m2_aload_n hB dX1_lay_14 rfl ?_
  refine m2_getI hB dX1_lay_15 fl_X1_43 sh_kF rfl ?_
  refine m2_iload_n hB dX1_lay_18 rfl ?_
  have hi2 := hi1
  refine m2_iast hB dX1_lay_19 sh_kF_b hi2 ?_
  refine m2_aload_n hB dX1_lay_20 rfl ?_
  refine m2_getR hB dX1_lay_21 fl_X1_18 sh_kF (c1 := kF_oneWay) rfl ?_
  refine m2_aload_n hB dX1_lay_24 rfl ?_
  refine m2_getI hB dX1_lay_25 fl_X1_43 sh_kF rfl ?_
  refine m2_iconst hB dX1_lay_28 (v := 0) (by decide) ?_
  have hi3 := hi1
  refine m2_zast hB dX1_lay_29 sh_kF_oneWay hi3 ?_
  refine m2_aload_n hB dX1_lay_30 rfl ?_
  refine m2_getR hB dX1_lay_31 fl_X1_22 sh_kF (c1 := kF_lets) rfl ?_
  refine m2_aload_n hB dX1_lay_34 rfl ?_
  refine m2_getI hB dX1_lay_35 fl_X1_43 sh_kF rfl ?_
  refine m2_iload_n hB dX1_lay_38 rfl ?_
  have hi4 := hi1
  refine m2_iast hB dX1_lay_39 sh_kF_lets hi4 ?_
  refine m2_aload_n hB dX1_lay_40 rfl ?_
  refine m2_aload_n hB dX1_lay_41 rfl ?_
  refine m2_getI hB dX1_lay_42 fl_X1_43 sh_kF rfl ?_
  refine m2_iconst hB dX1_lay_45 (v := 1) (by decide) ?_
  refine m2_iadd hB dX1_lay_46 ?_
  refine m2_putI hB dX1_lay_47 fl_X1_46 sh_kF rfl ?_
  exact m2_vret h dX1_lay_50 k
theorem dX1_greatest_0 : decode cX1_greatest 0 = .ok (.aload_n 0, 1) := by decide +kernel
theorem dX1_greatest_1 : decode cX1_greatest 1 = .ok (.getfield 25, 3) := by decide +kernel
theorem dX1_greatest_4 : decode cX1_greatest 4 = .ok (.iconst 0, 1) := by decide +kernel
theorem dX1_greatest_5 : decode cX1_greatest 5 = .ok (.invokestatic 53, 3) := by decide +kernel
theorem dX1_greatest_8 : decode cX1_greatest 8 = .ok (.iconst 0, 1) := by decide +kernel
theorem dX1_greatest_9 : decode cX1_greatest 9 = .ok (.istore_n 3, 1) := by decide +kernel
theorem dX1_greatest_10 : decode cX1_greatest 10 = .ok (.iconst 0, 1) := by decide +kernel
theorem dX1_greatest_11 : decode cX1_greatest 11 = .ok (.istore 4, 2) := by decide +kernel
theorem dX1_greatest_13 : decode cX1_greatest 13 = .ok (.iload 4, 2) := by decide +kernel
theorem dX1_greatest_15 : decode cX1_greatest 15 = .ok (.sipush 2000, 3) := by decide +kernel
theorem dX1_greatest_18 : decode cX1_greatest 18 = .ok (.if_icmp .ge 45, 3) := by decide +kernel
theorem dX1_greatest_21 : decode cX1_greatest 21 = .ok (.aload_n 0, 1) := by decide +kernel
theorem dX1_greatest_22 : decode cX1_greatest 22 = .ok (.iload_n 1, 1) := by decide +kernel
theorem dX1_greatest_23 : decode cX1_greatest 23 = .ok (.iconst 1, 1) := by decide +kernel
theorem dX1_greatest_24 : decode cX1_greatest 24 = .ok (.iload_n 2, 1) := by decide +kernel
theorem dX1_greatest_25 : decode cX1_greatest 25 = .ok (.ishl, 1) := by decide +kernel
theorem dX1_greatest_26 : decode cX1_greatest 26 = .ok (.invokevirtual 59, 3) := by decide +kernel
theorem dX1_greatest_29 : decode cX1_greatest 29 = .ok (.iconst (-1), 1) := by decide +kernel
theorem dX1_greatest_30 : decode cX1_greatest 30 = .ok (.if_icmp .ne 6, 3) := by decide +kernel
theorem dX1_greatest_33 : decode cX1_greatest 33 = .ok (.goto 30, 3) := by decide +kernel
theorem dX1_greatest_36 : decode cX1_greatest 36 = .ok (.aload_n 0, 1) := by decide +kernel
theorem dX1_greatest_37 : decode cX1_greatest 37 = .ok (.iload_n 1, 1) := by decide +kernel
theorem dX1_greatest_38 : decode cX1_greatest 38 = .ok (.iload_n 2, 1) := by decide +kernel
theorem dX1_greatest_39 : decode cX1_greatest 39 = .ok (.invokevirtual 63, 3) := by decide +kernel
theorem dX1_greatest_42 : decode cX1_greatest 42 = .ok (.istore 5, 2) := by decide +kernel
theorem dX1_greatest_44 : decode cX1_greatest 44 = .ok (.aload_n 0, 1) := by decide +kernel
theorem dX1_greatest_45 : decode cX1_greatest 45 = .ok (.iload_n 1, 1) := by decide +kernel
theorem dX1_greatest_46 : decode cX1_greatest 46 = .ok (.iload_n 2, 1) := by decide +kernel
theorem dX1_greatest_47 : decode cX1_greatest 47 = .ok (.iload 5, 2) := by decide +kernel
theorem dX1_greatest_49 : decode cX1_greatest 49 = .ok (.invokevirtual 66, 3) := by decide +kernel
theorem dX1_greatest_52 : decode cX1_greatest 52 = .ok (.iload_n 3, 1) := by decide +kernel
theorem dX1_greatest_53 : decode cX1_greatest 53 = .ok (.iload 5, 2) := by decide +kernel
theorem dX1_greatest_55 : decode cX1_greatest 55 = .ok (.iadd, 1) := by decide +kernel
theorem dX1_greatest_56 : decode cX1_greatest 56 = .ok (.istore_n 3, 1) := by decide +kernel
theorem dX1_greatest_57 : decode cX1_greatest 57 = .ok (.iinc 4 1, 3) := by decide +kernel
theorem dX1_greatest_60 : decode cX1_greatest 60 = .ok (.goto (-47), 3) := by decide +kernel
theorem dX1_greatest_63 : decode cX1_greatest 63 = .ok (.iload_n 3, 1) := by decide +kernel
theorem dX1_greatest_64 : decode cX1_greatest 64 = .ok (.ireturn, 1) := by decide +kernel
set_option maxRecDepth 100000 in
set_option maxHeartbeats 4000000 in
theorem B_X1_greatest_0 {κ : Nat → List Value → List Value → m2M → Prop} {D : Nat} {Q : Option Value → m2M → Prop} (h : m2_RL κ cX1_greatest RX1 6 (D + 1) (some .int) Q) {x1 : Int32} {x2 : Int32} {μ : m2M} (k : ∃ Q3 : Option Value → m2M → Prop, m2_MT D yJ7_fill_53178 cJ7_fill_53178 4 none [.ref kF_net, .int 0] μ Q3 ∧ ∀ (μ2 : m2M), Q3 none μ2 → (κ 13 [.ref kF, .int x1, .int x2, .int 0, .int 0, .null] [] μ2)) : κ 0 [.ref kF, .int x1, .int x2, .null, .null, .null] [] μ := by
  have hB := h.b
  refine m2_aload_n hB dX1_greatest_0 rfl ?_
  refine m2_getR hB dX1_greatest_1 fl_X1_25 sh_kF (c1 := kF_net) rfl ?_
  refine m2_iconst hB dX1_greatest_4 (v := 0) (by decide) ?_
  obtain ⟨Q3, hM4, k⟩ := k
  refine m2_invSv hB (as := [.ref kF_net, .int 0]) dX1_greatest_5 ms_X1_53 rfl (Nat.le_of_ble_eq_true rfl) rfl hM4 (fun μ2 hq5 => ?_)
  replace k := k μ2 hq5
  refine m2_iconst hB dX1_greatest_8 (v := 0) (by decide) ?_
  refine m2_istore_n hB (ls' := [.ref kF, .int x1, .int x2, .int 0, .null, .null]) dX1_greatest_9 rfl (by decide) rfl ?_
  refine m2_iconst hB dX1_greatest_10 (v := 0) (by decide) ?_
  refine m2_istore hB (ls' := [.ref kF, .int x1, .int x2, .int 0, .int 0, .null]) dX1_greatest_11 (by decide) rfl ?_
  exact k
set_option maxRecDepth 100000 in
set_option maxHeartbeats 4000000 in
theorem B_X1_greatest_13 {κ : Nat → List Value → List Value → m2M → Prop} {D : Nat} {Q : Option Value → m2M → Prop} (h : m2_RL κ cX1_greatest RX1 6 (D + 1) (some .int) Q) {v1 : Int32} {v2 : Int32} {v3 : Int32} {v4 : Int32} {μ : m2M} (k : (2000 ≤ v4 → Q (some (.int v3)) μ) ∧ (¬ 2000 ≤ v4 → ∃ Q4 : Option Value → m2M → Prop, m2_MT D yX1_search cX1_search 8 (some .int) [.ref kF, .int v1, .int ((1 : Int32) <<< (v2 &&& 31))] μ Q4 ∧ ∀ (y2 : Int32) (μ3 : m2M), Q4 (some (.int y2)) μ3 → ((¬ y2 = (-1) → ∃ Q10 : Option Value → m2M → Prop, m2_MT D yX1_narrowest cX1_narrowest 7 (some .int) [.ref kF, .int v1, .int v2] μ3 Q10 ∧ ∀ (y8 : Int32) (μ9 : m2M), Q10 (some (.int y8)) μ9 → (∃ Q15 : Option Value → m2M → Prop, m2_MT D yX1_push cX1_push 8 none [.ref kF, .int v1, .int v2, .int y8] μ9 Q15 ∧ ∀ (μ14 : m2M), Q15 none μ14 → (κ 13 [.ref kF, .int v1, .int v2, .int (v3 + y8), .int (v4 + 1), .null] [] μ14))) ∧ (y2 = (-1) → Q (some (.int v3)) μ3)))) : κ 13 [.ref kF, .int v1, .int v2, .int v3, .int v4, .null] [] μ := by
  have hB := h.b
  refine m2_iload hB dX1_greatest_13 rfl ?_
  refine m2_sipush hB dX1_greatest_15 (v := 2000) (by decide) ?_
  refine m2_icmp_ge hB dX1_greatest_18 (tgt := 63) (by decide) (fun q1 : 2000 ≤ v4 => ?_) (fun q1 : ¬ 2000 ≤ v4 => ?_)
  · replace k := k.1 q1
    refine m2_iload_n hB dX1_greatest_63 rfl ?_
    exact m2_iret h dX1_greatest_64 k
  · replace k := k.2 q1
    refine m2_aload_n hB dX1_greatest_21 rfl ?_
    refine m2_iload_n hB dX1_greatest_22 rfl ?_
    refine m2_iconst hB dX1_greatest_23 (v := 1) (by decide) ?_
    refine m2_iload_n hB dX1_greatest_24 rfl ?_
    refine m2_ishl hB dX1_greatest_25 ?_
    obtain ⟨Q4, hM5, k⟩ := k
    refine m2_invi hB (as := [.int v1, .int ((1 : Int32) <<< (v2 &&& 31))]) dX1_greatest_26 mv_X1_59 rfl sh_kF rfl (Nat.le_of_ble_eq_true rfl) rfl hM5 (fun y2 μ3 hq6 => ?_)
    replace k := k y2 μ3 hq6
    refine m2_iconst hB dX1_greatest_29 (v := (-1)) (by decide) ?_
    refine m2_icmp_ne hB dX1_greatest_30 (tgt := 36) (by decide) (fun q7 : ¬ y2 = (-1) => ?_) (fun q7 : y2 = (-1) => ?_)
    · replace k := k.1 q7
      refine m2_aload_n hB dX1_greatest_36 rfl ?_
      refine m2_iload_n hB dX1_greatest_37 rfl ?_
      refine m2_iload_n hB dX1_greatest_38 rfl ?_
      obtain ⟨Q10, hM11, k⟩ := k
      refine m2_invi hB (as := [.int v1, .int v2]) dX1_greatest_39 mv_X1_63 rfl sh_kF rfl (Nat.le_of_ble_eq_true rfl) rfl hM11 (fun y8 μ9 hq12 => ?_)
      replace k := k y8 μ9 hq12
      refine m2_istore hB (ls' := [.ref kF, .int v1, .int v2, .int v3, .int v4, .int y8]) dX1_greatest_42 (by decide) rfl ?_
      refine m2_aload_n hB dX1_greatest_44 rfl ?_
      refine m2_iload_n hB dX1_greatest_45 rfl ?_
      refine m2_iload_n hB dX1_greatest_46 rfl ?_
      refine m2_iload hB dX1_greatest_47 rfl ?_
      obtain ⟨Q15, hM16, k⟩ := k
      refine m2_invv hB (as := [.int v1, .int v2, .int y8]) dX1_greatest_49 mv_X1_66 rfl sh_kF rfl (Nat.le_of_ble_eq_true rfl) rfl hM16 (fun μ14 hq17 => ?_)
      replace k := k μ14 hq17
      refine m2_iload_n hB dX1_greatest_52 rfl ?_
      refine m2_iload hB dX1_greatest_53 rfl ?_
      refine m2_iadd hB dX1_greatest_55 ?_
      refine m2_istore_n hB (ls' := [.ref kF, .int v1, .int v2, .int (v3 + y8), .int v4, .int y8]) dX1_greatest_56 rfl (by decide) rfl ?_
      refine m2_iinc hB (ls' := [.ref kF, .int v1, .int v2, .int (v3 + y8), .int (v4 + 1), .int y8]) (v := (v4 + 1)) dX1_greatest_57 rfl (by decide) rfl rfl ?_
      refine m2_goto hB dX1_greatest_60 (tgt := 13) (by decide) ?_
      exact m2_weak (ls' := [.ref kF, .int v1, .int v2, .int (v3 + y8), .int (v4 + 1), .null]) hB ⟨Or.inr rfl, Or.inr rfl, Or.inr rfl, Or.inr rfl, Or.inr rfl, Or.inl rfl, trivial⟩ k
    · replace k := k.2 q7
      refine m2_goto hB dX1_greatest_33 (tgt := 63) (by decide) ?_
      refine m2_iload_n hB dX1_greatest_63 rfl ?_
      exact m2_iret h dX1_greatest_64 k
theorem dX1_sendOne_0 : decode cX1_sendOne 0 = .ok (.aload_n 0, 1) := by decide +kernel
theorem dX1_sendOne_1 : decode cX1_sendOne 1 = .ok (.iload_n 1, 1) := by decide +kernel
theorem dX1_sendOne_2 : decode cX1_sendOne 2 = .ok (.iload_n 2, 1) := by decide +kernel
theorem dX1_sendOne_3 : decode cX1_sendOne 3 = .ok (.invokevirtual 59, 3) := by decide +kernel
theorem dX1_sendOne_6 : decode cX1_sendOne 6 = .ok (.istore_n 3, 1) := by decide +kernel
theorem dX1_sendOne_7 : decode cX1_sendOne 7 = .ok (.iload_n 3, 1) := by decide +kernel
theorem dX1_sendOne_8 : decode cX1_sendOne 8 = .ok (.iconst (-1), 1) := by decide +kernel
theorem dX1_sendOne_9 : decode cX1_sendOne 9 = .ok (.if_icmp .ne 5, 3) := by decide +kernel
theorem dX1_sendOne_12 : decode cX1_sendOne 12 = .ok (.iconst 0, 1) := by decide +kernel
theorem dX1_sendOne_13 : decode cX1_sendOne 13 = .ok (.ireturn, 1) := by decide +kernel
theorem dX1_sendOne_14 : decode cX1_sendOne 14 = .ok (.aload_n 0, 1) := by decide +kernel
theorem dX1_sendOne_15 : decode cX1_sendOne 15 = .ok (.iload_n 1, 1) := by decide +kernel
theorem dX1_sendOne_16 : decode cX1_sendOne 16 = .ok (.iload_n 3, 1) := by decide +kernel
theorem dX1_sendOne_17 : decode cX1_sendOne 17 = .ok (.iconst 1, 1) := by decide +kernel
theorem dX1_sendOne_18 : decode cX1_sendOne 18 = .ok (.invokevirtual 66, 3) := by decide +kernel
theorem dX1_sendOne_21 : decode cX1_sendOne 21 = .ok (.iconst 1, 1) := by decide +kernel
theorem dX1_sendOne_22 : decode cX1_sendOne 22 = .ok (.ireturn, 1) := by decide +kernel
set_option maxRecDepth 100000 in
set_option maxHeartbeats 4000000 in
theorem B_X1_sendOne_0 {κ : Nat → List Value → List Value → m2M → Prop} {D : Nat} {Q : Option Value → m2M → Prop} (h : m2_RL κ cX1_sendOne RX1 4 (D + 1) (some .boolean) Q) {x1 : Int32} {x2 : Int32} {μ : m2M} (k : ∃ Q3 : Option Value → m2M → Prop, m2_MT D yX1_search cX1_search 8 (some .int) [.ref kF, .int x1, .int x2] μ Q3 ∧ ∀ (y1 : Int32) (μ2 : m2M), Q3 (some (.int y1)) μ2 → ((¬ y1 = (-1) → ∃ Q9 : Option Value → m2M → Prop, m2_MT D yX1_push cX1_push 8 none [.ref kF, .int x1, .int y1, .int 1] μ2 Q9 ∧ ∀ (μ8 : m2M), Q9 none μ8 → (Q (some (.int 1)) μ8)) ∧ (y1 = (-1) → Q (some (.int 0)) μ2))) : κ 0 [.ref kF, .int x1, .int x2, .null] [] μ := by
  have hB := h.b
  refine m2_aload_n hB dX1_sendOne_0 rfl ?_
  refine m2_iload_n hB dX1_sendOne_1 rfl ?_
  refine m2_iload_n hB dX1_sendOne_2 rfl ?_
  obtain ⟨Q3, hM4, k⟩ := k
  refine m2_invi hB (as := [.int x1, .int x2]) dX1_sendOne_3 mv_X1_59 rfl sh_kF rfl (Nat.le_of_ble_eq_true rfl) rfl hM4 (fun y1 μ2 hq5 => ?_)
  replace k := k y1 μ2 hq5
  refine m2_istore_n hB (ls' := [.ref kF, .int x1, .int x2, .int y1]) dX1_sendOne_6 rfl (by decide) rfl ?_
  refine m2_iload_n hB dX1_sendOne_7 rfl ?_
  refine m2_iconst hB dX1_sendOne_8 (v := (-1)) (by decide) ?_
  refine m2_icmp_ne hB dX1_sendOne_9 (tgt := 14) (by decide) (fun q6 : ¬ y1 = (-1) => ?_) (fun q6 : y1 = (-1) => ?_)
  · replace k := k.1 q6
    refine m2_aload_n hB dX1_sendOne_14 rfl ?_
    refine m2_iload_n hB dX1_sendOne_15 rfl ?_
    refine m2_iload_n hB dX1_sendOne_16 rfl ?_
    refine m2_iconst hB dX1_sendOne_17 (v := 1) (by decide) ?_
    obtain ⟨Q9, hM10, k⟩ := k
    refine m2_invv hB (as := [.int x1, .int y1, .int 1]) dX1_sendOne_18 mv_X1_66 rfl sh_kF rfl (Nat.le_of_ble_eq_true rfl) rfl hM10 (fun μ8 hq11 => ?_)
    replace k := k μ8 hq11
    refine m2_iconst hB dX1_sendOne_21 (v := 1) (by decide) ?_
    exact m2_zret h dX1_sendOne_22 (Or.inr rfl) k
  · replace k := k.2 q6
    refine m2_iconst hB dX1_sendOne_12 (v := 0) (by decide) ?_
    exact m2_zret h dX1_sendOne_13 (Or.inl rfl) k
theorem dX1_sumOfPairs_0 : decode cX1_sumOfPairs 0 = .ok (.aload_n 0, 1) := by decide +kernel
theorem dX1_sumOfPairs_1 : decode cX1_sumOfPairs 1 = .ok (.getfield 28, 3) := by decide +kernel
theorem dX1_sumOfPairs_4 : decode cX1_sumOfPairs 4 = .ok (.iconst 0, 1) := by decide +kernel
theorem dX1_sumOfPairs_5 : decode cX1_sumOfPairs 5 = .ok (.invokestatic 53, 3) := by decide +kernel
theorem dX1_sumOfPairs_8 : decode cX1_sumOfPairs 8 = .ok (.iconst 0, 1) := by decide +kernel
theorem dX1_sumOfPairs_9 : decode cX1_sumOfPairs 9 = .ok (.istore_n 2, 1) := by decide +kernel
theorem dX1_sumOfPairs_10 : decode cX1_sumOfPairs 10 = .ok (.iconst 0, 1) := by decide +kernel
theorem dX1_sumOfPairs_11 : decode cX1_sumOfPairs 11 = .ok (.istore_n 3, 1) := by decide +kernel
theorem dX1_sumOfPairs_12 : decode cX1_sumOfPairs 12 = .ok (.iload_n 3, 1) := by decide +kernel
theorem dX1_sumOfPairs_13 : decode cX1_sumOfPairs 13 = .ok (.iload_n 1, 1) := by decide +kernel
theorem dX1_sumOfPairs_14 : decode cX1_sumOfPairs 14 = .ok (.if_icmp .ge 54, 3) := by decide +kernel
theorem dX1_sumOfPairs_17 : decode cX1_sumOfPairs 17 = .ok (.iconst 0, 1) := by decide +kernel
theorem dX1_sumOfPairs_18 : decode cX1_sumOfPairs 18 = .ok (.istore 4, 2) := by decide +kernel
theorem dX1_sumOfPairs_20 : decode cX1_sumOfPairs 20 = .ok (.iload 4, 2) := by decide +kernel
theorem dX1_sumOfPairs_22 : decode cX1_sumOfPairs 22 = .ok (.iload_n 1, 1) := by decide +kernel
theorem dX1_sumOfPairs_23 : decode cX1_sumOfPairs 23 = .ok (.if_icmp .ge 39, 3) := by decide +kernel
theorem dX1_sumOfPairs_26 : decode cX1_sumOfPairs 26 = .ok (.iload_n 3, 1) := by decide +kernel
theorem dX1_sumOfPairs_27 : decode cX1_sumOfPairs 27 = .ok (.iload 4, 2) := by decide +kernel
theorem dX1_sumOfPairs_29 : decode cX1_sumOfPairs 29 = .ok (.if_icmp .eq 27, 3) := by decide +kernel
theorem dX1_sumOfPairs_32 : decode cX1_sumOfPairs 32 = .ok (.iload_n 2, 1) := by decide +kernel
theorem dX1_sumOfPairs_33 : decode cX1_sumOfPairs 33 = .ok (.aload_n 0, 1) := by decide +kernel
theorem dX1_sumOfPairs_34 : decode cX1_sumOfPairs 34 = .ok (.iload_n 3, 1) := by decide +kernel
theorem dX1_sumOfPairs_35 : decode cX1_sumOfPairs 35 = .ok (.iload 4, 2) := by decide +kernel
theorem dX1_sumOfPairs_37 : decode cX1_sumOfPairs 37 = .ok (.invokevirtual 70, 3) := by decide +kernel
theorem dX1_sumOfPairs_40 : decode cX1_sumOfPairs 40 = .ok (.iadd, 1) := by decide +kernel
theorem dX1_sumOfPairs_41 : decode cX1_sumOfPairs 41 = .ok (.istore_n 2, 1) := by decide +kernel
theorem dX1_sumOfPairs_42 : decode cX1_sumOfPairs 42 = .ok (.aload_n 0, 1) := by decide +kernel
theorem dX1_sumOfPairs_43 : decode cX1_sumOfPairs 43 = .ok (.aload_n 0, 1) := by decide +kernel
theorem dX1_sumOfPairs_44 : decode cX1_sumOfPairs 44 = .ok (.getfield 73, 3) := by decide +kernel
theorem dX1_sumOfPairs_47 : decode cX1_sumOfPairs 47 = .ok (.aload_n 0, 1) := by decide +kernel
theorem dX1_sumOfPairs_48 : decode cX1_sumOfPairs 48 = .ok (.iload 4, 2) := by decide +kernel
theorem dX1_sumOfPairs_50 : decode cX1_sumOfPairs 50 = .ok (.invokevirtual 76, 3) := by decide +kernel
theorem dX1_sumOfPairs_53 : decode cX1_sumOfPairs 53 = .ok (.invokevirtual 80, 3) := by decide +kernel
theorem dX1_sumOfPairs_56 : decode cX1_sumOfPairs 56 = .ok (.iinc 4 1, 3) := by decide +kernel
theorem dX1_sumOfPairs_59 : decode cX1_sumOfPairs 59 = .ok (.goto (-39), 3) := by decide +kernel
theorem dX1_sumOfPairs_62 : decode cX1_sumOfPairs 62 = .ok (.iinc 3 1, 3) := by decide +kernel
theorem dX1_sumOfPairs_65 : decode cX1_sumOfPairs 65 = .ok (.goto (-53), 3) := by decide +kernel
theorem dX1_sumOfPairs_68 : decode cX1_sumOfPairs 68 = .ok (.iload_n 2, 1) := by decide +kernel
theorem dX1_sumOfPairs_69 : decode cX1_sumOfPairs 69 = .ok (.ireturn, 1) := by decide +kernel
set_option maxRecDepth 100000 in
set_option maxHeartbeats 4000000 in
theorem B_X1_sumOfPairs_0 {κ : Nat → List Value → List Value → m2M → Prop} {D : Nat} {Q : Option Value → m2M → Prop} (h : m2_RL κ cX1_sumOfPairs RX1 5 (D + 1) (some .int) Q) {x1 : Int32} {μ : m2M} (k : ∃ Q3 : Option Value → m2M → Prop, m2_MT D yJ7_fill_53178 cJ7_fill_53178 4 none [.ref kF_gain, .int 0] μ Q3 ∧ ∀ (μ2 : m2M), Q3 none μ2 → (κ 12 [.ref kF, .int x1, .int 0, .int 0, .null] [] μ2)) : κ 0 [.ref kF, .int x1, .null, .null, .null] [] μ := by
  have hB := h.b
  refine m2_aload_n hB dX1_sumOfPairs_0 rfl ?_
  refine m2_getR hB dX1_sumOfPairs_1 fl_X1_28 sh_kF (c1 := kF_gain) rfl ?_
  refine m2_iconst hB dX1_sumOfPairs_4 (v := 0) (by decide) ?_
  obtain ⟨Q3, hM4, k⟩ := k
  refine m2_invSv hB (as := [.ref kF_gain, .int 0]) dX1_sumOfPairs_5 ms_X1_53 rfl (Nat.le_of_ble_eq_true rfl) rfl hM4 (fun μ2 hq5 => ?_)
  replace k := k μ2 hq5
  refine m2_iconst hB dX1_sumOfPairs_8 (v := 0) (by decide) ?_
  refine m2_istore_n hB (ls' := [.ref kF, .int x1, .int 0, .null, .null]) dX1_sumOfPairs_9 rfl (by decide) rfl ?_
  refine m2_iconst hB dX1_sumOfPairs_10 (v := 0) (by decide) ?_
  refine m2_istore_n hB (ls' := [.ref kF, .int x1, .int 0, .int 0, .null]) dX1_sumOfPairs_11 rfl (by decide) rfl ?_
  exact k
set_option maxRecDepth 100000 in
set_option maxHeartbeats 4000000 in
theorem B_X1_sumOfPairs_12 {κ : Nat → List Value → List Value → m2M → Prop} {D : Nat} {Q : Option Value → m2M → Prop} (h : m2_RL κ cX1_sumOfPairs RX1 5 D (some .int) Q) {v1 : Int32} {v2 : Int32} {v3 : Int32} {μ : m2M} (k : (v1 ≤ v3 → Q (some (.int v2)) μ) ∧ (¬ v1 ≤ v3 → κ 20 [.ref kF, .int v1, .int v2, .int v3, .int 0] [] μ)) : κ 12 [.ref kF, .int v1, .int v2, .int v3, .null] [] μ := by
  have hB := h.b
  refine m2_iload_n hB dX1_sumOfPairs_12 rfl ?_
  refine m2_iload_n hB dX1_sumOfPairs_13 rfl ?_
  refine m2_icmp_ge hB dX1_sumOfPairs_14 (tgt := 68) (by decide) (fun q1 : v1 ≤ v3 => ?_) (fun q1 : ¬ v1 ≤ v3 => ?_)
  · replace k := k.1 q1
    refine m2_iload_n hB dX1_sumOfPairs_68 rfl ?_
    exact m2_iret h dX1_sumOfPairs_69 k
  · replace k := k.2 q1
    refine m2_iconst hB dX1_sumOfPairs_17 (v := 0) (by decide) ?_
    refine m2_istore hB (ls' := [.ref kF, .int v1, .int v2, .int v3, .int 0]) dX1_sumOfPairs_18 (by decide) rfl ?_
    exact k
set_option maxRecDepth 100000 in
set_option maxHeartbeats 4000000 in
theorem B_X1_sumOfPairs_20 {κ : Nat → List Value → List Value → m2M → Prop} {D : Nat} {Q : Option Value → m2M → Prop} (h : m2_RL κ cX1_sumOfPairs RX1 5 (D + 1) (some .int) Q) {v1 : Int32} {v2 : Int32} {v3 : Int32} {v4 : Int32} {μ : m2M} (k : (v1 ≤ v4 → κ 12 [.ref kF, .int v1, .int v2, .int (v3 + 1), .null] [] μ) ∧ (¬ v1 ≤ v4 → (v3 = v4 → κ 20 [.ref kF, .int v1, .int v2, .int v3, .int (v4 + 1)] [] μ) ∧ (¬ v3 = v4 → ∃ Q5 : Option Value → m2M → Prop, m2_MT D yX1_greatest cX1_greatest 6 (some .int) [.ref kF, .int v3, .int v4] μ Q5 ∧ ∀ (y3 : Int32) (μ4 : m2M), Q5 (some (.int y3)) μ4 → (∃ Q10 : Option Value → m2M → Prop, m2_MT D yX1_comingTo cX1_comingTo 6 (some .int) [.ref kF, .int v4] μ4 Q10 ∧ ∀ (y8 : Int32) (μ9 : m2M), Q10 (some (.int y8)) μ9 → (∃ Q15 : Option Value → m2M → Prop, m2_MT D yX1_addGains cX1_addGains 6 none [.ref kF, .int (μ4.1 kF 10), .int y8] μ9 Q15 ∧ ∀ (μ14 : m2M), Q15 none μ14 → (κ 20 [.ref kF, .int v1, .int (v2 + y3), .int v3, .int (v4 + 1)] [] μ14)))))) : κ 20 [.ref kF, .int v1, .int v2, .int v3, .int v4] [] μ := by
  have hB := h.b
  refine m2_iload hB dX1_sumOfPairs_20 rfl ?_
  refine m2_iload_n hB dX1_sumOfPairs_22 rfl ?_
  refine m2_icmp_ge hB dX1_sumOfPairs_23 (tgt := 62) (by decide) (fun q1 : v1 ≤ v4 => ?_) (fun q1 : ¬ v1 ≤ v4 => ?_)
  · replace k := k.1 q1
    refine m2_iinc hB (ls' := [.ref kF, .int v1, .int v2, .int (v3 + 1), .int v4]) (v := (v3 + 1)) dX1_sumOfPairs_62 rfl (by decide) rfl rfl ?_
    refine m2_goto hB dX1_sumOfPairs_65 (tgt := 12) (by decide) ?_
    exact m2_weak (ls' := [.ref kF, .int v1, .int v2, .int (v3 + 1), .null]) hB ⟨Or.inr rfl, Or.inr rfl, Or.inr rfl, Or.inr rfl, Or.inl rfl, trivial⟩ k
  · replace k := k.2 q1
    refine m2_iload_n hB dX1_sumOfPairs_26 rfl ?_
    refine m2_iload hB dX1_sumOfPairs_27 rfl ?_
    refine m2_icmp_eq hB dX1_sumOfPairs_29 (tgt := 56) (by decide) (fun q2 : v3 = v4 => ?_) (fun q2 : ¬ v3 = v4 => ?_)
    · replace k := k.1 q2
      refine m2_iinc hB (ls' := [.ref kF, .int v1, .int v2, .int v3, .int (v4 + 1)]) (v := (v4 + 1)) dX1_sumOfPairs_56 rfl (by decide) rfl rfl ?_
      refine m2_goto hB dX1_sumOfPairs_59 (tgt := 20) (by decide) ?_
      exact k
    · replace k := k.2 q2
      refine m2_iload_n hB dX1_sumOfPairs_32 rfl ?_
      refine m2_aload_n hB dX1_sumOfPairs_33 rfl ?_
      refine m2_iload_n hB dX1_sumOfPairs_34 rfl ?_
      refine m2_iload hB dX1_sumOfPairs_35 rfl ?_
      obtain ⟨Q5, hM6, k⟩ := k
      refine m2_invi hB (as := [.int v3, .int v4]) dX1_sumOfPairs_37 mv_X1_70 rfl sh_kF rfl (Nat.le_of_ble_eq_true rfl) rfl hM6 (fun y3 μ4 hq7 => ?_)
      replace k := k y3 μ4 hq7
      refine m2_iadd hB dX1_sumOfPairs_40 ?_
      refine m2_istore_n hB (ls' := [.ref kF, .int v1, .int (v2 + y3), .int v3, .int v4]) dX1_sumOfPairs_41 rfl (by decide) rfl ?_
      refine m2_aload_n hB dX1_sumOfPairs_42 rfl ?_
      refine m2_aload_n hB dX1_sumOfPairs_43 rfl ?_
      refine m2_getI hB dX1_sumOfPairs_44 fl_X1_73 sh_kF rfl ?_
      refine m2_aload_n hB dX1_sumOfPairs_47 rfl ?_
      refine m2_iload hB dX1_sumOfPairs_48 rfl ?_
      obtain ⟨Q10, hM11, k⟩ := k
      refine m2_invi hB (as := [.int v4]) dX1_sumOfPairs_50 mv_X1_76 rfl sh_kF rfl (Nat.le_of_ble_eq_true rfl) rfl hM11 (fun y8 μ9 hq12 => ?_)
      replace k := k y8 μ9 hq12
      obtain ⟨Q15, hM16, k⟩ := k
      refine m2_invv hB (as := [.int (μ4.1 kF 10), .int y8]) dX1_sumOfPairs_53 mv_X1_80 rfl sh_kF rfl (Nat.le_of_ble_eq_true rfl) rfl hM16 (fun μ14 hq17 => ?_)
      replace k := k μ14 hq17
      refine m2_iinc hB (ls' := [.ref kF, .int v1, .int (v2 + y3), .int v3, .int (v4 + 1)]) (v := (v4 + 1)) dX1_sumOfPairs_56 rfl (by decide) rfl rfl ?_
      refine m2_goto hB dX1_sumOfPairs_59 (tgt := 20) (by decide) ?_
      exact k
theorem dX1_addGains_0 : decode cX1_addGains 0 = .ok (.iconst 0, 1) := by decide +kernel
theorem dX1_addGains_1 : decode cX1_addGains 1 = .ok (.istore_n 3, 1) := by decide +kernel
theorem dX1_addGains_2 : decode cX1_addGains 2 = .ok (.iload_n 3, 1) := by decide +kernel
theorem dX1_addGains_3 : decode cX1_addGains 3 = .ok (.aload_n 0, 1) := by decide +kernel
theorem dX1_addGains_4 : decode cX1_addGains 4 = .ok (.getfield 46, 3) := by decide +kernel
theorem dX1_addGains_7 : decode cX1_addGains 7 = .ok (.if_icmp .ge 111, 3) := by decide +kernel
theorem dX1_addGains_10 : decode cX1_addGains 10 = .ok (.iload_n 1, 1) := by decide +kernel
theorem dX1_addGains_11 : decode cX1_addGains 11 = .ok (.aload_n 0, 1) := by decide +kernel
theorem dX1_addGains_12 : decode cX1_addGains 12 = .ok (.getfield 9, 3) := by decide +kernel
theorem dX1_addGains_15 : decode cX1_addGains 15 = .ok (.iload_n 3, 1) := by decide +kernel
theorem dX1_addGains_16 : decode cX1_addGains 16 = .ok (.iaload, 1) := by decide +kernel
theorem dX1_addGains_17 : decode cX1_addGains 17 = .ok (.invokestatic 84, 3) := by decide +kernel
theorem dX1_addGains_20 : decode cX1_addGains 20 = .ok (.ifCond .eq 20, 3) := by decide +kernel
theorem dX1_addGains_23 : decode cX1_addGains 23 = .ok (.iload_n 2, 1) := by decide +kernel
theorem dX1_addGains_24 : decode cX1_addGains 24 = .ok (.aload_n 0, 1) := by decide +kernel
theorem dX1_addGains_25 : decode cX1_addGains 25 = .ok (.getfield 15, 3) := by decide +kernel
theorem dX1_addGains_28 : decode cX1_addGains 28 = .ok (.iload_n 3, 1) := by decide +kernel
theorem dX1_addGains_29 : decode cX1_addGains 29 = .ok (.iaload, 1) := by decide +kernel
theorem dX1_addGains_30 : decode cX1_addGains 30 = .ok (.invokestatic 84, 3) := by decide +kernel
theorem dX1_addGains_33 : decode cX1_addGains 33 = .ok (.ifCond .eq 7, 3) := by decide +kernel
theorem dX1_addGains_36 : decode cX1_addGains 36 = .ok (.iconst 1, 1) := by decide +kernel
theorem dX1_addGains_37 : decode cX1_addGains 37 = .ok (.goto 4, 3) := by decide +kernel
theorem dX1_addGains_40 : decode cX1_addGains 40 = .ok (.iconst 0, 1) := by decide +kernel
theorem dX1_addGains_41 : decode cX1_addGains 41 = .ok (.istore 4, 2) := by decide +kernel
theorem dX1_addGains_43 : decode cX1_addGains 43 = .ok (.aload_n 0, 1) := by decide +kernel
theorem dX1_addGains_44 : decode cX1_addGains 44 = .ok (.getfield 18, 3) := by decide +kernel
theorem dX1_addGains_47 : decode cX1_addGains 47 = .ok (.iload_n 3, 1) := by decide +kernel
theorem dX1_addGains_48 : decode cX1_addGains 48 = .ok (.baload, 1) := by decide +kernel
theorem dX1_addGains_49 : decode cX1_addGains 49 = .ok (.ifCond .ne 33, 3) := by decide +kernel
theorem dX1_addGains_52 : decode cX1_addGains 52 = .ok (.iload_n 1, 1) := by decide +kernel
theorem dX1_addGains_53 : decode cX1_addGains 53 = .ok (.aload_n 0, 1) := by decide +kernel
theorem dX1_addGains_54 : decode cX1_addGains 54 = .ok (.getfield 15, 3) := by decide +kernel
theorem dX1_addGains_57 : decode cX1_addGains 57 = .ok (.iload_n 3, 1) := by decide +kernel
theorem dX1_addGains_58 : decode cX1_addGains 58 = .ok (.iaload, 1) := by decide +kernel
theorem dX1_addGains_59 : decode cX1_addGains 59 = .ok (.invokestatic 84, 3) := by decide +kernel
theorem dX1_addGains_62 : decode cX1_addGains 62 = .ok (.ifCond .eq 20, 3) := by decide +kernel
theorem dX1_addGains_65 : decode cX1_addGains 65 = .ok (.iload_n 2, 1) := by decide +kernel
theorem dX1_addGains_66 : decode cX1_addGains 66 = .ok (.aload_n 0, 1) := by decide +kernel
theorem dX1_addGains_67 : decode cX1_addGains 67 = .ok (.getfield 9, 3) := by decide +kernel
theorem dX1_addGains_70 : decode cX1_addGains 70 = .ok (.iload_n 3, 1) := by decide +kernel
theorem dX1_addGains_71 : decode cX1_addGains 71 = .ok (.iaload, 1) := by decide +kernel
theorem dX1_addGains_72 : decode cX1_addGains 72 = .ok (.invokestatic 84, 3) := by decide +kernel
theorem dX1_addGains_75 : decode cX1_addGains 75 = .ok (.ifCond .eq 7, 3) := by decide +kernel
theorem dX1_addGains_78 : decode cX1_addGains 78 = .ok (.iconst 1, 1) := by decide +kernel
theorem dX1_addGains_79 : decode cX1_addGains 79 = .ok (.goto 4, 3) := by decide +kernel
theorem dX1_addGains_82 : decode cX1_addGains 82 = .ok (.iconst 0, 1) := by decide +kernel
theorem dX1_addGains_83 : decode cX1_addGains 83 = .ok (.istore 5, 2) := by decide +kernel
theorem dX1_addGains_85 : decode cX1_addGains 85 = .ok (.aload_n 0, 1) := by decide +kernel
theorem dX1_addGains_86 : decode cX1_addGains 86 = .ok (.getfield 28, 3) := by decide +kernel
theorem dX1_addGains_89 : decode cX1_addGains 89 = .ok (.iload_n 3, 1) := by decide +kernel
theorem dX1_addGains_90 : decode cX1_addGains 90 = .ok (.dup2, 1) := by decide +kernel
theorem dX1_addGains_91 : decode cX1_addGains 91 = .ok (.iaload, 1) := by decide +kernel
theorem dX1_addGains_92 : decode cX1_addGains 92 = .ok (.iload 4, 2) := by decide +kernel
theorem dX1_addGains_94 : decode cX1_addGains 94 = .ok (.ifCond .ne 8, 3) := by decide +kernel
theorem dX1_addGains_97 : decode cX1_addGains 97 = .ok (.iload 5, 2) := by decide +kernel
theorem dX1_addGains_99 : decode cX1_addGains 99 = .ok (.ifCond .eq 7, 3) := by decide +kernel
theorem dX1_addGains_102 : decode cX1_addGains 102 = .ok (.iconst 1, 1) := by decide +kernel
theorem dX1_addGains_103 : decode cX1_addGains 103 = .ok (.goto 4, 3) := by decide +kernel
theorem dX1_addGains_106 : decode cX1_addGains 106 = .ok (.iconst 0, 1) := by decide +kernel
theorem dX1_addGains_107 : decode cX1_addGains 107 = .ok (.invokestatic 88, 3) := by decide +kernel
theorem dX1_addGains_110 : decode cX1_addGains 110 = .ok (.iadd, 1) := by decide +kernel
theorem dX1_addGains_111 : decode cX1_addGains 111 = .ok (.iastore, 1) := by decide +kernel
theorem dX1_addGains_112 : decode cX1_addGains 112 = .ok (.iinc 3 1, 3) := by decide +kernel
theorem dX1_addGains_115 : decode cX1_addGains 115 = .ok (.goto (-113), 3) := by decide +kernel
theorem dX1_addGains_118 : decode cX1_addGains 118 = .ok (.return_, 1) := by decide +kernel
set_option maxRecDepth 100000 in
set_option maxHeartbeats 4000000 in
theorem B_X1_addGains_0 {κ : Nat → List Value → List Value → m2M → Prop} {D : Nat} {Q : Option Value → m2M → Prop} (h : m2_RL κ cX1_addGains RX1 6 D none Q) {x1 : Int32} {x2 : Int32} {μ : m2M} (k : κ 2 [.ref kF, .int x1, .int x2, .int 0, .null, .null] [] μ) : κ 0 [.ref kF, .int x1, .int x2, .null, .null, .null] [] μ := by
  have hB := h.b
  refine m2_iconst hB dX1_addGains_0 (v := 0) (by decide) ?_
  refine m2_istore_n hB (ls' := [.ref kF, .int x1, .int x2, .int 0, .null, .null]) dX1_addGains_1 rfl (by decide) rfl ?_
  exact k
set_option maxRecDepth 100000 in
set_option maxHeartbeats 4000000 in
theorem B_X1_addGains_2 {κ : Nat → List Value → List Value → m2M → Prop} {D : Nat} {Q : Option Value → m2M → Prop} (h : m2_RL κ cX1_addGains RX1 6 (D + 1) none Q) (hD : 0 ≤ D) {v1 : Int32} {v2 : Int32} {v3 : Int32} {μ : m2M} (k : ((μ.1 kF 7) ≤ v3 → Q none μ) ∧ (¬ (μ.1 kF 7) ≤ v3 → (vp_in v3 21) ∧ (((fX11_hasBit v1 (μ.1 kF_a (v3).toNatClampNeg)) = 1 → ((fX11_hasBit v2 (μ.1 kF_b (v3).toNatClampNeg)) = 1 → (¬ (μ.1 kF_oneWay (v3).toNatClampNeg) = 0 → κ 82 [.ref kF, .int v1, .int v2, .int v3, .int 1, .null] [] μ) ∧ ((μ.1 kF_oneWay (v3).toNatClampNeg) = 0 → ((fX11_hasBit v1 (μ.1 kF_b (v3).toNatClampNeg)) = 1 → ((fX11_hasBit v2 (μ.1 kF_a (v3).toNatClampNeg)) = 1 → (vp_in v3 20) ∧ (κ 2 [.ref kF, .int v1, .int v2, .int (v3 + 1), .null, .null] [] (m2_si μ kF_gain (v3).toNatClampNeg ((μ.1 kF_gain (v3).toNatClampNeg) + (if 1 = 0 then 0 else 1 : Int32))))) ∧ (¬ (fX11_hasBit v2 (μ.1 kF_a (v3).toNatClampNeg)) = 1 → κ 82 [.ref kF, .int v1, .int v2, .int v3, .int 1, .null] [] μ)) ∧ (¬ (fX11_hasBit v1 (μ.1 kF_b (v3).toNatClampNeg)) = 1 → κ 82 [.ref kF, .int v1, .int v2, .int v3, .int 1, .null] [] μ))) ∧ (¬ (fX11_hasBit v2 (μ.1 kF_b (v3).toNatClampNeg)) = 1 → κ 40 [.ref kF, .int v1, .int v2, .int v3, .null, .null] [] μ)) ∧ (¬ (fX11_hasBit v1 (μ.1 kF_a (v3).toNatClampNeg)) = 1 → κ 40 [.ref kF, .int v1, .int v2, .int v3, .null, .null] [] μ)))) : κ 2 [.ref kF, .int v1, .int v2, .int v3, .null, .null] [] μ := by
  have hB := h.b
  refine m2_iload_n hB dX1_addGains_2 rfl ?_
  refine m2_aload_n hB dX1_addGains_3 rfl ?_
  refine m2_getI hB dX1_addGains_4 fl_X1_46 sh_kF rfl ?_
  refine m2_icmp_ge hB dX1_addGains_7 (tgt := 118) (by decide) (fun q2 : (μ.1 kF 7) ≤ v3 => ?_) (fun q2 : ¬ (μ.1 kF 7) ≤ v3 => ?_)
  · replace k := k.1 q2
    exact m2_vret h dX1_addGains_118 k
  · replace k := k.2 q2
    refine m2_iload_n hB dX1_addGains_10 rfl ?_
    refine m2_aload_n hB dX1_addGains_11 rfl ?_
    refine m2_getR hB dX1_addGains_12 fl_X1_9 sh_kF (c1 := kF_a) rfl ?_
    refine m2_iload_n hB dX1_addGains_15 rfl ?_
    obtain ⟨hi3, k⟩ := k
    refine m2_iald hB dX1_addGains_16 sh_kF_a hi3 ?_
    refine m2_invNz hB (as := [.int v1, .int (μ.1 kF_a (v3).toNatClampNeg)]) dX1_addGains_17 mn_X1_84 rfl (Nat.le_of_ble_eq_true rfl) rfl (P_X11_hasBit (by omega) (v1) ((μ.1 kF_a (v3).toNatClampNeg)) _ ) (fun y4 μ5 hq6 => ?_)
    obtain ⟨⟨⟩, hq6⟩ := hq6
    subst μ5
    show κ 20 [.ref kF, .int v1, .int v2, .int v3, .null, .null] [.int (if (fX11_hasBit v1 (μ.1 kF_a (v3).toNatClampNeg)) = 1 then 1 else 0 : Int32)] μ
    by_cases q7 : (fX11_hasBit v1 (μ.1 kF_a (v3).toNatClampNeg)) = 1
    · rw [if_pos q7]
      replace k := k.1 q7
      refine m2_if_eq hB dX1_addGains_20 (tgt := 40) (by decide) (fun q => absurd q (by decide)) (fun _ => ?_)
      refine m2_iload_n hB dX1_addGains_23 rfl ?_
      refine m2_aload_n hB dX1_addGains_24 rfl ?_
      refine m2_getR hB dX1_addGains_25 fl_X1_15 sh_kF (c1 := kF_b) rfl ?_
      refine m2_iload_n hB dX1_addGains_28 rfl ?_
      have hi8 := hi3
      refine m2_iald hB dX1_addGains_29 sh_kF_b hi8 ?_
      refine m2_invNz hB (as := [.int v2, .int (μ.1 kF_b (v3).toNatClampNeg)]) dX1_addGains_30 mn_X1_84 rfl (Nat.le_of_ble_eq_true rfl) rfl (P_X11_hasBit (by omega) (v2) ((μ.1 kF_b (v3).toNatClampNeg)) _ ) (fun y9 μ10 hq11 => ?_)
      obtain ⟨⟨⟩, hq11⟩ := hq11
      subst μ10
      show κ 33 [.ref kF, .int v1, .int v2, .int v3, .null, .null] [.int (if (fX11_hasBit v2 (μ.1 kF_b (v3).toNatClampNeg)) = 1 then 1 else 0 : Int32)] μ
      by_cases q12 : (fX11_hasBit v2 (μ.1 kF_b (v3).toNatClampNeg)) = 1
      · rw [if_pos q12]
        replace k := k.1 q12
        refine m2_if_eq hB dX1_addGains_33 (tgt := 40) (by decide) (fun q => absurd q (by decide)) (fun _ => ?_)
        refine m2_iconst hB dX1_addGains_36 (v := 1) (by decide) ?_
        refine m2_goto hB dX1_addGains_37 (tgt := 41) (by decide) ?_
        refine m2_istore hB (ls' := [.ref kF, .int v1, .int v2, .int v3, .int 1, .null]) dX1_addGains_41 (by decide) rfl ?_
        refine m2_aload_n hB dX1_addGains_43 rfl ?_
        refine m2_getR hB dX1_addGains_44 fl_X1_18 sh_kF (c1 := kF_oneWay) rfl ?_
        refine m2_iload_n hB dX1_addGains_47 rfl ?_
        have hi13 := hi3
        refine m2_zald hB dX1_addGains_48 sh_kF_oneWay hi13 ?_
        refine m2_if_ne hB dX1_addGains_49 (tgt := 82) (by decide) (fun q14 : ¬ (μ.1 kF_oneWay (v3).toNatClampNeg) = 0 => ?_) (fun q14 : (μ.1 kF_oneWay (v3).toNatClampNeg) = 0 => ?_)
        · replace k := k.1 q14
          exact k
        · replace k := k.2 q14
          refine m2_iload_n hB dX1_addGains_52 rfl ?_
          refine m2_aload_n hB dX1_addGains_53 rfl ?_
          refine m2_getR hB dX1_addGains_54 fl_X1_15 sh_kF (c1 := kF_b) rfl ?_
          refine m2_iload_n hB dX1_addGains_57 rfl ?_
          have hi15 := hi3
          refine m2_iald hB dX1_addGains_58 sh_kF_b hi15 ?_
          refine m2_invNz hB (as := [.int v1, .int (μ.1 kF_b (v3).toNatClampNeg)]) dX1_addGains_59 mn_X1_84 rfl (Nat.le_of_ble_eq_true rfl) rfl (P_X11_hasBit (by omega) (v1) ((μ.1 kF_b (v3).toNatClampNeg)) _ ) (fun y16 μ17 hq18 => ?_)
          obtain ⟨⟨⟩, hq18⟩ := hq18
          subst μ17
          show κ 62 [.ref kF, .int v1, .int v2, .int v3, .int 1, .null] [.int (if (fX11_hasBit v1 (μ.1 kF_b (v3).toNatClampNeg)) = 1 then 1 else 0 : Int32)] μ
          by_cases q19 : (fX11_hasBit v1 (μ.1 kF_b (v3).toNatClampNeg)) = 1
          · rw [if_pos q19]
            replace k := k.1 q19
            refine m2_if_eq hB dX1_addGains_62 (tgt := 82) (by decide) (fun q => absurd q (by decide)) (fun _ => ?_)
            refine m2_iload_n hB dX1_addGains_65 rfl ?_
            refine m2_aload_n hB dX1_addGains_66 rfl ?_
            refine m2_getR hB dX1_addGains_67 fl_X1_9 sh_kF (c1 := kF_a) rfl ?_
            refine m2_iload_n hB dX1_addGains_70 rfl ?_
            have hi20 := hi3
            refine m2_iald hB dX1_addGains_71 sh_kF_a hi20 ?_
            refine m2_invNz hB (as := [.int v2, .int (μ.1 kF_a (v3).toNatClampNeg)]) dX1_addGains_72 mn_X1_84 rfl (Nat.le_of_ble_eq_true rfl) rfl (P_X11_hasBit (by omega) (v2) ((μ.1 kF_a (v3).toNatClampNeg)) _ ) (fun y21 μ22 hq23 => ?_)
            obtain ⟨⟨⟩, hq23⟩ := hq23
            subst μ22
            show κ 75 [.ref kF, .int v1, .int v2, .int v3, .int 1, .null] [.int (if (fX11_hasBit v2 (μ.1 kF_a (v3).toNatClampNeg)) = 1 then 1 else 0 : Int32)] μ
            by_cases q24 : (fX11_hasBit v2 (μ.1 kF_a (v3).toNatClampNeg)) = 1
            · rw [if_pos q24]
              replace k := k.1 q24
              refine m2_if_eq hB dX1_addGains_75 (tgt := 82) (by decide) (fun q => absurd q (by decide)) (fun _ => ?_)
              refine m2_iconst hB dX1_addGains_78 (v := 1) (by decide) ?_
              refine m2_goto hB dX1_addGains_79 (tgt := 83) (by decide) ?_
              refine m2_istore hB (ls' := [.ref kF, .int v1, .int v2, .int v3, .int 1, .int 1]) dX1_addGains_83 (by decide) rfl ?_
              refine m2_aload_n hB dX1_addGains_85 rfl ?_
              refine m2_getR hB dX1_addGains_86 fl_X1_28 sh_kF (c1 := kF_gain) rfl ?_
              refine m2_iload_n hB dX1_addGains_89 rfl ?_
              refine m2_dup2 hB dX1_addGains_90 rfl rfl ?_
              obtain ⟨hi25, k⟩ := k
              refine m2_iald hB dX1_addGains_91 sh_kF_gain hi25 ?_
              refine m2_iload hB dX1_addGains_92 rfl ?_
              refine m2_if_ne hB dX1_addGains_94 (tgt := 102) (by decide) (fun _ => ?_) (fun q => absurd q (by decide))
              refine m2_iconst hB dX1_addGains_102 (v := 1) (by decide) ?_
              refine m2_goto hB dX1_addGains_103 (tgt := 107) (by decide) ?_
              refine m2_invNi hB (as := [.int 1]) dX1_addGains_107 mn_X1_88 rfl (Nat.le_of_ble_eq_true rfl) rfl (P_X11_asNumber (by omega) (1) _ ) (fun y26 μ27 hq28 => ?_)
              obtain ⟨⟨⟩, hq28⟩ := hq28
              subst μ27
              refine m2_iadd hB dX1_addGains_110 ?_
              have hi29 := hi25
              refine m2_iast hB dX1_addGains_111 sh_kF_gain hi29 ?_
              refine m2_iinc hB (ls' := [.ref kF, .int v1, .int v2, .int (v3 + 1), .int 1, .int 1]) (v := (v3 + 1)) dX1_addGains_112 rfl (by decide) rfl rfl ?_
              refine m2_goto hB dX1_addGains_115 (tgt := 2) (by decide) ?_
              exact m2_weak (ls' := [.ref kF, .int v1, .int v2, .int (v3 + 1), .null, .null]) hB ⟨Or.inr rfl, Or.inr rfl, Or.inr rfl, Or.inr rfl, Or.inl rfl, Or.inl rfl, trivial⟩ k
            · rw [if_neg q24]
              replace k := k.2 q24
              refine m2_if_eq hB dX1_addGains_75 (tgt := 82) (by decide) (fun _ => ?_) (fun q => absurd q (by decide))
              exact k
          · rw [if_neg q19]
            replace k := k.2 q19
            refine m2_if_eq hB dX1_addGains_62 (tgt := 82) (by decide) (fun _ => ?_) (fun q => absurd q (by decide))
            exact k
      · rw [if_neg q12]
        replace k := k.2 q12
        refine m2_if_eq hB dX1_addGains_33 (tgt := 40) (by decide) (fun _ => ?_) (fun q => absurd q (by decide))
        exact k
    · rw [if_neg q7]
      replace k := k.2 q7
      refine m2_if_eq hB dX1_addGains_20 (tgt := 40) (by decide) (fun _ => ?_) (fun q => absurd q (by decide))
      exact k
set_option maxRecDepth 100000 in
set_option maxHeartbeats 4000000 in
theorem B_X1_addGains_40 {κ : Nat → List Value → List Value → m2M → Prop} {D : Nat} {Q : Option Value → m2M → Prop} (h : m2_RL κ cX1_addGains RX1 6 (D + 1) none Q) (hD : 0 ≤ D) {v1 : Int32} {v2 : Int32} {v3 : Int32} {μ : m2M} (k : (vp_in v3 21) ∧ ((¬ (μ.1 kF_oneWay (v3).toNatClampNeg) = 0 → κ 82 [.ref kF, .int v1, .int v2, .int v3, .int 0, .null] [] μ) ∧ ((μ.1 kF_oneWay (v3).toNatClampNeg) = 0 → ((fX11_hasBit v1 (μ.1 kF_b (v3).toNatClampNeg)) = 1 → ((fX11_hasBit v2 (μ.1 kF_a (v3).toNatClampNeg)) = 1 → (vp_in v3 20) ∧ (κ 2 [.ref kF, .int v1, .int v2, .int (v3 + 1), .null, .null] [] (m2_si μ kF_gain (v3).toNatClampNeg ((μ.1 kF_gain (v3).toNatClampNeg) + (if 1 = 0 then 0 else 1 : Int32))))) ∧ (¬ (fX11_hasBit v2 (μ.1 kF_a (v3).toNatClampNeg)) = 1 → κ 82 [.ref kF, .int v1, .int v2, .int v3, .int 0, .null] [] μ)) ∧ (¬ (fX11_hasBit v1 (μ.1 kF_b (v3).toNatClampNeg)) = 1 → κ 82 [.ref kF, .int v1, .int v2, .int v3, .int 0, .null] [] μ)))) : κ 40 [.ref kF, .int v1, .int v2, .int v3, .null, .null] [] μ := by
  have hB := h.b
  refine m2_iconst hB dX1_addGains_40 (v := 0) (by decide) ?_
  refine m2_istore hB (ls' := [.ref kF, .int v1, .int v2, .int v3, .int 0, .null]) dX1_addGains_41 (by decide) rfl ?_
  refine m2_aload_n hB dX1_addGains_43 rfl ?_
  refine m2_getR hB dX1_addGains_44 fl_X1_18 sh_kF (c1 := kF_oneWay) rfl ?_
  refine m2_iload_n hB dX1_addGains_47 rfl ?_
  obtain ⟨hi1, k⟩ := k
  refine m2_zald hB dX1_addGains_48 sh_kF_oneWay hi1 ?_
  refine m2_if_ne hB dX1_addGains_49 (tgt := 82) (by decide) (fun q2 : ¬ (μ.1 kF_oneWay (v3).toNatClampNeg) = 0 => ?_) (fun q2 : (μ.1 kF_oneWay (v3).toNatClampNeg) = 0 => ?_)
  · replace k := k.1 q2
    exact k
  · replace k := k.2 q2
    refine m2_iload_n hB dX1_addGains_52 rfl ?_
    refine m2_aload_n hB dX1_addGains_53 rfl ?_
    refine m2_getR hB dX1_addGains_54 fl_X1_15 sh_kF (c1 := kF_b) rfl ?_
    refine m2_iload_n hB dX1_addGains_57 rfl ?_
    have hi3 := hi1
    refine m2_iald hB dX1_addGains_58 sh_kF_b hi3 ?_
    refine m2_invNz hB (as := [.int v1, .int (μ.1 kF_b (v3).toNatClampNeg)]) dX1_addGains_59 mn_X1_84 rfl (Nat.le_of_ble_eq_true rfl) rfl (P_X11_hasBit (by omega) (v1) ((μ.1 kF_b (v3).toNatClampNeg)) _ ) (fun y4 μ5 hq6 => ?_)
    obtain ⟨⟨⟩, hq6⟩ := hq6
    subst μ5
    show κ 62 [.ref kF, .int v1, .int v2, .int v3, .int 0, .null] [.int (if (fX11_hasBit v1 (μ.1 kF_b (v3).toNatClampNeg)) = 1 then 1 else 0 : Int32)] μ
    by_cases q7 : (fX11_hasBit v1 (μ.1 kF_b (v3).toNatClampNeg)) = 1
    · rw [if_pos q7]
      replace k := k.1 q7
      refine m2_if_eq hB dX1_addGains_62 (tgt := 82) (by decide) (fun q => absurd q (by decide)) (fun _ => ?_)
      refine m2_iload_n hB dX1_addGains_65 rfl ?_
      refine m2_aload_n hB dX1_addGains_66 rfl ?_
      refine m2_getR hB dX1_addGains_67 fl_X1_9 sh_kF (c1 := kF_a) rfl ?_
      refine m2_iload_n hB dX1_addGains_70 rfl ?_
      have hi8 := hi1
      refine m2_iald hB dX1_addGains_71 sh_kF_a hi8 ?_
      refine m2_invNz hB (as := [.int v2, .int (μ.1 kF_a (v3).toNatClampNeg)]) dX1_addGains_72 mn_X1_84 rfl (Nat.le_of_ble_eq_true rfl) rfl (P_X11_hasBit (by omega) (v2) ((μ.1 kF_a (v3).toNatClampNeg)) _ ) (fun y9 μ10 hq11 => ?_)
      obtain ⟨⟨⟩, hq11⟩ := hq11
      subst μ10
      show κ 75 [.ref kF, .int v1, .int v2, .int v3, .int 0, .null] [.int (if (fX11_hasBit v2 (μ.1 kF_a (v3).toNatClampNeg)) = 1 then 1 else 0 : Int32)] μ
      by_cases q12 : (fX11_hasBit v2 (μ.1 kF_a (v3).toNatClampNeg)) = 1
      · rw [if_pos q12]
        replace k := k.1 q12
        refine m2_if_eq hB dX1_addGains_75 (tgt := 82) (by decide) (fun q => absurd q (by decide)) (fun _ => ?_)
        refine m2_iconst hB dX1_addGains_78 (v := 1) (by decide) ?_
        refine m2_goto hB dX1_addGains_79 (tgt := 83) (by decide) ?_
        refine m2_istore hB (ls' := [.ref kF, .int v1, .int v2, .int v3, .int 0, .int 1]) dX1_addGains_83 (by decide) rfl ?_
        refine m2_aload_n hB dX1_addGains_85 rfl ?_
        refine m2_getR hB dX1_addGains_86 fl_X1_28 sh_kF (c1 := kF_gain) rfl ?_
        refine m2_iload_n hB dX1_addGains_89 rfl ?_
        refine m2_dup2 hB dX1_addGains_90 rfl rfl ?_
        obtain ⟨hi13, k⟩ := k
        refine m2_iald hB dX1_addGains_91 sh_kF_gain hi13 ?_
        refine m2_iload hB dX1_addGains_92 rfl ?_
        refine m2_if_ne hB dX1_addGains_94 (tgt := 102) (by decide) (fun q => absurd q (by decide)) (fun _ => ?_)
        refine m2_iload hB dX1_addGains_97 rfl ?_
        refine m2_if_eq hB dX1_addGains_99 (tgt := 106) (by decide) (fun q => absurd q (by decide)) (fun _ => ?_)
        refine m2_iconst hB dX1_addGains_102 (v := 1) (by decide) ?_
        refine m2_goto hB dX1_addGains_103 (tgt := 107) (by decide) ?_
        refine m2_invNi hB (as := [.int 1]) dX1_addGains_107 mn_X1_88 rfl (Nat.le_of_ble_eq_true rfl) rfl (P_X11_asNumber (by omega) (1) _ ) (fun y14 μ15 hq16 => ?_)
        obtain ⟨⟨⟩, hq16⟩ := hq16
        subst μ15
        refine m2_iadd hB dX1_addGains_110 ?_
        have hi17 := hi13
        refine m2_iast hB dX1_addGains_111 sh_kF_gain hi17 ?_
        refine m2_iinc hB (ls' := [.ref kF, .int v1, .int v2, .int (v3 + 1), .int 0, .int 1]) (v := (v3 + 1)) dX1_addGains_112 rfl (by decide) rfl rfl ?_
        refine m2_goto hB dX1_addGains_115 (tgt := 2) (by decide) ?_
        exact m2_weak (ls' := [.ref kF, .int v1, .int v2, .int (v3 + 1), .null, .null]) hB ⟨Or.inr rfl, Or.inr rfl, Or.inr rfl, Or.inr rfl, Or.inl rfl, Or.inl rfl, trivial⟩ k
      · rw [if_neg q12]
        replace k := k.2 q12
        refine m2_if_eq hB dX1_addGains_75 (tgt := 82) (by decide) (fun _ => ?_) (fun q => absurd q (by decide))
        exact k
    · rw [if_neg q7]
      replace k := k.2 q7
      refine m2_if_eq hB dX1_addGains_62 (tgt := 82) (by decide) (fun _ => ?_) (fun q => absurd q (by decide))
      exact k
set_option maxRecDepth 100000 in
set_option maxHeartbeats 4000000 in
theorem B_X1_addGains_82 {κ : Nat → List Value → List Value → m2M → Prop} {D : Nat} {Q : Option Value → m2M → Prop} (h : m2_RL κ cX1_addGains RX1 6 (D + 1) none Q) (hD : 0 ≤ D) {v1 : Int32} {v2 : Int32} {v3 : Int32} {v4 : Int32} {μ : m2M} (k : (vp_in v3 20) ∧ ((¬ v4 = 0 → κ 2 [.ref kF, .int v1, .int v2, .int (v3 + 1), .null, .null] [] (m2_si μ kF_gain (v3).toNatClampNeg ((μ.1 kF_gain (v3).toNatClampNeg) + (if 1 = 0 then 0 else 1 : Int32)))) ∧ (v4 = 0 → κ 2 [.ref kF, .int v1, .int v2, .int (v3 + 1), .null, .null] [] (m2_si μ kF_gain (v3).toNatClampNeg ((μ.1 kF_gain (v3).toNatClampNeg) + (if 0 = 0 then 0 else 1 : Int32)))))) : κ 82 [.ref kF, .int v1, .int v2, .int v3, .int v4, .null] [] μ := by
  have hB := h.b
  refine m2_iconst hB dX1_addGains_82 (v := 0) (by decide) ?_
  refine m2_istore hB (ls' := [.ref kF, .int v1, .int v2, .int v3, .int v4, .int 0]) dX1_addGains_83 (by decide) rfl ?_
  refine m2_aload_n hB dX1_addGains_85 rfl ?_
  refine m2_getR hB dX1_addGains_86 fl_X1_28 sh_kF (c1 := kF_gain) rfl ?_
  refine m2_iload_n hB dX1_addGains_89 rfl ?_
  refine m2_dup2 hB dX1_addGains_90 rfl rfl ?_
  obtain ⟨hi1, k⟩ := k
  refine m2_iald hB dX1_addGains_91 sh_kF_gain hi1 ?_
  refine m2_iload hB dX1_addGains_92 rfl ?_
  refine m2_if_ne hB dX1_addGains_94 (tgt := 102) (by decide) (fun q2 : ¬ v4 = 0 => ?_) (fun q2 : v4 = 0 => ?_)
  · replace k := k.1 q2
    refine m2_iconst hB dX1_addGains_102 (v := 1) (by decide) ?_
    refine m2_goto hB dX1_addGains_103 (tgt := 107) (by decide) ?_
    refine m2_invNi hB (as := [.int 1]) dX1_addGains_107 mn_X1_88 rfl (Nat.le_of_ble_eq_true rfl) rfl (P_X11_asNumber (by omega) (1) _ ) (fun y3 μ4 hq5 => ?_)
    obtain ⟨⟨⟩, hq5⟩ := hq5
    subst μ4
    refine m2_iadd hB dX1_addGains_110 ?_
    have hi6 := hi1
    refine m2_iast hB dX1_addGains_111 sh_kF_gain hi6 ?_
    refine m2_iinc hB (ls' := [.ref kF, .int v1, .int v2, .int (v3 + 1), .int v4, .int 0]) (v := (v3 + 1)) dX1_addGains_112 rfl (by decide) rfl rfl ?_
    refine m2_goto hB dX1_addGains_115 (tgt := 2) (by decide) ?_
    exact m2_weak (ls' := [.ref kF, .int v1, .int v2, .int (v3 + 1), .null, .null]) hB ⟨Or.inr rfl, Or.inr rfl, Or.inr rfl, Or.inr rfl, Or.inl rfl, Or.inl rfl, trivial⟩ k
  · replace k := k.2 q2
    refine m2_iload hB dX1_addGains_97 rfl ?_
    refine m2_if_eq hB dX1_addGains_99 (tgt := 106) (by decide) (fun _ => ?_) (fun q => absurd q (by decide))
    refine m2_iconst hB dX1_addGains_106 (v := 0) (by decide) ?_
    refine m2_invNi hB (as := [.int 0]) dX1_addGains_107 mn_X1_88 rfl (Nat.le_of_ble_eq_true rfl) rfl (P_X11_asNumber (by omega) (0) _ ) (fun y7 μ8 hq9 => ?_)
    obtain ⟨⟨⟩, hq9⟩ := hq9
    subst μ8
    refine m2_iadd hB dX1_addGains_110 ?_
    have hi10 := hi1
    refine m2_iast hB dX1_addGains_111 sh_kF_gain hi10 ?_
    refine m2_iinc hB (ls' := [.ref kF, .int v1, .int v2, .int (v3 + 1), .int v4, .int 0]) (v := (v3 + 1)) dX1_addGains_112 rfl (by decide) rfl rfl ?_
    refine m2_goto hB dX1_addGains_115 (tgt := 2) (by decide) ?_
    exact m2_weak (ls' := [.ref kF, .int v1, .int v2, .int (v3 + 1), .null, .null]) hB ⟨Or.inr rfl, Or.inr rfl, Or.inr rfl, Or.inr rfl, Or.inl rfl, Or.inl rfl, trivial⟩ k
theorem dX1_doorsOutOfReached_0 : decode cX1_doorsOutOfReached 0 = .ok (.iconst 0, 1) := by decide +kernel
theorem dX1_doorsOutOfReached_1 : decode cX1_doorsOutOfReached 1 = .ok (.istore_n 1, 1) := by decide +kernel
theorem dX1_doorsOutOfReached_2 : decode cX1_doorsOutOfReached 2 = .ok (.iconst 0, 1) := by decide +kernel
theorem dX1_doorsOutOfReached_3 : decode cX1_doorsOutOfReached 3 = .ok (.istore_n 2, 1) := by decide +kernel
theorem dX1_doorsOutOfReached_4 : decode cX1_doorsOutOfReached 4 = .ok (.iload_n 2, 1) := by decide +kernel
theorem dX1_doorsOutOfReached_5 : decode cX1_doorsOutOfReached 5 = .ok (.aload_n 0, 1) := by decide +kernel
theorem dX1_doorsOutOfReached_6 : decode cX1_doorsOutOfReached 6 = .ok (.getfield 46, 3) := by decide +kernel
theorem dX1_doorsOutOfReached_9 : decode cX1_doorsOutOfReached 9 = .ok (.if_icmp .ge 126, 3) := by decide +kernel
theorem dX1_doorsOutOfReached_12 : decode cX1_doorsOutOfReached 12 = .ok (.aload_n 0, 1) := by decide +kernel
theorem dX1_doorsOutOfReached_13 : decode cX1_doorsOutOfReached 13 = .ok (.getfield 73, 3) := by decide +kernel
theorem dX1_doorsOutOfReached_16 : decode cX1_doorsOutOfReached 16 = .ok (.aload_n 0, 1) := by decide +kernel
theorem dX1_doorsOutOfReached_17 : decode cX1_doorsOutOfReached 17 = .ok (.getfield 9, 3) := by decide +kernel
theorem dX1_doorsOutOfReached_20 : decode cX1_doorsOutOfReached 20 = .ok (.iload_n 2, 1) := by decide +kernel
theorem dX1_doorsOutOfReached_21 : decode cX1_doorsOutOfReached 21 = .ok (.iaload, 1) := by decide +kernel
theorem dX1_doorsOutOfReached_22 : decode cX1_doorsOutOfReached 22 = .ok (.invokestatic 84, 3) := by decide +kernel
theorem dX1_doorsOutOfReached_25 : decode cX1_doorsOutOfReached 25 = .ok (.ifCond .eq 23, 3) := by decide +kernel
theorem dX1_doorsOutOfReached_28 : decode cX1_doorsOutOfReached 28 = .ok (.aload_n 0, 1) := by decide +kernel
theorem dX1_doorsOutOfReached_29 : decode cX1_doorsOutOfReached 29 = .ok (.getfield 73, 3) := by decide +kernel
theorem dX1_doorsOutOfReached_32 : decode cX1_doorsOutOfReached 32 = .ok (.aload_n 0, 1) := by decide +kernel
theorem dX1_doorsOutOfReached_33 : decode cX1_doorsOutOfReached 33 = .ok (.getfield 15, 3) := by decide +kernel
theorem dX1_doorsOutOfReached_36 : decode cX1_doorsOutOfReached 36 = .ok (.iload_n 2, 1) := by decide +kernel
theorem dX1_doorsOutOfReached_37 : decode cX1_doorsOutOfReached 37 = .ok (.iaload, 1) := by decide +kernel
theorem dX1_doorsOutOfReached_38 : decode cX1_doorsOutOfReached 38 = .ok (.invokestatic 84, 3) := by decide +kernel
theorem dX1_doorsOutOfReached_41 : decode cX1_doorsOutOfReached 41 = .ok (.ifCond .ne 7, 3) := by decide +kernel
theorem dX1_doorsOutOfReached_44 : decode cX1_doorsOutOfReached 44 = .ok (.iconst 1, 1) := by decide +kernel
theorem dX1_doorsOutOfReached_45 : decode cX1_doorsOutOfReached 45 = .ok (.goto 4, 3) := by decide +kernel
theorem dX1_doorsOutOfReached_48 : decode cX1_doorsOutOfReached 48 = .ok (.iconst 0, 1) := by decide +kernel
theorem dX1_doorsOutOfReached_49 : decode cX1_doorsOutOfReached 49 = .ok (.istore_n 3, 1) := by decide +kernel
theorem dX1_doorsOutOfReached_50 : decode cX1_doorsOutOfReached 50 = .ok (.aload_n 0, 1) := by decide +kernel
theorem dX1_doorsOutOfReached_51 : decode cX1_doorsOutOfReached 51 = .ok (.getfield 18, 3) := by decide +kernel
theorem dX1_doorsOutOfReached_54 : decode cX1_doorsOutOfReached 54 = .ok (.iload_n 2, 1) := by decide +kernel
theorem dX1_doorsOutOfReached_55 : decode cX1_doorsOutOfReached 55 = .ok (.baload, 1) := by decide +kernel
theorem dX1_doorsOutOfReached_56 : decode cX1_doorsOutOfReached 56 = .ok (.ifCond .ne 39, 3) := by decide +kernel
theorem dX1_doorsOutOfReached_59 : decode cX1_doorsOutOfReached 59 = .ok (.aload_n 0, 1) := by decide +kernel
theorem dX1_doorsOutOfReached_60 : decode cX1_doorsOutOfReached 60 = .ok (.getfield 73, 3) := by decide +kernel
theorem dX1_doorsOutOfReached_63 : decode cX1_doorsOutOfReached 63 = .ok (.aload_n 0, 1) := by decide +kernel
theorem dX1_doorsOutOfReached_64 : decode cX1_doorsOutOfReached 64 = .ok (.getfield 15, 3) := by decide +kernel
theorem dX1_doorsOutOfReached_67 : decode cX1_doorsOutOfReached 67 = .ok (.iload_n 2, 1) := by decide +kernel
theorem dX1_doorsOutOfReached_68 : decode cX1_doorsOutOfReached 68 = .ok (.iaload, 1) := by decide +kernel
theorem dX1_doorsOutOfReached_69 : decode cX1_doorsOutOfReached 69 = .ok (.invokestatic 84, 3) := by decide +kernel
theorem dX1_doorsOutOfReached_72 : decode cX1_doorsOutOfReached 72 = .ok (.ifCond .eq 23, 3) := by decide +kernel
theorem dX1_doorsOutOfReached_75 : decode cX1_doorsOutOfReached 75 = .ok (.aload_n 0, 1) := by decide +kernel
theorem dX1_doorsOutOfReached_76 : decode cX1_doorsOutOfReached 76 = .ok (.getfield 73, 3) := by decide +kernel
theorem dX1_doorsOutOfReached_79 : decode cX1_doorsOutOfReached 79 = .ok (.aload_n 0, 1) := by decide +kernel
theorem dX1_doorsOutOfReached_80 : decode cX1_doorsOutOfReached 80 = .ok (.getfield 9, 3) := by decide +kernel
theorem dX1_doorsOutOfReached_83 : decode cX1_doorsOutOfReached 83 = .ok (.iload_n 2, 1) := by decide +kernel
theorem dX1_doorsOutOfReached_84 : decode cX1_doorsOutOfReached 84 = .ok (.iaload, 1) := by decide +kernel
theorem dX1_doorsOutOfReached_85 : decode cX1_doorsOutOfReached 85 = .ok (.invokestatic 84, 3) := by decide +kernel
theorem dX1_doorsOutOfReached_88 : decode cX1_doorsOutOfReached 88 = .ok (.ifCond .ne 7, 3) := by decide +kernel
theorem dX1_doorsOutOfReached_91 : decode cX1_doorsOutOfReached 91 = .ok (.iconst 1, 1) := by decide +kernel
theorem dX1_doorsOutOfReached_92 : decode cX1_doorsOutOfReached 92 = .ok (.goto 4, 3) := by decide +kernel
theorem dX1_doorsOutOfReached_95 : decode cX1_doorsOutOfReached 95 = .ok (.iconst 0, 1) := by decide +kernel
theorem dX1_doorsOutOfReached_96 : decode cX1_doorsOutOfReached 96 = .ok (.istore 4, 2) := by decide +kernel
theorem dX1_doorsOutOfReached_98 : decode cX1_doorsOutOfReached 98 = .ok (.iload_n 1, 1) := by decide +kernel
theorem dX1_doorsOutOfReached_99 : decode cX1_doorsOutOfReached 99 = .ok (.aload_n 0, 1) := by decide +kernel
theorem dX1_doorsOutOfReached_100 : decode cX1_doorsOutOfReached 100 = .ok (.getfield 22, 3) := by decide +kernel
theorem dX1_doorsOutOfReached_103 : decode cX1_doorsOutOfReached 103 = .ok (.iload_n 2, 1) := by decide +kernel
theorem dX1_doorsOutOfReached_104 : decode cX1_doorsOutOfReached 104 = .ok (.iaload, 1) := by decide +kernel
theorem dX1_doorsOutOfReached_105 : decode cX1_doorsOutOfReached 105 = .ok (.ifCond .le 16, 3) := by decide +kernel
theorem dX1_doorsOutOfReached_108 : decode cX1_doorsOutOfReached 108 = .ok (.iload_n 3, 1) := by decide +kernel
theorem dX1_doorsOutOfReached_109 : decode cX1_doorsOutOfReached 109 = .ok (.ifCond .ne 8, 3) := by decide +kernel
theorem dX1_doorsOutOfReached_112 : decode cX1_doorsOutOfReached 112 = .ok (.iload 4, 2) := by decide +kernel
theorem dX1_doorsOutOfReached_114 : decode cX1_doorsOutOfReached 114 = .ok (.ifCond .eq 7, 3) := by decide +kernel
theorem dX1_doorsOutOfReached_117 : decode cX1_doorsOutOfReached 117 = .ok (.iconst 1, 1) := by decide +kernel
theorem dX1_doorsOutOfReached_118 : decode cX1_doorsOutOfReached 118 = .ok (.goto 4, 3) := by decide +kernel
theorem dX1_doorsOutOfReached_121 : decode cX1_doorsOutOfReached 121 = .ok (.iconst 0, 1) := by decide +kernel
theorem dX1_doorsOutOfReached_122 : decode cX1_doorsOutOfReached 122 = .ok (.invokestatic 88, 3) := by decide +kernel
theorem dX1_doorsOutOfReached_125 : decode cX1_doorsOutOfReached 125 = .ok (.iload_n 2, 1) := by decide +kernel
theorem dX1_doorsOutOfReached_126 : decode cX1_doorsOutOfReached 126 = .ok (.ishl, 1) := by decide +kernel
theorem dX1_doorsOutOfReached_127 : decode cX1_doorsOutOfReached 127 = .ok (.ior, 1) := by decide +kernel
theorem dX1_doorsOutOfReached_128 : decode cX1_doorsOutOfReached 128 = .ok (.istore_n 1, 1) := by decide +kernel
theorem dX1_doorsOutOfReached_129 : decode cX1_doorsOutOfReached 129 = .ok (.iinc 2 1, 3) := by decide +kernel
theorem dX1_doorsOutOfReached_132 : decode cX1_doorsOutOfReached 132 = .ok (.goto (-128), 3) := by decide +kernel
theorem dX1_doorsOutOfReached_135 : decode cX1_doorsOutOfReached 135 = .ok (.iload_n 1, 1) := by decide +kernel
theorem dX1_doorsOutOfReached_136 : decode cX1_doorsOutOfReached 136 = .ok (.ireturn, 1) := by decide +kernel
set_option maxRecDepth 100000 in
set_option maxHeartbeats 4000000 in
theorem B_X1_doorsOutOfReached_0 {κ : Nat → List Value → List Value → m2M → Prop} {D : Nat} {Q : Option Value → m2M → Prop} (h : m2_RL κ cX1_doorsOutOfReached RX1 5 D (some .int) Q)  {μ : m2M} (k : κ 4 [.ref kF, .int 0, .int 0, .null, .null] [] μ) : κ 0 [.ref kF, .null, .null, .null, .null] [] μ := by
  have hB := h.b
  refine m2_iconst hB dX1_doorsOutOfReached_0 (v := 0) (by decide) ?_
  refine m2_istore_n hB (ls' := [.ref kF, .int 0, .null, .null, .null]) dX1_doorsOutOfReached_1 rfl (by decide) rfl ?_
  refine m2_iconst hB dX1_doorsOutOfReached_2 (v := 0) (by decide) ?_
  refine m2_istore_n hB (ls' := [.ref kF, .int 0, .int 0, .null, .null]) dX1_doorsOutOfReached_3 rfl (by decide) rfl ?_
  exact k
set_option maxRecDepth 100000 in
set_option maxHeartbeats 4000000 in
theorem B_X1_doorsOutOfReached_4 {κ : Nat → List Value → List Value → m2M → Prop} {D : Nat} {Q : Option Value → m2M → Prop} (h : m2_RL κ cX1_doorsOutOfReached RX1 5 (D + 1) (some .int) Q) (hD : 0 ≤ D) {v1 : Int32} {v2 : Int32} {μ : m2M} (k : ((μ.1 kF 7) ≤ v2 → Q (some (.int v1)) μ) ∧ (¬ (μ.1 kF 7) ≤ v2 → (vp_in v2 21) ∧ (((fX11_hasBit (μ.1 kF 10) (μ.1 kF_a (v2).toNatClampNeg)) = 1 → ((fX11_hasBit (μ.1 kF 10) (μ.1 kF_b (v2).toNatClampNeg)) = 1 → κ 48 [.ref kF, .int v1, .int v2, .null, .null] [] μ) ∧ (¬ (fX11_hasBit (μ.1 kF 10) (μ.1 kF_b (v2).toNatClampNeg)) = 1 → (¬ (μ.1 kF_oneWay (v2).toNatClampNeg) = 0 → κ 95 [.ref kF, .int v1, .int v2, .int 1, .null] [] μ) ∧ ((μ.1 kF_oneWay (v2).toNatClampNeg) = 0 → ((fX11_hasBit (μ.1 kF 10) (μ.1 kF_b (v2).toNatClampNeg)) = 1 → ((fX11_hasBit (μ.1 kF 10) (μ.1 kF_a (v2).toNatClampNeg)) = 1 → κ 95 [.ref kF, .int v1, .int v2, .int 1, .null] [] μ) ∧ (¬ (fX11_hasBit (μ.1 kF 10) (μ.1 kF_a (v2).toNatClampNeg)) = 1 → ((μ.1 kF_lets (v2).toNatClampNeg) ≤ 0 → κ 4 [.ref kF, .int (v1 ||| ((if 0 = 0 then 0 else 1 : Int32) <<< (v2 &&& 31))), .int (v2 + 1), .null, .null] [] μ) ∧ (¬ (μ.1 kF_lets (v2).toNatClampNeg) ≤ 0 → κ 4 [.ref kF, .int (v1 ||| ((if 1 = 0 then 0 else 1 : Int32) <<< (v2 &&& 31))), .int (v2 + 1), .null, .null] [] μ))) ∧ (¬ (fX11_hasBit (μ.1 kF 10) (μ.1 kF_b (v2).toNatClampNeg)) = 1 → κ 95 [.ref kF, .int v1, .int v2, .int 1, .null] [] μ)))) ∧ (¬ (fX11_hasBit (μ.1 kF 10) (μ.1 kF_a (v2).toNatClampNeg)) = 1 → κ 48 [.ref kF, .int v1, .int v2, .null, .null] [] μ)))) : κ 4 [.ref kF, .int v1, .int v2, .null, .null] [] μ := by
  have hB := h.b
  refine m2_iload_n hB dX1_doorsOutOfReached_4 rfl ?_
  refine m2_aload_n hB dX1_doorsOutOfReached_5 rfl ?_
  refine m2_getI hB dX1_doorsOutOfReached_6 fl_X1_46 sh_kF rfl ?_
  refine m2_icmp_ge hB dX1_doorsOutOfReached_9 (tgt := 135) (by decide) (fun q2 : (μ.1 kF 7) ≤ v2 => ?_) (fun q2 : ¬ (μ.1 kF 7) ≤ v2 => ?_)
  · replace k := k.1 q2
    refine m2_iload_n hB dX1_doorsOutOfReached_135 rfl ?_
    exact m2_iret h dX1_doorsOutOfReached_136 k
  · replace k := k.2 q2
    refine m2_aload_n hB dX1_doorsOutOfReached_12 rfl ?_
    refine m2_getI hB dX1_doorsOutOfReached_13 fl_X1_73 sh_kF rfl ?_
    refine m2_aload_n hB dX1_doorsOutOfReached_16 rfl ?_
    refine m2_getR hB dX1_doorsOutOfReached_17 fl_X1_9 sh_kF (c1 := kF_a) rfl ?_
    refine m2_iload_n hB dX1_doorsOutOfReached_20 rfl ?_
    obtain ⟨hi3, k⟩ := k
    refine m2_iald hB dX1_doorsOutOfReached_21 sh_kF_a hi3 ?_
    refine m2_invNz hB (as := [.int (μ.1 kF 10), .int (μ.1 kF_a (v2).toNatClampNeg)]) dX1_doorsOutOfReached_22 mn_X1_84 rfl (Nat.le_of_ble_eq_true rfl) rfl (P_X11_hasBit (by omega) ((μ.1 kF 10)) ((μ.1 kF_a (v2).toNatClampNeg)) _ ) (fun y4 μ5 hq6 => ?_)
    obtain ⟨⟨⟩, hq6⟩ := hq6
    subst μ5
    show κ 25 [.ref kF, .int v1, .int v2, .null, .null] [.int (if (fX11_hasBit (μ.1 kF 10) (μ.1 kF_a (v2).toNatClampNeg)) = 1 then 1 else 0 : Int32)] μ
    by_cases q7 : (fX11_hasBit (μ.1 kF 10) (μ.1 kF_a (v2).toNatClampNeg)) = 1
    · rw [if_pos q7]
      replace k := k.1 q7
      refine m2_if_eq hB dX1_doorsOutOfReached_25 (tgt := 48) (by decide) (fun q => absurd q (by decide)) (fun _ => ?_)
      refine m2_aload_n hB dX1_doorsOutOfReached_28 rfl ?_
      refine m2_getI hB dX1_doorsOutOfReached_29 fl_X1_73 sh_kF rfl ?_
      refine m2_aload_n hB dX1_doorsOutOfReached_32 rfl ?_
      refine m2_getR hB dX1_doorsOutOfReached_33 fl_X1_15 sh_kF (c1 := kF_b) rfl ?_
      refine m2_iload_n hB dX1_doorsOutOfReached_36 rfl ?_
      have hi8 := hi3
      refine m2_iald hB dX1_doorsOutOfReached_37 sh_kF_b hi8 ?_
      refine m2_invNz hB (as := [.int (μ.1 kF 10), .int (μ.1 kF_b (v2).toNatClampNeg)]) dX1_doorsOutOfReached_38 mn_X1_84 rfl (Nat.le_of_ble_eq_true rfl) rfl (P_X11_hasBit (by omega) ((μ.1 kF 10)) ((μ.1 kF_b (v2).toNatClampNeg)) _ ) (fun y9 μ10 hq11 => ?_)
      obtain ⟨⟨⟩, hq11⟩ := hq11
      subst μ10
      show κ 41 [.ref kF, .int v1, .int v2, .null, .null] [.int (if (fX11_hasBit (μ.1 kF 10) (μ.1 kF_b (v2).toNatClampNeg)) = 1 then 1 else 0 : Int32)] μ
      by_cases q12 : (fX11_hasBit (μ.1 kF 10) (μ.1 kF_b (v2).toNatClampNeg)) = 1
      · rw [if_pos q12]
        replace k := k.1 q12
        refine m2_if_ne hB dX1_doorsOutOfReached_41 (tgt := 48) (by decide) (fun _ => ?_) (fun q => absurd q (by decide))
        exact k
      · rw [if_neg q12]
        replace k := k.2 q12
        refine m2_if_ne hB dX1_doorsOutOfReached_41 (tgt := 48) (by decide) (fun q => absurd q (by decide)) (fun _ => ?_)
        refine m2_iconst hB dX1_doorsOutOfReached_44 (v := 1) (by decide) ?_
        refine m2_goto hB dX1_doorsOutOfReached_45 (tgt := 49) (by decide) ?_
        refine m2_istore_n hB (ls' := [.ref kF, .int v1, .int v2, .int 1, .null]) dX1_doorsOutOfReached_49 rfl (by decide) rfl ?_
        refine m2_aload_n hB dX1_doorsOutOfReached_50 rfl ?_
        refine m2_getR hB dX1_doorsOutOfReached_51 fl_X1_18 sh_kF (c1 := kF_oneWay) rfl ?_
        refine m2_iload_n hB dX1_doorsOutOfReached_54 rfl ?_
        have hi13 := hi3
        refine m2_zald hB dX1_doorsOutOfReached_55 sh_kF_oneWay hi13 ?_
        refine m2_if_ne hB dX1_doorsOutOfReached_56 (tgt := 95) (by decide) (fun q14 : ¬ (μ.1 kF_oneWay (v2).toNatClampNeg) = 0 => ?_) (fun q14 : (μ.1 kF_oneWay (v2).toNatClampNeg) = 0 => ?_)
        · replace k := k.1 q14
          exact k
        · replace k := k.2 q14
          refine m2_aload_n hB dX1_doorsOutOfReached_59 rfl ?_
          refine m2_getI hB dX1_doorsOutOfReached_60 fl_X1_73 sh_kF rfl ?_
          refine m2_aload_n hB dX1_doorsOutOfReached_63 rfl ?_
          refine m2_getR hB dX1_doorsOutOfReached_64 fl_X1_15 sh_kF (c1 := kF_b) rfl ?_
          refine m2_iload_n hB dX1_doorsOutOfReached_67 rfl ?_
          have hi15 := hi3
          refine m2_iald hB dX1_doorsOutOfReached_68 sh_kF_b hi15 ?_
          refine m2_invNz hB (as := [.int (μ.1 kF 10), .int (μ.1 kF_b (v2).toNatClampNeg)]) dX1_doorsOutOfReached_69 mn_X1_84 rfl (Nat.le_of_ble_eq_true rfl) rfl (P_X11_hasBit (by omega) ((μ.1 kF 10)) ((μ.1 kF_b (v2).toNatClampNeg)) _ ) (fun y16 μ17 hq18 => ?_)
          obtain ⟨⟨⟩, hq18⟩ := hq18
          subst μ17
          show κ 72 [.ref kF, .int v1, .int v2, .int 1, .null] [.int (if (fX11_hasBit (μ.1 kF 10) (μ.1 kF_b (v2).toNatClampNeg)) = 1 then 1 else 0 : Int32)] μ
          by_cases q19 : (fX11_hasBit (μ.1 kF 10) (μ.1 kF_b (v2).toNatClampNeg)) = 1
          · rw [if_pos q19]
            replace k := k.1 q19
            refine m2_if_eq hB dX1_doorsOutOfReached_72 (tgt := 95) (by decide) (fun q => absurd q (by decide)) (fun _ => ?_)
            refine m2_aload_n hB dX1_doorsOutOfReached_75 rfl ?_
            refine m2_getI hB dX1_doorsOutOfReached_76 fl_X1_73 sh_kF rfl ?_
            refine m2_aload_n hB dX1_doorsOutOfReached_79 rfl ?_
            refine m2_getR hB dX1_doorsOutOfReached_80 fl_X1_9 sh_kF (c1 := kF_a) rfl ?_
            refine m2_iload_n hB dX1_doorsOutOfReached_83 rfl ?_
            have hi20 := hi3
            refine m2_iald hB dX1_doorsOutOfReached_84 sh_kF_a hi20 ?_
            refine m2_invNz hB (as := [.int (μ.1 kF 10), .int (μ.1 kF_a (v2).toNatClampNeg)]) dX1_doorsOutOfReached_85 mn_X1_84 rfl (Nat.le_of_ble_eq_true rfl) rfl (P_X11_hasBit (by omega) ((μ.1 kF 10)) ((μ.1 kF_a (v2).toNatClampNeg)) _ ) (fun y21 μ22 hq23 => ?_)
            obtain ⟨⟨⟩, hq23⟩ := hq23
            subst μ22
            show κ 88 [.ref kF, .int v1, .int v2, .int 1, .null] [.int (if (fX11_hasBit (μ.1 kF 10) (μ.1 kF_a (v2).toNatClampNeg)) = 1 then 1 else 0 : Int32)] μ
            by_cases q24 : (fX11_hasBit (μ.1 kF 10) (μ.1 kF_a (v2).toNatClampNeg)) = 1
            · rw [if_pos q24]
              replace k := k.1 q24
              refine m2_if_ne hB dX1_doorsOutOfReached_88 (tgt := 95) (by decide) (fun _ => ?_) (fun q => absurd q (by decide))
              exact k
            · rw [if_neg q24]
              replace k := k.2 q24
              refine m2_if_ne hB dX1_doorsOutOfReached_88 (tgt := 95) (by decide) (fun q => absurd q (by decide)) (fun _ => ?_)
              refine m2_iconst hB dX1_doorsOutOfReached_91 (v := 1) (by decide) ?_
              refine m2_goto hB dX1_doorsOutOfReached_92 (tgt := 96) (by decide) ?_
              refine m2_istore hB (ls' := [.ref kF, .int v1, .int v2, .int 1, .int 1]) dX1_doorsOutOfReached_96 (by decide) rfl ?_
              refine m2_iload_n hB dX1_doorsOutOfReached_98 rfl ?_
              refine m2_aload_n hB dX1_doorsOutOfReached_99 rfl ?_
              refine m2_getR hB dX1_doorsOutOfReached_100 fl_X1_22 sh_kF (c1 := kF_lets) rfl ?_
              refine m2_iload_n hB dX1_doorsOutOfReached_103 rfl ?_
              have hi25 := hi3
              refine m2_iald hB dX1_doorsOutOfReached_104 sh_kF_lets hi25 ?_
              refine m2_if_le hB dX1_doorsOutOfReached_105 (tgt := 121) (by decide) (fun q26 : (μ.1 kF_lets (v2).toNatClampNeg) ≤ 0 => ?_) (fun q26 : ¬ (μ.1 kF_lets (v2).toNatClampNeg) ≤ 0 => ?_)
              · replace k := k.1 q26
                refine m2_iconst hB dX1_doorsOutOfReached_121 (v := 0) (by decide) ?_
                refine m2_invNi hB (as := [.int 0]) dX1_doorsOutOfReached_122 mn_X1_88 rfl (Nat.le_of_ble_eq_true rfl) rfl (P_X11_asNumber (by omega) (0) _ ) (fun y27 μ28 hq29 => ?_)
                obtain ⟨⟨⟩, hq29⟩ := hq29
                subst μ28
                refine m2_iload_n hB dX1_doorsOutOfReached_125 rfl ?_
                refine m2_ishl hB dX1_doorsOutOfReached_126 ?_
                refine m2_ior hB dX1_doorsOutOfReached_127 ?_
                refine m2_istore_n hB (ls' := [.ref kF, .int (v1 ||| ((if 0 = 0 then 0 else 1 : Int32) <<< (v2 &&& 31))), .int v2, .int 1, .int 1]) dX1_doorsOutOfReached_128 rfl (by decide) rfl ?_
                refine m2_iinc hB (ls' := [.ref kF, .int (v1 ||| ((if 0 = 0 then 0 else 1 : Int32) <<< (v2 &&& 31))), .int (v2 + 1), .int 1, .int 1]) (v := (v2 + 1)) dX1_doorsOutOfReached_129 rfl (by decide) rfl rfl ?_
                refine m2_goto hB dX1_doorsOutOfReached_132 (tgt := 4) (by decide) ?_
                exact m2_weak (ls' := [.ref kF, .int (v1 ||| ((if 0 = 0 then 0 else 1 : Int32) <<< (v2 &&& 31))), .int (v2 + 1), .null, .null]) hB ⟨Or.inr rfl, Or.inr rfl, Or.inr rfl, Or.inl rfl, Or.inl rfl, trivial⟩ k
              · replace k := k.2 q26
                refine m2_iload_n hB dX1_doorsOutOfReached_108 rfl ?_
                refine m2_if_ne hB dX1_doorsOutOfReached_109 (tgt := 117) (by decide) (fun _ => ?_) (fun q => absurd q (by decide))
                refine m2_iconst hB dX1_doorsOutOfReached_117 (v := 1) (by decide) ?_
                refine m2_goto hB dX1_doorsOutOfReached_118 (tgt := 122) (by decide) ?_
                refine m2_invNi hB (as := [.int 1]) dX1_doorsOutOfReached_122 mn_X1_88 rfl (Nat.le_of_ble_eq_true rfl) rfl (P_X11_asNumber (by omega) (1) _ ) (fun y30 μ31 hq32 => ?_)
                obtain ⟨⟨⟩, hq32⟩ := hq32
                subst μ31
                refine m2_iload_n hB dX1_doorsOutOfReached_125 rfl ?_
                refine m2_ishl hB dX1_doorsOutOfReached_126 ?_
                refine m2_ior hB dX1_doorsOutOfReached_127 ?_
                refine m2_istore_n hB (ls' := [.ref kF, .int (v1 ||| ((if 1 = 0 then 0 else 1 : Int32) <<< (v2 &&& 31))), .int v2, .int 1, .int 1]) dX1_doorsOutOfReached_128 rfl (by decide) rfl ?_
                refine m2_iinc hB (ls' := [.ref kF, .int (v1 ||| ((if 1 = 0 then 0 else 1 : Int32) <<< (v2 &&& 31))), .int (v2 + 1), .int 1, .int 1]) (v := (v2 + 1)) dX1_doorsOutOfReached_129 rfl (by decide) rfl rfl ?_
                refine m2_goto hB dX1_doorsOutOfReached_132 (tgt := 4) (by decide) ?_
                exact m2_weak (ls' := [.ref kF, .int (v1 ||| ((if 1 = 0 then 0 else 1 : Int32) <<< (v2 &&& 31))), .int (v2 + 1), .null, .null]) hB ⟨Or.inr rfl, Or.inr rfl, Or.inr rfl, Or.inl rfl, Or.inl rfl, trivial⟩ k
          · rw [if_neg q19]
            replace k := k.2 q19
            refine m2_if_eq hB dX1_doorsOutOfReached_72 (tgt := 95) (by decide) (fun _ => ?_) (fun q => absurd q (by decide))
            exact k
    · rw [if_neg q7]
      replace k := k.2 q7
      refine m2_if_eq hB dX1_doorsOutOfReached_25 (tgt := 48) (by decide) (fun _ => ?_) (fun q => absurd q (by decide))
      exact k
set_option maxRecDepth 100000 in
set_option maxHeartbeats 4000000 in
theorem B_X1_doorsOutOfReached_48 {κ : Nat → List Value → List Value → m2M → Prop} {D : Nat} {Q : Option Value → m2M → Prop} (h : m2_RL κ cX1_doorsOutOfReached RX1 5 (D + 1) (some .int) Q) (hD : 0 ≤ D) {v1 : Int32} {v2 : Int32} {μ : m2M} (k : (vp_in v2 21) ∧ ((¬ (μ.1 kF_oneWay (v2).toNatClampNeg) = 0 → κ 95 [.ref kF, .int v1, .int v2, .int 0, .null] [] μ) ∧ ((μ.1 kF_oneWay (v2).toNatClampNeg) = 0 → ((fX11_hasBit (μ.1 kF 10) (μ.1 kF_b (v2).toNatClampNeg)) = 1 → ((fX11_hasBit (μ.1 kF 10) (μ.1 kF_a (v2).toNatClampNeg)) = 1 → κ 95 [.ref kF, .int v1, .int v2, .int 0, .null] [] μ) ∧ (¬ (fX11_hasBit (μ.1 kF 10) (μ.1 kF_a (v2).toNatClampNeg)) = 1 → ((μ.1 kF_lets (v2).toNatClampNeg) ≤ 0 → κ 4 [.ref kF, .int (v1 ||| ((if 0 = 0 then 0 else 1 : Int32) <<< (v2 &&& 31))), .int (v2 + 1), .null, .null] [] μ) ∧ (¬ (μ.1 kF_lets (v2).toNatClampNeg) ≤ 0 → κ 4 [.ref kF, .int (v1 ||| ((if 1 = 0 then 0 else 1 : Int32) <<< (v2 &&& 31))), .int (v2 + 1), .null, .null] [] μ))) ∧ (¬ (fX11_hasBit (μ.1 kF 10) (μ.1 kF_b (v2).toNatClampNeg)) = 1 → κ 95 [.ref kF, .int v1, .int v2, .int 0, .null] [] μ)))) : κ 48 [.ref kF, .int v1, .int v2, .null, .null] [] μ := by
  have hB := h.b
  refine m2_iconst hB dX1_doorsOutOfReached_48 (v := 0) (by decide) ?_
  refine m2_istore_n hB (ls' := [.ref kF, .int v1, .int v2, .int 0, .null]) dX1_doorsOutOfReached_49 rfl (by decide) rfl ?_
  refine m2_aload_n hB dX1_doorsOutOfReached_50 rfl ?_
  refine m2_getR hB dX1_doorsOutOfReached_51 fl_X1_18 sh_kF (c1 := kF_oneWay) rfl ?_
  refine m2_iload_n hB dX1_doorsOutOfReached_54 rfl ?_
  obtain ⟨hi1, k⟩ := k
  refine m2_zald hB dX1_doorsOutOfReached_55 sh_kF_oneWay hi1 ?_
  refine m2_if_ne hB dX1_doorsOutOfReached_56 (tgt := 95) (by decide) (fun q2 : ¬ (μ.1 kF_oneWay (v2).toNatClampNeg) = 0 => ?_) (fun q2 : (μ.1 kF_oneWay (v2).toNatClampNeg) = 0 => ?_)
  · replace k := k.1 q2
    exact k
  · replace k := k.2 q2
    refine m2_aload_n hB dX1_doorsOutOfReached_59 rfl ?_
    refine m2_getI hB dX1_doorsOutOfReached_60 fl_X1_73 sh_kF rfl ?_
    refine m2_aload_n hB dX1_doorsOutOfReached_63 rfl ?_
    refine m2_getR hB dX1_doorsOutOfReached_64 fl_X1_15 sh_kF (c1 := kF_b) rfl ?_
    refine m2_iload_n hB dX1_doorsOutOfReached_67 rfl ?_
    have hi3 := hi1
    refine m2_iald hB dX1_doorsOutOfReached_68 sh_kF_b hi3 ?_
    refine m2_invNz hB (as := [.int (μ.1 kF 10), .int (μ.1 kF_b (v2).toNatClampNeg)]) dX1_doorsOutOfReached_69 mn_X1_84 rfl (Nat.le_of_ble_eq_true rfl) rfl (P_X11_hasBit (by omega) ((μ.1 kF 10)) ((μ.1 kF_b (v2).toNatClampNeg)) _ ) (fun y4 μ5 hq6 => ?_)
    obtain ⟨⟨⟩, hq6⟩ := hq6
    subst μ5
    show κ 72 [.ref kF, .int v1, .int v2, .int 0, .null] [.int (if (fX11_hasBit (μ.1 kF 10) (μ.1 kF_b (v2).toNatClampNeg)) = 1 then 1 else 0 : Int32)] μ
    by_cases q7 : (fX11_hasBit (μ.1 kF 10) (μ.1 kF_b (v2).toNatClampNeg)) = 1
    · rw [if_pos q7]
      replace k := k.1 q7
      refine m2_if_eq hB dX1_doorsOutOfReached_72 (tgt := 95) (by decide) (fun q => absurd q (by decide)) (fun _ => ?_)
      refine m2_aload_n hB dX1_doorsOutOfReached_75 rfl ?_
      refine m2_getI hB dX1_doorsOutOfReached_76 fl_X1_73 sh_kF rfl ?_
      refine m2_aload_n hB dX1_doorsOutOfReached_79 rfl ?_
      refine m2_getR hB dX1_doorsOutOfReached_80 fl_X1_9 sh_kF (c1 := kF_a) rfl ?_
      refine m2_iload_n hB dX1_doorsOutOfReached_83 rfl ?_
      have hi8 := hi1
      refine m2_iald hB dX1_doorsOutOfReached_84 sh_kF_a hi8 ?_
      refine m2_invNz hB (as := [.int (μ.1 kF 10), .int (μ.1 kF_a (v2).toNatClampNeg)]) dX1_doorsOutOfReached_85 mn_X1_84 rfl (Nat.le_of_ble_eq_true rfl) rfl (P_X11_hasBit (by omega) ((μ.1 kF 10)) ((μ.1 kF_a (v2).toNatClampNeg)) _ ) (fun y9 μ10 hq11 => ?_)
      obtain ⟨⟨⟩, hq11⟩ := hq11
      subst μ10
      show κ 88 [.ref kF, .int v1, .int v2, .int 0, .null] [.int (if (fX11_hasBit (μ.1 kF 10) (μ.1 kF_a (v2).toNatClampNeg)) = 1 then 1 else 0 : Int32)] μ
      by_cases q12 : (fX11_hasBit (μ.1 kF 10) (μ.1 kF_a (v2).toNatClampNeg)) = 1
      · rw [if_pos q12]
        replace k := k.1 q12
        refine m2_if_ne hB dX1_doorsOutOfReached_88 (tgt := 95) (by decide) (fun _ => ?_) (fun q => absurd q (by decide))
        exact k
      · rw [if_neg q12]
        replace k := k.2 q12
        refine m2_if_ne hB dX1_doorsOutOfReached_88 (tgt := 95) (by decide) (fun q => absurd q (by decide)) (fun _ => ?_)
        refine m2_iconst hB dX1_doorsOutOfReached_91 (v := 1) (by decide) ?_
        refine m2_goto hB dX1_doorsOutOfReached_92 (tgt := 96) (by decide) ?_
        refine m2_istore hB (ls' := [.ref kF, .int v1, .int v2, .int 0, .int 1]) dX1_doorsOutOfReached_96 (by decide) rfl ?_
        refine m2_iload_n hB dX1_doorsOutOfReached_98 rfl ?_
        refine m2_aload_n hB dX1_doorsOutOfReached_99 rfl ?_
        refine m2_getR hB dX1_doorsOutOfReached_100 fl_X1_22 sh_kF (c1 := kF_lets) rfl ?_
        refine m2_iload_n hB dX1_doorsOutOfReached_103 rfl ?_
        have hi13 := hi1
        refine m2_iald hB dX1_doorsOutOfReached_104 sh_kF_lets hi13 ?_
        refine m2_if_le hB dX1_doorsOutOfReached_105 (tgt := 121) (by decide) (fun q14 : (μ.1 kF_lets (v2).toNatClampNeg) ≤ 0 => ?_) (fun q14 : ¬ (μ.1 kF_lets (v2).toNatClampNeg) ≤ 0 => ?_)
        · replace k := k.1 q14
          refine m2_iconst hB dX1_doorsOutOfReached_121 (v := 0) (by decide) ?_
          refine m2_invNi hB (as := [.int 0]) dX1_doorsOutOfReached_122 mn_X1_88 rfl (Nat.le_of_ble_eq_true rfl) rfl (P_X11_asNumber (by omega) (0) _ ) (fun y15 μ16 hq17 => ?_)
          obtain ⟨⟨⟩, hq17⟩ := hq17
          subst μ16
          refine m2_iload_n hB dX1_doorsOutOfReached_125 rfl ?_
          refine m2_ishl hB dX1_doorsOutOfReached_126 ?_
          refine m2_ior hB dX1_doorsOutOfReached_127 ?_
          refine m2_istore_n hB (ls' := [.ref kF, .int (v1 ||| ((if 0 = 0 then 0 else 1 : Int32) <<< (v2 &&& 31))), .int v2, .int 0, .int 1]) dX1_doorsOutOfReached_128 rfl (by decide) rfl ?_
          refine m2_iinc hB (ls' := [.ref kF, .int (v1 ||| ((if 0 = 0 then 0 else 1 : Int32) <<< (v2 &&& 31))), .int (v2 + 1), .int 0, .int 1]) (v := (v2 + 1)) dX1_doorsOutOfReached_129 rfl (by decide) rfl rfl ?_
          refine m2_goto hB dX1_doorsOutOfReached_132 (tgt := 4) (by decide) ?_
          exact m2_weak (ls' := [.ref kF, .int (v1 ||| ((if 0 = 0 then 0 else 1 : Int32) <<< (v2 &&& 31))), .int (v2 + 1), .null, .null]) hB ⟨Or.inr rfl, Or.inr rfl, Or.inr rfl, Or.inl rfl, Or.inl rfl, trivial⟩ k
        · replace k := k.2 q14
          refine m2_iload_n hB dX1_doorsOutOfReached_108 rfl ?_
          refine m2_if_ne hB dX1_doorsOutOfReached_109 (tgt := 117) (by decide) (fun q => absurd q (by decide)) (fun _ => ?_)
          refine m2_iload hB dX1_doorsOutOfReached_112 rfl ?_
          refine m2_if_eq hB dX1_doorsOutOfReached_114 (tgt := 121) (by decide) (fun q => absurd q (by decide)) (fun _ => ?_)
          refine m2_iconst hB dX1_doorsOutOfReached_117 (v := 1) (by decide) ?_
          refine m2_goto hB dX1_doorsOutOfReached_118 (tgt := 122) (by decide) ?_
          refine m2_invNi hB (as := [.int 1]) dX1_doorsOutOfReached_122 mn_X1_88 rfl (Nat.le_of_ble_eq_true rfl) rfl (P_X11_asNumber (by omega) (1) _ ) (fun y18 μ19 hq20 => ?_)
          obtain ⟨⟨⟩, hq20⟩ := hq20
          subst μ19
          refine m2_iload_n hB dX1_doorsOutOfReached_125 rfl ?_
          refine m2_ishl hB dX1_doorsOutOfReached_126 ?_
          refine m2_ior hB dX1_doorsOutOfReached_127 ?_
          refine m2_istore_n hB (ls' := [.ref kF, .int (v1 ||| ((if 1 = 0 then 0 else 1 : Int32) <<< (v2 &&& 31))), .int v2, .int 0, .int 1]) dX1_doorsOutOfReached_128 rfl (by decide) rfl ?_
          refine m2_iinc hB (ls' := [.ref kF, .int (v1 ||| ((if 1 = 0 then 0 else 1 : Int32) <<< (v2 &&& 31))), .int (v2 + 1), .int 0, .int 1]) (v := (v2 + 1)) dX1_doorsOutOfReached_129 rfl (by decide) rfl rfl ?_
          refine m2_goto hB dX1_doorsOutOfReached_132 (tgt := 4) (by decide) ?_
          exact m2_weak (ls' := [.ref kF, .int (v1 ||| ((if 1 = 0 then 0 else 1 : Int32) <<< (v2 &&& 31))), .int (v2 + 1), .null, .null]) hB ⟨Or.inr rfl, Or.inr rfl, Or.inr rfl, Or.inl rfl, Or.inl rfl, trivial⟩ k
    · rw [if_neg q7]
      replace k := k.2 q7
      refine m2_if_eq hB dX1_doorsOutOfReached_72 (tgt := 95) (by decide) (fun _ => ?_) (fun q => absurd q (by decide))
      exact k
set_option maxRecDepth 100000 in
set_option maxHeartbeats 4000000 in
theorem B_X1_doorsOutOfReached_95 {κ : Nat → List Value → List Value → m2M → Prop} {D : Nat} {Q : Option Value → m2M → Prop} (h : m2_RL κ cX1_doorsOutOfReached RX1 5 (D + 1) (some .int) Q) (hD : 0 ≤ D) {v1 : Int32} {v2 : Int32} {v3 : Int32} {μ : m2M} (k : (vp_in v2 21) ∧ (((μ.1 kF_lets (v2).toNatClampNeg) ≤ 0 → κ 4 [.ref kF, .int (v1 ||| ((if 0 = 0 then 0 else 1 : Int32) <<< (v2 &&& 31))), .int (v2 + 1), .null, .null] [] μ) ∧ (¬ (μ.1 kF_lets (v2).toNatClampNeg) ≤ 0 → (¬ v3 = 0 → κ 4 [.ref kF, .int (v1 ||| ((if 1 = 0 then 0 else 1 : Int32) <<< (v2 &&& 31))), .int (v2 + 1), .null, .null] [] μ) ∧ (v3 = 0 → κ 4 [.ref kF, .int (v1 ||| ((if 0 = 0 then 0 else 1 : Int32) <<< (v2 &&& 31))), .int (v2 + 1), .null, .null] [] μ)))) : κ 95 [.ref kF, .int v1, .int v2, .int v3, .null] [] μ := by
  have hB := h.b
  refine m2_iconst hB dX1_doorsOutOfReached_95 (v := 0) (by decide) ?_
  refine m2_istore hB (ls' := [.ref kF, .int v1, .int v2, .int v3, .int 0]) dX1_doorsOutOfReached_96 (by decide) rfl ?_
  refine m2_iload_n hB dX1_doorsOutOfReached_98 rfl ?_
  refine m2_aload_n hB dX1_doorsOutOfReached_99 rfl ?_
  refine m2_getR hB dX1_doorsOutOfReached_100 fl_X1_22 sh_kF (c1 := kF_lets) rfl ?_
  refine m2_iload_n hB dX1_doorsOutOfReached_103 rfl ?_
  obtain ⟨hi1, k⟩ := k
  refine m2_iald hB dX1_doorsOutOfReached_104 sh_kF_lets hi1 ?_
  refine m2_if_le hB dX1_doorsOutOfReached_105 (tgt := 121) (by decide) (fun q2 : (μ.1 kF_lets (v2).toNatClampNeg) ≤ 0 => ?_) (fun q2 : ¬ (μ.1 kF_lets (v2).toNatClampNeg) ≤ 0 => ?_)
  · replace k := k.1 q2
    refine m2_iconst hB dX1_doorsOutOfReached_121 (v := 0) (by decide) ?_
    refine m2_invNi hB (as := [.int 0]) dX1_doorsOutOfReached_122 mn_X1_88 rfl (Nat.le_of_ble_eq_true rfl) rfl (P_X11_asNumber (by omega) (0) _ ) (fun y3 μ4 hq5 => ?_)
    obtain ⟨⟨⟩, hq5⟩ := hq5
    subst μ4
    refine m2_iload_n hB dX1_doorsOutOfReached_125 rfl ?_
    refine m2_ishl hB dX1_doorsOutOfReached_126 ?_
    refine m2_ior hB dX1_doorsOutOfReached_127 ?_
    refine m2_istore_n hB (ls' := [.ref kF, .int (v1 ||| ((if 0 = 0 then 0 else 1 : Int32) <<< (v2 &&& 31))), .int v2, .int v3, .int 0]) dX1_doorsOutOfReached_128 rfl (by decide) rfl ?_
    refine m2_iinc hB (ls' := [.ref kF, .int (v1 ||| ((if 0 = 0 then 0 else 1 : Int32) <<< (v2 &&& 31))), .int (v2 + 1), .int v3, .int 0]) (v := (v2 + 1)) dX1_doorsOutOfReached_129 rfl (by decide) rfl rfl ?_
    refine m2_goto hB dX1_doorsOutOfReached_132 (tgt := 4) (by decide) ?_
    exact m2_weak (ls' := [.ref kF, .int (v1 ||| ((if 0 = 0 then 0 else 1 : Int32) <<< (v2 &&& 31))), .int (v2 + 1), .null, .null]) hB ⟨Or.inr rfl, Or.inr rfl, Or.inr rfl, Or.inl rfl, Or.inl rfl, trivial⟩ k
  · replace k := k.2 q2
    refine m2_iload_n hB dX1_doorsOutOfReached_108 rfl ?_
    refine m2_if_ne hB dX1_doorsOutOfReached_109 (tgt := 117) (by decide) (fun q6 : ¬ v3 = 0 => ?_) (fun q6 : v3 = 0 => ?_)
    · replace k := k.1 q6
      refine m2_iconst hB dX1_doorsOutOfReached_117 (v := 1) (by decide) ?_
      refine m2_goto hB dX1_doorsOutOfReached_118 (tgt := 122) (by decide) ?_
      refine m2_invNi hB (as := [.int 1]) dX1_doorsOutOfReached_122 mn_X1_88 rfl (Nat.le_of_ble_eq_true rfl) rfl (P_X11_asNumber (by omega) (1) _ ) (fun y7 μ8 hq9 => ?_)
      obtain ⟨⟨⟩, hq9⟩ := hq9
      subst μ8
      refine m2_iload_n hB dX1_doorsOutOfReached_125 rfl ?_
      refine m2_ishl hB dX1_doorsOutOfReached_126 ?_
      refine m2_ior hB dX1_doorsOutOfReached_127 ?_
      refine m2_istore_n hB (ls' := [.ref kF, .int (v1 ||| ((if 1 = 0 then 0 else 1 : Int32) <<< (v2 &&& 31))), .int v2, .int v3, .int 0]) dX1_doorsOutOfReached_128 rfl (by decide) rfl ?_
      refine m2_iinc hB (ls' := [.ref kF, .int (v1 ||| ((if 1 = 0 then 0 else 1 : Int32) <<< (v2 &&& 31))), .int (v2 + 1), .int v3, .int 0]) (v := (v2 + 1)) dX1_doorsOutOfReached_129 rfl (by decide) rfl rfl ?_
      refine m2_goto hB dX1_doorsOutOfReached_132 (tgt := 4) (by decide) ?_
      exact m2_weak (ls' := [.ref kF, .int (v1 ||| ((if 1 = 0 then 0 else 1 : Int32) <<< (v2 &&& 31))), .int (v2 + 1), .null, .null]) hB ⟨Or.inr rfl, Or.inr rfl, Or.inr rfl, Or.inl rfl, Or.inl rfl, trivial⟩ k
    · replace k := k.2 q6
      refine m2_iload hB dX1_doorsOutOfReached_112 rfl ?_
      refine m2_if_eq hB dX1_doorsOutOfReached_114 (tgt := 121) (by decide) (fun _ => ?_) (fun q => absurd q (by decide))
      refine m2_iconst hB dX1_doorsOutOfReached_121 (v := 0) (by decide) ?_
      refine m2_invNi hB (as := [.int 0]) dX1_doorsOutOfReached_122 mn_X1_88 rfl (Nat.le_of_ble_eq_true rfl) rfl (P_X11_asNumber (by omega) (0) _ ) (fun y10 μ11 hq12 => ?_)
      obtain ⟨⟨⟩, hq12⟩ := hq12
      subst μ11
      refine m2_iload_n hB dX1_doorsOutOfReached_125 rfl ?_
      refine m2_ishl hB dX1_doorsOutOfReached_126 ?_
      refine m2_ior hB dX1_doorsOutOfReached_127 ?_
      refine m2_istore_n hB (ls' := [.ref kF, .int (v1 ||| ((if 0 = 0 then 0 else 1 : Int32) <<< (v2 &&& 31))), .int v2, .int v3, .int 0]) dX1_doorsOutOfReached_128 rfl (by decide) rfl ?_
      refine m2_iinc hB (ls' := [.ref kF, .int (v1 ||| ((if 0 = 0 then 0 else 1 : Int32) <<< (v2 &&& 31))), .int (v2 + 1), .int v3, .int 0]) (v := (v2 + 1)) dX1_doorsOutOfReached_129 rfl (by decide) rfl rfl ?_
      refine m2_goto hB dX1_doorsOutOfReached_132 (tgt := 4) (by decide) ?_
      exact m2_weak (ls' := [.ref kF, .int (v1 ||| ((if 0 = 0 then 0 else 1 : Int32) <<< (v2 &&& 31))), .int (v2 + 1), .null, .null]) hB ⟨Or.inr rfl, Or.inr rfl, Or.inr rfl, Or.inl rfl, Or.inl rfl, trivial⟩ k
theorem dX1_search_0 : decode cX1_search 0 = .ok (.aload_n 0, 1) := by decide +kernel
theorem dX1_search_1 : decode cX1_search 1 = .ok (.iconst 1, 1) := by decide +kernel
theorem dX1_search_2 : decode cX1_search 2 = .ok (.iload_n 1, 1) := by decide +kernel
theorem dX1_search_3 : decode cX1_search 3 = .ok (.ishl, 1) := by decide +kernel
theorem dX1_search_4 : decode cX1_search 4 = .ok (.putfield 73, 3) := by decide +kernel
theorem dX1_search_7 : decode cX1_search 7 = .ok (.iload_n 2, 1) := by decide +kernel
theorem dX1_search_8 : decode cX1_search 8 = .ok (.iload_n 1, 1) := by decide +kernel
theorem dX1_search_9 : decode cX1_search 9 = .ok (.invokestatic 84, 3) := by decide +kernel
theorem dX1_search_12 : decode cX1_search 12 = .ok (.ifCond .eq 5, 3) := by decide +kernel
theorem dX1_search_15 : decode cX1_search 15 = .ok (.iload_n 1, 1) := by decide +kernel
theorem dX1_search_16 : decode cX1_search 16 = .ok (.ireturn, 1) := by decide +kernel
theorem dX1_search_17 : decode cX1_search 17 = .ok (.aload_n 0, 1) := by decide +kernel
theorem dX1_search_18 : decode cX1_search 18 = .ok (.getfield 34, 3) := by decide +kernel
theorem dX1_search_21 : decode cX1_search 21 = .ok (.iconst 0, 1) := by decide +kernel
theorem dX1_search_22 : decode cX1_search 22 = .ok (.iload_n 1, 1) := by decide +kernel
theorem dX1_search_23 : decode cX1_search 23 = .ok (.iastore, 1) := by decide +kernel
theorem dX1_search_24 : decode cX1_search 24 = .ok (.iconst 1, 1) := by decide +kernel
theorem dX1_search_25 : decode cX1_search 25 = .ok (.istore_n 3, 1) := by decide +kernel
theorem dX1_search_26 : decode cX1_search 26 = .ok (.iconst 0, 1) := by decide +kernel
theorem dX1_search_27 : decode cX1_search 27 = .ok (.istore 4, 2) := by decide +kernel
theorem dX1_search_29 : decode cX1_search 29 = .ok (.iload 4, 2) := by decide +kernel
theorem dX1_search_31 : decode cX1_search 31 = .ok (.iload_n 3, 1) := by decide +kernel
theorem dX1_search_32 : decode cX1_search 32 = .ok (.if_icmp .ge 154, 3) := by decide +kernel
theorem dX1_search_35 : decode cX1_search 35 = .ok (.iload 4, 2) := by decide +kernel
theorem dX1_search_37 : decode cX1_search 37 = .ok (.bipush 12, 2) := by decide +kernel
theorem dX1_search_39 : decode cX1_search 39 = .ok (.if_icmp .ge 147, 3) := by decide +kernel
theorem dX1_search_42 : decode cX1_search 42 = .ok (.aload_n 0, 1) := by decide +kernel
theorem dX1_search_43 : decode cX1_search 43 = .ok (.getfield 34, 3) := by decide +kernel
theorem dX1_search_46 : decode cX1_search 46 = .ok (.iload 4, 2) := by decide +kernel
theorem dX1_search_48 : decode cX1_search 48 = .ok (.iaload, 1) := by decide +kernel
theorem dX1_search_49 : decode cX1_search 49 = .ok (.istore 5, 2) := by decide +kernel
theorem dX1_search_51 : decode cX1_search 51 = .ok (.iconst 0, 1) := by decide +kernel
theorem dX1_search_52 : decode cX1_search 52 = .ok (.istore 6, 2) := by decide +kernel
theorem dX1_search_54 : decode cX1_search 54 = .ok (.iload 6, 2) := by decide +kernel
theorem dX1_search_56 : decode cX1_search 56 = .ok (.aload_n 0, 1) := by decide +kernel
theorem dX1_search_57 : decode cX1_search 57 = .ok (.getfield 46, 3) := by decide +kernel
theorem dX1_search_60 : decode cX1_search 60 = .ok (.if_icmp .ge 120, 3) := by decide +kernel
theorem dX1_search_63 : decode cX1_search 63 = .ok (.aload_n 0, 1) := by decide +kernel
theorem dX1_search_64 : decode cX1_search 64 = .ok (.iload 6, 2) := by decide +kernel
theorem dX1_search_66 : decode cX1_search 66 = .ok (.iload 5, 2) := by decide +kernel
theorem dX1_search_68 : decode cX1_search 68 = .ok (.invokevirtual 92, 3) := by decide +kernel
theorem dX1_search_71 : decode cX1_search 71 = .ok (.ifCond .gt 6, 3) := by decide +kernel
theorem dX1_search_74 : decode cX1_search 74 = .ok (.goto 100, 3) := by decide +kernel
theorem dX1_search_77 : decode cX1_search 77 = .ok (.aload_n 0, 1) := by decide +kernel
theorem dX1_search_78 : decode cX1_search 78 = .ok (.getfield 9, 3) := by decide +kernel
theorem dX1_search_81 : decode cX1_search 81 = .ok (.iload 6, 2) := by decide +kernel
theorem dX1_search_83 : decode cX1_search 83 = .ok (.iaload, 1) := by decide +kernel
theorem dX1_search_84 : decode cX1_search 84 = .ok (.iload 5, 2) := by decide +kernel
theorem dX1_search_86 : decode cX1_search 86 = .ok (.if_icmp .ne 13, 3) := by decide +kernel
theorem dX1_search_89 : decode cX1_search 89 = .ok (.aload_n 0, 1) := by decide +kernel
theorem dX1_search_90 : decode cX1_search 90 = .ok (.getfield 15, 3) := by decide +kernel
theorem dX1_search_93 : decode cX1_search 93 = .ok (.iload 6, 2) := by decide +kernel
theorem dX1_search_95 : decode cX1_search 95 = .ok (.iaload, 1) := by decide +kernel
theorem dX1_search_96 : decode cX1_search 96 = .ok (.goto 10, 3) := by decide +kernel
theorem dX1_search_99 : decode cX1_search 99 = .ok (.aload_n 0, 1) := by decide +kernel
theorem dX1_search_100 : decode cX1_search 100 = .ok (.getfield 9, 3) := by decide +kernel
theorem dX1_search_103 : decode cX1_search 103 = .ok (.iload 6, 2) := by decide +kernel
theorem dX1_search_105 : decode cX1_search 105 = .ok (.iaload, 1) := by decide +kernel
theorem dX1_search_106 : decode cX1_search 106 = .ok (.istore 7, 2) := by decide +kernel
theorem dX1_search_108 : decode cX1_search 108 = .ok (.aload_n 0, 1) := by decide +kernel
theorem dX1_search_109 : decode cX1_search 109 = .ok (.getfield 73, 3) := by decide +kernel
theorem dX1_search_112 : decode cX1_search 112 = .ok (.iload 7, 2) := by decide +kernel
theorem dX1_search_114 : decode cX1_search 114 = .ok (.invokestatic 84, 3) := by decide +kernel
theorem dX1_search_117 : decode cX1_search 117 = .ok (.ifCond .ne 57, 3) := by decide +kernel
theorem dX1_search_120 : decode cX1_search 120 = .ok (.iload_n 3, 1) := by decide +kernel
theorem dX1_search_121 : decode cX1_search 121 = .ok (.bipush 12, 2) := by decide +kernel
theorem dX1_search_123 : decode cX1_search 123 = .ok (.if_icmp .lt 6, 3) := by decide +kernel
theorem dX1_search_126 : decode cX1_search 126 = .ok (.goto 48, 3) := by decide +kernel
theorem dX1_search_129 : decode cX1_search 129 = .ok (.aload_n 0, 1) := by decide +kernel
theorem dX1_search_130 : decode cX1_search 130 = .ok (.dup, 1) := by decide +kernel
theorem dX1_search_131 : decode cX1_search 131 = .ok (.getfield 73, 3) := by decide +kernel
theorem dX1_search_134 : decode cX1_search 134 = .ok (.iconst 1, 1) := by decide +kernel
theorem dX1_search_135 : decode cX1_search 135 = .ok (.iload 7, 2) := by decide +kernel
theorem dX1_search_137 : decode cX1_search 137 = .ok (.ishl, 1) := by decide +kernel
theorem dX1_search_138 : decode cX1_search 138 = .ok (.ior, 1) := by decide +kernel
theorem dX1_search_139 : decode cX1_search 139 = .ok (.putfield 73, 3) := by decide +kernel
theorem dX1_search_142 : decode cX1_search 142 = .ok (.aload_n 0, 1) := by decide +kernel
theorem dX1_search_143 : decode cX1_search 143 = .ok (.getfield 31, 3) := by decide +kernel
theorem dX1_search_146 : decode cX1_search 146 = .ok (.iload 7, 2) := by decide +kernel
theorem dX1_search_148 : decode cX1_search 148 = .ok (.iload 6, 2) := by decide +kernel
theorem dX1_search_150 : decode cX1_search 150 = .ok (.iastore, 1) := by decide +kernel
theorem dX1_search_151 : decode cX1_search 151 = .ok (.iload_n 2, 1) := by decide +kernel
theorem dX1_search_152 : decode cX1_search 152 = .ok (.iload 7, 2) := by decide +kernel
theorem dX1_search_154 : decode cX1_search 154 = .ok (.invokestatic 84, 3) := by decide +kernel
theorem dX1_search_157 : decode cX1_search 157 = .ok (.ifCond .eq 6, 3) := by decide +kernel
theorem dX1_search_160 : decode cX1_search 160 = .ok (.iload 7, 2) := by decide +kernel
theorem dX1_search_162 : decode cX1_search 162 = .ok (.ireturn, 1) := by decide +kernel
theorem dX1_search_163 : decode cX1_search 163 = .ok (.aload_n 0, 1) := by decide +kernel
theorem dX1_search_164 : decode cX1_search 164 = .ok (.getfield 34, 3) := by decide +kernel
theorem dX1_search_167 : decode cX1_search 167 = .ok (.iload_n 3, 1) := by decide +kernel
theorem dX1_search_168 : decode cX1_search 168 = .ok (.iload 7, 2) := by decide +kernel
theorem dX1_search_170 : decode cX1_search 170 = .ok (.iastore, 1) := by decide +kernel
theorem dX1_search_171 : decode cX1_search 171 = .ok (.iinc 3 1, 3) := by decide +kernel
theorem dX1_search_174 : decode cX1_search 174 = .ok (.iinc 6 1, 3) := by decide +kernel
theorem dX1_search_177 : decode cX1_search 177 = .ok (.goto (-123), 3) := by decide +kernel
theorem dX1_search_180 : decode cX1_search 180 = .ok (.iinc 4 1, 3) := by decide +kernel
theorem dX1_search_183 : decode cX1_search 183 = .ok (.goto (-154), 3) := by decide +kernel
theorem dX1_search_186 : decode cX1_search 186 = .ok (.iconst (-1), 1) := by decide +kernel
theorem dX1_search_187 : decode cX1_search 187 = .ok (.ireturn, 1) := by decide +kernel
set_option maxRecDepth 100000 in
set_option maxHeartbeats 4000000 in
theorem B_X1_search_0 {κ : Nat → List Value → List Value → m2M → Prop} {D : Nat} {Q : Option Value → m2M → Prop} (h : m2_RL κ cX1_search RX1 8 (D + 1) (some .int) Q) (hD : 0 ≤ D) {x1 : Int32} {x2 : Int32} {μ : m2M} (k : ((fX11_hasBit x2 x1) = 1 → Q (some (.int x1)) (m2_si μ kF 10 ((1 : Int32) <<< (x1 &&& 31)))) ∧ (¬ (fX11_hasBit x2 x1) = 1 → κ 29 [.ref kF, .int x1, .int x2, .int 1, .int 0, .null, .null, .null] [] (m2_si (m2_si μ kF 10 ((1 : Int32) <<< (x1 &&& 31))) kF_queue ((0 : Int32)).toNatClampNeg x1))) : κ 0 [.ref kF, .int x1, .int x2, .null, .null, .null, .null, .null] [] μ := by
  have hB := h.b
  refine m2_aload_n hB dX1_search_0 rfl ?_
  refine m2_iconst hB dX1_search_1 (v := 1) (by decide) ?_
  refine m2_iload_n hB dX1_search_2 rfl ?_
  refine m2_ishl hB dX1_search_3 ?_
  refine m2_putI hB dX1_search_4 fl_X1_73 sh_kF rfl ?_
  refine m2_iload_n hB dX1_search_7 rfl ?_
  refine m2_iload_n hB dX1_search_8 rfl ?_
  refine m2_invNz hB (as := [.int x2, .int x1]) dX1_search_9 mn_X1_84 rfl (Nat.le_of_ble_eq_true rfl) rfl (P_X11_hasBit (by omega) (x2) (x1) _ ) (fun y1 μ2 hq3 => ?_)
  obtain ⟨⟨⟩, hq3⟩ := hq3
  subst μ2
  show κ 12 [.ref kF, .int x1, .int x2, .null, .null, .null, .null, .null] [.int (if (fX11_hasBit x2 x1) = 1 then 1 else 0 : Int32)] (m2_si μ kF 10 ((1 : Int32) <<< (x1 &&& 31)))
  by_cases q4 : (fX11_hasBit x2 x1) = 1
  · rw [if_pos q4]
    replace k := k.1 q4
    refine m2_if_eq hB dX1_search_12 (tgt := 17) (by decide) (fun q => absurd q (by decide)) (fun _ => ?_)
    refine m2_iload_n hB dX1_search_15 rfl ?_
    exact m2_iret h dX1_search_16 k
  · rw [if_neg q4]
    replace k := k.2 q4
    refine m2_if_eq hB dX1_search_12 (tgt := 17) (by decide) (fun _ => ?_) (fun q => absurd q (by decide))
    refine m2_aload_n hB dX1_search_17 rfl ?_
    refine m2_getR hB dX1_search_18 fl_X1_34 sh_kF (c1 := kF_queue) rfl ?_
    refine m2_iconst hB dX1_search_21 (v := 0) (by decide) ?_
    refine m2_iload_n hB dX1_search_22 rfl ?_
    refine m2_iast hB dX1_search_23 sh_kF_queue (vp_in_iff.mpr ⟨by decide, by decide⟩) ?_
    refine m2_iconst hB dX1_search_24 (v := 1) (by decide) ?_
    refine m2_istore_n hB (ls' := [.ref kF, .int x1, .int x2, .int 1, .null, .null, .null, .null]) dX1_search_25 rfl (by decide) rfl ?_
    refine m2_iconst hB dX1_search_26 (v := 0) (by decide) ?_
    refine m2_istore hB (ls' := [.ref kF, .int x1, .int x2, .int 1, .int 0, .null, .null, .null]) dX1_search_27 (by decide) rfl ?_
    exact k
set_option maxRecDepth 100000 in
set_option maxHeartbeats 4000000 in
theorem B_X1_search_29 {κ : Nat → List Value → List Value → m2M → Prop} {D : Nat} {Q : Option Value → m2M → Prop} (h : m2_RL κ cX1_search RX1 8 D (some .int) Q) {v1 : Int32} {v2 : Int32} {v3 : Int32} {v4 : Int32} {μ : m2M} (k : (v3 ≤ v4 → κ 186 [.ref kF, .int v1, .int v2, .int v3, .int v4, .null, .null, .null] [] μ) ∧ (¬ v3 ≤ v4 → (12 ≤ v4 → κ 186 [.ref kF, .int v1, .int v2, .int v3, .int v4, .null, .null, .null] [] μ) ∧ (¬ 12 ≤ v4 → (vp_in v4 12) ∧ (κ 54 [.ref kF, .int v1, .int v2, .int v3, .int v4, .int (μ.1 kF_queue (v4).toNatClampNeg), .int 0, .null] [] μ)))) : κ 29 [.ref kF, .int v1, .int v2, .int v3, .int v4, .null, .null, .null] [] μ := by
  have hB := h.b
  refine m2_iload hB dX1_search_29 rfl ?_
  refine m2_iload_n hB dX1_search_31 rfl ?_
  refine m2_icmp_ge hB dX1_search_32 (tgt := 186) (by decide) (fun q1 : v3 ≤ v4 => ?_) (fun q1 : ¬ v3 ≤ v4 => ?_)
  · replace k := k.1 q1
    exact k
  · replace k := k.2 q1
    refine m2_iload hB dX1_search_35 rfl ?_
    refine m2_bipush hB dX1_search_37 (v := 12) (by decide) ?_
    refine m2_icmp_ge hB dX1_search_39 (tgt := 186) (by decide) (fun q2 : 12 ≤ v4 => ?_) (fun q2 : ¬ 12 ≤ v4 => ?_)
    · replace k := k.1 q2
      exact k
    · replace k := k.2 q2
      refine m2_aload_n hB dX1_search_42 rfl ?_
      refine m2_getR hB dX1_search_43 fl_X1_34 sh_kF (c1 := kF_queue) rfl ?_
      refine m2_iload hB dX1_search_46 rfl ?_
      obtain ⟨hi3, k⟩ := k
      refine m2_iald hB dX1_search_48 sh_kF_queue hi3 ?_
      refine m2_istore hB (ls' := [.ref kF, .int v1, .int v2, .int v3, .int v4, .int (μ.1 kF_queue (v4).toNatClampNeg), .null, .null]) dX1_search_49 (by decide) rfl ?_
      refine m2_iconst hB dX1_search_51 (v := 0) (by decide) ?_
      refine m2_istore hB (ls' := [.ref kF, .int v1, .int v2, .int v3, .int v4, .int (μ.1 kF_queue (v4).toNatClampNeg), .int 0, .null]) dX1_search_52 (by decide) rfl ?_
      exact k
set_option maxRecDepth 100000 in
set_option maxHeartbeats 4000000 in
theorem B_X1_search_54 {κ : Nat → List Value → List Value → m2M → Prop} {D : Nat} {Q : Option Value → m2M → Prop} (h : m2_RL κ cX1_search RX1 8 (D + 1) (some .int) Q) (hD : 0 ≤ D) {v1 : Int32} {v2 : Int32} {v3 : Int32} {v4 : Int32} {v5 : Int32} {v6 : Int32} {μ : m2M} (k : ((μ.1 kF 7) ≤ v6 → κ 29 [.ref kF, .int v1, .int v2, .int v3, .int (v4 + 1), .null, .null, .null] [] μ) ∧ (¬ (μ.1 kF 7) ≤ v6 → (vp_in v6 21) ∧ ((0 < (fX1_free v6 v5 μ) → (¬ (μ.1 kF_a (v6).toNatClampNeg) = v5 → ((fX11_hasBit (μ.1 kF 10) (μ.1 kF_a (v6).toNatClampNeg)) = 1 → κ 174 [.ref kF, .int v1, .int v2, .int v3, .int v4, .int v5, .int v6, .null] [] μ) ∧ (¬ (fX11_hasBit (μ.1 kF 10) (μ.1 kF_a (v6).toNatClampNeg)) = 1 → (v3 < 12 → (vp_in (μ.1 kF_a (v6).toNatClampNeg) 12) ∧ (((fX11_hasBit v2 (μ.1 kF_a (v6).toNatClampNeg)) = 1 → Q (some (.int (μ.1 kF_a (v6).toNatClampNeg))) (m2_si (m2_si μ kF 10 ((μ.1 kF 10) ||| ((1 : Int32) <<< ((μ.1 kF_a (v6).toNatClampNeg) &&& 31)))) kF_via ((μ.1 kF_a (v6).toNatClampNeg)).toNatClampNeg v6)) ∧ (¬ (fX11_hasBit v2 (μ.1 kF_a (v6).toNatClampNeg)) = 1 → (vp_in v3 12) ∧ (κ 174 [.ref kF, .int v1, .int v2, .int (v3 + 1), .int v4, .int v5, .int v6, .null] [] (m2_si (m2_si (m2_si μ kF 10 ((μ.1 kF 10) ||| ((1 : Int32) <<< ((μ.1 kF_a (v6).toNatClampNeg) &&& 31)))) kF_via ((μ.1 kF_a (v6).toNatClampNeg)).toNatClampNeg v6) kF_queue (v3).toNatClampNeg (μ.1 kF_a (v6).toNatClampNeg)))))) ∧ (¬ v3 < 12 → κ 174 [.ref kF, .int v1, .int v2, .int v3, .int v4, .int v5, .int v6, .null] [] μ))) ∧ ((μ.1 kF_a (v6).toNatClampNeg) = v5 → ((fX11_hasBit (μ.1 kF 10) (μ.1 kF_b (v6).toNatClampNeg)) = 1 → κ 174 [.ref kF, .int v1, .int v2, .int v3, .int v4, .int v5, .int v6, .null] [] μ) ∧ (¬ (fX11_hasBit (μ.1 kF 10) (μ.1 kF_b (v6).toNatClampNeg)) = 1 → (v3 < 12 → (vp_in (μ.1 kF_b (v6).toNatClampNeg) 12) ∧ (((fX11_hasBit v2 (μ.1 kF_b (v6).toNatClampNeg)) = 1 → Q (some (.int (μ.1 kF_b (v6).toNatClampNeg))) (m2_si (m2_si μ kF 10 ((μ.1 kF 10) ||| ((1 : Int32) <<< ((μ.1 kF_b (v6).toNatClampNeg) &&& 31)))) kF_via ((μ.1 kF_b (v6).toNatClampNeg)).toNatClampNeg v6)) ∧ (¬ (fX11_hasBit v2 (μ.1 kF_b (v6).toNatClampNeg)) = 1 → (vp_in v3 12) ∧ (κ 174 [.ref kF, .int v1, .int v2, .int (v3 + 1), .int v4, .int v5, .int v6, .null] [] (m2_si (m2_si (m2_si μ kF 10 ((μ.1 kF 10) ||| ((1 : Int32) <<< ((μ.1 kF_b (v6).toNatClampNeg) &&& 31)))) kF_via ((μ.1 kF_b (v6).toNatClampNeg)).toNatClampNeg v6) kF_queue (v3).toNatClampNeg (μ.1 kF_b (v6).toNatClampNeg)))))) ∧ (¬ v3 < 12 → κ 174 [.ref kF, .int v1, .int v2, .int v3, .int v4, .int v5, .int v6, .null] [] μ)))) ∧ (¬ 0 < (fX1_free v6 v5 μ) → κ 174 [.ref kF, .int v1, .int v2, .int v3, .int v4, .int v5, .int v6, .null] [] μ)))) : κ 54 [.ref kF, .int v1, .int v2, .int v3, .int v4, .int v5, .int v6, .null] [] μ := by
  have hB := h.b
  refine m2_iload hB dX1_search_54 rfl ?_
  refine m2_aload_n hB dX1_search_56 rfl ?_
  refine m2_getI hB dX1_search_57 fl_X1_46 sh_kF rfl ?_
  refine m2_icmp_ge hB dX1_search_60 (tgt := 180) (by decide) (fun q1 : (μ.1 kF 7) ≤ v6 => ?_) (fun q1 : ¬ (μ.1 kF 7) ≤ v6 => ?_)
  · replace k := k.1 q1
    refine m2_iinc hB (ls' := [.ref kF, .int v1, .int v2, .int v3, .int (v4 + 1), .int v5, .int v6, .null]) (v := (v4 + 1)) dX1_search_180 rfl (by decide) rfl rfl ?_
    refine m2_goto hB dX1_search_183 (tgt := 29) (by decide) ?_
    exact m2_weak (ls' := [.ref kF, .int v1, .int v2, .int v3, .int (v4 + 1), .null, .null, .null]) hB ⟨Or.inr rfl, Or.inr rfl, Or.inr rfl, Or.inr rfl, Or.inr rfl, Or.inl rfl, Or.inl rfl, Or.inl rfl, trivial⟩ k
  · replace k := k.2 q1
    refine m2_aload_n hB dX1_search_63 rfl ?_
    refine m2_iload hB dX1_search_64 rfl ?_
    refine m2_iload hB dX1_search_66 rfl ?_
    obtain ⟨hs2, k⟩ := k
    refine m2_invi hB (as := [.int v6, .int v5]) dX1_search_68 mv_X1_92 rfl sh_kF rfl (Nat.le_of_ble_eq_true rfl) rfl (P_X1_free (by omega) (v6) (v5) _ hs2) (fun y3 μ4 hq5 => ?_)
    obtain ⟨⟨⟩, hq5⟩ := hq5
    subst μ4
    refine m2_if_gt hB dX1_search_71 (tgt := 77) (by decide) (fun q6 : 0 < (fX1_free v6 v5 μ) => ?_) (fun q6 : ¬ 0 < (fX1_free v6 v5 μ) => ?_)
    · replace k := k.1 q6
      refine m2_aload_n hB dX1_search_77 rfl ?_
      refine m2_getR hB dX1_search_78 fl_X1_9 sh_kF (c1 := kF_a) rfl ?_
      refine m2_iload hB dX1_search_81 rfl ?_
      have hi7 := hs2
      refine m2_iald hB dX1_search_83 sh_kF_a hi7 ?_
      refine m2_iload hB dX1_search_84 rfl ?_
      refine m2_icmp_ne hB dX1_search_86 (tgt := 99) (by decide) (fun q9 : ¬ (μ.1 kF_a (v6).toNatClampNeg) = v5 => ?_) (fun q9 : (μ.1 kF_a (v6).toNatClampNeg) = v5 => ?_)
      · replace k := k.1 q9
        refine m2_aload_n hB dX1_search_99 rfl ?_
        refine m2_getR hB dX1_search_100 fl_X1_9 sh_kF (c1 := kF_a) rfl ?_
        refine m2_iload hB dX1_search_103 rfl ?_
        have hi10 := hs2
        refine m2_iald hB dX1_search_105 sh_kF_a hi10 ?_
        refine m2_istore hB (ls' := [.ref kF, .int v1, .int v2, .int v3, .int v4, .int v5, .int v6, .int (μ.1 kF_a (v6).toNatClampNeg)]) dX1_search_106 (by decide) rfl ?_
        refine m2_aload_n hB dX1_search_108 rfl ?_
        refine m2_getI hB dX1_search_109 fl_X1_73 sh_kF rfl ?_
        refine m2_iload hB dX1_search_112 rfl ?_
        refine m2_invNz hB (as := [.int (μ.1 kF 10), .int (μ.1 kF_a (v6).toNatClampNeg)]) dX1_search_114 mn_X1_84 rfl (Nat.le_of_ble_eq_true rfl) rfl (P_X11_hasBit (by omega) ((μ.1 kF 10)) ((μ.1 kF_a (v6).toNatClampNeg)) _ ) (fun y11 μ12 hq13 => ?_)
        obtain ⟨⟨⟩, hq13⟩ := hq13
        subst μ12
        show κ 117 [.ref kF, .int v1, .int v2, .int v3, .int v4, .int v5, .int v6, .int (μ.1 kF_a (v6).toNatClampNeg)] [.int (if (fX11_hasBit (μ.1 kF 10) (μ.1 kF_a (v6).toNatClampNeg)) = 1 then 1 else 0 : Int32)] μ
        by_cases q14 : (fX11_hasBit (μ.1 kF 10) (μ.1 kF_a (v6).toNatClampNeg)) = 1
        · rw [if_pos q14]
          replace k := k.1 q14
          refine m2_if_ne hB dX1_search_117 (tgt := 174) (by decide) (fun _ => ?_) (fun q => absurd q (by decide))
          exact m2_weak (ls' := [.ref kF, .int v1, .int v2, .int v3, .int v4, .int v5, .int v6, .null]) hB ⟨Or.inr rfl, Or.inr rfl, Or.inr rfl, Or.inr rfl, Or.inr rfl, Or.inr rfl, Or.inr rfl, Or.inl rfl, trivial⟩ k
        · rw [if_neg q14]
          replace k := k.2 q14
          refine m2_if_ne hB dX1_search_117 (tgt := 174) (by decide) (fun q => absurd q (by decide)) (fun _ => ?_)
          refine m2_iload_n hB dX1_search_120 rfl ?_
          refine m2_bipush hB dX1_search_121 (v := 12) (by decide) ?_
          refine m2_icmp_lt hB dX1_search_123 (tgt := 129) (by decide) (fun q15 : v3 < 12 => ?_) (fun q15 : ¬ v3 < 12 => ?_)
          · replace k := k.1 q15
            refine m2_aload_n hB dX1_search_129 rfl ?_
            refine m2_dup hB dX1_search_130 rfl ?_
            refine m2_getI hB dX1_search_131 fl_X1_73 sh_kF rfl ?_
            refine m2_iconst hB dX1_search_134 (v := 1) (by decide) ?_
            refine m2_iload hB dX1_search_135 rfl ?_
            refine m2_ishl hB dX1_search_137 ?_
            refine m2_ior hB dX1_search_138 ?_
            refine m2_putI hB dX1_search_139 fl_X1_73 sh_kF rfl ?_
            refine m2_aload_n hB dX1_search_142 rfl ?_
            refine m2_getR hB dX1_search_143 fl_X1_31 sh_kF (c1 := kF_via) rfl ?_
            refine m2_iload hB dX1_search_146 rfl ?_
            refine m2_iload hB dX1_search_148 rfl ?_
            obtain ⟨hi16, k⟩ := k
            refine m2_iast hB dX1_search_150 sh_kF_via hi16 ?_
            refine m2_iload_n hB dX1_search_151 rfl ?_
            refine m2_iload hB dX1_search_152 rfl ?_
            refine m2_invNz hB (as := [.int v2, .int (μ.1 kF_a (v6).toNatClampNeg)]) dX1_search_154 mn_X1_84 rfl (Nat.le_of_ble_eq_true rfl) rfl (P_X11_hasBit (by omega) (v2) ((μ.1 kF_a (v6).toNatClampNeg)) _ ) (fun y17 μ18 hq19 => ?_)
            obtain ⟨⟨⟩, hq19⟩ := hq19
            subst μ18
            show κ 157 [.ref kF, .int v1, .int v2, .int v3, .int v4, .int v5, .int v6, .int (μ.1 kF_a (v6).toNatClampNeg)] [.int (if (fX11_hasBit v2 (μ.1 kF_a (v6).toNatClampNeg)) = 1 then 1 else 0 : Int32)] (m2_si (m2_si μ kF 10 ((μ.1 kF 10) ||| ((1 : Int32) <<< ((μ.1 kF_a (v6).toNatClampNeg) &&& 31)))) kF_via ((μ.1 kF_a (v6).toNatClampNeg)).toNatClampNeg v6)
            by_cases q20 : (fX11_hasBit v2 (μ.1 kF_a (v6).toNatClampNeg)) = 1
            · rw [if_pos q20]
              replace k := k.1 q20
              refine m2_if_eq hB dX1_search_157 (tgt := 163) (by decide) (fun q => absurd q (by decide)) (fun _ => ?_)
              refine m2_iload hB dX1_search_160 rfl ?_
              exact m2_iret h dX1_search_162 k
            · rw [if_neg q20]
              replace k := k.2 q20
              refine m2_if_eq hB dX1_search_157 (tgt := 163) (by decide) (fun _ => ?_) (fun q => absurd q (by decide))
              refine m2_aload_n hB dX1_search_163 rfl ?_
              refine m2_getR hB dX1_search_164 fl_X1_34 sh_kF (c1 := kF_queue) rfl ?_
              refine m2_iload_n hB dX1_search_167 rfl ?_
              refine m2_iload hB dX1_search_168 rfl ?_
              obtain ⟨hi21, k⟩ := k
              refine m2_iast hB dX1_search_170 sh_kF_queue hi21 ?_
              refine m2_iinc hB (ls' := [.ref kF, .int v1, .int v2, .int (v3 + 1), .int v4, .int v5, .int v6, .int (μ.1 kF_a (v6).toNatClampNeg)]) (v := (v3 + 1)) dX1_search_171 rfl (by decide) rfl rfl ?_
              exact m2_weak (ls' := [.ref kF, .int v1, .int v2, .int (v3 + 1), .int v4, .int v5, .int v6, .null]) hB ⟨Or.inr rfl, Or.inr rfl, Or.inr rfl, Or.inr rfl, Or.inr rfl, Or.inr rfl, Or.inr rfl, Or.inl rfl, trivial⟩ k
          · replace k := k.2 q15
            refine m2_goto hB dX1_search_126 (tgt := 174) (by decide) ?_
            exact m2_weak (ls' := [.ref kF, .int v1, .int v2, .int v3, .int v4, .int v5, .int v6, .null]) hB ⟨Or.inr rfl, Or.inr rfl, Or.inr rfl, Or.inr rfl, Or.inr rfl, Or.inr rfl, Or.inr rfl, Or.inl rfl, trivial⟩ k
      · replace k := k.2 q9
        refine m2_aload_n hB dX1_search_89 rfl ?_
        refine m2_getR hB dX1_search_90 fl_X1_15 sh_kF (c1 := kF_b) rfl ?_
        refine m2_iload hB dX1_search_93 rfl ?_
        have hi22 := hs2
        refine m2_iald hB dX1_search_95 sh_kF_b hi22 ?_
        refine m2_goto hB dX1_search_96 (tgt := 106) (by decide) ?_
        refine m2_istore hB (ls' := [.ref kF, .int v1, .int v2, .int v3, .int v4, .int v5, .int v6, .int (μ.1 kF_b (v6).toNatClampNeg)]) dX1_search_106 (by decide) rfl ?_
        refine m2_aload_n hB dX1_search_108 rfl ?_
        refine m2_getI hB dX1_search_109 fl_X1_73 sh_kF rfl ?_
        refine m2_iload hB dX1_search_112 rfl ?_
        refine m2_invNz hB (as := [.int (μ.1 kF 10), .int (μ.1 kF_b (v6).toNatClampNeg)]) dX1_search_114 mn_X1_84 rfl (Nat.le_of_ble_eq_true rfl) rfl (P_X11_hasBit (by omega) ((μ.1 kF 10)) ((μ.1 kF_b (v6).toNatClampNeg)) _ ) (fun y23 μ24 hq25 => ?_)
        obtain ⟨⟨⟩, hq25⟩ := hq25
        subst μ24
        show κ 117 [.ref kF, .int v1, .int v2, .int v3, .int v4, .int v5, .int v6, .int (μ.1 kF_b (v6).toNatClampNeg)] [.int (if (fX11_hasBit (μ.1 kF 10) (μ.1 kF_b (v6).toNatClampNeg)) = 1 then 1 else 0 : Int32)] μ
        by_cases q26 : (fX11_hasBit (μ.1 kF 10) (μ.1 kF_b (v6).toNatClampNeg)) = 1
        · rw [if_pos q26]
          replace k := k.1 q26
          refine m2_if_ne hB dX1_search_117 (tgt := 174) (by decide) (fun _ => ?_) (fun q => absurd q (by decide))
          exact m2_weak (ls' := [.ref kF, .int v1, .int v2, .int v3, .int v4, .int v5, .int v6, .null]) hB ⟨Or.inr rfl, Or.inr rfl, Or.inr rfl, Or.inr rfl, Or.inr rfl, Or.inr rfl, Or.inr rfl, Or.inl rfl, trivial⟩ k
        · rw [if_neg q26]
          replace k := k.2 q26
          refine m2_if_ne hB dX1_search_117 (tgt := 174) (by decide) (fun q => absurd q (by decide)) (fun _ => ?_)
          refine m2_iload_n hB dX1_search_120 rfl ?_
          refine m2_bipush hB dX1_search_121 (v := 12) (by decide) ?_
          refine m2_icmp_lt hB dX1_search_123 (tgt := 129) (by decide) (fun q27 : v3 < 12 => ?_) (fun q27 : ¬ v3 < 12 => ?_)
          · replace k := k.1 q27
            refine m2_aload_n hB dX1_search_129 rfl ?_
            refine m2_dup hB dX1_search_130 rfl ?_
            refine m2_getI hB dX1_search_131 fl_X1_73 sh_kF rfl ?_
            refine m2_iconst hB dX1_search_134 (v := 1) (by decide) ?_
            refine m2_iload hB dX1_search_135 rfl ?_
            refine m2_ishl hB dX1_search_137 ?_
            refine m2_ior hB dX1_search_138 ?_
            refine m2_putI hB dX1_search_139 fl_X1_73 sh_kF rfl ?_
            refine m2_aload_n hB dX1_search_142 rfl ?_
            refine m2_getR hB dX1_search_143 fl_X1_31 sh_kF (c1 := kF_via) rfl ?_
            refine m2_iload hB dX1_search_146 rfl ?_
            refine m2_iload hB dX1_search_148 rfl ?_
            obtain ⟨hi28, k⟩ := k
            refine m2_iast hB dX1_search_150 sh_kF_via hi28 ?_
            refine m2_iload_n hB dX1_search_151 rfl ?_
            refine m2_iload hB dX1_search_152 rfl ?_
            refine m2_invNz hB (as := [.int v2, .int (μ.1 kF_b (v6).toNatClampNeg)]) dX1_search_154 mn_X1_84 rfl (Nat.le_of_ble_eq_true rfl) rfl (P_X11_hasBit (by omega) (v2) ((μ.1 kF_b (v6).toNatClampNeg)) _ ) (fun y29 μ30 hq31 => ?_)
            obtain ⟨⟨⟩, hq31⟩ := hq31
            subst μ30
            show κ 157 [.ref kF, .int v1, .int v2, .int v3, .int v4, .int v5, .int v6, .int (μ.1 kF_b (v6).toNatClampNeg)] [.int (if (fX11_hasBit v2 (μ.1 kF_b (v6).toNatClampNeg)) = 1 then 1 else 0 : Int32)] (m2_si (m2_si μ kF 10 ((μ.1 kF 10) ||| ((1 : Int32) <<< ((μ.1 kF_b (v6).toNatClampNeg) &&& 31)))) kF_via ((μ.1 kF_b (v6).toNatClampNeg)).toNatClampNeg v6)
            by_cases q32 : (fX11_hasBit v2 (μ.1 kF_b (v6).toNatClampNeg)) = 1
            · rw [if_pos q32]
              replace k := k.1 q32
              refine m2_if_eq hB dX1_search_157 (tgt := 163) (by decide) (fun q => absurd q (by decide)) (fun _ => ?_)
              refine m2_iload hB dX1_search_160 rfl ?_
              exact m2_iret h dX1_search_162 k
            · rw [if_neg q32]
              replace k := k.2 q32
              refine m2_if_eq hB dX1_search_157 (tgt := 163) (by decide) (fun _ => ?_) (fun q => absurd q (by decide))
              refine m2_aload_n hB dX1_search_163 rfl ?_
              refine m2_getR hB dX1_search_164 fl_X1_34 sh_kF (c1 := kF_queue) rfl ?_
              refine m2_iload_n hB dX1_search_167 rfl ?_
              refine m2_iload hB dX1_search_168 rfl ?_
              obtain ⟨hi33, k⟩ := k
              refine m2_iast hB dX1_search_170 sh_kF_queue hi33 ?_
              refine m2_iinc hB (ls' := [.ref kF, .int v1, .int v2, .int (v3 + 1), .int v4, .int v5, .int v6, .int (μ.1 kF_b (v6).toNatClampNeg)]) (v := (v3 + 1)) dX1_search_171 rfl (by decide) rfl rfl ?_
              exact m2_weak (ls' := [.ref kF, .int v1, .int v2, .int (v3 + 1), .int v4, .int v5, .int v6, .null]) hB ⟨Or.inr rfl, Or.inr rfl, Or.inr rfl, Or.inr rfl, Or.inr rfl, Or.inr rfl, Or.inr rfl, Or.inl rfl, trivial⟩ k
          · replace k := k.2 q27
            refine m2_goto hB dX1_search_126 (tgt := 174) (by decide) ?_
            exact m2_weak (ls' := [.ref kF, .int v1, .int v2, .int v3, .int v4, .int v5, .int v6, .null]) hB ⟨Or.inr rfl, Or.inr rfl, Or.inr rfl, Or.inr rfl, Or.inr rfl, Or.inr rfl, Or.inr rfl, Or.inl rfl, trivial⟩ k
    · replace k := k.2 q6
      refine m2_goto hB dX1_search_74 (tgt := 174) (by decide) ?_
      exact k
set_option maxRecDepth 100000 in
set_option maxHeartbeats 4000000 in
theorem B_X1_search_174 {κ : Nat → List Value → List Value → m2M → Prop} {D : Nat} {Q : Option Value → m2M → Prop} (h : m2_RL κ cX1_search RX1 8 D (some .int) Q) {v1 : Int32} {v2 : Int32} {v3 : Int32} {v4 : Int32} {v5 : Int32} {v6 : Int32} {μ : m2M} (k : κ 54 [.ref kF, .int v1, .int v2, .int v3, .int v4, .int v5, .int (v6 + 1), .null] [] μ) : κ 174 [.ref kF, .int v1, .int v2, .int v3, .int v4, .int v5, .int v6, .null] [] μ := by
  have hB := h.b
  refine m2_iinc hB (ls' := [.ref kF, .int v1, .int v2, .int v3, .int v4, .int v5, .int (v6 + 1), .null]) (v := (v6 + 1)) dX1_search_174 rfl (by decide) rfl rfl ?_
  refine m2_goto hB dX1_search_177 (tgt := 54) (by decide) ?_
  exact k
set_option maxRecDepth 100000 in
set_option maxHeartbeats 4000000 in
theorem B_X1_search_186 {κ : Nat → List Value → List Value → m2M → Prop} {D : Nat} {Q : Option Value → m2M → Prop} (h : m2_RL κ cX1_search RX1 8 D (some .int) Q) {v1 : Int32} {v2 : Int32} {v3 : Int32} {v4 : Int32} {μ : m2M} (k : Q (some (.int (-1))) μ) : κ 186 [.ref kF, .int v1, .int v2, .int v3, .int v4, .null, .null, .null] [] μ := by
  have hB := h.b
  refine m2_iconst hB dX1_search_186 (v := (-1)) (by decide) ?_
  exact m2_iret h dX1_search_187 k
theorem dX1_narrowest_0 : decode cX1_narrowest 0 = .ok (.sipush 2000, 3) := by decide +kernel
theorem dX1_narrowest_3 : decode cX1_narrowest 3 = .ok (.istore_n 3, 1) := by decide +kernel
theorem dX1_narrowest_4 : decode cX1_narrowest 4 = .ok (.iload_n 2, 1) := by decide +kernel
theorem dX1_narrowest_5 : decode cX1_narrowest 5 = .ok (.istore 4, 2) := by decide +kernel
theorem dX1_narrowest_7 : decode cX1_narrowest 7 = .ok (.iconst 0, 1) := by decide +kernel
theorem dX1_narrowest_8 : decode cX1_narrowest 8 = .ok (.istore 5, 2) := by decide +kernel
theorem dX1_narrowest_10 : decode cX1_narrowest 10 = .ok (.iload 5, 2) := by decide +kernel
theorem dX1_narrowest_12 : decode cX1_narrowest 12 = .ok (.bipush 12, 2) := by decide +kernel
theorem dX1_narrowest_14 : decode cX1_narrowest 14 = .ok (.if_icmp .ge 68, 3) := by decide +kernel
theorem dX1_narrowest_17 : decode cX1_narrowest 17 = .ok (.iload 4, 2) := by decide +kernel
theorem dX1_narrowest_19 : decode cX1_narrowest 19 = .ok (.iload_n 1, 1) := by decide +kernel
theorem dX1_narrowest_20 : decode cX1_narrowest 20 = .ok (.if_icmp .eq 62, 3) := by decide +kernel
theorem dX1_narrowest_23 : decode cX1_narrowest 23 = .ok (.aload_n 0, 1) := by decide +kernel
theorem dX1_narrowest_24 : decode cX1_narrowest 24 = .ok (.getfield 31, 3) := by decide +kernel
theorem dX1_narrowest_27 : decode cX1_narrowest 27 = .ok (.iload 4, 2) := by decide +kernel
theorem dX1_narrowest_29 : decode cX1_narrowest 29 = .ok (.iaload, 1) := by decide +kernel
theorem dX1_narrowest_30 : decode cX1_narrowest 30 = .ok (.istore 6, 2) := by decide +kernel
theorem dX1_narrowest_32 : decode cX1_narrowest 32 = .ok (.aload_n 0, 1) := by decide +kernel
theorem dX1_narrowest_33 : decode cX1_narrowest 33 = .ok (.getfield 9, 3) := by decide +kernel
theorem dX1_narrowest_36 : decode cX1_narrowest 36 = .ok (.iload 6, 2) := by decide +kernel
theorem dX1_narrowest_38 : decode cX1_narrowest 38 = .ok (.iaload, 1) := by decide +kernel
theorem dX1_narrowest_39 : decode cX1_narrowest 39 = .ok (.iload 4, 2) := by decide +kernel
theorem dX1_narrowest_41 : decode cX1_narrowest 41 = .ok (.if_icmp .ne 13, 3) := by decide +kernel
theorem dX1_narrowest_44 : decode cX1_narrowest 44 = .ok (.aload_n 0, 1) := by decide +kernel
theorem dX1_narrowest_45 : decode cX1_narrowest 45 = .ok (.getfield 15, 3) := by decide +kernel
theorem dX1_narrowest_48 : decode cX1_narrowest 48 = .ok (.iload 6, 2) := by decide +kernel
theorem dX1_narrowest_50 : decode cX1_narrowest 50 = .ok (.iaload, 1) := by decide +kernel
theorem dX1_narrowest_51 : decode cX1_narrowest 51 = .ok (.goto 10, 3) := by decide +kernel
theorem dX1_narrowest_54 : decode cX1_narrowest 54 = .ok (.aload_n 0, 1) := by decide +kernel
theorem dX1_narrowest_55 : decode cX1_narrowest 55 = .ok (.getfield 9, 3) := by decide +kernel
theorem dX1_narrowest_58 : decode cX1_narrowest 58 = .ok (.iload 6, 2) := by decide +kernel
theorem dX1_narrowest_60 : decode cX1_narrowest 60 = .ok (.iaload, 1) := by decide +kernel
theorem dX1_narrowest_61 : decode cX1_narrowest 61 = .ok (.istore 4, 2) := by decide +kernel
theorem dX1_narrowest_63 : decode cX1_narrowest 63 = .ok (.iload_n 3, 1) := by decide +kernel
theorem dX1_narrowest_64 : decode cX1_narrowest 64 = .ok (.aload_n 0, 1) := by decide +kernel
theorem dX1_narrowest_65 : decode cX1_narrowest 65 = .ok (.iload 6, 2) := by decide +kernel
theorem dX1_narrowest_67 : decode cX1_narrowest 67 = .ok (.iload 4, 2) := by decide +kernel
theorem dX1_narrowest_69 : decode cX1_narrowest 69 = .ok (.invokevirtual 92, 3) := by decide +kernel
theorem dX1_narrowest_72 : decode cX1_narrowest 72 = .ok (.invokestatic 95, 3) := by decide +kernel
theorem dX1_narrowest_75 : decode cX1_narrowest 75 = .ok (.istore_n 3, 1) := by decide +kernel
theorem dX1_narrowest_76 : decode cX1_narrowest 76 = .ok (.iinc 5 1, 3) := by decide +kernel
theorem dX1_narrowest_79 : decode cX1_narrowest 79 = .ok (.goto (-69), 3) := by decide +kernel
theorem dX1_narrowest_82 : decode cX1_narrowest 82 = .ok (.iload_n 3, 1) := by decide +kernel
theorem dX1_narrowest_83 : decode cX1_narrowest 83 = .ok (.ireturn, 1) := by decide +kernel
set_option maxRecDepth 100000 in
set_option maxHeartbeats 4000000 in
theorem B_X1_narrowest_0 {κ : Nat → List Value → List Value → m2M → Prop} {D : Nat} {Q : Option Value → m2M → Prop} (h : m2_RL κ cX1_narrowest RX1 7 D (some .int) Q) {x1 : Int32} {x2 : Int32} {μ : m2M} (k : κ 10 [.ref kF, .int x1, .int x2, .int 2000, .int x2, .int 0, .null] [] μ) : κ 0 [.ref kF, .int x1, .int x2, .null, .null, .null, .null] [] μ := by
  have hB := h.b
  refine m2_sipush hB dX1_narrowest_0 (v := 2000) (by decide) ?_
  refine m2_istore_n hB (ls' := [.ref kF, .int x1, .int x2, .int 2000, .null, .null, .null]) dX1_narrowest_3 rfl (by decide) rfl ?_
  refine m2_iload_n hB dX1_narrowest_4 rfl ?_
  refine m2_istore hB (ls' := [.ref kF, .int x1, .int x2, .int 2000, .int x2, .null, .null]) dX1_narrowest_5 (by decide) rfl ?_
  refine m2_iconst hB dX1_narrowest_7 (v := 0) (by decide) ?_
  refine m2_istore hB (ls' := [.ref kF, .int x1, .int x2, .int 2000, .int x2, .int 0, .null]) dX1_narrowest_8 (by decide) rfl ?_
  exact k
set_option maxRecDepth 100000 in
set_option maxHeartbeats 4000000 in
theorem B_X1_narrowest_10 {κ : Nat → List Value → List Value → m2M → Prop} {D : Nat} {Q : Option Value → m2M → Prop} (h : m2_RL κ cX1_narrowest RX1 7 (D + 1) (some .int) Q) (hD : 0 ≤ D) {v1 : Int32} {v2 : Int32} {v3 : Int32} {v4 : Int32} {v5 : Int32} {μ : m2M} (k : (12 ≤ v5 → Q (some (.int v3)) μ) ∧ (¬ 12 ≤ v5 → (v4 = v1 → Q (some (.int v3)) μ) ∧ (¬ v4 = v1 → (vp_in v4 12) ∧ ((vp_in (μ.1 kF_via (v4).toNatClampNeg) 21) ∧ ((¬ (μ.1 kF_a ((μ.1 kF_via (v4).toNatClampNeg)).toNatClampNeg) = v4 → κ 10 [.ref kF, .int v1, .int v2, .int (m2_min v3 (fX1_free (μ.1 kF_via (v4).toNatClampNeg) (μ.1 kF_a ((μ.1 kF_via (v4).toNatClampNeg)).toNatClampNeg) μ)), .int (μ.1 kF_a ((μ.1 kF_via (v4).toNatClampNeg)).toNatClampNeg), .int (v5 + 1), .null] [] μ) ∧ ((μ.1 kF_a ((μ.1 kF_via (v4).toNatClampNeg)).toNatClampNeg) = v4 → κ 10 [.ref kF, .int v1, .int v2, .int (m2_min v3 (fX1_free (μ.1 kF_via (v4).toNatClampNeg) (μ.1 kF_b ((μ.1 kF_via (v4).toNatClampNeg)).toNatClampNeg) μ)), .int (μ.1 kF_b ((μ.1 kF_via (v4).toNatClampNeg)).toNatClampNeg), .int (v5 + 1), .null] [] μ)))))) : κ 10 [.ref kF, .int v1, .int v2, .int v3, .int v4, .int v5, .null] [] μ := by
  have hB := h.b
  refine m2_iload hB dX1_narrowest_10 rfl ?_
  refine m2_bipush hB dX1_narrowest_12 (v := 12) (by decide) ?_
  refine m2_icmp_ge hB dX1_narrowest_14 (tgt := 82) (by decide) (fun q2 : 12 ≤ v5 => ?_) (fun q2 : ¬ 12 ≤ v5 => ?_)
  · replace k := k.1 q2
    refine m2_iload_n hB dX1_narrowest_82 rfl ?_
    exact m2_iret h dX1_narrowest_83 k
  · replace k := k.2 q2
    refine m2_iload hB dX1_narrowest_17 rfl ?_
    refine m2_iload_n hB dX1_narrowest_19 rfl ?_
    refine m2_icmp_eq hB dX1_narrowest_20 (tgt := 82) (by decide) (fun q4 : v4 = v1 => ?_) (fun q4 : ¬ v4 = v1 => ?_)
    · replace k := k.1 q4
      refine m2_iload_n hB dX1_narrowest_82 rfl ?_
      exact m2_iret h dX1_narrowest_83 k
    · replace k := k.2 q4
      refine m2_aload_n hB dX1_narrowest_23 rfl ?_
      refine m2_getR hB dX1_narrowest_24 fl_X1_31 sh_kF (c1 := kF_via) rfl ?_
      refine m2_iload hB dX1_narrowest_27 rfl ?_
      obtain ⟨hi5, k⟩ := k
      refine m2_iald hB dX1_narrowest_29 sh_kF_via hi5 ?_
      refine m2_istore hB (ls' := [.ref kF, .int v1, .int v2, .int v3, .int v4, .int v5, .int (μ.1 kF_via (v4).toNatClampNeg)]) dX1_narrowest_30 (by decide) rfl ?_
      refine m2_aload_n hB dX1_narrowest_32 rfl ?_
      refine m2_getR hB dX1_narrowest_33 fl_X1_9 sh_kF (c1 := kF_a) rfl ?_
      refine m2_iload hB dX1_narrowest_36 rfl ?_
      obtain ⟨hi6, k⟩ := k
      refine m2_iald hB dX1_narrowest_38 sh_kF_a hi6 ?_
      refine m2_iload hB dX1_narrowest_39 rfl ?_
      refine m2_icmp_ne hB dX1_narrowest_41 (tgt := 54) (by decide) (fun q8 : ¬ (μ.1 kF_a ((μ.1 kF_via (v4).toNatClampNeg)).toNatClampNeg) = v4 => ?_) (fun q8 : (μ.1 kF_a ((μ.1 kF_via (v4).toNatClampNeg)).toNatClampNeg) = v4 => ?_)
      · replace k := k.1 q8
        refine m2_aload_n hB dX1_narrowest_54 rfl ?_
        refine m2_getR hB dX1_narrowest_55 fl_X1_9 sh_kF (c1 := kF_a) rfl ?_
        refine m2_iload hB dX1_narrowest_58 rfl ?_
        have hi9 := hi6
        refine m2_iald hB dX1_narrowest_60 sh_kF_a hi9 ?_
        refine m2_istore hB (ls' := [.ref kF, .int v1, .int v2, .int v3, .int (μ.1 kF_a ((μ.1 kF_via (v4).toNatClampNeg)).toNatClampNeg), .int v5, .int (μ.1 kF_via (v4).toNatClampNeg)]) dX1_narrowest_61 (by decide) rfl ?_
        refine m2_iload_n hB dX1_narrowest_63 rfl ?_
        refine m2_aload_n hB dX1_narrowest_64 rfl ?_
        refine m2_iload hB dX1_narrowest_65 rfl ?_
        refine m2_iload hB dX1_narrowest_67 rfl ?_
        have hs10 := hi6
        refine m2_invi hB (as := [.int (μ.1 kF_via (v4).toNatClampNeg), .int (μ.1 kF_a ((μ.1 kF_via (v4).toNatClampNeg)).toNatClampNeg)]) dX1_narrowest_69 mv_X1_92 rfl sh_kF rfl (Nat.le_of_ble_eq_true rfl) rfl (P_X1_free (by omega) ((μ.1 kF_via (v4).toNatClampNeg)) ((μ.1 kF_a ((μ.1 kF_via (v4).toNatClampNeg)).toNatClampNeg)) _ hs10) (fun y11 μ12 hq13 => ?_)
        obtain ⟨⟨⟩, hq13⟩ := hq13
        subst μ12
        refine m2_mmin hB dX1_narrowest_72 ms_X1_95 (Nat.le_of_ble_eq_true rfl) ?_
        refine m2_istore_n hB (ls' := [.ref kF, .int v1, .int v2, .int (m2_min v3 (fX1_free (μ.1 kF_via (v4).toNatClampNeg) (μ.1 kF_a ((μ.1 kF_via (v4).toNatClampNeg)).toNatClampNeg) μ)), .int (μ.1 kF_a ((μ.1 kF_via (v4).toNatClampNeg)).toNatClampNeg), .int v5, .int (μ.1 kF_via (v4).toNatClampNeg)]) dX1_narrowest_75 rfl (by decide) rfl ?_
        refine m2_iinc hB (ls' := [.ref kF, .int v1, .int v2, .int (m2_min v3 (fX1_free (μ.1 kF_via (v4).toNatClampNeg) (μ.1 kF_a ((μ.1 kF_via (v4).toNatClampNeg)).toNatClampNeg) μ)), .int (μ.1 kF_a ((μ.1 kF_via (v4).toNatClampNeg)).toNatClampNeg), .int (v5 + 1), .int (μ.1 kF_via (v4).toNatClampNeg)]) (v := (v5 + 1)) dX1_narrowest_76 rfl (by decide) rfl rfl ?_
        refine m2_goto hB dX1_narrowest_79 (tgt := 10) (by decide) ?_
        exact m2_weak (ls' := [.ref kF, .int v1, .int v2, .int (m2_min v3 (fX1_free (μ.1 kF_via (v4).toNatClampNeg) (μ.1 kF_a ((μ.1 kF_via (v4).toNatClampNeg)).toNatClampNeg) μ)), .int (μ.1 kF_a ((μ.1 kF_via (v4).toNatClampNeg)).toNatClampNeg), .int (v5 + 1), .null]) hB ⟨Or.inr rfl, Or.inr rfl, Or.inr rfl, Or.inr rfl, Or.inr rfl, Or.inr rfl, Or.inl rfl, trivial⟩ k
      · replace k := k.2 q8
        refine m2_aload_n hB dX1_narrowest_44 rfl ?_
        refine m2_getR hB dX1_narrowest_45 fl_X1_15 sh_kF (c1 := kF_b) rfl ?_
        refine m2_iload hB dX1_narrowest_48 rfl ?_
        have hi14 := hi6
        refine m2_iald hB dX1_narrowest_50 sh_kF_b hi14 ?_
        refine m2_goto hB dX1_narrowest_51 (tgt := 61) (by decide) ?_
        refine m2_istore hB (ls' := [.ref kF, .int v1, .int v2, .int v3, .int (μ.1 kF_b ((μ.1 kF_via (v4).toNatClampNeg)).toNatClampNeg), .int v5, .int (μ.1 kF_via (v4).toNatClampNeg)]) dX1_narrowest_61 (by decide) rfl ?_
        refine m2_iload_n hB dX1_narrowest_63 rfl ?_
        refine m2_aload_n hB dX1_narrowest_64 rfl ?_
        refine m2_iload hB dX1_narrowest_65 rfl ?_
        refine m2_iload hB dX1_narrowest_67 rfl ?_
        have hs15 := hi6
        refine m2_invi hB (as := [.int (μ.1 kF_via (v4).toNatClampNeg), .int (μ.1 kF_b ((μ.1 kF_via (v4).toNatClampNeg)).toNatClampNeg)]) dX1_narrowest_69 mv_X1_92 rfl sh_kF rfl (Nat.le_of_ble_eq_true rfl) rfl (P_X1_free (by omega) ((μ.1 kF_via (v4).toNatClampNeg)) ((μ.1 kF_b ((μ.1 kF_via (v4).toNatClampNeg)).toNatClampNeg)) _ hs15) (fun y16 μ17 hq18 => ?_)
        obtain ⟨⟨⟩, hq18⟩ := hq18
        subst μ17
        refine m2_mmin hB dX1_narrowest_72 ms_X1_95 (Nat.le_of_ble_eq_true rfl) ?_
        refine m2_istore_n hB (ls' := [.ref kF, .int v1, .int v2, .int (m2_min v3 (fX1_free (μ.1 kF_via (v4).toNatClampNeg) (μ.1 kF_b ((μ.1 kF_via (v4).toNatClampNeg)).toNatClampNeg) μ)), .int (μ.1 kF_b ((μ.1 kF_via (v4).toNatClampNeg)).toNatClampNeg), .int v5, .int (μ.1 kF_via (v4).toNatClampNeg)]) dX1_narrowest_75 rfl (by decide) rfl ?_
        refine m2_iinc hB (ls' := [.ref kF, .int v1, .int v2, .int (m2_min v3 (fX1_free (μ.1 kF_via (v4).toNatClampNeg) (μ.1 kF_b ((μ.1 kF_via (v4).toNatClampNeg)).toNatClampNeg) μ)), .int (μ.1 kF_b ((μ.1 kF_via (v4).toNatClampNeg)).toNatClampNeg), .int (v5 + 1), .int (μ.1 kF_via (v4).toNatClampNeg)]) (v := (v5 + 1)) dX1_narrowest_76 rfl (by decide) rfl rfl ?_
        refine m2_goto hB dX1_narrowest_79 (tgt := 10) (by decide) ?_
        exact m2_weak (ls' := [.ref kF, .int v1, .int v2, .int (m2_min v3 (fX1_free (μ.1 kF_via (v4).toNatClampNeg) (μ.1 kF_b ((μ.1 kF_via (v4).toNatClampNeg)).toNatClampNeg) μ)), .int (μ.1 kF_b ((μ.1 kF_via (v4).toNatClampNeg)).toNatClampNeg), .int (v5 + 1), .null]) hB ⟨Or.inr rfl, Or.inr rfl, Or.inr rfl, Or.inr rfl, Or.inr rfl, Or.inr rfl, Or.inl rfl, trivial⟩ k
theorem dX1_push_0 : decode cX1_push 0 = .ok (.iload_n 2, 1) := by decide +kernel
theorem dX1_push_1 : decode cX1_push 1 = .ok (.istore 4, 2) := by decide +kernel
theorem dX1_push_3 : decode cX1_push 3 = .ok (.iconst 0, 1) := by decide +kernel
theorem dX1_push_4 : decode cX1_push 4 = .ok (.istore 5, 2) := by decide +kernel
theorem dX1_push_6 : decode cX1_push 6 = .ok (.iload 5, 2) := by decide +kernel
theorem dX1_push_8 : decode cX1_push 8 = .ok (.bipush 12, 2) := by decide +kernel
theorem dX1_push_10 : decode cX1_push 10 = .ok (.if_icmp .ge 88, 3) := by decide +kernel
theorem dX1_push_13 : decode cX1_push 13 = .ok (.iload 4, 2) := by decide +kernel
theorem dX1_push_15 : decode cX1_push 15 = .ok (.iload_n 1, 1) := by decide +kernel
theorem dX1_push_16 : decode cX1_push 16 = .ok (.if_icmp .eq 82, 3) := by decide +kernel
theorem dX1_push_19 : decode cX1_push 19 = .ok (.aload_n 0, 1) := by decide +kernel
theorem dX1_push_20 : decode cX1_push 20 = .ok (.getfield 31, 3) := by decide +kernel
theorem dX1_push_23 : decode cX1_push 23 = .ok (.iload 4, 2) := by decide +kernel
theorem dX1_push_25 : decode cX1_push 25 = .ok (.iaload, 1) := by decide +kernel
theorem dX1_push_26 : decode cX1_push 26 = .ok (.istore 6, 2) := by decide +kernel
theorem dX1_push_28 : decode cX1_push 28 = .ok (.aload_n 0, 1) := by decide +kernel
theorem dX1_push_29 : decode cX1_push 29 = .ok (.getfield 15, 3) := by decide +kernel
theorem dX1_push_32 : decode cX1_push 32 = .ok (.iload 6, 2) := by decide +kernel
theorem dX1_push_34 : decode cX1_push 34 = .ok (.iaload, 1) := by decide +kernel
theorem dX1_push_35 : decode cX1_push 35 = .ok (.iload 4, 2) := by decide +kernel
theorem dX1_push_37 : decode cX1_push 37 = .ok (.if_icmp .ne 7, 3) := by decide +kernel
theorem dX1_push_40 : decode cX1_push 40 = .ok (.iconst 1, 1) := by decide +kernel
theorem dX1_push_41 : decode cX1_push 41 = .ok (.goto 4, 3) := by decide +kernel
theorem dX1_push_44 : decode cX1_push 44 = .ok (.iconst 0, 1) := by decide +kernel
theorem dX1_push_45 : decode cX1_push 45 = .ok (.istore 7, 2) := by decide +kernel
theorem dX1_push_47 : decode cX1_push 47 = .ok (.aload_n 0, 1) := by decide +kernel
theorem dX1_push_48 : decode cX1_push 48 = .ok (.getfield 25, 3) := by decide +kernel
theorem dX1_push_51 : decode cX1_push 51 = .ok (.iload 6, 2) := by decide +kernel
theorem dX1_push_53 : decode cX1_push 53 = .ok (.dup2, 1) := by decide +kernel
theorem dX1_push_54 : decode cX1_push 54 = .ok (.iaload, 1) := by decide +kernel
theorem dX1_push_55 : decode cX1_push 55 = .ok (.iload 7, 2) := by decide +kernel
theorem dX1_push_57 : decode cX1_push 57 = .ok (.ifCond .eq 7, 3) := by decide +kernel
theorem dX1_push_60 : decode cX1_push 60 = .ok (.iload_n 3, 1) := by decide +kernel
theorem dX1_push_61 : decode cX1_push 61 = .ok (.goto 5, 3) := by decide +kernel
theorem dX1_push_64 : decode cX1_push 64 = .ok (.iload_n 3, 1) := by decide +kernel
theorem dX1_push_65 : decode cX1_push 65 = .ok (.ineg, 1) := by decide +kernel
theorem dX1_push_66 : decode cX1_push 66 = .ok (.iadd, 1) := by decide +kernel
theorem dX1_push_67 : decode cX1_push 67 = .ok (.iastore, 1) := by decide +kernel
theorem dX1_push_68 : decode cX1_push 68 = .ok (.iload 7, 2) := by decide +kernel
theorem dX1_push_70 : decode cX1_push 70 = .ok (.ifCond .eq 13, 3) := by decide +kernel
theorem dX1_push_73 : decode cX1_push 73 = .ok (.aload_n 0, 1) := by decide +kernel
theorem dX1_push_74 : decode cX1_push 74 = .ok (.getfield 9, 3) := by decide +kernel
theorem dX1_push_77 : decode cX1_push 77 = .ok (.iload 6, 2) := by decide +kernel
theorem dX1_push_79 : decode cX1_push 79 = .ok (.iaload, 1) := by decide +kernel
theorem dX1_push_80 : decode cX1_push 80 = .ok (.goto 10, 3) := by decide +kernel
theorem dX1_push_83 : decode cX1_push 83 = .ok (.aload_n 0, 1) := by decide +kernel
theorem dX1_push_84 : decode cX1_push 84 = .ok (.getfield 15, 3) := by decide +kernel
theorem dX1_push_87 : decode cX1_push 87 = .ok (.iload 6, 2) := by decide +kernel
theorem dX1_push_89 : decode cX1_push 89 = .ok (.iaload, 1) := by decide +kernel
theorem dX1_push_90 : decode cX1_push 90 = .ok (.istore 4, 2) := by decide +kernel
theorem dX1_push_92 : decode cX1_push 92 = .ok (.iinc 5 1, 3) := by decide +kernel
theorem dX1_push_95 : decode cX1_push 95 = .ok (.goto (-89), 3) := by decide +kernel
theorem dX1_push_98 : decode cX1_push 98 = .ok (.return_, 1) := by decide +kernel
set_option maxRecDepth 100000 in
set_option maxHeartbeats 4000000 in
theorem B_X1_push_0 {κ : Nat → List Value → List Value → m2M → Prop} {D : Nat} {Q : Option Value → m2M → Prop} (h : m2_RL κ cX1_push RX1 8 D none Q) {x1 : Int32} {x2 : Int32} {x3 : Int32} {μ : m2M} (k : κ 6 [.ref kF, .int x1, .int x2, .int x3, .int x2, .int 0, .null, .null] [] μ) : κ 0 [.ref kF, .int x1, .int x2, .int x3, .null, .null, .null, .null] [] μ := by
  have hB := h.b
  refine m2_iload_n hB dX1_push_0 rfl ?_
  refine m2_istore hB (ls' := [.ref kF, .int x1, .int x2, .int x3, .int x2, .null, .null, .null]) dX1_push_1 (by decide) rfl ?_
  refine m2_iconst hB dX1_push_3 (v := 0) (by decide) ?_
  refine m2_istore hB (ls' := [.ref kF, .int x1, .int x2, .int x3, .int x2, .int 0, .null, .null]) dX1_push_4 (by decide) rfl ?_
  exact k
set_option maxRecDepth 100000 in
set_option maxHeartbeats 4000000 in
theorem B_X1_push_6 {κ : Nat → List Value → List Value → m2M → Prop} {D : Nat} {Q : Option Value → m2M → Prop} (h : m2_RL κ cX1_push RX1 8 D none Q) {v1 : Int32} {v2 : Int32} {v3 : Int32} {v4 : Int32} {v5 : Int32} {μ : m2M} (k : (12 ≤ v5 → Q none μ) ∧ (¬ 12 ≤ v5 → (v4 = v1 → Q none μ) ∧ (¬ v4 = v1 → (vp_in v4 12) ∧ ((vp_in (μ.1 kF_via (v4).toNatClampNeg) 21) ∧ (((μ.1 kF_b ((μ.1 kF_via (v4).toNatClampNeg)).toNatClampNeg) = v4 → κ 6 [.ref kF, .int v1, .int v2, .int v3, .int (μ.1 kF_a ((μ.1 kF_via (v4).toNatClampNeg)).toNatClampNeg), .int (v5 + 1), .null, .null] [] (m2_si μ kF_net ((μ.1 kF_via (v4).toNatClampNeg)).toNatClampNeg ((μ.1 kF_net ((μ.1 kF_via (v4).toNatClampNeg)).toNatClampNeg) + v3))) ∧ (¬ (μ.1 kF_b ((μ.1 kF_via (v4).toNatClampNeg)).toNatClampNeg) = v4 → κ 6 [.ref kF, .int v1, .int v2, .int v3, .int (μ.1 kF_b ((μ.1 kF_via (v4).toNatClampNeg)).toNatClampNeg), .int (v5 + 1), .null, .null] [] (m2_si μ kF_net ((μ.1 kF_via (v4).toNatClampNeg)).toNatClampNeg ((μ.1 kF_net ((μ.1 kF_via (v4).toNatClampNeg)).toNatClampNeg) + (-v3))))))))) : κ 6 [.ref kF, .int v1, .int v2, .int v3, .int v4, .int v5, .null, .null] [] μ := by
  have hB := h.b
  refine m2_iload hB dX1_push_6 rfl ?_
  refine m2_bipush hB dX1_push_8 (v := 12) (by decide) ?_
  refine m2_icmp_ge hB dX1_push_10 (tgt := 98) (by decide) (fun q2 : 12 ≤ v5 => ?_) (fun q2 : ¬ 12 ≤ v5 => ?_)
  · replace k := k.1 q2
    exact m2_vret h dX1_push_98 k
  · replace k := k.2 q2
    refine m2_iload hB dX1_push_13 rfl ?_
    refine m2_iload_n hB dX1_push_15 rfl ?_
    refine m2_icmp_eq hB dX1_push_16 (tgt := 98) (by decide) (fun q4 : v4 = v1 => ?_) (fun q4 : ¬ v4 = v1 => ?_)
    · replace k := k.1 q4
      exact m2_vret h dX1_push_98 k
    · replace k := k.2 q4
      refine m2_aload_n hB dX1_push_19 rfl ?_
      refine m2_getR hB dX1_push_20 fl_X1_31 sh_kF (c1 := kF_via) rfl ?_
      refine m2_iload hB dX1_push_23 rfl ?_
      obtain ⟨hi5, k⟩ := k
      refine m2_iald hB dX1_push_25 sh_kF_via hi5 ?_
      refine m2_istore hB (ls' := [.ref kF, .int v1, .int v2, .int v3, .int v4, .int v5, .int (μ.1 kF_via (v4).toNatClampNeg), .null]) dX1_push_26 (by decide) rfl ?_
      refine m2_aload_n hB dX1_push_28 rfl ?_
      refine m2_getR hB dX1_push_29 fl_X1_15 sh_kF (c1 := kF_b) rfl ?_
      refine m2_iload hB dX1_push_32 rfl ?_
      obtain ⟨hi6, k⟩ := k
      refine m2_iald hB dX1_push_34 sh_kF_b hi6 ?_
      refine m2_iload hB dX1_push_35 rfl ?_
      have G8 : κ 45 [.ref kF, .int v1, .int v2, .int v3, .int v4, .int v5, .int (μ.1 kF_via (v4).toNatClampNeg), .null] [.int (if (μ.1 kF_b ((μ.1 kF_via (v4).toNatClampNeg)).toNatClampNeg) = v4 then 1 else 0 : Int32)] μ := by
        refine m2_istore hB (ls' := [.ref kF, .int v1, .int v2, .int v3, .int v4, .int v5, .int (μ.1 kF_via (v4).toNatClampNeg), .int (if (μ.1 kF_b ((μ.1 kF_via (v4).toNatClampNeg)).toNatClampNeg) = v4 then 1 else 0 : Int32)]) dX1_push_45 (by decide) rfl ?_
        refine m2_aload_n hB dX1_push_47 rfl ?_
        refine m2_getR hB dX1_push_48 fl_X1_25 sh_kF (c1 := kF_net) rfl ?_
        refine m2_iload hB dX1_push_51 rfl ?_
        refine m2_dup2 hB dX1_push_53 rfl rfl ?_
        have hi9 := hi6
        refine m2_iald hB dX1_push_54 sh_kF_net hi9 ?_
        refine m2_iload hB dX1_push_55 rfl ?_
        show κ 57 [.ref kF, .int v1, .int v2, .int v3, .int v4, .int v5, .int (μ.1 kF_via (v4).toNatClampNeg), .int (if (μ.1 kF_b ((μ.1 kF_via (v4).toNatClampNeg)).toNatClampNeg) = v4 then 1 else 0 : Int32)] [.int (if (μ.1 kF_b ((μ.1 kF_via (v4).toNatClampNeg)).toNatClampNeg) = v4 then 1 else 0 : Int32), .int (μ.1 kF_net ((μ.1 kF_via (v4).toNatClampNeg)).toNatClampNeg), .int (μ.1 kF_via (v4).toNatClampNeg), .ref kF_net] μ
        by_cases q10 : (μ.1 kF_b ((μ.1 kF_via (v4).toNatClampNeg)).toNatClampNeg) = v4
        · rw [if_pos q10]
          replace k := k.1 q10
          refine m2_if_eq hB dX1_push_57 (tgt := 64) (by decide) (fun q => absurd q (by decide)) (fun _ => ?_)
          refine m2_iload_n hB dX1_push_60 rfl ?_
          refine m2_goto hB dX1_push_61 (tgt := 66) (by decide) ?_
          refine m2_iadd hB dX1_push_66 ?_
          have hi11 := hi6
          refine m2_iast hB dX1_push_67 sh_kF_net hi11 ?_
          refine m2_iload hB dX1_push_68 rfl ?_
          refine m2_if_eq hB dX1_push_70 (tgt := 83) (by decide) (fun q => absurd q (by decide)) (fun _ => ?_)
          refine m2_aload_n hB dX1_push_73 rfl ?_
          refine m2_getR hB dX1_push_74 fl_X1_9 sh_kF (c1 := kF_a) rfl ?_
          refine m2_iload hB dX1_push_77 rfl ?_
          have hi12 := hi6
          refine m2_iald hB dX1_push_79 sh_kF_a hi12 ?_
          refine m2_goto hB dX1_push_80 (tgt := 90) (by decide) ?_
          refine m2_istore hB (ls' := [.ref kF, .int v1, .int v2, .int v3, .int (μ.1 kF_a ((μ.1 kF_via (v4).toNatClampNeg)).toNatClampNeg), .int v5, .int (μ.1 kF_via (v4).toNatClampNeg), .int 1]) dX1_push_90 (by decide) rfl ?_
          refine m2_iinc hB (ls' := [.ref kF, .int v1, .int v2, .int v3, .int (μ.1 kF_a ((μ.1 kF_via (v4).toNatClampNeg)).toNatClampNeg), .int (v5 + 1), .int (μ.1 kF_via (v4).toNatClampNeg), .int 1]) (v := (v5 + 1)) dX1_push_92 rfl (by decide) rfl rfl ?_
          refine m2_goto hB dX1_push_95 (tgt := 6) (by decide) ?_
          exact m2_weak (ls' := [.ref kF, .int v1, .int v2, .int v3, .int (μ.1 kF_a ((μ.1 kF_via (v4).toNatClampNeg)).toNatClampNeg), .int (v5 + 1), .null, .null]) hB ⟨Or.inr rfl, Or.inr rfl, Or.inr rfl, Or.inr rfl, Or.inr rfl, Or.inr rfl, Or.inl rfl, Or.inl rfl, trivial⟩ k
        · rw [if_neg q10]
          replace k := k.2 q10
          refine m2_if_eq hB dX1_push_57 (tgt := 64) (by decide) (fun _ => ?_) (fun q => absurd q (by decide))
          refine m2_iload_n hB dX1_push_64 rfl ?_
          refine m2_ineg hB dX1_push_65 ?_
          refine m2_iadd hB dX1_push_66 ?_
          have hi13 := hi6
          refine m2_iast hB dX1_push_67 sh_kF_net hi13 ?_
          refine m2_iload hB dX1_push_68 rfl ?_
          refine m2_if_eq hB dX1_push_70 (tgt := 83) (by decide) (fun _ => ?_) (fun q => absurd q (by decide))
          refine m2_aload_n hB dX1_push_83 rfl ?_
          refine m2_getR hB dX1_push_84 fl_X1_15 sh_kF (c1 := kF_b) rfl ?_
          refine m2_iload hB dX1_push_87 rfl ?_
          have hi14 := hi6
          refine m2_iald hB dX1_push_89 sh_kF_b hi14 ?_
          refine m2_istore hB (ls' := [.ref kF, .int v1, .int v2, .int v3, .int (μ.1 kF_b ((μ.1 kF_via (v4).toNatClampNeg)).toNatClampNeg), .int v5, .int (μ.1 kF_via (v4).toNatClampNeg), .int 0]) dX1_push_90 (by decide) rfl ?_
          refine m2_iinc hB (ls' := [.ref kF, .int v1, .int v2, .int v3, .int (μ.1 kF_b ((μ.1 kF_via (v4).toNatClampNeg)).toNatClampNeg), .int (v5 + 1), .int (μ.1 kF_via (v4).toNatClampNeg), .int 0]) (v := (v5 + 1)) dX1_push_92 rfl (by decide) rfl rfl ?_
          refine m2_goto hB dX1_push_95 (tgt := 6) (by decide) ?_
          exact m2_weak (ls' := [.ref kF, .int v1, .int v2, .int v3, .int (μ.1 kF_b ((μ.1 kF_via (v4).toNatClampNeg)).toNatClampNeg), .int (v5 + 1), .null, .null]) hB ⟨Or.inr rfl, Or.inr rfl, Or.inr rfl, Or.inr rfl, Or.inr rfl, Or.inr rfl, Or.inl rfl, Or.inl rfl, trivial⟩ k
      refine m2_icmp_ne hB dX1_push_37 (tgt := 44) (by decide) (fun q7 : ¬ (μ.1 kF_b ((μ.1 kF_via (v4).toNatClampNeg)).toNatClampNeg) = v4 => ?_) (fun q7 : (μ.1 kF_b ((μ.1 kF_via (v4).toNatClampNeg)).toNatClampNeg) = v4 => ?_)
      · rw [if_neg q7] at G8
        refine m2_iconst hB dX1_push_44 (v := 0) (by decide) ?_
        exact G8
      · rw [if_pos q7] at G8
        refine m2_iconst hB dX1_push_40 (v := 1) (by decide) ?_
        refine m2_goto hB dX1_push_41 (tgt := 45) (by decide) ?_
        exact G8
theorem dX1_comingTo_0 : decode cX1_comingTo 0 = .ok (.iconst 1, 1) := by decide +kernel
theorem dX1_comingTo_1 : decode cX1_comingTo 1 = .ok (.iload_n 1, 1) := by decide +kernel
theorem dX1_comingTo_2 : decode cX1_comingTo 2 = .ok (.ishl, 1) := by decide +kernel
theorem dX1_comingTo_3 : decode cX1_comingTo 3 = .ok (.istore_n 2, 1) := by decide +kernel
theorem dX1_comingTo_4 : decode cX1_comingTo 4 = .ok (.iconst 0, 1) := by decide +kernel
theorem dX1_comingTo_5 : decode cX1_comingTo 5 = .ok (.istore_n 3, 1) := by decide +kernel
theorem dX1_comingTo_6 : decode cX1_comingTo 6 = .ok (.iconst 0, 1) := by decide +kernel
theorem dX1_comingTo_7 : decode cX1_comingTo 7 = .ok (.istore 4, 2) := by decide +kernel
theorem dX1_comingTo_9 : decode cX1_comingTo 9 = .ok (.iload 4, 2) := by decide +kernel
theorem dX1_comingTo_11 : decode cX1_comingTo 11 = .ok (.bipush 12, 2) := by decide +kernel
theorem dX1_comingTo_13 : decode cX1_comingTo 13 = .ok (.if_icmp .ge 118, 3) := by decide +kernel
theorem dX1_comingTo_16 : decode cX1_comingTo 16 = .ok (.iload_n 2, 1) := by decide +kernel
theorem dX1_comingTo_17 : decode cX1_comingTo 17 = .ok (.iload_n 3, 1) := by decide +kernel
theorem dX1_comingTo_18 : decode cX1_comingTo 18 = .ok (.if_icmp .eq 113, 3) := by decide +kernel
theorem dX1_comingTo_21 : decode cX1_comingTo 21 = .ok (.iload_n 2, 1) := by decide +kernel
theorem dX1_comingTo_22 : decode cX1_comingTo 22 = .ok (.istore_n 3, 1) := by decide +kernel
theorem dX1_comingTo_23 : decode cX1_comingTo 23 = .ok (.iconst 0, 1) := by decide +kernel
theorem dX1_comingTo_24 : decode cX1_comingTo 24 = .ok (.istore 5, 2) := by decide +kernel
theorem dX1_comingTo_26 : decode cX1_comingTo 26 = .ok (.iload 5, 2) := by decide +kernel
theorem dX1_comingTo_28 : decode cX1_comingTo 28 = .ok (.aload_n 0, 1) := by decide +kernel
theorem dX1_comingTo_29 : decode cX1_comingTo 29 = .ok (.getfield 46, 3) := by decide +kernel
theorem dX1_comingTo_32 : decode cX1_comingTo 32 = .ok (.if_icmp .ge 93, 3) := by decide +kernel
theorem dX1_comingTo_35 : decode cX1_comingTo 35 = .ok (.iload_n 2, 1) := by decide +kernel
theorem dX1_comingTo_36 : decode cX1_comingTo 36 = .ok (.aload_n 0, 1) := by decide +kernel
theorem dX1_comingTo_37 : decode cX1_comingTo 37 = .ok (.getfield 15, 3) := by decide +kernel
theorem dX1_comingTo_40 : decode cX1_comingTo 40 = .ok (.iload 5, 2) := by decide +kernel
theorem dX1_comingTo_42 : decode cX1_comingTo 42 = .ok (.iaload, 1) := by decide +kernel
theorem dX1_comingTo_43 : decode cX1_comingTo 43 = .ok (.invokestatic 84, 3) := by decide +kernel
theorem dX1_comingTo_46 : decode cX1_comingTo 46 = .ok (.ifCond .eq 31, 3) := by decide +kernel
theorem dX1_comingTo_49 : decode cX1_comingTo 49 = .ok (.aload_n 0, 1) := by decide +kernel
theorem dX1_comingTo_50 : decode cX1_comingTo 50 = .ok (.iload 5, 2) := by decide +kernel
theorem dX1_comingTo_52 : decode cX1_comingTo 52 = .ok (.aload_n 0, 1) := by decide +kernel
theorem dX1_comingTo_53 : decode cX1_comingTo 53 = .ok (.getfield 9, 3) := by decide +kernel
theorem dX1_comingTo_56 : decode cX1_comingTo 56 = .ok (.iload 5, 2) := by decide +kernel
theorem dX1_comingTo_58 : decode cX1_comingTo 58 = .ok (.iaload, 1) := by decide +kernel
theorem dX1_comingTo_59 : decode cX1_comingTo 59 = .ok (.invokevirtual 92, 3) := by decide +kernel
theorem dX1_comingTo_62 : decode cX1_comingTo 62 = .ok (.ifCond .le 15, 3) := by decide +kernel
theorem dX1_comingTo_65 : decode cX1_comingTo 65 = .ok (.iload_n 2, 1) := by decide +kernel
theorem dX1_comingTo_66 : decode cX1_comingTo 66 = .ok (.iconst 1, 1) := by decide +kernel
theorem dX1_comingTo_67 : decode cX1_comingTo 67 = .ok (.aload_n 0, 1) := by decide +kernel
theorem dX1_comingTo_68 : decode cX1_comingTo 68 = .ok (.getfield 9, 3) := by decide +kernel
theorem dX1_comingTo_71 : decode cX1_comingTo 71 = .ok (.iload 5, 2) := by decide +kernel
theorem dX1_comingTo_73 : decode cX1_comingTo 73 = .ok (.iaload, 1) := by decide +kernel
theorem dX1_comingTo_74 : decode cX1_comingTo 74 = .ok (.ishl, 1) := by decide +kernel
theorem dX1_comingTo_75 : decode cX1_comingTo 75 = .ok (.ior, 1) := by decide +kernel
theorem dX1_comingTo_76 : decode cX1_comingTo 76 = .ok (.istore_n 2, 1) := by decide +kernel
theorem dX1_comingTo_77 : decode cX1_comingTo 77 = .ok (.iload_n 2, 1) := by decide +kernel
theorem dX1_comingTo_78 : decode cX1_comingTo 78 = .ok (.aload_n 0, 1) := by decide +kernel
theorem dX1_comingTo_79 : decode cX1_comingTo 79 = .ok (.getfield 9, 3) := by decide +kernel
theorem dX1_comingTo_82 : decode cX1_comingTo 82 = .ok (.iload 5, 2) := by decide +kernel
theorem dX1_comingTo_84 : decode cX1_comingTo 84 = .ok (.iaload, 1) := by decide +kernel
theorem dX1_comingTo_85 : decode cX1_comingTo 85 = .ok (.invokestatic 84, 3) := by decide +kernel
theorem dX1_comingTo_88 : decode cX1_comingTo 88 = .ok (.ifCond .eq 31, 3) := by decide +kernel
theorem dX1_comingTo_91 : decode cX1_comingTo 91 = .ok (.aload_n 0, 1) := by decide +kernel
theorem dX1_comingTo_92 : decode cX1_comingTo 92 = .ok (.iload 5, 2) := by decide +kernel
theorem dX1_comingTo_94 : decode cX1_comingTo 94 = .ok (.aload_n 0, 1) := by decide +kernel
theorem dX1_comingTo_95 : decode cX1_comingTo 95 = .ok (.getfield 15, 3) := by decide +kernel
theorem dX1_comingTo_98 : decode cX1_comingTo 98 = .ok (.iload 5, 2) := by decide +kernel
theorem dX1_comingTo_100 : decode cX1_comingTo 100 = .ok (.iaload, 1) := by decide +kernel
theorem dX1_comingTo_101 : decode cX1_comingTo 101 = .ok (.invokevirtual 92, 3) := by decide +kernel
theorem dX1_comingTo_104 : decode cX1_comingTo 104 = .ok (.ifCond .le 15, 3) := by decide +kernel
theorem dX1_comingTo_107 : decode cX1_comingTo 107 = .ok (.iload_n 2, 1) := by decide +kernel
theorem dX1_comingTo_108 : decode cX1_comingTo 108 = .ok (.iconst 1, 1) := by decide +kernel
theorem dX1_comingTo_109 : decode cX1_comingTo 109 = .ok (.aload_n 0, 1) := by decide +kernel
theorem dX1_comingTo_110 : decode cX1_comingTo 110 = .ok (.getfield 15, 3) := by decide +kernel
theorem dX1_comingTo_113 : decode cX1_comingTo 113 = .ok (.iload 5, 2) := by decide +kernel
theorem dX1_comingTo_115 : decode cX1_comingTo 115 = .ok (.iaload, 1) := by decide +kernel
theorem dX1_comingTo_116 : decode cX1_comingTo 116 = .ok (.ishl, 1) := by decide +kernel
theorem dX1_comingTo_117 : decode cX1_comingTo 117 = .ok (.ior, 1) := by decide +kernel
theorem dX1_comingTo_118 : decode cX1_comingTo 118 = .ok (.istore_n 2, 1) := by decide +kernel
theorem dX1_comingTo_119 : decode cX1_comingTo 119 = .ok (.iinc 5 1, 3) := by decide +kernel
theorem dX1_comingTo_122 : decode cX1_comingTo 122 = .ok (.goto (-96), 3) := by decide +kernel
theorem dX1_comingTo_125 : decode cX1_comingTo 125 = .ok (.iinc 4 1, 3) := by decide +kernel
theorem dX1_comingTo_128 : decode cX1_comingTo 128 = .ok (.goto (-119), 3) := by decide +kernel
theorem dX1_comingTo_131 : decode cX1_comingTo 131 = .ok (.iload_n 2, 1) := by decide +kernel
theorem dX1_comingTo_132 : decode cX1_comingTo 132 = .ok (.ireturn, 1) := by decide +kernel
set_option maxRecDepth 100000 in
set_option maxHeartbeats 4000000 in
theorem B_X1_comingTo_0 {κ : Nat → List Value → List Value → m2M → Prop} {D : Nat} {Q : Option Value → m2M → Prop} (h : m2_RL κ cX1_comingTo RX1 6 D (some .int) Q) {x1 : Int32} {μ : m2M} (k : κ 9 [.ref kF, .int x1, .int ((1 : Int32) <<< (x1 &&& 31)), .int 0, .int 0, .null] [] μ) : κ 0 [.ref kF, .int x1, .null, .null, .null, .null] [] μ := by
  have hB := h.b
  refine m2_iconst hB dX1_comingTo_0 (v := 1) (by decide) ?_
  refine m2_iload_n hB dX1_comingTo_1 rfl ?_
  refine m2_ishl hB dX1_comingTo_2 ?_
  refine m2_istore_n hB (ls' := [.ref kF, .int x1, .int ((1 : Int32) <<< (x1 &&& 31)), .null, .null, .null]) dX1_comingTo_3 rfl (by decide) rfl ?_
  refine m2_iconst hB dX1_comingTo_4 (v := 0) (by decide) ?_
  refine m2_istore_n hB (ls' := [.ref kF, .int x1, .int ((1 : Int32) <<< (x1 &&& 31)), .int 0, .null, .null]) dX1_comingTo_5 rfl (by decide) rfl ?_
  refine m2_iconst hB dX1_comingTo_6 (v := 0) (by decide) ?_
  refine m2_istore hB (ls' := [.ref kF, .int x1, .int ((1 : Int32) <<< (x1 &&& 31)), .int 0, .int 0, .null]) dX1_comingTo_7 (by decide) rfl ?_
  exact k
set_option maxRecDepth 100000 in
set_option maxHeartbeats 4000000 in
theorem B_X1_comingTo_9 {κ : Nat → List Value → List Value → m2M → Prop} {D : Nat} {Q : Option Value → m2M → Prop} (h : m2_RL κ cX1_comingTo RX1 6 D (some .int) Q) {v1 : Int32} {v2 : Int32} {v3 : Int32} {v4 : Int32} {μ : m2M} (k : (12 ≤ v4 → Q (some (.int v2)) μ) ∧ (¬ 12 ≤ v4 → (v2 = v3 → Q (some (.int v2)) μ) ∧ (¬ v2 = v3 → κ 26 [.ref kF, .int v1, .int v2, .int v2, .int v4, .int 0] [] μ))) : κ 9 [.ref kF, .int v1, .int v2, .int v3, .int v4, .null] [] μ := by
  have hB := h.b
  refine m2_iload hB dX1_comingTo_9 rfl ?_
  refine m2_bipush hB dX1_comingTo_11 (v := 12) (by decide) ?_
  refine m2_icmp_ge hB dX1_comingTo_13 (tgt := 131) (by decide) (fun q1 : 12 ≤ v4 => ?_) (fun q1 : ¬ 12 ≤ v4 => ?_)
  · replace k := k.1 q1
    refine m2_iload_n hB dX1_comingTo_131 rfl ?_
    exact m2_iret h dX1_comingTo_132 k
  · replace k := k.2 q1
    refine m2_iload_n hB dX1_comingTo_16 rfl ?_
    refine m2_iload_n hB dX1_comingTo_17 rfl ?_
    refine m2_icmp_eq hB dX1_comingTo_18 (tgt := 131) (by decide) (fun q2 : v2 = v3 => ?_) (fun q2 : ¬ v2 = v3 => ?_)
    · replace k := k.1 q2
      refine m2_iload_n hB dX1_comingTo_131 rfl ?_
      exact m2_iret h dX1_comingTo_132 k
    · replace k := k.2 q2
      refine m2_iload_n hB dX1_comingTo_21 rfl ?_
      refine m2_istore_n hB (ls' := [.ref kF, .int v1, .int v2, .int v2, .int v4, .null]) dX1_comingTo_22 rfl (by decide) rfl ?_
      refine m2_iconst hB dX1_comingTo_23 (v := 0) (by decide) ?_
      refine m2_istore hB (ls' := [.ref kF, .int v1, .int v2, .int v2, .int v4, .int 0]) dX1_comingTo_24 (by decide) rfl ?_
      exact k
set_option maxRecDepth 100000 in
set_option maxHeartbeats 4000000 in
theorem B_X1_comingTo_26 {κ : Nat → List Value → List Value → m2M → Prop} {D : Nat} {Q : Option Value → m2M → Prop} (h : m2_RL κ cX1_comingTo RX1 6 (D + 1) (some .int) Q) (hD : 0 ≤ D) {v1 : Int32} {v2 : Int32} {v3 : Int32} {v4 : Int32} {v5 : Int32} {μ : m2M} (k : ((μ.1 kF 7) ≤ v5 → κ 9 [.ref kF, .int v1, .int v2, .int v3, .int (v4 + 1), .null] [] μ) ∧ (¬ (μ.1 kF 7) ≤ v5 → (vp_in v5 21) ∧ (((fX11_hasBit v2 (μ.1 kF_b (v5).toNatClampNeg)) = 1 → ((fX1_free v5 (μ.1 kF_a (v5).toNatClampNeg) μ) ≤ 0 → ((fX11_hasBit v2 (μ.1 kF_a (v5).toNatClampNeg)) = 1 → ((fX1_free v5 (μ.1 kF_b (v5).toNatClampNeg) μ) ≤ 0 → κ 26 [.ref kF, .int v1, .int v2, .int v3, .int v4, .int (v5 + 1)] [] μ) ∧ (¬ (fX1_free v5 (μ.1 kF_b (v5).toNatClampNeg) μ) ≤ 0 → κ 26 [.ref kF, .int v1, .int (v2 ||| ((1 : Int32) <<< ((μ.1 kF_b (v5).toNatClampNeg) &&& 31))), .int v3, .int v4, .int (v5 + 1)] [] μ)) ∧ (¬ (fX11_hasBit v2 (μ.1 kF_a (v5).toNatClampNeg)) = 1 → κ 26 [.ref kF, .int v1, .int v2, .int v3, .int v4, .int (v5 + 1)] [] μ)) ∧ (¬ (fX1_free v5 (μ.1 kF_a (v5).toNatClampNeg) μ) ≤ 0 → ((fX11_hasBit (v2 ||| ((1 : Int32) <<< ((μ.1 kF_a (v5).toNatClampNeg) &&& 31))) (μ.1 kF_a (v5).toNatClampNeg)) = 1 → ((fX1_free v5 (μ.1 kF_b (v5).toNatClampNeg) μ) ≤ 0 → κ 26 [.ref kF, .int v1, .int (v2 ||| ((1 : Int32) <<< ((μ.1 kF_a (v5).toNatClampNeg) &&& 31))), .int v3, .int v4, .int (v5 + 1)] [] μ) ∧ (¬ (fX1_free v5 (μ.1 kF_b (v5).toNatClampNeg) μ) ≤ 0 → κ 26 [.ref kF, .int v1, .int ((v2 ||| ((1 : Int32) <<< ((μ.1 kF_a (v5).toNatClampNeg) &&& 31))) ||| ((1 : Int32) <<< ((μ.1 kF_b (v5).toNatClampNeg) &&& 31))), .int v3, .int v4, .int (v5 + 1)] [] μ)) ∧ (¬ (fX11_hasBit (v2 ||| ((1 : Int32) <<< ((μ.1 kF_a (v5).toNatClampNeg) &&& 31))) (μ.1 kF_a (v5).toNatClampNeg)) = 1 → κ 26 [.ref kF, .int v1, .int (v2 ||| ((1 : Int32) <<< ((μ.1 kF_a (v5).toNatClampNeg) &&& 31))), .int v3, .int v4, .int (v5 + 1)] [] μ))) ∧ (¬ (fX11_hasBit v2 (μ.1 kF_b (v5).toNatClampNeg)) = 1 → ((fX11_hasBit v2 (μ.1 kF_a (v5).toNatClampNeg)) = 1 → ((fX1_free v5 (μ.1 kF_b (v5).toNatClampNeg) μ) ≤ 0 → κ 26 [.ref kF, .int v1, .int v2, .int v3, .int v4, .int (v5 + 1)] [] μ) ∧ (¬ (fX1_free v5 (μ.1 kF_b (v5).toNatClampNeg) μ) ≤ 0 → κ 26 [.ref kF, .int v1, .int (v2 ||| ((1 : Int32) <<< ((μ.1 kF_b (v5).toNatClampNeg) &&& 31))), .int v3, .int v4, .int (v5 + 1)] [] μ)) ∧ (¬ (fX11_hasBit v2 (μ.1 kF_a (v5).toNatClampNeg)) = 1 → κ 26 [.ref kF, .int v1, .int v2, .int v3, .int v4, .int (v5 + 1)] [] μ))))) : κ 26 [.ref kF, .int v1, .int v2, .int v3, .int v4, .int v5] [] μ := by
  have hB := h.b
  refine m2_iload hB dX1_comingTo_26 rfl ?_
  refine m2_aload_n hB dX1_comingTo_28 rfl ?_
  refine m2_getI hB dX1_comingTo_29 fl_X1_46 sh_kF rfl ?_
  refine m2_icmp_ge hB dX1_comingTo_32 (tgt := 125) (by decide) (fun q2 : (μ.1 kF 7) ≤ v5 => ?_) (fun q2 : ¬ (μ.1 kF 7) ≤ v5 => ?_)
  · replace k := k.1 q2
    refine m2_iinc hB (ls' := [.ref kF, .int v1, .int v2, .int v3, .int (v4 + 1), .int v5]) (v := (v4 + 1)) dX1_comingTo_125 rfl (by decide) rfl rfl ?_
    refine m2_goto hB dX1_comingTo_128 (tgt := 9) (by decide) ?_
    exact m2_weak (ls' := [.ref kF, .int v1, .int v2, .int v3, .int (v4 + 1), .null]) hB ⟨Or.inr rfl, Or.inr rfl, Or.inr rfl, Or.inr rfl, Or.inr rfl, Or.inl rfl, trivial⟩ k
  · replace k := k.2 q2
    refine m2_iload_n hB dX1_comingTo_35 rfl ?_
    refine m2_aload_n hB dX1_comingTo_36 rfl ?_
    refine m2_getR hB dX1_comingTo_37 fl_X1_15 sh_kF (c1 := kF_b) rfl ?_
    refine m2_iload hB dX1_comingTo_40 rfl ?_
    obtain ⟨hi3, k⟩ := k
    refine m2_iald hB dX1_comingTo_42 sh_kF_b hi3 ?_
    refine m2_invNz hB (as := [.int v2, .int (μ.1 kF_b (v5).toNatClampNeg)]) dX1_comingTo_43 mn_X1_84 rfl (Nat.le_of_ble_eq_true rfl) rfl (P_X11_hasBit (by omega) (v2) ((μ.1 kF_b (v5).toNatClampNeg)) _ ) (fun y4 μ5 hq6 => ?_)
    obtain ⟨⟨⟩, hq6⟩ := hq6
    subst μ5
    show κ 46 [.ref kF, .int v1, .int v2, .int v3, .int v4, .int v5] [.int (if (fX11_hasBit v2 (μ.1 kF_b (v5).toNatClampNeg)) = 1 then 1 else 0 : Int32)] μ
    by_cases q7 : (fX11_hasBit v2 (μ.1 kF_b (v5).toNatClampNeg)) = 1
    · rw [if_pos q7]
      replace k := k.1 q7
      refine m2_if_eq hB dX1_comingTo_46 (tgt := 77) (by decide) (fun q => absurd q (by decide)) (fun _ => ?_)
      refine m2_aload_n hB dX1_comingTo_49 rfl ?_
      refine m2_iload hB dX1_comingTo_50 rfl ?_
      refine m2_aload_n hB dX1_comingTo_52 rfl ?_
      refine m2_getR hB dX1_comingTo_53 fl_X1_9 sh_kF (c1 := kF_a) rfl ?_
      refine m2_iload hB dX1_comingTo_56 rfl ?_
      have hi8 := hi3
      refine m2_iald hB dX1_comingTo_58 sh_kF_a hi8 ?_
      have hs9 := hi3
      refine m2_invi hB (as := [.int v5, .int (μ.1 kF_a (v5).toNatClampNeg)]) dX1_comingTo_59 mv_X1_92 rfl sh_kF rfl (Nat.le_of_ble_eq_true rfl) rfl (P_X1_free (by omega) (v5) ((μ.1 kF_a (v5).toNatClampNeg)) _ hs9) (fun y10 μ11 hq12 => ?_)
      obtain ⟨⟨⟩, hq12⟩ := hq12
      subst μ11
      refine m2_if_le hB dX1_comingTo_62 (tgt := 77) (by decide) (fun q14 : (fX1_free v5 (μ.1 kF_a (v5).toNatClampNeg) μ) ≤ 0 => ?_) (fun q14 : ¬ (fX1_free v5 (μ.1 kF_a (v5).toNatClampNeg) μ) ≤ 0 => ?_)
      · replace k := k.1 q14
        refine m2_iload_n hB dX1_comingTo_77 rfl ?_
        refine m2_aload_n hB dX1_comingTo_78 rfl ?_
        refine m2_getR hB dX1_comingTo_79 fl_X1_9 sh_kF (c1 := kF_a) rfl ?_
        refine m2_iload hB dX1_comingTo_82 rfl ?_
        have hi15 := hi3
        refine m2_iald hB dX1_comingTo_84 sh_kF_a hi15 ?_
        refine m2_invNz hB (as := [.int v2, .int (μ.1 kF_a (v5).toNatClampNeg)]) dX1_comingTo_85 mn_X1_84 rfl (Nat.le_of_ble_eq_true rfl) rfl (P_X11_hasBit (by omega) (v2) ((μ.1 kF_a (v5).toNatClampNeg)) _ ) (fun y16 μ17 hq18 => ?_)
        obtain ⟨⟨⟩, hq18⟩ := hq18
        subst μ17
        show κ 88 [.ref kF, .int v1, .int v2, .int v3, .int v4, .int v5] [.int (if (fX11_hasBit v2 (μ.1 kF_a (v5).toNatClampNeg)) = 1 then 1 else 0 : Int32)] μ
        by_cases q19 : (fX11_hasBit v2 (μ.1 kF_a (v5).toNatClampNeg)) = 1
        · rw [if_pos q19]
          replace k := k.1 q19
          refine m2_if_eq hB dX1_comingTo_88 (tgt := 119) (by decide) (fun q => absurd q (by decide)) (fun _ => ?_)
          refine m2_aload_n hB dX1_comingTo_91 rfl ?_
          refine m2_iload hB dX1_comingTo_92 rfl ?_
          refine m2_aload_n hB dX1_comingTo_94 rfl ?_
          refine m2_getR hB dX1_comingTo_95 fl_X1_15 sh_kF (c1 := kF_b) rfl ?_
          refine m2_iload hB dX1_comingTo_98 rfl ?_
          have hi20 := hi3
          refine m2_iald hB dX1_comingTo_100 sh_kF_b hi20 ?_
          have hs21 := hi3
          refine m2_invi hB (as := [.int v5, .int (μ.1 kF_b (v5).toNatClampNeg)]) dX1_comingTo_101 mv_X1_92 rfl sh_kF rfl (Nat.le_of_ble_eq_true rfl) rfl (P_X1_free (by omega) (v5) ((μ.1 kF_b (v5).toNatClampNeg)) _ hs21) (fun y22 μ23 hq24 => ?_)
          obtain ⟨⟨⟩, hq24⟩ := hq24
          subst μ23
          refine m2_if_le hB dX1_comingTo_104 (tgt := 119) (by decide) (fun q26 : (fX1_free v5 (μ.1 kF_b (v5).toNatClampNeg) μ) ≤ 0 => ?_) (fun q26 : ¬ (fX1_free v5 (μ.1 kF_b (v5).toNatClampNeg) μ) ≤ 0 => ?_)
          · replace k := k.1 q26
            refine m2_iinc hB (ls' := [.ref kF, .int v1, .int v2, .int v3, .int v4, .int (v5 + 1)]) (v := (v5 + 1)) dX1_comingTo_119 rfl (by decide) rfl rfl ?_
            refine m2_goto hB dX1_comingTo_122 (tgt := 26) (by decide) ?_
            exact k
          · replace k := k.2 q26
            refine m2_iload_n hB dX1_comingTo_107 rfl ?_
            refine m2_iconst hB dX1_comingTo_108 (v := 1) (by decide) ?_
            refine m2_aload_n hB dX1_comingTo_109 rfl ?_
            refine m2_getR hB dX1_comingTo_110 fl_X1_15 sh_kF (c1 := kF_b) rfl ?_
            refine m2_iload hB dX1_comingTo_113 rfl ?_
            have hi27 := hi3
            refine m2_iald hB dX1_comingTo_115 sh_kF_b hi27 ?_
            refine m2_ishl hB dX1_comingTo_116 ?_
            refine m2_ior hB dX1_comingTo_117 ?_
            refine m2_istore_n hB (ls' := [.ref kF, .int v1, .int (v2 ||| ((1 : Int32) <<< ((μ.1 kF_b (v5).toNatClampNeg) &&& 31))), .int v3, .int v4, .int v5]) dX1_comingTo_118 rfl (by decide) rfl ?_
            refine m2_iinc hB (ls' := [.ref kF, .int v1, .int (v2 ||| ((1 : Int32) <<< ((μ.1 kF_b (v5).toNatClampNeg) &&& 31))), .int v3, .int v4, .int (v5 + 1)]) (v := (v5 + 1)) dX1_comingTo_119 rfl (by decide) rfl rfl ?_
            refine m2_goto hB dX1_comingTo_122 (tgt := 26) (by decide) ?_
            exact k
        · rw [if_neg q19]
          replace k := k.2 q19
          refine m2_if_eq hB dX1_comingTo_88 (tgt := 119) (by decide) (fun _ => ?_) (fun q => absurd q (by decide))
          refine m2_iinc hB (ls' := [.ref kF, .int v1, .int v2, .int v3, .int v4, .int (v5 + 1)]) (v := (v5 + 1)) dX1_comingTo_119 rfl (by decide) rfl rfl ?_
          refine m2_goto hB dX1_comingTo_122 (tgt := 26) (by decide) ?_
          exact k
      · replace k := k.2 q14
        refine m2_iload_n hB dX1_comingTo_65 rfl ?_
        refine m2_iconst hB dX1_comingTo_66 (v := 1) (by decide) ?_
        refine m2_aload_n hB dX1_comingTo_67 rfl ?_
        refine m2_getR hB dX1_comingTo_68 fl_X1_9 sh_kF (c1 := kF_a) rfl ?_
        refine m2_iload hB dX1_comingTo_71 rfl ?_
        have hi28 := hi3
        refine m2_iald hB dX1_comingTo_73 sh_kF_a hi28 ?_
        refine m2_ishl hB dX1_comingTo_74 ?_
        refine m2_ior hB dX1_comingTo_75 ?_
        refine m2_istore_n hB (ls' := [.ref kF, .int v1, .int (v2 ||| ((1 : Int32) <<< ((μ.1 kF_a (v5).toNatClampNeg) &&& 31))), .int v3, .int v4, .int v5]) dX1_comingTo_76 rfl (by decide) rfl ?_
        refine m2_iload_n hB dX1_comingTo_77 rfl ?_
        refine m2_aload_n hB dX1_comingTo_78 rfl ?_
        refine m2_getR hB dX1_comingTo_79 fl_X1_9 sh_kF (c1 := kF_a) rfl ?_
        refine m2_iload hB dX1_comingTo_82 rfl ?_
        have hi29 := hi3
        refine m2_iald hB dX1_comingTo_84 sh_kF_a hi29 ?_
        refine m2_invNz hB (as := [.int (v2 ||| ((1 : Int32) <<< ((μ.1 kF_a (v5).toNatClampNeg) &&& 31))), .int (μ.1 kF_a (v5).toNatClampNeg)]) dX1_comingTo_85 mn_X1_84 rfl (Nat.le_of_ble_eq_true rfl) rfl (P_X11_hasBit (by omega) ((v2 ||| ((1 : Int32) <<< ((μ.1 kF_a (v5).toNatClampNeg) &&& 31)))) ((μ.1 kF_a (v5).toNatClampNeg)) _ ) (fun y30 μ31 hq32 => ?_)
        obtain ⟨⟨⟩, hq32⟩ := hq32
        subst μ31
        show κ 88 [.ref kF, .int v1, .int (v2 ||| ((1 : Int32) <<< ((μ.1 kF_a (v5).toNatClampNeg) &&& 31))), .int v3, .int v4, .int v5] [.int (if (fX11_hasBit (v2 ||| ((1 : Int32) <<< ((μ.1 kF_a (v5).toNatClampNeg) &&& 31))) (μ.1 kF_a (v5).toNatClampNeg)) = 1 then 1 else 0 : Int32)] μ
        by_cases q33 : (fX11_hasBit (v2 ||| ((1 : Int32) <<< ((μ.1 kF_a (v5).toNatClampNeg) &&& 31))) (μ.1 kF_a (v5).toNatClampNeg)) = 1
        · rw [if_pos q33]
          replace k := k.1 q33
          refine m2_if_eq hB dX1_comingTo_88 (tgt := 119) (by decide) (fun q => absurd q (by decide)) (fun _ => ?_)
          refine m2_aload_n hB dX1_comingTo_91 rfl ?_
          refine m2_iload hB dX1_comingTo_92 rfl ?_
          refine m2_aload_n hB dX1_comingTo_94 rfl ?_
          refine m2_getR hB dX1_comingTo_95 fl_X1_15 sh_kF (c1 := kF_b) rfl ?_
          refine m2_iload hB dX1_comingTo_98 rfl ?_
          have hi34 := hi3
          refine m2_iald hB dX1_comingTo_100 sh_kF_b hi34 ?_
          have hs35 := hi3
          refine m2_invi hB (as := [.int v5, .int (μ.1 kF_b (v5).toNatClampNeg)]) dX1_comingTo_101 mv_X1_92 rfl sh_kF rfl (Nat.le_of_ble_eq_true rfl) rfl (P_X1_free (by omega) (v5) ((μ.1 kF_b (v5).toNatClampNeg)) _ hs35) (fun y36 μ37 hq38 => ?_)
          obtain ⟨⟨⟩, hq38⟩ := hq38
          subst μ37
          refine m2_if_le hB dX1_comingTo_104 (tgt := 119) (by decide) (fun q40 : (fX1_free v5 (μ.1 kF_b (v5).toNatClampNeg) μ) ≤ 0 => ?_) (fun q40 : ¬ (fX1_free v5 (μ.1 kF_b (v5).toNatClampNeg) μ) ≤ 0 => ?_)
          · replace k := k.1 q40
            refine m2_iinc hB (ls' := [.ref kF, .int v1, .int (v2 ||| ((1 : Int32) <<< ((μ.1 kF_a (v5).toNatClampNeg) &&& 31))), .int v3, .int v4, .int (v5 + 1)]) (v := (v5 + 1)) dX1_comingTo_119 rfl (by decide) rfl rfl ?_
            refine m2_goto hB dX1_comingTo_122 (tgt := 26) (by decide) ?_
            exact k
          · replace k := k.2 q40
            refine m2_iload_n hB dX1_comingTo_107 rfl ?_
            refine m2_iconst hB dX1_comingTo_108 (v := 1) (by decide) ?_
            refine m2_aload_n hB dX1_comingTo_109 rfl ?_
            refine m2_getR hB dX1_comingTo_110 fl_X1_15 sh_kF (c1 := kF_b) rfl ?_
            refine m2_iload hB dX1_comingTo_113 rfl ?_
            have hi41 := hi3
            refine m2_iald hB dX1_comingTo_115 sh_kF_b hi41 ?_
            refine m2_ishl hB dX1_comingTo_116 ?_
            refine m2_ior hB dX1_comingTo_117 ?_
            refine m2_istore_n hB (ls' := [.ref kF, .int v1, .int ((v2 ||| ((1 : Int32) <<< ((μ.1 kF_a (v5).toNatClampNeg) &&& 31))) ||| ((1 : Int32) <<< ((μ.1 kF_b (v5).toNatClampNeg) &&& 31))), .int v3, .int v4, .int v5]) dX1_comingTo_118 rfl (by decide) rfl ?_
            refine m2_iinc hB (ls' := [.ref kF, .int v1, .int ((v2 ||| ((1 : Int32) <<< ((μ.1 kF_a (v5).toNatClampNeg) &&& 31))) ||| ((1 : Int32) <<< ((μ.1 kF_b (v5).toNatClampNeg) &&& 31))), .int v3, .int v4, .int (v5 + 1)]) (v := (v5 + 1)) dX1_comingTo_119 rfl (by decide) rfl rfl ?_
            refine m2_goto hB dX1_comingTo_122 (tgt := 26) (by decide) ?_
            exact k
        · rw [if_neg q33]
          replace k := k.2 q33
          refine m2_if_eq hB dX1_comingTo_88 (tgt := 119) (by decide) (fun _ => ?_) (fun q => absurd q (by decide))
          refine m2_iinc hB (ls' := [.ref kF, .int v1, .int (v2 ||| ((1 : Int32) <<< ((μ.1 kF_a (v5).toNatClampNeg) &&& 31))), .int v3, .int v4, .int (v5 + 1)]) (v := (v5 + 1)) dX1_comingTo_119 rfl (by decide) rfl rfl ?_
          refine m2_goto hB dX1_comingTo_122 (tgt := 26) (by decide) ?_
          exact k
    · rw [if_neg q7]
      replace k := k.2 q7
      refine m2_if_eq hB dX1_comingTo_46 (tgt := 77) (by decide) (fun _ => ?_) (fun q => absurd q (by decide))
      refine m2_iload_n hB dX1_comingTo_77 rfl ?_
      refine m2_aload_n hB dX1_comingTo_78 rfl ?_
      refine m2_getR hB dX1_comingTo_79 fl_X1_9 sh_kF (c1 := kF_a) rfl ?_
      refine m2_iload hB dX1_comingTo_82 rfl ?_
      have hi42 := hi3
      refine m2_iald hB dX1_comingTo_84 sh_kF_a hi42 ?_
      refine m2_invNz hB (as := [.int v2, .int (μ.1 kF_a (v5).toNatClampNeg)]) dX1_comingTo_85 mn_X1_84 rfl (Nat.le_of_ble_eq_true rfl) rfl (P_X11_hasBit (by omega) (v2) ((μ.1 kF_a (v5).toNatClampNeg)) _ ) (fun y43 μ44 hq45 => ?_)
      obtain ⟨⟨⟩, hq45⟩ := hq45
      subst μ44
      show κ 88 [.ref kF, .int v1, .int v2, .int v3, .int v4, .int v5] [.int (if (fX11_hasBit v2 (μ.1 kF_a (v5).toNatClampNeg)) = 1 then 1 else 0 : Int32)] μ
      by_cases q46 : (fX11_hasBit v2 (μ.1 kF_a (v5).toNatClampNeg)) = 1
      · rw [if_pos q46]
        replace k := k.1 q46
        refine m2_if_eq hB dX1_comingTo_88 (tgt := 119) (by decide) (fun q => absurd q (by decide)) (fun _ => ?_)
        refine m2_aload_n hB dX1_comingTo_91 rfl ?_
        refine m2_iload hB dX1_comingTo_92 rfl ?_
        refine m2_aload_n hB dX1_comingTo_94 rfl ?_
        refine m2_getR hB dX1_comingTo_95 fl_X1_15 sh_kF (c1 := kF_b) rfl ?_
        refine m2_iload hB dX1_comingTo_98 rfl ?_
        have hi47 := hi3
        refine m2_iald hB dX1_comingTo_100 sh_kF_b hi47 ?_
        have hs48 := hi3
        refine m2_invi hB (as := [.int v5, .int (μ.1 kF_b (v5).toNatClampNeg)]) dX1_comingTo_101 mv_X1_92 rfl sh_kF rfl (Nat.le_of_ble_eq_true rfl) rfl (P_X1_free (by omega) (v5) ((μ.1 kF_b (v5).toNatClampNeg)) _ hs48) (fun y49 μ50 hq51 => ?_)
        obtain ⟨⟨⟩, hq51⟩ := hq51
        subst μ50
        refine m2_if_le hB dX1_comingTo_104 (tgt := 119) (by decide) (fun q53 : (fX1_free v5 (μ.1 kF_b (v5).toNatClampNeg) μ) ≤ 0 => ?_) (fun q53 : ¬ (fX1_free v5 (μ.1 kF_b (v5).toNatClampNeg) μ) ≤ 0 => ?_)
        · replace k := k.1 q53
          refine m2_iinc hB (ls' := [.ref kF, .int v1, .int v2, .int v3, .int v4, .int (v5 + 1)]) (v := (v5 + 1)) dX1_comingTo_119 rfl (by decide) rfl rfl ?_
          refine m2_goto hB dX1_comingTo_122 (tgt := 26) (by decide) ?_
          exact k
        · replace k := k.2 q53
          refine m2_iload_n hB dX1_comingTo_107 rfl ?_
          refine m2_iconst hB dX1_comingTo_108 (v := 1) (by decide) ?_
          refine m2_aload_n hB dX1_comingTo_109 rfl ?_
          refine m2_getR hB dX1_comingTo_110 fl_X1_15 sh_kF (c1 := kF_b) rfl ?_
          refine m2_iload hB dX1_comingTo_113 rfl ?_
          have hi54 := hi3
          refine m2_iald hB dX1_comingTo_115 sh_kF_b hi54 ?_
          refine m2_ishl hB dX1_comingTo_116 ?_
          refine m2_ior hB dX1_comingTo_117 ?_
          refine m2_istore_n hB (ls' := [.ref kF, .int v1, .int (v2 ||| ((1 : Int32) <<< ((μ.1 kF_b (v5).toNatClampNeg) &&& 31))), .int v3, .int v4, .int v5]) dX1_comingTo_118 rfl (by decide) rfl ?_
          refine m2_iinc hB (ls' := [.ref kF, .int v1, .int (v2 ||| ((1 : Int32) <<< ((μ.1 kF_b (v5).toNatClampNeg) &&& 31))), .int v3, .int v4, .int (v5 + 1)]) (v := (v5 + 1)) dX1_comingTo_119 rfl (by decide) rfl rfl ?_
          refine m2_goto hB dX1_comingTo_122 (tgt := 26) (by decide) ?_
          exact k
      · rw [if_neg q46]
        replace k := k.2 q46
        refine m2_if_eq hB dX1_comingTo_88 (tgt := 119) (by decide) (fun _ => ?_) (fun q => absurd q (by decide))
        refine m2_iinc hB (ls' := [.ref kF, .int v1, .int v2, .int v3, .int v4, .int (v5 + 1)]) (v := (v5 + 1)) dX1_comingTo_119 rfl (by decide) rfl rfl ?_
        refine m2_goto hB dX1_comingTo_122 (tgt := 26) (by decide) ?_
        exact k
