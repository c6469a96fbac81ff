theorem dX3_take_0 : decode cX3_take 0 = .ok (.aload_n 0, 1) := by decide +kernel
theorem dX3_take_1 : decode cX3_take 1 = .ok (.aload_n 1, 1) := by decide +kernel
theorem dX3_take_2 : decode cX3_take 2 = .ok (.getfield 25, 3) := by decide +kernel
theorem dX3_take_5 : decode cX3_take 5 = .ok (.putfield 31, 3) := by decide +kernel
theorem dX3_take_8 : decode cX3_take 8 = .ok (.aload_n 0, 1) := by decide +kernel
theorem dX3_take_9 : decode cX3_take 9 = .ok (.aload_n 2, 1) := by decide +kernel
theorem dX3_take_10 : decode cX3_take 10 = .ok (.getfield 34, 3) := by decide +kernel
theorem dX3_take_13 : decode cX3_take 13 = .ok (.putfield 37, 3) := by decide +kernel
theorem dX3_take_16 : decode cX3_take 16 = .ok (.aload_n 0, 1) := by decide +kernel
theorem dX3_take_17 : decode cX3_take 17 = .ok (.aload_n 1, 1) := by decide +kernel
theorem dX3_take_18 : decode cX3_take 18 = .ok (.getfield 40, 3) := by decide +kernel
theorem dX3_take_21 : decode cX3_take 21 = .ok (.putfield 43, 3) := by decide +kernel
theorem dX3_take_24 : decode cX3_take 24 = .ok (.aload_n 1, 1) := by decide +kernel
theorem dX3_take_25 : decode cX3_take 25 = .ok (.getfield 44, 3) := by decide +kernel
theorem dX3_take_28 : decode cX3_take 28 = .ok (.iconst 0, 1) := by decide +kernel
theorem dX3_take_29 : decode cX3_take 29 = .ok (.aload_n 0, 1) := by decide +kernel
theorem dX3_take_30 : decode cX3_take 30 = .ok (.getfield 9, 3) := by decide +kernel
theorem dX3_take_33 : decode cX3_take 33 = .ok (.iconst 0, 1) := by decide +kernel
theorem dX3_take_34 : decode cX3_take 34 = .ok (.aload_n 0, 1) := by decide +kernel
theorem dX3_take_35 : decode cX3_take 35 = .ok (.getfield 31, 3) := by decide +kernel
theorem dX3_take_38 : decode cX3_take 38 = .ok (.invokestatic 45, 3) := by decide +kernel
theorem dX3_take_41 : decode cX3_take 41 = .ok (.iconst 0, 1) := by decide +kernel
theorem dX3_take_42 : decode cX3_take 42 = .ok (.istore_n 3, 1) := by decide +kernel
theorem dX3_take_43 : decode cX3_take 43 = .ok (.iload_n 3, 1) := by decide +kernel
theorem dX3_take_44 : decode cX3_take 44 = .ok (.aload_n 0, 1) := by decide +kernel
theorem dX3_take_45 : decode cX3_take 45 = .ok (.getfield 37, 3) := by decide +kernel
theorem dX3_take_48 : decode cX3_take 48 = .ok (.if_icmp .ge 45, 3) := by decide +kernel
theorem dX3_take_51 : decode cX3_take 51 = .ok (.aload_n 0, 1) := by decide +kernel
theorem dX3_take_52 : decode cX3_take 52 = .ok (.getfield 15, 3) := by decide +kernel
theorem dX3_take_55 : decode cX3_take 55 = .ok (.iload_n 3, 1) := by decide +kernel
theorem dX3_take_56 : decode cX3_take 56 = .ok (.aload_n 2, 1) := by decide +kernel
theorem dX3_take_57 : decode cX3_take 57 = .ok (.getfield 51, 3) := by decide +kernel
theorem dX3_take_60 : decode cX3_take 60 = .ok (.iload_n 3, 1) := by decide +kernel
theorem dX3_take_61 : decode cX3_take 61 = .ok (.iaload, 1) := by decide +kernel
theorem dX3_take_62 : decode cX3_take 62 = .ok (.iastore, 1) := by decide +kernel
theorem dX3_take_63 : decode cX3_take 63 = .ok (.aload_n 0, 1) := by decide +kernel
theorem dX3_take_64 : decode cX3_take 64 = .ok (.getfield 18, 3) := by decide +kernel
theorem dX3_take_67 : decode cX3_take 67 = .ok (.iload_n 3, 1) := by decide +kernel
theorem dX3_take_68 : decode cX3_take 68 = .ok (.aload_n 2, 1) := by decide +kernel
theorem dX3_take_69 : decode cX3_take 69 = .ok (.getfield 52, 3) := by decide +kernel
theorem dX3_take_72 : decode cX3_take 72 = .ok (.iload_n 3, 1) := by decide +kernel
theorem dX3_take_73 : decode cX3_take 73 = .ok (.baload, 1) := by decide +kernel
theorem dX3_take_74 : decode cX3_take 74 = .ok (.bastore, 1) := by decide +kernel
theorem dX3_take_75 : decode cX3_take 75 = .ok (.aload_n 0, 1) := by decide +kernel
theorem dX3_take_76 : decode cX3_take 76 = .ok (.getfield 22, 3) := by decide +kernel
theorem dX3_take_79 : decode cX3_take 79 = .ok (.iload_n 3, 1) := by decide +kernel
theorem dX3_take_80 : decode cX3_take 80 = .ok (.aload_n 2, 1) := by decide +kernel
theorem dX3_take_81 : decode cX3_take 81 = .ok (.getfield 53, 3) := by decide +kernel
theorem dX3_take_84 : decode cX3_take 84 = .ok (.iload_n 3, 1) := by decide +kernel
theorem dX3_take_85 : decode cX3_take 85 = .ok (.baload, 1) := by decide +kernel
theorem dX3_take_86 : decode cX3_take 86 = .ok (.bastore, 1) := by decide +kernel
theorem dX3_take_87 : decode cX3_take 87 = .ok (.iinc 3 1, 3) := by decide +kernel
theorem dX3_take_90 : decode cX3_take 90 = .ok (.goto (-47), 3) := by decide +kernel
theorem dX3_take_93 : decode cX3_take 93 = .ok (.aload_n 0, 1) := by decide +kernel
theorem dX3_take_94 : decode cX3_take 94 = .ok (.iconst 1, 1) := by decide +kernel
theorem dX3_take_95 : decode cX3_take 95 = .ok (.putfield 54, 3) := by decide +kernel
theorem dX3_take_98 : decode cX3_take 98 = .ok (.return_, 1) := by decide +kernel
set_option maxRecDepth 100000 in
set_option maxHeartbeats 4000000 in
theorem B_X3_take_0 {κ : Nat → List Value → List Value → m2M → Prop} {D : Nat} {Q : Option Value → m2M → Prop} (h : m2_RL κ cX3_take RX3 4 (D + 1) none Q) {i : Nat} (h_i : i < 10)  {μ : m2M} (k : (¬ (((m2_si (m2_si (m2_si μ (kK i) 4 (μ.1 kD 6)) (kK i) 5 (((m2_si μ (kK i) 4 (μ.1 kD 6))).1 kP 8)) (kK i) 6 (((m2_si (m2_si μ (kK i) 4 (μ.1 kD 6)) (kK i) 5 (((m2_si μ (kK i) 4 (μ.1 kD 6))).1 kP 8))).1 kD 7))).1 (kK i) 4) < 0) ∧ ((((0 : Int32)).toNatClampNeg + ((((m2_si (m2_si (m2_si μ (kK i) 4 (μ.1 kD 6)) (kK i) 5 (((m2_si μ (kK i) 4 (μ.1 kD 6))).1 kP 8)) (kK i) 6 (((m2_si (m2_si μ (kK i) 4 (μ.1 kD 6)) (kK i) 5 (((m2_si μ (kK i) 4 (μ.1 kD 6))).1 kP 8))).1 kD 7))).1 (kK i) 4)).toNatClampNeg ≤ 20) ∧ (κ 43 [.ref (kK i), .ref kD, .ref kP, .int 0] [] (m2_sr (m2_si (m2_si (m2_si μ (kK i) 4 (μ.1 kD 6)) (kK i) 5 (((m2_si μ (kK i) 4 (μ.1 kD 6))).1 kP 8)) (kK i) 6 (((m2_si (m2_si μ (kK i) 4 (μ.1 kD 6)) (kK i) 5 (((m2_si μ (kK i) 4 (μ.1 kD 6))).1 kP 8))).1 kD 7)) (kK i + 1) (va_cpy (((m2_si (m2_si (m2_si μ (kK i) 4 (μ.1 kD 6)) (kK i) 5 (((m2_si μ (kK i) 4 (μ.1 kD 6))).1 kP 8)) (kK i) 6 (((m2_si (m2_si μ (kK i) 4 (μ.1 kD 6)) (kK i) 5 (((m2_si μ (kK i) 4 (μ.1 kD 6))).1 kP 8))).1 kD 7))).1 kD_left) (((m2_si (m2_si (m2_si μ (kK i) 4 (μ.1 kD 6)) (kK i) 5 (((m2_si μ (kK i) 4 (μ.1 kD 6))).1 kP 8)) (kK i) 6 (((m2_si (m2_si μ (kK i) 4 (μ.1 kD 6)) (kK i) 5 (((m2_si μ (kK i) 4 (μ.1 kD 6))).1 kP 8))).1 kD 7))).1 (kK i + 1)) ((0 : Int32)).toNatClampNeg ((0 : Int32)).toNatClampNeg ((((m2_si (m2_si (m2_si μ (kK i) 4 (μ.1 kD 6)) (kK i) 5 (((m2_si μ (kK i) 4 (μ.1 kD 6))).1 kP 8)) (kK i) 6 (((m2_si (m2_si μ (kK i) 4 (μ.1 kD 6)) (kK i) 5 (((m2_si μ (kK i) 4 (μ.1 kD 6))).1 kP 8))).1 kD 7))).1 (kK i) 4)).toNatClampNeg))))) : κ 0 [.ref (kK i), .ref kD, .ref kP, .null] [] μ := by
  have hB := h.b
  refine m2_aload_n hB dX3_take_0 rfl ?_
  refine m2_aload_n hB dX3_take_1 rfl ?_
  refine m2_getI hB dX3_take_2 fl_X3_25 sh_kD rfl ?_
  refine m2_putI hB dX3_take_5 fl_X3_31 (sh_kK h_i) rfl ?_
  refine m2_aload_n hB dX3_take_8 rfl ?_
  refine m2_aload_n hB dX3_take_9 rfl ?_
  refine m2_getI hB dX3_take_10 fl_X3_34 sh_kP rfl ?_
  refine m2_putI hB dX3_take_13 fl_X3_37 (sh_kK h_i) rfl ?_
  refine m2_aload_n hB dX3_take_16 rfl ?_
  refine m2_aload_n hB dX3_take_17 rfl ?_
  refine m2_getI hB dX3_take_18 fl_X3_40 sh_kD rfl ?_
  refine m2_putI hB dX3_take_21 fl_X3_43 (sh_kK h_i) rfl ?_
  refine m2_aload_n hB dX3_take_24 rfl ?_
  refine m2_getR hB dX3_take_25 fl_X3_44 sh_kD (c1 := kD_left) rfl ?_
  refine m2_iconst hB dX3_take_28 (v := 0) (by decide) ?_
  refine m2_aload_n hB dX3_take_29 rfl ?_
  refine m2_getR hB dX3_take_30 fl_X3_9 (sh_kK h_i) (c1 := (kK i + 1)) rfl ?_
  refine m2_iconst hB dX3_take_33 (v := 0) (by decide) ?_
  refine m2_aload_n hB dX3_take_34 rfl ?_
  refine m2_getI hB dX3_take_35 fl_X3_31 (sh_kK h_i) rfl ?_
  obtain ⟨hc3, k⟩ := k
  obtain ⟨hc4, k⟩ := k
  have hc5 := hc4
  refine m2_copyi hB dX3_take_38 ac_X3_45 ac_nat ac_stat ac_ini (Nat.le_of_ble_eq_true rfl) sh_kD_left (sh_kK1 h_i) (by decide) (by decide) hc3 hc4 hc5 ?_
  refine m2_iconst hB dX3_take_41 (v := 0) (by decide) ?_
  refine m2_istore_n hB (ls' := [.ref (kK i), .ref kD, .ref kP, .int 0]) dX3_take_42 rfl (by decide) rfl ?_
  exact k
set_option maxRecDepth 100000 in
set_option maxHeartbeats 4000000 in
theorem B_X3_take_43 {κ : Nat → List Value → List Value → m2M → Prop} {D : Nat} {Q : Option Value → m2M → Prop} (h : m2_RL κ cX3_take RX3 4 D none Q) {i : Nat} (h_i : i < 10) {v3 : Int32} {μ : m2M} (k : ((μ.1 (kK i) 5) ≤ v3 → Q none (m2_si μ (kK i) 7 1)) ∧ (¬ (μ.1 (kK i) 5) ≤ v3 → (vp_in v3 8) ∧ (κ 43 [.ref (kK i), .ref kD, .ref kP, .int (v3 + 1)] [] (m2_si (m2_si (m2_si μ (kK i + 2) (v3).toNatClampNeg (μ.1 kP_where (v3).toNatClampNeg)) (kK i + 3) (v3).toNatClampNeg (vp_nar .boolean (((m2_si μ (kK i + 2) (v3).toNatClampNeg (μ.1 kP_where (v3).toNatClampNeg))).1 kP_reached (v3).toNatClampNeg))) (kK i + 4) (v3).toNatClampNeg (vp_nar .boolean (((m2_si (m2_si μ (kK i + 2) (v3).toNatClampNeg (μ.1 kP_where (v3).toNatClampNeg)) (kK i + 3) (v3).toNatClampNeg (vp_nar .boolean (((m2_si μ (kK i + 2) (v3).toNatClampNeg (μ.1 kP_where (v3).toNatClampNeg))).1 kP_reached (v3).toNatClampNeg)))).1 kP_done (v3).toNatClampNeg)))))) : κ 43 [.ref (kK i), .ref kD, .ref kP, .int v3] [] μ := by
  have hB := h.b
  refine m2_iload_n hB dX3_take_43 rfl ?_
  refine m2_aload_n hB dX3_take_44 rfl ?_
  refine m2_getI hB dX3_take_45 fl_X3_37 (sh_kK h_i) rfl ?_
  refine m2_icmp_ge hB dX3_take_48 (tgt := 93) (by decide) (fun q2 : (μ.1 (kK i) 5) ≤ v3 => ?_) (fun q2 : ¬ (μ.1 (kK i) 5) ≤ v3 => ?_)
  · replace k := k.1 q2
    refine m2_aload_n hB dX3_take_93 rfl ?_
    refine m2_iconst hB dX3_take_94 (v := 1) (by decide) ?_
    refine m2_putZ hB (Or.inr rfl) dX3_take_95 fl_X3_54 (sh_kK h_i) rfl ?_
    exact m2_vret h dX3_take_98 k
  · replace k := k.2 q2
    refine m2_aload_n hB dX3_take_51 rfl ?_
    refine m2_getR hB dX3_take_52 fl_X3_15 (sh_kK h_i) (c1 := (kK i + 2)) rfl ?_
    refine m2_iload_n hB dX3_take_55 rfl ?_
    refine m2_aload_n hB dX3_take_56 rfl ?_
    refine m2_getR hB dX3_take_57 fl_X3_51 sh_kP (c1 := kP_where) rfl ?_
    refine m2_iload_n hB dX3_take_60 rfl ?_
    obtain ⟨hi3, k⟩ := k
    refine m2_iald hB dX3_take_61 sh_kP_where hi3 ?_
    have hi4 := hi3
    refine m2_iast hB dX3_take_62 (sh_kK2 h_i) hi4 ?_
    refine m2_aload_n hB dX3_take_63 rfl ?_
    refine m2_getR hB dX3_take_64 fl_X3_18 (sh_kK h_i) (c1 := (kK i + 3)) rfl ?_
    refine m2_iload_n hB dX3_take_67 rfl ?_
    refine m2_aload_n hB dX3_take_68 rfl ?_
    refine m2_getR hB dX3_take_69 fl_X3_52 sh_kP (c1 := kP_reached) rfl ?_
    refine m2_iload_n hB dX3_take_72 rfl ?_
    have hi5 := hi3
    refine m2_zald hB dX3_take_73 sh_kP_reached hi5 ?_
    have hi6 := hi3
    refine m2_zast hB dX3_take_74 (sh_kK3 h_i) hi6 ?_
    refine m2_aload_n hB dX3_take_75 rfl ?_
    refine m2_getR hB dX3_take_76 fl_X3_22 (sh_kK h_i) (c1 := (kK i + 4)) rfl ?_
    refine m2_iload_n hB dX3_take_79 rfl ?_
    refine m2_aload_n hB dX3_take_80 rfl ?_
    refine m2_getR hB dX3_take_81 fl_X3_53 sh_kP (c1 := kP_done) rfl ?_
    refine m2_iload_n hB dX3_take_84 rfl ?_
    have hi7 := hi3
    refine m2_zald hB dX3_take_85 sh_kP_done hi7 ?_
    have hi8 := hi3
    refine m2_zast hB dX3_take_86 (sh_kK4 h_i) hi8 ?_
    refine m2_iinc hB (ls' := [.ref (kK i), .ref kD, .ref kP, .int (v3 + 1)]) (v := (v3 + 1)) dX3_take_87 rfl (by decide) rfl rfl ?_
    refine m2_goto hB dX3_take_90 (tgt := 43) (by decide) ?_
    exact k
theorem dX3_giveBack_0 : decode cX3_giveBack 0 = .ok (.aload_n 1, 1) := by decide +kernel
theorem dX3_giveBack_1 : decode cX3_giveBack 1 = .ok (.aload_n 0, 1) := by decide +kernel
theorem dX3_giveBack_2 : decode cX3_giveBack 2 = .ok (.getfield 43, 3) := by decide +kernel
theorem dX3_giveBack_5 : decode cX3_giveBack 5 = .ok (.putfield 40, 3) := by decide +kernel
theorem dX3_giveBack_8 : decode cX3_giveBack 8 = .ok (.aload_n 0, 1) := by decide +kernel
theorem dX3_giveBack_9 : decode cX3_giveBack 9 = .ok (.getfield 9, 3) := by decide +kernel
theorem dX3_giveBack_12 : decode cX3_giveBack 12 = .ok (.iconst 0, 1) := by decide +kernel
theorem dX3_giveBack_13 : decode cX3_giveBack 13 = .ok (.aload_n 1, 1) := by decide +kernel
theorem dX3_giveBack_14 : decode cX3_giveBack 14 = .ok (.getfield 44, 3) := by decide +kernel
theorem dX3_giveBack_17 : decode cX3_giveBack 17 = .ok (.iconst 0, 1) := by decide +kernel
theorem dX3_giveBack_18 : decode cX3_giveBack 18 = .ok (.aload_n 0, 1) := by decide +kernel
theorem dX3_giveBack_19 : decode cX3_giveBack 19 = .ok (.getfield 31, 3) := by decide +kernel
theorem dX3_giveBack_22 : decode cX3_giveBack 22 = .ok (.invokestatic 45, 3) := by decide +kernel
theorem dX3_giveBack_25 : decode cX3_giveBack 25 = .ok (.iconst 0, 1) := by decide +kernel
theorem dX3_giveBack_26 : decode cX3_giveBack 26 = .ok (.istore_n 3, 1) := by decide +kernel
theorem dX3_giveBack_27 : decode cX3_giveBack 27 = .ok (.iload_n 3, 1) := by decide +kernel
theorem dX3_giveBack_28 : decode cX3_giveBack 28 = .ok (.aload_n 0, 1) := by decide +kernel
theorem dX3_giveBack_29 : decode cX3_giveBack 29 = .ok (.getfield 37, 3) := by decide +kernel
theorem dX3_giveBack_32 : decode cX3_giveBack 32 = .ok (.if_icmp .ge 45, 3) := by decide +kernel
theorem dX3_giveBack_35 : decode cX3_giveBack 35 = .ok (.aload_n 2, 1) := by decide +kernel
theorem dX3_giveBack_36 : decode cX3_giveBack 36 = .ok (.getfield 51, 3) := by decide +kernel
theorem dX3_giveBack_39 : decode cX3_giveBack 39 = .ok (.iload_n 3, 1) := by decide +kernel
theorem dX3_giveBack_40 : decode cX3_giveBack 40 = .ok (.aload_n 0, 1) := by decide +kernel
theorem dX3_giveBack_41 : decode cX3_giveBack 41 = .ok (.getfield 15, 3) := by decide +kernel
theorem dX3_giveBack_44 : decode cX3_giveBack 44 = .ok (.iload_n 3, 1) := by decide +kernel
theorem dX3_giveBack_45 : decode cX3_giveBack 45 = .ok (.iaload, 1) := by decide +kernel
theorem dX3_giveBack_46 : decode cX3_giveBack 46 = .ok (.iastore, 1) := by decide +kernel
theorem dX3_giveBack_47 : decode cX3_giveBack 47 = .ok (.aload_n 2, 1) := by decide +kernel
theorem dX3_giveBack_48 : decode cX3_giveBack 48 = .ok (.getfield 52, 3) := by decide +kernel
theorem dX3_giveBack_51 : decode cX3_giveBack 51 = .ok (.iload_n 3, 1) := by decide +kernel
theorem dX3_giveBack_52 : decode cX3_giveBack 52 = .ok (.aload_n 0, 1) := by decide +kernel
theorem dX3_giveBack_53 : decode cX3_giveBack 53 = .ok (.getfield 18, 3) := by decide +kernel
theorem dX3_giveBack_56 : decode cX3_giveBack 56 = .ok (.iload_n 3, 1) := by decide +kernel
theorem dX3_giveBack_57 : decode cX3_giveBack 57 = .ok (.baload, 1) := by decide +kernel
theorem dX3_giveBack_58 : decode cX3_giveBack 58 = .ok (.bastore, 1) := by decide +kernel
theorem dX3_giveBack_59 : decode cX3_giveBack 59 = .ok (.aload_n 2, 1) := by decide +kernel
theorem dX3_giveBack_60 : decode cX3_giveBack 60 = .ok (.getfield 53, 3) := by decide +kernel
theorem dX3_giveBack_63 : decode cX3_giveBack 63 = .ok (.iload_n 3, 1) := by decide +kernel
theorem dX3_giveBack_64 : decode cX3_giveBack 64 = .ok (.aload_n 0, 1) := by decide +kernel
theorem dX3_giveBack_65 : decode cX3_giveBack 65 = .ok (.getfield 22, 3) := by decide +kernel
theorem dX3_giveBack_68 : decode cX3_giveBack 68 = .ok (.iload_n 3, 1) := by decide +kernel
theorem dX3_giveBack_69 : decode cX3_giveBack 69 = .ok (.baload, 1) := by decide +kernel
theorem dX3_giveBack_70 : decode cX3_giveBack 70 = .ok (.bastore, 1) := by decide +kernel
theorem dX3_giveBack_71 : decode cX3_giveBack 71 = .ok (.iinc 3 1, 3) := by decide +kernel
theorem dX3_giveBack_74 : decode cX3_giveBack 74 = .ok (.goto (-47), 3) := by decide +kernel
theorem dX3_giveBack_77 : decode cX3_giveBack 77 = .ok (.return_, 1) := by decide +kernel
set_option maxRecDepth 100000 in
set_option maxHeartbeats 4000000 in
theorem B_X3_giveBack_0 {κ : Nat → List Value → List Value → m2M → Prop} {D : Nat} {Q : Option Value → m2M → Prop} (h : m2_RL κ cX3_giveBack RX3 4 (D + 1) none Q) {i : Nat} (h_i : i < 10)  {μ : m2M} (k : (¬ (((m2_si μ kD 7 (μ.1 (kK i) 6))).1 (kK i) 4) < 0) ∧ ((((0 : Int32)).toNatClampNeg + ((((m2_si μ kD 7 (μ.1 (kK i) 6))).1 (kK i) 4)).toNatClampNeg ≤ 20) ∧ (κ 27 [.ref (kK i), .ref kD, .ref kP, .int 0] [] (m2_sr (m2_si μ kD 7 (μ.1 (kK i) 6)) kD_left (va_cpy (((m2_si μ kD 7 (μ.1 (kK i) 6))).1 (kK i + 1)) (((m2_si μ kD 7 (μ.1 (kK i) 6))).1 kD_left) ((0 : Int32)).toNatClampNeg ((0 : Int32)).toNatClampNeg ((((m2_si μ kD 7 (μ.1 (kK i) 6))).1 (kK i) 4)).toNatClampNeg))))) : κ 0 [.ref (kK i), .ref kD, .ref kP, .null] [] μ := by
  have hB := h.b
  refine m2_aload_n hB dX3_giveBack_0 rfl ?_
  refine m2_aload_n hB dX3_giveBack_1 rfl ?_
  refine m2_getI hB dX3_giveBack_2 fl_X3_43 (sh_kK h_i) rfl ?_
  refine m2_putI hB dX3_giveBack_5 fl_X3_40 sh_kD rfl ?_
  refine m2_aload_n hB dX3_giveBack_8 rfl ?_
  refine m2_getR hB dX3_giveBack_9 fl_X3_9 (sh_kK h_i) (c1 := (kK i + 1)) rfl ?_
  refine m2_iconst hB dX3_giveBack_12 (v := 0) (by decide) ?_
  refine m2_aload_n hB dX3_giveBack_13 rfl ?_
  refine m2_getR hB dX3_giveBack_14 fl_X3_44 sh_kD (c1 := kD_left) rfl ?_
  refine m2_iconst hB dX3_giveBack_17 (v := 0) (by decide) ?_
  refine m2_aload_n hB dX3_giveBack_18 rfl ?_
  refine m2_getI hB dX3_giveBack_19 fl_X3_31 (sh_kK h_i) rfl ?_
  obtain ⟨hc3, k⟩ := k
  obtain ⟨hc4, k⟩ := k
  have hc5 := hc4
  refine m2_copyi hB dX3_giveBack_22 ac_X3_45 ac_nat ac_stat ac_ini (Nat.le_of_ble_eq_true rfl) (sh_kK1 h_i) sh_kD_left (by decide) (by decide) hc3 hc4 hc5 ?_
  refine m2_iconst hB dX3_giveBack_25 (v := 0) (by decide) ?_
  refine m2_istore_n hB (ls' := [.ref (kK i), .ref kD, .ref kP, .int 0]) dX3_giveBack_26 rfl (by decide) rfl ?_
  exact k
set_option maxRecDepth 100000 in
set_option maxHeartbeats 4000000 in
theorem B_X3_giveBack_27 {κ : Nat → List Value → List Value → m2M → Prop} {D : Nat} {Q : Option Value → m2M → Prop} (h : m2_RL κ cX3_giveBack RX3 4 D none Q) {i : Nat} (h_i : i < 10) {v3 : Int32} {μ : m2M} (k : ((μ.1 (kK i) 5) ≤ v3 → Q none μ) ∧ (¬ (μ.1 (kK i) 5) ≤ v3 → (vp_in v3 8) ∧ (κ 27 [.ref (kK i), .ref kD, .ref kP, .int (v3 + 1)] [] (m2_si (m2_si (m2_si μ kP_where (v3).toNatClampNeg (μ.1 (kK i + 2) (v3).toNatClampNeg)) kP_reached (v3).toNatClampNeg (vp_nar .boolean (((m2_si μ kP_where (v3).toNatClampNeg (μ.1 (kK i + 2) (v3).toNatClampNeg))).1 (kK i + 3) (v3).toNatClampNeg))) kP_done (v3).toNatClampNeg (vp_nar .boolean (((m2_si (m2_si μ kP_where (v3).toNatClampNeg (μ.1 (kK i + 2) (v3).toNatClampNeg)) kP_reached (v3).toNatClampNeg (vp_nar .boolean (((m2_si μ kP_where (v3).toNatClampNeg (μ.1 (kK i + 2) (v3).toNatClampNeg))).1 (kK i + 3) (v3).toNatClampNeg)))).1 (kK i + 4) (v3).toNatClampNeg)))))) : κ 27 [.ref (kK i), .ref kD, .ref kP, .int v3] [] μ := by
  have hB := h.b
  refine m2_iload_n hB dX3_giveBack_27 rfl ?_
  refine m2_aload_n hB dX3_giveBack_28 rfl ?_
  refine m2_getI hB dX3_giveBack_29 fl_X3_37 (sh_kK h_i) rfl ?_
  refine m2_icmp_ge hB dX3_giveBack_32 (tgt := 77) (by decide) (fun q2 : (μ.1 (kK i) 5) ≤ v3 => ?_) (fun q2 : ¬ (μ.1 (kK i) 5) ≤ v3 => ?_)
  · replace k := k.1 q2
    exact m2_vret h dX3_giveBack_77 k
  · replace k := k.2 q2
    refine m2_aload_n hB dX3_giveBack_35 rfl ?_
    refine m2_getR hB dX3_giveBack_36 fl_X3_51 sh_kP (c1 := kP_where) rfl ?_
    refine m2_iload_n hB dX3_giveBack_39 rfl ?_
    refine m2_aload_n hB dX3_giveBack_40 rfl ?_
    refine m2_getR hB dX3_giveBack_41 fl_X3_15 (sh_kK h_i) (c1 := (kK i + 2)) rfl ?_
    refine m2_iload_n hB dX3_giveBack_44 rfl ?_
    obtain ⟨hi3, k⟩ := k
    refine m2_iald hB dX3_giveBack_45 (sh_kK2 h_i) hi3 ?_
    have hi4 := hi3
    refine m2_iast hB dX3_giveBack_46 sh_kP_where hi4 ?_
    refine m2_aload_n hB dX3_giveBack_47 rfl ?_
    refine m2_getR hB dX3_giveBack_48 fl_X3_52 sh_kP (c1 := kP_reached) rfl ?_
    refine m2_iload_n hB dX3_giveBack_51 rfl ?_
    refine m2_aload_n hB dX3_giveBack_52 rfl ?_
    refine m2_getR hB dX3_giveBack_53 fl_X3_18 (sh_kK h_i) (c1 := (kK i + 3)) rfl ?_
    refine m2_iload_n hB dX3_giveBack_56 rfl ?_
    have hi5 := hi3
    refine m2_zald hB dX3_giveBack_57 (sh_kK3 h_i) hi5 ?_
    have hi6 := hi3
    refine m2_zast hB dX3_giveBack_58 sh_kP_reached hi6 ?_
    refine m2_aload_n hB dX3_giveBack_59 rfl ?_
    refine m2_getR hB dX3_giveBack_60 fl_X3_53 sh_kP (c1 := kP_done) rfl ?_
    refine m2_iload_n hB dX3_giveBack_63 rfl ?_
    refine m2_aload_n hB dX3_giveBack_64 rfl ?_
    refine m2_getR hB dX3_giveBack_65 fl_X3_22 (sh_kK h_i) (c1 := (kK i + 4)) rfl ?_
    refine m2_iload_n hB dX3_giveBack_68 rfl ?_
    have hi7 := hi3
    refine m2_zald hB dX3_giveBack_69 (sh_kK4 h_i) hi7 ?_
    have hi8 := hi3
    refine m2_zast hB dX3_giveBack_70 sh_kP_done hi8 ?_
    refine m2_iinc hB (ls' := [.ref (kK i), .ref kD, .ref kP, .int (v3 + 1)]) (v := (v3 + 1)) dX3_giveBack_71 rfl (by decide) rfl rfl ?_
    refine m2_goto hB dX3_giveBack_74 (tgt := 27) (by decide) ?_
    exact k
theorem dX0_goOn_0 : decode cX0_goOn 0 = .ok (.aload_n 0, 1) := by decide +kernel
theorem dX0_goOn_1 : decode cX0_goOn 1 = .ok (.getfield 35, 3) := by decide +kernel
theorem dX0_goOn_4 : decode cX0_goOn 4 = .ok (.bipush 12, 2) := by decide +kernel
theorem dX0_goOn_6 : decode cX0_goOn 6 = .ok (.if_icmp .ge 18, 3) := by decide +kernel
theorem dX0_goOn_9 : decode cX0_goOn 9 = .ok (.aload_n 0, 1) := by decide +kernel
theorem dX0_goOn_10 : decode cX0_goOn 10 = .ok (.getfield 35, 3) := by decide +kernel
theorem dX0_goOn_13 : decode cX0_goOn 13 = .ok (.iload_n 1, 1) := by decide +kernel
theorem dX0_goOn_14 : decode cX0_goOn 14 = .ok (.iadd, 1) := by decide +kernel
theorem dX0_goOn_15 : decode cX0_goOn 15 = .ok (.bipush 12, 2) := by decide +kernel
theorem dX0_goOn_17 : decode cX0_goOn 17 = .ok (.if_icmp .lt 7, 3) := by decide +kernel
theorem dX0_goOn_20 : decode cX0_goOn 20 = .ok (.iconst 1, 1) := by decide +kernel
theorem dX0_goOn_21 : decode cX0_goOn 21 = .ok (.goto 4, 3) := by decide +kernel
theorem dX0_goOn_24 : decode cX0_goOn 24 = .ok (.iconst 0, 1) := by decide +kernel
theorem dX0_goOn_25 : decode cX0_goOn 25 = .ok (.istore_n 2, 1) := by decide +kernel
theorem dX0_goOn_26 : decode cX0_goOn 26 = .ok (.aload_n 0, 1) := by decide +kernel
theorem dX0_goOn_27 : decode cX0_goOn 27 = .ok (.dup, 1) := by decide +kernel
theorem dX0_goOn_28 : decode cX0_goOn 28 = .ok (.getfield 35, 3) := by decide +kernel
theorem dX0_goOn_31 : decode cX0_goOn 31 = .ok (.iload_n 1, 1) := by decide +kernel
theorem dX0_goOn_32 : decode cX0_goOn 32 = .ok (.iadd, 1) := by decide +kernel
theorem dX0_goOn_33 : decode cX0_goOn 33 = .ok (.putfield 35, 3) := by decide +kernel
theorem dX0_goOn_36 : decode cX0_goOn 36 = .ok (.iconst 0, 1) := by decide +kernel
theorem dX0_goOn_37 : decode cX0_goOn 37 = .ok (.istore_n 3, 1) := by decide +kernel
theorem dX0_goOn_38 : decode cX0_goOn 38 = .ok (.iload_n 3, 1) := by decide +kernel
theorem dX0_goOn_39 : decode cX0_goOn 39 = .ok (.aload_n 0, 1) := by decide +kernel
theorem dX0_goOn_40 : decode cX0_goOn 40 = .ok (.getfield 31, 3) := by decide +kernel
theorem dX0_goOn_43 : decode cX0_goOn 43 = .ok (.if_icmp .ge 35, 3) := by decide +kernel
theorem dX0_goOn_46 : decode cX0_goOn 46 = .ok (.iload_n 2, 1) := by decide +kernel
theorem dX0_goOn_47 : decode cX0_goOn 47 = .ok (.ifCond .eq 31, 3) := by decide +kernel
theorem dX0_goOn_50 : decode cX0_goOn 50 = .ok (.aload_n 0, 1) := by decide +kernel
theorem dX0_goOn_51 : decode cX0_goOn 51 = .ok (.getfield 25, 3) := by decide +kernel
theorem dX0_goOn_54 : decode cX0_goOn 54 = .ok (.iload_n 3, 1) := by decide +kernel
theorem dX0_goOn_55 : decode cX0_goOn 55 = .ok (.iaload, 1) := by decide +kernel
theorem dX0_goOn_56 : decode cX0_goOn 56 = .ok (.iconst (-1), 1) := by decide +kernel
theorem dX0_goOn_57 : decode cX0_goOn 57 = .ok (.if_icmp .eq 15, 3) := by decide +kernel
theorem dX0_goOn_60 : decode cX0_goOn 60 = .ok (.aload_n 0, 1) := by decide +kernel
theorem dX0_goOn_61 : decode cX0_goOn 61 = .ok (.getfield 28, 3) := by decide +kernel
theorem dX0_goOn_64 : decode cX0_goOn 64 = .ok (.iload_n 3, 1) := by decide +kernel
theorem dX0_goOn_65 : decode cX0_goOn 65 = .ok (.aload_n 0, 1) := by decide +kernel
theorem dX0_goOn_66 : decode cX0_goOn 66 = .ok (.getfield 25, 3) := by decide +kernel
theorem dX0_goOn_69 : decode cX0_goOn 69 = .ok (.iload_n 3, 1) := by decide +kernel
theorem dX0_goOn_70 : decode cX0_goOn 70 = .ok (.iaload, 1) := by decide +kernel
theorem dX0_goOn_71 : decode cX0_goOn 71 = .ok (.iastore, 1) := by decide +kernel
theorem dX0_goOn_72 : decode cX0_goOn 72 = .ok (.iinc 3 1, 3) := by decide +kernel
theorem dX0_goOn_75 : decode cX0_goOn 75 = .ok (.goto (-37), 3) := by decide +kernel
theorem dX0_goOn_78 : decode cX0_goOn 78 = .ok (.return_, 1) := by decide +kernel
set_option maxRecDepth 100000 in
set_option maxHeartbeats 4000000 in
theorem B_X0_goOn_0 {κ : Nat → List Value → List Value → m2M → Prop} {D : Nat} {Q : Option Value → m2M → Prop} (h : m2_RL κ cX0_goOn RX0 4 D none Q) {x1 : Int32} {μ : m2M} (k : κ 38 [.ref kD, .int x1, .int (if 12 ≤ (μ.1 kD 7) then 0 else (if ((μ.1 kD 7) + x1) < 12 then 0 else 1 : Int32) : Int32), .int 0] [] (m2_si μ kD 7 ((μ.1 kD 7) + x1))) : κ 0 [.ref kD, .int x1, .null, .null] [] μ := by
  have hB := h.b
  refine m2_aload_n hB dX0_goOn_0 rfl ?_
  refine m2_getI hB dX0_goOn_1 fl_X0_35 sh_kD rfl ?_
  refine m2_bipush hB dX0_goOn_4 (v := 12) (by decide) ?_
  have G3 : κ 25 [.ref kD, .int x1, .null, .null] [.int (if 12 ≤ (μ.1 kD 7) then 0 else (if ((μ.1 kD 7) + x1) < 12 then 0 else 1 : Int32) : Int32)] μ := by
    refine m2_istore_n hB (ls' := [.ref kD, .int x1, .int (if 12 ≤ (μ.1 kD 7) then 0 else (if ((μ.1 kD 7) + x1) < 12 then 0 else 1 : Int32) : Int32), .null]) dX0_goOn_25 rfl (by decide) rfl ?_
    refine m2_aload_n hB dX0_goOn_26 rfl ?_
    refine m2_dup hB dX0_goOn_27 rfl ?_
    refine m2_getI hB dX0_goOn_28 fl_X0_35 sh_kD rfl ?_
    refine m2_iload_n hB dX0_goOn_31 rfl ?_
    refine m2_iadd hB dX0_goOn_32 ?_
    refine m2_putI hB dX0_goOn_33 fl_X0_35 sh_kD rfl ?_
    refine m2_iconst hB dX0_goOn_36 (v := 0) (by decide) ?_
    refine m2_istore_n hB (ls' := [.ref kD, .int x1, .int (if 12 ≤ (μ.1 kD 7) then 0 else (if ((μ.1 kD 7) + x1) < 12 then 0 else 1 : Int32) : Int32), .int 0]) dX0_goOn_37 rfl (by decide) rfl ?_
    exact k
  refine m2_icmp_ge hB dX0_goOn_6 (tgt := 24) (by decide) (fun q2 : 12 ≤ (μ.1 kD 7) => ?_) (fun q2 : ¬ 12 ≤ (μ.1 kD 7) => ?_)
  · rw [if_pos q2] at G3
    refine m2_iconst hB dX0_goOn_24 (v := 0) (by decide) ?_
    exact G3
  · rw [if_neg q2] at G3
    refine m2_aload_n hB dX0_goOn_9 rfl ?_
    refine m2_getI hB dX0_goOn_10 fl_X0_35 sh_kD rfl ?_
    refine m2_iload_n hB dX0_goOn_13 rfl ?_
    refine m2_iadd hB dX0_goOn_14 ?_
    refine m2_bipush hB dX0_goOn_15 (v := 12) (by decide) ?_
    have G4 : κ 25 [.ref kD, .int x1, .null, .null] [.int (if ((μ.1 kD 7) + x1) < 12 then 0 else 1 : Int32)] μ := by
      exact G3
    refine m2_icmp_lt hB dX0_goOn_17 (tgt := 24) (by decide) (fun q1 : ((μ.1 kD 7) + x1) < 12 => ?_) (fun q1 : ¬ ((μ.1 kD 7) + x1) < 12 => ?_)
    · rw [if_pos q1] at G4
      refine m2_iconst hB dX0_goOn_24 (v := 0) (by decide) ?_
      exact G4
    · rw [if_neg q1] at G4
      refine m2_iconst hB dX0_goOn_20 (v := 1) (by decide) ?_
      refine m2_goto hB dX0_goOn_21 (tgt := 25) (by decide) ?_
      exact G4
set_option maxRecDepth 100000 in
set_option maxHeartbeats 4000000 in
theorem B_X0_goOn_38 {κ : Nat → List Value → List Value → m2M → Prop} {D : Nat} {Q : Option Value → m2M → Prop} (h : m2_RL κ cX0_goOn RX0 4 D none Q) {v1 : Int32} {v2 : Int32} {v3 : Int32} {μ : m2M} (k : ((μ.1 kD 6) ≤ v3 → Q none μ) ∧ (¬ (μ.1 kD 6) ≤ v3 → (v2 = 0 → Q none μ) ∧ (¬ v2 = 0 → (vp_in v3 20) ∧ (((μ.1 kD_noon (v3).toNatClampNeg) = (-1) → κ 38 [.ref kD, .int v1, .int v2, .int (v3 + 1)] [] μ) ∧ (¬ (μ.1 kD_noon (v3).toNatClampNeg) = (-1) → κ 38 [.ref kD, .int v1, .int v2, .int (v3 + 1)] [] (m2_si μ kD_left (v3).toNatClampNeg (μ.1 kD_noon (v3).toNatClampNeg))))))) : κ 38 [.ref kD, .int v1, .int v2, .int v3] [] μ := by
  have hB := h.b
  refine m2_iload_n hB dX0_goOn_38 rfl ?_
  refine m2_aload_n hB dX0_goOn_39 rfl ?_
  refine m2_getI hB dX0_goOn_40 fl_X0_31 sh_kD rfl ?_
  refine m2_icmp_ge hB dX0_goOn_43 (tgt := 78) (by decide) (fun q2 : (μ.1 kD 6) ≤ v3 => ?_) (fun q2 : ¬ (μ.1 kD 6) ≤ v3 => ?_)
  · replace k := k.1 q2
    exact m2_vret h dX0_goOn_78 k
  · replace k := k.2 q2
    refine m2_iload_n hB dX0_goOn_46 rfl ?_
    refine m2_if_eq hB dX0_goOn_47 (tgt := 78) (by decide) (fun q4 : v2 = 0 => ?_) (fun q4 : ¬ v2 = 0 => ?_)
    · replace k := k.1 q4
      exact m2_vret h dX0_goOn_78 k
    · replace k := k.2 q4
      refine m2_aload_n hB dX0_goOn_50 rfl ?_
      refine m2_getR hB dX0_goOn_51 fl_X0_25 sh_kD (c1 := kD_noon) rfl ?_
      refine m2_iload_n hB dX0_goOn_54 rfl ?_
      obtain ⟨hi5, k⟩ := k
      refine m2_iald hB dX0_goOn_55 sh_kD_noon hi5 ?_
      refine m2_iconst hB dX0_goOn_56 (v := (-1)) (by decide) ?_
      refine m2_icmp_eq hB dX0_goOn_57 (tgt := 72) (by decide) (fun q7 : (μ.1 kD_noon (v3).toNatClampNeg) = (-1) => ?_) (fun q7 : ¬ (μ.1 kD_noon (v3).toNatClampNeg) = (-1) => ?_)
      · replace k := k.1 q7
        refine m2_iinc hB (ls' := [.ref kD, .int v1, .int v2, .int (v3 + 1)]) (v := (v3 + 1)) dX0_goOn_72 rfl (by decide) rfl rfl ?_
        refine m2_goto hB dX0_goOn_75 (tgt := 38) (by decide) ?_
        exact k
      · replace k := k.2 q7
        refine m2_aload_n hB dX0_goOn_60 rfl ?_
        refine m2_getR hB dX0_goOn_61 fl_X0_28 sh_kD (c1 := kD_left) rfl ?_
        refine m2_iload_n hB dX0_goOn_64 rfl ?_
        refine m2_aload_n hB dX0_goOn_65 rfl ?_
        refine m2_getR hB dX0_goOn_66 fl_X0_25 sh_kD (c1 := kD_noon) rfl ?_
        refine m2_iload_n hB dX0_goOn_69 rfl ?_
        have hi8 := hi5
        refine m2_iald hB dX0_goOn_70 sh_kD_noon hi8 ?_
        have hi9 := hi5
        refine m2_iast hB dX0_goOn_71 sh_kD_left hi9 ?_
        refine m2_iinc hB (ls' := [.ref kD, .int v1, .int v2, .int (v3 + 1)]) (v := (v3 + 1)) dX0_goOn_72 rfl (by decide) rfl rfl ?_
        refine m2_goto hB dX0_goOn_75 (tgt := 38) (by decide) ?_
        exact k
theorem dX0_someHasLeft_0 : decode cX0_someHasLeft 0 = .ok (.iconst 0, 1) := by decide +kernel
theorem dX0_someHasLeft_1 : decode cX0_someHasLeft 1 = .ok (.istore_n 2, 1) := by decide +kernel
theorem dX0_someHasLeft_2 : decode cX0_someHasLeft 2 = .ok (.iload_n 2, 1) := by decide +kernel
theorem dX0_someHasLeft_3 : decode cX0_someHasLeft 3 = .ok (.aload_n 0, 1) := by decide +kernel
theorem dX0_someHasLeft_4 : decode cX0_someHasLeft 4 = .ok (.getfield 31, 3) := by decide +kernel
theorem dX0_someHasLeft_7 : decode cX0_someHasLeft 7 = .ok (.if_icmp .ge 21, 3) := by decide +kernel
theorem dX0_someHasLeft_10 : decode cX0_someHasLeft 10 = .ok (.aload_n 0, 1) := by decide +kernel
theorem dX0_someHasLeft_11 : decode cX0_someHasLeft 11 = .ok (.getfield 28, 3) := by decide +kernel
theorem dX0_someHasLeft_14 : decode cX0_someHasLeft 14 = .ok (.iload_n 2, 1) := by decide +kernel
theorem dX0_someHasLeft_15 : decode cX0_someHasLeft 15 = .ok (.iaload, 1) := by decide +kernel
theorem dX0_someHasLeft_16 : decode cX0_someHasLeft 16 = .ok (.iload_n 1, 1) := by decide +kernel
theorem dX0_someHasLeft_17 : decode cX0_someHasLeft 17 = .ok (.if_icmp .ne 5, 3) := by decide +kernel
theorem dX0_someHasLeft_20 : decode cX0_someHasLeft 20 = .ok (.iconst 1, 1) := by decide +kernel
theorem dX0_someHasLeft_21 : decode cX0_someHasLeft 21 = .ok (.ireturn, 1) := by decide +kernel
theorem dX0_someHasLeft_22 : decode cX0_someHasLeft 22 = .ok (.iinc 2 1, 3) := by decide +kernel
theorem dX0_someHasLeft_25 : decode cX0_someHasLeft 25 = .ok (.goto (-23), 3) := by decide +kernel
theorem dX0_someHasLeft_28 : decode cX0_someHasLeft 28 = .ok (.iconst 0, 1) := by decide +kernel
theorem dX0_someHasLeft_29 : decode cX0_someHasLeft 29 = .ok (.ireturn, 1) := by decide +kernel
set_option maxRecDepth 100000 in
set_option maxHeartbeats 4000000 in
theorem B_X0_someHasLeft_0 {κ : Nat → List Value → List Value → m2M → Prop} {D : Nat} {Q : Option Value → m2M → Prop} (h : m2_RL κ cX0_someHasLeft RX0 3 D (some .boolean) Q) {x1 : Int32} {μ : m2M} (k : κ 2 [.ref kD, .int x1, .int 0] [] μ) : κ 0 [.ref kD, .int x1, .null] [] μ := by
  have hB := h.b
  refine m2_iconst hB dX0_someHasLeft_0 (v := 0) (by decide) ?_
  refine m2_istore_n hB (ls' := [.ref kD, .int x1, .int 0]) dX0_someHasLeft_1 rfl (by decide) rfl ?_
  exact k
set_option maxRecDepth 100000 in
set_option maxHeartbeats 4000000 in
theorem B_X0_someHasLeft_2 {κ : Nat → List Value → List Value → m2M → Prop} {D : Nat} {Q : Option Value → m2M → Prop} (h : m2_RL κ cX0_someHasLeft RX0 3 D (some .boolean) Q) {v1 : Int32} {v2 : Int32} {μ : m2M} (k : ((μ.1 kD 6) ≤ v2 → Q (some (.int 0)) μ) ∧ (¬ (μ.1 kD 6) ≤ v2 → (vp_in v2 20) ∧ ((¬ (μ.1 kD_left (v2).toNatClampNeg) = v1 → κ 2 [.ref kD, .int v1, .int (v2 + 1)] [] μ) ∧ ((μ.1 kD_left (v2).toNatClampNeg) = v1 → Q (some (.int 1)) μ)))) : κ 2 [.ref kD, .int v1, .int v2] [] μ := by
  have hB := h.b
  refine m2_iload_n hB dX0_someHasLeft_2 rfl ?_
  refine m2_aload_n hB dX0_someHasLeft_3 rfl ?_
  refine m2_getI hB dX0_someHasLeft_4 fl_X0_31 sh_kD rfl ?_
  refine m2_icmp_ge hB dX0_someHasLeft_7 (tgt := 28) (by decide) (fun q1 : (μ.1 kD 6) ≤ v2 => ?_) (fun q1 : ¬ (μ.1 kD 6) ≤ v2 => ?_)
  · replace k := k.1 q1
    refine m2_iconst hB dX0_someHasLeft_28 (v := 0) (by decide) ?_
    exact m2_zret h dX0_someHasLeft_29 (Or.inl rfl) k
  · replace k := k.2 q1
    refine m2_aload_n hB dX0_someHasLeft_10 rfl ?_
    refine m2_getR hB dX0_someHasLeft_11 fl_X0_28 sh_kD (c1 := kD_left) rfl ?_
    refine m2_iload_n hB dX0_someHasLeft_14 rfl ?_
    obtain ⟨hi2, k⟩ := k
    refine m2_iald hB dX0_someHasLeft_15 sh_kD_left hi2 ?_
    refine m2_iload_n hB dX0_someHasLeft_16 rfl ?_
    refine m2_icmp_ne hB dX0_someHasLeft_17 (tgt := 22) (by decide) (fun q3 : ¬ (μ.1 kD_left (v2).toNatClampNeg) = v1 => ?_) (fun q3 : (μ.1 kD_left (v2).toNatClampNeg) = v1 => ?_)
    · replace k := k.1 q3
      refine m2_iinc hB (ls' := [.ref kD, .int v1, .int (v2 + 1)]) (v := (v2 + 1)) dX0_someHasLeft_22 rfl (by decide) rfl rfl ?_
      refine m2_goto hB dX0_someHasLeft_25 (tgt := 2) (by decide) ?_
      exact k
    · replace k := k.2 q3
      refine m2_iconst hB dX0_someHasLeft_20 (v := 1) (by decide) ?_
      exact m2_zret h dX0_someHasLeft_21 (Or.inr rfl) k
theorem dX0_openBits_0 : decode cX0_openBits 0 = .ok (.iconst 0, 1) := by decide +kernel
theorem dX0_openBits_1 : decode cX0_openBits 1 = .ok (.istore_n 1, 1) := by decide +kernel
theorem dX0_openBits_2 : decode cX0_openBits 2 = .ok (.iconst 0, 1) := by decide +kernel
theorem dX0_openBits_3 : decode cX0_openBits 3 = .ok (.istore_n 2, 1) := by decide +kernel
theorem dX0_openBits_4 : decode cX0_openBits 4 = .ok (.iload_n 2, 1) := by decide +kernel
theorem dX0_openBits_5 : decode cX0_openBits 5 = .ok (.aload_n 0, 1) := by decide +kernel
theorem dX0_openBits_6 : decode cX0_openBits 6 = .ok (.getfield 31, 3) := by decide +kernel
theorem dX0_openBits_9 : decode cX0_openBits 9 = .ok (.if_icmp .ge 31, 3) := by decide +kernel
theorem dX0_openBits_12 : decode cX0_openBits 12 = .ok (.iload_n 1, 1) := by decide +kernel
theorem dX0_openBits_13 : decode cX0_openBits 13 = .ok (.aload_n 0, 1) := by decide +kernel
theorem dX0_openBits_14 : decode cX0_openBits 14 = .ok (.getfield 28, 3) := by decide +kernel
theorem dX0_openBits_17 : decode cX0_openBits 17 = .ok (.iload_n 2, 1) := by decide +kernel
theorem dX0_openBits_18 : decode cX0_openBits 18 = .ok (.iaload, 1) := by decide +kernel
theorem dX0_openBits_19 : decode cX0_openBits 19 = .ok (.ifCond .le 7, 3) := by decide +kernel
theorem dX0_openBits_22 : decode cX0_openBits 22 = .ok (.iconst 1, 1) := by decide +kernel
theorem dX0_openBits_23 : decode cX0_openBits 23 = .ok (.goto 4, 3) := by decide +kernel
theorem dX0_openBits_26 : decode cX0_openBits 26 = .ok (.iconst 0, 1) := by decide +kernel
theorem dX0_openBits_27 : decode cX0_openBits 27 = .ok (.invokestatic 38, 3) := by decide +kernel
theorem dX0_openBits_30 : decode cX0_openBits 30 = .ok (.iload_n 2, 1) := by decide +kernel
theorem dX0_openBits_31 : decode cX0_openBits 31 = .ok (.ishl, 1) := by decide +kernel
theorem dX0_openBits_32 : decode cX0_openBits 32 = .ok (.ior, 1) := by decide +kernel
theorem dX0_openBits_33 : decode cX0_openBits 33 = .ok (.istore_n 1, 1) := by decide +kernel
theorem dX0_openBits_34 : decode cX0_openBits 34 = .ok (.iinc 2 1, 3) := by decide +kernel
theorem dX0_openBits_37 : decode cX0_openBits 37 = .ok (.goto (-33), 3) := by decide +kernel
theorem dX0_openBits_40 : decode cX0_openBits 40 = .ok (.iload_n 1, 1) := by decide +kernel
theorem dX0_openBits_41 : decode cX0_openBits 41 = .ok (.ireturn, 1) := by decide +kernel
set_option maxRecDepth 100000 in
set_option maxHeartbeats 4000000 in
theorem B_X0_openBits_0 {κ : Nat → List Value → List Value → m2M → Prop} {D : Nat} {Q : Option Value → m2M → Prop} (h : m2_RL κ cX0_openBits RX0 3 D (some .int) Q)  {μ : m2M} (k : κ 4 [.ref kD, .int 0, .int 0] [] μ) : κ 0 [.ref kD, .null, .null] [] μ := by
  have hB := h.b
  refine m2_iconst hB dX0_openBits_0 (v := 0) (by decide) ?_
  refine m2_istore_n hB (ls' := [.ref kD, .int 0, .null]) dX0_openBits_1 rfl (by decide) rfl ?_
  refine m2_iconst hB dX0_openBits_2 (v := 0) (by decide) ?_
  refine m2_istore_n hB (ls' := [.ref kD, .int 0, .int 0]) dX0_openBits_3 rfl (by decide) rfl ?_
  exact k
set_option maxRecDepth 100000 in
set_option maxHeartbeats 4000000 in
theorem B_X0_openBits_4 {κ : Nat → List Value → List Value → m2M → Prop} {D : Nat} {Q : Option Value → m2M → Prop} (h : m2_RL κ cX0_openBits RX0 3 (D + 1) (some .int) Q) (hD : 0 ≤ D) {v1 : Int32} {v2 : Int32} {μ : m2M} (k : ((μ.1 kD 6) ≤ v2 → Q (some (.int v1)) μ) ∧ (¬ (μ.1 kD 6) ≤ v2 → (vp_in v2 20) ∧ (κ 4 [.ref kD, .int (v1 ||| ((if (μ.1 kD_left (v2).toNatClampNeg) ≤ 0 then 0 else 1 : Int32) <<< (v2 &&& 31))), .int (v2 + 1)] [] μ))) : κ 4 [.ref kD, .int v1, .int v2] [] μ := by
  have hB := h.b
  refine m2_iload_n hB dX0_openBits_4 rfl ?_
  refine m2_aload_n hB dX0_openBits_5 rfl ?_
  refine m2_getI hB dX0_openBits_6 fl_X0_31 sh_kD rfl ?_
  refine m2_icmp_ge hB dX0_openBits_9 (tgt := 40) (by decide) (fun q2 : (μ.1 kD 6) ≤ v2 => ?_) (fun q2 : ¬ (μ.1 kD 6) ≤ v2 => ?_)
  · replace k := k.1 q2
    refine m2_iload_n hB dX0_openBits_40 rfl ?_
    exact m2_iret h dX0_openBits_41 k
  · replace k := k.2 q2
    refine m2_iload_n hB dX0_openBits_12 rfl ?_
    refine m2_aload_n hB dX0_openBits_13 rfl ?_
    refine m2_getR hB dX0_openBits_14 fl_X0_28 sh_kD (c1 := kD_left) rfl ?_
    refine m2_iload_n hB dX0_openBits_17 rfl ?_
    obtain ⟨hi3, k⟩ := k
    refine m2_iald hB dX0_openBits_18 sh_kD_left hi3 ?_
    have G5 : κ 27 [.ref kD, .int v1, .int v2] [.int (if (μ.1 kD_left (v2).toNatClampNeg) ≤ 0 then 0 else 1 : Int32), .int v1] μ := by
      refine m2_invNi hB (as := [.int (if (μ.1 kD_left (v2).toNatClampNeg) ≤ 0 then 0 else 1 : Int32)]) dX0_openBits_27 mn_X0_38 rfl (Nat.le_of_ble_eq_true rfl) rfl (P_X11_asNumber (by omega) ((if (μ.1 kD_left (v2).toNatClampNeg) ≤ 0 then 0 else 1 : Int32)) _ ) (fun y6 μ7 hq8 => ?_)
      obtain ⟨⟨⟩, hq8⟩ := hq8
      subst μ7
      rw [show (if (if (μ.1 kD_left (v2).toNatClampNeg) ≤ 0 then 0 else 1 : Int32) = 0 then 0 else 1 : Int32) = (if (μ.1 kD_left (v2).toNatClampNeg) ≤ 0 then 0 else 1 : Int32) from by by_cases zz : (μ.1 kD_left (v2).toNatClampNeg) ≤ 0 <;> simp [zz]]
      refine m2_iload_n hB dX0_openBits_30 rfl ?_
      refine m2_ishl hB dX0_openBits_31 ?_
      refine m2_ior hB dX0_openBits_32 ?_
      refine m2_istore_n hB (ls' := [.ref kD, .int (v1 ||| ((if (μ.1 kD_left (v2).toNatClampNeg) ≤ 0 then 0 else 1 : Int32) <<< (v2 &&& 31))), .int v2]) dX0_openBits_33 rfl (by decide) rfl ?_
      refine m2_iinc hB (ls' := [.ref kD, .int (v1 ||| ((if (μ.1 kD_left (v2).toNatClampNeg) ≤ 0 then 0 else 1 : Int32) <<< (v2 &&& 31))), .int (v2 + 1)]) (v := (v2 + 1)) dX0_openBits_34 rfl (by decide) rfl rfl ?_
      refine m2_goto hB dX0_openBits_37 (tgt := 4) (by decide) ?_
      exact k
    refine m2_if_le hB dX0_openBits_19 (tgt := 26) (by decide) (fun q4 : (μ.1 kD_left (v2).toNatClampNeg) ≤ 0 => ?_) (fun q4 : ¬ (μ.1 kD_left (v2).toNatClampNeg) ≤ 0 => ?_)
    · rw [if_pos q4] at G5
      refine m2_iconst hB dX0_openBits_26 (v := 0) (by decide) ?_
      exact G5
    · rw [if_neg q4] at G5
      refine m2_iconst hB dX0_openBits_22 (v := 1) (by decide) ?_
      refine m2_goto hB dX0_openBits_23 (tgt := 27) (by decide) ?_
      exact G5
theorem dX0_sumLeft_0 : decode cX0_sumLeft 0 = .ok (.iconst 0, 1) := by decide +kernel
theorem dX0_sumLeft_1 : decode cX0_sumLeft 1 = .ok (.istore_n 1, 1) := by decide +kernel
theorem dX0_sumLeft_2 : decode cX0_sumLeft 2 = .ok (.iconst 0, 1) := by decide +kernel
theorem dX0_sumLeft_3 : decode cX0_sumLeft 3 = .ok (.istore_n 2, 1) := by decide +kernel
theorem dX0_sumLeft_4 : decode cX0_sumLeft 4 = .ok (.iload_n 2, 1) := by decide +kernel
theorem dX0_sumLeft_5 : decode cX0_sumLeft 5 = .ok (.aload_n 0, 1) := by decide +kernel
theorem dX0_sumLeft_6 : decode cX0_sumLeft 6 = .ok (.getfield 31, 3) := by decide +kernel
theorem dX0_sumLeft_9 : decode cX0_sumLeft 9 = .ok (.if_icmp .ge 18, 3) := by decide +kernel
theorem dX0_sumLeft_12 : decode cX0_sumLeft 12 = .ok (.iload_n 1, 1) := by decide +kernel
theorem dX0_sumLeft_13 : decode cX0_sumLeft 13 = .ok (.aload_n 0, 1) := by decide +kernel
theorem dX0_sumLeft_14 : decode cX0_sumLeft 14 = .ok (.getfield 28, 3) := by decide +kernel
theorem dX0_sumLeft_17 : decode cX0_sumLeft 17 = .ok (.iload_n 2, 1) := by decide +kernel
theorem dX0_sumLeft_18 : decode cX0_sumLeft 18 = .ok (.iaload, 1) := by decide +kernel
theorem dX0_sumLeft_19 : decode cX0_sumLeft 19 = .ok (.iadd, 1) := by decide +kernel
theorem dX0_sumLeft_20 : decode cX0_sumLeft 20 = .ok (.istore_n 1, 1) := by decide +kernel
theorem dX0_sumLeft_21 : decode cX0_sumLeft 21 = .ok (.iinc 2 1, 3) := by decide +kernel
theorem dX0_sumLeft_24 : decode cX0_sumLeft 24 = .ok (.goto (-20), 3) := by decide +kernel
theorem dX0_sumLeft_27 : decode cX0_sumLeft 27 = .ok (.iload_n 1, 1) := by decide +kernel
theorem dX0_sumLeft_28 : decode cX0_sumLeft 28 = .ok (.ireturn, 1) := by decide +kernel
set_option maxRecDepth 100000 in
set_option maxHeartbeats 4000000 in
theorem B_X0_sumLeft_0 {κ : Nat → List Value → List Value → m2M → Prop} {D : Nat} {Q : Option Value → m2M → Prop} (h : m2_RL κ cX0_sumLeft RX0 3 D (some .int) Q)  {μ : m2M} (k : κ 4 [.ref kD, .int 0, .int 0] [] μ) : κ 0 [.ref kD, .null, .null] [] μ := by
  have hB := h.b
  refine m2_iconst hB dX0_sumLeft_0 (v := 0) (by decide) ?_
  refine m2_istore_n hB (ls' := [.ref kD, .int 0, .null]) dX0_sumLeft_1 rfl (by decide) rfl ?_
  refine m2_iconst hB dX0_sumLeft_2 (v := 0) (by decide) ?_
  refine m2_istore_n hB (ls' := [.ref kD, .int 0, .int 0]) dX0_sumLeft_3 rfl (by decide) rfl ?_
  exact k
set_option maxRecDepth 100000 in
set_option maxHeartbeats 4000000 in
theorem B_X0_sumLeft_4 {κ : Nat → List Value → List Value → m2M → Prop} {D : Nat} {Q : Option Value → m2M → Prop} (h : m2_RL κ cX0_sumLeft RX0 3 D (some .int) Q) {v1 : Int32} {v2 : Int32} {μ : m2M} (k : ((μ.1 kD 6) ≤ v2 → Q (some (.int v1)) μ) ∧ (¬ (μ.1 kD 6) ≤ v2 → (vp_in v2 20) ∧ (κ 4 [.ref kD, .int (v1 + (μ.1 kD_left (v2).toNatClampNeg)), .int (v2 + 1)] [] μ))) : κ 4 [.ref kD, .int v1, .int v2] [] μ := by
  have hB := h.b
  refine m2_iload_n hB dX0_sumLeft_4 rfl ?_
  refine m2_aload_n hB dX0_sumLeft_5 rfl ?_
  refine m2_getI hB dX0_sumLeft_6 fl_X0_31 sh_kD rfl ?_
  refine m2_icmp_ge hB dX0_sumLeft_9 (tgt := 27) (by decide) (fun q2 : (μ.1 kD 6) ≤ v2 => ?_) (fun q2 : ¬ (μ.1 kD 6) ≤ v2 => ?_)
  · replace k := k.1 q2
    refine m2_iload_n hB dX0_sumLeft_27 rfl ?_
    exact m2_iret h dX0_sumLeft_28 k
  · replace k := k.2 q2
    refine m2_iload_n hB dX0_sumLeft_12 rfl ?_
    refine m2_aload_n hB dX0_sumLeft_13 rfl ?_
    refine m2_getR hB dX0_sumLeft_14 fl_X0_28 sh_kD (c1 := kD_left) rfl ?_
    refine m2_iload_n hB dX0_sumLeft_17 rfl ?_
    obtain ⟨hi3, k⟩ := k
    refine m2_iald hB dX0_sumLeft_18 sh_kD_left hi3 ?_
    refine m2_iadd hB dX0_sumLeft_19 ?_
    refine m2_istore_n hB (ls' := [.ref kD, .int (v1 + (μ.1 kD_left (v2).toNatClampNeg)), .int v2]) dX0_sumLeft_20 rfl (by decide) rfl ?_
    refine m2_iinc hB (ls' := [.ref kD, .int (v1 + (μ.1 kD_left (v2).toNatClampNeg)), .int (v2 + 1)]) (v := (v2 + 1)) dX0_sumLeft_21 rfl (by decide) rfl rfl ?_
    refine m2_goto hB dX0_sumLeft_24 (tgt := 4) (by decide) ?_
    exact k
theorem dX6_begin_0 : decode cX6_begin 0 = .ok (.aload_n 0, 1) := by decide +kernel
theorem dX6_begin_1 : decode cX6_begin 1 = .ok (.getfield 15, 3) := by decide +kernel
theorem dX6_begin_4 : decode cX6_begin 4 = .ok (.iload_n 1, 1) := by decide +kernel
theorem dX6_begin_5 : decode cX6_begin 5 = .ok (.iload_n 2, 1) := by decide +kernel
theorem dX6_begin_6 : decode cX6_begin 6 = .ok (.iastore, 1) := by decide +kernel
theorem dX6_begin_7 : decode cX6_begin 7 = .ok (.aload_n 0, 1) := by decide +kernel
theorem dX6_begin_8 : decode cX6_begin 8 = .ok (.getfield 31, 3) := by decide +kernel
theorem dX6_begin_11 : decode cX6_begin 11 = .ok (.iload_n 1, 1) := by decide +kernel
theorem dX6_begin_12 : decode cX6_begin 12 = .ok (.iconst 0, 1) := by decide +kernel
theorem dX6_begin_13 : decode cX6_begin 13 = .ok (.bastore, 1) := by decide +kernel
theorem dX6_begin_14 : decode cX6_begin 14 = .ok (.aload_n 0, 1) := by decide +kernel
theorem dX6_begin_15 : decode cX6_begin 15 = .ok (.getfield 34, 3) := by decide +kernel
theorem dX6_begin_18 : decode cX6_begin 18 = .ok (.iload_n 1, 1) := by decide +kernel
theorem dX6_begin_19 : decode cX6_begin 19 = .ok (.iconst 0, 1) := by decide +kernel
theorem dX6_begin_20 : decode cX6_begin 20 = .ok (.bastore, 1) := by decide +kernel
theorem dX6_begin_21 : decode cX6_begin 21 = .ok (.aload_n 0, 1) := by decide +kernel
theorem dX6_begin_22 : decode cX6_begin 22 = .ok (.iload_n 1, 1) := by decide +kernel
theorem dX6_begin_23 : decode cX6_begin 23 = .ok (.iload_n 2, 1) := by decide +kernel
theorem dX6_begin_24 : decode cX6_begin 24 = .ok (.invokevirtual 45, 3) := by decide +kernel
theorem dX6_begin_27 : decode cX6_begin 27 = .ok (.return_, 1) := by decide +kernel
set_option maxRecDepth 100000 in
set_option maxHeartbeats 4000000 in
theorem B_X6_begin_0 {κ : Nat → List Value → List Value → m2M → Prop} {D : Nat} {Q : Option Value → m2M → Prop} (h : m2_RL κ cX6_begin RX6 3 (D + 1) none Q) {x1 : Int32} {x2 : Int32} {μ : m2M} (k : (vp_in x1 8) ∧ (∃ Q6 : Option Value → m2M → Prop, m2_MT D yX6_come cX6_come 3 none [.ref kP, .int x1, .int x2] (m2_si (m2_si (m2_si μ kP_first (x1).toNatClampNeg x2) kP_reached (x1).toNatClampNeg (vp_nar .boolean 0)) kP_done (x1).toNatClampNeg (vp_nar .boolean 0)) Q6 ∧ ∀ (μ5 : m2M), Q6 none μ5 → (Q none μ5))) : κ 0 [.ref kP, .int x1, .int x2] [] μ := by
  have hB := h.b
  refine m2_aload_n hB dX6_begin_0 rfl ?_
  refine m2_getR hB dX6_begin_1 fl_X6_15 sh_kP (c1 := kP_first) rfl ?_
  refine m2_iload_n hB dX6_begin_4 rfl ?_
  refine m2_iload_n hB dX6_begin_5 rfl ?_
  obtain ⟨hi1, k⟩ := k
  refine m2_iast hB dX6_begin_6 sh_kP_first hi1 ?_
  refine m2_aload_n hB dX6_begin_7 rfl ?_
  refine m2_getR hB dX6_begin_8 fl_X6_31 sh_kP (c1 := kP_reached) rfl ?_
  refine m2_iload_n hB dX6_begin_11 rfl ?_
  refine m2_iconst hB dX6_begin_12 (v := 0) (by decide) ?_
  have hi2 := hi1
  refine m2_zast hB dX6_begin_13 sh_kP_reached hi2 ?_
  refine m2_aload_n hB dX6_begin_14 rfl ?_
  refine m2_getR hB dX6_begin_15 fl_X6_34 sh_kP (c1 := kP_done) rfl ?_
  refine m2_iload_n hB dX6_begin_18 rfl ?_
  refine m2_iconst hB dX6_begin_19 (v := 0) (by decide) ?_
  have hi3 := hi1
  refine m2_zast hB dX6_begin_20 sh_kP_done hi3 ?_
  refine m2_aload_n hB dX6_begin_21 rfl ?_
  refine m2_iload_n hB dX6_begin_22 rfl ?_
  refine m2_iload_n hB dX6_begin_23 rfl ?_
  obtain ⟨Q6, hM7, k⟩ := k
  refine m2_invv hB (as := [.int x1, .int x2]) dX6_begin_24 mv_X6_45 rfl sh_kP rfl (Nat.le_of_ble_eq_true rfl) rfl hM7 (fun μ5 hq8 => ?_)
  replace k := k μ5 hq8
  exact m2_vret h dX6_begin_27 k
theorem dX6_come_0 : decode cX6_come 0 = .ok (.aload_n 0, 1) := by decide +kernel
theorem dX6_come_1 : decode cX6_come 1 = .ok (.getfield 9, 3) := by decide +kernel
theorem dX6_come_4 : decode cX6_come 4 = .ok (.iload_n 1, 1) := by decide +kernel
theorem dX6_come_5 : decode cX6_come 5 = .ok (.iload_n 2, 1) := by decide +kernel
theorem dX6_come_6 : decode cX6_come 6 = .ok (.iastore, 1) := by decide +kernel
theorem dX6_come_7 : decode cX6_come 7 = .ok (.aload_n 0, 1) := by decide +kernel
theorem dX6_come_8 : decode cX6_come 8 = .ok (.getfield 25, 3) := by decide +kernel
theorem dX6_come_11 : decode cX6_come 11 = .ok (.iload_n 1, 1) := by decide +kernel
theorem dX6_come_12 : decode cX6_come 12 = .ok (.iaload, 1) := by decide +kernel
theorem dX6_come_13 : decode cX6_come 13 = .ok (.iload_n 2, 1) := by decide +kernel
theorem dX6_come_14 : decode cX6_come 14 = .ok (.if_icmp .ne 10, 3) := by decide +kernel
theorem dX6_come_17 : decode cX6_come 17 = .ok (.aload_n 0, 1) := by decide +kernel
theorem dX6_come_18 : decode cX6_come 18 = .ok (.getfield 31, 3) := by decide +kernel
theorem dX6_come_21 : decode cX6_come 21 = .ok (.iload_n 1, 1) := by decide +kernel
theorem dX6_come_22 : decode cX6_come 22 = .ok (.iconst 1, 1) := by decide +kernel
theorem dX6_come_23 : decode cX6_come 23 = .ok (.bastore, 1) := by decide +kernel
theorem dX6_come_24 : decode cX6_come 24 = .ok (.aload_n 0, 1) := by decide +kernel
theorem dX6_come_25 : decode cX6_come 25 = .ok (.getfield 31, 3) := by decide +kernel
theorem dX6_come_28 : decode cX6_come 28 = .ok (.iload_n 1, 1) := by decide +kernel
theorem dX6_come_29 : decode cX6_come 29 = .ok (.baload, 1) := by decide +kernel
theorem dX6_come_30 : decode cX6_come 30 = .ok (.ifCond .eq 29, 3) := by decide +kernel
theorem dX6_come_33 : decode cX6_come 33 = .ok (.aload_n 0, 1) := by decide +kernel
theorem dX6_come_34 : decode cX6_come 34 = .ok (.getfield 28, 3) := by decide +kernel
theorem dX6_come_37 : decode cX6_come 37 = .ok (.iload_n 1, 1) := by decide +kernel
theorem dX6_come_38 : decode cX6_come 38 = .ok (.baload, 1) := by decide +kernel
theorem dX6_come_39 : decode cX6_come 39 = .ok (.ifCond .eq 13, 3) := by decide +kernel
theorem dX6_come_42 : decode cX6_come 42 = .ok (.iload_n 2, 1) := by decide +kernel
theorem dX6_come_43 : decode cX6_come 43 = .ok (.aload_n 0, 1) := by decide +kernel
theorem dX6_come_44 : decode cX6_come 44 = .ok (.getfield 15, 3) := by decide +kernel
theorem dX6_come_47 : decode cX6_come 47 = .ok (.iload_n 1, 1) := by decide +kernel
theorem dX6_come_48 : decode cX6_come 48 = .ok (.iaload, 1) := by decide +kernel
theorem dX6_come_49 : decode cX6_come 49 = .ok (.if_icmp .ne 10, 3) := by decide +kernel
theorem dX6_come_52 : decode cX6_come 52 = .ok (.aload_n 0, 1) := by decide +kernel
theorem dX6_come_53 : decode cX6_come 53 = .ok (.getfield 34, 3) := by decide +kernel
theorem dX6_come_56 : decode cX6_come 56 = .ok (.iload_n 1, 1) := by decide +kernel
theorem dX6_come_57 : decode cX6_come 57 = .ok (.iconst 1, 1) := by decide +kernel
theorem dX6_come_58 : decode cX6_come 58 = .ok (.bastore, 1) := by decide +kernel
theorem dX6_come_59 : decode cX6_come 59 = .ok (.return_, 1) := by decide +kernel
set_option maxRecDepth 100000 in
set_option maxHeartbeats 4000000 in
theorem B_X6_come_0 {κ : Nat → List Value → List Value → m2M → Prop} {D : Nat} {Q : Option Value → m2M → Prop} (h : m2_RL κ cX6_come RX6 3 D none Q) {x1 : Int32} {x2 : Int32} {μ : m2M} (k : (vp_in x1 8) ∧ ((¬ (μ.1 kP_errand (x1).toNatClampNeg) = x2 → ((μ.1 kP_reached (x1).toNatClampNeg) = 0 → Q none (m2_si μ kP_where (x1).toNatClampNeg x2)) ∧ (¬ (μ.1 kP_reached (x1).toNatClampNeg) = 0 → ((μ.1 kP_back (x1).toNatClampNeg) = 0 → Q none (m2_si (m2_si μ kP_where (x1).toNatClampNeg x2) kP_done (x1).toNatClampNeg (vp_nar .boolean 1))) ∧ (¬ (μ.1 kP_back (x1).toNatClampNeg) = 0 → (¬ x2 = (μ.1 kP_first (x1).toNatClampNeg) → Q none (m2_si μ kP_where (x1).toNatClampNeg x2)) ∧ (x2 = (μ.1 kP_first (x1).toNatClampNeg) → Q none (m2_si (m2_si μ kP_where (x1).toNatClampNeg x2) kP_done (x1).toNatClampNeg (vp_nar .boolean 1)))))) ∧ ((μ.1 kP_errand (x1).toNatClampNeg) = x2 → ((((m2_si (m2_si μ kP_where (x1).toNatClampNeg x2) kP_reached (x1).toNatClampNeg (vp_nar .boolean 1))).1 kP_reached (x1).toNatClampNeg) = 0 → Q none (m2_si (m2_si μ kP_where (x1).toNatClampNeg x2) kP_reached (x1).toNatClampNeg (vp_nar .boolean 1))) ∧ (¬ (((m2_si (m2_si μ kP_where (x1).toNatClampNeg x2) kP_reached (x1).toNatClampNeg (vp_nar .boolean 1))).1 kP_reached (x1).toNatClampNeg) = 0 → ((μ.1 kP_back (x1).toNatClampNeg) = 0 → Q none (m2_si (m2_si (m2_si μ kP_where (x1).toNatClampNeg x2) kP_reached (x1).toNatClampNeg (vp_nar .boolean 1)) kP_done (x1).toNatClampNeg (vp_nar .boolean 1))) ∧ (¬ (μ.1 kP_back (x1).toNatClampNeg) = 0 → (¬ x2 = (μ.1 kP_first (x1).toNatClampNeg) → Q none (m2_si (m2_si μ kP_where (x1).toNatClampNeg x2) kP_reached (x1).toNatClampNeg (vp_nar .boolean 1))) ∧ (x2 = (μ.1 kP_first (x1).toNatClampNeg) → Q none (m2_si (m2_si (m2_si μ kP_where (x1).toNatClampNeg x2) kP_reached (x1).toNatClampNeg (vp_nar .boolean 1)) kP_done (x1).toNatClampNeg (vp_nar .boolean 1)))))))) : κ 0 [.ref kP, .int x1, .int x2] [] μ := by
  have hB := h.b
  refine m2_aload_n hB dX6_come_0 rfl ?_
  refine m2_getR hB dX6_come_1 fl_X6_9 sh_kP (c1 := kP_where) rfl ?_
  refine m2_iload_n hB dX6_come_4 rfl ?_
  refine m2_iload_n hB dX6_come_5 rfl ?_
  obtain ⟨hi1, k⟩ := k
  refine m2_iast hB dX6_come_6 sh_kP_where hi1 ?_
  refine m2_aload_n hB dX6_come_7 rfl ?_
  refine m2_getR hB dX6_come_8 fl_X6_25 sh_kP (c1 := kP_errand) rfl ?_
  refine m2_iload_n hB dX6_come_11 rfl ?_
  have hi2 := hi1
  refine m2_iald hB dX6_come_12 sh_kP_errand hi2 ?_
  refine m2_iload_n hB dX6_come_13 rfl ?_
  refine m2_icmp_ne hB dX6_come_14 (tgt := 24) (by decide) (fun q4 : ¬ (μ.1 kP_errand (x1).toNatClampNeg) = x2 => ?_) (fun q4 : (μ.1 kP_errand (x1).toNatClampNeg) = x2 => ?_)
  · replace k := k.1 q4
    refine m2_aload_n hB dX6_come_24 rfl ?_
    refine m2_getR hB dX6_come_25 fl_X6_31 sh_kP (c1 := kP_reached) rfl ?_
    refine m2_iload_n hB dX6_come_28 rfl ?_
    have hi5 := hi1
    refine m2_zald hB dX6_come_29 sh_kP_reached hi5 ?_
    refine m2_if_eq hB dX6_come_30 (tgt := 59) (by decide) (fun q7 : (μ.1 kP_reached (x1).toNatClampNeg) = 0 => ?_) (fun q7 : ¬ (μ.1 kP_reached (x1).toNatClampNeg) = 0 => ?_)
    · replace k := k.1 q7
      exact m2_vret h dX6_come_59 k
    · replace k := k.2 q7
      refine m2_aload_n hB dX6_come_33 rfl ?_
      refine m2_getR hB dX6_come_34 fl_X6_28 sh_kP (c1 := kP_back) rfl ?_
      refine m2_iload_n hB dX6_come_37 rfl ?_
      have hi8 := hi1
      refine m2_zald hB dX6_come_38 sh_kP_back hi8 ?_
      refine m2_if_eq hB dX6_come_39 (tgt := 52) (by decide) (fun q10 : (μ.1 kP_back (x1).toNatClampNeg) = 0 => ?_) (fun q10 : ¬ (μ.1 kP_back (x1).toNatClampNeg) = 0 => ?_)
      · replace k := k.1 q10
        refine m2_aload_n hB dX6_come_52 rfl ?_
        refine m2_getR hB dX6_come_53 fl_X6_34 sh_kP (c1 := kP_done) rfl ?_
        refine m2_iload_n hB dX6_come_56 rfl ?_
        refine m2_iconst hB dX6_come_57 (v := 1) (by decide) ?_
        have hi11 := hi1
        refine m2_zast hB dX6_come_58 sh_kP_done hi11 ?_
        exact m2_vret h dX6_come_59 k
      · replace k := k.2 q10
        refine m2_iload_n hB dX6_come_42 rfl ?_
        refine m2_aload_n hB dX6_come_43 rfl ?_
        refine m2_getR hB dX6_come_44 fl_X6_15 sh_kP (c1 := kP_first) rfl ?_
        refine m2_iload_n hB dX6_come_47 rfl ?_
        have hi12 := hi1
        refine m2_iald hB dX6_come_48 sh_kP_first hi12 ?_
        refine m2_icmp_ne hB dX6_come_49 (tgt := 59) (by decide) (fun q14 : ¬ x2 = (μ.1 kP_first (x1).toNatClampNeg) => ?_) (fun q14 : x2 = (μ.1 kP_first (x1).toNatClampNeg) => ?_)
        · replace k := k.1 q14
          exact m2_vret h dX6_come_59 k
        · replace k := k.2 q14
          refine m2_aload_n hB dX6_come_52 rfl ?_
          refine m2_getR hB dX6_come_53 fl_X6_34 sh_kP (c1 := kP_done) rfl ?_
          refine m2_iload_n hB dX6_come_56 rfl ?_
          refine m2_iconst hB dX6_come_57 (v := 1) (by decide) ?_
          have hi15 := hi1
          refine m2_zast hB dX6_come_58 sh_kP_done hi15 ?_
          exact m2_vret h dX6_come_59 k
  · replace k := k.2 q4
    refine m2_aload_n hB dX6_come_17 rfl ?_
    refine m2_getR hB dX6_come_18 fl_X6_31 sh_kP (c1 := kP_reached) rfl ?_
    refine m2_iload_n hB dX6_come_21 rfl ?_
    refine m2_iconst hB dX6_come_22 (v := 1) (by decide) ?_
    have hi16 := hi1
    refine m2_zast hB dX6_come_23 sh_kP_reached hi16 ?_
    refine m2_aload_n hB dX6_come_24 rfl ?_
    refine m2_getR hB dX6_come_25 fl_X6_31 sh_kP (c1 := kP_reached) rfl ?_
    refine m2_iload_n hB dX6_come_28 rfl ?_
    have hi17 := hi1
    refine m2_zald hB dX6_come_29 sh_kP_reached hi17 ?_
    refine m2_if_eq hB dX6_come_30 (tgt := 59) (by decide) (fun q19 : (((m2_si (m2_si μ kP_where (x1).toNatClampNeg x2) kP_reached (x1).toNatClampNeg (vp_nar .boolean 1))).1 kP_reached (x1).toNatClampNeg) = 0 => ?_) (fun q19 : ¬ (((m2_si (m2_si μ kP_where (x1).toNatClampNeg x2) kP_reached (x1).toNatClampNeg (vp_nar .boolean 1))).1 kP_reached (x1).toNatClampNeg) = 0 => ?_)
    · replace k := k.1 q19
      exact m2_vret h dX6_come_59 k
    · replace k := k.2 q19
      refine m2_aload_n hB dX6_come_33 rfl ?_
      refine m2_getR hB dX6_come_34 fl_X6_28 sh_kP (c1 := kP_back) rfl ?_
      refine m2_iload_n hB dX6_come_37 rfl ?_
      have hi20 := hi1
      refine m2_zald hB dX6_come_38 sh_kP_back hi20 ?_
      refine m2_if_eq hB dX6_come_39 (tgt := 52) (by decide) (fun q22 : (μ.1 kP_back (x1).toNatClampNeg) = 0 => ?_) (fun q22 : ¬ (μ.1 kP_back (x1).toNatClampNeg) = 0 => ?_)
      · replace k := k.1 q22
        refine m2_aload_n hB dX6_come_52 rfl ?_
        refine m2_getR hB dX6_come_53 fl_X6_34 sh_kP (c1 := kP_done) rfl ?_
        refine m2_iload_n hB dX6_come_56 rfl ?_
        refine m2_iconst hB dX6_come_57 (v := 1) (by decide) ?_
        have hi23 := hi1
        refine m2_zast hB dX6_come_58 sh_kP_done hi23 ?_
        exact m2_vret h dX6_come_59 k
      · replace k := k.2 q22
        refine m2_iload_n hB dX6_come_42 rfl ?_
        refine m2_aload_n hB dX6_come_43 rfl ?_
        refine m2_getR hB dX6_come_44 fl_X6_15 sh_kP (c1 := kP_first) rfl ?_
        refine m2_iload_n hB dX6_come_47 rfl ?_
        have hi24 := hi1
        refine m2_iald hB dX6_come_48 sh_kP_first hi24 ?_
        refine m2_icmp_ne hB dX6_come_49 (tgt := 59) (by decide) (fun q26 : ¬ x2 = (μ.1 kP_first (x1).toNatClampNeg) => ?_) (fun q26 : x2 = (μ.1 kP_first (x1).toNatClampNeg) => ?_)
        · replace k := k.1 q26
          exact m2_vret h dX6_come_59 k
        · replace k := k.2 q26
          refine m2_aload_n hB dX6_come_52 rfl ?_
          refine m2_getR hB dX6_come_53 fl_X6_34 sh_kP (c1 := kP_done) rfl ?_
          refine m2_iload_n hB dX6_come_56 rfl ?_
          refine m2_iconst hB dX6_come_57 (v := 1) (by decide) ?_
          have hi27 := hi1
          refine m2_zast hB dX6_come_58 sh_kP_done hi27 ?_
          exact m2_vret h dX6_come_59 k
theorem dX6_worthDone_0 : decode cX6_worthDone 0 = .ok (.iconst 0, 1) := by decide +kernel
theorem dX6_worthDone_1 : decode cX6_worthDone 1 = .ok (.istore_n 1, 1) := by decide +kernel
theorem dX6_worthDone_2 : decode cX6_worthDone 2 = .ok (.iconst 0, 1) := by decide +kernel
theorem dX6_worthDone_3 : decode cX6_worthDone 3 = .ok (.istore_n 2, 1) := by decide +kernel
theorem dX6_worthDone_4 : decode cX6_worthDone 4 = .ok (.iload_n 2, 1) := by decide +kernel
theorem dX6_worthDone_5 : decode cX6_worthDone 5 = .ok (.aload_n 0, 1) := by decide +kernel
theorem dX6_worthDone_6 : decode cX6_worthDone 6 = .ok (.getfield 37, 3) := by decide +kernel
theorem dX6_worthDone_9 : decode cX6_worthDone 9 = .ok (.if_icmp .ge 31, 3) := by decide +kernel
theorem dX6_worthDone_12 : decode cX6_worthDone 12 = .ok (.iload_n 1, 1) := by decide +kernel
theorem dX6_worthDone_13 : decode cX6_worthDone 13 = .ok (.aload_n 0, 1) := by decide +kernel
theorem dX6_worthDone_14 : decode cX6_worthDone 14 = .ok (.getfield 34, 3) := by decide +kernel
theorem dX6_worthDone_17 : decode cX6_worthDone 17 = .ok (.iload_n 2, 1) := by decide +kernel
theorem dX6_worthDone_18 : decode cX6_worthDone 18 = .ok (.baload, 1) := by decide +kernel
theorem dX6_worthDone_19 : decode cX6_worthDone 19 = .ok (.ifCond .eq 12, 3) := by decide +kernel
theorem dX6_worthDone_22 : decode cX6_worthDone 22 = .ok (.aload_n 0, 1) := by decide +kernel
theorem dX6_worthDone_23 : decode cX6_worthDone 23 = .ok (.getfield 22, 3) := by decide +kernel
theorem dX6_worthDone_26 : decode cX6_worthDone 26 = .ok (.iload_n 2, 1) := by decide +kernel
theorem dX6_worthDone_27 : decode cX6_worthDone 27 = .ok (.iaload, 1) := by decide +kernel
theorem dX6_worthDone_28 : decode cX6_worthDone 28 = .ok (.goto 4, 3) := by decide +kernel
theorem dX6_worthDone_31 : decode cX6_worthDone 31 = .ok (.iconst 0, 1) := by decide +kernel
theorem dX6_worthDone_32 : decode cX6_worthDone 32 = .ok (.iadd, 1) := by decide +kernel
theorem dX6_worthDone_33 : decode cX6_worthDone 33 = .ok (.istore_n 1, 1) := by decide +kernel
theorem dX6_worthDone_34 : decode cX6_worthDone 34 = .ok (.iinc 2 1, 3) := by decide +kernel
theorem dX6_worthDone_37 : decode cX6_worthDone 37 = .ok (.goto (-33), 3) := by decide +kernel
theorem dX6_worthDone_40 : decode cX6_worthDone 40 = .ok (.iload_n 1, 1) := by decide +kernel
theorem dX6_worthDone_41 : decode cX6_worthDone 41 = .ok (.ireturn, 1) := by decide +kernel
set_option maxRecDepth 100000 in
set_option maxHeartbeats 4000000 in
theorem B_X6_worthDone_0 {κ : Nat → List Value → List Value → m2M → Prop} {D : Nat} {Q : Option Value → m2M → Prop} (h : m2_RL κ cX6_worthDone RX6 3 D (some .int) Q)  {μ : m2M} (k : κ 4 [.ref kP, .int 0, .int 0] [] μ) : κ 0 [.ref kP, .null, .null] [] μ := by
  have hB := h.b
  refine m2_iconst hB dX6_worthDone_0 (v := 0) (by decide) ?_
  refine m2_istore_n hB (ls' := [.ref kP, .int 0, .null]) dX6_worthDone_1 rfl (by decide) rfl ?_
  refine m2_iconst hB dX6_worthDone_2 (v := 0) (by decide) ?_
  refine m2_istore_n hB (ls' := [.ref kP, .int 0, .int 0]) dX6_worthDone_3 rfl (by decide) rfl ?_
  exact k
set_option maxRecDepth 100000 in
set_option maxHeartbeats 4000000 in
theorem B_X6_worthDone_4 {κ : Nat → List Value → List Value → m2M → Prop} {D : Nat} {Q : Option Value → m2M → Prop} (h : m2_RL κ cX6_worthDone RX6 3 D (some .int) Q) {v1 : Int32} {v2 : Int32} {μ : m2M} (k : ((μ.1 kP 8) ≤ v2 → Q (some (.int v1)) μ) ∧ (¬ (μ.1 kP 8) ≤ v2 → (vp_in v2 8) ∧ (((μ.1 kP_done (v2).toNatClampNeg) = 0 → κ 4 [.ref kP, .int (v1 + 0), .int (v2 + 1)] [] μ) ∧ (¬ (μ.1 kP_done (v2).toNatClampNeg) = 0 → κ 4 [.ref kP, .int (v1 + (μ.1 kP_worth (v2).toNatClampNeg)), .int (v2 + 1)] [] μ)))) : κ 4 [.ref kP, .int v1, .int v2] [] μ := by
  have hB := h.b
  refine m2_iload_n hB dX6_worthDone_4 rfl ?_
  refine m2_aload_n hB dX6_worthDone_5 rfl ?_
  refine m2_getI hB dX6_worthDone_6 fl_X6_37 sh_kP rfl ?_
  refine m2_icmp_ge hB dX6_worthDone_9 (tgt := 40) (by decide) (fun q2 : (μ.1 kP 8) ≤ v2 => ?_) (fun q2 : ¬ (μ.1 kP 8) ≤ v2 => ?_)
  · replace k := k.1 q2
    refine m2_iload_n hB dX6_worthDone_40 rfl ?_
    exact m2_iret h dX6_worthDone_41 k
  · replace k := k.2 q2
    refine m2_iload_n hB dX6_worthDone_12 rfl ?_
    refine m2_aload_n hB dX6_worthDone_13 rfl ?_
    refine m2_getR hB dX6_worthDone_14 fl_X6_34 sh_kP (c1 := kP_done) rfl ?_
    refine m2_iload_n hB dX6_worthDone_17 rfl ?_
    obtain ⟨hi3, k⟩ := k
    refine m2_zald hB dX6_worthDone_18 sh_kP_done hi3 ?_
    refine m2_if_eq hB dX6_worthDone_19 (tgt := 31) (by decide) (fun q5 : (μ.1 kP_done (v2).toNatClampNeg) = 0 => ?_) (fun q5 : ¬ (μ.1 kP_done (v2).toNatClampNeg) = 0 => ?_)
    · replace k := k.1 q5
      refine m2_iconst hB dX6_worthDone_31 (v := 0) (by decide) ?_
      refine m2_iadd hB dX6_worthDone_32 ?_
      refine m2_istore_n hB (ls' := [.ref kP, .int (v1 + 0), .int v2]) dX6_worthDone_33 rfl (by decide) rfl ?_
      refine m2_iinc hB (ls' := [.ref kP, .int (v1 + 0), .int (v2 + 1)]) (v := (v2 + 1)) dX6_worthDone_34 rfl (by decide) rfl rfl ?_
      refine m2_goto hB dX6_worthDone_37 (tgt := 4) (by decide) ?_
      exact k
    · replace k := k.2 q5
      refine m2_aload_n hB dX6_worthDone_22 rfl ?_
      refine m2_getR hB dX6_worthDone_23 fl_X6_22 sh_kP (c1 := kP_worth) rfl ?_
      refine m2_iload_n hB dX6_worthDone_26 rfl ?_
      have hi6 := hi3
      refine m2_iald hB dX6_worthDone_27 sh_kP_worth hi6 ?_
      refine m2_goto hB dX6_worthDone_28 (tgt := 32) (by decide) ?_
      refine m2_iadd hB dX6_worthDone_32 ?_
      refine m2_istore_n hB (ls' := [.ref kP, .int (v1 + (μ.1 kP_worth (v2).toNatClampNeg)), .int v2]) dX6_worthDone_33 rfl (by decide) rfl ?_
      refine m2_iinc hB (ls' := [.ref kP, .int (v1 + (μ.1 kP_worth (v2).toNatClampNeg)), .int (v2 + 1)]) (v := (v2 + 1)) dX6_worthDone_34 rfl (by decide) rfl rfl ?_
      refine m2_goto hB dX6_worthDone_37 (tgt := 4) (by decide) ?_
      exact k
theorem dX6_doneBits_0 : decode cX6_doneBits 0 = .ok (.iconst 0, 1) := by decide +kernel
theorem dX6_doneBits_1 : decode cX6_doneBits 1 = .ok (.istore_n 1, 1) := by decide +kernel
theorem dX6_doneBits_2 : decode cX6_doneBits 2 = .ok (.iconst 0, 1) := by decide +kernel
theorem dX6_doneBits_3 : decode cX6_doneBits 3 = .ok (.istore_n 2, 1) := by decide +kernel
theorem dX6_doneBits_4 : decode cX6_doneBits 4 = .ok (.iload_n 2, 1) := by decide +kernel
theorem dX6_doneBits_5 : decode cX6_doneBits 5 = .ok (.aload_n 0, 1) := by decide +kernel
theorem dX6_doneBits_6 : decode cX6_doneBits 6 = .ok (.getfield 37, 3) := by decide +kernel
theorem dX6_doneBits_9 : decode cX6_doneBits 9 = .ok (.if_icmp .ge 23, 3) := by decide +kernel
theorem dX6_doneBits_12 : decode cX6_doneBits 12 = .ok (.iload_n 1, 1) := by decide +kernel
theorem dX6_doneBits_13 : decode cX6_doneBits 13 = .ok (.aload_n 0, 1) := by decide +kernel
theorem dX6_doneBits_14 : decode cX6_doneBits 14 = .ok (.getfield 34, 3) := by decide +kernel
theorem dX6_doneBits_17 : decode cX6_doneBits 17 = .ok (.iload_n 2, 1) := by decide +kernel
theorem dX6_doneBits_18 : decode cX6_doneBits 18 = .ok (.baload, 1) := by decide +kernel
theorem dX6_doneBits_19 : decode cX6_doneBits 19 = .ok (.invokestatic 49, 3) := by decide +kernel
theorem dX6_doneBits_22 : decode cX6_doneBits 22 = .ok (.iload_n 2, 1) := by decide +kernel
theorem dX6_doneBits_23 : decode cX6_doneBits 23 = .ok (.ishl, 1) := by decide +kernel
theorem dX6_doneBits_24 : decode cX6_doneBits 24 = .ok (.ior, 1) := by decide +kernel
theorem dX6_doneBits_25 : decode cX6_doneBits 25 = .ok (.istore_n 1, 1) := by decide +kernel
theorem dX6_doneBits_26 : decode cX6_doneBits 26 = .ok (.iinc 2 1, 3) := by decide +kernel
theorem dX6_doneBits_29 : decode cX6_doneBits 29 = .ok (.goto (-25), 3) := by decide +kernel
theorem dX6_doneBits_32 : decode cX6_doneBits 32 = .ok (.iload_n 1, 1) := by decide +kernel
theorem dX6_doneBits_33 : decode cX6_doneBits 33 = .ok (.ireturn, 1) := by decide +kernel
set_option maxRecDepth 100000 in
set_option maxHeartbeats 4000000 in
theorem B_X6_doneBits_0 {κ : Nat → List Value → List Value → m2M → Prop} {D : Nat} {Q : Option Value → m2M → Prop} (h : m2_RL κ cX6_doneBits RX6 3 D (some .int) Q)  {μ : m2M} (k : κ 4 [.ref kP, .int 0, .int 0] [] μ) : κ 0 [.ref kP, .null, .null] [] μ := by
  have hB := h.b
  refine m2_iconst hB dX6_doneBits_0 (v := 0) (by decide) ?_
  refine m2_istore_n hB (ls' := [.ref kP, .int 0, .null]) dX6_doneBits_1 rfl (by decide) rfl ?_
  refine m2_iconst hB dX6_doneBits_2 (v := 0) (by decide) ?_
  refine m2_istore_n hB (ls' := [.ref kP, .int 0, .int 0]) dX6_doneBits_3 rfl (by decide) rfl ?_
  exact k
set_option maxRecDepth 100000 in
set_option maxHeartbeats 4000000 in
theorem B_X6_doneBits_4 {κ : Nat → List Value → List Value → m2M → Prop} {D : Nat} {Q : Option Value → m2M → Prop} (h : m2_RL κ cX6_doneBits RX6 3 (D + 1) (some .int) Q) (hD : 0 ≤ D) {v1 : Int32} {v2 : Int32} {μ : m2M} (k : ((μ.1 kP 8) ≤ v2 → Q (some (.int v1)) μ) ∧ (¬ (μ.1 kP 8) ≤ v2 → (vp_in v2 8) ∧ (κ 4 [.ref kP, .int (v1 ||| ((if (μ.1 kP_done (v2).toNatClampNeg) = 0 then 0 else 1 : Int32) <<< (v2 &&& 31))), .int (v2 + 1)] [] μ))) : κ 4 [.ref kP, .int v1, .int v2] [] μ := by
  have hB := h.b
  refine m2_iload_n hB dX6_doneBits_4 rfl ?_
  refine m2_aload_n hB dX6_doneBits_5 rfl ?_
  refine m2_getI hB dX6_doneBits_6 fl_X6_37 sh_kP rfl ?_
  refine m2_icmp_ge hB dX6_doneBits_9 (tgt := 32) (by decide) (fun q2 : (μ.1 kP 8) ≤ v2 => ?_) (fun q2 : ¬ (μ.1 kP 8) ≤ v2 => ?_)
  · replace k := k.1 q2
    refine m2_iload_n hB dX6_doneBits_32 rfl ?_
    exact m2_iret h dX6_doneBits_33 k
  · replace k := k.2 q2
    refine m2_iload_n hB dX6_doneBits_12 rfl ?_
    refine m2_aload_n hB dX6_doneBits_13 rfl ?_
    refine m2_getR hB dX6_doneBits_14 fl_X6_34 sh_kP (c1 := kP_done) rfl ?_
    refine m2_iload_n hB dX6_doneBits_17 rfl ?_
    obtain ⟨hi3, k⟩ := k
    refine m2_zald hB dX6_doneBits_18 sh_kP_done hi3 ?_
    refine m2_invNi hB (as := [.int (μ.1 kP_done (v2).toNatClampNeg)]) dX6_doneBits_19 mn_X6_49 rfl (Nat.le_of_ble_eq_true rfl) rfl (P_X11_asNumber (by omega) ((μ.1 kP_done (v2).toNatClampNeg)) _ ) (fun y4 μ5 hq6 => ?_)
    obtain ⟨⟨⟩, hq6⟩ := hq6
    subst μ5
    refine m2_iload_n hB dX6_doneBits_22 rfl ?_
    refine m2_ishl hB dX6_doneBits_23 ?_
    refine m2_ior hB dX6_doneBits_24 ?_
    refine m2_istore_n hB (ls' := [.ref kP, .int (v1 ||| ((if (μ.1 kP_done (v2).toNatClampNeg) = 0 then 0 else 1 : Int32) <<< (v2 &&& 31))), .int v2]) dX6_doneBits_25 rfl (by decide) rfl ?_
    refine m2_iinc hB (ls' := [.ref kP, .int (v1 ||| ((if (μ.1 kP_done (v2).toNatClampNeg) = 0 then 0 else 1 : Int32) <<< (v2 &&& 31))), .int (v2 + 1)]) (v := (v2 + 1)) dX6_doneBits_26 rfl (by decide) rfl rfl ?_
    refine m2_goto hB dX6_doneBits_29 (tgt := 4) (by decide) ?_
    exact k
theorem dX6_busyBits_0 : decode cX6_busyBits 0 = .ok (.iconst 0, 1) := by decide +kernel
theorem dX6_busyBits_1 : decode cX6_busyBits 1 = .ok (.istore_n 1, 1) := by decide +kernel
theorem dX6_busyBits_2 : decode cX6_busyBits 2 = .ok (.iconst 0, 1) := by decide +kernel
theorem dX6_busyBits_3 : decode cX6_busyBits 3 = .ok (.istore_n 2, 1) := by decide +kernel
theorem dX6_busyBits_4 : decode cX6_busyBits 4 = .ok (.iload_n 2, 1) := by decide +kernel
theorem dX6_busyBits_5 : decode cX6_busyBits 5 = .ok (.aload_n 0, 1) := by decide +kernel
theorem dX6_busyBits_6 : decode cX6_busyBits 6 = .ok (.getfield 37, 3) := by decide +kernel
theorem dX6_busyBits_9 : decode cX6_busyBits 9 = .ok (.if_icmp .ge 22, 3) := by decide +kernel
theorem dX6_busyBits_12 : decode cX6_busyBits 12 = .ok (.iload_n 1, 1) := by decide +kernel
theorem dX6_busyBits_13 : decode cX6_busyBits 13 = .ok (.aload_n 0, 1) := by decide +kernel
theorem dX6_busyBits_14 : decode cX6_busyBits 14 = .ok (.iload_n 2, 1) := by decide +kernel
theorem dX6_busyBits_15 : decode cX6_busyBits 15 = .ok (.invokevirtual 41, 3) := by decide +kernel
theorem dX6_busyBits_18 : decode cX6_busyBits 18 = .ok (.invokestatic 49, 3) := by decide +kernel
theorem dX6_busyBits_21 : decode cX6_busyBits 21 = .ok (.iload_n 2, 1) := by decide +kernel
theorem dX6_busyBits_22 : decode cX6_busyBits 22 = .ok (.ishl, 1) := by decide +kernel
theorem dX6_busyBits_23 : decode cX6_busyBits 23 = .ok (.ior, 1) := by decide +kernel
theorem dX6_busyBits_24 : decode cX6_busyBits 24 = .ok (.istore_n 1, 1) := by decide +kernel
theorem dX6_busyBits_25 : decode cX6_busyBits 25 = .ok (.iinc 2 1, 3) := by decide +kernel
theorem dX6_busyBits_28 : decode cX6_busyBits 28 = .ok (.goto (-24), 3) := by decide +kernel
theorem dX6_busyBits_31 : decode cX6_busyBits 31 = .ok (.iload_n 1, 1) := by decide +kernel
theorem dX6_busyBits_32 : decode cX6_busyBits 32 = .ok (.ireturn, 1) := by decide +kernel
set_option maxRecDepth 100000 in
set_option maxHeartbeats 4000000 in
theorem B_X6_busyBits_0 {κ : Nat → List Value → List Value → m2M → Prop} {D : Nat} {Q : Option Value → m2M → Prop} (h : m2_RL κ cX6_busyBits RX6 3 D (some .int) Q)  {μ : m2M} (k : κ 4 [.ref kP, .int 0, .int 0] [] μ) : κ 0 [.ref kP, .null, .null] [] μ := by
  have hB := h.b
  refine m2_iconst hB dX6_busyBits_0 (v := 0) (by decide) ?_
  refine m2_istore_n hB (ls' := [.ref kP, .int 0, .null]) dX6_busyBits_1 rfl (by decide) rfl ?_
  refine m2_iconst hB dX6_busyBits_2 (v := 0) (by decide) ?_
  refine m2_istore_n hB (ls' := [.ref kP, .int 0, .int 0]) dX6_busyBits_3 rfl (by decide) rfl ?_
  exact k
set_option maxRecDepth 100000 in
set_option maxHeartbeats 4000000 in
theorem B_X6_busyBits_4 {κ : Nat → List Value → List Value → m2M → Prop} {D : Nat} {Q : Option Value → m2M → Prop} (h : m2_RL κ cX6_busyBits RX6 3 (D + 1) (some .int) Q) (hD : 0 ≤ D) {v1 : Int32} {v2 : Int32} {μ : m2M} (k : ((μ.1 kP 8) ≤ v2 → Q (some (.int v1)) μ) ∧ (¬ (μ.1 kP 8) ≤ v2 → (vp_in v2 8) ∧ (κ 4 [.ref kP, .int (v1 ||| ((if (fX6_isBusy v2 μ) = 1 then 1 else 0 : Int32) <<< (v2 &&& 31))), .int (v2 + 1)] [] μ))) : κ 4 [.ref kP, .int v1, .int v2] [] μ := by
  have hB := h.b
  refine m2_iload_n hB dX6_busyBits_4 rfl ?_
  refine m2_aload_n hB dX6_busyBits_5 rfl ?_
  refine m2_getI hB dX6_busyBits_6 fl_X6_37 sh_kP rfl ?_
  refine m2_icmp_ge hB dX6_busyBits_9 (tgt := 31) (by decide) (fun q1 : (μ.1 kP 8) ≤ v2 => ?_) (fun q1 : ¬ (μ.1 kP 8) ≤ v2 => ?_)
  · replace k := k.1 q1
    refine m2_iload_n hB dX6_busyBits_31 rfl ?_
    exact m2_iret h dX6_busyBits_32 k
  · replace k := k.2 q1
    refine m2_iload_n hB dX6_busyBits_12 rfl ?_
    refine m2_aload_n hB dX6_busyBits_13 rfl ?_
    refine m2_iload_n hB dX6_busyBits_14 rfl ?_
    obtain ⟨hs2, k⟩ := k
    refine m2_invz hB (as := [.int v2]) dX6_busyBits_15 mv_X6_41 rfl sh_kP rfl (Nat.le_of_ble_eq_true rfl) rfl (P_X6_isBusy (by omega) (v2) _ hs2) (fun y3 μ4 hq5 => ?_)
    obtain ⟨⟨⟩, hq5⟩ := hq5
    subst μ4
    refine m2_invNi hB (as := [.int (if (fX6_isBusy v2 μ) = 1 then 1 else 0 : Int32)]) dX6_busyBits_18 mn_X6_49 rfl (Nat.le_of_ble_eq_true rfl) rfl (P_X11_asNumber (by omega) ((if (fX6_isBusy v2 μ) = 1 then 1 else 0 : Int32)) _ ) (fun y6 μ7 hq8 => ?_)
    obtain ⟨⟨⟩, hq8⟩ := hq8
    subst μ7
    rw [show (if (if (fX6_isBusy v2 μ) = 1 then 1 else 0 : Int32) = 0 then 0 else 1 : Int32) = (if (fX6_isBusy v2 μ) = 1 then 1 else 0 : Int32) from by by_cases zz : (fX6_isBusy v2 μ) = 1 <;> simp [zz]]
    refine m2_iload_n hB dX6_busyBits_21 rfl ?_
    refine m2_ishl hB dX6_busyBits_22 ?_
    refine m2_ior hB dX6_busyBits_23 ?_
    refine m2_istore_n hB (ls' := [.ref kP, .int (v1 ||| ((if (fX6_isBusy v2 μ) = 1 then 1 else 0 : Int32) <<< (v2 &&& 31))), .int v2]) dX6_busyBits_24 rfl (by decide) rfl ?_
    refine m2_iinc hB (ls' := [.ref kP, .int (v1 ||| ((if (fX6_isBusy v2 μ) = 1 then 1 else 0 : Int32) <<< (v2 &&& 31))), .int (v2 + 1)]) (v := (v2 + 1)) dX6_busyBits_25 rfl (by decide) rfl rfl ?_
    refine m2_goto hB dX6_busyBits_28 (tgt := 4) (by decide) ?_
    exact k
